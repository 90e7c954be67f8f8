/-! Reading: one token, both sides. -/
section TOKEN
variable {n p b : Nat} {tx : Nat → Int32} {So Sm S S' So' Sm' : St} {P Q : Nat → Nat → Bool}
/-- a token: its number among the class's, its word -/
def KC (tx : Nat → Int32) (k : Nat) (w : List Nat) (b : Nat) (So Sm : St) : Prop := (k = 0 ∧ rI Sm 500 6 = 0) ∨ (k = 1 ∧ rI Sm 500 6 = 4) ∨ (k = 2 ∧ rI Sm 500 6 = 2 ∧ ∃ j, j < 10000 ∧ rI So 3 4 = nI j ∧ rI Sm 500 8 = nI j) ∨ (k = sgT (tx b) ∧ ¬ k = 1 ∧ rI Sm 500 6 = 3) ∨ (WD w ∧ k = ltT (lN (pk5 w)) ∧ rI Sm 500 6 = 1 ∧ rJ So 3 5 = lN (pk5 w) ∧ rJ Sm 500 7 = lN (p27 0 w))
def TK (n : Nat) (tx : Nat → Int32) (k : Nat) (w : List Nat) (b p : Nat) (So Sm : St) : Prop := TXR n tx So Sm ∧ (rI So 3 2 = nI p ∧ rI Sm 500 4 = nI p) ∧ (rI So 3 3 = nI b ∧ rI Sm 500 5 = nI b) ∧ (b ≤ p ∧ p ≤ n ∧ (k ≠ 0 → b < p)) ∧ rQ So 3 6 = some (1000 + k) ∧ KC tx k w b So Sm
theorem sgT_lt (x : Int32) : sgT x < 42 ∧ (sgT x = 1 ∨ sgT x = 4 ∨ sgT x = 5 ∨ sgT x = 6 ∨ (10 ≤ sgT x ∧ sgT x ≤ 14)) := by
  unfold sgT
  repeat' split
  all_goals decide
theorem iteB {f : Nat → Bool} {c : Prop} [Decidable c] {a b : Nat} (ha : f a = true) (hb : f b = true) : f (if c then a else b) = true := by
  by_cases h : c
  · rw [if_pos h]
    exact ha
  · rw [if_neg h]
    exact hb
def ltP (k : Nat) : Bool := decide (k < 42) && (decide (k = 3) || (decide (7 ≤ k) && decide (k ≤ 9)) || decide (15 ≤ k))
theorem ltT_P (x : Int64) : ltP (ltT x) = true := by
  unfold ltT
  iterate 30 refine iteB (f := ltP) (by decide) ?_
  decide
theorem ltT_lt (x : Int64) : ltT x < 42 ∧ (ltT x = 3 ∨ (7 ≤ ltT x ∧ ltT x ≤ 9) ∨ 15 ≤ ltT x) := by
  have h := ltT_P x
  unfold ltP at h
  generalize ltT x = k at h ⊢
  simp at h
  omega
theorem TK.lt {k : Nat} {w : List Nat} (h : TK n tx k w b p So Sm) : k < 42 := by
  rcases h.2.2.2.2.2 with ⟨rfl, _⟩ | ⟨rfl, _⟩ | ⟨rfl, _⟩ | ⟨e, _⟩ | ⟨_, e, _⟩
  · decide
  · decide
  · decide
  · rw [e]
    exact (sgT_lt _).1
  · rw [e]
    exact (ltT_lt _).1
theorem sg_3 (x : Int32) (S : St) : m_nextToken_322 x S = some ((), wI (wI S 500 4 (rI S 500 4 + 1)) 500 6 (if sgT x = 1 then 4 else 3)) := by
  unfold m_nextToken_322 m_nextToken_345 m_nextToken_363 m_nextToken_367 m_nextToken_368
  simp only [ltq]
  by_cases h1 : x = 40
  · subst h1; rw [if_neg (by decide), if_neg (by decide), if_neg (by decide)]
  by_cases h2 : x = 41
  · subst h2; rw [if_neg (by decide), if_neg (by decide), if_neg (by decide)]
  by_cases h3 : x = 42
  · subst h3; rw [if_neg (by decide), if_neg (by decide), if_neg (by decide)]
  by_cases h4 : x = 43
  · subst h4; rw [if_neg (by decide), if_neg (by decide), if_neg (by decide)]
  by_cases h5 : x = 45
  · subst h5; rw [if_neg (by decide), if_pos (by decide), if_pos (by decide), if_neg (by decide)]
  by_cases h6 : x = 59
  · subst h6; rw [if_neg (by decide), if_pos (by decide), if_neg (by decide), if_neg (by decide), if_neg (by decide), if_neg (by decide)]
  by_cases h7 : x = 60
  · subst h7; rw [if_neg (by decide), if_pos (by decide), if_neg (by decide), if_neg (by decide), if_neg (by decide), if_neg (by decide)]
  by_cases h8 : x = 61
  · subst h8; rw [if_neg (by decide), if_pos (by decide), if_neg (by decide), if_neg (by decide), if_neg (by decide), if_neg (by decide)]
  have e : sgT x = 1 := by
    unfold sgT
    rw [if_neg h1, if_neg h2, if_neg h6, if_neg h7, if_neg h8, if_neg h4, if_neg h5, if_neg h3]
  rw [if_neg h5, if_pos e]
  have q2 : ∀ a c : Nat, (a = 59 ∧ c = 61) ∨ (a = 40 ∧ c = 43) → ¬ x < nI a → ¬ nI c < x → False := fun a c hac g1 g2 => by
    obtain ⟨j, j1, j2, j3⟩ := bnd_of (a := a) (c := c) rfl rfl (by omega) (by omega) g1 g2
    have hj : j = 40 ∨ j = 41 ∨ j = 42 ∨ j = 43 ∨ j = 59 ∨ j = 60 ∨ j = 61 := by omega
    rcases hj with rfl | rfl | rfl | rfl | rfl | rfl | rfl
    · exact h1 j3
    · exact h2 j3
    · exact h3 j3
    · exact h4 j3
    · exact h6 j3
    · exact h7 j3
    · exact h8 j3
  have e345 : ∀ r : Re Unit, (if x < 59 then r else if (61 : Int32) < x then r else some ((), wI (wI S 500 4 (rI S 500 4 + 1)) 500 6 3)) = r := fun r => by
    by_cases g1 : x < 59
    · rw [if_pos g1]
    · by_cases g2 : (61 : Int32) < x
      · rw [if_neg g1, if_pos g2]
      · exact absurd g2 fun _ => q2 59 61 (Or.inl ⟨rfl, rfl⟩) g1 g2
  rw [e345]
  by_cases g1 : x < 40
  · rw [if_pos g1]
  · by_cases g2 : (43 : Int32) < x
    · rw [if_neg g1, if_pos g2]
    · exact absurd g2 fun _ => q2 40 43 (Or.inr ⟨rfl, rfl⟩) g1 g2
theorem tok_ok (h : TXR n tx So Sm) (hp : rI So 3 2 = nI p) (hp' : rI Sm 500 4 = nI p) (hpn : p ≤ n) : ∃ k w p' So' Sm', o_tp_step_58 So = some ((), So') ∧ m_nextToken_52 Sm = some ((), Sm') ∧ TK n tx k w p p' So' Sm' ∧ Fr fTo So So' ∧ Fr fTm Sm Sm' := by
  have hn := h.1
  have fo : Fr fTo So (wJ (wI (wI So 3 3 (nI p)) 3 4 0) 3 5 0) := ((Fr.wI rfl).tr (Fr.wI rfl)).tr (Fr.wJ rfl)
  have fm : Fr fTm Sm (wI (wJ (wI Sm 500 5 (nI p)) 500 7 0) 500 8 0) := ((Fr.wI rfl).tr (Fr.wJ rfl)).tr (Fr.wI rfl)
  have eo : o_tp_step_58 So = o_tp_step_58 So := rfl
  unfold o_tp_step_58 m_nextToken_52 o_tp_step_164
  rw [hp, hp', ltq (wI So 3 3 _), ltq (wI (wI So 3 3 _) 3 4 0), ltq (wJ (wI (wI So 3 3 _) 3 4 0) 3 5 0), ltq (wI Sm 500 5 _), ltq (wJ (wI Sm 500 5 _) 500 7 0), ltq (wI (wJ (wI Sm 500 5 _) 500 7 0) 500 8 0)]
  have h2 := h.t fo fm
  have a2 : rI (wJ (wI (wI So 3 3 (nI p)) 3 4 0) 3 5 0) 3 2 = nI p := by rw [rI_wJ, rI_wI_k (by decide), rI_wI_k (by decide), hp]
  have a3 : rI (wJ (wI (wI So 3 3 (nI p)) 3 4 0) 3 5 0) 3 3 = nI p := by rw [rI_wJ, rI_wI_k (by decide), rI_wI]
  have a4 : rI (wJ (wI (wI So 3 3 (nI p)) 3 4 0) 3 5 0) 3 4 = 0 := by rw [rI_wJ, rI_wI]
  have a5 : rJ (wJ (wI (wI So 3 3 (nI p)) 3 4 0) 3 5 0) 3 5 = 0 := rJ_wJ
  have c4' : rI (wI (wJ (wI Sm 500 5 (nI p)) 500 7 0) 500 8 0) 500 4 = nI p := by rw [rI_wI_k (by decide), rI_wJ, rI_wI_k (by decide), hp']
  have c5' : rI (wI (wJ (wI Sm 500 5 (nI p)) 500 7 0) 500 8 0) 500 5 = nI p := by rw [rI_wI_k (by decide), rI_wJ, rI_wI]
  have c7' : rJ (wI (wJ (wI Sm 500 5 (nI p)) 500 7 0) 500 8 0) 500 7 = 0 := by rw [rJ_wI, rJ_wJ]
  have c8' : rI (wI (wJ (wI Sm 500 5 (nI p)) 500 7 0) 500 8 0) 500 8 = 0 := rI_wI
  generalize wJ (wI (wI So 3 3 (nI p)) 3 4 0) 3 5 0 = So1 at *
  generalize wI (wJ (wI Sm 500 5 (nI p)) 500 7 0) 500 8 0 = Sm1 at *
  rw [a2, h2.2.1, c4', h2.2.2.1]
  by_cases qn : p = n
  · rw [if_neg (nI_nlt (by omega) (by omega)), if_pos (by rw [qn]), ltq (wQ So1 3 6 _), ltq (wI Sm1 500 6 0)]
    have fo1 : Fr fTo So1 (wQ So1 3 6 (some 1000)) := Fr.wQ rfl
    have fm1 : Fr fTm Sm1 (wI Sm1 500 6 0) := Fr.wI rfl
    exact ⟨0, [], p, _, _, rfl, rfl, ⟨h2.t fo1 fm1, ⟨a2, by rw [rI_wI_k (by decide)]; exact c4'⟩, ⟨a3, by rw [rI_wI_k (by decide)]; exact c5'⟩, ⟨Nat.le_refl _, hpn, fun q => absurd rfl q⟩, rQ_wQ, Or.inl ⟨rfl, rI_wI⟩⟩, fo.tr fo1, fm.tr fm1⟩
  · have hpl : p < n := by omega
    have es : sgn n tx p = tx p := if_pos hpl
    rw [if_pos (nI_lt hpl (by omega)), if_neg (nI_ne qn (by omega) (by omega)), o_sg h2 (by omega), bnq, o_ltr, bnq, es, if_neg (nI_in (by omega) (by omega)), nI_clamp (by omega), (h2.2.2.2 p hpl).2, ltq (tx p)]
    cases ql : ltr (tx p) with
    | true =>
      rw [if_neg bT]
      have hl := ql
      unfold ltr at hl
      rw [Bool.and_eq_true, Bool.not_eq_true', Bool.not_eq_true', decide_eq_false_iff_not, decide_eq_false_iff_not] at hl
      obtain ⟨S2, e1, e2, e3⟩ := o_wl h2 (n - p) p FU So1 Fr.rf a2 (by omega) (by unfold FU; omega)
      obtain ⟨M2, g1, g2, g3, g4⟩ := m_wl h2 (b := p) (n - p) p FU Sm1 Fr.rf c4' c5' (Nat.le_refl _) (by omega) (by unfold FU; omega) (by rw [c7', Nat.sub_self, Nat.min_eq_left (by omega)]; rfl)
      have hle := wend_le (n := n) (tx := tx) ltr (n - p) p
      have hall := wend_all (n := n) (tx := tx) ltr (n - p) p
      have hgt : p < wend ltr n tx (n - p) p := by
        rw [show n - p = (n - p - 1) + 1 by omega, wend, es, ql, cond_true]
        have := wend_le (n := n) (tx := tx) ltr (n - p - 1) (p + 1)
        omega
      generalize wend ltr n tx (n - p) p = e at e2 g2 g3 hle hall hgt
      have hall2 : ∀ i, p ≤ i → i < e → ltr (tx i) = true := fun i i1 i2 => by
        have := hall i i1 i2
        rw [← (ltr_in this).2]
        exact this
      have fo2 : Fr fTo So1 S2 := e3.mo fun a k q => by
        unfold fTo at q
        simp at q ⊢
        omega
      have fm2 : Fr fTm Sm1 M2 := g4.mo fun a k q => by
        unfold fTm at q
        simp at q ⊢
        omega
      have b3 : rI S2 3 3 = nI p := (e3.i (by rfl)).trans a3
      have d5 : rI M2 500 5 = nI p := (g4.i (by rfl)).trans c5'
      unfold o_tp_readWord
      rw [if_neg hl.1, if_neg hl.2, e1, g1]
      unfold o_tp_readWord_38 m_nextToken_188 m_nextToken_208
      rw [e2, g2, b3, d5, nI_sub (by omega)]
      by_cases q8 : e - p ≤ 8
      · have hok : ∀ x ∈ wlx tx p (e - p), 1 ≤ x ∧ x ≤ 26 := wl_ok p _ fun k hk => hall2 _ (by omega) (by omega)
        have hwd : WD (wlx tx p (e - p)) := ⟨fun q => by have := wl_len (tx := tx) p (e - p); rw [q] at this; have : 0 = e - p := this; omega, by rw [wl_len]; exact q8, hok⟩
        obtain ⟨S3, r1, r2, r3⟩ := o_pack h2 (b := p) (e := e) (by omega) hall2 q8 (e - p) e FU S2 fo2 b3 (by omega) (Nat.le_refl _) (by unfold FU; omega) (by rw [e3.j (by rfl), a5, Nat.sub_self]; rfl)
        have fo3 : Fr fTo S2 (wQ S3 3 6 (some (1000 + ltT (lN (pk5 (wlx tx p (e - p))))))) := (r3.mo fun a k q => by
          unfold fTo at q
          simp at q ⊢
          omega).tr (Fr.wQ rfl)
        have fm3 : Fr fTm M2 (wI M2 500 6 1) := Fr.wI rfl
        refine ⟨ltT (lN (pk5 (wlx tx p (e - p)))), wlx tx p (e - p), e, wQ S3 3 6 (some (1000 + ltT (lN (pk5 (wlx tx p (e - p)))))), wI M2 500 6 1, ?_, ?_, ⟨h2.t (fo2.tr fo3) (fm2.tr fm3), ⟨?_, ?_⟩, ⟨?_, ?_⟩, ⟨by omega, by omega, fun _ => hgt⟩, rQ_wQ, Or.inr (Or.inr (Or.inr (Or.inr ⟨hwd, rfl, rI_wI, ?_, ?_⟩)))⟩, fo.tr (fo2.tr fo3), fm.tr (fm2.tr fm3)⟩
        · rw [if_neg (show ¬ (8 : Int32) < nI (e - p) from nI_nlt (a := 8) q8 (by decide)), ltq, (show o_tp_readWord_67 FU (nI e - 1) S2 = _ from r1)]
          unfold o_tp_readWord_97 o_tk_ofLetters
          rw [bnq, r2, ltq, bnq]
        · rw [if_neg (show ¬ (8 : Int32) < nI (e - p) from nI_nlt (a := 8) q8 (by decide)), ltq]
        · show rI S3 3 2 = nI e
          exact (r3.i (by rfl)).trans e2
        · rw [rI_wI_k (by decide)]
          exact g2
        · show rI S3 3 3 = nI p
          exact (r3.i (by rfl)).trans b3
        · rw [rI_wI_k (by decide)]
          exact d5
        · show rJ S3 3 5 = _
          exact r2
        · rw [rJ_wI, g3, Nat.min_eq_left q8]
      · have fo3 : Fr fTo S2 (wQ S2 3 6 (some 1001)) := Fr.wQ rfl
        have fm3 : Fr fTm M2 (wI M2 500 6 4) := Fr.wI rfl
        refine ⟨1, [], e, wQ S2 3 6 (some 1001), wI M2 500 6 4, ?_, ?_, ⟨h2.t (fo2.tr fo3) (fm2.tr fm3), ⟨e2, ?_⟩, ⟨b3, ?_⟩, ⟨by omega, by omega, fun _ => hgt⟩, rQ_wQ, Or.inr (Or.inl ⟨rfl, rI_wI⟩)⟩, fo.tr (fo2.tr fo3), fm.tr (fm2.tr fm3)⟩
        · rw [if_pos (show (8 : Int32) < nI (e - p) from nI_lt (a := 8) (by omega) (by omega)), ltq, bnq]
        · rw [if_pos (show (8 : Int32) < nI (e - p) from nI_lt (a := 8) (by omega) (by omega)), ltq]
        · rw [rI_wI_k (by decide)]
          exact g2
        · rw [rI_wI_k (by decide)]
          exact d5
    | false =>
      rw [if_pos bF, a2, o_sg h2 (by omega), bnq, o_dgt, bnq, es]
      have e212 : (if tx p < 97 then m_nextToken_212 (tx p) Sm1 else if (122 : Int32) < tx p then m_nextToken_212 (tx p) Sm1 else m_nextToken_109 FU Sm1) = m_nextToken_212 (tx p) Sm1 := by
        by_cases q1 : tx p < 97
        · rw [if_pos q1]
        · by_cases q2 : (122 : Int32) < tx p
          · rw [if_neg q1, if_pos q2]
          · exfalso
            unfold ltr at ql
            rw [decide_eq_false q1, decide_eq_false q2] at ql
            cases ql
      rw [e212]
      unfold m_nextToken_212
      cases qd : dgx (tx p) with
      | true =>
        rw [if_neg bT]
        have hl := qd
        unfold dgx at hl
        rw [Bool.and_eq_true, Bool.not_eq_true', Bool.not_eq_true', decide_eq_false_iff_not, decide_eq_false_iff_not] at hl
        obtain ⟨S2, e1, e2, e3⟩ := o_nl h2 (n - p) p FU So1 Fr.rf a2 (by omega) (by unfold FU; omega)
        obtain ⟨M2, g1, g2, g3, g4⟩ := m_nl h2 (b := p) (n - p) p FU Sm1 Fr.rf c4' c5' (Nat.le_refl _) (by omega) (by unfold FU; omega) (by rw [c8', Nat.sub_self, Nat.min_eq_left (by omega)]; rfl)
        have hle := wend_le (n := n) (tx := tx) dgx (n - p) p
        have hall := wend_all (n := n) (tx := tx) dgx (n - p) p
        have hgt : p < wend dgx n tx (n - p) p := by
          rw [show n - p = (n - p - 1) + 1 by omega, wend, es, qd, cond_true]
          have := wend_le (n := n) (tx := tx) dgx (n - p - 1) (p + 1)
          omega
        generalize wend dgx n tx (n - p) p = e at e2 g2 g3 hle hall hgt
        have hall2 : ∀ i, p ≤ i → i < e → dgx (tx i) = true := fun i i1 i2 => by
          have := hall i i1 i2
          rw [← (dgt_in this).2]
          exact this
        have fo2 : Fr fTo So1 S2 := e3.mo fun a k q => by
          unfold fTo at q
          simp at q ⊢
          omega
        have fm2 : Fr fTm Sm1 M2 := g4.mo fun a k q => by
          unfold fTm at q
          simp at q ⊢
          omega
        have b3 : rI S2 3 3 = nI p := (e3.i (by rfl)).trans a3
        have d5 : rI M2 500 5 = nI p := (g4.i (by rfl)).trans c5'
        unfold o_tp_readNumber
        rw [if_neg hl.1, if_neg hl.2, e1, g1]
        unfold o_tp_readNumber_38 m_nextToken_299 m_nextToken_318
        rw [e2, g2, b3, d5, nI_sub (by omega)]
        by_cases q4 : e - p ≤ 4
        · obtain ⟨S3, r1, r2, r3⟩ := o_num h2 (b := p) (e := e) (by omega) (e - p) p FU S2 fo2 e2 (Nat.le_refl _) (by omega) (by unfold FU; omega) (by rw [e3.i (by rfl), a4, Nat.sub_self]; rfl)
          obtain ⟨j, j1, j2⟩ := dv_ok (tx := tx) p (e - p) fun i hi => hall2 _ (by omega) (by omega)
          have j3 : j < 10000 := Nat.lt_of_lt_of_le j1 (Nat.le_trans (Nat.pow_le_pow_right (by decide) q4) (by decide))
          have fo3 : Fr fTo S2 (wQ S3 3 6 (some 1002)) := (r3.mo fun a k q => by
            unfold fTo at q
            simp at q ⊢
            omega).tr (Fr.wQ rfl)
          have fm3 : Fr fTm M2 (wI M2 500 6 2) := Fr.wI rfl
          refine ⟨2, [], e, wQ S3 3 6 (some 1002), wI M2 500 6 2, ?_, ?_, ⟨h2.t (fo2.tr fo3) (fm2.tr fm3), ⟨?_, ?_⟩, ⟨?_, ?_⟩, ⟨by omega, by omega, fun _ => hgt⟩, rQ_wQ, Or.inr (Or.inr (Or.inl ⟨rfl, rI_wI, j, j3, ?_, ?_⟩))⟩, fo.tr (fo2.tr fo3), fm.tr (fm2.tr fm3)⟩
          · rw [if_neg (show ¬ (4 : Int32) < nI (e - p) from nI_nlt (a := 4) q4 (by decide)), ltq, r1]
            unfold o_tp_readNumber_98
            rw [ltq, bnq]
          · rw [if_neg (show ¬ (4 : Int32) < nI (e - p) from nI_nlt (a := 4) q4 (by decide)), ltq]
          · show rI S3 3 2 = nI e
            exact (r3.i (by rfl)).trans e2
          · rw [rI_wI_k (by decide)]
            exact g2
          · show rI S3 3 3 = nI p
            exact (r3.i (by rfl)).trans b3
          · rw [rI_wI_k (by decide)]
            exact d5
          · show rI S3 3 4 = _
            rw [r2, j2]
          · rw [rI_wI_k (by decide), g3, Nat.min_eq_left q4, j2]
        · have fo3 : Fr fTo S2 (wQ S2 3 6 (some 1001)) := Fr.wQ rfl
          have fm3 : Fr fTm M2 (wI M2 500 6 4) := Fr.wI rfl
          refine ⟨1, [], e, wQ S2 3 6 (some 1001), wI M2 500 6 4, ?_, ?_, ⟨h2.t (fo2.tr fo3) (fm2.tr fm3), ⟨e2, ?_⟩, ⟨b3, ?_⟩, ⟨by omega, by omega, fun _ => hgt⟩, rQ_wQ, Or.inr (Or.inl ⟨rfl, rI_wI⟩)⟩, fo.tr (fo2.tr fo3), fm.tr (fm2.tr fm3)⟩
          · rw [if_pos (show (4 : Int32) < nI (e - p) from nI_lt (a := 4) (by omega) (by omega)), ltq, bnq]
          · rw [if_pos (show (4 : Int32) < nI (e - p) from nI_lt (a := 4) (by omega) (by omega)), ltq]
          · rw [rI_wI_k (by decide)]
            exact g2
          · rw [rI_wI_k (by decide)]
            exact d5
      | false =>
        have e322 : (if tx p < 48 then m_nextToken_322 (tx p) Sm1 else if (57 : Int32) < tx p then m_nextToken_322 (tx p) Sm1 else m_nextToken_224 FU Sm1) = m_nextToken_322 (tx p) Sm1 := by
          by_cases q1 : tx p < 48
          · rw [if_pos q1]
          · by_cases q2 : (57 : Int32) < tx p
            · rw [if_neg q1, if_pos q2]
            · exfalso
              unfold dgx at qd
              rw [decide_eq_false q1, decide_eq_false q2] at qd
              cases qd
        rw [if_pos bF, e322, a2, o_sg h2 (by omega), bnq, es, sg_3]
        unfold o_tk_ofSign
        rw [bnq, ltq (wQ So1 3 6 _), (show rI (wQ So1 3 6 (some (1000 + sgT (tx p)))) 3 2 = nI p from a2), nI_1, ltq (wI (wQ So1 3 6 _) 3 2 _), c4', nI_1]
        have fo1 : Fr fTo So1 (wI (wQ So1 3 6 (some (1000 + sgT (tx p)))) 3 2 (nI (p + 1))) := (Fr.wQ rfl).tr (Fr.wI rfl)
        have fm1 : Fr fTm Sm1 (wI (wI Sm1 500 4 (nI (p + 1))) 500 6 (if sgT (tx p) = 1 then 4 else 3)) := (Fr.wI rfl).tr (Fr.wI rfl)
        refine ⟨sgT (tx p), [], p + 1, _, _, rfl, rfl, ⟨h2.t fo1 fm1, ⟨rI_wI, by rw [rI_wI_k (by decide), rI_wI]⟩, ⟨by rw [rI_wI_k (by decide)]; exact a3, by rw [rI_wI_k (by decide), rI_wI_k (by decide)]; exact c5'⟩, ⟨by omega, by omega, fun _ => by omega⟩, rQ_wQ, ?_⟩, fo.tr fo1, fm.tr fm1⟩
        by_cases q1 : sgT (tx p) = 1
        · refine Or.inr (Or.inl ⟨q1, ?_⟩)
          rw [rI_wI, if_pos q1]
        · refine Or.inr (Or.inr (Or.inr (Or.inl ⟨rfl, q1, ?_⟩)))
          rw [rI_wI, if_neg q1]
/-- the next token, on both sides -/
theorem nx_ok (h : TXR n tx So Sm) (hf : rI So 3 7 = 0) (hp : rI So 3 2 = nI p) (hp' : rI Sm 500 4 = nI p) (hpn : p ≤ n) : ∃ k w b p' So' Sm', o_tp_step So = some ((), So') ∧ m_nextToken Sm = some ((), Sm') ∧ TK n tx k w b p' So' Sm' ∧ p ≤ b ∧ Fr fTo So So' ∧ Fr fTm Sm Sm' := by
  have hn := h.1
  obtain ⟨b, S1, M1, a1, a2, a3, a4, a5, a6, a7, a8⟩ := bl_loop (n - p) p FU FU So Sm h hp hp' (by omega) (by unfold FU; omega) (by unfold FU; omega)
  obtain ⟨k, w, p', So', Sm', e1, e2, e3, e4, e5⟩ := tok_ok (h.t a7 a8) a3 a4 a6
  refine ⟨k, w, b, p', So', Sm', ?_, ?_, e3, a5, a7.tr e4, a8.tr e5⟩
  · unfold o_tp_step
    rw [if_pos hf, a1]
    exact e1
  · unfold m_nextToken
    rw [a2]
    exact e2
end TOKEN
