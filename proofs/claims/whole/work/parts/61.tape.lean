/-! Reading: tokens, both sides. -/
section TAPE
variable {n p b : Nat} {tx : Nat → Int32} {So Sm S S' So' Sm' : St} {P Q : Nat → Nat → Bool}
def fTo : Nat → Nat → Bool := fun a k => a == 3 && (decide (2 ≤ k) && decide (k ≤ 6))
def fTm : Nat → Nat → Bool := fun a k => a == 500 && (decide (4 ≤ k) && decide (k ≤ 8))
theorem fTo_n {a k : Nat} (h : a ≠ 3 ∨ k < 2 ∨ 6 < k) : fTo a k = false := by
  unfold fTo
  simp
  omega
theorem fTm_n {a k : Nat} (h : a ≠ 500 ∨ k < 4 ∨ 8 < k) : fTm a k = false := by
  unfold fTm
  simp
  omega
/-- the text that is read -/
def TXR (n : Nat) (tx : Nat → Int32) (So Sm : St) : Prop := n ≤ 1000 ∧ rI So 3 1 = nI n ∧ rI Sm 500 3 = nI n ∧ ∀ k, k < n → rI So 4 k = tx k ∧ rI Sm 501 k = tx k
theorem TXR.fr (h : TXR n tx So Sm) (fo : Fr P So So') (fm : Fr Q Sm Sm') (h1 : P 3 1 = false) (h2 : ∀ k, P 4 k = false) (h3 : Q 500 3 = false) (h4 : ∀ k, Q 501 k = false) : TXR n tx So' Sm' := ⟨h.1, (fo.i h1).trans h.2.1, (fm.i h3).trans h.2.2.1, fun k hk => ⟨(fo.i (h2 _)).trans (h.2.2.2 k hk).1, (fm.i (h4 _)).trans (h.2.2.2 k hk).2⟩⟩
theorem TXR.t (h : TXR n tx So Sm) (fo : Fr fTo So So') (fm : Fr fTm Sm Sm') : TXR n tx So' Sm' := h.fr fo fm rfl (fun k => rfl) rfl (fun k => rfl)
def sgn (n : Nat) (tx : Nat → Int32) (k : Nat) : Int32 := if k < n then tx k else 0
theorem o_sg (h : TXR n tx So Sm) {k : Nat} (hk : k < 2 ^ 31) : o_tp_signAt (nI k) So = some (sgn n tx k, So) := by
  have hn := h.1
  unfold o_tp_signAt o_tp_signAt_30 o_tp_signAt_31 sgn
  rw [if_neg (nI_pos hk), h.2.1]
  by_cases q : k < n
  · rw [if_pos (nI_lt q (by omega)), if_pos (show nI k < 1000 from nI_lt (b := 1000) (by omega) (by decide)), if_neg (nI_in (by omega) (by omega)), nI_clamp hk, (h.2.2.2 k q).1, if_pos q]
  · rw [if_neg (nI_nlt (by omega) hk), if_neg q]
theorem m_sg (h : TXR n tx So Sm) {k : Nat} (hk : k < 2 ^ 31) : m_signAt (nI k) Sm = some (sgn n tx k, Sm) := by
  have hn := h.1
  unfold m_signAt m_signAt_18 sgn
  rw [h.2.2.1]
  by_cases q : k < n
  · rw [if_pos (nI_lt q (by omega)), if_neg (nI_in (by omega) (by omega)), nI_clamp hk, (h.2.2.2 k q).2, if_pos q]
  · rw [if_neg (nI_nlt (by omega) hk), if_neg q]
def ltr (x : Int32) : Bool := !decide (x < 97) && !decide ((122 : Int32) < x)
def dgx (x : Int32) : Bool := !decide (x < 48) && !decide ((57 : Int32) < x)
theorem o_ltr (x : Int32) (S : St) : o_tp_isLetter x S = some (bI (ltr x), S) := by
  unfold o_tp_isLetter o_tp_isLetter_16 o_tp_isLetter_17 ltr
  by_cases q : x < 97
  · rw [if_pos q, if_pos b0, decide_eq_true q]
    rfl
  · by_cases q2 : (122 : Int32) < x
    · rw [if_neg q, if_pos q2, if_pos b0, decide_eq_true q2, decide_eq_false q]
      rfl
    · rw [if_neg q, if_neg q2, if_pos b1, decide_eq_false q2, decide_eq_false q]
      rfl
theorem o_dgt (x : Int32) (S : St) : o_tp_isDigit x S = some (bI (dgx x), S) := by
  unfold o_tp_isDigit o_tp_isDigit_16 o_tp_isDigit_17 dgx
  by_cases q : x < 48
  · rw [if_pos q, if_pos b0, decide_eq_true q]
    rfl
  · by_cases q2 : (57 : Int32) < x
    · rw [if_neg q, if_pos q2, if_pos b0, decide_eq_true q2, decide_eq_false q]
      rfl
    · rw [if_neg q, if_neg q2, if_pos b1, decide_eq_false q2, decide_eq_false q]
      rfl
theorem ltr_in {k : Nat} (h : ltr (sgn n tx k) = true) : k < n ∧ sgn n tx k = tx k := by
  unfold sgn at h ⊢
  by_cases q : k < n
  · exact ⟨q, if_pos q⟩
  · rw [if_neg q] at h
    cases h
theorem dgt_in {k : Nat} (h : dgx (sgn n tx k) = true) : k < n ∧ sgn n tx k = tx k := by
  unfold sgn at h ⊢
  by_cases q : k < n
  · exact ⟨q, if_pos q⟩
  · rw [if_neg q] at h
    cases h
theorem bnd_of {x lo' hi' : Int32} {a c : Nat} (hlo : lo' = nI a) (hhi : hi' = nI c) (hc : c < 2 ^ 31) (hac : a ≤ c) (h1 : ¬ x < lo') (h2 : ¬ hi' < x) : ∃ j, a ≤ j ∧ j ≤ c ∧ x = nI j := by
  subst hlo hhi
  rw [Int32.lt_iff_toInt_lt, nI_toInt (by omega)] at h1
  rw [Int32.lt_iff_toInt_lt, nI_toInt hc] at h2
  refine ⟨x.toInt.toNat, by omega, by omega, ?_⟩
  apply Int32.toInt_inj.mp
  rw [nI_toInt (by omega)]
  omega
theorem ltr_of {x : Int32} (h : ltr x = true) : ∃ c, 1 ≤ c ∧ c ≤ 26 ∧ x = nI (96 + c) := by
  unfold ltr at h
  rw [Bool.and_eq_true, Bool.not_eq_true', Bool.not_eq_true', decide_eq_false_iff_not, decide_eq_false_iff_not] at h
  obtain ⟨j, h1, h2, h3⟩ := bnd_of (a := 97) (c := 122) rfl rfl (by decide) (by decide) h.1 h.2
  exact ⟨j - 96, by omega, by omega, by rw [h3, show 96 + (j - 96) = j by omega]⟩
theorem dgt_of {x : Int32} (h : dgx x = true) : ∃ c, c ≤ 9 ∧ x = nI (48 + c) := by
  unfold dgx at h
  rw [Bool.and_eq_true, Bool.not_eq_true', Bool.not_eq_true', decide_eq_false_iff_not, decide_eq_false_iff_not] at h
  obtain ⟨j, h1, h2, h3⟩ := bnd_of (a := 48) (c := 57) rfl rfl (by decide) (by decide) h.1 h.2
  exact ⟨j - 48, by omega, by rw [h3, show 48 + (j - 48) = j by omega]⟩
/-- blanks are passed over -/
theorem bl_loop : ∀ (c p m m' : Nat) (So Sm : St), TXR n tx So Sm → rI So 3 2 = nI p → rI Sm 500 4 = nI p → p + c = n → c < m → c < m' → ∃ p' So' Sm', o_tp_step_8 m So = o_tp_step_58 So' ∧ m_nextToken_0 m' Sm = m_nextToken_52 Sm' ∧ rI So' 3 2 = nI p' ∧ rI Sm' 500 4 = nI p' ∧ p ≤ p' ∧ p' ≤ n ∧ Fr fTo So So' ∧ Fr fTm Sm Sm'
  | 0, p, m, m', So, Sm, h, hp, hp', hc, hm, hm' => by
    obtain ⟨m, rfl, hm⟩ := fuel hm
    obtain ⟨m', rfl, hm'⟩ := fuel hm'
    have hn := h.1
    refine ⟨p, So, Sm, ?_, ?_, hp, hp', Nat.le_refl _, by omega, Fr.rf, Fr.rf⟩
    · rw [o_tp_step_8, hp, h.2.1, if_neg (nI_nlt (by omega) (by omega))]
    · rw [m_nextToken_0, hp', h.2.2.1, if_neg (nI_nlt (by omega) (by omega))]
  | c + 1, p, m, m', So, Sm, h, hp, hp', hc, hm, hm' => by
    obtain ⟨m, rfl, hm⟩ := fuel hm
    obtain ⟨m', rfl, hm'⟩ := fuel hm'
    have hn := h.1
    have hpn : p < n := by omega
    have es : sgn n tx p = tx p := if_pos hpn
    have fo : Fr fTo So (wI So 3 2 (nI (p + 1))) := Fr.wI rfl
    have fm : Fr fTm Sm (wI Sm 500 4 (nI (p + 1))) := Fr.wI rfl
    have eo : o_tp_step_8 (m + 1) So = if tx p = 10 ∨ tx p = 32 then o_tp_step_8 m (wI So 3 2 (nI (p + 1))) else o_tp_step_58 So := by
      rw [o_tp_step_8, hp, h.2.1, if_pos (nI_lt hpn (by omega)), o_sg h (by omega), bnq, es]
      unfold o_tp_step_45
      by_cases q : tx p = 10
      · rw [if_pos q, if_pos (Or.inl q), hp, nI_1, ltq]
      · rw [if_neg q, hp, o_sg h (by omega), bnq, es]
        by_cases q2 : tx p = 32
        · rw [if_pos q2, if_pos (Or.inr q2), hp, nI_1, ltq]
        · rw [if_neg q2, if_neg (by rintro (c | c); exact q c; exact q2 c)]
    have em : m_nextToken_0 (m' + 1) Sm = if tx p = 10 ∨ tx p = 32 then m_nextToken_0 m' (wI Sm 500 4 (nI (p + 1))) else m_nextToken_52 Sm := by
      rw [m_nextToken_0, hp', h.2.2.1, if_pos (nI_lt hpn (by omega)), if_neg (nI_in (by omega) (by omega)), nI_clamp (by omega), (h.2.2.2 p hpn).2]
      unfold m_nextToken_39
      by_cases q2 : tx p = 32
      · rw [if_pos q2, if_pos (Or.inr q2), hp', nI_1, ltq]
      · rw [if_neg q2, if_neg (nI_inC (by omega) (by omega))]
        by_cases q : tx p = 10
        · rw [if_pos q, if_pos (Or.inl q), hp', nI_1, ltq]
        · rw [if_neg q, if_neg (by rintro (c | c); exact q c; exact q2 c)]
    rw [eo, em]
    by_cases q : tx p = 10 ∨ tx p = 32
    · rw [if_pos q, if_pos q]
      obtain ⟨p', So', Sm', r1, r2, r3, r4, r5, r6, r7, r8⟩ := bl_loop c (p + 1) m m' _ _ (h.t fo fm) rI_wI rI_wI (by omega) (by omega) (by omega)
      exact ⟨p', So', Sm', r1, r2, r3, r4, by omega, r6, fo.tr r7, fm.tr r8⟩
    · rw [if_neg q, if_neg q]
      exact ⟨p, So, Sm, rfl, rfl, hp, hp', Nat.le_refl _, by omega, Fr.rf, Fr.rf⟩
/-- where the signs of a kind end -/
def wend (f : Int32 → Bool) (n : Nat) (tx : Nat → Int32) : Nat → Nat → Nat
  | 0, p => p
  | c + 1, p => bif f (sgn n tx p) then wend f n tx c (p + 1) else p
theorem wend_le (f : Int32 → Bool) : ∀ c p, p ≤ wend f n tx c p ∧ wend f n tx c p ≤ p + c
  | 0, p => ⟨Nat.le_refl _, Nat.le_refl _⟩
  | c + 1, p => by
    have ih := wend_le f c (p + 1)
    rw [wend]
    cases f (sgn n tx p) with
    | true => rw [cond_true]; omega
    | false => rw [cond_false]; omega
theorem wend_all (f : Int32 → Bool) : ∀ c p i, p ≤ i → i < wend f n tx c p → f (sgn n tx i) = true
  | 0, p, i, h1, h2 => by
    rw [wend] at h2
    omega
  | c + 1, p, i, h1, h2 => by
    rw [wend] at h2
    cases q : f (sgn n tx p) with
    | true =>
      rw [q, cond_true] at h2
      by_cases e : i = p
      · rw [e]
        exact q
      · exact wend_all f c (p + 1) i (by omega) h2
    | false =>
      rw [q, cond_false] at h2
      omega
theorem o_wl (h : TXR n tx So Sm) : ∀ (c p m : Nat) (S : St), Fr fTo So S → rI S 3 2 = nI p → p + c = n → c < m → ∃ S', o_tp_readWord_0 m S = o_tp_readWord_38 S' ∧ rI S' 3 2 = nI (wend ltr n tx c p) ∧ Fr (fun a k => a == 3 && k == 2) S S'
  | 0, p, m, S, f, hp, hc, hm => by
    obtain ⟨m, rfl, hm⟩ := fuel hm
    have hn := h.1
    have h2 := h.t f (Fr.rf (S := Sm))
    refine ⟨S, ?_, hp, Fr.rf⟩
    rw [o_tp_readWord_0, hp, h2.2.1, if_neg (nI_nlt (by omega) (by omega))]
  | c + 1, p, m, S, f, hp, hc, hm => by
    obtain ⟨m, rfl, hm⟩ := fuel hm
    have hn := h.1
    have h2 := h.t f (Fr.rf (S := Sm))
    rw [o_tp_readWord_0, hp, h2.2.1, if_pos (nI_lt (by omega) (by omega)), o_sg h2 (by omega), bnq, o_ltr, bnq, wend]
    cases q : ltr (sgn n tx p) with
    | false =>
      rw [if_pos bF, cond_false]
      exact ⟨S, rfl, hp, Fr.rf⟩
    | true =>
      have f1 : Fr (fun a k => a == 3 && k == 2) S (wI S 3 2 (nI (p + 1))) := Fr.wI rfl
      obtain ⟨S', e1, e2, e3⟩ := o_wl h c (p + 1) m (wI S 3 2 (nI (p + 1))) (f.tr (Fr.wI rfl)) rI_wI (by omega) (by omega)
      rw [if_neg bT, cond_true, hp, nI_1, ltq]
      exact ⟨S', e1, e2, f1.tr e3⟩
theorem o_nl (h : TXR n tx So Sm) : ∀ (c p m : Nat) (S : St), Fr fTo So S → rI S 3 2 = nI p → p + c = n → c < m → ∃ S', o_tp_readNumber_0 m S = o_tp_readNumber_38 S' ∧ rI S' 3 2 = nI (wend dgx n tx c p) ∧ Fr (fun a k => a == 3 && k == 2) S S'
  | 0, p, m, S, f, hp, hc, hm => by
    obtain ⟨m, rfl, hm⟩ := fuel hm
    have hn := h.1
    have h2 := h.t f (Fr.rf (S := Sm))
    refine ⟨S, ?_, hp, Fr.rf⟩
    rw [o_tp_readNumber_0, hp, h2.2.1, if_neg (nI_nlt (by omega) (by omega))]
  | c + 1, p, m, S, f, hp, hc, hm => by
    obtain ⟨m, rfl, hm⟩ := fuel hm
    have hn := h.1
    have h2 := h.t f (Fr.rf (S := Sm))
    rw [o_tp_readNumber_0, hp, h2.2.1, if_pos (nI_lt (by omega) (by omega)), o_sg h2 (by omega), bnq, o_dgt, bnq, wend]
    cases q : dgx (sgn n tx p) with
    | false =>
      rw [if_pos bF, cond_false]
      exact ⟨S, rfl, hp, Fr.rf⟩
    | true =>
      have f1 : Fr (fun a k => a == 3 && k == 2) S (wI S 3 2 (nI (p + 1))) := Fr.wI rfl
      obtain ⟨S', e1, e2, e3⟩ := o_nl h c (p + 1) m (wI S 3 2 (nI (p + 1))) (f.tr (Fr.wI rfl)) rI_wI (by omega) (by omega)
      rw [if_neg bT, cond_true, hp, nI_1, ltq]
      exact ⟨S', e1, e2, f1.tr e3⟩
/-- the letters from a place on -/
def wlx (tx : Nat → Int32) (b : Nat) : Nat → List Nat
  | 0 => []
  | j + 1 => wlx tx b j ++ [(tx (b + j)).toNatClampNeg - 96]
theorem wl_len (b : Nat) : ∀ j, (wlx tx b j).length = j
  | 0 => rfl
  | j + 1 => by rw [wlx, List.length_append, wl_len b j]; rfl
theorem wl_cons (b : Nat) : ∀ j, wlx tx b (j + 1) = ((tx b).toNatClampNeg - 96) :: wlx tx (b + 1) j
  | 0 => rfl
  | j + 1 => by
    rw [wlx, wl_cons b j, wlx, List.cons_append]
    rw [show b + (j + 1) = b + 1 + j by omega]
theorem wl_ok (b : Nat) : ∀ j, (∀ i, i < j → ltr (tx (b + i)) = true) → ∀ c ∈ wlx tx b j, 1 ≤ c ∧ c ≤ 26
  | 0, _, c, hc => by cases hc
  | j + 1, h, c, hc => by
    rw [wlx, List.mem_append, List.mem_singleton] at hc
    rcases hc with hc | hc
    · exact wl_ok b j (fun i hi => h i (by omega)) c hc
    · obtain ⟨d, h1, h2, h3⟩ := ltr_of (h j (by omega))
      rw [hc, h3, nI_clamp (by omega)]
      omega
theorem m_wl (h : TXR n tx So Sm) {b : Nat} : ∀ (c p m : Nat) (S : St), Fr fTm Sm S → rI S 500 4 = nI p → rI S 500 5 = nI b → b ≤ p → p + c = n → c < m → rJ S 500 7 = lN (p27 0 (wlx tx b (min (p - b) 8))) → ∃ S', m_nextToken_109 m S = m_nextToken_188 S' ∧ rI S' 500 4 = nI (wend ltr n tx c p) ∧ rJ S' 500 7 = lN (p27 0 (wlx tx b (min (wend ltr n tx c p - b) 8))) ∧ Fr (fun a k => a == 500 && (k == 4 || k == 7)) S S'
  | 0, p, m, S, f, hp, hb, hbp, hc, hm, hw => by
    obtain ⟨m, rfl, hm⟩ := fuel hm
    have hn := h.1
    have h2 := h.t (Fr.rf (S := So)) f
    have e0 : sgn n tx p = 0 := if_neg (by omega)
    refine ⟨S, ?_, hp, hw, Fr.rf⟩
    rw [m_nextToken_109, hp, m_sg h2 (by omega), bnq, e0, if_pos (by decide)]
  | c + 1, p, m, S, f, hp, hb, hbp, hc, hm, hw => by
    obtain ⟨m, rfl, hm⟩ := fuel hm
    have hn := h.1
    have h2 := h.t (Fr.rf (S := So)) f
    have es : sgn n tx p = tx p := if_pos (by omega)
    rw [m_nextToken_109, hp, m_sg h2 (by omega), bnq, hp, m_sg h2 (by omega), bnq, hp, hb, wend]
    cases q : ltr (sgn n tx p) with
    | false =>
      rw [cond_false]
      refine ⟨S, ?_, hp, hw, Fr.rf⟩
      unfold ltr at q
      by_cases q1 : sgn n tx p < 97
      · rw [if_pos q1]
      · rw [if_neg q1]
        rw [decide_eq_false q1, Bool.not_false, Bool.true_and, Bool.not_eq_false', decide_eq_true_eq] at q
        rw [if_pos q]
    | true =>
      rw [cond_true]
      obtain ⟨l, l1, l2, l3⟩ := ltr_of q
      have q1 : ¬ sgn n tx p < 97 := by
        rw [l3]
        exact nI_nlt (b := 97) (by omega) (by omega)
      have q2 : ¬ (122 : Int32) < sgn n tx p := by
        rw [l3]
        exact nI_nlt (a := 122) (by omega) (by omega)
      rw [if_neg q1, if_neg q2, nI_sub hbp]
      unfold m_nextToken_175
      by_cases q3 : p - b < 8
      · have f1 : Fr (fun a k => a == 500 && (k == 4 || k == 7)) S (wI (wJ S 500 7 (lN (p27 0 (wlx tx b (p + 1 - b))))) 500 4 (nI (p + 1))) := (Fr.wJ rfl).tr (Fr.wI rfl)
        obtain ⟨S', e1, e2, e3, e4⟩ := m_wl h c (p + 1) m (wI (wJ S 500 7 (lN (p27 0 (wlx tx b (p + 1 - b))))) 500 4 (nI (p + 1))) ((f.tr (Fr.wJ rfl)).tr (Fr.wI rfl)) rI_wI (by rw [rI_wI_k (by decide), rI_wJ]; exact hb) (by omega) (by omega) (by omega) (by rw [rJ_wI, rJ_wJ, Nat.min_eq_left (by omega)])
        refine ⟨S', ?_, e2, e3, f1.tr e4⟩
        have ew : rJ S 500 7 * 27 + (sgn n tx p).toInt64 - 96 = lN (p27 0 (wlx tx b (p + 1 - b))) := by
          rw [hw, Nat.min_eq_left (by omega), l3, nI_l (by omega), show (27 : Int64) = lN 27 from rfl, lN_mul, lN_add, show (96 : Int64) = lN 96 from rfl, lN_sub (by omega), show p + 1 - b = (p - b) + 1 by omega, wlx, p27_app, show b + (p - b) = p by omega, ← es, l3, nI_clamp (by omega)]
          congr 1
          omega
        rw [if_pos (show nI (p - b) < 8 from nI_lt (b := 8) q3 (by decide)), m_sg h2 (by omega), bnq, ew, ltq, rI_wJ, hp, nI_1, ltq]
        exact e1
      · have f1 : Fr (fun a k => a == 500 && (k == 4 || k == 7)) S (wI S 500 4 (nI (p + 1))) := Fr.wI rfl
        obtain ⟨S', e1, e2, e3, e4⟩ := m_wl h c (p + 1) m (wI S 500 4 (nI (p + 1))) (f.tr (Fr.wI rfl)) rI_wI (by rw [rI_wI_k (by decide)]; exact hb) (by omega) (by omega) (by omega) (by rw [rJ_wI, hw, Nat.min_eq_right (by omega), Nat.min_eq_right (by omega)])
        refine ⟨S', ?_, e2, e3, f1.tr e4⟩
        rw [if_neg (show ¬ nI (p - b) < 8 from nI_nlt (b := 8) (by omega) (by omega)), hp, nI_1, ltq]
        exact e1
theorem o_pack (h : TXR n tx So Sm) {b e : Nat} (hen : e ≤ n) (hall : ∀ i, b ≤ i → i < e → ltr (tx i) = true) (he : e - b ≤ 8) : ∀ (c j m : Nat) (S : St), Fr fTo So S → rI S 3 3 = nI b → j = b + c → j ≤ e → c < m → rJ S 3 5 = lN (pk5 (wlx tx j (e - j))) → ∃ S', o_tp_readWord_67 m (nI j - 1) S = o_tp_readWord_97 S' ∧ rJ S' 3 5 = lN (pk5 (wlx tx b (e - b))) ∧ Fr (fun a k => a == 3 && k == 5) S S'
  | 0, j, m, S, f, hb, hj, hje, hm, hw => by
    obtain ⟨m, rfl, hm⟩ := fuel hm
    have hn := h.1
    obtain rfl : j = b := by omega
    refine ⟨S, ?_, hw, Fr.rf⟩
    rw [o_tp_readWord_67, hb, if_pos]
    rcases Nat.eq_zero_or_pos j with q | q
    · rw [q]
      decide
    · obtain ⟨i, rfl⟩ : ∃ i, j = i + 1 := ⟨j - 1, by omega⟩
      rw [nI_pred]
      exact nI_lt (by omega) (by omega)
  | c + 1, j, m, S, f, hb, hj, hje, hm, hw => by
    obtain ⟨m, rfl, hm⟩ := fuel hm
    have hn := h.1
    have h2 := h.t f (Fr.rf (S := Sm))
    obtain ⟨i, rfl⟩ : ∃ i, j = i + 1 := ⟨j - 1, by omega⟩
    have es : sgn n tx i = tx i := if_pos (by omega)
    obtain ⟨l, l1, l2, l3⟩ := ltr_of (hall i (by omega) (by omega))
    have f1 : Fr (fun a k => a == 3 && k == 5) S (wJ S 3 5 (lN (pk5 (wlx tx i (e - i))))) := Fr.wJ rfl
    obtain ⟨S', e1, e2, e3⟩ := o_pack h hen hall he c i m (wJ S 3 5 (lN (pk5 (wlx tx i (e - i))))) (f.tr (Fr.wJ rfl)) hb (by omega) (by omega) (by omega) rJ_wJ
    refine ⟨S', ?_, e2, f1.tr e3⟩
    have hok : ∀ x ∈ wlx tx (i + 1) (e - (i + 1)), 1 ≤ x ∧ x ≤ 26 := wl_ok (i + 1) _ fun k hk => hall _ (by omega) (by omega)
    have hB : pk5 (wlx tx (i + 1) (e - (i + 1))) < 2 ^ 40 := pk5_B hok (by rw [wl_len]; omega)
    have ew : lN (pk5 (wlx tx (i + 1) (e - (i + 1)))) <<< ((5 : Int32).toInt64 &&& 63) ||| (tx i - 97 + 1).toInt64 = lN (pk5 (wlx tx i (e - i))) := by
      rw [lN_shl5 (by omega), l3, show (97 : Int32) = nI 97 from rfl, nI_sub (by omega), nI_1, nI_l (by omega), lN_or (by omega) (by omega), show e - i = (e - (i + 1)) + 1 by omega, wl_cons, l3, nI_clamp (by omega), pk5]
      congr 1
      omega
    have ed : nI i + (-1 : Int32) = nI i - 1 := (Int32.sub_eq_add_neg _ _).symm
    have q1 : ¬ tx i < 97 := by
      rw [l3]
      exact nI_nlt (b := 97) (by omega) (by omega)
    have q2 : ¬ (122 : Int32) < tx i := by
      rw [l3]
      exact nI_nlt (a := 122) (by omega) (by omega)
    rw [o_tp_readWord_67, nI_pred, hb, if_neg (nI_nlt (by omega) (by omega)), o_sg h2 (by omega), bnq, es, hw]
    unfold o_na_packed o_na_packed_25
    rw [if_neg q1, if_neg q2, bnq, ew, ltq, ed, ltq]
    exact e1
/-- the number from a place on -/
def dv (tx : Nat → Int32) (b : Nat) : Nat → Int32
  | 0 => 0
  | j + 1 => dv tx b j * 10 + tx (b + j) - 48
theorem dv_ok (b : Nat) : ∀ j, (∀ i, i < j → dgx (tx (b + i)) = true) → ∃ k, k < 10 ^ j ∧ dv tx b j = nI k
  | 0, _ => ⟨0, by decide, rfl⟩
  | j + 1, h => by
    obtain ⟨k, h1, h2⟩ := dv_ok b j fun i hi => h i (by omega)
    obtain ⟨d, d1, d2⟩ := dgt_of (h j (by omega))
    refine ⟨k * 10 + d, by rw [Nat.pow_succ]; omega, ?_⟩
    rw [dv, h2, d2, show (10 : Int32) = nI 10 from rfl, nI_mul, nI_add, show (48 : Int32) = nI 48 from rfl, nI_sub (by omega)]
    congr 1
    omega
theorem m_nl (h : TXR n tx So Sm) {b : Nat} : ∀ (c p m : Nat) (S : St), Fr fTm Sm S → rI S 500 4 = nI p → rI S 500 5 = nI b → b ≤ p → p + c = n → c < m → rI S 500 8 = dv tx b (min (p - b) 4) → ∃ S', m_nextToken_224 m S = m_nextToken_299 S' ∧ rI S' 500 4 = nI (wend dgx n tx c p) ∧ rI S' 500 8 = dv tx b (min (wend dgx n tx c p - b) 4) ∧ Fr (fun a k => a == 500 && (k == 4 || k == 8)) S S'
  | 0, p, m, S, f, hp, hb, hbp, hc, hm, hw => by
    obtain ⟨m, rfl, hm⟩ := fuel hm
    have hn := h.1
    have h2 := h.t (Fr.rf (S := So)) f
    have e0 : sgn n tx p = 0 := if_neg (by omega)
    refine ⟨S, ?_, hp, hw, Fr.rf⟩
    rw [m_nextToken_224, hp, m_sg h2 (by omega), bnq, e0, if_pos (by decide)]
  | c + 1, p, m, S, f, hp, hb, hbp, hc, hm, hw => by
    obtain ⟨m, rfl, hm⟩ := fuel hm
    have hn := h.1
    have h2 := h.t (Fr.rf (S := So)) f
    have es : sgn n tx p = tx p := if_pos (by omega)
    rw [m_nextToken_224, hp, m_sg h2 (by omega), bnq, hp, m_sg h2 (by omega), bnq, hp, hb, wend]
    cases q : dgx (sgn n tx p) with
    | false =>
      rw [cond_false]
      refine ⟨S, ?_, hp, hw, Fr.rf⟩
      unfold dgx at q
      by_cases q1 : sgn n tx p < 48
      · rw [if_pos q1]
      · rw [if_neg q1]
        rw [decide_eq_false q1, Bool.not_false, Bool.true_and, Bool.not_eq_false', decide_eq_true_eq] at q
        rw [if_pos q]
    | true =>
      rw [cond_true]
      obtain ⟨l, l2, l3⟩ := dgt_of q
      have q1 : ¬ sgn n tx p < 48 := by
        rw [l3]
        exact nI_nlt (b := 48) (by omega) (by omega)
      have q2 : ¬ (57 : Int32) < sgn n tx p := by
        rw [l3]
        exact nI_nlt (a := 57) (by omega) (by omega)
      rw [if_neg q1, if_neg q2, nI_sub hbp]
      unfold m_nextToken_286
      by_cases q3 : p - b < 4
      · have f1 : Fr (fun a k => a == 500 && (k == 4 || k == 8)) S (wI (wI S 500 8 (dv tx b (p + 1 - b))) 500 4 (nI (p + 1))) := (Fr.wI rfl).tr (Fr.wI rfl)
        obtain ⟨S', e1, e2, e3, e4⟩ := m_nl h c (p + 1) m (wI (wI S 500 8 (dv tx b (p + 1 - b))) 500 4 (nI (p + 1))) ((f.tr (Fr.wI rfl)).tr (Fr.wI rfl)) rI_wI (by rw [rI_wI_k (by decide), rI_wI_k (by decide)]; exact hb) (by omega) (by omega) (by omega) (by rw [rI_wI_k (by decide), rI_wI, Nat.min_eq_left (by omega)])
        refine ⟨S', ?_, e2, e3, f1.tr e4⟩
        have ew : rI S 500 8 * 10 + sgn n tx p - 48 = dv tx b (p + 1 - b) := by
          rw [hw, Nat.min_eq_left (by omega), show p + 1 - b = (p - b) + 1 by omega, dv, show b + (p - b) = p by omega, es]
        rw [if_pos (show nI (p - b) < 4 from nI_lt (b := 4) q3 (by decide)), m_sg h2 (by omega), bnq, ew, ltq, rI_wI_k (by decide), hp, nI_1, ltq]
        exact e1
      · have f1 : Fr (fun a k => a == 500 && (k == 4 || k == 8)) S (wI S 500 4 (nI (p + 1))) := Fr.wI rfl
        obtain ⟨S', e1, e2, e3, e4⟩ := m_nl h c (p + 1) m (wI S 500 4 (nI (p + 1))) (f.tr (Fr.wI rfl)) rI_wI (by rw [rI_wI_k (by decide)]; exact hb) (by omega) (by omega) (by omega) (by rw [rI_wI_k (by decide), hw, Nat.min_eq_right (by omega), Nat.min_eq_right (by omega)])
        refine ⟨S', ?_, e2, e3, f1.tr e4⟩
        rw [if_neg (show ¬ nI (p - b) < 4 from nI_nlt (b := 4) (by omega) (by omega)), hp, nI_1, ltq]
        exact e1
theorem o_num (h : TXR n tx So Sm) {b e : Nat} (hen : e ≤ n) : ∀ (c j m : Nat) (S : St), Fr fTo So S → rI S 3 2 = nI e → b ≤ j → j + c = e → c < m → rI S 3 4 = dv tx b (j - b) → ∃ S', o_tp_readNumber_64 m (nI j) S = o_tp_readNumber_98 S' ∧ rI S' 3 4 = dv tx b (e - b) ∧ Fr (fun a k => a == 3 && k == 4) S S'
  | 0, j, m, S, f, he, hj, hje, hm, hw => by
    obtain ⟨m, rfl, hm⟩ := fuel hm
    have hn := h.1
    obtain rfl : j = e := by omega
    refine ⟨S, ?_, hw, Fr.rf⟩
    rw [o_tp_readNumber_64, he, if_neg (nI_nlt (Nat.le_refl _) (by omega))]
  | c + 1, j, m, S, f, he, hj, hje, hm, hw => by
    obtain ⟨m, rfl, hm⟩ := fuel hm
    have hn := h.1
    have h2 := h.t f (Fr.rf (S := Sm))
    have es : sgn n tx j = tx j := if_pos (by omega)
    have f1 : Fr (fun a k => a == 3 && k == 4) S (wI S 3 4 (dv tx b (j + 1 - b))) := Fr.wI rfl
    obtain ⟨S', e1, e2, e3⟩ := o_num h hen c (j + 1) m (wI S 3 4 (dv tx b (j + 1 - b))) (f.tr (Fr.wI rfl)) (by rw [rI_wI_k (by decide)]; exact he) (by omega) (by omega) (by omega) rI_wI
    refine ⟨S', ?_, e2, f1.tr e3⟩
    have ew : rI S 3 4 * 10 + tx j - 48 = dv tx b (j + 1 - b) := by
      rw [hw, show j + 1 - b = (j - b) + 1 by omega, dv, show b + (j - b) = j by omega]
    rw [o_tp_readNumber_64, he, if_pos (nI_lt (by omega) (by omega)), o_sg h2 (by omega), bnq, es, ew, ltq, ltq, nI_1]
    exact e1
end TAPE
