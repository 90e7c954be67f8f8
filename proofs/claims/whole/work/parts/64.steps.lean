/-! Reading lines: single steps, with and without a fault. -/
section STEPS
variable {n p b k i d : Nat} {w : List Nat} {tx : Nat → Int32} {So Sm S S' So' Sm' : St} {P Q : Nat → Nat → Bool}
def FT (So : St) : Prop := ¬ rI So 3 7 = 0 ∧ ∃ k, k < 42 ∧ rQ So 3 6 = some (1000 + k)
def BAD (So Sm : St) : Prop := FT So ∧ rI So 3 7 = rI Sm 500 9
def fCo : Nat → Nat → Bool := fun a k => a == 3 && (decide (2 ≤ k) && decide (k ≤ 7))
def fCm : Nat → Nat → Bool := fun a k => a == 500 && ((decide (4 ≤ k) && decide (k ≤ 9)) || k == 46)
theorem fCo_n {a k : Nat} (h : a ≠ 3 ∨ k < 2 ∨ 7 < k) : fCo a k = false := by
  unfold fCo
  simp
  omega
theorem fCm_n {a k : Nat} (h : a ≠ 500 ∨ k < 4 ∨ (9 < k ∧ k ≠ 46)) : fCm a k = false := by
  unfold fCm
  simp
  omega
theorem fCo_T {a k : Nat} (h : fCo a k = false) : fTo a k = false := by
  unfold fCo at h
  unfold fTo
  simp at h ⊢
  omega
theorem fCm_T {a k : Nat} (h : fCm a k = false) : fTm a k = false := by
  unfold fCm at h
  unfold fTm
  simp at h ⊢
  omega
theorem FT.fr (h : FT So) (f : Fr P So So') (h1 : P 3 7 = false) (h2 : P 3 6 = false) : FT So' := by
  refine ⟨by rw [f.i h1]; exact h.1, ?_⟩
  obtain ⟨k, hk, e⟩ := h.2
  exact ⟨k, hk, (f.q h2).trans e⟩
theorem kcc {k j : Nat} (hk : k < 42) (hj : j < 42) : ((KO.1 (1000 + k)).1 < 8 ∨ (KO.1 (1000 + k)).1 = 20) ∧ ((KO.1 (1000 + j)).1 < 8 ∨ (KO.1 (1000 + j)).1 = 20) := by
  rw [kt hk, kt hj]
  exact ⟨Or.inr rfl, Or.inr rfl⟩
section F
theorem st_F (h : FT So) : o_tp_step So = some ((), So) := by
  unfold o_tp_step
  rw [if_neg h.1]
theorem wr_F (h : FT So) (j : Int32) : o_tp_wrong j So = some ((), So) := by
  unfold o_tp_wrong o_tp_wrong_20
  rw [if_neg h.1]
theorem take_F (h : FT So) {t : Nat} (ht : t < 42) : o_rd_take (1000 + t) So = some ((), So) := by
  obtain ⟨k, hk, e⟩ := h.2
  unfold o_rd_take o_rd_take_19
  rw [oq2 e, if_pos (kcc hk ht), wr_F h, bnq, st_F h, bnq]
  by_cases q : 1000 + k = 1000 + t
  · rw [if_pos q]
  · rw [if_neg q]
theorem num_F (h : FT So) (m : Int32) : o_rd_number m So = some (rI So 3 4, So) := by
  obtain ⟨k, hk, e⟩ := h.2
  unfold o_rd_number o_rd_number_45
  rw [ltq, oq2 e, if_pos (kcc hk (j := 2) (by decide)), wr_F h, bnq, st_F h, bnq, wr_F h, bnq]
  by_cases q : 1000 + k = 1002
  · rw [if_pos q]
    by_cases q2 : m < rI So 3 4
    · rw [if_pos q2]
    · rw [if_neg q2]
  · rw [if_neg q, st_F h, bnq]
theorem isName_F (h : FT So) : o_rd_isName So = some (0, So) := by
  obtain ⟨k, hk, e⟩ := h.2
  have e21 : o_rd_isName_21 So = some (0, So) := by
    unfold o_rd_isName_21 o_rd_isName_36
    rw [if_neg h.1, if_pos b0]
  unfold o_rd_isName
  rw [oq2 e, if_pos (by rw [kt hk]), tkIsName hk, bnq, wr_F h, bnq, e21]
  by_cases q : bI (nmB k) = 0
  · rw [if_pos q]
  · rw [if_neg q]
theorem newName_F (h : FT So) (v : Nat) : o_rd_newName v So = some (rJ So 3 5, So) := by
  unfold o_rd_newName o_rd_newName_47
  rw [ltq, isName_F h, bnq, if_pos rfl, st_F h, bnq]
theorem sound_F (h : FT So) (v : Nat) : o_rd_soundHere v So = some (-1, So) := by
  unfold o_rd_soundHere o_rd_soundHere_25 o_rd_soundHere_39
  rw [isName_F h, bnq, if_pos rfl, if_pos rfl, wr_F h, bnq]
theorem apple_F (h : FT So) (v : Nat) : o_rd_appleHere v So = some (-1, So) := by
  unfold o_rd_appleHere o_rd_appleHere_29 o_rd_appleHere_43
  rw [isName_F h, bnq, if_pos rfl, if_pos rfl, wr_F h, bnq]
theorem person_F (h : FT So) (v : Nat) : o_rd_personHere v So = some (-1, So) := by
  unfold o_rd_personHere o_rd_personHere_25 o_rd_personHere_39
  rw [isName_F h, bnq, if_pos rfl, if_pos rfl, wr_F h, bnq]
theorem tkIsSort (hk : k < 42) (S : St) : o_tk_isSort (1000 + k) S = some (bI (decide (32 ≤ k) && decide (k ≤ 35)), S) := by
  have hkc : ∀ j, j < 42 → ((KO.1 (1000 + k)).1 < 8 ∨ (KO.1 (1000 + k)).1 = 20) ∧ ((KO.1 (1000 + j)).1 < 8 ∨ (KO.1 (1000 + j)).1 = 20) := fun j hj => kcc hk hj
  unfold o_tk_isSort o_tk_isSort_28 o_tk_isSort_33
  rw [if_pos (hkc 32 (by decide)), if_pos (hkc 33 (by decide)), if_pos (hkc 34 (by decide)), if_pos (hkc 35 (by decide)), if_pos b0, if_pos b1]
  by_cases q1 : k = 32
  · rw [if_pos (by omega), q1]; rfl
  by_cases q2 : k = 33
  · rw [if_neg (by omega), if_pos (by omega), q2]; rfl
  by_cases q3 : k = 34
  · rw [if_neg (by omega), if_neg (by omega), if_pos (by omega), q3]; rfl
  by_cases q4 : k = 35
  · rw [if_neg (by omega), if_neg (by omega), if_neg (by omega), if_pos (by omega), q4]; rfl
  rw [if_neg (by omega), if_neg (by omega), if_neg (by omega), if_neg (by omega)]
  have : (decide (32 ≤ k) && decide (k ≤ 35)) = false := by
    rw [Bool.and_eq_false_iff, decide_eq_false_iff_not, decide_eq_false_iff_not]
    omega
  rw [this]
  rfl
/-- a sort's number -/
def srtN (k : Nat) : Nat := if k = 33 then 1 else if k = 34 then 2 else if k = 35 then 3 else 0
theorem sort23 (hk : k < 42) (S : St) : ((if ((KO.1 (1000 + k)).1 < 8 ∨ (KO.1 (1000 + k)).1 = 20) ∧ ((KO.1 1033).1 < 8 ∨ (KO.1 1033).1 = 20) then (if 1000 + k = 1033 then some ((1 : Int32), S) else (if ((KO.1 (1000 + k)).1 < 8 ∨ (KO.1 (1000 + k)).1 = 20) ∧ ((KO.1 1034).1 < 8 ∨ (KO.1 1034).1 = 20) then (if 1000 + k = 1034 then some ((2 : Int32), S) else (if ((KO.1 (1000 + k)).1 < 8 ∨ (KO.1 (1000 + k)).1 = 20) ∧ ((KO.1 1035).1 < 8 ∨ (KO.1 1035).1 = 20) then (if 1000 + k = 1035 then o_rd_sortHere_60 (3 : Int32) S else o_rd_sortHere_60 (0 : Int32) S) else none)) else none)) else none : Re Int32)) = some (nI (srtN k), S) := by
  unfold o_rd_sortHere_60 srtN
  rw [if_pos (kcc hk (j := 33) (by decide)), if_pos (kcc hk (j := 34) (by decide)), if_pos (kcc hk (j := 35) (by decide))]
  by_cases q2 : k = 33
  · rw [if_pos (by omega), if_pos q2]; rfl
  by_cases q3 : k = 34
  · rw [if_neg (by omega), if_pos (by omega), if_neg q2, if_pos q3]; rfl
  by_cases q4 : k = 35
  · rw [if_neg (by omega), if_neg (by omega), if_pos (by omega), if_neg q2, if_neg q3, if_pos q4]; rfl
  rw [if_neg (by omega), if_neg (by omega), if_neg (by omega), if_neg q2, if_neg q3, if_neg q4]; rfl
theorem sort_F (h : FT So) : ∃ x, o_rd_sortHere So = some (x, So) := by
  obtain ⟨k, hk, e⟩ := h.2
  refine ⟨nI (srtN k), ?_⟩
  have e23 : o_rd_sortHere_23 (1000 + k) So = some (nI (srtN k), So) := by
    unfold o_rd_sortHere_23
    rw [st_F h, bnq]
    exact sort23 hk So
  unfold o_rd_sortHere
  rw [oq2 e, if_pos (by rw [kt hk]), tkIsSort hk, bnq, wr_F h, bnq, e23]
  by_cases q : bI (decide (32 ≤ k) && decide (k ≤ 35)) = 0
  · rw [if_pos q]
  · rw [if_neg q]
theorem open_F (h : FT So) (x : Int32) : o_rd_open x So = some ((), So) := by
  unfold o_rd_open o_rd_open_12
  rw [st_F h, bnq, wr_F h, bnq, st_F h, bnq]
  by_cases q : x = 0
  · rw [if_pos q]
  · rw [if_neg q]
end F
/-- the fault told at a token -/
theorem wr_U (h : TK n tx k w b p So Sm) (h0 : rI So 3 7 = 0) (j : Int32) : o_tp_wrong j So = some ((), wI So 3 7 (j + 16 * nI b)) := by
  unfold o_tp_wrong o_tp_wrong_20
  rw [if_pos h0, h.2.2.1.1, ltq]
theorem flt_nz {j : Nat} (hj : 1 ≤ j) (hj5 : j ≤ 5) (hb : b ≤ 1000) : ¬ nI j + 16 * nI b = 0 := fun q => by
  rw [show (16 : Int32) = nI 16 from rfl, nI_mul, nI_add] at q
  have := nI_ofs (b := 0) q (by omega) (by decide)
  omega
theorem bad_of (h : TK n tx k w b p So Sm) {j : Nat} (hj : 1 ≤ j) (hj5 : j ≤ 5) {Sm1 : St} : BAD (wI So 3 7 (nI j + 16 * nI b)) (wI Sm1 500 9 (nI j + 16 * nI b)) := by
  have hn := h.1.1
  have hb := h.2.2.2.1
  exact ⟨⟨by rw [rI_wI]; exact flt_nz hj hj5 (by omega), k, h.lt, h.q⟩, by rw [rI_wI, rI_wI]⟩
/-- both go on to the next token, or both are at a fault -/
def GO (n : Nat) (tx : Nat → Int32) (b : Nat) (z : Bool) (So' Sm' : St) : Prop := (z = true ∧ ∃ k w b' p, TK n tx k w b' p So' Sm' ∧ rI So' 3 7 = 0 ∧ b < b') ∨ (z = false ∧ BAD So' Sm')
theorem GO.le {b' : Nat} {z : Bool} (h : GO n tx b' z So' Sm') (hb : b ≤ b') : GO n tx b z So' Sm' := by
  rcases h with ⟨h1, k, w, b2, p, h2, h3, h4⟩ | h
  · exact Or.inl ⟨h1, k, w, b2, p, h2, h3, by omega⟩
  · exact Or.inr h
/-- the next token behind one that is not the end -/
theorem nx_U (h : TK n tx k w b p So Sm) (h0 : rI So 3 7 = 0) (hk : k ≠ 0) : ∃ k' w' b' p' So' Sm', o_tp_step So = some ((), So') ∧ m_nextToken Sm = some ((), Sm') ∧ TK n tx k' w' b' p' So' Sm' ∧ rI So' 3 7 = 0 ∧ b < b' ∧ Fr fTo So So' ∧ Fr fTm Sm Sm' := by
  have hb := h.2.2.2.1
  obtain ⟨k', w', b', p', So', Sm', t1, t2, t3, t4, t5, t6⟩ := nx_ok h.1 h0 h.2.1.1 h.2.1.2 hb.2.1
  have := hb.2.2 hk
  exact ⟨k', w', b', p', So', Sm', t1, t2, t3, (t5.i (by rfl)).trans h0, by omega, t5, t6⟩
theorem takeW_U (h : TK n tx k w b p So Sm) (h0 : rI So 3 7 = 0) (i : Nat) (hi : kwP i = true) {K : Int64} (hK : K = lN (p27 0 (kw i))) : ∃ z So' Sm', o_rd_take (1000 + i) So = some ((), So') ∧ m_needsWord K Sm = some (bI z, Sm') ∧ GO n tx b z So' Sm' ∧ Fr fCo So So' ∧ Fr fCm Sm Sm' := by
  unfold o_rd_take o_rd_take_19 m_needsWord
  rw [oq2 h.q, if_pos (h.kc (kwP_lt hi)), isWord_ok h i hi hK, bnq]
  by_cases q : k = i
  · have hk0 : k ≠ 0 := fun c => by rw [← q, c] at hi; cases hi
    obtain ⟨k', w', b', p', So', Sm', t1, t2, t3, t4, t5, t6, t7⟩ := nx_U h h0 hk0
    rw [if_pos (by rw [q]), t1, bnq, decide_eq_true q, if_neg bT, t2, bnq]
    exact ⟨true, So', Sm', rfl, rfl, Or.inl ⟨rfl, k', w', b', p', t3, t4, t5⟩, t6.mo fun a k q => fCo_T q, t7.mo fun a k q => fCm_T q⟩
  · have hB := bad_of (Sm1 := Sm) h (j := 1) (by decide) (by decide)
    rw [if_neg (k_ne q), wr_U h h0, bnq, (show o_tp_step (wI So 3 7 (1 + 16 * nI b)) = _ from st_F hB.1), bnq, decide_eq_false q, if_pos bF, m_fails_ok 1 Sm h.2.2.1.2, bnq, if_pos b0]
    exact ⟨false, _, _, rfl, rfl, Or.inr ⟨rfl, hB⟩, Fr.wI rfl, Fr.wI rfl⟩
theorem close_U (h : TK n tx k w b p So Sm) (h0 : rI So 3 7 = 0) : ∃ z So' Sm', o_rd_take 1006 So = some ((), So') ∧ m_closes Sm = some (bI z, Sm') ∧ GO n tx b z So' Sm' ∧ Fr fCo So So' ∧ Fr fCm Sm Sm' := by
  unfold o_rd_take o_rd_take_19 m_closes
  rw [oq2 h.q, if_pos (h.kc (j := 6) (by decide)), isSign_ok h 6 (by decide) (x := 59) rfl, bnq]
  by_cases q : k = 6
  · have hk0 : k ≠ 0 := by omega
    obtain ⟨k', w', b', p', So', Sm', t1, t2, t3, t4, t5, t6, t7⟩ := nx_U h h0 hk0
    rw [if_pos (by omega), t1, bnq, decide_eq_true q, if_neg bT, t2, bnq]
    exact ⟨true, So', Sm', rfl, rfl, Or.inl ⟨rfl, k', w', b', p', t3, t4, t5⟩, t6.mo fun a k q => fCo_T q, t7.mo fun a k q => fCm_T q⟩
  · have hB := bad_of (Sm1 := Sm) h (j := 1) (by decide) (by decide)
    rw [if_neg (show ¬ 1000 + k = 1006 by omega), wr_U h h0, bnq, (show o_tp_step (wI So 3 7 (1 + 16 * nI b)) = _ from st_F hB.1), bnq, decide_eq_false q, if_pos bF, m_fails_ok 1 Sm h.2.2.1.2, bnq, if_pos b0]
    exact ⟨false, _, _, rfl, rfl, Or.inr ⟨rfl, hB⟩, Fr.wI rfl, Fr.wI rfl⟩
theorem TK.num (h : TK n tx 2 w b p So Sm) : rI Sm 500 6 = 2 ∧ ∃ j, j < 10000 ∧ rI So 3 4 = nI j ∧ rI Sm 500 8 = nI j := by
  rcases h.2.2.2.2.2 with ⟨e, _⟩ | ⟨e, _⟩ | ⟨_, e, e2⟩ | ⟨e, _, _⟩ | ⟨_, e, _⟩
  · cases e
  · cases e
  · exact ⟨e, e2⟩
  · have := (sgT_lt (tx b)).2
    omega
  · have := (ltT_lt (lN (pk5 w))).2
    omega
theorem TK.nnum (h : TK n tx k w b p So Sm) (hk : ¬ k = 2) : ¬ rI Sm 500 6 = 2 := by
  rcases h.2.2.2.2.2 with ⟨_, e⟩ | ⟨_, e⟩ | ⟨e, _⟩ | ⟨_, _, e⟩ | ⟨_, _, e, _⟩
  · rw [e]; decide
  · rw [e]; decide
  · exact absurd e hk
  · rw [e]; decide
  · rw [e]; decide
theorem num_U (h : TK n tx k w b p So Sm) (h0 : rI So 3 7 = 0) {mx : Nat} (hm : mx < 100) : ∃ z x So' Sm', o_rd_number (nI mx) So = some (x, So') ∧ m_needsNumber 0 (nI mx) Sm = some (bI z, Sm') ∧ GO n tx b z So' Sm' ∧ (z = true → ∃ j, j ≤ mx ∧ x = nI j ∧ rI Sm' 500 46 = nI j) ∧ Fr fCo So So' ∧ Fr fCm Sm Sm' := by
  unfold o_rd_number o_rd_number_45 m_needsNumber
  rw [ltq, oq2 h.q, if_pos (h.kc (j := 2) (by decide))]
  by_cases q : k = 2
  · subst q
    obtain ⟨e6, j, j1, j2, j3⟩ := h.num
    rw [if_pos rfl, j2, if_pos e6, j3, m_within_ok, bnq, decide_eq_false (show ¬ nI j < 0 from nI_pos (by omega))]
    by_cases q2 : j ≤ mx
    · have fm0 : Fr fCm Sm (wI Sm 500 46 (nI j)) := Fr.wI rfl
      have h' : TK n tx 2 w b p So (wI Sm 500 46 (nI j)) := by
        obtain ⟨g1, g2, g3, g4, g5, g6⟩ := h
        refine ⟨g1.fr (Fr.rf (P := fun _ _ => false)) (Fr.wI rfl : Fr (fun a k => a == 500 && k == 46) Sm (wI Sm 500 46 (nI j))) rfl (fun k => rfl) rfl (fun k => rfl), ⟨g2.1, by rw [rI_wI_k (by decide)]; exact g2.2⟩, ⟨g3.1, by rw [rI_wI_k (by decide)]; exact g3.2⟩, g4, g5, ?_⟩
        refine Or.inr (Or.inr (Or.inl ⟨rfl, by rw [rI_wI_k (by decide)]; exact e6, j, j1, j2, by rw [rI_wI_k (by decide)]; exact j3⟩))
      obtain ⟨k', w', b', p', So', Sm', t1, t2, t3, t4, t5, t6, t7⟩ := nx_U h' h0 (by decide)
      have hlt : ¬ nI mx < nI j := nI_nlt q2 (by omega)
      rw [if_neg hlt, t1, bnq, decide_eq_false hlt, if_neg (show ¬ bI (!false && !false) = 0 by decide), j3, ltq (wI Sm 500 46 _), t2, bnq]
      exact ⟨true, nI j, So', Sm', rfl, rfl, Or.inl ⟨rfl, k', w', b', p', t3, t4, t5⟩, fun _ => ⟨j, q2, rfl, by rw [t7.i (by rfl), rI_wI]⟩, t6.mo fun a k q => fCo_T q, fm0.tr (t7.mo fun a k q => fCm_T q)⟩
    · have hlt : nI mx < nI j := nI_lt (by omega) (by omega)
      have hB := bad_of (Sm1 := Sm) h (j := 4) (by decide) (by decide)
      rw [if_pos hlt, wr_U h h0, bnq, (show o_tp_step (wI So 3 7 (4 + 16 * nI b)) = _ from st_F hB.1), bnq, decide_eq_true hlt, if_pos (show bI (!false && !true) = 0 from rfl), m_fails_ok 4 Sm h.2.2.1.2, bnq, if_pos b0]
      exact ⟨false, _, _, _, rfl, rfl, Or.inr ⟨rfl, hB⟩, fun c => (by cases c), Fr.wI rfl, Fr.wI rfl⟩
  · have hB := bad_of (Sm1 := Sm) h (j := 1) (by decide) (by decide)
    rw [if_neg (show ¬ 1000 + k = 1002 by omega), wr_U h h0, bnq, (show o_tp_step (wI So 3 7 (1 + 16 * nI b)) = _ from st_F hB.1), bnq, if_neg (h.nnum q), m_fails_ok 1 Sm h.2.2.1.2, bnq, if_pos b0]
    exact ⟨false, _, _, _, rfl, rfl, Or.inr ⟨rfl, hB⟩, fun c => (by cases c), Fr.wI rfl, Fr.wI rfl⟩
/-- a word and a number: at 3, ripe 7 .. -/
theorem both_U (h : TK n tx k w b p So Sm) (h0 : rI So 3 7 = 0) (i : Nat) (hi : kwP i = true) {K : Int64} (hK : K = lN (p27 0 (kw i))) {mx : Nat} (hm : mx < 100) : ∃ z x So1 So' Sm', o_rd_take (1000 + i) So = some ((), So1) ∧ o_rd_number (nI mx) So1 = some (x, So') ∧ m_needsBoth K 0 (nI mx) Sm = some (bI z, Sm') ∧ GO n tx b z So' Sm' ∧ (z = true → ∃ j, j ≤ mx ∧ x = nI j ∧ rI Sm' 500 46 = nI j) ∧ Fr fCo So So' ∧ Fr fCm Sm Sm' := by
  obtain ⟨z, S1, M1, a1, a2, a3, a4, a5⟩ := takeW_U h h0 i hi hK
  unfold m_needsBoth m_needsBoth_22 m_needsBoth_23
  rw [a2, bnq]
  rcases a3 with ⟨rfl, k', w', b', p', t1, t2, t3⟩ | ⟨rfl, hB⟩
  · obtain ⟨z2, x, So', Sm', r1, r2, r3, r4, r5, r6⟩ := num_U t1 t2 hm
    refine ⟨z2, x, S1, So', Sm', a1, r1, ?_, r3.le (by omega), r4, a4.tr r5, a5.tr r6⟩
    rw [if_neg bT, r2, bnq]
    cases z2 with
    | true => rw [if_neg bT, if_pos b1]; rfl
    | false => rw [if_pos bF, if_pos b0]; rfl
  · refine ⟨false, rI S1 3 4, S1, S1, M1, a1, num_F hB.1 _, ?_, Or.inr ⟨rfl, hB⟩, fun c => (by cases c), a4, a5⟩
    rw [if_pos bF, if_pos b0]
    rfl
end STEPS
