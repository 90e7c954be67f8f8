/-! Reading an orchard: line after line. -/
section ROLOOP
variable {n p b k i d s s' bz j mo mm : Nat} {w : List Nat} {tx : Nat → Int32} {T T' So Sm S S' So' Sm' : St} {P Q : Nat → Nat → Bool} {W V W' V' : Nat → List Nat} {c c' : Nat → Nat}
/-- how the reading of the lines ends -/
def ROE (d : Nat) (z : Bool) (So' Sm' : St) : Prop := (z = true ∧ rI So' 3 7 = 0 ∧ ∃ c T W V b, b ≤ 1000 ∧ RDS d c T W V b So' Sm') ∨ (z = false ∧ BAD So' Sm' ∧ Dft d So')
def ROL (n : Nat) (tx : Nat → Int32) (d j : Nat) : Prop := ∀ (i mo mm : Nat) (k : Nat) (w : List Nat) (b p : Nat) (c : Nat → Nat) (T : St) (W V : Nat → List Nat) (So Sm : St), n + 1 ≤ b + j → i ≤ b → j + 1 < mo → j < mm → TK n tx k w b p So Sm → rI So 3 7 = 0 → RDS d c T W V b So Sm → ∃ z So' Sm', o_rd_readOrchard_13 mo d (nI i) So = o_rd_readOrchard_178 d So' ∧ m_readsAll_64 mm Sm = some (bI z, Sm') ∧ Fr (fLo d) So So' ∧ Fr fLm Sm Sm' ∧ ROE d z So' Sm'
theorem TK.n0 (h : TK n tx k w b p So Sm) (hk : k ≠ 0) : ¬ rI Sm 500 6 = 0 := by
  rcases h.2.2.2.2.2 with ⟨e, _⟩ | ⟨_, e⟩ | ⟨_, e, _⟩ | ⟨_, _, e⟩ | ⟨_, _, e, _⟩
  · exact absurd e hk
  · rw [e]; decide
  · rw [e]; decide
  · rw [e]; decide
  · rw [e]; decide
theorem TK.z0 (h : TK n tx 0 w b p So Sm) : rI Sm 500 6 = 0 := by
  rcases h.2.2.2.2.2 with ⟨_, e⟩ | ⟨e, _⟩ | ⟨e, _⟩ | ⟨e, _, _⟩ | ⟨_, e, _⟩
  · exact e
  · cases e
  · cases e
  · have := (sgT_lt (tx b)).2
    omega
  · have := (ltT_lt (lN (pk5 w))).2
    omega
theorem ro_F (hF : FT S) (m d : Nat) (x : Int32) : o_rd_readOrchard_13 (m + 1) d x S = o_rd_readOrchard_178 d S := by
  rw [o_rd_readOrchard_13]
  unfold o_rd_goesOn o_rd_goesOn_27 o_rd_goesOn_28
  rw [if_neg hF.1, if_pos b0, bnq, if_pos rfl]
  by_cases q : (1000 : Int32) < x
  · rw [if_pos q]
  · rw [if_neg q]
theorem ro_line (ih : ∀ j', j = j' + 1 → ROL n tx d j') (hbn : n + 1 ≤ b + j) (hb1 : b < n + 1) (hi : i ≤ b) (hmo : j < mo) (hmm : j ≤ mm) {X : St → Re Unit} {Y : St → Re Int32} (hl : ∃ z So' Sm', X So = some ((), So') ∧ Y Sm = some (bI z, Sm') ∧ LEND n tx d b z So' Sm' ∧ Fr (fLo d) So So' ∧ Fr fLm Sm Sm') : ∃ z So' Sm', (bn (X So) fun _ S => o_rd_readOrchard_172 (o_rd_readOrchard_13 mo) d (nI i) S) = o_rd_readOrchard_178 d So' ∧ (bn (Y Sm) fun r S => m_readsAll_231 (m_readsAll_64 mm) r S) = some (bI z, Sm') ∧ Fr (fLo d) So So' ∧ Fr fLm Sm Sm' ∧ ROE d z So' Sm' := by
  obtain ⟨z, S1, M1, a1, a2, a3, a4, a5⟩ := hl
  unfold o_rd_readOrchard_172 m_readsAll_231 m_readsAll_236
  rw [a1, bnq, a2, bnq, nI_1, ltq]
  rcases a3 with ⟨rfl, c', T', W', V', k', w', b', p', t1, t2, t3, t4⟩ | ⟨rfl, hB, hD⟩
  · rw [if_neg bT]
    have hb' := t1.2.2.2.1
    obtain ⟨j', rfl⟩ : ∃ j', j = j' + 1 := ⟨j - 1, by omega⟩
    obtain ⟨z, So', Sm', l1, l2, l3, l4, l5⟩ := ih j' rfl (i + 1) mo mm k' w' b' p' c' T' W' V' S1 M1 (by omega) (by omega) (by omega) (by omega) t1 t2 t4
    exact ⟨z, So', Sm', l1, l2, a4.tr l3, a5.tr l4, l5⟩
  · obtain ⟨m, rfl⟩ : ∃ m, mo = m + 1 := ⟨mo - 1, by omega⟩
    rw [if_pos bF, ro_F hB.1]
    exact ⟨false, S1, M1, rfl, rfl, a4, a5, Or.inr ⟨rfl, hB, hD⟩⟩
theorem sm_all2 : ∀ k, k < 42 → ¬ (k = 15 ∨ (19 ≤ k ∧ k ≤ 21) ∨ (24 ≤ k ∧ k ≤ 28)) → ¬ (8 ≤ (smL.getD k 0).toInt ∧ (smL.getD k 0).toInt ≤ 16) := by decide +kernel
theorem ro_step (hd : d = 20 ∨ d = 21) (j : Nat) (ih : ∀ j', j = j' + 1 → ROL n tx d j') : ROL n tx d j := fun i mo mm k w b p c T W V So Sm hbn hi hmo hmm h h0 hR => by
  have hkd := kd_d hd
  obtain ⟨mo, rfl, hmo2⟩ : ∃ mo', mo = mo' + 1 ∧ j < mo' := ⟨mo - 1, by omega, by omega⟩
  obtain ⟨mm, rfl, hmm'⟩ := fuel hmm
  have hn := h.1.1
  have hbp := h.2.2.2.1
  have hk42 := h.lt
  rw [o_rd_readOrchard_13, m_readsAll_64, if_neg (show ¬ (1000 : Int32) < nI i from nI_nlt (a := 1000) (by omega) (by decide))]
  unfold o_rd_goesOn o_rd_goesOn_27 o_rd_goesOn_28
  rw [if_pos h0, oq2 h.q, if_pos (h.kc (j := 0) (by decide)), if_pos b0, if_pos b1]
  by_cases q0 : k = 0
  · subst q0
    unfold m_readsAll_241
    rw [if_pos rfl, bnq, if_pos rfl, if_pos h.z0]
    exact ⟨true, So, Sm, rfl, rfl, Fr.rf, Fr.rf, Or.inl ⟨rfl, h0, c, T, W, V, b, by omega, hR⟩⟩
  have hb1 : b < n + 1 := by omega
  have kk : KO.1 (1000 + k) = (20, k) := kt hk42
  rw [if_neg (k_ne (j := 0) q0), bnq, if_neg (show ¬ (1 : Int32) = 0 by decide), if_neg (h.n0 q0), oq2 h.q, kk, if_pos rfl]
  show ∃ z So' Sm', (if (nI k) < 0 ∨ 42 ≤ (nI k).toNatClampNeg then _ else _) = _ ∧ _
  rw [if_neg (nI_in (show k < 42 by omega) (by decide))]
  have ck : ∀ (x : Nat), x < 42 → (Int32.ofNat ((20, x) : Nat × Nat).2).toNatClampNeg = x := fun x hx => nI_clamp (n := x) (by omega)
  rw [ck k hk42]
  have w15 := isWord_ok h 15 (by decide) (K := 858362) (by decide)
  have w19 := isWord_ok h 19 (by decide) (K := 410684) (by decide)
  have w20 := isWord_ok h 20 (by decide) (K := 8371260) (by decide)
  have w21 := isWord_ok h 21 (by decide) (K := 232608281) (by decide)
  have w24 := isWord_ok h 24 (by decide) (K := 206754213222) (by decide)
  have w25 := isWord_ok h 25 (by decide) (K := 315851) (by decide)
  have w26 := isWord_ok h 26 (by decide) (K := 40487) (by decide)
  have w27 := isWord_ok h 27 (by decide) (K := 279252) (by decide)
  have w28 := isWord_ok h 28 (by decide) (K := 11720705) (by decide)
  rw [w15, bnq]
  by_cases q1 : k = 15
  · subst q1
    rw [decide_eq_true rfl, if_neg bT, if_pos (by decide)]
    exact ro_line (j := j) ih hbn hb1 hi hmo2 (by omega) (X := o_rd_readApple d) (Y := m_readsApple) (rdA_ok hd h q0 h0 hR)
  rw [decide_eq_false q1, if_pos bF, w19, bnq]
  by_cases q2 : k = 19
  · subst q2
    rw [decide_eq_true rfl, if_neg bT, if_neg (by decide), if_pos (by decide)]
    exact ro_line (j := j) ih hbn hb1 hi hmo2 (by omega) (X := o_rd_readTwin d) (Y := m_readsTwin) (twin_ok hd h q0 h0 hR)
  rw [decide_eq_false q2, if_pos bF, w20, bnq]
  by_cases q3 : k = 20
  · subst q3
    rw [decide_eq_true rfl, if_neg bT, if_neg (by decide), if_neg (by decide), if_pos (by decide)]
    exact ro_line (j := j) ih hbn hb1 hi hmo2 (by omega) (X := o_rd_readOther d) (Y := m_readsOther) (other_ok hd h q0 h0 hR)
  rw [decide_eq_false q3, if_pos bF, w21, bnq]
  by_cases q4 : k = 21
  · subst q4
    rw [decide_eq_true rfl, if_neg bT, if_neg (by decide), if_neg (by decide), if_neg (by decide), if_pos (by decide)]
    exact ro_line (j := j) ih hbn hb1 hi hmo2 (by omega) (X := o_rd_readPerson d) (Y := m_readsPerson) (readPerson_ok hd h q0 h0 hR)
  rw [decide_eq_false q4, if_pos bF, w24, bnq]
  by_cases q5 : k = 24
  · subst q5
    rw [decide_eq_true rfl, if_neg bT, if_neg (by decide), if_neg (by decide), if_neg (by decide), if_neg (by decide), if_pos (by decide)]
    exact ro_line (j := j) ih hbn hb1 hi hmo2 (by omega) (X := o_rd_readStranger d) (Y := m_readsStranger) (stranger_ok hd h q0 h0 hR)
  rw [decide_eq_false q5, if_pos bF, w25, bnq]
  by_cases q6 : k = 25
  · subst q6
    rw [decide_eq_true rfl, if_neg bT, if_neg (by decide), if_neg (by decide), if_neg (by decide), if_neg (by decide), if_neg (by decide), if_pos (by decide)]
    exact ro_line (j := j) ih hbn hb1 hi hmo2 (by omega) (X := o_rd_readPage d) (Y := m_readsPage) (readPage_ok hd h q0 h0 hR)
  rw [decide_eq_false q6, if_pos bF, w26, bnq]
  by_cases q7 : k = 26
  · subst q7
    rw [decide_eq_true rfl, if_neg bT, if_neg (by decide), if_neg (by decide), if_neg (by decide), if_neg (by decide), if_neg (by decide), if_neg (by decide), if_pos (by decide)]
    exact ro_line (j := j) ih hbn hb1 hi hmo2 (by omega) (X := o_rd_readBann d) (Y := m_readsBann) (bann_ok hd h q0 h0 hR)
  rw [decide_eq_false q7, if_pos bF, w27, bnq]
  by_cases q8 : k = 27
  · subst q8
    rw [decide_eq_true rfl, if_neg bT, if_neg (by decide), if_neg (by decide), if_neg (by decide), if_neg (by decide), if_neg (by decide), if_neg (by decide), if_neg (by decide), if_pos (by decide)]
    exact ro_line (j := j) ih hbn hb1 hi hmo2 (by omega) (X := o_rd_readNear d) (Y := m_readsLaw 0) (readNear_ok hd h q0 h0 hR)
  rw [decide_eq_false q8, if_pos bF, w28, bnq]
  by_cases q9 : k = 28
  · subst q9
    rw [decide_eq_true rfl, if_neg bT, if_neg (by decide), if_neg (by decide), if_neg (by decide), if_neg (by decide), if_neg (by decide), if_neg (by decide), if_neg (by decide), if_neg (by decide), if_pos (by decide)]
    exact ro_line (j := j) ih hbn hb1 hi hmo2 (by omega) (X := o_rd_readValue d) (Y := m_readsLaw 1) (readValue_ok hd h q0 h0 hR)
  have sA := sm_all2 k hk42 (by omega)
  rw [decide_eq_false q9, if_pos bF, if_neg (show ¬ (smL.getD k 0).toInt = 8 by omega), if_neg (show ¬ (smL.getD k 0).toInt = 9 by omega), if_neg (show ¬ (smL.getD k 0).toInt = 10 by omega), if_neg (show ¬ (smL.getD k 0).toInt = 11 by omega), if_neg (show ¬ (smL.getD k 0).toInt = 12 by omega), if_neg (show ¬ (smL.getD k 0).toInt = 13 by omega), if_neg (show ¬ (smL.getD k 0).toInt = 14 by omega), if_neg (show ¬ (smL.getD k 0).toInt = 15 by omega), if_neg (show ¬ (smL.getD k 0).toInt = 16 by omega)]
  have hB := bad_of (Sm1 := Sm) h (j := 1) (by decide) (by decide)
  have f1 : Fr fCo So (wI So 3 7 (nI 1 + 16 * nI b)) := Fr.wI rfl
  exact ro_line (j := j) ih hbn hb1 hi hmo2 (by omega) (X := o_tp_wrong 1) (Y := m_fails 1) ⟨false, _, _, wr_U h h0 1, m_fails_ok 1 Sm h.2.2.1.2, bad_end2 hd hR.2.2.1.dft hB f1 (fLm_c (Fr.wI rfl)) rfl⟩
theorem ro_loop (hd : d = 20 ∨ d = 21) : ∀ j, ROL n tx d j
  | 0 => ro_step hd 0 fun j' q => absurd q (by omega)
  | j + 1 => ro_step hd (j + 1) fun j' q => by
    obtain rfl : j = j' := by omega
    exact ro_loop hd j
end ROLOOP
