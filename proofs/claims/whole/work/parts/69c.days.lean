/-! Days on both sides. -/
section DAYS
variable {n p b k i d s s' bz j a v m q : Nat} {w : List Nat} {tx : Nat → Int32} {T T' So Sm S S' S1 M1 So' Sm' : St} {P Q : Nat → Nat → Bool} {W V : Nat → List Nat} {L : Int32 → Int32 → Int32} {f : Nat → Nat → Int32}
theorem Mks.fr4 (h : Mks T W So Sm) (fo : Fr P So So') (fm : Fr Q Sm Sm') (h12 : P 1 12 = false) (hp : ∀ a k, mko a → P a k = false) (h1 : ∀ a q, a = 543 ∨ (547 ≤ a ∧ a ≤ 549) → 1 ≤ q → q ≤ 4 → Q a q = false) (h2 : ∀ a k, 544 ≤ a ∧ a ≤ 546 → 40 ≤ k → k < 200 → Q a k = false) (h3 : ∀ a k, 550 ≤ a ∧ a ≤ 552 → Q a k = false) (h4 : ∀ k, Q 555 k = false ∧ Q 557 k = false) : Mks T W So' Sm' := by
  obtain ⟨x, b1', b2'⟩ := h
  refine ⟨x, (fo.i h12).trans b1', fun i hi => ?_⟩
  obtain ⟨a1, a2, a3, a4⟩ := b2' i hi
  refine ⟨(fo.q (hp _ _ (Or.inl rfl))).trans a1, (fm.i (h4 _).2).trans a2, a3.fr hi fo hp, fun hx => ?_⟩
  obtain ⟨c1', Y, c2', c3', c4'⟩ := a4 hx
  refine ⟨c1'.fr3 fo fm (fun k => ⟨hp _ _ ?_, hp _ _ ?_, hp _ _ ?_, hp _ _ ?_, hp _ _ ?_⟩) (fun a q => h1 a (1 + i) q (by omega) (by omega)) (fun a k q1 q2 q3 => h2 a k q1 (by omega) (by omega)) (fun a k q1 q2 q3 => h3 a k q1), Y, c2'.frw fo (fun k => hp _ _ ?_) (fun k => hp _ _ ?_), c3', fun k hk => (fm.i (h4 _).1).trans (c4' k hk)⟩
  all_goals (unfold mko; omega)
theorem rd_16F (hF : FT S) (m v : Nat) (x : Int32) : o_rd_readDays_16 (m + 1) v x S = o_rd_readDays_41 S := by
  rw [o_rd_readDays_16]
  unfold o_rd_goesOn o_rd_goesOn_27 o_rd_goesOn_28
  rw [if_neg hF.1, if_pos b0, bnq, if_pos rfl]
  by_cases q : (1000 : Int32) < x
  · rw [if_pos q]
  · rw [if_neg q]
theorem dy_loop : ∀ (j i mo mm : Nat) (k : Nat) (w : List Nat) (b p m : Nat) (f : Nat → Nat → Int32) (So Sm : St), n + 1 ≤ b + j → i ≤ b → j + 1 < mo → j < mm → TK n tx k w b p So Sm → rI So 3 7 = 0 → DYS T W V L v m f So Sm → ∃ z So' Sm', o_rd_readDays_16 mo v (nI i) So = o_rd_readDays_41 So' ∧ m_days_16 mm Sm = (if z = true then m_days_35 Sm' else m_days_30 Sm') ∧ Fr fDo So So' ∧ Fr fDa Sm Sm' ∧ ((z = true ∧ rI So' 3 7 = 0 ∧ ∃ m f, DYS T W V L v m f So' Sm') ∨ (z = false ∧ BAD So' Sm' ∧ ∃ m f, TB 110 40 3 m f So'))
  | 0, i, mo, mm, k, w, b, p, m, f, So, Sm, hbn, hi, hmo, hmm, h, h0, hD => by
    have hn := h.1.1
    have hbp := h.2.2.2.1
    omega
  | j + 1, i, mo, mm, k, w, b, p, m, f, So, Sm, hbn, hi, hmo, hmm, h, h0, hD => by
    obtain ⟨mo, rfl, hmo2⟩ : ∃ mo', mo = mo' + 1 ∧ j + 1 < mo' := ⟨mo - 1, by omega, by omega⟩
    obtain ⟨mm, rfl, hmm'⟩ := fuel hmm
    have hn := h.1.1
    have hbp := h.2.2.2.1
    rw [o_rd_readDays_16, m_days_16, if_neg (show ¬ (1000 : Int32) < nI i from nI_nlt (a := 1000) (by omega) (by decide))]
    unfold o_rd_goesOn o_rd_goesOn_27 o_rd_goesOn_28
    rw [if_pos h0, oq2 h.q, if_pos (h.kc (j := 0) (by decide)), if_pos b0, if_pos b1]
    by_cases q0 : k = 0
    · subst q0
      rw [if_pos rfl, bnq, if_pos rfl, if_pos h.z0]
      exact ⟨true, So, Sm, rfl, rfl, Fr.rf, Fr.rf, Or.inl ⟨rfl, h0, m, f, hD⟩⟩
    rw [if_neg (k_ne (j := 0) q0), bnq, if_neg (show ¬ (1 : Int32) = 0 by decide), if_neg (h.n0 q0)]
    obtain ⟨z, S1, M1, a1, a2, a3, a4, a5⟩ := rLine_ok h h0 hD
    rw [a1, bnq, nI_1, ltq, a2, bnq]
    rcases a3 with ⟨rfl, m', f', k', w', b', p', t1, t2, t3, t4⟩ | ⟨rfl, hB, hT⟩
    · have hb' := t1.2.2.2.1
      obtain ⟨z, So', Sm', l1, l2, l3, l4, l5⟩ := dy_loop j (i + 1) mo mm k' w' b' p' m' f' S1 M1 (by omega) (by omega) (by omega) (by omega) t1 t2 t4
      rw [if_neg bT]
      exact ⟨z, So', Sm', l1, l2, a4.tr l3, a5.tr l4, l5⟩
    · obtain ⟨m2, rfl⟩ : ∃ m2, mo = m2 + 1 := ⟨mo - 1, by omega⟩
      rw [if_pos bF, rd_16F hB.1]
      exact ⟨false, S1, M1, rfl, rfl, a4, a5, Or.inr ⟨rfl, hB, hT⟩⟩
/-- what the class touches in all; the reference -/
def fDtt : Nat → Nat → Bool := fun a k => fDo a k || (a == 3 && k == 1) || a == 141 || (a == 111 && k == 3)
def fDuu : Nat → Nat → Bool := fun a k => fDa a k || (a == 500 && (k == 0 || k == 1 || k == 3)) || fLl 0 a k
theorem fDtt_n {a k : Nat} (h : a ≠ 3) (h1 : a ≠ 110 ∧ a ≠ 140 ∧ a ≠ 141 ∧ a ≠ 111) : fDtt a k = false := by
  unfold fDtt
  rw [fDo_n h ⟨h1.1, h1.2.1⟩, beq_eq_false_iff_ne.mpr h, beq_eq_false_iff_ne.mpr h1.2.2.1, beq_eq_false_iff_ne.mpr h1.2.2.2]
  rfl
theorem fDuu_n {a k : Nat} (h : a ≠ 500) (h1 : ¬ (543 ≤ a ∧ a ≤ 546)) : fDuu a k = false := by
  unfold fDuu fLl
  rw [fDa_n h h1]
  simp
  omega
theorem fDuu_5 {k : Nat} (h : 9 < k) (h2 : k ≠ 46) : fDuu 500 k = false := by
  unfold fDuu fDa fLl
  rw [fCm_n (by omega)]
  simp
  omega
theorem Dft.fr3 (hd : d = 20 ∨ d = 21) (h : Dft d So) (fo : Fr P So So') (hp : ∀ a k, (100 ≤ a ∧ a ≤ 109) ∨ (130 ≤ a ∧ a ≤ 139) → P a k = false) : Dft d So' := by
  obtain ⟨⟨n1, f1, h1⟩, ⟨n2, f2, h2⟩, ⟨n3, f3, h3⟩, ⟨n4, f4, h4⟩, ⟨n5, f5, h5⟩⟩ := h
  exact ⟨⟨n1, f1, h1.fr fo (fun k => hp _ _ (by omega)) (fun k => hp _ _ (by omega))⟩, ⟨n2, f2, h2.fr fo (fun k => hp _ _ (by omega)) (fun k => hp _ _ (by omega))⟩, ⟨n3, f3, h3.fr fo (fun k => hp _ _ (by omega)) (fun k => hp _ _ (by omega))⟩, ⟨n4, f4, h4.fr fo (fun k => hp _ _ (by omega)) (fun k => hp _ _ (by omega))⟩, ⟨n5, f5, h5.fr fo (fun k => hp _ _ (by omega)) (fun k => hp _ _ (by omega))⟩⟩
/-- the invariant behind days -/
theorem dy_inv {Z : Nat → Int32} (h1 : Told T W V L v So Sm) (h2 : Now T Z So Sm) (h4 : Und T n So Sm) (h5 : Mks T W So Sm) (h7 : Rst v So) (fo : Fr fDtt So So') (fm : Fr fDuu Sm Sm') (hS : Slt T W 0 So' Sm') (hT : ∃ m f, TB 110 40 3 m f So') (t1 : rI So' 3 1 = 0) (t2 : rI Sm' 500 1 = 0) : Inv So' Sm' := by
  refine ⟨T, W, V, L, v, Z, n, h1.fr fo fm (fun a k q => fDtt_n (by unfold ton at q; omega) (by unfold ton at q; omega)) (fDtt_n (by decide) (by decide)) (fun a k q => fDuu_n (by omega) (by omega)), h2.fr fo fm (fun k => ⟨fDtt_n (by decide) (by decide), fDtt_n (by decide) (by decide)⟩) (fun k => fDuu_n (by decide) (by decide)), hS, h4.fr fo fm (fun a k q => fDtt_n (by omega) (by omega)) (fDuu_5 (by decide) (by decide)) (fun k => fDuu_n (by decide) (by decide)), h5.fr4 fo fm (fDtt_n (by decide) (by decide)) (fun a k q => fDtt_n (by unfold mko at q; omega) (by unfold mko at q; omega)) (fun a q h1 h2 h3 => ?_) (fun a k h1 h2 h3 => ?_) (fun a k h1 => fDuu_n (by omega) (by omega)) (fun k => ⟨fDuu_n (by decide) (by decide), fDuu_n (by decide) (by decide)⟩), ⟨0, by decide, t1, t2, fun k hk => absurd hk (Nat.not_lt_zero _)⟩, ?_⟩
  · rcases h1 with rfl | h1
    · unfold fDuu fDa fLl
      rw [fCm_n (by omega)]
      simp
      omega
    · exact fDuu_n (by omega) (by omega)
  · unfold fDuu fDa fLl
    rw [fCm_n (by omega)]
    simp
    omega
  · obtain ⟨r1, r2, r3, r4, r5⟩ := h7
    have hv := h1.2.2.2.2.2.1
    refine ⟨(fo.q (fDtt_n (by decide) (by decide))).trans r1, r2.fr3 (by omega) fo (fun a k q => fDtt_n (by omega) (by omega)), hT, fun k hk => (fo.i (fDtt_n (by decide) (by decide))).trans (r4 k hk), ?_⟩
    · rw [fo.q (fDtt_n (by decide) (by decide)), fo.q (fDtt_n (by decide) (by decide))]
      exact r5
end DAYS
