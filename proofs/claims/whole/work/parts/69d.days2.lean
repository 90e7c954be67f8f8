/-! Days on both sides: days_ok. -/
section DAYS2
variable {n p b k i d s s' bz j a v m q : Nat} {w : List Nat} {tx : Nat → Int32} {T T' So Sm S S' S1 M1 So' Sm' : St} {P Q : Nat → Nat → Bool} {W V : Nat → List Nat} {L : Int32 → Int32 → Int32} {f : Nat → Nat → Int32}
def fD1 : Nat → Nat → Bool := fun a k => fDo a k || (a == 3 && k == 1)
def fD2 : Nat → Nat → Bool := fun a k => fDa a k || (a == 500 && (k == 0 || k == 1 || k == 3))
theorem fD1_n {a k : Nat} (h : a ≠ 3) (h1 : a ≠ 110 ∧ a ≠ 140) : fD1 a k = false := by
  unfold fD1
  rw [fDo_n h h1, beq_eq_false_iff_ne.mpr h]
  rfl
theorem fD2_n {a k : Nat} (h : a ≠ 500) (h1 : ¬ (543 ≤ a ∧ a ≤ 546)) : fD2 a k = false := by
  unfold fD2
  rw [fDa_n h h1, beq_eq_false_iff_ne.mpr h]
  rfl
theorem fD1_t (h : Fr fD1 S S') : Fr fDtt S S' := h.mo fun a k q => by
  unfold fDtt at q
  simp only [Bool.or_eq_false_iff] at q
  unfold fD1
  rw [q.1.1.1, q.1.1.2]
  rfl
theorem fD2_u (h : Fr fD2 S S') : Fr fDuu S S' := h.mo fun a k q => by
  unfold fDuu at q
  simp only [Bool.or_eq_false_iff] at q
  unfold fD2
  rw [q.1.1, Bool.false_or]
  exact q.1.2
theorem days_ok (h : Inv So Sm) : Sim (o_days So) (m_days Sm) () := by
  obtain ⟨T, W, V, L, v, Z, n, h1, h2, h3, h4, h5, h6, h7⟩ := h
  have hv := h1.2.2.2.2.2.1
  obtain ⟨N, g1, g2, g3, g4⟩ := h6
  obtain ⟨r1, r2, ⟨m0, f0, r3⟩, r4, r5⟩ := id h7
  have tc := tb_clear r3 (fun _ _ => 0)
  have hX : TXR N (fun k => rI So 4 k) (wI (wI (wI So 110 3 0) 3 2 0) 3 7 0) (wI (wI (wI (wI (wI Sm 500 0 0) 543 5 0) 500 3 (nI N)) 500 1 0) 500 4 0) := by
    refine ⟨g1, ?_, ?_, fun k hk => ⟨?_, ?_⟩⟩
    · rw [rI_wI_k (by decide), rI_wI_k (by decide), rI_wI_a (by decide), g2]
    · rw [rI_wI_k (by decide), rI_wI_k (by decide), rI_wI]
    · rw [rI_wI_a (by decide), rI_wI_a (by decide), rI_wI_a (by decide)]
    · rw [rI_wI_a (by decide), rI_wI_a (by decide), rI_wI_a (by decide), rI_wI_a (by decide), rI_wI_a (by decide), ← g4 k hk]
  obtain ⟨k, w, b, p, S4, M4, e1, e2, e3, e4, e5, e6⟩ := nx_ok hX rI_wI (p := 0) (by rw [rI_wI_k (by decide), rI_wI]; rfl) (by rw [rI_wI]; rfl) (Nat.zero_le _)
  have fz : Fr fDo (wI So 110 3 0) S4 := ((Fr.wI rfl).tr (Fr.wI rfl)).tr (fDo_c (fCo_To e5))
  have fo4 : Fr fDo So S4 := (Fr.wI rfl : Fr fDo So (wI So 110 3 0)).tr fz
  have fm4 : Fr fD2 Sm M4 := ((((Fr.wI rfl).tr (Fr.wI rfl)).tr (Fr.wI rfl)).tr (Fr.wI rfl)).tr ((Fr.wI rfl : Fr fD2 _ _).tr ((fDa_c (fCm_Tm e6)).mo fun a k q => (Bool.or_eq_false_iff.mp q).1))
  have hD4 : DYS T W V L v 0 (fun _ _ => 0) S4 M4 := by
    refine ⟨h1.fr fo4 fm4 (fun a k q => fDo_n (by unfold ton at q; omega) (by unfold ton at q; omega)) (fDo_n (by decide) (by decide)) (fun a k q => fD2_n (by omega) (by omega)), Nat.zero_le _, ?_, fun i hi => absurd hi (Nat.not_lt_zero _), ?_, fun i hi => absurd hi (Nat.not_lt_zero _)⟩
    · exact tc.2.fr (((Fr.wI rfl).tr (Fr.wI rfl)).tr (fCo_To e5) : Fr fCo (wI So 110 3 0) S4) (fun k => rfl) (fun k => rfl)
    · rw [e6.i (by rfl), rI_wI_a (by decide), rI_wI_a (by decide), rI_wI_a (by decide), rI_wI]
      rfl
  have hN := e3.1.1
  obtain ⟨z, S5, M5, l1, l2, l3, l4, l5⟩ := dy_loop (N + 1) 0 FU FU k w b p 0 _ S4 M4 (by omega) (Nat.zero_le _) (by unfold FU; omega) (by unfold FU; omega) e3 ((e5.i (by rfl)).trans rI_wI) hD4
  have fo5 : Fr fDo So S5 := fo4.tr l3
  have fm5 : Fr fD2 Sm M5 := fm4.tr (l4.mo fun a k q => (Bool.or_eq_false_iff.mp q).1)
  have fo6 : Fr fD1 So (wI S5 3 1 0) := (fo5.mo fun a k q => (Bool.or_eq_false_iff.mp q).1).tr (Fr.wI rfl)
  have e51 : rI M5 500 1 = 0 := (l4.i (by rfl)).trans ((e6.i (by rfl)).trans ((rI_wI_k (by decide)).trans rI_wI))
  have eo : o_days So = bn (o_rd_readDays_41 S5) fun r2 S3 => if r2 = 0 then (bn (o_tb_copy 111 110 S3) fun _ S5 => o_days_33 r2 S5) else o_days_33 r2 S3 := by
    unfold o_days o_rd_readDays o_tp_open
    rw [oq2 h1.2.2.2.2.1, tc.1, bnq, ltq (wI (wI So 110 3 0) 3 2 0), ltq (wI (wI (wI So 110 3 0) 3 2 0) 3 7 0), e1, bnq, bnq, (show o_rd_readDays_16 FU v 0 S4 = _ from l1)]
  have em : m_days Sm = (if z = true then m_days_35 M5 else m_days_30 M5) := by
    unfold m_days m_starts
    rw [ltq (wI Sm 500 0 0), if_neg g5_6, c5, ltq (wI (wI Sm 500 0 0) 543 5 0), (show rI (wI (wI Sm 500 0 0) 543 5 0) 500 1 = nI N from (rI_wI_a (by decide)).trans ((rI_wI_k (by decide)).trans g3)), ltq (wI (wI (wI Sm 500 0 0) 543 5 0) 500 3 _), ltq (wI (wI (wI (wI Sm 500 0 0) 543 5 0) 500 3 _) 500 1 _), ltq (wI (wI (wI (wI (wI Sm 500 0 0) 543 5 0) 500 3 _) 500 1 _) 500 4 _), e2, bnq, bnq]
    exact l2
  unfold o_rd_readDays_41 o_tp_clear o_days_33 at eo
  rw [ltq (wI S5 3 1 0), bnq, bnq, rI_wI_k (show 7 ≠ 1 by decide)] at eo
  rcases l5 with ⟨rfl, c7, m, f, hD⟩ | ⟨rfl, hB, m, f, hT⟩
  · obtain ⟨d1', d2', d3', d4', d5', d6'⟩ := hD
    obtain ⟨nn, ff, mm, gg, kn, th, s1, s2, s3, s4, s5, s6, s7, s8, s9, s10, s11⟩ := h3
    have k1 : TB 111 40 3 nn ff (wI S5 3 1 0) := s1.fr fo6 (fun k => fD1_n (by decide) (by decide)) (fun k => fD1_n (by decide) (by decide))
    have k2 : TB 110 40 3 m f (wI S5 3 1 0) := d3'.fr (Fr.wI rfl : Fr (fun a _ => a == 3) S5 _) (fun k => rfl) (fun k => rfl)
    obtain ⟨S7, y1, y2, y3⟩ := tb_copy k1 k2 (by decide) (by decide) (by decide)
    obtain ⟨M6, x1, x2, x3, x4⟩ := ll_ok (a := 5) (b := 0) (by decide) (by decide) (by decide) M5
    rw [c7, if_pos rfl, y1, bnq] at eo
    unfold m_days_35 at em
    rw [if_pos rfl, (show m_laysLines 5 0 M5 = _ from x1), bnq] at em
    have fo7 : Fr fDtt So S7 := (fD1_t fo6).tr (y3.mo fun a k q => by
      unfold fDtt at q
      simp at q ⊢
      omega)
    have fm6 : Fr fDuu Sm M6 := (fD2_u fm5).tr (x4.mo fun a k q => (Bool.or_eq_false_iff.mp q).2)
    have f7 : ∀ (a k : Nat), a ≠ 3 → (a ≠ 110 ∧ a ≠ 140 ∧ a ≠ 141 ∧ a ≠ 111) → fDtt a k = false := fun a k q1 q2 => fDtt_n q1 q2
    have x9 : ∀ a k, a ≠ 500 → ¬ (543 ≤ a ∧ a ≤ 546) → fDuu a k = false := fun a k q1 q2 => fDuu_n q1 q2
    refine ⟨0, S7, M6, eo, em, dy_inv h1 h2 h4 h5 h7 fo7 fm6 ⟨m, f, mm, gg, kn, th, y2, d4', ⟨x2.trans d5', fun i hi => ?_⟩, s4.fr fo7 (fun k => f7 _ _ (by decide) (by decide)) (fun k => f7 _ _ (by decide) (by decide)), s5.fr fm6 (fun a k q => x9 _ _ (by omega) (by omega)), (fo7.i (f7 _ _ (by decide) (by decide))).trans s6, (fm6.i (x9 _ _ (by decide) (by decide))).trans s7, (fo7.i (f7 _ _ (by decide) (by decide))).trans s8, (fm6.i (x9 _ _ (by decide) (by decide))).trans s9, s10, s11⟩ ⟨m, f, k2.fr y3 (fun k => rfl) (fun k => rfl)⟩ ?_ ?_⟩
    · have := d6' i hi
      rw [x3 544 i (by decide) (by omega), x3 545 i (by decide) (by omega), x3 546 i (by decide) (by omega)]
      exact this
    · rw [y3.i (by rfl), rI_wI]
    · rw [x4.i (by rfl)]
      exact e51
  · rw [if_neg hB.1.1] at eo
    unfold m_days_30 at em
    rw [if_neg (by decide)] at em
    refine ⟨rI M5 500 9, wI S5 3 1 0, M5, eo.trans (by rw [hB.2]), em, dy_inv h1 h2 h4 h5 h7 (fD1_t fo6) (fD2_u fm5) (h3.fr3 fo6 fm5 (fun k => ⟨fD1_n (by decide) (by decide), fD1_n (by decide) (by decide), fD1_n (by decide) (by decide), fD1_n (by decide) (by decide), fD1_n (by decide) (by decide)⟩) (fun a q => ?_) (fun a k q1 q2 q3 => ?_) (fun a k q1 q2 q3 => fD2_n (by omega) (by omega))) ⟨m, f, hT.fr (Fr.wI rfl : Fr (fun a _ => a == 3) S5 _) (fun k => rfl) (fun k => rfl)⟩ rI_wI e51⟩
    · rcases q with rfl | q
      · rfl
      · exact fD2_n (by omega) (by omega)
    · unfold fD2 fDa
      rw [fCm_n (by omega)]
      simp
      omega
end DAYS2
