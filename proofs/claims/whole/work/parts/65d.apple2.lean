/-! Reading an orchard: apple, the line. -/
section APPLE2
variable {n p b k i d s s' bz m : Nat} {w : List Nat} {tx : Nat → Int32} {T T' So Sm S S' So' Sm' : St} {P Q : Nat → Nat → Bool} {W V W' V' : Nat → List Nat} {c c' : Nat → Nat}
theorem tk6 (h : FT S) : o_rd_take 1006 S = some ((), S) := take_F h (t := 6) (by decide)
theorem tk16 (h : FT S) : o_rd_take 1016 S = some ((), S) := take_F h (t := 16) (by decide)
theorem tk17 (h : FT S) : o_rd_take 1017 S = some ((), S) := take_F h (t := 17) (by decide)
theorem tk18 (h : FT S) : o_rd_take 1018 S = some ((), S) := take_F h (t := 18) (by decide)
theorem tk22 (h : FT S) : o_rd_take 1022 S = some ((), S) := take_F h (t := 22) (by decide)
theorem tk23 (h : FT S) : o_rd_take 1023 S = some ((), S) := take_F h (t := 23) (by decide)
theorem fLo_c (h : Fr fCo S S') : Fr (fLo d) S S' := h.mo fun _ _ q => fLo_C q
theorem fLm_c (h : Fr fCm S S') : Fr fLm S S' := h.mo fun _ _ q => fLm_C q
theorem fLm_d (h : Fr fDm S S') : Fr fLm S S' := h.mo fun _ _ q => fDm_L q
theorem OMs.cq (h : OMs T Sm) (f : Fr fCm Sm Sm') : OMs T Sm' := h.fr f fun _ _ q1 q2 => fCm_d q1 q2
theorem fD_w {a j k : Nat} {x : Int32} (h : 502 ≤ a) (h2 : a ≤ 520) (hj : j = shf a + k) : Fr fDm S (wI S a j x) := Fr.wI (fDm_w h h2 hj)
theorem fD_V {a j k : Nat} {x : Int64} (h : 502 ≤ a) (h2 : a ≤ 520) (hj : j = shf a + k) : Fr fDm S (wJ S a j x) := Fr.wJ (fDm_w h h2 hj)
theorem bad_end2 {z : Bool} (hd : d = 20 ∨ d = 21) (hft : Dft d So) (hB : BAD So' Sm') (fo : Fr fCo So So') (fm : Fr fLm Sm Sm') (hz : z = false) : LEND n tx d b z So' Sm' ∧ Fr (fLo d) So So' ∧ Fr fLm Sm Sm' := ⟨Or.inr ⟨hz, hB, hft.fC hd fo⟩, fLo_c fo, fm⟩
theorem rdA_ok (hd : d = 20 ∨ d = 21) (h : TK n tx k w b p So Sm) (hk : k ≠ 0) (h0 : rI So 3 7 = 0) (hR : RDS d c T W V b So Sm) : ∃ z So' Sm', o_rd_readApple d So = some ((), So') ∧ m_readsApple Sm = some (bI z, Sm') ∧ LEND n tx d b z So' Sm' ∧ Fr (fLo d) So So' ∧ Fr fLm Sm Sm' := by
  have hkd := kd_d hd
  obtain ⟨hD, hO, hT, hL⟩ := id hR
  obtain ⟨t1, t2, t3, t4, t5, t6, t7⟩ := id hT
  have hb := hD.2.1
  have hft : Dft d So := hT.dft
  have hL : LWS d b So Sm := hL
  unfold o_rd_readApple o_rd_readApple_199 m_readsApple
  rw [if_pos hkd, if_pos t1.k, tb_full t1, bnq, if_neg g6_12, c6, (show rI Sm 502 6 = nI (c 0) from hR.nn (j := 0) (by decide)), (show (10 : Int32) + nI (c 0) = nI (10 + c 0) from nI_add 10 _), ltq]
  by_cases q : c 0 < 10
  rotate_left
  · obtain ⟨e1, e2, hB⟩ := open_U1 h h0
    rw [decide_eq_true (show 10 ≤ c 0 by omega), if_pos (show nI (10 + c 0) = 20 by rw [show 10 + c 0 = 20 by omega]; rfl), (show o_rd_open (bI true) So = _ from e1), bnq, e2, bnq, if_pos b0]
    refine ⟨false, _, _, ?_, rfl, bad_end2 hd hft hB (Fr.wI rfl) (fLm_c (Fr.wI rfl)) rfl⟩
    obtain ⟨x, hx⟩ := sort_F hB.1
    simp only [newName_F hB.1, hx, num_F hB.1, tk16 hB.1, tk17 hB.1, tk18 hB.1, tk6 hB.1, bnq, if_neg hB.1.1]
  rw [decide_eq_false (show ¬ 10 ≤ c 0 by omega), if_neg (show ¬ nI (10 + c 0) = 20 from nI_ne (b := 20) (by omega) (by omega) (by decide))]
  obtain ⟨k1, w1, b1', p1, S1, M1, e1, e2, e3, e4, e5, e6, e7⟩ := open_U0 h h0 hk
  have hR1 := hR.cf hd (fCo_To e6) (fCm_Tm e7) (show b ≤ b1' by omega)
  obtain ⟨z, x, S2, M2, g1, g2, g3, g4, g5⟩ := newName_U e3 e4 hkd hR1.2.2.1.2.2.2.2.2.1 hR1.2.2.1.2.2.2.2.2.2 hR1.sn hR1.pn
  rw [(show o_rd_open (bI false) So = _ from e1), bnq, g1, e2, bnq, g2, bnq]
  unfold o_rd_newName_47
  rcases g3 with ⟨rfl, rfl, rfl, i1, rfl, i3, i4⟩ | ⟨rfl, hB⟩
  rotate_left
  · rw [if_pos bF]
    refine ⟨false, S2, M2, ?_, rfl, bad_end2 hd hft hB ((fCo_To e6).tr g4) (fLm_c ((fCm_Tm e7).tr g5)) rfl⟩
    obtain ⟨y, hy⟩ := sort_F hB.1
    simp only [st_F hB.1, hy, num_F hB.1, tk16 hB.1, tk17 hB.1, tk18 hB.1, tk6 hB.1, bnq, if_neg hB.1.1]
  obtain ⟨k2, w2, b2, p2, S3, M3, r1, r2, r3, r4, r5, r6, r7⟩ := nx_U e3 e4 i4
  rw [if_neg bT, ltq, r1, bnq, bnq, r2, bnq, m_sort r3]
  obtain ⟨so1, so2⟩ := sort_U r3 r4
  have fo3 : Fr fCo So S3 := (fCo_To e6).tr (fCo_To r6)
  have fm3 : Fr fCm Sm M3 := (fCm_Tm e7).tr (fCm_Tm r7)
  have hO3 : OMs T M3 := hO.cq fm3
  unfold m_readsApple_107
  rw [if_neg (nI_in (show 10 + c 0 < 20 by omega) (by decide)), nI_clamp (by omega), i3]
  have w506 : ∀ x : Int32, Fr fDm M3 (wI M3 506 (10 + c 0) x) := fun x => fD_w (k := c 0) (by decide) (by decide) rfl
  by_cases qs : 32 ≤ k2 ∧ k2 ≤ 35
  rotate_left
  · rw [if_neg qs, so2 qs, bnq, ltq (wI M3 506 _ _), if_neg (nI_inC (show 10 + c 0 < 20 by omega) (by decide)), rI_wI, if_pos (show (-1 : Int32) < 0 by decide), m_fails_ok 1 _ ((r3.dm (w506 (-1))).2.2.1.2), bnq, if_pos b0]
    have hB := bad_of (Sm1 := wI M3 506 (10 + c 0) (-1)) r3 (j := 1) (by decide) (by decide)
    refine ⟨false, _, _, ?_, rfl, bad_end2 hd hft hB (fo3.tr (Fr.wI rfl)) (((fLm_c fm3).tr (fLm_d (w506 (-1)))).tr (fLm_c (Fr.wI rfl))) rfl⟩
    simp only [num_F hB.1, tk16 hB.1, tk17 hB.1, tk18 hB.1, tk6 hB.1, bnq, if_neg hB.1.1]
  have hsr : srtN k2 < 4 := by
    unfold srtN
    repeat' split
    all_goals omega
  have h4 := r3.dm (w506 (nI (srtN k2)))
  obtain ⟨k3, w3, b3, p3, S4, M4, u1, u2, u3, u4, u5, u6, u7⟩ := nx_U h4 r4 (by omega)
  rw [if_pos qs, so1 qs S4 u1, bnq, ltq (wI M3 506 _ _), if_neg (nI_inC (show 10 + c 0 < 20 by omega) (by decide)), rI_wI, if_neg (nI_pos (by omega)), u2, bnq]
  have fo4 := fo3.tr (fCo_To u6)
  have fm4 : Fr fLm Sm M4 := ((fLm_c fm3).tr (fLm_d (w506 _))).tr (fLm_c (fCm_Tm u7))
  have hO4 : OMs (wI T 506 (c 0) (nI (srtN k2))) M4 := (hO3.wI (k := c 0) rfl).cq (fCm_Tm u7)
  have hL4 : LWS d b3 S4 M4 := ((hL.cf hd fo3 fm3 (show b ≤ b2 by omega)).dm hd (w506 _)).cf hd (fCo_To u6) (fCm_Tm u7) (by omega)
  -- at
  obtain ⟨z5, x5, S5a, S5, M5, v1, v2, v3, v4, v5, v6, v7⟩ := both_U u3 u4 16 (by decide) (K := 47) (by decide) (mx := 11) (by decide)
  rw [(show o_rd_take 1016 S4 = _ from v1), bnq, (show o_rd_number 11 S5a = _ from v2), bnq, (show m_needsBoth 47 0 11 M4 = _ from v3), bnq]
  rcases v4 with ⟨rfl, k5, w5, b5, p5, y1, y2, y3⟩ | ⟨rfl, hB⟩
  rotate_left
  · rw [if_pos bF]
    refine ⟨false, S5, M5, ?_, rfl, bad_end2 hd hft hB (fo4.tr v6) (fm4.tr (fLm_c v7)) rfl⟩
    simp only [num_F hB.1, tk17 hB.1, tk18 hB.1, tk6 hB.1, bnq, if_neg hB.1.1]
  obtain ⟨j5, j5l, rfl, j5m⟩ := v5 rfl
  have w507 : Fr fDm M5 (wI M5 507 (10 + c 0) (nI j5)) := fD_w (k := c 0) (by decide) (by decide) rfl
  rw [if_neg bT, if_neg (nI_inC (show 10 + c 0 < 20 by omega) (by decide)), j5m, ltq (wI M5 507 _ _)]
  have fo5 := fo4.tr v6
  have fm5 : Fr fLm Sm (wI M5 507 (10 + c 0) (nI j5)) := (fm4.tr (fLm_c v7)).tr (fLm_d w507)
  have hO5 : OMs (wI (wI T 506 (c 0) (nI (srtN k2))) 507 (c 0) (nI j5)) (wI M5 507 (10 + c 0) (nI j5)) := (hO4.cq v7).wI (k := c 0) rfl
  have hL5 : LWS d b5 S5 (wI M5 507 (10 + c 0) (nI j5)) := (hL4.cf hd v6 v7 (by omega)).dm hd w507
  have y1' := y1.dm w507
  generalize wI M5 507 (10 + c 0) (nI j5) = N5 at *
  -- the second number
  obtain ⟨z6, x6, S6, M6, a1, a2, a3, a4, a5, a6⟩ := num_U y1' y2 (mx := 11) (by decide)
  rw [(show o_rd_number 11 S5 = _ from a1), bnq, (show m_needsNumber 0 11 N5 = _ from a2), bnq]
  rcases a3 with ⟨rfl, k6, w6, b6, p6, f1, f2, f3⟩ | ⟨rfl, hB⟩
  rotate_left
  · rw [if_pos bF]
    refine ⟨false, S6, M6, ?_, rfl, bad_end2 hd hft hB (fo5.tr a5) (fm5.tr (fLm_c a6)) rfl⟩
    simp only [num_F hB.1, tk17 hB.1, tk18 hB.1, tk6 hB.1, bnq, if_neg hB.1.1]
  obtain ⟨j6, j6l, rfl, j6m⟩ := a4 rfl
  have w508 : Fr fDm M6 (wI M6 508 (10 + c 0) (nI j6)) := fD_w (k := c 0) (by decide) (by decide) rfl
  rw [if_neg bT, if_neg (nI_inC (show 10 + c 0 < 20 by omega) (by decide)), j6m, ltq (wI M6 508 _ _)]
  have fo6 := fo5.tr a5
  have fm6 : Fr fLm Sm (wI M6 508 (10 + c 0) (nI j6)) := (fm5.tr (fLm_c a6)).tr (fLm_d w508)
  have hO6 : OMs (wI (wI (wI T 506 (c 0) (nI (srtN k2))) 507 (c 0) (nI j5)) 508 (c 0) (nI j6)) (wI M6 508 (10 + c 0) (nI j6)) := (hO5.cq a6).wI (k := c 0) rfl
  have hL6 : LWS d b6 S6 (wI M6 508 (10 + c 0) (nI j6)) := (hL5.cf hd a5 a6 (by omega)).dm hd w508
  have f1' := f1.dm w508
  generalize wI M6 508 (10 + c 0) (nI j6) = N6 at *
  -- ripe
  obtain ⟨z7, x7, S7a, S7, M7, l1, l2, l3, l4, l5, l6, l7⟩ := both_U f1' f2 17 (by decide) (K := 361292) (by decide) (mx := 60) (by decide)
  rw [(show o_rd_take 1017 S6 = _ from l1), bnq, (show o_rd_number 60 S7a = _ from l2), bnq, (show m_needsBoth 361292 0 60 N6 = _ from l3), bnq]
  rcases l4 with ⟨rfl, k7, w7, b7, p7, n1, n2, n3⟩ | ⟨rfl, hB⟩
  rotate_left
  · rw [if_pos bF]
    refine ⟨false, S7, M7, ?_, rfl, bad_end2 hd hft hB (fo6.tr l6) (fm6.tr (fLm_c l7)) rfl⟩
    simp only [num_F hB.1, tk18 hB.1, tk6 hB.1, bnq, if_neg hB.1.1]
  obtain ⟨j7, j7l, rfl, j7m⟩ := l5 rfl
  have w509 : Fr fDm M7 (wI M7 509 (10 + c 0) (nI j7)) := fD_w (k := c 0) (by decide) (by decide) rfl
  rw [if_neg bT, if_neg (nI_inC (show 10 + c 0 < 20 by omega) (by decide)), j7m, ltq (wI M7 509 _ _)]
  have fo7 := fo6.tr l6
  have fm7 : Fr fLm Sm (wI M7 509 (10 + c 0) (nI j7)) := (fm6.tr (fLm_c l7)).tr (fLm_d w509)
  have hO7 : OMs (wI (wI (wI (wI T 506 (c 0) (nI (srtN k2))) 507 (c 0) (nI j5)) 508 (c 0) (nI j6)) 509 (c 0) (nI j7)) (wI M7 509 (10 + c 0) (nI j7)) := (hO6.cq l7).wI (k := c 0) rfl
  have hL7 : LWS d b7 S7 (wI M7 509 (10 + c 0) (nI j7)) := (hL6.cf hd l6 l7 (by omega)).dm hd w509
  have n1' := n1.dm w509
  generalize wI M7 509 (10 + c 0) (nI j7) = N7 at *
  -- worth
  obtain ⟨z8, x8, S8a, S8, M8, o1, o2, o3, o4, o5, o6, o7⟩ := both_U n1' n2 18 (by decide) (K := 12532058) (by decide) (mx := 99) (by decide)
  rw [(show o_rd_take 1018 S7 = _ from o1), bnq, (show o_rd_number 99 S8a = _ from o2), bnq, (show m_needsBoth 12532058 0 99 N7 = _ from o3), bnq]
  rcases o4 with ⟨rfl, k8, w8, b8, p8, s1, s2, s3⟩ | ⟨rfl, hB⟩
  rotate_left
  · rw [if_pos bF]
    refine ⟨false, S8, M8, ?_, rfl, bad_end2 hd hft hB (fo7.tr o6) (fm7.tr (fLm_c o7)) rfl⟩
    simp only [tk6 hB.1, bnq, if_neg hB.1.1]
  obtain ⟨j8, j8l, rfl, j8m⟩ := o5 rfl
  have hO8 : OMs (apT T (c 0) (c 1) (nI (srtN k2)) (nI j5) (nI j6) (nI j7) (nI j8) (lN (p27 0 w1))) (wI (wI (wJ (wI (wI (wI M8 510 (10 + c 0) (nI j8)) 511 (10 + c 0) (-1)) 505 (10 + c 0) (nI (c 1))) 503 (16 + c 1) (lN (p27 0 w1))) 502 7 (nI (c 1 + 1))) 502 6 (nI (c 0 + 1))) := ((((((hO7.cq o7).wI (k := c 0) rfl).wI (k := c 0) rfl).wI (k := c 0) rfl).wJ (k := c 1) rfl).wI (k := 1) rfl).wI (k := 0) rfl
  have fd : Fr fDm M8 (wI (wI (wJ (wI (wI (wI M8 510 (10 + c 0) (nI j8)) 511 (10 + c 0) (-1)) 505 (10 + c 0) (nI (c 1))) 503 (16 + c 1) (lN (p27 0 w1))) 502 7 (nI (c 1 + 1))) 502 6 (nI (c 0 + 1))) := (((((fD_w (k := c 0) (by decide) (by decide) rfl).tr (fD_w (k := c 0) (by decide) (by decide) rfl)).tr (fD_w (k := c 0) (by decide) (by decide) rfl)).tr (fD_V (k := c 1) (by decide) (by decide) rfl)).tr (fD_w (k := 1) (by decide) (by decide) rfl)).tr (fD_w (k := 0) (by decide) (by decide) rfl)
  have ec1 : rI M8 502 7 = nI (c 1) := ((hO7.cq o7).nn (j := 1) (by decide)).trans (by
    rw [rI_wI_a (by decide), rI_wI_a (by decide), rI_wI_a (by decide), rI_wI_a (by decide)]
    exact hD.1 1 (by decide))
  have ec0 : rI M8 502 6 = nI (c 0) := ((hO7.cq o7).nn (j := 0) (by decide)).trans (by
    rw [rI_wI_a (by decide), rI_wI_a (by decide), rI_wI_a (by decide), rI_wI_a (by decide)]
    exact hD.1 0 (by decide))
  have eT := m_takes_ok (Sm := wI (wI (wI M8 510 (10 + c 0) (nI j8)) 511 (10 + c 0) (-1)) 505 (10 + c 0) (nI (c 1))) (m := c 1) (by rw [rI_wI_a (by decide), rI_wI_a (by decide), rI_wI_a (by decide)]; exact ec1) (by omega) (lN (p27 0 w1))
  rw [if_neg bT, if_neg (nI_inC (show 10 + c 0 < 20 by omega) (by decide)), j8m, ltq (wI M8 510 _ _), if_neg (nI_inC (show 10 + c 0 < 20 by omega) (by decide)), ltq (wI (wI M8 510 _ _) 511 _ _), if_neg g7_12, if_neg (nI_inC (show 10 + c 0 < 20 by omega) (by decide)), c7, rI_wI_a (show 502 ≠ 511 by decide), rI_wI_a (show 502 ≠ 510 by decide), ec1, ltq (wI (wI (wI M8 510 _ _) 511 _ _) 505 _ _), eT, bnq, if_neg g6_12, if_neg g6_12, c6, rI_wI_k (show 6 ≠ 7 by decide), rI_wJ, rI_wI_a (show 502 ≠ 505 by decide), rI_wI_a (show 502 ≠ 511 by decide), rI_wI_a (show 502 ≠ 510 by decide), ec0, nI_1, ltq (wI (wI (wJ _ 503 _ _) 502 7 _) 502 6 _)]
  have hD8 := hD.apl q i1 (s := srtN k2) (a := j5) (r := j6) (p := j7) (wo := j8) hsr (by omega) (by omega) (by omega) (by omega)
  have fo8 := fo7.tr o6
  have hL8 : LWS d b8 S8 (wI (wI (wJ (wI (wI (wI M8 510 (10 + c 0) (nI j8)) 511 (10 + c 0) (-1)) 505 (10 + c 0) (nI (c 1))) 503 (16 + c 1) (lN (p27 0 w1))) 502 7 (nI (c 1 + 1))) 502 6 (nI (c 0 + 1))) := (hL7.cf hd o6 o7 (by omega)).dm hd fd
  have s1' := s1.dm fd
  have fm8 := (fm7.tr (fLm_c o7)).tr (fLm_d fd)
  generalize wI (wI (wJ (wI (wI (wI M8 510 (10 + c 0) (nI j8)) 511 (10 + c 0) (-1)) 505 (10 + c 0) (nI (c 1))) 503 (16 + c 1) (lN (p27 0 w1))) 502 7 (nI (c 1 + 1))) 502 6 (nI (c 0 + 1)) = N8 at *
  obtain ⟨z, So', Sm', l1, l2, l3, l4, l5⟩ := line_end (bz := b) (So := S8) hd s1' s2 hO8 hD8 (hft.fC hd fo8) hL8 (by omega) (X := fun S26 => bn (o_tb_add (d + 80) S26) fun r27 S28 => bn (o_tb_put (d + 80) r27 0 (nI (srtN k2)) S28) fun _ S30 => bn (o_tb_put (d + 80) r27 1 (nI j5) S30) fun _ S32 => bn (o_tb_put (d + 80) r27 2 (nI j6) S32) fun _ S34 => bn (o_tb_put (d + 80) r27 3 (nI j7) S34) fun _ S36 => bn (o_tb_put (d + 80) r27 4 (nI j8) S36) fun _ S38 => if KO.1 (d + 2) = (0, 2) then (bn (o_na_size (d + 2) S38) fun r40 S41 => bn (o_tb_put (d + 80) r27 5 r40 S41) fun _ S43 => bn (o_tb_put (d + 80) r27 6 (-1) S43) fun _ S45 => bn (o_na_add (d + 2) (lN (pk5 w1)) S45) fun _ S47 => some ((), S47)) else none) (fun S9 f9 h9 => ap_row hd (hT.fr (fo8.tr f9) (fun a k q => fCo_n (by omega)) hd) q (by omega) i1 _ _ _ _ _)
  exact ⟨z, So', Sm', l1, l2, l3, (fLo_c fo8).tr l4, fm8.tr l5⟩
end APPLE2
