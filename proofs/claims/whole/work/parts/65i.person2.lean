/-! Reading an orchard: person, the line. -/
section PERSON2
variable {n p b k i d s s' bz u mx l1 l2 l3 : Nat} {w w1 : List Nat} {tx : Nat → Int32} {T T' T5 So Sm S S' So' Sm' : St} {P Q : Nat → Nat → Bool} {W V W' V' : Nat → List Nat} {c c' : Nat → Nat} {f : Nat → Nat → Int32}
theorem readPerson_ok (hd : d = 20 ∨ d = 21) (h : TK n tx k w b p So Sm) (hk : k ≠ 0) (h0 : rI So 3 7 = 0) (hR : RDS d c T W V b So Sm) : ∃ z So' Sm', o_rd_readPerson d So = some ((), So') ∧ m_readsPerson Sm = some (bI z, Sm') ∧ LEND n tx d b z So' Sm' ∧ Fr (fLo d) So So' ∧ Fr fLm Sm Sm' := by
  have hkd := kd_d hd
  obtain ⟨hD, hO, hT, hL⟩ := id hR
  obtain ⟨t1, t2, t3, t4, t5, t6, t7⟩ := id hT
  have hb := hD.2.1
  have hft : Dft d So := hT.dft
  have hL : LWS d b So Sm := hL
  have hN : ∀ {S : St}, Fr fCo So S → NW (d + 2) 16 (c 1) W S := fun g => t6.fr g (fCo_n (by omega)) (fun k => fCo_n (by omega))
  unfold o_rd_readPerson m_readsPerson
  rw [if_pos hkd, if_pos t2.k, tb_full t2, bnq, if_neg g8_12, c8, (show rI Sm 502 8 = nI (c 2) from hR.nn (j := 2) (by decide)), (show (5 : Int32) + nI (c 2) = nI (5 + c 2) from nI_add 5 _), ltq]
  by_cases q : c 2 < 5
  rotate_left
  · obtain ⟨e1, e2, hB⟩ := open_U1 h h0
    have f1 : Fr fCo So (wI So 3 7 (nI 5 + 16 * nI b)) := Fr.wI rfl
    rw [decide_eq_true (show 5 ≤ c 2 by omega), if_pos (show nI (5 + c 2) = 10 by rw [show 5 + c 2 = 10 by omega]; rfl), (show o_rd_open (bI true) So = _ from e1), bnq, e2, bnq, if_pos b0]
    refine ⟨false, _, _, ?_, rfl, bad_end2 hd hft hB f1 (fLm_c (Fr.wI rfl)) rfl⟩
    rw [newName_F hB.1, bnq, tk22 hB.1, bnq, num_F hB.1, bnq, tk23 hB.1, bnq, num_F hB.1, bnq]
    exact pe_F hd hB.1 (hN f1) _ _ _
  rw [decide_eq_false (show ¬ 5 ≤ c 2 by omega), if_neg (show ¬ nI (5 + c 2) = 10 from nI_ne (b := 10) (by omega) (by omega) (by decide))]
  obtain ⟨k1, w1, b1', p1, S1, M1, e1, e2, e3, e4, e5, e6, e7⟩ := open_U0 h h0 hk
  have hR1 := hR.cf hd (fCo_To e6) (fCm_Tm e7) (show b ≤ b1' by omega)
  obtain ⟨z, x, S2, M2, g1, g2, g3, g4, g5⟩ := newName_U e3 e4 hkd hR1.2.2.1.2.2.2.2.2.1 hR1.2.2.1.2.2.2.2.2.2 hR1.sn hR1.pn
  rw [(show o_rd_open (bI false) So = _ from e1), bnq, g1, e2, bnq, g2, bnq]
  unfold o_rd_newName_47
  rcases g3 with ⟨rfl, rfl, rfl, i1, rfl, i3, i4⟩ | ⟨rfl, hB⟩
  rotate_left
  · rw [if_pos bF]
    have f2 := (fCo_To e6).tr g4
    refine ⟨false, S2, M2, ?_, rfl, bad_end2 hd hft hB f2 (fLm_c ((fCm_Tm e7).tr g5)) rfl⟩
    rw [st_F hB.1, bnq, bnq, tk22 hB.1, bnq, num_F hB.1, bnq, tk23 hB.1, bnq, num_F hB.1, bnq]
    exact pe_F hd hB.1 (hN f2) _ _ _
  obtain ⟨k2, w2, b2, p2, S3, M3, r1, r2, r3, r4, r5, r6, r7⟩ := nx_U e3 e4 i4
  rw [if_neg bT, i3, ltq, r1, bnq, bnq, r2, bnq]
  have fo3 : Fr fCo So S3 := (fCo_To e6).tr (fCo_To r6)
  have fm3 : Fr fCm Sm M3 := (fCm_Tm e7).tr (fCm_Tm r7)
  have hO3 : OMs T M3 := hO.cq fm3
  -- lane
  obtain ⟨z5, x5, S5a, S5, M5, v1, v2, v3, v4, v5, v6, v7⟩ := both_U r3 r4 22 (by decide) (K := 237308) (by decide) (mx := 11) (by decide)
  rw [(show o_rd_take 1022 S3 = _ from v1), bnq, (show o_rd_number 11 S5a = _ from v2), bnq, (show m_needsBoth 237308 0 11 M3 = _ from v3), bnq]
  have fo5 := fo3.tr v6
  rcases v4 with ⟨rfl, k5, w5, b5, p5, y1, y2, y3⟩ | ⟨rfl, hB⟩
  rotate_left
  · rw [if_pos bF]
    refine ⟨false, S5, M5, ?_, rfl, bad_end2 hd hft hB fo5 (fLm_c (fm3.tr v7)) rfl⟩
    rw [tk23 hB.1, bnq, num_F hB.1, bnq]
    exact pe_F hd hB.1 (hN fo5) _ _ _
  obtain ⟨j5, j5l, rfl, j5m⟩ := v5 rfl
  have w512 : Fr fDm M5 (wI M5 512 (5 + c 2) (nI j5)) := fD_w (k := c 2) (by decide) (by decide) rfl
  rw [if_neg bT, if_neg (nI_in (show 5 + c 2 < 10 by omega) (by decide)), nI_clamp (by omega), j5m, ltq (wI M5 512 _ _)]
  have fm5 : Fr fLm Sm (wI M5 512 (5 + c 2) (nI j5)) := (fLm_c (fm3.tr v7)).tr (fLm_d w512)
  have hO5 : OMs (wI T 512 (c 2) (nI j5)) (wI M5 512 (5 + c 2) (nI j5)) := (hO3.cq v7).wI (k := c 2) rfl
  have hL5 : LWS d b5 S5 (wI M5 512 (5 + c 2) (nI j5)) := ((hL.cf hd fo3 fm3 (show b ≤ b2 by omega)).cf hd v6 v7 (show b2 ≤ b5 by omega)).dm hd w512
  have y1' := y1.dm w512
  generalize wI M5 512 (5 + c 2) (nI j5) = N5 at *
  -- loud
  obtain ⟨z6, x6, S6a, S6, M6, a1, a2, a3, a4, a5, a6, a7⟩ := both_U y1' y2 23 (by decide) (K := 247702) (by decide) (mx := 6) (by decide)
  rw [(show o_rd_take 1023 S5 = _ from a1), bnq, (show o_rd_number 6 S6a = _ from a2), bnq, (show m_needsBoth 247702 0 6 N5 = _ from a3), bnq]
  have fo6 := fo5.tr a6
  rcases a4 with ⟨rfl, k6, w6, b6, p6, f1, f2, f3⟩ | ⟨rfl, hB⟩
  rotate_left
  · rw [if_pos bF]
    refine ⟨false, S6, M6, ?_, rfl, bad_end2 hd hft hB fo6 (fm5.tr (fLm_c a7)) rfl⟩
    exact pe_F hd hB.1 (hN fo6) _ _ _
  obtain ⟨j6, j6l, rfl, j6m⟩ := a5 rfl
  have w56 : Fr fDm M6 (wI (wI M6 513 (5 + c 2) (nI j6)) 514 (5 + c 2) 0) := (fD_w (k := c 2) (by decide) (by decide) rfl).tr (fD_w (k := c 2) (by decide) (by decide) rfl)
  rw [if_neg bT, if_neg (nI_inC (show 5 + c 2 < 10 by omega) (by decide)), j6m, ltq (wI M6 513 _ _), if_neg (nI_inC (show 5 + c 2 < 10 by omega) (by decide)), ltq (wI (wI M6 513 _ _) 514 _ _)]
  have fm6 : Fr fLm Sm (wI (wI M6 513 (5 + c 2) (nI j6)) 514 (5 + c 2) 0) := (fm5.tr (fLm_c a7)).tr (fLm_d w56)
  have hO6 : OMs (wI (wI (wI T 512 (c 2) (nI j5)) 513 (c 2) (nI j6)) 514 (c 2) 0) (wI (wI M6 513 (5 + c 2) (nI j6)) 514 (5 + c 2) 0) := ((hO5.cq a7).wI (k := c 2) rfl).wI (k := c 2) rfl
  have hL6 : LWS d b6 S6 (wI (wI M6 513 (5 + c 2) (nI j6)) 514 (5 + c 2) 0) := (hL5.cf hd a6 a7 (show b5 ≤ b6 by omega)).dm hd w56
  have f1' := f1.dm w56
  generalize wI (wI M6 513 (5 + c 2) (nI j6)) 514 (5 + c 2) 0 = N6 at *
  -- what stays of the names
  have sn : SNm 1 (c 1) W N6 := by
    refine ⟨?_, by omega, fun k hk => ?_⟩
    · exact (hO6.nn (j := 1) (by decide)).trans (by rw [rI_wI_a (by decide), rI_wI_a (by decide), rI_wI_a (by decide)]; exact hD.1 1 (by decide))
    · obtain ⟨h1, h2⟩ := hD.2.2.2.2.2.2.2.2.1 k hk
      exact ⟨(hO6.2 503 k (by unfold oc; simp; omega) (by decide)).trans h2, h1⟩
  have hT6 : DTB d c T W V S6 := hT.fr fo6 (fun a k q => fCo_n (by omega)) hd
  rw [oq2 f1'.q, if_pos (f1'.kc (j := 7) (by decide)), isWord_ok f1' 7 (by decide) (K := 10631) (by decide), bnq]
  by_cases q7 : k6 = 7
  rotate_left
  · rw [if_neg (k_ne q7), decide_eq_false q7, if_pos bF]
    obtain ⟨z, So', Sm', l1, l2, l3, l4, l5⟩ := pe_tail (l1 := j5) (l2 := j6) (l3 := 0) (w1 := w1) (bz := b) hd f1' f2 hO6 hD hT6 hL6 q i1 (fun a j q => by rw [rI_wIn (by omega), rI_wIn (by omega), rI_wIn (by omega)]) (fun a j => rfl) (by rw [rI_wI_a (by decide), rI_wI_a (by decide), rI_wI]) (by rw [rI_wI_a (by decide), rI_wI]) rI_wI (by omega) (by omega) (by decide) (by omega)
    exact ⟨z, So', Sm', l1, l2, l3, (fLo_c fo6).tr l4, fm6.tr l5⟩
  subst q7
  rw [if_pos rfl, decide_eq_true rfl, if_neg bT]
  obtain ⟨k7, w7, b7, p7, S7, M7, u1, u2, u3, u4, u5, u6, u7⟩ := nx_U f1' f2 (by decide)
  rw [u1, bnq, u2, bnq]
  have fo7 := fo6.tr (fCo_To u6)
  have fm7 := fm6.tr (fLm_c (fCm_Tm u7))
  have sn7 : SNm 1 (c 1) W M7 := ⟨((fCm_Tm u7).i (by rfl)).trans sn.1, sn.2.1, fun k hk => ⟨((fCm_Tm u7).j (by rfl)).trans (sn.2.2 k hk).1, (sn.2.2 k hk).2⟩⟩
  obtain ⟨z8, x8, S8, M8, n1, n2, n3, n4, n5⟩ := sound_U u3 u4 hkd (r := 1) (by decide) (hN fo7) sn7
  rw [n1, bnq, (show m_needsSound 1 M7 = _ from n2), bnq]
  have fo8 := fo7.tr n4
  rcases n3 with ⟨rfl, rfl, i5, i6, i7, j8, j8l, rfl, j8w, rfl⟩ | ⟨rfl, rfl, hB⟩
  rotate_left
  · rw [if_pos bF, if_pos (hN fo8).1, na_letterI (hN fo8) (by decide), bnq, st_F hB.1, bnq]
    refine ⟨false, S8, M8, ?_, rfl, bad_end2 hd hft hB fo8 (fm7.tr (fLm_c n5)) rfl⟩
    unfold o_rd_readPerson_92 o_rd_readPerson_162
    rw [tk6 hB.1, bnq, if_neg hB.1.1]
  have i7' : rJ (wI M7 500 46 (nI j8)) 500 7 = lN (p27 0 w7) := i7
  have l27 : w7.getD 0 0 < 27 := by
    have := (i6.ok).ge 0
    omega
  have w514 : Fr fDm (wI M7 500 46 (nI j8)) (wI (wI M7 500 46 (nI j8)) 514 (5 + c 2) (nI (w7.getD 0 0))) := fD_w (k := c 2) (by decide) (by decide) rfl
  rw [if_neg bT, if_pos (hN fo8).1, (show o_na_letter (d + 2) (nI j8) 0 S8 = _ from na_letter (hN fo8) j8l (p := 0) (by decide)), bnq, i7', m_fl i6, bnq, if_neg (nI_inC (show 5 + c 2 < 10 by omega) (by decide)), ltq (wI (wI M7 500 46 (nI j8)) 514 _ _), j8w]
  have u3' := (u3.w46 (nI j8)).dm w514
  have hO8 : OMs (wI (wI (wI (wI T 512 (c 2) (nI j5)) 513 (c 2) (nI j6)) 514 (c 2) 0) 514 (c 2) (nI (w7.getD 0 0))) (wI (wI M7 500 46 (nI j8)) 514 (5 + c 2) (nI (w7.getD 0 0))) := (((hO6.cq (fCm_Tm u7)).cq n5).wI (k := c 2) rfl)
  have hL8 : LWS d b7 S8 (wI (wI M7 500 46 (nI j8)) 514 (5 + c 2) (nI (w7.getD 0 0))) := ((hL6.cf hd (fCo_To u6) (fCm_Tm u7) (show b6 ≤ b7 by omega)).cf hd n4 n5 (Nat.le_refl _)).dm hd w514
  have fm8 := (fm7.tr (fLm_c n5)).tr (fLm_d w514)
  generalize wI (wI M7 500 46 (nI j8)) 514 (5 + c 2) (nI (w7.getD 0 0)) = N8 at *
  obtain ⟨k9, w9, b9, p9, S9, M9, o1, o2, o3, o4, o5, o6, o7⟩ := nx_U u3' u4 i5
  rw [o1, bnq, o2, bnq]
  have fo9 := fo8.tr (fCo_To o6)
  have hT9 : DTB d c T W V S9 := hT.fr fo9 (fun a k q => fCo_n (by omega)) hd
  obtain ⟨z, So', Sm', l1, l2, l3, l4, l5⟩ := pe_tail (l1 := j5) (l2 := j6) (l3 := w7.getD 0 0) (w1 := w1) (bz := b) hd o3 o4 (hO8.cq (fCm_Tm o7)) hD hT9 (hL8.cf hd (fCo_To o6) (fCm_Tm o7) (show b7 ≤ b9 by omega)) q i1 (fun a j q => by rw [rI_wIn (by omega), rI_wIn (by omega), rI_wIn (by omega), rI_wIn (by omega)]) (fun a j => rfl) (by rw [rI_wI_a (by decide), rI_wI_a (by decide), rI_wI_a (by decide), rI_wI]) (by rw [rI_wI_a (by decide), rI_wI_a (by decide), rI_wI]) rI_wI (by omega) (by omega) l27 (by omega)
  exact ⟨z, So', Sm', l1, l2, l3, (fLo_c fo9).tr l4, (fm8.tr (fLm_c (fCm_Tm o7))).tr l5⟩
end PERSON2
