/-! Reading an orchard: bann. -/
section BANNR
variable {n p b k i d s s' bz m u mx : Nat} {w : List Nat} {tx : Nat → Int32} {T T' So Sm S S' So' Sm' : St} {P Q : Nat → Nat → Bool} {W V W' V' : Nat → List Nat} {c c' : Nat → Nat} {f : Nat → Nat → Int32}
def bnT (T : St) (e : Nat) (s x : Int32) : St := wI (wI (wI T 519 e s) 520 e x) 502 5 (nI (e + 1))
theorem bann_ok (hd : d = 20 ∨ d = 21) (h : TK n tx k w b p So Sm) (hk : k ≠ 0) (h0 : rI So 3 7 = 0) (hR : RDS d c T W V b So Sm) : ∃ z So' Sm', o_rd_readBann d So = some ((), So') ∧ m_readsBann Sm = some (bI z, Sm') ∧ LEND n tx d b z So' Sm' ∧ Fr (fLo d) So So' ∧ Fr fLm Sm Sm' := by
  have hkd := kd_d hd
  obtain ⟨hD, hO, hT, hL⟩ := id hR
  have hL : LWS d b So Sm := hL
  obtain ⟨t1, t2, t3, t4, t5, t6, t7⟩ := id hT
  have hb := hD.2.1
  have hft : Dft d So := hT.dft
  unfold o_rd_readBann m_readsBann
  rw [if_pos hkd, if_pos t5.k, tb_full t5, bnq, if_neg gB_12, c11, (show rI Sm 502 11 = nI (c 5) from hR.nn (j := 5) (by decide)), (show (4 : Int32) + nI (c 5) = nI (4 + c 5) from nI_add 4 _), ltq]
  have tail43 : ∀ {S2 : St} (x y : Int32), FT S2 → o_rd_readBann_43 d x y S2 = some ((), S2) := fun x y hF => by
    unfold o_rd_readBann_43 o_rd_readBann_98
    simp only [st_F hF, tk6 hF, bnq, if_neg hF.1]
  by_cases q : c 5 < 4
  rotate_left
  · obtain ⟨e1, e2, hB⟩ := open_U1 h h0
    have f1 : Fr fCo So (wI So 3 7 (nI 5 + 16 * nI b)) := Fr.wI rfl
    rw [decide_eq_true (show 4 ≤ c 5 by omega), if_pos (show nI (4 + c 5) = 8 by rw [show 4 + c 5 = 8 by omega]; rfl), (show o_rd_open (bI true) So = _ from e1), bnq, e2, bnq, if_pos b0, sound_F hB.1, bnq, st_F hB.1, bnq, sound_F hB.1, bnq, if_pos rfl, wr_F hB.1, bnq, tail43 _ _ hB.1]
    exact ⟨false, _, _, rfl, rfl, bad_end2 hd hft hB f1 (fLm_c (Fr.wI rfl)) rfl⟩
  rw [decide_eq_false (show ¬ 4 ≤ c 5 by omega), if_neg (show ¬ nI (4 + c 5) = 8 from nI_ne (b := 8) (by omega) (by omega) (by decide))]
  obtain ⟨k1, w1, b1', p1, S1, M1, e1, e2, e3, e4, e5, e6, e7⟩ := open_U0 h h0 hk
  have hR1 := hR.cf hd (fCo_To e6) (fCm_Tm e7) (show b ≤ b1' by omega)
  obtain ⟨z, x, S2, M2, g1, g2, g3, g4, g5⟩ := sound_U e3 e4 hkd (r := 1) (by decide) hR1.2.2.1.2.2.2.2.2.1 hR1.sn
  have fo2 := (fCo_To e6).tr g4
  have fm2 := (fCm_Tm e7).tr g5
  rw [(show o_rd_open (bI false) So = _ from e1), bnq, g1, bnq, e2, bnq, (show m_needsSound 1 M1 = _ from g2), bnq]
  rcases g3 with ⟨rfl, rfl, i1, i2, i3, j, j1, rfl, j2, rfl⟩ | ⟨rfl, rfl, hB⟩
  rotate_left
  · rw [if_pos bF, st_F hB.1, bnq, sound_F hB.1, bnq, if_pos rfl, wr_F hB.1, bnq, tail43 _ _ hB.1]
    exact ⟨false, _, _, rfl, rfl, bad_end2 hd hft hB fo2 (fLm_c fm2) rfl⟩
  have hO2 : OMs T (wI M1 500 46 (nI j)) := hO.cq fm2
  have h2 := e3.w46 (nI j)
  have w519 : Fr fDm (wI M1 500 46 (nI j)) (wI (wI M1 500 46 (nI j)) 519 (4 + c 5) (nI j)) := fD_w (k := c 5) (by decide) (by decide) rfl
  obtain ⟨k3, w3, b3, p3, S4, M4, u1, u2, u3, u4, u5, u6, u7⟩ := nx_U (h2.dm w519) e4 i1
  rw [if_neg bT, u1, bnq, if_neg (nI_in (show 4 + c 5 < 8 by omega) (by decide)), nI_clamp (by omega), rI_wI, ltq (wI (wI M1 500 46 (nI j)) 519 _ _), u2, bnq]
  have fo4 := fo2.tr (fCo_To u6)
  have fm4 : Fr fLm Sm M4 := ((fLm_c fm2).tr (fLm_d w519)).tr (fLm_c (fCm_Tm u7))
  have hO4 : OMs (wI T 519 (c 5) (nI j)) M4 := (hO2.wI (k := c 5) rfl).cq (fCm_Tm u7)
  have hL4 : LWS d b3 S4 M4 := ((hL.cf hd fo2 fm2 (show b ≤ b1' by omega)).dm hd w519).cf hd (fCo_To u6) (fCm_Tm u7) (show b1' ≤ b3 by omega)
  have hN4 : NW (d + 2) 16 (c 1) W S4 := t6.fr fo4 (fCo_n (by omega)) (fun k => fCo_n (by omega))
  have hS4 : SNm 1 (c 1) W M4 := by
    have hsn := hR1.sn
    refine ⟨?_, hsn.2.1, fun k hk => ?_⟩
    · rw [u7.i (by rfl), rI_wI_a (by decide), rI_wI_a (by decide)]
      exact hsn.1
    · rw [u7.j (by rfl), rJ_wI, rJ_wI]
      exact hsn.2.2 k hk
  obtain ⟨z2, x2, S5, M5, a1, a2, a3, a4, a5⟩ := sound_U u3 u4 hkd (r := 1) (by decide) hN4 hS4
  rw [a1, bnq, (show m_needsSound 1 M4 = _ from a2), bnq]
  have fo5 := fo4.tr a4
  have fm5 := fm4.tr (fLm_c a5)
  rcases a3 with ⟨rfl, rfl, i4, i5, i6, jb, jb1, rfl, jb2, rfl⟩ | ⟨rfl, rfl, hB⟩
  rotate_left
  · rw [if_pos bF, if_neg (nI_m1 (by omega)), tail43 _ _ hB.1]
    exact ⟨false, _, _, rfl, rfl, bad_end2 hd hft hB fo5 fm5 rfl⟩
  have e519 : rI M4 519 (4 + c 5) = nI j := by rw [u7.i (by rfl), rI_wI]
  rw [if_neg bT, if_neg (nI_inC (show 4 + c 5 < 8 by omega) (by decide)), rI_wI, rI_wI_a (show 519 ≠ 500 by decide), e519]
  have h5 := u3.w46 (nI jb)
  by_cases qe : j = jb
  · have hB := bad_of (Sm1 := wI M4 500 46 (nI jb)) h5 (j := 3) (by decide) (by decide)
    rw [if_pos (by rw [qe]), if_pos (by rw [qe]), wr_U h5 u4, bnq, (show o_rd_readBann_43 d (nI j) (nI jb) (wI S5 3 7 (3 + 16 * nI b3)) = _ from tail43 _ _ hB.1), m_fails_ok 3 _ h5.2.2.1.2, bnq, if_pos b0]
    exact ⟨false, _, _, rfl, rfl, bad_end2 hd hft hB (fo5.tr (Fr.wI rfl)) (fm5.tr (fLm_c (Fr.wI rfl))) rfl⟩
  have w520 : Fr fDm (wI M4 500 46 (nI jb)) (wI (wI M4 500 46 (nI jb)) 520 (4 + c 5) (nI jb)) := fD_w (k := c 5) (by decide) (by decide) rfl
  obtain ⟨k6, w6, b6, p6, S7, M7, v1, v2, v3, v4, v5, v6, v7⟩ := nx_U (h5.dm w520) u4 i4
  unfold o_rd_readBann_43 o_rd_readBann_98
  rw [if_neg (nI_ne qe (by omega) (by omega)), if_neg (nI_ne (fun q => qe q.symm) (by omega) (by omega)), v1, bnq, if_neg (nI_inC (show 4 + c 5 < 8 by omega) (by decide)), ltq (wI (wI M4 500 46 (nI jb)) 520 _ _), v2, bnq]
  have fo7 := fo5.tr (fCo_To v6)
  have fd : Fr fDm M7 (wI M7 502 11 (nI (c 5 + 1))) := fD_w (k := 5) (by decide) (by decide) rfl
  have hO6 : OMs (wI (wI T 519 (c 5) (nI j)) 520 (c 5) (nI jb)) M7 := ((hO4.cq a5).wI (k := c 5) rfl).cq (fCm_Tm v7)
  have ec5 : rI M7 502 11 = nI (c 5) := (hO6.nn (j := 5) (by decide)).trans (by
    rw [rI_wI_a (by decide), rI_wI_a (by decide)]
    exact hD.1 5 (by decide))
  have hO7 : OMs (bnT T (c 5) (nI j) (nI jb)) (wI M7 502 11 (nI (c 5 + 1))) := hO6.wI (k := 5) rfl
  have hL7 : LWS d b6 S7 (wI M7 502 11 (nI (c 5 + 1))) := ((((hL4.cf hd a4 a5 (Nat.le_refl _)).dm hd w520).cf hd (fCo_To v6) (fCm_Tm v7) (show b3 ≤ b6 by omega))).dm hd fd
  have fm7 : Fr fLm Sm (wI M7 502 11 (nI (c 5 + 1))) := ((fm5.tr (fLm_d w520)).tr (fLm_c (fCm_Tm v7))).tr (fLm_d fd)
  rw [if_neg (show ¬ ((11 : Int32) < 0 ∨ 12 ≤ 11) by decide), if_neg (show ¬ ((11 : Int32) < 0 ∨ 12 ≤ 11) by decide), ec5, nI_1, ltq (wI M7 502 11 _)]
  have ne : ∀ a j', a ≠ 502 → (j' ≠ c 5 ∨ (a ≠ 519 ∧ a ≠ 520)) → rI (bnT T (c 5) (nI j) (nI jb)) a j' = rI T a j' := fun a j' q1 q2 => by
    unfold bnT
    rw [rI_wI_a q1, rI_wIn (by omega), rI_wIn (by omega)]
  have r519 : rI (bnT T (c 5) (nI j) (nI jb)) 519 (c 5) = nI j := by
    unfold bnT
    rw [rI_wI_a (by decide), rI_wI_a (by decide), rI_wI]
  have r520 : rI (bnT T (c 5) (nI j) (nI jb)) 520 (c 5) = nI jb := by
    unfold bnT
    rw [rI_wI_a (by decide), rI_wI]
  have r502 : ∀ j', rI (bnT T (c 5) (nI j) (nI jb)) 502 j' = if j' = 5 then nI (c 5 + 1) else rI T 502 j' := fun j' => by
    unfold bnT
    by_cases q : j' = 5
    · rw [q, rI_wI, if_pos rfl]
    · rw [rI_wI_k q, if_neg q, rI_wI_a (by decide), rI_wI_a (by decide)]
  have rj : ∀ a j', rJ (bnT T (c 5) (nI j) (nI jb)) a j' = rJ T a j' := fun a j' => rfl
  generalize bnT T (c 5) (nI j) (nI jb) = T' at *
  have hD7 : DRW (fun j => if j = 5 then c 5 + 1 else c j) T' W V := by
    obtain ⟨h1, h2, h3, h4, h5, h6, h7, h8, h9, h10⟩ := hD
    refine ⟨fun k hk => ?_, by show c 0 ≤ 10 ∧ c 1 ≤ c 0 + 6 ∧ c 0 ≤ c 1 ∧ c 2 ≤ 5 ∧ c 3 ≤ 6 ∧ c 4 ≤ 4 ∧ c 5 + 1 ≤ 4; omega, h3.ex (fun a j q1 q2 => ne _ _ (by omega) (by omega)) (Nat.le_refl _), h4.ex fun j => ne _ _ (by omega) (by omega), h5.ex fun a j q1 q2 => ne _ _ (by omega) (by omega), h6.ex (fun a j q1 q2 => ne _ _ (by omega) (by omega)) (Nat.le_refl _), h7.ex (fun a j q1 q2 => ne _ _ (by omega) (by omega)) (Nat.le_refl _), fun g hg => ?_, h9.ex fun j => rj _ _, h10.ex fun j => rj _ _⟩
    · rw [r502]
      show (if k = 5 then nI (c 5 + 1) else rI T 502 k) = nI (if k = 5 then c 5 + 1 else c k)
      by_cases q : k = 5
      · rw [if_pos q, if_pos q]
      · rw [if_neg q, if_neg q]
        exact h1 k hk
    · have hg : g < c 5 + 1 := hg
      show IsN T' 519 g (c 1) ∧ IsN T' 520 g (c 1)
      by_cases q : g = c 5
      · rw [q]
        exact ⟨IsN.nI r519 j1 (by omega), IsN.nI r520 jb1 (by omega)⟩
      · obtain ⟨g1, g2⟩ := h8 g (by omega)
        exact ⟨g1.ex (ne _ _ (by decide) (Or.inl q)), g2.ex (ne _ _ (by decide) (Or.inl q))⟩
  obtain ⟨z, So', Sm', l1, l2, l3, l4, l5⟩ := line_end (bz := b) (So := S7) hd (v3.dm fd) v4 hO7 hD7 (hft.fC hd fo7) hL7 (by omega) (X := fun S6 => if KO.1 d = (0, 10) then (if KO.1 (d + 88) = (0, 7) then (bn (o_tb_add (d + 88) S6) fun r9 S10 => bn (o_tb_put (d + 88) r9 0 (nI j) S10) fun _ S12 => bn (o_tb_put (d + 88) r9 1 (nI jb) S12) fun _ S14 => some ((), S14)) else none) else none) (fun S9 f9 h9 => by
    have hT9 : DTB d c T W V S9 := hT.fr (fo7.tr f9) (fun a k q => fCo_n (by omega)) hd
    obtain ⟨S', y1, y2, y3⟩ := row2 hT9.2.2.2.2.1 q (nI j) (nI jb)
    have fu : Fr (fUp d) S9 S' := y3.mo fun a k q => by
      unfold fUp at q
      simp at q ⊢
      omega
    refine ⟨S', ?_, hT9.up (u := d + 88) hd fu (fun j q1 q2 => if_neg q2) (fun a j q1 q2 => ne _ _ q1 (by omega)) (fun k => by simp <;> omega) y3 (Or.inr rfl) ?_ ?_, fu⟩
    · show (if KO.1 d = (0, 10) then (if KO.1 (d + 88) = (0, 7) then (bn (o_tb_add (d + 88) S9) fun r9 S10 => bn (o_tb_put (d + 88) r9 0 (nI j) S10) fun _ S12 => bn (o_tb_put (d + 88) r9 1 (nI jb) S12) fun _ S14 => some ((), S14)) else none) else none) = _
      rw [if_pos hkd, if_pos hT9.2.2.2.2.1.k]
      exact y1
    · exact (hT9.2.2.1.fr y3 (fun k => by simp <;> omega) (fun k => by simp <;> omega)).ext fun a j' ha hj => (ne _ _ (by omega) (by omega)).symm
    · refine y2.ext fun a j' ha hj => ?_
      show (if a = c 5 then (if j' = 0 then nI j else nI jb) else rI T (519 + j') a) = rI T' (519 + j') a
      by_cases q2 : a = c 5
      · rw [if_pos q2, q2]
        rcases (show j' = 0 ∨ j' = 1 by omega) with rfl | rfl
        · rw [if_pos rfl]
          exact r519.symm
        · rw [if_neg (by decide)]
          exact r520.symm
      · rw [if_neg q2]
        exact (ne _ _ (by omega) (Or.inl q2)).symm)
  exact ⟨z, So', Sm', l1, l2, l3, (fLo_c fo7).tr l4, fm7.tr l5⟩
end BANNR
