/-! Reading an orchard: twin. -/
section TWINR
variable {n p b k i d s s' bz m u mx : Nat} {w : List Nat} {tx : Nat → Int32} {T T' So Sm S S' So' Sm' : St} {P Q : Nat → Nat → Bool} {W V W' V' : Nat → List Nat} {c c' : Nat → Nat} {f : Nat → Nat → Int32}
theorem untw_F (hd : d = 20 ∨ d = 21) (hF : FT S) (hT : Dft d S) (x : Int32) : o_rd_untwinned d x S = some (-1, S) := by
  obtain ⟨⟨n1, f1, h1⟩, _⟩ := hT
  unfold o_rd_untwinned o_rd_untwinned_25 o_rd_untwinned_33
  rw [apple_F hF, bnq, wr_F hF, bnq, st_F hF, bnq]
  by_cases q : (-1 : Int32) = x
  · rw [if_pos q]
  · rw [if_neg q, if_pos (kd_d hd), if_pos h1.k, tb_atN h1 (by decide), bnq, if_pos rfl, st_F hF, bnq]
theorem tw_neg (h : bTw T k) {a : Nat} (ha : a < k) (hk : k ≤ 10) : rI T 511 a < 0 ↔ rI T 511 a = -1 := by
  rcases h a ha with e | ⟨⟨e1, e2⟩, _⟩
  · rw [e]
    exact ⟨fun _ => rfl, fun _ => by decide⟩
  · rw [e1]
    exact ⟨fun q => absurd q (nI_pos (by omega)), fun q => absurd q (nI_m1 (by omega))⟩
def twT (T : St) (a b : Nat) : St := wI (wI T 511 a (nI b)) 511 b (nI a)
theorem twin_ok (hd : d = 20 ∨ d = 21) (h : TK n tx k w b p So Sm) (hk : k ≠ 0) (h0 : rI So 3 7 = 0) (hR : RDS d c T W V b So Sm) : ∃ z So' Sm', o_rd_readTwin d So = some ((), So') ∧ m_readsTwin Sm = some (bI z, Sm') ∧ LEND n tx d b z So' Sm' ∧ Fr (fLo d) So So' ∧ Fr fLm Sm Sm' := by
  have hkd := kd_d hd
  obtain ⟨hD, hO, hT, hL⟩ := id hR
  have hL : LWS d b So Sm := hL
  obtain ⟨t1, t2, t3, t4, t5, t6, t7⟩ := id hT
  have hb := hD.2.1
  have hft : Dft d So := hT.dft
  have hTw := hD.2.2.2.1
  unfold o_rd_readTwin o_rd_readTwin_60 m_readsTwin
  obtain ⟨k1, w1, b1', p1, S1, M1, e1, e2, e3, e4, e5, e6, e7⟩ := nx_U h h0 hk
  have hR1 := hR.cf hd (fCo_To e6) (fCm_Tm e7) (show b ≤ b1' by omega)
  have hcol : ∀ e, e < c 0 → (fun a j => rI T (ccol j) a) e 5 = nI ((fun a => vN T 505 a) e) := fun e he => (hD.2.2.1 e he).1.1
  obtain ⟨z, x, S2, M2, g1, g2, g3, g4, g5⟩ := apple_U e3 e4 hkd (r := 1) (by decide) hR1.2.2.1.2.2.2.2.2.1 hR1.sn hR1.2.2.1.1 hcol hR1.an
  have fo2 := (fCo_To e6).tr g4
  have fm2 := (fCm_Tm e7).tr g5
  have tt2 : TB (d + 80) 10 7 (c 0) (fun a j => rI T (ccol j) a) S2 := t1.fr fo2 (fun k => fCo_n (by omega)) (fun k => fCo_n (by omega))
  rw [e1, bnq, e2, bnq, (show m_needsApple 1 M1 = _ from g2), bnq]
  rcases g3 with ⟨rfl, rfl, i1, a, a1, rfl, rfl⟩ | ⟨rfl, rfl, hB⟩
  rotate_left
  · have hu : o_rd_untwinned d (-1) S1 = some (-1, S2) := by
      unfold o_rd_untwinned o_rd_untwinned_25 o_rd_untwinned_33
      rw [g1, bnq, if_pos rfl, wr_F hB.1, bnq, st_F hB.1, bnq]
    rw [if_pos bF, hu, bnq, untw_F hd hB.1 (hft.fC hd fo2), bnq, tk6 hB.1, bnq, if_neg hB.1.1]
    exact ⟨false, _, _, rfl, rfl, bad_end2 hd hft hB fo2 (fLm_c fm2) rfl⟩
  have hO2 : OMs T (wI M1 500 46 (nI a)) := hO.cq fm2
  have h2 := e3.w46 (nI a)
  have ea : rI (wI M1 500 46 (nI a)) 511 (10 + a) = rI T 511 a := hO2.1 511 a (by unfold oc; simp; omega) (by decide)
  have cat : ∀ {S : St} (e : Nat), TB (d + 80) 10 7 (c 0) (fun a j => rI T (ccol j) a) S → e < c 0 → o_tb_at (d + 80) (nI e) 6 S = some (rI T 511 e, S) := fun e ht he => tb_atI ht he (show 6 < 7 by decide)
  rw [if_neg bT, rI_wI, ltq, (show (10 : Int32) + nI a = nI (10 + a) from nI_add 10 _), if_neg (nI_in (show 10 + a < 20 by omega) (by decide)), nI_clamp (by omega), ea]
  by_cases qa : rI T 511 a = -1
  rotate_left
  · have hB := bad_of (Sm1 := wI M1 500 46 (nI a)) h2 (j := 3) (by decide) (by decide)
    have hu : o_rd_untwinned d (-1) S2 = some (nI a, wI S2 3 7 (nI 3 + 16 * nI b1')) := by
      unfold o_rd_untwinned o_rd_untwinned_25 o_rd_untwinned_33
      rw [g1, bnq, if_neg (nI_m1 (by omega)), if_pos hkd, if_pos tt2.k, cat a tt2 a1, bnq, if_neg qa, wr_U h2 e4, bnq, (show o_tp_step (wI S2 3 7 (3 + 16 * nI b1')) = _ from st_F hB.1), bnq]
      rfl
    have f3 : Fr fCo S2 (wI S2 3 7 (nI 3 + 16 * nI b1')) := Fr.wI rfl
    rw [if_neg (fun q => qa ((tw_neg hTw a1 (by omega)).mp q)), hu, bnq, untw_F hd hB.1 ((hft.fC hd fo2).fC hd f3), bnq, tk6 hB.1, bnq, if_neg hB.1.1, m_fails_ok 3 _ h2.2.2.1.2, bnq, if_pos b0]
    exact ⟨false, _, _, rfl, rfl, bad_end2 hd hft hB (fo2.tr f3) (fLm_c (fm2.tr (Fr.wI rfl))) rfl⟩
  obtain ⟨k3, w3, b3, p3, S4, M4, u1, u2, u3, u4, u5, u6, u7⟩ := nx_U h2 e4 i1
  have hu : o_rd_untwinned d (-1) S2 = some (nI a, S4) := by
    unfold o_rd_untwinned o_rd_untwinned_25 o_rd_untwinned_33
    rw [g1, bnq, if_neg (nI_m1 (by omega)), if_pos hkd, if_pos tt2.k, cat a tt2 a1, bnq, if_pos qa, u1, bnq]
  rw [if_pos (show rI T 511 a < 0 by rw [qa]; decide), hu, bnq, u2, bnq]
  have fo4 := fo2.tr (fCo_To u6)
  have fm4 := fm2.tr (fCm_Tm u7)
  have hR4 := hR.cf hd fo4 fm4 (show b ≤ b3 by omega)
  have tt4 : TB (d + 80) 10 7 (c 0) (fun a j => rI T (ccol j) a) S4 := hR4.2.2.1.1
  obtain ⟨z2, x2, S5, M5, r1, r2, r3, r4, r5⟩ := apple_U u3 u4 hkd (r := 1) (by decide) hR4.2.2.1.2.2.2.2.2.1 hR4.sn tt4 hcol hR4.an
  have fo5 := fo4.tr r4
  have fm5 := fm4.tr r5
  have tt5 : TB (d + 80) 10 7 (c 0) (fun a j => rI T (ccol j) a) S5 := t1.fr fo5 (fun k => fCo_n (by omega)) (fun k => fCo_n (by omega))
  rw [(show m_needsApple 1 M4 = _ from r2), bnq]
  rcases r3 with ⟨rfl, rfl, i2, e, ae, rfl, rfl⟩ | ⟨rfl, rfl, hB⟩
  rotate_left
  · have hu2 : o_rd_untwinned d (nI a) S4 = some (-1, S5) := by
      unfold o_rd_untwinned o_rd_untwinned_25 o_rd_untwinned_33
      rw [r1, bnq, if_neg (fun q => nI_m1 (show a < 2 ^ 31 by omega) q.symm), if_pos hkd, if_pos tt5.k, tb_atN tt5 (by decide), bnq, if_pos rfl, st_F hB.1, bnq]
    rw [if_pos bF, hu2, bnq, tk6 hB.1, bnq, if_neg hB.1.1]
    exact ⟨false, _, _, rfl, rfl, bad_end2 hd hft hB fo5 (fLm_c fm5) rfl⟩
  have hO5 : OMs T (wI M4 500 46 (nI e)) := hO.cq fm5
  have h5 := u3.w46 (nI e)
  have ee : rI (wI M4 500 46 (nI e)) 511 (10 + e) = rI T 511 e := hO5.1 511 e (by unfold oc; simp; omega) (by decide)
  have hB3 := bad_of (Sm1 := wI M4 500 46 (nI e)) h5 (j := 3) (by decide) (by decide)
  have f73 : m_readsTwin_73 (wI M4 500 46 (nI e)) = some (0, wI (wI M4 500 46 (nI e)) 500 9 (nI 3 + 16 * nI b3)) := by
    unfold m_readsTwin_73
    rw [m_fails_ok 3 _ h5.2.2.1.2, bnq, if_pos b0]
    rfl
  have u25 : o_rd_untwinned_25 (nI e) S5 = some (nI e, wI S5 3 7 (nI 3 + 16 * nI b3)) := by
    unfold o_rd_untwinned_25 o_rd_untwinned_33
    rw [wr_U h5 u4, bnq, (show o_tp_step (wI S5 3 7 (3 + 16 * nI b3)) = _ from st_F hB3.1), bnq]
    rfl
  rw [if_neg bT, rI_wI, ltq]
  by_cases qe : a = e
  · have hu2 : o_rd_untwinned d (nI a) S5 = some (nI e, wI S5 3 7 (nI 3 + 16 * nI b3)) := by
      unfold o_rd_untwinned
      rw [r1, bnq, if_pos (by rw [qe]), u25]
    rw [if_pos (by rw [qe]), f73, hu2, bnq, tk6 hB3.1, bnq, if_neg hB3.1.1]
    exact ⟨false, _, _, rfl, rfl, bad_end2 hd hft hB3 (fo5.tr (Fr.wI rfl)) (fLm_c (fm5.tr (Fr.wI rfl))) rfl⟩
  rw [if_neg (nI_ne qe (by omega) (by omega)), (show (10 : Int32) + nI e = nI (10 + e) from nI_add 10 _), if_neg (nI_in (show 10 + e < 20 by omega) (by decide)), nI_clamp (by omega), ee]
  by_cases qb : rI T 511 e = -1
  rotate_left
  · have hu2 : o_rd_untwinned d (nI a) S5 = some (nI e, wI S5 3 7 (nI 3 + 16 * nI b3)) := by
      unfold o_rd_untwinned
      rw [r1, bnq, if_neg (nI_ne (fun q => qe q.symm) (by omega) (by omega)), if_pos hkd, if_pos tt5.k, cat e tt5 ae, bnq, if_neg qb, u25]
    rw [if_neg (fun q => qb ((tw_neg hTw ae (by omega)).mp q)), f73, hu2, bnq, tk6 hB3.1, bnq, if_neg hB3.1.1]
    exact ⟨false, _, _, rfl, rfl, bad_end2 hd hft hB3 (fo5.tr (Fr.wI rfl)) (fLm_c (fm5.tr (Fr.wI rfl))) rfl⟩
  obtain ⟨k6, w6, b6, p6, S7, M7, v1, v2, v3, v4, v5, v6, v7⟩ := nx_U h5 u4 i2
  have hu2 : o_rd_untwinned d (nI a) S5 = some (nI e, S7) := by
    unfold o_rd_untwinned o_rd_untwinned_33
    rw [r1, bnq, if_neg (nI_ne (fun q => qe q.symm) (by omega) (by omega)), if_pos hkd, if_pos tt5.k, cat e tt5 ae, bnq, if_pos qb, v1, bnq]
  have fo7 := fo5.tr (fCo_To v6)
  have fm7 := fm5.tr (fCm_Tm v7)
  have fd : Fr fDm M7 (wI (wI M7 511 (10 + a) (nI e)) 511 (10 + e) (nI a)) := (fD_w (k := a) (by decide) (by decide) rfl).tr (fD_w (k := e) (by decide) (by decide) rfl)
  rw [if_pos (show rI T 511 e < 0 by rw [qb]; decide), hu2, bnq, v2, bnq, if_neg (nI_inC (show 10 + a < 20 by omega) (by decide)), ltq (wI M7 511 _ _), if_neg (nI_inC (show 10 + e < 20 by omega) (by decide)), ltq (wI (wI M7 511 _ _) 511 _ _)]
  have hO7 : OMs (twT T a e) (wI (wI M7 511 (10 + a) (nI e)) 511 (10 + e) (nI a)) := ((hO.cq fm7).wI (k := a) rfl).wI (k := e) rfl
  have hL7 : LWS d b6 S7 (wI (wI M7 511 (10 + a) (nI e)) 511 (10 + e) (nI a)) := (hL.cf hd fo7 fm7 (show b ≤ b6 by omega)).dm hd fd
  have ne : ∀ a' j', (a' ≠ 511 ∨ (j' ≠ a ∧ j' ≠ e)) → rI (twT T a e) a' j' = rI T a' j' := fun a' j' q => by
    unfold twT
    rw [rI_wIn (by omega), rI_wIn (by omega)]
  have ra : rI (twT T a e) 511 a = nI e := by
    unfold twT
    rw [rI_wI_k qe, rI_wI]
  have re : rI (twT T a e) 511 e = nI a := by
    unfold twT
    exact rI_wI
  have rj : ∀ a' j', rJ (twT T a e) a' j' = rJ T a' j' := fun a' j' => rfl
  generalize twT T a e = T' at *
  have hD7 : DRW c T' W V := by
    obtain ⟨h1, h2, h3, h4, h5, h6, h7, h8, h9, h10⟩ := hD
    refine ⟨fun k hk => (ne _ _ (by omega)).trans (h1 k hk), h2, h3.ex (fun a j q1 q2 => ne _ _ (by omega)) (Nat.le_refl _), fun g hg => ?_, h5.ex fun a j q1 q2 => ne _ _ (by omega), h6.ex (fun a j q1 q2 => ne _ _ (by omega)) (Nat.le_refl _), h7.ex (fun a j q1 q2 => ne _ _ (by omega)) (Nat.le_refl _), h8.ex (fun a j q1 q2 => ne _ _ (by omega)) (Nat.le_refl _), h9.ex fun j => rj _ _, h10.ex fun j => rj _ _⟩
    have vv : ∀ x y, rI T' 511 x = nI y → y < 2 ^ 31 → vN T' 511 x = y := fun x y q hy => by
      unfold vN
      rw [q, nI_clamp hy]
    by_cases qg : g = a
    · subst qg
      refine Or.inr ⟨IsN.nI ra ae (by omega), ?_, ?_⟩
      · rw [vv _ _ ra (by omega)]
        exact fun q => qe q.symm
      · rw [vv _ _ ra (by omega)]
        exact re
    · by_cases qg2 : g = e
      · subst qg2
        refine Or.inr ⟨IsN.nI re a1 (by omega), ?_, ?_⟩
        · rw [vv _ _ re (by omega)]
          exact qe
        · rw [vv _ _ re (by omega)]
          exact ra
      · have ng := ne 511 g (Or.inr ⟨qg, qg2⟩)
        rcases h4 g hg with q | ⟨⟨q1, q2⟩, q3, q4⟩
        · exact Or.inl (ng.trans q)
        · refine Or.inr ⟨IsN.ex (T := T) (show IsN T 511 g (c 0) from ⟨q1, q2⟩) ng, ?_, ?_⟩
          · rw [vN_ex ng]
            exact q3
          · have nva : vN T 511 g ≠ a := fun q => by
              rw [q, qa] at q4
              exact nI_m1 (show g < 2 ^ 31 by omega) q4.symm
            have nve : vN T 511 g ≠ e := fun q => by
              rw [q, qb] at q4
              exact nI_m1 (show g < 2 ^ 31 by omega) q4.symm
            rw [vN_ex ng, ne 511 _ (Or.inr ⟨nva, nve⟩)]
            exact q4
  obtain ⟨z, So', Sm', l1, l2, l3, l4, l5⟩ := line_end (bz := b) (So := S7) hd (v3.dm fd) v4 hO7 hD7 (hft.fC hd fo7) hL7 (by omega) (X := fun S8 => if KO.1 d = (0, 10) then (if KO.1 (d + 80) = (0, 7) then (bn (o_tb_put (d + 80) (nI a) 6 (nI e) S8) fun _ S12 => bn (o_tb_put (d + 80) (nI e) 6 (nI a) S12) fun _ S14 => some ((), S14)) else none) else none) (fun S9 f9 h9 => by
    have hT9 : DTB d c T W V S9 := hT.fr (fo7.tr f9) (fun a k q => fCo_n (by omega)) hd
    obtain ⟨v1, v2, v3, ⟨f, v4, v4'⟩, v5, v6, v7⟩ := hT9
    have u0 := v1.put (i := a) (show 6 < 7 by decide) (nI e)
    have u1 := u0.put (i := e) (show 6 < 7 by decide) (nI a)
    have y3 : Fr (fun (x : Nat) (_ : Nat) => x == d + 80 + 30) S9 (wI (wI S9 (d + 80 + 30) (a * 7 + 6) (nI e)) (d + 80 + 30) (e * 7 + 6) (nI a)) := (Fr.wI (by simp)).tr (Fr.wI (by simp))
    have fu : Fr (fUp d) S9 (wI (wI S9 (d + 80 + 30) (a * 7 + 6) (nI e)) (d + 80 + 30) (e * 7 + 6) (nI a)) := y3.mo fun x k q => by
      unfold fUp at q
      simp at q ⊢
      omega
    have nf : ∀ x (k : Nat), x ≠ d + 80 + 30 → (fun (x : Nat) (_ : Nat) => x == d + 80 + 30) x k = false := fun x k q => beq_eq_false_iff_ne.mpr q
    refine ⟨_, ?_, ⟨u1.ext fun x j hx hj => ?_, (v2.fr y3 (fun k => nf _ 0 (by omega)) (fun k => nf _ 0 (by omega))).ext fun x j hx hj => (ne _ _ (by omega)).symm, (v3.fr y3 (fun k => nf _ 0 (by omega)) (fun k => nf _ 0 (by omega))).ext fun x j hx hj => (ne _ _ (by omega)).symm, ⟨f, v4.fr y3 (fun k => nf _ 0 (by omega)) (fun k => nf _ 0 (by omega)), fun q hq => ?_⟩, (v5.fr y3 (fun k => nf _ 0 (by omega)) (fun k => nf _ 0 (by omega))).ext fun x j hx hj => (ne _ _ (by omega)).symm, v6.fr y3 (nf _ 0 (by omega)) (fun k => nf _ 0 (by omega)), v7.fr y3 (nf _ 0 (by omega)) (fun k => nf _ 0 (by omega))⟩, fu⟩
    · show (if KO.1 d = (0, 10) then (if KO.1 (d + 80) = (0, 7) then (bn (o_tb_put (d + 80) (nI a) 6 (nI e) S9) fun _ S12 => bn (o_tb_put (d + 80) (nI e) 6 (nI a) S12) fun _ S14 => some ((), S14)) else none) else none) = _
      rw [if_pos hkd, if_pos v1.k, (show o_tb_put (d + 80) (nI a) 6 (nI e) S9 = _ from tb_put v1 a1 (show 6 < 7 by decide) _), bnq, (show o_tb_put (d + 80) (nI e) 6 (nI a) _ = _ from tb_put u0 ae (show 6 < 7 by decide) _), bnq]
    · by_cases q6 : j = 6
      · subst q6
        show upR (upR (fun a j => rI T (ccol j) a) a 6 (nI e)) e 6 (nI a) x 6 = rI T' 511 x
        by_cases qx : x = e
        · subst qx
          rw [re]
          simp [upR]
        · by_cases qx2 : x = a
          · subst qx2
            rw [ra]
            simp [upR, qx]
          · rw [ne 511 x (Or.inr ⟨qx2, qx⟩)]
            simp [upR, qx, qx2]
            rfl
      · rw [ne _ _ (Or.inl (by unfold ccol; split <;> (try split) <;> omega))]
        simp [upR, q6]
    · rw [ne 518 _ (Or.inl (by decide)), vN_ex (ne 518 q (Or.inl (by decide)))]
      refine ⟨(v4' q hq).1, fun k hk => ?_⟩
      rw [ne 517 _ (Or.inl (by decide))]
      exact (v4' q hq).2 k hk)
  exact ⟨z, So', Sm', l1, l2, l3, (fLo_c fo7).tr l4, ((fLm_c fm7).tr (fLm_d fd)).tr l5⟩
end TWINR
