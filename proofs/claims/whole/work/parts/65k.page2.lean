/-! Reading an orchard: page, the loop and the line. -/
section PAGE2
variable {n p b k i d s s' bz u mx e m v w' : Nat} {w : List Nat} {tx : Nat → Int32} {T T' Tm So Sm S S0 S' So' Sm' : St} {P Q : Nat → Nat → Bool} {W V W' V' : Nat → List Nat} {c c' it : Nat → Nat} {f g : Nat → Nat → Int32} {x : Int32}
theorem PGO.F (h : PGO d c T m it So) : ∃ g, TB (d + 86) 4 11 (c 4 + 1) g So := ⟨_, h.choose_spec.1⟩
theorem LWS.up (hd : d = 20 ∨ d = 21) (h : LWS d b So Sm) (u : Fr (fPt d) So So') : LWS d b So' Sm := h.fr hd u (Fr.rf (P := fun _ _ => false)) (fun a k q => fPt_n (by omega)) (fun k => ⟨rfl, rfl, rfl⟩) rfl (Nat.le_refl _)
theorem tk149 (S : St) : o_rd_readPage_149 S = bn (o_rd_take 1006 S) fun _ S2 => if rI S2 3 7 = 0 then (fun S => some ((), S)) S2 else some ((), S2) := by
  unfold o_rd_readPage_149
  congr 1
  funext r S2
  by_cases q : rI S2 3 7 = 0
  · rw [if_pos q]
  · rw [if_neg q]
/-- the loop from m + j = 10 on -/
def PGL (n : Nat) (tx : Nat → Int32) (d bz : Nat) (c : Nat → Nat) (T S0 : St) (j : Nat) : Prop := ∀ (m mo mm : Nat) (it : Nat → Nat) (x : Int32) (Tm So Sm : St) (k : Nat) (w : List Nat) (b p : Nat), m + j = 10 → j + 1 < mo → j < mm → TK n tx k w b p So Sm → rI So 3 7 = 0 → bz ≤ b → OMs Tm Sm → LWS d b So Sm → Fr (fPg d) S0 So → PGT c T Tm m it x → PGO d c T m it So → ∃ z So' Sm', o_rd_readPage_24 mo d (nI (c 4)) x (nI (m + 1)) So = some ((), So') ∧ m_readsPage_35 mm (nI (4 + c 4)) x Sm = some (bI z, Sm') ∧ LEND n tx d bz z So' Sm' ∧ Fr (fLo d) So So' ∧ Fr fLm Sm Sm'
theorem pg_step (hd : d = 20 ∨ d = 21) (hD : DRW c T W V) (hT : DTB d c T W V S0) (hc4 : c 4 < 4) (j : Nat) (ih : ∀ j', j = j' + 1 → PGL n tx d bz c T S0 j') : PGL n tx d bz c T S0 j := fun m mo mm it x Tm So Sm k w b p hj hmo hmm h h0 hbz hO hL f0 hP hQ => by
  have hkd := kd_d hd
  have hb := hD.2.1
  obtain ⟨mo, rfl, hmo⟩ : ∃ mo', mo = mo' + 1 ∧ j < mo' := ⟨mo - 1, by omega, by omega⟩
  obtain ⟨mm, rfl, hmm'⟩ := fuel hmm
  obtain ⟨mo2, rfl⟩ : ∃ mo2, mo = mo2 + 1 := ⟨mo - 1, by omega⟩
  obtain ⟨p1, p2, p3, p4, p5, p6⟩ := id hP
  have e8 : rI Sm 518 (4 + c 4) = nI m := (hO.1 518 (c 4) (by unfold oc; simp; omega) (by decide)).trans p3
  have hft := hT.dft
  have hB5 : bPg T (c 4) (c 0) := hD.2.2.2.2.2.2.1
  have hA : ∀ {S : St}, Fr (fPg d) S0 S → TB (d + 80) 10 7 (c 0) (fun a j => rI T (ccol j) a) S := fun f => hT.1.fr f (fun k => fPg_n (fCo_n (by omega)) (by omega) (by omega)) (fun k => fPg_n (fCo_n (by omega)) (by omega) (by omega))
  have h5 : ∀ e, e < c 0 → (fun a j => rI T (ccol j) a) e 5 = nI ((fun a => vN T 505 a) e) := fun e he => (hD.2.2.1 e he).1.1
  -- one apple
  have body : k ≠ 0 ∨ True → ∃ z So' Sm', o_rd_readPage_60 (o_rd_readPage_24 (mo2 + 1)) d (nI (c 4)) x (nI (m + 1)) So = some ((), So') ∧ m_readsPage_53 (m_readsPage_35 mm) (nI (4 + c 4)) x Sm = some (bI z, Sm') ∧ LEND n tx d bz z So' Sm' ∧ Fr (fLo d) So So' ∧ Fr fLm Sm Sm' := fun _ => by
    have hN : NW (d + 2) 16 (c 1) W So := hT.2.2.2.2.2.1.fr f0 (fPg_n (fCo_n (by omega)) (by omega) (by omega)) (fun k => fPg_n (fCo_n (by omega)) (by omega) (by omega))
    have hSn : SNm 1 (c 1) W Sm := by
      refine ⟨(hO.nn (j := 1) (by decide)).trans ((p1 _ _ (by omega) (by omega)).trans (hD.1 1 (by decide))), by omega, fun k hk => ?_⟩
      obtain ⟨h1, h2⟩ := hD.2.2.2.2.2.2.2.2.1 k hk
      exact ⟨(hO.2 503 k (by unfold oc; simp; omega) (by decide)).trans ((p2 _ _).trans h2), h1⟩
    have hAn : ANm 1 (c 0) (fun a => vN T 505 a) Sm := by
      refine ⟨(hO.nn (j := 0) (by decide)).trans ((p1 _ _ (by omega) (by omega)).trans (hD.1 0 (by decide))), by omega, fun k hk => ?_⟩
      obtain ⟨h1, h2⟩ := (hD.2.2.1 k hk).1
      exact ⟨(hO.1 505 k (by unfold oc; simp; omega) (by decide)).trans ((p1 _ _ (by omega) (by omega)).trans h1), by show vN T 505 k < 16; omega⟩
    obtain ⟨z, y, S2, M2, g1, g2, g3, g4, g5⟩ := apple_U h h0 hkd (r := 1) (by decide) hN hSn (hA f0) h5 hAn
    unfold o_rd_readPage_60 m_readsPage_53 m_readsPage_61 m_readsPage_75
    rw [g1, bnq, if_pos hkd, (show m_needsApple 1 Sm = _ from g2), bnq]
    rcases g3 with ⟨rfl, rfl, i1, a, a1, rfl, rfl⟩ | ⟨rfl, rfl, hB⟩
    rotate_left
    · have f2 := f0.tr (fPg_c g4)
      obtain ⟨g, hg⟩ := hQ.F
      have hg2 : TB (d + 86) 4 11 (c 4 + 1) g S2 := hg.fr g4 (fun k => fCo_n (by omega)) (fun k => fCo_n (by omega))
      obtain ⟨S3, y1, y2, y3, y4⟩ := pg_F hd hB.1 (hA f2) hg2 (show m ≤ 10 by omega) mo2 (-1) x
      rw [hasA hkd (hA f2), bnq, inN_neg (by decide), if_pos bF, y1, if_pos bF]
      exact ⟨false, _, _, rfl, rfl, Or.inr ⟨rfl, ⟨y4, (y3.i (fPt_n (by omega))).trans hB.2⟩, dft_pg hd hft (f2.tr (fPg_t y3)) y2⟩, fLo_g hd ((fPg_c g4).tr (fPg_t y3)), fLm_c g5⟩
    rw [hasA hkd (hA f0), bnq, inN_nI (by omega) (by omega), decide_eq_true a1, if_neg bT, if_neg bT, rI_wI]
    have h2 := h.w46 (nI a)
    cases hx : tb x a with
    | true =>
      have hB := bad_of (Sm1 := wI Sm 500 46 (nI a)) h2 (j := 3) (by decide) (by decide)
      have f3 : Fr fCo S2 (wI S2 3 7 (nI 3 + 16 * nI b)) := Fr.wI rfl
      have f2 := f0.tr (fPg_c f3)
      obtain ⟨g, hg⟩ := hQ.F
      have hg2 : TB (d + 86) 4 11 (c 4 + 1) g (wI S2 3 7 (nI 3 + 16 * nI b)) := hg.fr f3 (fun k => fCo_n (by omega)) (fun k => fCo_n (by omega))
      obtain ⟨S3, y1, y2, y3, y4⟩ := pg_F hd hB.1 (hA f2) hg2 (show m ≤ 10 by omega) mo2 (nI a) x
      rw [if_neg (fun q => by rw [(sr_ne x (by omega)).mp q] at hx; cases hx), if_pos ((sr_one x (by omega)).mpr hx), wr_U h2 h0, bnq, (show o_rd_readPage_93 _ d (nI (c 4)) x (nI (m + 1)) (nI a) (wI S2 3 7 (3 + 16 * nI b)) = _ from y1), m_fails_ok 3 _ h2.2.2.1.2, bnq, if_pos b0]
      exact ⟨false, _, _, rfl, rfl, Or.inr ⟨rfl, ⟨y4, (y3.i (fPt_n (by omega))).trans hB.2⟩, dft_pg hd hft (f2.tr (fPg_t y3)) y2⟩, fLo_g hd ((fPg_c f3).tr (fPg_t y3)), (fLm_c g5).tr (fLm_c (Fr.wI rfl))⟩
    | false =>
      have hm9 : m < 10 := by
        have := php (c 0) (m + 1) (fun k => if k = m then a else it k) (fun k hk => (((PGT.add hP a1 hb.1 (by omega) hx).2.2.2.1 k hk).2)) (fun i k hi hk => (PGT.add hP a1 hb.1 (by omega) hx).2.2.2.2.1 i k hi hk)
        omega
      obtain ⟨j', rfl⟩ : ∃ j', j = j' + 1 := ⟨j - 1, by omega⟩
      obtain ⟨g, g1', g2', g3', g4'⟩ := hQ
      unfold o_rd_readPage_93 o_rd_readPage_111
      have u0 := g1'.put (i := c 4) (show 0 < 11 by decide) (nI (m + 1))
      have u1 := u0.put (i := c 4) (show m + 1 < 11 by omega) (nI a)
      have fp : Fr (fPt d) S2 (wI (wI S2 (d + 86 + 30) (c 4 * 11 + 0) (nI (m + 1))) (d + 86 + 30) (c 4 * 11 + (m + 1)) (nI a)) := (Fr.wI (by unfold fPt; simp)).tr (Fr.wI (by unfold fPt; simp))
      rw [if_pos ((sr_ne x (by omega)).mpr hx), if_neg (show ¬ ((x >>> (nI a &&& 31)) &&& 1) = (1 : Int32) from fun q => by rw [(sr_one x (by omega)).mp q] at hx; cases hx), if_pos hkd, hasA hkd (hA f0), bnq, inN_nI (by omega) (by omega), decide_eq_true a1, if_neg bT, ltq, ltq, if_pos hkd, if_pos g1'.k, (show o_tb_put (d + 86) (nI (c 4)) 0 (nI (m + 1)) S2 = _ from tb_put g1' (by omega) (show 0 < 11 by decide) _), bnq, tb_put u0 (by omega) (show m + 1 < 11 by omega) (nI a), bnq]
      have e8' : rI (wI Sm 500 46 (nI a)) 518 (4 + c 4) = nI m := by rw [rI_wI_a (by decide), e8]
      rw [if_neg (nI_in (show 4 + c 4 < 8 by omega) (by decide)), nI_clamp (show 4 + c 4 < 2 ^ 31 by omega), e8', (show (10 : Int32) * nI (4 + c 4) + nI m = nI (10 * (4 + c 4) + m) from ixR 10 (4 + c 4) m), if_neg (nI_in (show 10 * (4 + c 4) + m < 80 by omega) (by decide)), nI_clamp (show 10 * (4 + c 4) + m < 2 ^ 31 by omega), ltq (wI (wI Sm 500 46 (nI a)) 517 _ _), if_neg (nI_inC (show 4 + c 4 < 8 by omega) (by decide)), if_neg (nI_inC (show 4 + c 4 < 8 by omega) (by decide)), rI_wI_a (show 518 ≠ 517 by decide), e8', nI_1 m, ltq (wI (wI (wI Sm 500 46 (nI a)) 517 _ _) 518 _ _)]
      have wd : Fr fDm (wI Sm 500 46 (nI a)) (wI (wI (wI Sm 500 46 (nI a)) 517 (10 * (4 + c 4) + m) (nI a)) 518 (4 + c 4) (nI (m + 1))) := (fD_w (k := 10 * c 4 + m) (by decide) (by decide) (by show _ = 40 + (10 * c 4 + m); omega)).tr (fD_w (k := c 4) (by decide) (by decide) rfl)
      have hO2 : OMs (wI (wI Tm 517 (10 * c 4 + m) (nI a)) 518 (c 4) (nI (m + 1))) (wI (wI (wI Sm 500 46 (nI a)) 517 (10 * (4 + c 4) + m) (nI a)) 518 (4 + c 4) (nI (m + 1))) := ((hO.cq g5).wI (k := 10 * c 4 + m) (by show _ = 40 + (10 * c 4 + m); omega)).wI (k := c 4) rfl
      have h3 := (h2.dm wd).up (fPt_U hd fp)
      have h03 : rI (wI (wI S2 (d + 86 + 30) (c 4 * 11 + 0) (nI (m + 1))) (d + 86 + 30) (c 4 * 11 + (m + 1)) (nI a)) 3 7 = 0 := (fp.i (fPt_n (by omega))).trans h0
      have hL3 : LWS d b (wI (wI S2 (d + 86 + 30) (c 4 * 11 + 0) (nI (m + 1))) (d + 86 + 30) (c 4 * 11 + (m + 1)) (nI a)) (wI (wI (wI Sm 500 46 (nI a)) 517 (10 * (4 + c 4) + m) (nI a)) 518 (4 + c 4) (nI (m + 1))) := ((hL.cf hd (Fr.rf (P := fCo)) g5 (Nat.le_refl _)).dm hd wd).up hd fp
      have fm3 := (fLm_c g5).tr (fLm_d wd)
      have hQ3 : ∃ g', TB (d + 86) 4 11 (c 4 + 1) g' (wI (wI S2 (d + 86 + 30) (c 4 * 11 + 0) (nI (m + 1))) (d + 86 + 30) (c 4 * 11 + (m + 1)) (nI a)) ∧ (∀ q, q < c 4 → g' q 0 = rI T 518 q ∧ ∀ k, k < vN T 518 q → g' q (1 + k) = rI T 517 (10 * q + k)) ∧ g' (c 4) 0 = nI (m + 1) ∧ ∀ k, k < m + 1 → g' (c 4) (1 + k) = nI ((fun k => if k = m then a else it k) k) := by
        refine ⟨_, u1, fun q hq => ?_, ?_, fun k hk => ?_⟩
        · have : q ≠ c 4 := by omega
          simp only [upR, this, false_and, if_false]
          exact g2' q hq
        · simp [upR]
        · show upR (upR g (c 4) 0 (nI (m + 1))) (c 4) (m + 1) (nI a) (c 4) (1 + k) = nI (if k = m then a else it k)
          unfold upR
          by_cases q : k = m
          · rw [if_pos ⟨rfl, by omega⟩, if_pos q]
          · rw [if_neg (fun y => q (by omega)), if_neg (fun y => by omega), if_neg q]
            exact g4' k (by omega)
      generalize wI (wI S2 (d + 86 + 30) (c 4 * 11 + 0) (nI (m + 1))) (d + 86 + 30) (c 4 * 11 + (m + 1)) (nI a) = N3 at *
      generalize wI (wI (wI Sm 500 46 (nI a)) 517 (10 * (4 + c 4) + m) (nI a)) 518 (4 + c 4) (nI (m + 1)) = M3 at *
      obtain ⟨k4, w4, b4, p4', S4, M4, t1, t2, t3, t4, t5, t6, t7⟩ := nx_U h3 h03 i1
      rw [t1, bnq, t2, bnq, nI_1, ltq]
      obtain ⟨z, So', Sm', l1, l2, l3, l4, l5⟩ := ih j' rfl (m + 1) (mo2 + 1) mm (fun k => if k = m then a else it k) _ _ S4 M4 k4 w4 b4 p4' (by omega) (by omega) (by omega) t3 t4 (by omega) (hO2.cq (fCm_Tm t7)) (hL3.cf hd (fCo_To t6) (fCm_Tm t7) (by omega)) ((f0.tr (fPg_t fp)).tr (fPg_c (fCo_To t6))) (PGT.add hP a1 hb.1 (by omega) hx) (by
        obtain ⟨g', q1, q2, q3, q4⟩ := hQ3
        exact ⟨g', q1.fr (fCo_To t6) (fun k => fCo_n (by omega)) (fun k => fCo_n (by omega)), q2, q3, q4⟩)
      exact ⟨z, So', Sm', l1, l2, l3, (fLo_g hd ((fPg_t fp).tr (fPg_c (fCo_To t6)))).tr l4, (fm3.tr (fLm_c (fCm_Tm t7))).tr l5⟩
  rw [o_rd_readPage_24, m_readsPage_35, if_neg (show ¬ (11 : Int32) < nI (m + 1) from nI_nlt (a := 11) (by omega) (by decide)), if_pos h0, if_neg (nI_in (show 4 + c 4 < 8 by omega) (by decide)), nI_clamp (show 4 + c 4 < 2 ^ 31 by omega), e8]
  by_cases q0 : m = 0
  · rw [if_pos (show nI (m + 1) = 1 by rw [q0]; rfl), if_pos (show nI m = 0 by rw [q0]; rfl)]
    exact body (Or.inr trivial)
  rw [if_neg (show ¬ nI (m + 1) = 1 from nI_ne (b := 1) (by omega) (by omega) (by decide)), if_neg (show ¬ nI m = 0 from nI_ne (b := 0) (by omega) (by omega) (by decide)), oq2 h.q, if_pos (h.kc (j := 6) (by decide)), isSign_ok h 6 (by decide) (x := 59) (by decide), bnq]
  by_cases q6 : k = 6
  rotate_left
  · rw [if_neg (k_ne q6), decide_eq_false q6, if_pos bF]
    exact body (Or.inr trivial)
  subst q6
  rw [if_pos rfl, decide_eq_true rfl, if_neg bT, tk149]
  unfold m_readsPage_127
  have ec : rI Sm 502 10 = nI (c 4) := (hO.nn (j := 4) (by decide)).trans ((p1 _ _ (by omega) (by omega)).trans (hD.1 4 (by decide)))
  have fd : Fr fDm Sm (wI Sm 502 10 (nI (c 4 + 1))) := fD_w (k := 4) (by decide) (by decide) rfl
  rw [if_neg gA_12, if_neg gA_12, c10, ec, nI_1, ltq (wI Sm 502 10 _)]
  have hO7 : OMs (pgT' Tm (c 4)) (wI Sm 502 10 (nI (c 4 + 1))) := hO.wI (k := 4) rfl
  obtain ⟨z, So', Sm', e1, e2, e3, e4, e5⟩ := line_end (bz := bz) (So := So) hd (h.dm fd) h0 hO7 (hD.pg hc4 hP (by omega)) (dft_pg hd hft f0 hQ.F) (hL.dm hd fd) hbz (X := fun S => some ((), S)) (fun S9 f9 h9 => ⟨S9, rfl, DTB.pg hd hT (f0.tr (fPg_c f9)) (by
    obtain ⟨g', q1, q2, q3, q4⟩ := hQ
    exact ⟨g', q1.fr f9 (fun k => fCo_n (by omega)) (fun k => fCo_n (by omega)), q2, q3, q4⟩) hP (by omega) hB5, Fr.rf⟩)
  exact ⟨z, So', Sm', e1, e2, e3, e4, (fLm_d fd).tr e5⟩
theorem pg_loop (hd : d = 20 ∨ d = 21) (hD : DRW c T W V) (hT : DTB d c T W V S0) (hc4 : c 4 < 4) : ∀ j, PGL n tx d bz c T S0 j
  | 0 => pg_step hd hD hT hc4 0 fun j' q => absurd q (by omega)
  | j + 1 => pg_step hd hD hT hc4 (j + 1) fun j' q => by
    obtain rfl : j = j' := by omega
    exact pg_loop hd hD hT hc4 j
theorem readPage_ok (hd : d = 20 ∨ d = 21) (h : TK n tx k w b p So Sm) (hk : k ≠ 0) (h0 : rI So 3 7 = 0) (hR : RDS d c T W V b So Sm) : ∃ z So' Sm', o_rd_readPage d So = some ((), So') ∧ m_readsPage Sm = some (bI z, Sm') ∧ LEND n tx d b z So' Sm' ∧ Fr (fLo d) So So' ∧ Fr fLm Sm Sm' := by
  have hkd := kd_d hd
  obtain ⟨hD, hO, hT, hL⟩ := id hR
  have hL : LWS d b So Sm := hL
  have hb := hD.2.1
  have hft : Dft d So := hT.dft
  obtain ⟨t1, t2, t3, ⟨f, t4, t4'⟩, t5, t6, t7⟩ := id hT
  unfold o_rd_readPage m_readsPage
  rw [if_pos hkd, if_pos t4.k, tb_full t4, bnq, if_neg gA_12, c10, (show rI Sm 502 10 = nI (c 4) from hR.nn (j := 4) (by decide)), (show (4 : Int32) + nI (c 4) = nI (4 + c 4) from nI_add 4 _), ltq]
  by_cases q : c 4 < 4
  rotate_left
  · obtain ⟨e1, e2, hB⟩ := open_U1 h h0
    have f1 : Fr fCo So (wI So 3 7 (nI 5 + 16 * nI b)) := Fr.wI rfl
    rw [decide_eq_true (show 4 ≤ c 4 by omega), if_pos (show nI (4 + c 4) = 8 by rw [show 4 + c 4 = 8 by omega]; rfl), (show o_rd_open (bI true) So = _ from e1), bnq, e2, bnq, if_pos b0, tb_addF (t4.fr f1 (fun k => fCo_n (by omega)) (fun k => fCo_n (by omega))) q, bnq]
    exact ⟨false, _, _, pg_24F hB.1 999999 _ _ _ _, rfl, bad_end2 hd hft hB f1 (fLm_c (Fr.wI rfl)) rfl⟩
  rw [decide_eq_false (show ¬ 4 ≤ c 4 by omega), if_neg (show ¬ nI (4 + c 4) = 8 from nI_ne (b := 8) (by omega) (by omega) (by decide))]
  obtain ⟨k1, w1, b1', p1, S1, M1, e1, e2, e3, e4, e5, e6, e7⟩ := open_U0 h h0 hk
  obtain ⟨S2, a1, a2, a3⟩ := tb_add (t4.fr (fCo_To e6) (fun k => fCo_n (by omega)) (fun k => fCo_n (by omega))) q
  have fa : Fr (fPg d) S1 S2 := a3.mo fun a k q => by
    unfold fPg at q
    simp only [Bool.or_eq_false_iff] at q
    rw [q.1.2, q.2]
    rfl
  have fu : Fr (fUp d) S1 S2 := a3.mo fun a k q => by
    rw [Bool.or_eq_false_iff]
    constructor
    · refine beq_eq_false_iff_ne.mpr fun e => ?_
      unfold fUp at q
      subst e
      rcases hd with rfl | rfl <;> simp at q
    · rw [beq_eq_false_iff_ne.mpr (fun e => by
        unfold fUp at q
        subst e
        rcases hd with rfl | rfl <;> simp at q : a ≠ d + 86)]
      rfl
  have fd : Fr fDm M1 (wI M1 518 (4 + c 4) 0) := fD_w (k := c 4) (by decide) (by decide) rfl
  rw [(show o_rd_open (bI false) So = _ from e1), bnq, a1, bnq, e2, bnq, if_neg (nI_in (show 4 + c 4 < 8 by omega) (by decide)), nI_clamp (show 4 + c 4 < 2 ^ 31 by omega), ltq (wI M1 518 _ _)]
  have hL2 : LWS d b1' S2 (wI M1 518 (4 + c 4) 0) := ((hL.cf hd (fCo_To e6) (fCm_Tm e7) (show b ≤ b1' by omega)).dm hd fd).fr hd fa (Fr.rf (P := fun _ _ => false)) (fun a k q => fPg_n (fCo_n (by omega)) (by omega) (by omega)) (fun k => ⟨rfl, rfl, rfl⟩) rfl (Nat.le_refl _)
  obtain ⟨z, So', Sm', l1, l2, l3, l4, l5⟩ := pg_loop (n := n) (tx := tx) (bz := b) hd hD hT q 10 0 FU FU (fun _ => 0) 0 (wI T 518 (c 4) 0) S2 (wI M1 518 (4 + c 4) 0) k1 w1 b1' p1 (by decide) (by unfold FU; omega) (by unfold FU; omega) ((e3.dm fd).up fu) ((fu.i (fUp_n (by omega))).trans e4) (by omega) ((hO.cq (fCm_Tm e7)).wI (k := c 4) rfl) hL2 ((fPg_c (fCo_To e6)).tr fa) ⟨fun a j q1 q2 => rI_wIn (by omega), fun a j => rfl, rI_wI, fun k hk => absurd hk (by omega), fun i k hi => absurd hi (by omega), fun i hi => ⟨fun q => absurd q (by rw [tb_z]; decide), fun ⟨k, hk, _⟩ => absurd hk (by omega)⟩⟩ ⟨_, a2, fun q' hq => by
    have : q' ≠ c 4 := by omega
    simp only [this, if_false]
    exact t4' q' hq, by simp; rfl, fun k hk => absurd hk (by omega)⟩
  exact ⟨z, So', Sm', l1, l2, l3, (fLo_g hd ((fPg_c (fCo_To e6)).tr fa)).tr l4, ((fLm_c (fCm_Tm e7)).tr (fLm_d fd)).tr l5⟩
end PAGE2
