/-! Reading days: a line. -/
section DLINE2
variable {n p b k i d s s' bz j a v m q : Nat} {w : List Nat} {tx : Nat → Int32} {T T' So Sm S S' So' Sm' : St} {P Q : Nat → Nat → Bool} {W V : Nat → List Nat} {L : Int32 → Int32 → Int32} {f : Nat → Nat → Int32}
def fDr (m : Nat) : Nat → Nat → Bool := fun a k => fCm a k || ((decide (544 ≤ a) && decide (a ≤ 546)) && k == 200 + m)
theorem fDr_c (h : Fr fCm S S') : Fr (fDr m) S S' := h.mo fun a k q => (Bool.or_eq_false_iff.mp q).1
theorem fDr_w {a : Nat} {x : Int32} (h : 544 ≤ a ∧ a ≤ 546) : Fr (fDr m) S (wI S a (200 + m) x) := Fr.wI (by
  unfold fDr
  simp
  omega)
theorem fDr_A (hm : m < 40) (h : Fr (fDr m) S S') : Fr fDa S S' := h.mo fun a k q => by
  unfold fDa at q
  simp only [Bool.or_eq_false_iff] at q
  unfold fDr
  rw [q.1.1, Bool.false_or]
  have := q.2
  simp at this ⊢
  omega
theorem DYS.st (hm : m < 40) (h : DYS T W V L v m f So Sm) (fo : Fr fCo So So') (fm : Fr (fDr m) Sm Sm') : DYS T W V L v m f So' Sm' := by
  obtain ⟨h1, h2, h3, h4, h5, h6⟩ := h
  have e : ∀ a i, 544 ≤ a → a ≤ 546 → i < m → rI Sm' a (40 * 5 + i) = rI Sm a (40 * 5 + i) := fun a i q1 q2 q3 => fm.i (by
    unfold fDr
    rw [fCm_n (by omega)]
    simp
    omega)
  refine ⟨h1.dy (fDo_c fo) (fDr_A hm fm), h2, h3.fr fo (fun k => fCo_n (by omega)) (fun k => fCo_n (by omega)), h4, (fm.i (by unfold fDr; rw [fCm_n (by omega)]; simp)).trans h5, fun i hi => ?_⟩
  rw [e 544 i (by decide) (by decide) hi, e 545 i (by decide) (by decide) hi, e 546 i (by decide) (by decide) hi]
  exact h6 i hi
theorem d120_F (hF : FT S) (x y z : Int32) : o_rd_readLine_120 x y z S = some ((), S) := by
  unfold o_rd_readLine_120 o_rd_readLine_181
  rw [tk6 hF, bnq, if_neg hF.1]
theorem g5_6 : ¬ ((5 : Int32) < 0 ∨ 6 ≤ (5 : Int32).toNatClampNeg) := by decide
theorem d_end {z : Bool} (h3 : TB 110 40 3 m f So) (hm : m < 40) (hB : BAD So' Sm') (fo : Fr fCo So So') (fm : Fr (fDr m) Sm Sm') (hz : z = false) : DEND n tx T W V L v b z So' Sm' ∧ Fr fDo So So' ∧ Fr fDa Sm Sm' := ⟨Or.inr ⟨hz, hB, m, f, h3.fr fo (fun k => fCo_n (by omega)) (fun k => fCo_n (by omega))⟩, fDo_c fo, fDr_A hm fm⟩
/-- the head of a line is known -/
theorem rl_38 (h : TK n tx k w b p So Sm) (hk : k = 29 ∨ k = 30 ∨ k = 31) (h0 : rI So 3 7 = 0) (hD : DYS T W V L v m f So Sm) : ∃ z So' Sm', o_rd_readLine_38 v (1000 + k) So = some ((), So') ∧ m_readsLine_43 (nI (k - 29)) Sm = some (bI z, Sm') ∧ DEND n tx T W V L v b z So' Sm' ∧ Fr fDo So So' ∧ Fr fDa Sm Sm' := by
  obtain ⟨h1, h2, h3, h4, h5, h6⟩ := id hD
  have hT := h1.2.2.2.2.2
  have hkd : KO.1 v = (0, 10) := hT.k
  obtain ⟨sn, pn, an⟩ := h1.sn
  have h5' : rI Sm 543 5 = nI m := h5
  unfold o_rd_readLine_38 m_readsLine_43
  rw [tb_full h3, bnq, if_neg (nI_pos (by omega)), if_neg g5_6, c5, h5']
  have kc : ∀ j, j < 42 → ((KO.1 (1000 + k)).1 < 8 ∨ (KO.1 (1000 + k)).1 = 20) ∧ ((KO.1 (1000 + j)).1 < 8 ∨ (KO.1 (1000 + j)).1 = 20) := fun j hj => h.kc hj
  by_cases q : m < 40
  rotate_left
  · obtain ⟨e1, e2, hB⟩ := open_U1 h h0
    have f1 : Fr fCo So (wI So 3 7 (nI 5 + 16 * nI b)) := Fr.wI rfl
    rw [decide_eq_true (show 40 ≤ m by omega), if_pos (show nI m = 40 by rw [show m = 40 by omega]; rfl), (show o_rd_open (bI true) So = _ from e1), bnq, e2, bnq, if_pos b0, if_pos (kc 29 (by decide)), if_pos (kc 30 (by decide))]
    refine ⟨false, _, _, ?_, rfl, Or.inr ⟨rfl, hB, m, f, h3.fr f1 (fun k => fCo_n (by omega)) (fun k => fCo_n (by omega))⟩, fDo_c f1, fDa_c (Fr.wI rfl)⟩
    rw [person_F hB.1, bnq, st_F hB.1, bnq, sound_F hB.1, bnq, st_F hB.1, bnq, apple_F hB.1, bnq, st_F hB.1, bnq, d120_F hB.1, d120_F hB.1, d120_F hB.1]
    by_cases q1 : 1000 + k = 1029
    · rw [if_pos q1]
    · rw [if_neg q1]
      by_cases q2 : 1000 + k = 1030
      · rw [if_pos q2]
      · rw [if_neg q2]
  rw [decide_eq_false (show ¬ 40 ≤ m by omega), if_neg (show ¬ nI m = 40 from nI_ne (b := 40) (by omega) (by omega) (by decide))]
  obtain ⟨k1, w1, b1', p1, S1, M1, e1, e2, e3, e4, e5, e6, e7⟩ := open_U0 h h0 (by omega)
  have em : rI M1 543 5 = nI m := (e7.i (by rfl)).trans h5'
  have w4 : Fr (fDr m) M1 (wI M1 544 (200 + m) (nI (k - 29))) := fDr_w (by decide)
  have w4' : Fr (fun a _ => a == 544) M1 (wI M1 544 (200 + m) (nI (k - 29))) := Fr.wI rfl
  rw [(show o_rd_open (bI false) So = _ from e1), bnq, e2, bnq, if_neg (show ¬ ((5 : Int32) < 0 ∨ 6 ≤ 5) by decide), em, (show (200 : Int32) + nI m = nI (200 + m) from nI_add 200 m), ltq, if_neg (nI_in (show 200 + m < 240 by omega) (by decide)), nI_clamp (show 200 + m < 2 ^ 31 by omega), ltq (wI M1 544 _ _), if_pos (kc 29 (by decide)), if_pos (kc 30 (by decide))]
  have e3' := e3.m5 w4' fun k => ⟨rfl, rfl⟩
  have fo1 := fCo_To e6
  have fm1 := (fDr_c (m := m) (fCm_Tm e7)).tr w4
  have r544 : rI (wI M1 544 (200 + m) (nI (k - 29))) 544 (200 + m) = nI (k - 29) := rI_wI
  generalize wI M1 544 (200 + m) (nI (k - 29)) = N1 at *
  have hD1 := hD.st q fo1 fm1
  obtain ⟨sn1, pn1, an1⟩ := hD1.1.sn
  have hT1 := hD1.1.2.2.2.2.2
  rcases hk with rfl | rfl | rfl
  · -- a call
    rw [if_pos rfl, if_pos (show nI (29 - 29) = 0 from rfl), isKept_ok e3', bnq]
    rcases person_U e3' e4 hkd hT1.pn pn1 with ⟨u1, u2⟩ | ⟨u1, u2, x, u3, u4⟩
    · have hB := bad_of (Sm1 := N1) e3' (j := 1) (by decide) (by decide)
      have f2 := fo1.tr (Fr.wI rfl : Fr fCo S1 (wI S1 3 7 (nI 1 + 16 * nI b1')))
      rw [u1, if_neg (by decide), u2, bnq, (show o_tp_step (wI S1 3 7 (1 + 16 * nI b1')) = _ from st_F hB.1), bnq, (show o_rd_soundHere v (wI S1 3 7 (1 + 16 * nI b1')) = _ from sound_F hB.1 v), bnq, st_F hB.1, bnq, m_fails_ok 1 _ e3'.2.2.1.2, bnq, if_pos b0]
      exact ⟨false, _, _, d120_F hB.1 _ _ _, rfl, d_end h3 q hB f2 (fm1.tr (fDr_c (Fr.wI rfl))) rfl⟩
    rw [u1, if_pos (show bI (!true) = 0 from rfl), u3, bnq, if_neg (nI_inC (show 200 + m < 240 by omega) (by decide)), ltq (wI N1 545 _ _), if_neg (nI_inC (show 200 + m < 240 by omega) (by decide)), rI_wI]
    have w5 : Fr (fDr m) N1 (wI N1 545 (200 + m) x) := fDr_w (by decide)
    have w5' : Fr (fun a _ => a == 545) N1 (wI N1 545 (200 + m) x) := Fr.wI rfl
    have e35 := e3'.m5 w5' fun k => ⟨rfl, rfl⟩
    rcases u4 with ⟨rfl, u5⟩ | ⟨jp, jp1, rfl, u5⟩
    · have hB := bad_of (Sm1 := wI N1 545 (200 + m) (-1)) e3' (j := 2) (by decide) (by decide)
      have f2 := fo1.tr (Fr.wI rfl : Fr fCo S1 (wI S1 3 7 (nI 2 + 16 * nI b1')))
      rw [if_pos (show (-1 : Int32) < 0 by decide), u5, bnq, (show o_tp_step (wI S1 3 7 (2 + 16 * nI b1')) = _ from st_F hB.1), bnq, (show o_rd_soundHere v (wI S1 3 7 (2 + 16 * nI b1')) = _ from sound_F hB.1 v), bnq, st_F hB.1, bnq, m_fails_ok 2 _ e35.2.2.1.2, bnq, if_pos b0]
      exact ⟨false, _, _, d120_F hB.1 _ _ _, rfl, d_end h3 q hB f2 ((fm1.tr w5).tr (fDr_c (Fr.wI rfl))) rfl⟩
    have hpn := pn1.2.1
    obtain ⟨k2, w2, b2, p2, S2, M2, g1, g2, g3, g4, g5, g6, g7⟩ := nx_U e35 e4 u2
    rw [if_neg (nI_pos (by omega)), u5, bnq, g1, bnq, g2, bnq]
    have fo2 := fo1.tr (fCo_To g6)
    have fm2 := (fm1.tr w5).tr (fDr_c (fCm_Tm g7))
    have r4 : rI M2 544 (200 + m) = 0 := (g7.i (by rfl)).trans ((rI_wI_a (by decide)).trans r544)
    have r5 : rI M2 545 (200 + m) = nI jp := (g7.i (by rfl)).trans rI_wI
    have hD2 := hD.st q fo2 fm2
    obtain ⟨sn2, _, _⟩ := hD2.1.sn
    obtain ⟨zz, y, S3, M3, a1, a2, a3, a4, a5⟩ := sound_U g3 g4 hkd (r := 0) (by decide) hD2.1.2.2.2.2.2.sn sn2
    rw [a1, bnq, (show m_needsSound 0 M2 = _ from a2), bnq]
    rcases a3 with ⟨rfl, rfl, i1, i2, i3, js, js1, rfl, _, rfl⟩ | ⟨rfl, rfl, hB⟩
    rotate_left
    · rw [if_pos bF, st_F hB.1, bnq]
      exact ⟨false, _, _, d120_F hB.1 _ _ _, rfl, d_end h3 q hB (fo2.tr a4) (fm2.tr (fDr_c a5)) rfl⟩
    have w6 : Fr (fDr m) (wI M2 500 46 (nI js)) (wI (wI M2 500 46 (nI js)) 546 (200 + m) (nI js)) := fDr_w (by decide)
    have w6' : Fr (fun a _ => a == 546) (wI M2 500 46 (nI js)) (wI (wI M2 500 46 (nI js)) 546 (200 + m) (nI js)) := Fr.wI rfl
    rw [if_neg bT, if_neg (nI_inC (show 200 + m < 240 by omega) (by decide)), rI_wI, ltq (wI (wI M2 500 46 (nI js)) 546 _ _)]
    have g36 := (g3.w46 (nI js)).m5 w6' fun k => ⟨rfl, rfl⟩
    obtain ⟨k4, w4, b4, p4, S4, M4, t1, t2, t3, t4, t5, t6, t7⟩ := nx_U g36 g4 i1
    rw [t1, bnq, t2, bnq]
    have fo4 := (fo2.tr a4).tr (fCo_To t6)
    have fm4 := ((fm2.tr (fDr_c a5)).tr w6).tr (fDr_c (fCm_Tm t7))
    obtain ⟨zl, So', Sm', l1, l2, l3, l4, l5⟩ := dl_tail (bz := b) t3 t4 (hD.st q fo4 fm4) q (x := 1) (y := nI jp) (z := nI js) (Or.inr (Or.inl ⟨rfl, (t7.i (by rfl)).trans ((rI_wI_a (by decide)).trans ((rI_wI_a (by decide)).trans r4)), (t7.i (by rfl)).trans ((rI_wI_a (by decide)).trans ((rI_wI_a (by decide)).trans r5)), (t7.i (by rfl)).trans rI_wI, ⟨jp, jp1, rfl⟩, js, js1, rfl⟩)) (by omega)
    exact ⟨zl, So', Sm', l1, l2, l3, (fDo_c fo4).tr l4, (fDr_A q fm4).tr l5⟩
  · -- a pick
    rw [if_neg (by decide), if_pos rfl, if_neg (show ¬ nI (30 - 29) = 0 by decide), if_pos (show nI (30 - 29) = 1 from rfl)]
    obtain ⟨zz, y, S3, M3, a1, a2, a3, a4, a5⟩ := apple_U e3' e4 hkd (r := 0) (by decide) hT1.sn sn1 hT1.ap (fun e he => (h1.1.ap he).1.1) an1
    rw [a1, bnq, (show m_needsApple 0 N1 = _ from a2), bnq]
    rcases a3 with ⟨rfl, rfl, i1, ja, ja1, rfl, rfl⟩ | ⟨rfl, rfl, hB⟩
    rotate_left
    · rw [if_pos bF, st_F hB.1, bnq]
      exact ⟨false, _, _, d120_F hB.1 _ _ _, rfl, d_end h3 q hB (fo1.tr a4) (fm1.tr (fDr_c a5)) rfl⟩
    have w6 : Fr (fDr m) (wI N1 500 46 (nI ja)) (wI (wI N1 500 46 (nI ja)) 546 (200 + m) (nI ja)) := fDr_w (by decide)
    have w6' : Fr (fun a _ => a == 546) (wI N1 500 46 (nI ja)) (wI (wI N1 500 46 (nI ja)) 546 (200 + m) (nI ja)) := Fr.wI rfl
    rw [if_neg bT, if_neg (nI_inC (show 200 + m < 240 by omega) (by decide)), rI_wI, ltq (wI (wI N1 500 46 (nI ja)) 546 _ _)]
    have g36 := (e3'.w46 (nI ja)).m5 w6' fun k => ⟨rfl, rfl⟩
    obtain ⟨k4, w4, b4, p4, S4, M4, t1, t2, t3, t4, t5, t6, t7⟩ := nx_U g36 e4 i1
    rw [t1, bnq, t2, bnq]
    have fo4 := (fo1.tr a4).tr (fCo_To t6)
    have fm4 := ((fm1.tr (fDr_c a5)).tr w6).tr (fDr_c (fCm_Tm t7))
    obtain ⟨zl, So', Sm', l1, l2, l3, l4, l5⟩ := dl_tail (bz := b) t3 t4 (hD.st q fo4 fm4) q (x := 2) (y := nI ja) (z := 0) (Or.inr (Or.inr ⟨rfl, (t7.i (by rfl)).trans ((rI_wI_a (by decide)).trans ((rI_wI_a (by decide)).trans r544)), (t7.i (by rfl)).trans rI_wI, ja, ja1, rfl⟩)) (by omega)
    exact ⟨zl, So', Sm', l1, l2, l3, (fDo_c fo4).tr l4, (fDr_A q fm4).tr l5⟩
  · -- a day
    rw [if_neg (by decide), if_neg (by decide), if_neg (show ¬ nI (31 - 29) = 0 by decide), if_neg (show ¬ nI (31 - 29) = 1 by decide)]
    obtain ⟨zl, So', Sm', l1, l2, l3, l4, l5⟩ := dl_tail (bz := b) e3' e4 hD1 q (x := 0) (y := 0) (z := 0) (Or.inl ⟨rfl, r544⟩) (by omega)
    exact ⟨zl, So', Sm', l1, l2, l3, (fDo_c fo1).tr l4, (fDr_A q fm1).tr l5⟩
theorem rLine_ok (h : TK n tx k w b p So Sm) (h0 : rI So 3 7 = 0) (hD : DYS T W V L v m f So Sm) : ∃ z So' Sm', o_rd_readLine v So = some ((), So') ∧ m_readsLine Sm = some (bI z, Sm') ∧ DEND n tx T W V L v b z So' Sm' ∧ Fr fDo So So' ∧ Fr fDa Sm Sm' := by
  unfold o_rd_readLine m_readsLine
  rw [oq2 h.q, if_pos (h.kc (j := 29) (by decide)), if_pos (h.kc (j := 30) (by decide)), if_pos (h.kc (j := 31) (by decide)), isWord_ok h 29 (by decide) (K := 60114) (by decide), bnq]
  by_cases q1 : k = 29
  · subst q1
    rw [if_pos rfl, decide_eq_true rfl, if_neg bT]
    exact rl_38 h (Or.inl rfl) h0 hD
  rw [if_neg (k_ne q1), decide_eq_false q1, if_pos bF, isWord_ok h 30 (by decide) (K := 321581) (by decide), bnq]
  by_cases q2 : k = 30
  · subst q2
    rw [if_pos rfl, decide_eq_true rfl, if_neg bT]
    exact rl_38 h (Or.inr (Or.inl rfl)) h0 hD
  rw [if_neg (k_ne q2), decide_eq_false q2, if_pos bF, isWord_ok h 31 (by decide) (K := 2968) (by decide), bnq]
  by_cases q3 : k = 31
  · subst q3
    rw [if_pos rfl, decide_eq_true rfl, if_neg bT]
    exact rl_38 h (Or.inr (Or.inr rfl)) h0 hD
  have hB := bad_of (Sm1 := Sm) h (j := 1) (by decide) (by decide)
  have f1 : Fr fCo So (wI So 3 7 (nI 1 + 16 * nI b)) := Fr.wI rfl
  unfold m_readsLine_43
  rw [if_neg (k_ne q3), decide_eq_false q3, if_pos bF, wr_U h h0, bnq, if_pos (show (-1 : Int32) < 0 by decide), m_fails_ok 1 Sm h.2.2.1.2, bnq, if_pos b0]
  exact ⟨false, _, _, rfl, rfl, Or.inr ⟨rfl, hB, m, f, hD.2.2.1.fr f1 (fun k => fCo_n (by omega)) (fun k => fCo_n (by omega))⟩, fDo_c f1, fDa_c (Fr.wI rfl)⟩
end DLINE2
