/-! Reading an orchard: stranger, bann. -/
section TWO
variable {n p b k i d s s' bz m u mx : Nat} {w : List Nat} {tx : Nat → Int32} {T T' So Sm S S' So' Sm' : St} {P Q : Nat → Nat → Bool} {W V W' V' : Nat → List Nat} {c c' : Nat → Nat} {f : Nat → Nat → Int32}
/-- a new row of two -/
theorem row2 (h : TB u mx 2 n f S) (hn : n < mx) (x y : Int32) : ∃ S', (bn (o_tb_add u S) fun r S1 => bn (o_tb_put u r 0 x S1) fun _ S2 => bn (o_tb_put u r 1 y S2) fun _ S3 => some ((), S3)) = some ((), S') ∧ TB u mx 2 (n + 1) (fun a j => if a = n then (if j = 0 then x else y) else f a j) S' ∧ Fr (fun a _ => a == u || a == u + 30) S S' := by
  obtain ⟨S1, a1, a2, a3⟩ := tb_add h hn
  have u0 := a2.put (i := n) (show 0 < 2 by decide) x
  have u1 := u0.put (i := n) (show 1 < 2 by decide) y
  refine ⟨_, ?_, u1.ext fun a j ha hj => ?_, ((a3.mo fun a k q => ?_).tr (Fr.wI (by simp))).tr (Fr.wI (by simp))⟩
  · rw [a1, bnq, (show o_tb_put u (nI n) 0 x S1 = _ from tb_put a2 (by omega) (show 0 < 2 by decide) x), bnq, (show o_tb_put u (nI n) 1 y _ = _ from tb_put u0 (by omega) (show 1 < 2 by decide) y), bnq]
  · by_cases q : a = n
    · subst q
      rcases (show j = 0 ∨ j = 1 by omega) with rfl | rfl
      · simp [upR]
      · simp [upR]
    · simp [upR, q]
  · simp at q ⊢
    omega
theorem DTB.up (hd : d = 20 ∨ d = 21) (hT : DTB d c T W V So) (g : Fr (fUp d) So So') (hc : ∀ j, j ≠ 3 → j ≠ 5 → c' j = c j) (e : ∀ a j, a ≠ 502 → (a < 515 ∨ a = 517 ∨ a = 518) → rI T' a j = rI T a j) (g1 : ∀ k, (fun (a : Nat) (_ : Nat) => a == u || a == u + 30) (d + 80) k = false ∧ (fun (a : Nat) (_ : Nat) => a == u || a == u + 30) (d + 80 + 30) k = false) (g' : Fr (fun a _ => a == u || a == u + 30) So So') (hu : u = d + 84 ∨ u = d + 88) (h3 : TB (d + 84) 6 2 (c' 3) (fun g j => rI T' (515 + j) g) So') (h5 : TB (d + 88) 4 2 (c' 5) (fun b j => rI T' (519 + j) b) So') : DTB d c' T' W V So' := by
  obtain ⟨v1, v2, v3, ⟨f, v4, v4'⟩, v5, v6, v7⟩ := hT
  have nf : ∀ a k, a ≠ u → a ≠ u + 30 → (fun (a : Nat) (_ : Nat) => a == u || a == u + 30) a k = false := fun a k q1 q2 => by
    simp
    exact ⟨q1, q2⟩
  have ec : c' 0 = c 0 ∧ c' 1 = c 1 ∧ c' 2 = c 2 ∧ c' 4 = c 4 := ⟨hc 0 (by decide) (by decide), hc 1 (by decide) (by decide), hc 2 (by decide) (by decide), hc 4 (by decide) (by decide)⟩
  unfold DTB
  rw [ec.1, ec.2.1, ec.2.2.1, ec.2.2.2]
  refine ⟨(v1.fr g' (fun k => nf _ 0 (by omega) (by omega)) (fun k => nf _ 0 (by omega) (by omega))).ext fun a j ha hj => (e _ _ (by unfold ccol; split <;> (try split) <;> omega) (by unfold ccol; split <;> (try split) <;> omega)).symm, (v2.fr g' (fun k => nf _ 0 (by omega) (by omega)) (fun k => nf _ 0 (by omega) (by omega))).ext fun a j ha hj => (e _ _ (by omega) (by omega)).symm, h3, ⟨f, v4.fr g' (fun k => nf _ 0 (by omega) (by omega)) (fun k => nf _ 0 (by omega) (by omega)), fun q hq => ?_⟩, h5, v6.fr g' (nf _ 0 (by omega) (by omega)) (fun k => nf _ 0 (by omega) (by omega)), v7.fr g' (nf _ 0 (by omega) (by omega)) (fun k => nf _ 0 (by omega) (by omega))⟩
  rw [e 518 _ (by decide) (by omega), vN_ex (e 518 q (by decide) (by omega))]
  refine ⟨(v4' q hq).1, fun k hk => ?_⟩
  rw [e 517 _ (by decide) (by omega)]
  exact (v4' q hq).2 k hk
/-! stranger -/
theorem st_F2 (hd : d = 20 ∨ d = 21) (hF : FT S) (h : TB (d + 84) 6 2 n f S) (x : Int32) : ∀ (j i m : Nat), i + j = n → j < m → o_rd_readStranger_19 m d x (nI i) S = o_rd_readStranger_57 d x S
  | 0, i, m, hi, hm => by
    obtain ⟨m, rfl, hm⟩ := fuel hm
    have hc := h.2.2.2.2.2.1
    rw [o_rd_readStranger_19, if_pos (kd_d hd), if_pos h.k, tb_size h, bnq, if_neg (nI_nlt (by omega) (by omega))]
  | j + 1, i, m, hi, hm => by
    obtain ⟨m, rfl, hm⟩ := fuel hm
    have hc := h.2.2.2.2.2.1
    have ih := st_F2 hd hF h x j (i + 1) m (by omega) (by omega)
    unfold o_rd_readStranger_19 o_rd_readStranger_51
    rw [if_pos (kd_d hd), if_pos h.k, tb_size h, bnq, if_pos (nI_lt (by omega) (by omega)), (show o_tb_at (d + 84) (nI i) 0 S = _ from tb_atI h (show i < n by omega) (show 0 < 2 by decide)), bnq, wr_F hF, bnq, nI_1, ltq, ih]
    by_cases q : f i 0 = x
    · rw [if_pos q]
    · rw [if_neg q]
def hv (g : Nat → Int32) (x : Int32) : Nat → Nat → Bool
  | _, 0 => false
  | i, j + 1 => decide (g i = x) || hv g x (i + 1) j
theorem st_U2 (hd : d = 20 ∨ d = 21) {So Sm : St} (hK : TK s tx k w b p So Sm) (h0 : rI So 3 7 = 0) (h : TB (d + 84) 6 2 n f So) (x : Int32) : ∀ (j i m : Nat), i + j = n → j < m → o_rd_readStranger_19 m d x (nI i) So = o_rd_readStranger_57 d x (bif hv (fun a => f a 0) x i j then wI So 3 7 (nI 3 + 16 * nI b) else So)
  | 0, i, m, hi, hm => by
    obtain ⟨m, rfl, hm⟩ := fuel hm
    have hc := h.2.2.2.2.2.1
    rw [o_rd_readStranger_19, if_pos (kd_d hd), if_pos h.k, tb_size h, bnq, if_neg (nI_nlt (by omega) (by omega))]
    rfl
  | j + 1, i, m, hi, hm => by
    obtain ⟨m, rfl, hm⟩ := fuel hm
    have hc := h.2.2.2.2.2.1
    have ih := st_U2 hd hK h0 h x j (i + 1) m (by omega) (by omega)
    have hB := bad_of (Sm1 := Sm) hK (j := 3) (by decide) (by decide)
    have hF := st_F2 hd hB.1 (h.fr (Fr.wI rfl : Fr (fun a k => a == 3 && k == 7) So _) (fun k => by simp <;> omega) (fun k => by simp <;> omega)) x j (i + 1) m (by omega) (by omega)
    unfold o_rd_readStranger_19 o_rd_readStranger_51
    rw [if_pos (kd_d hd), if_pos h.k, tb_size h, bnq, if_pos (nI_lt (by omega) (by omega)), (show o_tb_at (d + 84) (nI i) 0 So = _ from tb_atI h (show i < n by omega) (show 0 < 2 by decide)), bnq, wr_U hK h0, bnq, nI_1, ltq, ltq, hv]
    by_cases q : f i 0 = x
    · rw [if_pos q, decide_eq_true q, Bool.true_or, cond_true]
      exact hF
    · rw [if_neg q, ih, decide_eq_false q, Bool.false_or]
theorem m_st_loop (hO : OMs T Sm) {e : Nat} (he6 : e ≤ 6) : ∀ (j i m : Nat), i + j = e → j < m → m_readsStranger_40 m (nI (6 + e)) (nI (6 + i)) Sm = bif hv (fun a => rI T 515 a) (rI Sm 500 46) i j then m_readsStranger_58 Sm else m_readsStranger_70 (nI (6 + e)) Sm
  | 0, i, m, hi, hm => by
    obtain ⟨m, rfl, hm⟩ := fuel hm
    rw [m_readsStranger_40, if_neg (nI_nlt (by omega) (by omega))]
    rfl
  | j + 1, i, m, hi, hm => by
    obtain ⟨m, rfl, hm⟩ := fuel hm
    have ih := m_st_loop hO he6 j (i + 1) m (by omega) (by omega)
    rw [m_readsStranger_40, if_pos (nI_lt (by omega) (by omega)), if_neg (nI_in (by omega) (by omega)), nI_clamp (by omega), (show rI Sm 515 (6 + i) = rI T 515 i from hO.1 515 i (by unfold oc; simp; omega) (by decide)), hv]
    by_cases q : rI T 515 i = rI Sm 500 46
    · rw [if_pos q, decide_eq_true q, Bool.true_or, cond_true]
    · rw [if_neg q, nI_1, ltq, show 6 + i + 1 = 6 + (i + 1) by omega, ih, decide_eq_false q, Bool.false_or]
def stT' (T : St) (e : Nat) (s x : Int32) : St := wI (wI (wI T 515 e s) 516 e x) 502 3 (nI (e + 1))
theorem stranger_ok (hd : d = 20 ∨ d = 21) (h : TK n tx k w b p So Sm) (hk : k ≠ 0) (h0 : rI So 3 7 = 0) (hR : RDS d c T W V b So Sm) : ∃ z So' Sm', o_rd_readStranger d So = some ((), So') ∧ m_readsStranger Sm = some (bI z, Sm') ∧ LEND n tx d b z So' Sm' ∧ Fr (fLo d) So So' ∧ Fr fLm Sm Sm' := by
  have hkd := kd_d hd
  obtain ⟨hD, hO, hT, hL⟩ := id hR
  have hL : LWS d b So Sm := hL
  obtain ⟨t1, t2, t3, t4, t5, t6, t7⟩ := id hT
  have hb := hD.2.1
  have hft : Dft d So := hT.dft
  unfold o_rd_readStranger m_readsStranger
  rw [if_pos hkd, if_pos t3.k, tb_full t3, bnq, if_neg g9_12, c9, (show rI Sm 502 9 = nI (c 3) from hR.nn (j := 3) (by decide)), (show (6 : Int32) + nI (c 3) = nI (6 + c 3) from nI_add 6 _), ltq]
  have tail57 : ∀ {S2 : St} (x : Int32), FT S2 → o_rd_readStranger_57 d x S2 = some ((), S2) := fun x hF => by
    unfold o_rd_readStranger_57 o_rd_readStranger_119
    simp only [st_F hF, num_F hF, tk6 hF, bnq, if_neg hF.1]
  by_cases q : c 3 < 6
  rotate_left
  · obtain ⟨e1, e2, hB⟩ := open_U1 h h0
    have f1 : Fr fCo So (wI So 3 7 (nI 5 + 16 * nI b)) := Fr.wI rfl
    rw [decide_eq_true (show 6 ≤ c 3 by omega), if_pos (show nI (6 + c 3) = 12 by rw [show 6 + c 3 = 12 by omega]; rfl), (show o_rd_open (bI true) So = _ from e1), bnq, e2, bnq, if_pos b0, sound_F hB.1, bnq, (show o_rd_readStranger_19 FU d (-1) 0 _ = _ from st_F2 hd hB.1 (t3.fr f1 (fun k => fCo_n (by omega)) (fun k => fCo_n (by omega))) (-1) (c 3) 0 FU (Nat.zero_add _) (by unfold FU; omega)), tail57 _ hB.1]
    exact ⟨false, _, _, rfl, rfl, bad_end2 hd hft hB f1 (fLm_c (Fr.wI rfl)) rfl⟩
  rw [decide_eq_false (show ¬ 6 ≤ c 3 by omega), if_neg (show ¬ nI (6 + c 3) = 12 from nI_ne (b := 12) (by omega) (by omega) (by decide))]
  obtain ⟨k1, w1, b1', p1, S1, M1, e1, e2, e3, e4, e5, e6, e7⟩ := open_U0 h h0 hk
  have hR1 := hR.cf hd (fCo_To e6) (fCm_Tm e7) (show b ≤ b1' by omega)
  obtain ⟨z, x, S2, M2, g1, g2, g3, g4, g5⟩ := sound_U e3 e4 hkd (r := 1) (by decide) hR1.2.2.1.2.2.2.2.2.1 hR1.sn
  have fo2 := (fCo_To e6).tr g4
  have fm2 := (fCm_Tm e7).tr g5
  have tt : TB (d + 84) 6 2 (c 3) (fun g j => rI T (515 + j) g) S2 := t3.fr fo2 (fun k => fCo_n (by omega)) (fun k => fCo_n (by omega))
  rw [(show o_rd_open (bI false) So = _ from e1), bnq, g1, bnq, e2, bnq, (show m_needsSound 1 M1 = _ from g2), bnq]
  rcases g3 with ⟨rfl, rfl, i1, i2, i3, j, j1, rfl, j2, rfl⟩ | ⟨rfl, rfl, hB⟩
  rotate_left
  · rw [if_pos bF, (show o_rd_readStranger_19 FU d (-1) 0 S2 = _ from st_F2 hd hB.1 tt (-1) (c 3) 0 FU (Nat.zero_add _) (by unfold FU; omega)), tail57 _ hB.1]
    exact ⟨false, _, _, rfl, rfl, bad_end2 hd hft hB fo2 (fLm_c fm2) rfl⟩
  have hO2 : OMs T (wI M1 500 46 (nI j)) := hO.cq fm2
  have h2 := e3.w46 (nI j)
  rw [if_neg bT, (show o_rd_readStranger_19 FU d (nI j) 0 S2 = _ from st_U2 hd h2 e4 tt (nI j) (c 3) 0 FU (Nat.zero_add _) (by unfold FU; omega)), (show m_readsStranger_40 FU (nI (6 + c 3)) 6 (wI M1 500 46 (nI j)) = _ from m_st_loop hO2 (by omega) (c 3) 0 FU (Nat.zero_add _) (by unfold FU; omega)), rI_wI]
  cases qm : hv (fun a => rI T 515 a) (nI j) 0 (c 3) with
  | true =>
    have hB := bad_of (Sm1 := wI M1 500 46 (nI j)) h2 (j := 3) (by decide) (by decide)
    rw [cond_true, cond_true, tail57 _ hB.1]
    unfold m_readsStranger_58
    rw [m_fails_ok 3 _ h2.2.2.1.2, bnq, if_pos b0]
    exact ⟨false, _, _, rfl, rfl, bad_end2 hd hft hB (fo2.tr (Fr.wI rfl)) (fLm_c (fm2.tr (Fr.wI rfl))) rfl⟩
  | false =>
    rw [cond_false, cond_false]
    unfold o_rd_readStranger_57 o_rd_readStranger_119 m_readsStranger_70
    have w515 : Fr fDm (wI M1 500 46 (nI j)) (wI (wI M1 500 46 (nI j)) 515 (6 + c 3) (nI j)) := fD_w (k := c 3) (by decide) (by decide) rfl
    obtain ⟨k3, w3, b3, p3, S4, M4, u1, u2, u3, u4, u5, u6, u7⟩ := nx_U (h2.dm w515) e4 i1
    rw [u1, bnq, if_neg (nI_in (show 6 + c 3 < 12 by omega) (by decide)), nI_clamp (by omega), rI_wI, ltq (wI (wI M1 500 46 (nI j)) 515 _ _), u2, bnq]
    obtain ⟨z6, x6, S6, M6, a1, a2, a3, a4, a5, a6⟩ := num_U u3 u4 (mx := 10) (by decide)
    have fo4 := (fo2.tr (fCo_To u6)).tr a5
    have fm4 : Fr fLm Sm M6 := (((fLm_c fm2).tr (fLm_d w515)).tr (fLm_c (fCm_Tm u7))).tr (fLm_c a6)
    rw [(show o_rd_number 10 S4 = _ from a1), bnq, (show m_needsNumber 0 10 M4 = _ from a2), bnq]
    rcases a3 with ⟨rfl, k6, w6, b6, p6, f1, f2, f3⟩ | ⟨rfl, hB⟩
    rotate_left
    · rw [if_pos bF, tk6 hB.1, bnq, if_neg hB.1.1]
      exact ⟨false, _, _, rfl, rfl, bad_end2 hd hft hB fo4 fm4 rfl⟩
    obtain ⟨j6, j6l, rfl, j6m⟩ := a4 rfl
    have fd : Fr fDm M6 (wI (wI M6 516 (6 + c 3) (nI j6)) 502 9 (nI (c 3 + 1))) := (fD_w (k := c 3) (by decide) (by decide) rfl).tr (fD_w (k := 3) (by decide) (by decide) rfl)
    have hO6 : OMs (wI T 515 (c 3) (nI j)) M6 := ((hO2.wI (k := c 3) rfl).cq (fCm_Tm u7)).cq a6
    have ec3 : rI M6 502 9 = nI (c 3) := (hO6.nn (j := 3) (by decide)).trans (by
      rw [rI_wI_a (by decide)]
      exact hD.1 3 (by decide))
    have hO7 : OMs (stT' T (c 3) (nI j) (nI j6)) (wI (wI M6 516 (6 + c 3) (nI j6)) 502 9 (nI (c 3 + 1))) := (hO6.wI (k := c 3) rfl).wI (k := 3) rfl
    have hL7 : LWS d b6 S6 (wI (wI M6 516 (6 + c 3) (nI j6)) 502 9 (nI (c 3 + 1))) := ((((hL.cf hd fo2 fm2 (show b ≤ b1' by omega)).dm hd w515).cf hd (fCo_To u6) (fCm_Tm u7) (show b1' ≤ b3 by omega)).cf hd a5 a6 (show b3 ≤ b6 by omega)).dm hd fd
    rw [if_neg bT, if_neg (nI_inC (show 6 + c 3 < 12 by omega) (by decide)), j6m, ltq (wI M6 516 _ _), if_neg g9_12, if_neg g9_12, c9, rI_wI_a (show 502 ≠ 516 by decide), ec3, nI_1, ltq (wI (wI M6 516 _ _) 502 9 _)]
    have ne : ∀ a j', a ≠ 502 → (j' ≠ c 3 ∨ (a ≠ 515 ∧ a ≠ 516)) → rI (stT' T (c 3) (nI j) (nI j6)) a j' = rI T a j' := fun a j' q1 q2 => by
      unfold stT'
      rw [rI_wI_a q1, rI_wIn (by omega), rI_wIn (by omega)]
    have r515 : rI (stT' T (c 3) (nI j) (nI j6)) 515 (c 3) = nI j := by
      unfold stT'
      rw [rI_wI_a (by decide), rI_wI_a (by decide), rI_wI]
    have r516 : rI (stT' T (c 3) (nI j) (nI j6)) 516 (c 3) = nI j6 := by
      unfold stT'
      rw [rI_wI_a (by decide), rI_wI]
    have r502 : ∀ j', rI (stT' T (c 3) (nI j) (nI j6)) 502 j' = if j' = 3 then nI (c 3 + 1) else rI T 502 j' := fun j' => by
      unfold stT'
      by_cases q : j' = 3
      · rw [q, rI_wI, if_pos rfl]
      · rw [rI_wI_k q, if_neg q, rI_wI_a (by decide), rI_wI_a (by decide)]
    have rj : ∀ a j', rJ (stT' T (c 3) (nI j) (nI j6)) a j' = rJ T a j' := fun a j' => rfl
    generalize stT' T (c 3) (nI j) (nI j6) = T' at *
    have hD7 : DRW (fun j => if j = 3 then c 3 + 1 else c j) T' W V := by
      obtain ⟨h1, h2, h3, h4, h5, h6, h7, h8, h9, h10⟩ := hD
      refine ⟨fun k hk => ?_, by show c 0 ≤ 10 ∧ c 1 ≤ c 0 + 6 ∧ c 0 ≤ c 1 ∧ c 2 ≤ 5 ∧ c 3 + 1 ≤ 6 ∧ c 4 ≤ 4 ∧ c 5 ≤ 4; omega, h3.ex (fun a j q1 q2 => ne _ _ (by omega) (by omega)) (Nat.le_refl _), h4.ex fun j => ne _ _ (by omega) (by omega), h5.ex fun a j q1 q2 => ne _ _ (by omega) (by omega), fun g hg => ?_, h7.ex (fun a j q1 q2 => ne _ _ (by omega) (by omega)) (Nat.le_refl _), h8.ex (fun a j q1 q2 => ne _ _ (by omega) (by omega)) (Nat.le_refl _), h9.ex fun j => rj _ _, h10.ex fun j => rj _ _⟩
      · rw [r502]
        show (if k = 3 then nI (c 3 + 1) else rI T 502 k) = nI (if k = 3 then c 3 + 1 else c k)
        by_cases q : k = 3
        · rw [if_pos q, if_pos q]
        · rw [if_neg q, if_neg q]
          exact h1 k hk
      · have hg : g < c 3 + 1 := hg
        show IsN T' 515 g (c 1) ∧ IsN T' 516 g 11
        by_cases q : g = c 3
        · rw [q]
          exact ⟨IsN.nI r515 j1 (by omega), IsN.nI r516 (by omega) (by decide)⟩
        · obtain ⟨g1, g2⟩ := h6 g (by omega)
          exact ⟨g1.ex (ne _ _ (by decide) (Or.inl q)), g2.ex (ne _ _ (by decide) (Or.inl q))⟩
    obtain ⟨z, So', Sm', l1, l2, l3, l4, l5⟩ := line_end (bz := b) (So := S6) hd (f1.dm fd) f2 hO7 hD7 (hft.fC hd fo4) hL7 (by omega) (X := fun S6 => if KO.1 d = (0, 10) then (if KO.1 (d + 84) = (0, 7) then (bn (o_tb_add (d + 84) S6) fun r9 S10 => bn (o_tb_put (d + 84) r9 0 (nI j) S10) fun _ S12 => bn (o_tb_put (d + 84) r9 1 (nI j6) S12) fun _ S14 => some ((), S14)) else none) else none) (fun S9 f9 h9 => by
      have hT9 : DTB d c T W V S9 := hT.fr (fo4.tr f9) (fun a k q => fCo_n (by omega)) hd
      obtain ⟨S', y1, y2, y3⟩ := row2 hT9.2.2.1 q (nI j) (nI j6)
      have fu : Fr (fUp d) S9 S' := y3.mo fun a k q => by
        unfold fUp at q
        simp at q ⊢
        omega
      refine ⟨S', ?_, hT9.up (u := d + 84) hd fu (fun j q1 q2 => if_neg q1) (fun a j q1 q2 => ne _ _ q1 (by omega)) (fun k => by simp <;> omega) y3 (Or.inl rfl) ?_ ?_, fu⟩
      · show (if KO.1 d = (0, 10) then (if KO.1 (d + 84) = (0, 7) then (bn (o_tb_add (d + 84) S9) fun r9 S10 => bn (o_tb_put (d + 84) r9 0 (nI j) S10) fun _ S12 => bn (o_tb_put (d + 84) r9 1 (nI j6) S12) fun _ S14 => some ((), S14)) else none) else none) = _
        rw [if_pos hkd, if_pos hT9.2.2.1.k]
        exact y1
      · refine y2.ext fun a j' ha hj => ?_
        show (if a = c 3 then (if j' = 0 then nI j else nI j6) else rI T (515 + j') a) = rI T' (515 + j') a
        by_cases q2 : a = c 3
        · rw [if_pos q2, q2]
          rcases (show j' = 0 ∨ j' = 1 by omega) with rfl | rfl
          · rw [if_pos rfl]
            exact r515.symm
          · rw [if_neg (by decide)]
            exact r516.symm
        · rw [if_neg q2]
          exact (ne _ _ (by omega) (Or.inl q2)).symm
      · exact (hT9.2.2.2.2.1.fr y3 (fun k => by simp <;> omega) (fun k => by simp <;> omega)).ext fun a j' ha hj => (ne _ _ (by omega) (by omega)).symm)
    exact ⟨z, So', Sm', l1, l2, l3, (fLo_c fo4).tr l4, (fm4.tr (fLm_d fd)).tr l5⟩
end TWO
