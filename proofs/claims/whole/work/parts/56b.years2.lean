section YEARS2
variable {T : St} {W V : Nat → List Nat} {L : Int32 → Int32 → Int32} {v d u a : Nat} {Z Z1 Z2 : Nat → Int32} {So So' Sm Sm' S : St}
theorem ys_loop (hw : WF T W V) (hL : LawV T L) {D : Int32} : ∀ (j k m1 m2 : Nat) (x : Int32) (s : Nat) (Z1 : Nat → Int32) (So Sm : St), DS T W V L v D x s Z1 So Sm → k + j = ct T 3 → j < m1 → j < m2 → ∃ x' s' Z1' So' Sm', o_drawStrangers_4 m1 x (nI k) So = some (x', So') ∧ m_livesDay_4 m2 (nI (grN T x D)) (nI k) Sm = m_livesDay_59 (nI (grN T x' D)) Sm' ∧ DS T W V L v D x' s' Z1' So' Sm' ∧ Z1' 3 = Z1 3 ∧ Fr fYo So So' ∧ Fr fYm Sm Sm'
  | 0, k, m1, m2, x, s, Z1, So, Sm, h, hk, h1, h2 => by
    have hn := hw.b
    obtain ⟨m1, rfl, h1⟩ := fuel h1
    obtain ⟨m2, rfl, h2⟩ := fuel h2
    rw [Nat.add_zero] at hk
    subst hk
    refine ⟨x, s, Z1, So, Sm, ?_, ?_, h, rfl, Fr.rf, Fr.rf⟩
    · rw [o_drawStrangers_4, oq2 h.1.1, if_pos h.1.2.k, if_pos h.1.2.sr.k, tb_size h.1.2.sr, bnq, if_neg (nI_nlt (Nat.le_refl _) (by omega))]
      rfl
    · rw [m_livesDay_4, if_neg g3_12, c3, h.2.2.1.n (by decide), hw.n (by decide), if_neg (nI_nlt (Nat.le_refl _) (by omega))]
  | j + 1, k, m1, m2, x, s, Z1, So, Sm, h, hk, h1, h2 => by
    have hn := hw.b
    obtain ⟨m1, rfl, h1⟩ := fuel h1
    obtain ⟨m2, rfl, h2⟩ := fuel h2
    have hsr := hw.sr (show k < ct T 3 by omega)
    have hsr2 : vN T 516 k < 11 := hsr.2.2
    obtain ⟨S1, R1, a1, a2, a3, a4, a5⟩ := h.dr (k := 10) (by decide) (by decide)
    have e1 : o_tb_at (v + 84) (nI k) (1 : Int32) S1 = some (rI T 516 k, S1) := tb_atI a3.1.2.sr (i := k) (j := 1) (by omega) (by decide)
    rw [o_drawStrangers_4, oq2 h.1.1, if_pos h.1.2.k, if_pos h.1.2.sr.k, tb_size h.1.2.sr, bnq, if_pos (nI_lt (by omega) (by omega)), (show o_dr_below 10 So = _ from a1), bnq, oq2 a3.1.1, if_pos a3.1.2.k, if_pos a3.1.2.sr.k, e1, bnq, m_livesDay_4, if_neg g3_12, c3, h.2.2.1.n (by decide), hw.n (by decide), if_pos (nI_lt (by omega) (by omega)), (show m_draws 10 Sm = _ from a2), bnq, if_neg (nI_in (by omega) (by omega)), nI_clamp (by omega), a3.2.2.1.sb (by omega), a3.2.2.1.sg (by omega)]
    unfold o_drawStrangers_80 m_livesDay_53
    by_cases q : nI (dw s 10) < rI T 516 k
    · rw [if_pos q, if_pos q, if_neg (nI_inC (by omega) (by omega))]
      obtain ⟨S2, R2, b1', b2, b3, b4, b5⟩ := a3.dr (k := 12) (by decide) (by decide)
      have e0 : o_tb_at (v + 84) (nI k) (0 : Int32) S2 = some (rI T 515 k, S2) := tb_atI b3.1.2.sr (i := k) (j := 0) (by omega) (by decide)
      obtain ⟨S3, R3, c1', c2', c3', c4', c5', c6', c7'⟩ := b3.cry hw hL hsr.1.2 (show dw (nx s) 12 < 12 from dw_lt (by decide)) (show 3 < 7 by decide)
      obtain ⟨x', s', Z1', So', Sm', d1, d2, d3, d4, d5, d6⟩ := ys_loop hw hL j (k + 1) m1 m2 _ _ _ S3 R3 c5' (by omega) (by omega) (by omega)
      rw [c4'] at d2
      refine ⟨x', s', Z1', So', Sm', ?_, ?_, d3, d4.trans (show cryZ T L Z1 (vN T 515 k) (dw (nx s) 12) 3 3 = Z1 3 from rfl), ((a4.tr b4).tr c6').tr d5, ((a5.tr b5).tr c7').tr d6⟩
      · rw [(show o_dr_below 12 S1 = _ from b1'), bnq, oq2 b3.1.1, oq2 b3.1.1, if_pos b3.1.2.k, if_pos b3.1.2.sr.k, e0, bnq, hsr.1.1, (show o_sd_cry 205 v _ 3 _ S2 = _ from c1'), bnq, ltq, ltq, nI_1]
        exact d1
      · rw [(show m_draws 12 R1 = _ from b2), bnq, hsr.1.1, (show m_calls _ _ 3 R2 = _ from c2'), bnq, c3', bnq, nI_add, ltq, ltq, nI_1]
        exact d2
    · rw [if_neg q, if_neg q]
      obtain ⟨x', s', Z1', So', Sm', d1, d2, d3, d4, d5, d6⟩ := ys_loop hw hL j (k + 1) m1 m2 _ _ _ S1 R1 a3 (by omega) (by omega) (by omega)
      refine ⟨x', s', Z1', So', Sm', ?_, ?_, d3, d4, a4.tr d5, a5.tr d6⟩
      · rw [ltq, nI_1]
        exact d1
      · rw [ltq, nI_1]
        exact d2
/-- the person of the day -/
theorem yp_ok (hw : WF T W V) (hL : LawV T L) {D x : Int32} {s : Nat} (h : DS T W V L v D x s Z1 So Sm) : ∃ y s' Z1' So' Sm', o_drawPerson So = some (y, So') ∧ m_livesDay_59 (nI (grN T x D)) Sm = m_livesDay_132 (nI (grN T (x ||| y) D)) Sm' ∧ DS T W V L v D (x ||| y) s' Z1' So' Sm' ∧ Z1' 3 = Z1 3 ∧ Fr fYo So So' ∧ Fr fYm Sm Sm' := by
  have hn := hw.b
  have hO := h.2.2.1
  unfold o_drawPerson o_drawPerson_26 m_livesDay_59
  rw [oq2 h.1.1, if_pos h.1.2.k, if_pos h.1.2.pe.k, tb_size h.1.2.pe, bnq, if_neg g2_12, if_neg g1_12, c2, c1, hO.n (by decide), hw.n (by decide), hO.n (by decide), hw.n (by decide)]
  have x0 : x ||| 0 = x := Int32.or_zero
  by_cases q1 : ct T 2 = 0
  · rw [if_pos (show nI (ct T 2) = 0 by rw [q1]; rfl), if_neg (show ¬ (0 : Int32) < nI (ct T 2) by rw [q1]; decide)]
    refine ⟨0, s, Z1, So, Sm, rfl, by rw [x0], by rw [x0]; exact h, rfl, Fr.rf, Fr.rf⟩
  · rw [if_neg (nI_ne0 (by omega) (by omega)), if_pos (show (0 : Int32) < nI (ct T 2) from nI_lt (a := 0) (by omega) (by omega)), oq2 h.1.1, if_pos h.1.2.k, if_pos h.1.2.sn.1, na_size h.1.2.sn, bnq]
    by_cases q2 : ct T 1 = 0
    · rw [if_pos (show nI (ct T 1) = 0 by rw [q2]; rfl), if_neg (show ¬ (0 : Int32) < nI (ct T 1) by rw [q2]; decide)]
      refine ⟨0, s, Z1, So, Sm, rfl, by rw [x0], by rw [x0]; exact h, rfl, Fr.rf, Fr.rf⟩
    · obtain ⟨S1, R1, a1, a2, a3, a4, a5⟩ := h.dr (k := ct T 2) (by omega) (by omega)
      obtain ⟨S2, R2, b1', b2, b3, b4, b5⟩ := a3.dr (k := ct T 1) (by omega) (by omega)
      have hpl : dw s (ct T 2) < ct T 2 := dw_lt (by omega)
      have hkl : dw (nx s) (ct T 1) < ct T 1 := dw_lt (by omega)
      generalize dw s (ct T 2) = p at a1 a2 hpl
      generalize dw (nx s) (ct T 1) = k at b1' b2 hkl
      have hpe := hw.pe hpl
      have ecay : cayB T W (nI p) (nI k) = sayB T W p k := by
        unfold cayB
        rw [inN_nI (by omega) (by omega), inN_nI (by omega) (by omega), decide_eq_true hpl, decide_eq_true hkl, nI_clamp (by omega), nI_clamp (by omega)]
        rfl
      rw [if_neg (nI_ne0 (by omega) (by omega)), if_pos (show (0 : Int32) < nI (ct T 1) from nI_lt (a := 0) (by omega) (by omega)), oq2 h.1.1, if_pos h.1.2.k, if_pos h.1.2.pe.k, tb_size h.1.2.pe, bnq, a1, bnq, oq2 a3.1.1, if_pos a3.1.2.k, if_pos a3.1.2.sn.1, na_size a3.1.2.sn, bnq, b1', bnq, oq2 b3.1.1, if_pos b3.1.2.k, to_canSay hw b3.1.2, bnq, ecay, if_neg (show ¬ ((2 : Int32) < 0 ∨ (12 : Nat) ≤ 2) by decide), a2, bnq, if_neg (show ¬ ((1 : Int32) < 0 ∨ (12 : Nat) ≤ 1) by decide), a3.2.2.1.n (by decide), hw.n (by decide), b2, bnq, m_isSaid_ok hw b3.2.2.1 hpl hkl, bnq]
      cases hsay : sayB T W p k with
      | false =>
        rw [if_pos bF, if_pos bF]
        exact ⟨0, nx (nx s), Z1, S2, R2, rfl, by rw [x0], by rw [x0]; exact b3, rfl, a4.tr b4, a5.tr b5⟩
      | true =>
        obtain ⟨S3, R3, c1', c2', c3', c4', c5', c6', c7'⟩ := b3.cry hw hL hkl hpe.1.2 hpe.2.1.2
        refine ⟨_, _, _, S3, R3, ?_, ?_, c5', rfl, (a4.tr b4).tr c6', (a5.tr b5).tr c7'⟩
        · rw [if_neg bT, oq2 b3.1.1, oq2 b3.1.1, if_pos b3.1.2.k, to_laneOf b3.1.2 hpl, bnq, oq2 b3.1.1, if_pos b3.1.2.k, to_loudOf b3.1.2 hpl, bnq, hpe.1.1, hpe.2.1.1, c1', bnq]
        · rw [if_neg bT, if_neg (nI_in (by omega) (by omega)), if_neg (nI_in (by omega) (by omega)), nI_clamp (by omega), b3.2.2.1.la (by omega), b3.2.2.1.lo (by omega), hpe.1.1, hpe.2.1.1, c2', bnq, c3', bnq, nI_add, ltq, c4']
end YEARS2
