section YEARS3
variable {T : St} {W V : Nat → List Nat} {L : Int32 → Int32 → Int32} {v d u a : Nat} {Z Z1 Z2 : Nat → Int32} {So So' Sm Sm' S : St}
def fst' (p : Nat → Bool) : Nat → Nat → Nat
  | k, 0 => k
  | k, j + 1 => bif p k then k else fst' p (k + 1) j
theorem fst_or (p : Nat → Bool) : ∀ j k, (fst' p k j = k + j ∧ ∀ i, k ≤ i → i < k + j → p i = false) ∨ (k ≤ fst' p k j ∧ fst' p k j < k + j ∧ p (fst' p k j) = true ∧ ∀ i, k ≤ i → i < fst' p k j → p i = false)
  | 0, k => Or.inl ⟨rfl, fun i h1 h2 => absurd h1 (by omega)⟩
  | j + 1, k => by
    rw [fst']
    cases hp : p k with
    | true =>
      rw [cond_true]
      exact Or.inr ⟨Nat.le_refl _, by omega, hp, fun i h1 h2 => absurd h1 (by omega)⟩
    | false =>
      rw [cond_false]
      rcases fst_or p j (k + 1) with ⟨h1, h2⟩ | ⟨h1, h2, h3, h4⟩
      · refine Or.inl ⟨by omega, fun i q1 q2 => ?_⟩
        by_cases q : i = k
        · rw [q, hp]
        · exact h2 i (by omega) (by omega)
      · refine Or.inr ⟨by omega, by omega, h3, fun i q1 q2 => ?_⟩
        by_cases q : i = k
        · rw [q, hp]
        · exact h4 i (by omega) q2
def pkB (T : St) (Z1 : Nat → Int32) (a : Nat) : Bool := tkB T Z1 (nI a) && !decide (Z1 2 < rI T 509 a)
theorem m_pick_loop (hw : WF T W V) (hO : OM T Sm) (hS : SM Z1 Sm) (g : Int32) : ∀ (j k m : Nat), k + j = ct T 0 → j < m → m_livesDay_134 m g (nI k) Sm = m_livesDay_173 g (nI (fst' (pkB T Z1) k j)) Sm
  | 0, k, m, hk, hm => by
    have hn := hw.b
    obtain ⟨m, rfl, hm⟩ := fuel hm
    rw [Nat.add_zero] at hk
    subst hk
    rw [m_livesDay_134, if_neg g0_12, c0, hO.n (by decide), hw.n (by decide), if_neg (nI_nlt (Nat.le_refl _) (by omega))]
    rfl
  | j + 1, k, m, hk, hm => by
    have hn := hw.b
    obtain ⟨m, rfl, hm⟩ := fuel hm
    have ih := m_pick_loop hw hO hS g j (k + 1) m (by omega) (by omega)
    rw [m_livesDay_134, if_neg g0_12, c0, hO.n (by decide), hw.n (by decide), if_pos (nI_lt (by omega) (by omega)), m_canPick_ok hS (by omega) hn.1, bnq, fst']
    unfold m_livesDay_167
    have hp : pkB T Z1 k = (tkB T Z1 (nI k) && !decide (Z1 2 < rI T 509 k)) := rfl
    cases ht : tkB T Z1 (nI k) with
    | false =>
      rw [ht, Bool.false_and] at hp
      rw [if_pos bF, ltq, nI_1, hp]
      exact ih
    | true =>
      rw [ht, Bool.true_and] at hp
      rw [if_neg bT, if_neg g2_15, if_neg (nI_in (by omega) (by omega)), c2, nI_clamp (by omega), hS 2 (by decide), hO.ri (by omega), hp]
      by_cases q : Z1 2 < rI T 509 k
      · rw [if_pos q, decide_eq_true q, ltq, nI_1]
        exact ih
      · rw [if_neg q, decide_eq_false q]
        rfl
/-- the first ripe one is picked -/
theorem yk_ok (hw : WF T W V) (hL : LawV T L) {D x : Int32} {s : Nat} (h : DS T W V L v D x s Z1 So Sm) (g : Int32) : ∃ Z2 So' Sm', o_pickFirstRipe So = some ((), So') ∧ m_livesDay_132 g Sm = m_livesDay_189 g Sm' ∧ SD 205 Z2 (ct T 0) So' ∧ SM Z2 Sm' ∧ WZ T Z2 ∧ Fr (frXU 205) So So' ∧ Fr fGo Sm Sm' := by
  have hn := hw.b
  obtain ⟨⟨h1, h2⟩, h3, h4, h5, h6, h7, h8, h9, h10, h11, h12⟩ := h
  have em := m_pick_loop hw h4 h5 g (ct T 0) 0 FU (Nat.zero_add _) (by unfold FU; omega)
  have er : ∀ a, a < ct T 0 → tb (Z1 0 &&& (unM T D ^^^ (-1))) a = (tb (Z1 0) a && !decide (D < rI T 509 a)) := fun a ha => by
    rw [tb_and, tb_not _ (by omega)]
    unfold unM
    rw [tb_mk _ _ _ (by omega) (by omega), decide_eq_true ha, Bool.true_and]
  have lr : lo (ct T 0) (Z1 0 &&& (unM T D ^^^ (-1))) := lo_and h6.1
  have et : ∀ a, a < ct T 0 → tkB T Z1 (nI a) = (tb (Z1 0) a && decide (Z1 3 = 0)) := fun a ha => by
    unfold tkB hgB
    rw [inN_nI (by omega) (by omega), decide_eq_true ha, Bool.true_and, nI_clamp (by omega)]
  have ep : ∀ a, a < ct T 0 → pkB T Z1 a = (tb (Z1 0 &&& (unM T D ^^^ (-1))) a && decide (Z1 3 = 0)) := fun a ha => by
    unfold pkB
    rw [er a ha, et a ha, h7]
    cases tb (Z1 0) a <;> cases decide (Z1 3 = 0) <;> cases decide (D < rI T 509 a) <;> rfl
  -- none is picked
  have hno : (∀ a, a < ct T 0 → pkB T Z1 a = false) → m_livesDay_132 g Sm = m_livesDay_189 g Sm := fun hh => by
    have ef : fst' (pkB T Z1) 0 (ct T 0) = ct T 0 := by
      rcases fst_or (pkB T Z1) (ct T 0) 0 with ⟨q, -⟩ | ⟨q1, q2, q3, -⟩
      · rw [q, Nat.zero_add]
      · rw [hh _ (by omega)] at q3
        cases q3
    unfold m_livesDay_132
    rw [(show m_livesDay_134 FU g 0 Sm = _ from em), ef]
    unfold m_livesDay_173
    rw [if_neg g0_12, c0, h4.n (by decide), hw.n (by decide), if_neg (nI_nlt (Nat.le_refl _) (by omega))]
  unfold o_pickFirstRipe o_pickFirstRipe_55
  rw [oq2 h1, if_pos h2.k, h3.2.2.2.1, h7, to_unripe hw h2, bnq, h3.2.1, ltq]
  by_cases q : Z1 0 &&& (unM T D ^^^ (-1)) = 0
  · rw [if_pos q]
    exact ⟨Z1, So, Sm, rfl, hno fun a ha => by rw [ep a ha, q, tb_z, Bool.false_and], h3, h5, h6, Fr.rf, Fr.rf⟩
  · rw [if_neg q, h3.2.2.2.2.2.1]
    by_cases q3 : Z1 3 = 0
    · obtain ⟨i, hi, hb, he⟩ : ∃ i, i < ct T 0 ∧ tb (Z1 0 &&& (unM T D ^^^ (-1))) i = true ∧ nz (Z1 0 &&& (unM T D ^^^ (-1))) = nI i ∧ fst' (pkB T Z1) 0 (ct T 0) = i := by
        rw [nz_ok (lo_mo lr hn.1) q]
        rcases ff_or (p := tb (Z1 0 &&& (unM T D ^^^ (-1)))) 10 0 with ⟨-, q2⟩ | ⟨i, -, h2', h3', h4', h5'⟩
        · exact absurd (eq_of_lo lr (lo_0 _) fun j hj => by rw [q2 j (Nat.zero_le _) (by omega), tb_z]) q
        · have hi : i < ct T 0 := Decidable.byContradiction fun qq => by
            rw [lr i (by omega) (by omega)] at h3'
            cases h3'
          refine ⟨i, hi, h3', h4', ?_⟩
          have hpi : pkB T Z1 i = true := by rw [ep i hi, h3', decide_eq_true q3]; rfl
          rcases fst_or (pkB T Z1) (ct T 0) 0 with ⟨-, q2⟩ | ⟨q1, q2, q4, q5⟩
          · rw [q2 i (Nat.zero_le _) (by omega)] at hpi
            cases hpi
          · rcases Nat.lt_trichotomy (fst' (pkB T Z1) 0 (ct T 0)) i with hl | hl | hl
            · rw [ep _ (by omega), h5' _ (Nat.zero_le _) hl] at q4
              cases q4
            · exact hl
            · rw [q5 i (Nat.zero_le _) hl] at hpi
              cases hpi
      have htk : tkB T Z1 (nI i) = true := by
        rw [er i hi] at hb
        rw [et i hi, decide_eq_true q3, (Bool.and_eq_true_iff.mp hb).1]
        rfl
      obtain ⟨S1, a1, a2, a3⟩ := sd_take (u := 205) hw h6 h2 (by decide) h3 hi htk
      obtain ⟨R1, b1', b2, b3⟩ := m_picks_ok hw hL h4 h5 hi
      refine ⟨takeZ T L Z1 i, S1, R1, ?_, ?_, a2, b2, WZ_take h6 i, a3, b3.mo fun a k q => fGo_S q⟩
      · rw [if_pos q3, oq2 h1, j_nz, bnq, he.1, a1, bnq]
      · unfold m_livesDay_132
        rw [(show m_livesDay_134 FU g 0 Sm = _ from em), he.2]
        unfold m_livesDay_173
        rw [if_neg g0_12, c0, h4.n (by decide), hw.n (by decide), if_pos (nI_lt hi (by omega)), b1', bnq]
    · rw [if_neg q3]
      exact ⟨Z1, So, Sm, rfl, hno fun a ha => by rw [ep a ha, decide_eq_false q3, Bool.and_false], h3, h5, h6, Fr.rf, Fr.rf⟩
theorem yl_loop (hw : WF T W V) (hL : LawV T L) (w : Int32) {t : Nat} (ht : t < 100) : ∀ (j i m1 m2 : Nat) (g : Int32) (s : Nat) (Z1 : Nat → Int32) (So Sm : St), DS T W V L v (Z1 2) 0 s Z1 So Sm → i + j = t → j < m1 → j < m2 → ∃ g' Z' So' Sm', o_years_61 m1 (nI t) w g (nI i) So = o_years_124 w g' So' ∧ m_years_62 m2 (nI t) w g (nI i) Sm = m_years_83 w g' Sm' ∧ SD 205 Z' (ct T 0) So' ∧ SM Z' Sm' ∧ WZ T Z' ∧ Fr fYo So So' ∧ Fr fYm Sm Sm'
  | 0, i, m1, m2, g, s, Z1, So, Sm, h, hi, h1, h2 => by
    obtain ⟨m1, rfl, h1⟩ := fuel h1
    obtain ⟨m2, rfl, h2⟩ := fuel h2
    rw [Nat.add_zero] at hi
    subst hi
    refine ⟨g, Z1, So, Sm, ?_, ?_, h.2.1, h.2.2.2.1, h.2.2.2.2.1, Fr.rf, Fr.rf⟩
    · rw [o_years_61, if_neg (nI_nlt (Nat.le_refl _) (by omega))]
    · rw [m_years_62, if_neg (nI_nlt (Nat.le_refl _) (by omega))]
  | j + 1, i, m1, m2, g, s, Z1, So, Sm, h, hi, h1, h2 => by
    have hn := hw.b
    obtain ⟨m1, rfl, h1⟩ := fuel h1
    obtain ⟨m2, rfl, h2⟩ := fuel h2
    obtain ⟨x, s1, Za, S1, R1, a1, a2, a3, -, a5, a6⟩ := ys_loop hw hL (ct T 3) 0 FU FU 0 s Z1 So Sm h (Nat.zero_add _) (by unfold FU; omega) (by unfold FU; omega)
    obtain ⟨y, s2, Zb, S2, R2, b1', b2, b3, -, b5, b6⟩ := yp_ok hw hL a3
    obtain ⟨Zc, S3, R3, c1', c2', c3', c4', c5', c6', c7'⟩ := yk_ok hw hL b3 (nI (grN T (x ||| y) (Z1 2)))
    obtain ⟨S4, d1, d2, d3⟩ := sd_nextDay c3'
    obtain ⟨R4, e1, e2, e3⟩ := m_passes_ok c4'
    have fo : Fr fYo So S4 := ((a5.tr b5).tr (c6'.mo fun a k q => fYo_X q)).tr (d3.mo fun a k q => frXU_U (fYo_X q))
    have fm : Fr fYm Sm R4 := ((a6.tr b6).tr (c7'.mo fun a k q => fYm_G q)).tr (e3.mo fun a k q => by
      have := fGo_S (fYm_G q)
      unfold frS at this
      exact (Bool.or_eq_false_iff.mp this).2)
    have hb3 := b3
    obtain ⟨⟨k1, k2⟩, k3, k4, k5, k6, k7, k8, k9, k10, k11, k12⟩ := b3
    have hno : ∀ i, i < ct T 0 → ¬ (tb 0 i = true ∧ tb (nextZ Zc 0) i = true) := fun i hi hh => by
      have := hh.1
      rw [tb_z] at this
      cases this
    have hds : DS T W V L v (nextZ Zc 2) 0 s2 (nextZ Zc) S4 R4 := ⟨⟨(d3.q (frU_n (by decide) (by decide))).trans ((c6'.q (frXU_n (by decide) (by decide))).trans k1), (k2.fr c6' fun a k q => frXU_t (by decide) q).fr d3 fun a k q => frXU_U (frXU_t (by decide) q)⟩, d2, (k4.fr c7' fun a k q => fGo_o q).fr e3 (fun a k q => beq_eq_false_iff_ne.mpr (by omega)), e2, WZ_next c5', rfl, lo_0 _, hno, k10, (d3.j (frU_n (by decide) (by decide))).trans ((c6'.j (frXU_n (by decide) (by decide))).trans k11), (e3.j (by rfl)).trans ((c7'.j (by rfl)).trans k12)⟩
    obtain ⟨g', Z', So', Sm', q1, q2, q3, q4, q5, q6, q7⟩ := yl_loop hw hL w ht j (i + 1) m1 m2 (g + nI (grN T (x ||| y) (Z1 2))) s2 (nextZ Zc) S4 R4 hds (by omega) (by omega) (by omega)
    refine ⟨g', Z', So', Sm', ?_, ?_, q3, q4, q5, fo.tr q6, fm.tr q7⟩
    · rw [o_years_61, if_pos (nI_lt (by omega) (by omega)), oq2 h.1.1, if_pos h.1.2.k, h.2.1.2.2.2.1, to_unripe hw h.1.2, bnq]
      unfold o_drawStrangers
      rw [(show o_drawStrangers_4 FU 0 0 So = _ from a1), bnq, b1', bnq, ltq (x ||| y), j_bitCount (lo_mo (gr_lo T (x ||| y) (Z1 2) hn.1) hn.1), bnq, gr_bc hn.1, ltq, c1', bnq, d1, bnq, ltq, nI_1]
      exact q1
    · have a2' : m_livesDay_4 FU 0 0 Sm = m_livesDay_59 (nI (grN T x (Z1 2))) R1 := by
        rw [grz] at a2
        exact a2
      rw [m_years_62, if_pos (nI_lt (by omega) (by omega))]
      unfold m_livesDay
      rw [a2', b2, c2']
      unfold m_livesDay_189
      rw [e1, bnq, bnq, ltq, ltq, nI_1]
      exact q2
end YEARS3
