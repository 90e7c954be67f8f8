/-! The thief's pages: stolen, hide. -/
section STOLEN
variable {T : St} {W V : Nat → List Nat} {L : Int32 → Int32 → Int32} {v d u a : Nat} {Z Z1 Z2 : Nat → Int32} {So So' Sm Sm' S : St}
def vcB (l w : Int32) : Bool := !decide (l < 0) && (!decide ((11 : Int32) < l) && (!decide (w < 0) && !decide ((6 : Int32) < w)))
theorem o_isVoice_ok (l w : Int32) (S : St) : o_isVoice l w S = some (bI (vcB l w), S) := by
  unfold o_isVoice o_isVoice_24 o_isVoice_25 vcB
  rw [if_pos b0, if_pos b1]
  by_cases q1 : l < 0
  · rw [if_pos q1, decide_eq_true q1]
    rfl
  · rw [if_neg q1, decide_eq_false q1]
    by_cases q2 : (11 : Int32) < l
    · rw [if_pos q2, decide_eq_true q2]
      rfl
    · rw [if_neg q2, decide_eq_false q2]
      by_cases q3 : w < 0
      · rw [if_pos q3, decide_eq_true q3]
        rfl
      · rw [if_neg q3, decide_eq_false q3]
        by_cases q4 : (6 : Int32) < w
        · rw [if_pos q4, decide_eq_true q4]
          rfl
        · rw [if_neg q4, decide_eq_false q4]
          rfl
theorem m_isVoice_ok (l w : Int32) (S : St) : m_isVoice l w S = some (bI (vcB l w), S) := by
  unfold m_isVoice m_isVoice_24 m_isVoice_25 vcB
  rw [m_within_ok, bnq]
  by_cases q1 : l < 0
  · rw [decide_eq_true q1, if_pos (show bI (!true && _) = 0 from rfl)]
    rfl
  · rw [decide_eq_false q1]
    by_cases q2 : (11 : Int32) < l
    · rw [decide_eq_true q2, if_pos (show bI (!false && !true) = 0 from rfl)]
      rfl
    · rw [decide_eq_false q2, if_neg (show ¬ bI (!false && !false) = 0 by decide), m_within_ok, bnq]
      by_cases q3 : w < 0
      · rw [decide_eq_true q3, if_pos (show bI (!true && _) = 0 from rfl)]
        rfl
      · rw [decide_eq_false q3]
        by_cases q4 : (6 : Int32) < w
        · rw [decide_eq_true q4, if_pos (show bI (!false && !true) = 0 from rfl)]
          rfl
        · rw [decide_eq_false q4, if_neg (show ¬ bI (!false && !false) = 0 by decide)]
          rfl
theorem vc_of {l w : Int32} (h : vcB l w = true) : ∃ i j, i < 12 ∧ j < 7 ∧ l = nI i ∧ w = nI j := by
  unfold vcB at h
  simp only [Bool.and_eq_true, Bool.not_eq_true', decide_eq_false_iff_not] at h
  obtain ⟨h1, h2, h3, h4⟩ := h
  obtain ⟨i, hi, rfl⟩ := nI_of h1
  obtain ⟨j, hj, rfl⟩ := nI_of h3
  exact ⟨i, j, Decidable.byContradiction fun q => h2 (nI_lt (a := 11) (by omega) hi), Decidable.byContradiction fun q => h4 (nI_lt (a := 6) (by omega) hj), rfl, rfl⟩
/-- the same names -/
def sn (Z Z1 : Nat → Int32) : Prop := ∀ a, Z1 (5 + a) = Z (5 + a)
theorem sn_slk (h : sn Z Z1) (c a : Nat) : slk T Z1 c a = slk T Z c a := by
  unfold slk zs
  rw [h a]
theorem sn_mnt (h : sn Z Z1) (c a : Nat) : mnt T Z1 c a = mnt T Z c a := by
  unfold mnt
  rw [sn_slk h]
theorem sn_wh (h : sn Z Z1) (c l w : Nat) : whM T Z1 c l w = whM T Z c l w := by
  unfold whM
  exact mk_ext fun i hi => by unfold whB; rw [sn_mnt h]
theorem sn_ec (h : sn Z Z1) (c l w : Nat) : ecM T Z1 c l w = ecM T Z c l w := by
  unfold ecM
  exact mk_ext fun i hi => by unfold ecB; rw [sn_mnt h]
theorem sn_cry (h : sn Z Z1) (c l w : Nat) : sn Z (cryZ T L Z1 c l w) := fun a => by
  rw [← h a]
  unfold cryZ
  rw [if_neg (by omega), if_neg (by omega), if_neg (by omega)]
theorem wt_or {x y : Int32} (h : ∀ i, i < ct T 0 → ¬ (tb x i = true ∧ tb y i = true)) : wtS T (x ||| y) = wtS T x + wtS T y := by
  unfold wtS
  rw [← sm_add]
  refine sm_ext fun i hi => ?_
  have := h i hi
  rw [tb_or]
  cases h1 : tb x i <;> cases h2 : tb y i
  · exact (Int32.add_zero 0).symm
  · exact (Int32.zero_add _).symm
  · exact (Int32.add_zero _).symm
  · exact absurd ⟨h1, h2⟩ this
theorem m_th_sum (hw : WF T W V) (hO : OM T S) (k22 : Int32 → Int32 → Int32 → Int32 → Int32 → Int32 → Int32 → St → Re Int32) (p l w h1 h2 acc i x : Int32) : ∀ (j k m : Nat), k + j = ct T 0 → j < m → m_thiefOf_92 k22 m p l w h1 h2 (acc + sm k fun a => bif tb x a then rI T 510 a else 0) i x (nI k) S = m_thiefOf_136 k22 p l w h1 h2 (acc + wtS T x) i S
  | 0, k, m, hk, hm => by
    have hn := hw.b
    obtain ⟨m, rfl, hm⟩ := fuel hm
    rw [Nat.add_zero] at hk
    subst hk
    rw [m_thiefOf_92, if_neg g0_12, c0, hO.n (by decide), hw.n (by decide), if_neg (nI_nlt (Nat.le_refl _) (by omega))]
    rfl
  | j + 1, k, m, hk, hm => by
    have hn := hw.b
    obtain ⟨m, rfl, hm⟩ := fuel hm
    have ih := m_th_sum hw hO k22 p l w h1 h2 acc i x j (k + 1) m (by omega) (by omega)
    rw [sm, ← Int32.add_assoc] at ih
    rw [m_thiefOf_92, if_neg g0_12, c0, hO.n (by decide), hw.n (by decide), if_pos (nI_lt (by omega) (by omega))]
    unfold m_thiefOf_127
    cases ht : tb x k with
    | false =>
      rw [ht, cond_false] at ih
      rw [if_neg (fun q => by rw [sr_eq _ (by omega), ht] at q; cases q), ltq, ltq, nI_1]
      exact ih
    | true =>
      rw [ht, cond_true] at ih
      rw [if_pos ((sr_eq _ (by omega)).mpr ht), if_neg (nI_in (by omega) (by omega)), nI_clamp (by omega), hO.wo (by omega), ltq, ltq, nI_1]
      exact ih
theorem stolen_loop (hw : WF T W V) (hz : WZ T Z) {q l w : Nat} (hq : q < ct T 4) (hl : l < 12) (hww : w < 7) : ∀ (j k m1 m2 : Nat) (Z1 : Nat → Int32) (So Sm : St) (x : Int32), rQ So 1 9 = some v → TD v T W V L So → SD 205 Z1 (ct T 0) So → OM T Sm → SM Z Sm → WZ T Z1 → sn Z Z1 → (∀ i, i < ct T 0 → ¬ (tb x i = true ∧ tb (Z1 0) i = true)) → k + j = vN T 518 q → j < m1 → j < m2 → ∃ r So' Sm', o_stolen_20 m1 (nI q) (nI l) (nI w) x (nI k) So = some (r, So') ∧ m_thiefOf_22 m2 (nI q) (nI l) (nI w) (Z1 0) (Z1 1) (wtS T x) (nI k) Sm = some (r, Sm') ∧ Fr (frXU 205) So So' ∧ Fr frH Sm Sm'
  | 0, k, m1, m2, Z1, So, Sm, x, hv, hT, hs, hO, hS, hz1, hsn, hdj, hk, h1, h2 => by
    have hn := hw.b
    obtain ⟨m1, rfl, h1⟩ := fuel h1
    obtain ⟨m2, rfl, h2⟩ := fuel h2
    obtain ⟨f, t1, t2⟩ := hT.pg
    have hpg := hw.pg hq
    rw [Nat.add_zero] at hk
    have e0 : o_tb_at (v + 86) (nI q) (0 : Int32) So = some (f q 0, So) := tb_atI t1 (i := q) (j := 0) hq (by decide)
    refine ⟨wtS T x, So, Sm, ?_, ?_, Fr.rf, Fr.rf⟩
    · rw [o_stolen_20, oq2 hv, if_pos hT.k, if_pos t1.k, e0, bnq, (t2 q hq).1, hpg.1.1, hk, if_neg (nI_nlt (Nat.le_refl _) (by have := hpg.1.2; omega))]
      unfold o_stolen_91
      rw [oq2 hv, if_pos hT.k, to_worthOf hw hT, bnq]
    · rw [m_thiefOf_22, if_neg (nI_in (by omega) (by omega)), nI_clamp (by omega), hO.pm (by omega), hpg.1.1, hk, if_neg (nI_nlt (Nat.le_refl _) (by have := hpg.1.2; omega))]
      rfl
  | j + 1, k, m1, m2, Z1, So, Sm, x, hv, hT, hs, hO, hS, hz1, hsn, hdj, hk, h1, h2 => by
    have hn := hw.b
    obtain ⟨m1, rfl, h1⟩ := fuel h1
    obtain ⟨m2, rfl, h2⟩ := fuel h2
    obtain ⟨f, t1, t2⟩ := hT.pg
    have hpg := hw.pg hq
    have hp10 : vN T 518 q < 11 := hpg.1.2
    obtain ⟨A, hpk⟩ : ∃ A, rI T 517 (10 * q + k) = nI A ∧ A < ct T 0 := ⟨_, (hpg.2 k (by omega)).1, (hpg.2 k (by omega)).2⟩
    have hap := hw.ap hpk.2
    have e0 : o_tb_at (v + 86) (nI q) (0 : Int32) So = some (f q 0, So) := tb_atI t1 (i := q) (j := 0) hq (by decide)
    have e1 : o_tb_at (v + 86) (nI q) (nI (1 + k)) So = some (f q (1 + k), So) := tb_atI t1 (i := q) (j := 1 + k) hq (by omega)
    have e5 : o_tb_at (v + 80) (nI A) (5 : Int32) So = some (rI T 505 A, So) := tb_atI hT.ap (i := A) (j := 5) hpk.2 (by decide)
    obtain ⟨S1, a1, a2, a3⟩ := sd_cry (u := 205) hw hz1 hT (by decide) hs hap.1.2 hl hww
    obtain ⟨R1, b1', b2, b3, b4⟩ := m_hears_ok hw hz hO hS hap.1.2 hl hww
    have hO1 := hO.fr b2 fun a k q => frH_o q
    obtain ⟨R2, c1', c2', c3'⟩ := m_fallsBy_ok hw hO1 (Z1 0) (Z1 1) (whM T Z (vN T 505 A) l w) (ecM T Z (vN T 505 A) l w)
    have hO2 := hO1.fr c2' fun a k q => frH_o q |> fun h => frL_H h
    have ef : flA T (Z1 0) (Z1 1) (whM T Z (vN T 505 A) l w) (ecM T Z (vN T 505 A) l w) = cryF T Z1 (vN T 505 A) l w := by
      unfold cryF
      rw [sn_wh hsn, sn_ec hsn]
    have el : lsT T (Z1 0) (Z1 1) (whM T Z (vN T 505 A) l w) (ecM T Z (vN T 505 A) l w) = cryZ T L Z1 (vN T 505 A) l w 1 := by
      show _ = lsT T (Z1 0) (Z1 1) (whM T Z1 (vN T 505 A) l w) (ecM T Z1 (vN T 505 A) l w)
      rw [sn_wh hsn, sn_ec hsn]
    have h0 : cryZ T L Z1 (vN T 505 A) l w 0 = Z1 0 &&& (cryF T Z1 (vN T 505 A) l w ^^^ (-1)) := rfl
    have hsub : ∀ i, tb (cryF T Z1 (vN T 505 A) l w) i = true → tb (Z1 0) i = true := fun i hi => by
      unfold cryF flA fl0 at hi
      rw [tb_or, tb_and, tb_and] at hi
      cases h : tb (Z1 0) i with
      | true => rfl
      | false => rw [h, Bool.false_and, Bool.false_and] at hi; cases hi
    have ewt : wtS T (x ||| cryF T Z1 (vN T 505 A) l w) = wtS T x + wtS T (cryF T Z1 (vN T 505 A) l w) := wt_or fun i hi h => hdj i hi ⟨h.1, hsub i h.2⟩
    obtain ⟨r, So', Sm', d1, d2, d3, d4⟩ := stolen_loop hw hz hq hl hww j (k + 1) m1 m2 (cryZ T L Z1 (vN T 505 A) l w) S1 R2 (x ||| cryF T Z1 (vN T 505 A) l w) ((a3.q (frXU_n (by decide) (by decide))).trans hv) (hT.fr a3 fun a k q => frXU_t (by decide) q) a2 hO2 ((hS.fr b2 fun k => rfl).fr c2' fun k => rfl) (WZ_cry hz1 _ _ _) (sn_cry hsn _ _ _) (fun i hi h => by
      rw [h0, tb_and, tb_or, tb_not _ (by omega)] at h
      cases hc : tb (cryF T Z1 (vN T 505 A) l w) i with
      | true => rw [hc, Bool.not_true, Bool.and_false] at h; cases h.2
      | false =>
        rw [hc, Bool.or_false, Bool.not_false, Bool.and_true] at h
        exact hdj i hi h) (by omega) (by omega) (by omega)
    refine ⟨r, So', Sm', ?_, ?_, a3.tr d3, (b2.tr (c2'.mo fun a k q => frL_H q)).tr d4⟩
    · rw [o_stolen_20, oq2 hv, if_pos hT.k, if_pos t1.k, e0, bnq, (t2 q hq).1, hpg.1.1, if_pos (nI_lt (by omega) (by omega)), oq2 hv, if_pos hT.k, if_pos t1.k, show (1 : Int32) + nI k = nI (1 + k) from nI_add 1 k, e1, bnq, (t2 q hq).2 k (by omega), hpk.1, oq2 hv, oq2 hv, if_pos hT.k, if_pos hT.ap.k, e5, bnq, hap.1.1, a1, bnq, ltq, ltq, nI_1]
      exact d1
    · have es := m_th_sum hw hO2 (m_thiefOf_22 m2) (nI q) (nI l) (nI w) (Z1 0 &&& (cryF T Z1 (vN T 505 A) l w ^^^ (-1))) (cryZ T L Z1 (vN T 505 A) l w 1) (wtS T x) (nI k) (cryF T Z1 (vN T 505 A) l w) (ct T 0) 0 FU (Nat.zero_add _) (by unfold FU; omega)
      have es0 : wtS T x + sm 0 (fun a => bif tb (cryF T Z1 (vN T 505 A) l w) a then rI T 510 a else 0) = wtS T x := Int32.add_zero _
      rw [es0] at es
      rw [m_thiefOf_22, if_neg (nI_in (by omega) (by omega)), nI_clamp (by omega), hO.pm (by omega), hpg.1.1, if_pos (nI_lt (by omega) (by omega)), show (10 : Int32) * nI q + nI k = nI (10 * q + k) by rw [show (10 : Int32) = nI 10 from rfl, nI_mul, nI_add], if_neg (nI_in (by omega) (by omega)), nI_clamp (by omega), hO.pg (by omega), hpk.1, if_neg (nI_in (by omega) (by omega)), nI_clamp (by omega), hO.sd (by omega), hap.1.1, b1', bnq, b3, b4, c1', bnq, ltq, c3', ltq, ef, el, (show m_thiefOf_92 (m_thiefOf_22 m2) FU (nI q) (nI l) (nI w) _ _ _ (nI k) _ 0 R2 = _ from es)]
      unfold m_thiefOf_136
      rw [ltq, nI_1, ← ewt]
      exact d2
end STOLEN
