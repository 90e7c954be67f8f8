section HIDE
variable {T : St} {W V : Nat → List Nat} {L : Int32 → Int32 → Int32} {v d u a : Nat} {Z Z1 Z2 : Nat → Int32} {So So' Sm Sm' S : St}
theorem stolen_ok (hw : WF T W V) (hz : WZ T Z) {q l w : Nat} (hq : q < ct T 4) (hl : l < 12) (hww : w < 7) (hv : rQ So 1 9 = some v) (hT : TD v T W V L So) (hs : SD 200 Z (ct T 0) So) (hO : OM T Sm) (hS : SM Z Sm) : ∃ r So' Sm', o_stolen (nI q) (nI l) (nI w) So = some (r, So') ∧ m_thiefOf (nI q) (nI l) (nI w) Sm = some (r, Sm') ∧ Fr (frXU 205) So So' ∧ Fr frH Sm Sm' := by
  have hn := hw.b
  obtain ⟨S1, a1, a2, a3⟩ := sd_copy (u := 205) (u2 := 200) ⟨rfl, rfl⟩ hs hn.1 (by decide) (by decide) (by decide) hz.2.2.2.1
  have f1 : Fr (frXU 205) So S1 := a3.mo fun x k q => frXU_U q
  have hp10 : vN T 518 q < 11 := (hw.pg hq).1.2
  obtain ⟨r, So', Sm', e1, e2, e3, e4⟩ := stolen_loop (v := v) hw hz hq hl hww (vN T 518 q) 0 FU FU Z S1 Sm 0 ((f1.q (frXU_n (by decide) (by decide))).trans hv) (hT.fr f1 fun a k q => frXU_t (by decide) q) a2 hO hS hz (fun _ => rfl) (fun i hi h => by
    have := h.1
    rw [tb_z] at this
    cases this) (Nat.zero_add _) (by unfold FU; omega) (by unfold FU; omega)
  have ew : wtS T 0 = 0 := by
    unfold wtS
    exact sm_0 fun i hi => by rw [tb_z]; rfl
  rw [ew] at e2
  refine ⟨r, So', Sm', ?_, ?_, f1.tr e3, e4⟩
  · unfold o_stolen
    rw [a1, bnq]
    exact e1
  · unfold m_thiefOf
    rw [if_neg g0_15, c0, hS 0 (by decide), ltq, if_neg g1_15, c1, hS 1 (by decide), ltq]
    exact e2
theorem hide_in (hw : WF T W V) (hz : WZ T Z) {l w : Nat} (hl : l < 12) (hww : w < 7) (k35 : Int32 → Int32 → Int32 → Int32 → Int32 → Int32 → St → Re Int32) (k33 : Int32 → Int32 → Int32 → Int32 → Int32 → St → Re Int32) (x y : Int32) (pg : Nat) (hpg : pg < ct T 4) : ∀ (j k m1 m2 : Nat) (So Sm : St) (t : Int32), rQ So 1 9 = some v → TD v T W V L So → SD 200 Z (ct T 0) So → OM T Sm → SM Z Sm → k + j = ct T 4 → j < m1 → j < m2 → ∃ t' So' Sm', o_hide_47 k35 m1 (nI l) (nI w) (nI (ct T 4)) x y (nI pg) t (nI k) So = o_hide_86 k35 (nI l) (nI w) (nI (ct T 4)) x y (nI pg) t' So' ∧ m_hide_50 k33 m2 (nI l) (nI w) x y (nI pg) t (nI k) Sm = m_hide_89 k33 (nI l) (nI w) x y (nI pg) t' Sm' ∧ Fr (frXU 205) So So' ∧ Fr frH Sm Sm'
  | 0, k, m1, m2, So, Sm, t, hv, hT, hs, hO, hS, hk, h1, h2 => by
    have hn := hw.b
    obtain ⟨m1, rfl, h1⟩ := fuel h1
    obtain ⟨m2, rfl, h2⟩ := fuel h2
    rw [Nat.add_zero] at hk
    subst hk
    refine ⟨t, So, Sm, ?_, ?_, Fr.rf, Fr.rf⟩
    · rw [o_hide_47, if_neg (nI_nlt (Nat.le_refl _) (by omega))]
    · rw [m_hide_50, if_neg g4_12, c4, hO.n (by decide), hw.n (by decide), if_neg (nI_nlt (Nat.le_refl _) (by omega))]
  | j + 1, k, m1, m2, So, Sm, t, hv, hT, hs, hO, hS, hk, h1, h2 => by
    have hn := hw.b
    obtain ⟨m1, rfl, h1⟩ := fuel h1
    obtain ⟨m2, rfl, h2⟩ := fuel h2
    rw [o_hide_47, if_pos (nI_lt (by omega) (by omega)), m_hide_50, if_neg g4_12, c4, hO.n (by decide), hw.n (by decide), if_pos (nI_lt (by omega) (by omega))]
    unfold o_hide_78 m_hide_83
    by_cases q : k = pg
    · obtain ⟨t', So', Sm', e1, e2, e3, e4⟩ := hide_in hw hz hl hww k35 k33 x y pg hpg j (k + 1) m1 m2 So Sm t hv hT hs hO hS (by omega) (by omega) (by omega)
      refine ⟨t', So', Sm', ?_, ?_, e3, e4⟩
      · rw [if_pos (by rw [q]), ltq, nI_1]
        exact e1
      · rw [if_pos (by rw [q]), ltq, nI_1]
        exact e2
    · obtain ⟨r, S1, R1, a1, a2, a3, a4⟩ := stolen_ok hw hz (show k < ct T 4 by omega) hl hww hv hT hs hO hS
      obtain ⟨t', So', Sm', e1, e2, e3, e4⟩ := hide_in hw hz hl hww k35 k33 x y pg hpg j (k + 1) m1 m2 S1 R1 (if t < r then r else t) ((a3.q (frXU_n (by decide) (by decide))).trans hv) (hT.fr a3 fun a k q => frXU_t (by decide) q) (hs.frw a3 (fun k => frXU_n (by decide) (by decide)) (fun k => frXU_n (by decide) (by decide))) (hO.fr a4 fun a k q => frH_o q) (hS.fr a4 fun k => rfl) (by omega) (by omega) (by omega)
      have em1 : o_j_max t r S1 = some (if t < r then r else t, S1) := by
        unfold o_j_max o_j_max_10
        by_cases q : t < r
        · rw [if_pos q, if_pos q]
        · rw [if_neg q, if_neg q]
      have em2 : m_max t r R1 = some (if t < r then r else t, R1) := by
        unfold m_max m_max_10
        by_cases q : t < r
        · rw [if_pos q, if_pos q]
        · rw [if_neg q, if_neg q]
      refine ⟨t', So', Sm', ?_, ?_, a3.tr e3, a4.tr e4⟩
      · rw [if_neg (nI_ne q (by omega) (by omega)), a1, bnq, em1, bnq, ltq, nI_1]
        exact e1
      · rw [if_neg (nI_ne q (by omega) (by omega)), a2, bnq, em2, bnq, ltq, nI_1]
        exact e2
theorem hide_out (hw : WF T W V) (hz : WZ T Z) {l w : Nat} (hl : l < 12) (hww : w < 7) : ∀ (j k m1 m2 : Nat) (So Sm : St) (x y : Int32), mi x → rQ So 1 9 = some v → TD v T W V L So → SD 200 Z (ct T 0) So → OM T Sm → SM Z Sm → k + j = ct T 4 → j < m1 → j < m2 → ∃ r So' Sm', o_hide_35 m1 (nI l) (nI w) (nI (ct T 4)) x y (nI k) So = some (r, So') ∧ m_hide_33 m2 (nI l) (nI w) x y (nI k) Sm = some (r, Sm') ∧ Fr (frXU 205) So So' ∧ Fr frH Sm Sm'
  | 0, k, m1, m2, So, Sm, x, y, hx, hv, hT, hs, hO, hS, hk, h1, h2 => by
    have hn := hw.b
    obtain ⟨m1, rfl, h1⟩ := fuel h1
    obtain ⟨m2, rfl, h2⟩ := fuel h2
    rw [Nat.add_zero] at hk
    subst hk
    refine ⟨x, So, Sm, ?_, ?_, Fr.rf, Fr.rf⟩
    · rw [o_hide_35, if_neg (nI_nlt (Nat.le_refl _) (by omega))]
      rfl
    · rw [m_hide_33, if_neg g4_12, c4, hO.n (by decide), hw.n (by decide), if_neg (nI_nlt (Nat.le_refl _) (by omega))]
      rfl
  | j + 1, k, m1, m2, So, Sm, x, y, hx, hv, hT, hs, hO, hS, hk, h1, h2 => by
    have hn := hw.b
    obtain ⟨m1, rfl, h1⟩ := fuel h1
    obtain ⟨m2, rfl, h2⟩ := fuel h2
    obtain ⟨t', S1, R1, a1, a2, a3, a4⟩ := hide_in (v := v) (T := T) (W := W) (V := V) (L := L) hw hz hl hww (o_hide_35 m1) (m_hide_33 m2) x y k (by omega) (ct T 4) 0 FU FU So Sm 0 hv hT hs hO hS (Nat.zero_add _) (by unfold FU; omega) (by unfold FU; omega)
    have go : ∀ x' y' : Int32, mi x' → ∃ r So' Sm', o_hide_35 m1 (nI l) (nI w) (nI (ct T 4)) x' y' (nI (k + 1)) S1 = some (r, So') ∧ m_hide_33 m2 (nI l) (nI w) x' y' (nI (k + 1)) R1 = some (r, Sm') ∧ Fr (frXU 205) So So' ∧ Fr frH Sm Sm' := by
      intro x' y' hx'
      obtain ⟨r, So', Sm', e1, e2, e3, e4⟩ := hide_out hw hz hl hww j (k + 1) m1 m2 S1 R1 x' y' hx' ((a3.q (frXU_n (by decide) (by decide))).trans hv) (hT.fr a3 fun a k q => frXU_t (by decide) q) (hs.frw a3 (fun k => frXU_n (by decide) (by decide)) (fun k => frXU_n (by decide) (by decide))) (hO.fr a4 fun a k q => frH_o q) (hS.fr a4 fun k => rfl) (by omega) (by omega) (by omega)
      exact ⟨r, So', Sm', e1, e2, a3.tr e3, a4.tr e4⟩
    have hmi : mi (nI k) := Or.inr ⟨k, by omega, rfl⟩
    rw [o_hide_35, if_pos (nI_lt (by omega) (by omega)), m_hide_33, if_neg g4_12, c4, hO.n (by decide), hw.n (by decide), if_pos (nI_lt (by omega) (by omega)), (show o_hide_47 (o_hide_35 m1) FU (nI l) (nI w) (nI (ct T 4)) x y (nI k) 0 0 So = _ from a1), (show m_hide_50 (m_hide_33 m2) FU (nI l) (nI w) x y (nI k) 0 0 Sm = _ from a2)]
    unfold o_hide_86 o_hide_99 o_hide_107 m_hide_89 m_hide_103 m_hide_110
    rw [ltq (nI k + 1), ltq (nI k + 1), nI_1]
    by_cases qx : x = -1
    · rw [if_pos qx, if_pos ((mi_lt hx).mpr qx)]
      exact go _ _ hmi
    · rw [if_neg qx, if_neg (fun q => qx ((mi_lt hx).mp q))]
      by_cases qt : t' < y
      · rw [if_pos qt, if_pos qt]
        exact go _ _ hmi
      · rw [if_neg qt, if_neg qt]
        exact go _ _ hx
theorem hide_ok (h : Inv So Sm) (x y : Int32) : Sim (o_hide x y So) (m_hide x y Sm) () := by
  have hI := h
  obtain ⟨T, W, V, L, v, Z, d, ht, hz, hs, hu, hm, hp, hr⟩ := h
  obtain ⟨hw, hO, hL, hB, hv, hT⟩ := ht
  have hn := hw.b
  have hO1 : OM T (wI Sm 500 0 0) := hO.fr (th0 Sm) fun a k q => PQ_or q
  have hS1 : SM Z (wI Sm 500 0 0) := hz.2.1.fr (th0 Sm) fun k => rfl
  obtain ⟨f, t1, t2⟩ := hT.pg
  unfold o_hide o_hide_24 m_hide m_hide_23
  rw [oq2 hv, if_pos hT.k, if_pos t1.k, tb_size t1, bnq, o_isVoice_ok, bnq, ltq (wI Sm 500 0 0), m_isVoice_ok, bnq, if_neg g4_12, c4, hO1.n (by decide), hw.n (by decide)]
  by_cases q : ct T 4 < 2
  · rw [if_pos (show nI (ct T 4) < 2 from nI_lt (b := 2) q (by decide)), if_pos (show nI (ct T 4) < 2 from nI_lt (b := 2) q (by decide)), ifs_same]
    exact ⟨_, _, _, rfl, rfl, hI.th⟩
  · rw [if_neg (show ¬ nI (ct T 4) < 2 from nI_nlt (b := 2) (by omega) (by omega)), if_neg (show ¬ nI (ct T 4) < 2 from nI_nlt (b := 2) (by omega) (by omega))]
    cases hvc : vcB x y with
    | false =>
      rw [if_pos bF, if_pos bF]
      exact ⟨_, _, _, rfl, rfl, hI.th⟩
    | true =>
      obtain ⟨l, w, hl, hww, rfl, rfl⟩ := vc_of hvc
      rw [if_neg bT, if_neg bT]
      obtain ⟨r, So', Sm', e1, e2, e3, e4⟩ := hide_out hw hz.2.2 hl hww (ct T 4) 0 FU FU So (wI Sm 500 0 0) (-1) 0 (Or.inl rfl) hv hT hz.1 hO1 hS1 (Nat.zero_add _) (by unfold FU; omega) (by unfold FU; omega)
      exact ⟨r, So', Sm', e1, e2, hI.rd (e3.mo fun a k q => PO_205 q) ((th0 Sm).tr (e4.mo fun a k q => frH_Q q))⟩
/-- a thief, where there is such a page and such a voice -/
theorem thief_ok (h : Inv So Sm) (p x y : Int32) : ∃ n : Nat, n ≤ 4 ∧ rI Sm 502 4 = nI n ∧ (inN p n = true → vcB x y = true → Sim (o_stolen p x y So) (m_thief p x y Sm) ()) ∧ ((inN p n && vcB x y) = false → ∃ Sm', m_thief p x y Sm = some (0, Sm') ∧ rI Sm' 500 0 = 1 ∧ Inv So Sm') := by
  have hI := h
  obtain ⟨T, W, V, L, v, Z, d, ht, hz, hs, hu, hm, hp, hr⟩ := h
  obtain ⟨hw, hO, hL, hB, hv, hT⟩ := ht
  have hn := hw.b
  have th : ∀ z : Int32, Fr PQ Sm (wI Sm 500 0 z) := fun z => Fr.wI rfl
  refine ⟨ct T 4, hn.2.2.2.2.1, (hO.n (by decide)).trans (hw.n (by decide)), fun h1 h2 => ?_, fun h1 => ?_⟩
  · obtain ⟨q, hq, rfl⟩ := inN_of h1 (by omega)
    obtain ⟨l, w, hl, hww, rfl, rfl⟩ := vc_of h2
    obtain ⟨r, So', Sm', e1, e2, e3, e4⟩ := stolen_ok (Sm := wI Sm 500 0 0) hw hz.2.2 hq hl hww hv hT hz.1 (hO.fr (th 0) fun a k q => PQ_or q) (hz.2.1.fr (th 0) fun k => rfl)
    refine ⟨r, So', Sm', e1, ?_, hI.rd (e3.mo fun a k q => PO_205 q) ((th 0).tr (e4.mo fun a k q => frH_Q q))⟩
    unfold m_thief m_thief_28 m_thief_50
    rw [if_neg (nI_pos (by omega)), if_neg g4_12, c4, hO.n (by decide), hw.n (by decide), if_pos (nI_lt hq (by omega)), m_isVoice_ok, bnq, h2, if_neg bT, ltq, rI_wI, if_neg (by decide), e2, bnq]
  · refine ⟨wI Sm 500 0 1, ?_, rI_wI, hI.rd Fr.rf (th 1)⟩
    unfold m_thief m_thief_27 m_thief_28 m_thief_50
    rw [if_neg g4_12, c4, hO.n (by decide), hw.n (by decide), m_isVoice_ok, bnq, ltq (wI Sm 500 0 1), rI_wI, if_pos rfl]
    unfold inN at h1
    by_cases q1 : p < 0
    · rw [if_pos q1]
    · rw [decide_eq_false q1] at h1
      rw [if_neg q1]
      by_cases q2 : p < nI (ct T 4)
      · rw [decide_eq_true q2] at h1
        have h1 : vcB x y = false := h1
        rw [if_pos q2, h1, if_pos bF]
      · rw [if_neg q2]
end HIDE
