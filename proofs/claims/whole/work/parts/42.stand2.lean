/-! The class's standings, the second part: worths, calls, what is taken. -/
def frX : Nat → Nat → Bool := fun a _ => (decide (30 ≤ a) && decide (a ≤ 33)) || (decide (50 ≤ a) && decide (a ≤ 57))
def frU (u : Nat) : Nat → Nat → Bool := fun a _ => a == u || a == u + 30
def frXU (u : Nat) : Nat → Nat → Bool := fun a k => frX a k || frU u a k
theorem frX_t {a k : Nat} (h : ton a) : frX a k = false := by
  unfold ton at h
  unfold frX
  simp
  omega
theorem frX_hi {a k : Nat} (h : 58 ≤ a) : frX a k = false := by
  unfold frX
  simp
  omega
theorem frU_n {u a k : Nat} (h : a ≠ u) (h' : a ≠ u + 30) : frU u a k = false := by
  unfold frU
  simp [h, h']
theorem frXU_X {u a k : Nat} (h : frXU u a k = false) : frX a k = false := (Bool.or_eq_false_iff.mp h).1
theorem frXU_U {u a k : Nat} (h : frXU u a k = false) : frU u a k = false := (Bool.or_eq_false_iff.mp h).2
theorem frXU_t {u a k : Nat} (hu : 200 ≤ u) (h : ton a) : frXU u a k = false := by
  unfold frXU
  rw [frX_t h, frU_n (by unfold ton at h; omega) (by unfold ton at h; omega)]
  rfl
def takeZ (T : St) (L : Int32 → Int32 → Int32) (Z : Nat → Int32) (a : Nat) : Nat → Int32 := fun k => if k = 0 then Z 0 &&& (((1 : Int32) <<< (nI a &&& 31)) ^^^ (-1)) else if k = 1 then Z 1 &&& (((1 : Int32) <<< (nI a &&& 31)) ^^^ (-1)) else if k = 3 then 1 else if k = 4 then Z 4 + vlA T L a (Z 2) else Z k
def nextZ (Z : Nat → Int32) : Nat → Int32 := fun k => if k = 2 then Z 2 + 1 else if k = 3 then 0 else Z k
def freshZ (T : St) : Nat → Int32 := fun k => if k = 0 then ((1 : Int32) <<< (nI (ct T 0) &&& 31)) - 1 else if k < 5 then 0 else if k - 5 < ct T 0 then rI T 505 (k - 5) else 0
def nameZ (Z : Nat → Int32) (a : Nat) (x : Int32) : Nat → Int32 := fun k => if k = 5 + a then x else Z k
section ST2
variable {v u : Nat} {T : St} {W V : Nat → List Nat} {L : Int32 → Int32 → Int32} {Z : Nat → Int32} {S S' : St}
theorem TD.frX (h : TD v T W V L S) (hf : Fr frX S S') : TD v T W V L S' := h.fr hf fun _ _ q => frX_t q
theorem TD.frXU (h : TD v T W V L S) (hu : 200 ≤ u) (hf : Fr (frXU u) S S') : TD v T W V L S' := h.fr hf fun _ _ q => frXU_t hu q
theorem SD.frX (hu : 200 ≤ u) (h : SD u Z (ct T 0) S) (hf : Fr frX S S') : SD u Z (ct T 0) S' := h.frw hf (fun k => frX_hi (by omega)) (fun k => frX_hi (by omega))
theorem to_valueOf (hw : WF T W V) (h : TD v T W V L S) {a : Nat} (ha : a < ct T 0) (day : Int32) : ∃ S', o_to_valueOf v (nI a) day S = some (vlA T L a day, S') ∧ Fr frX S S' := by
  have hn := hw.b
  have hp := hw.ap ha
  obtain ⟨l, h1, h2⟩ := h.la
  obtain ⟨r, h3, h4⟩ := h2 (vN T 510 a) (day - rI T 509 a) hp.2.2.2.2.2.2
  obtain ⟨S', e1, e2⟩ := fo_answer h1 (nI (vN T 510 a)) (day - rI T 509 a) 0 0 r h3
  refine ⟨S', ?_, e2.mo fun a k q => ?_⟩
  · unfold o_to_valueOf
    rw [if_pos h.k, if_pos h.ap.k, show (3 : Int32) = nI 3 from rfl, tb_atI h.ap ha (by decide), bnq, ltq, show (4 : Int32) = nI 4 from rfl, tb_atI h.ap ha (by decide), bnq, if_pos h1.1.1]
    rw [show rI T (ccol 4) a = nI (vN T 510 a) from hp.2.2.2.2.2.1, show rI T (ccol 3) a = rI T 509 a from rfl, e1, bnq]
    have e3 : ∀ x : Int32, bn (o_j_min 999 x S') (fun r11 S12 => bn (o_j_max 0 r11 S12) fun r13 S14 => some (r13, S14)) = some (clp x, S') := fun x => by
      unfold o_j_min o_j_min_10 o_j_max o_j_max_10 clp
      by_cases q1 : x < 999
      · rw [if_pos q1, bnq]
        by_cases q2 : x < 0
        · rw [if_pos q2, if_neg (fun q3 => Int32.lt_irrefl (Int32.lt_trans q2 q3)), bnq]
        · rw [if_neg q2, if_neg (fun q3 => Int32.lt_irrefl (Int32.lt_trans q1 q3))]
          by_cases q3 : 0 < x
          · rw [if_pos q3, bnq]
          · rw [if_neg q3, bnq]
            have : x = 0 := by
              rw [Int32.lt_iff_toInt_lt] at q2 q3
              apply Int32.toInt_inj.mp
              have h0 : (0 : Int32).toInt = 0 := by decide
              omega
            rw [this]
      · rw [if_neg q1, bnq, if_pos (by decide), bnq]
        have h2 : ¬ x < 0 := fun q => q1 (Int32.lt_trans q (by decide))
        rw [if_neg h2]
        by_cases q3 : (999 : Int32) < x
        · rw [if_pos q3]
        · rw [if_neg q3]
          have : x = 999 := by
            rw [Int32.lt_iff_toInt_lt] at q1 q3
            apply Int32.toInt_inj.mp
            omega
          rw [this]
    rw [e3, h4]
    unfold vlA
    rw [hp.2.2.2.2.2.1]
  · unfold frX at q
    unfold frF
    simp at q ⊢
    rcases h.1 with rfl | rfl <;> omega
theorem to_valuesOf_loop (hw : WF T W V) (x day : Int32) : ∀ (j k m : Nat) (S : St), TD v T W V L S → k + j = ct T 0 → j < m → ∃ S', o_to_valuesOf_5 m v x day (sm k fun a => bif tb x a then vlA T L a day else 0) (nI k) S = some (vlS T L x day, S') ∧ Fr frX S S'
  | 0, k, m, S, h, hk, hm => by
    have hn := hw.b
    obtain ⟨m, rfl, hm⟩ := fuel hm
    rw [Nat.add_zero] at hk
    subst hk
    refine ⟨S, ?_, Fr.rf⟩
    rw [o_to_valuesOf_5, if_pos h.k, if_pos h.ap.k, tb_size h.ap, bnq, if_neg (nI_nlt (Nat.le_refl _) (by omega))]
    rfl
  | j + 1, k, m, S, h, hk, hm => by
    have hn := hw.b
    obtain ⟨m, rfl, hm⟩ := fuel hm
    have hka : k < ct T 0 := by omega
    rw [o_to_valuesOf_5, if_pos h.k, if_pos h.ap.k, tb_size h.ap, bnq, if_pos (nI_lt hka (by omega))]
    cases q : tb x k with
    | true =>
      obtain ⟨S1, e1, e2⟩ := to_valueOf hw h hka day
      obtain ⟨S2, e3, e4⟩ := to_valuesOf_loop hw x day j (k + 1) m S1 (h.frX e2) (by omega) (by omega)
      refine ⟨S2, ?_, e2.tr e4⟩
      rw [if_neg (fun e => by rw [(sr_ne x (by omega)).mp e] at q; cases q), e1, bnq]
      unfold o_to_valuesOf_38
      rw [ltq, ltq, nI_1, ← e3, sm, q]
      rfl
    | false =>
      obtain ⟨S2, e3, e4⟩ := to_valuesOf_loop hw x day j (k + 1) m S h (by omega) (by omega)
      refine ⟨S2, ?_, e4⟩
      rw [if_pos ((sr_ne x (by omega)).mpr q)]
      unfold o_to_valuesOf_38
      rw [ltq, ltq, nI_1, ← e3, sm, q]
      rfl
theorem to_valuesOf (hw : WF T W V) (h : TD v T W V L S) (x day : Int32) : ∃ S', o_to_valuesOf v x day S = some (vlS T L x day, S') ∧ Fr frX S S' := by
  have hn := hw.b
  exact to_valuesOf_loop hw x day (ct T 0) 0 FU S h (Nat.zero_add _) (by unfold FU; omega)
/-- the worth as told of a set -/
def wtS (T : St) (x : Int32) : Int32 := sm (ct T 0) fun a => bif tb x a then rI T 510 a else 0
theorem to_worthOf_loop (hw : WF T W V) (h : TD v T W V L S) (x : Int32) : ∀ (j k m : Nat), k + j = ct T 0 → j < m → o_to_worthOf_4 m v x (sm k fun a => bif tb x a then rI T 510 a else 0) (nI k) S = some (wtS T x, S)
  | 0, k, m, hk, hm => by
    have hn := hw.b
    obtain ⟨m, rfl, hm⟩ := fuel hm
    rw [Nat.add_zero] at hk
    subst hk
    rw [o_to_worthOf_4, if_pos h.k, if_pos h.ap.k, tb_size h.ap, bnq, if_neg (nI_nlt (Nat.le_refl _) (by omega))]
    rfl
  | j + 1, k, m, hk, hm => by
    have hn := hw.b
    obtain ⟨m, rfl, hm⟩ := fuel hm
    have hka : k < ct T 0 := by omega
    have ih := to_worthOf_loop hw h x j (k + 1) m (by omega) (by omega)
    rw [sm] at ih
    rw [o_to_worthOf_4, if_pos h.k, if_pos h.ap.k, tb_size h.ap, bnq, if_pos (nI_lt hka (by omega))]
    unfold o_to_worthOf_37
    cases q : tb x k with
    | true =>
      rw [q] at ih
      rw [if_neg (fun e => by rw [(sr_ne x (by omega)).mp e] at q; cases q), show (4 : Int32) = nI 4 from rfl, tb_atI h.ap hka (by decide), bnq, ltq, ltq, nI_1]
      exact ih
    | false =>
      rw [q] at ih
      rw [if_pos ((sr_ne x (by omega)).mpr q), ltq, ltq, nI_1]
      exact ih
theorem to_worthOf (hw : WF T W V) (h : TD v T W V L S) (x : Int32) : o_to_worthOf v x S = some (wtS T x, S) := by
  have hn := hw.b
  exact to_worthOf_loop hw h x (ct T 0) 0 FU (Nat.zero_add _) (by unfold FU; omega)
def unM (T : St) (day : Int32) : Int32 := mk (ct T 0) fun a => decide (day < rI T 509 a)
theorem to_unripe_loop (hw : WF T W V) (h : TD v T W V L S) (day : Int32) : ∀ (j k m : Nat), k + j = ct T 0 → j < m → o_to_unripe_4 m v day (mk k fun a => decide (day < rI T 509 a)) (nI k) S = some (unM T day, S)
  | 0, k, m, hk, hm => by
    have hn := hw.b
    obtain ⟨m, rfl, hm⟩ := fuel hm
    rw [Nat.add_zero] at hk
    subst hk
    rw [o_to_unripe_4, if_pos h.k, if_pos h.ap.k, tb_size h.ap, bnq, if_neg (nI_nlt (Nat.le_refl _) (by omega))]
    rfl
  | j + 1, k, m, hk, hm => by
    have hn := hw.b
    obtain ⟨m, rfl, hm⟩ := fuel hm
    have hka : k < ct T 0 := by omega
    have ih := to_unripe_loop hw h day j (k + 1) m (by omega) (by omega)
    rw [mk] at ih
    rw [o_to_unripe_4, if_pos h.k, if_pos h.ap.k, tb_size h.ap, bnq, if_pos (nI_lt hka (by omega)), show (3 : Int32) = nI 3 from rfl, tb_atI h.ap hka (by decide), bnq]
    have e36 : ∀ x : Int32, o_to_unripe_36 (o_to_unripe_4 m) v day (nI k) x (mk k fun a => decide (day < rI T 509 a)) S = o_to_unripe_4 m v day ((mk k fun a => decide (day < rI T 509 a)) ||| x) (nI (k + 1)) S := fun x => by
      unfold o_to_unripe_36
      rw [ltq, ltq, nI_1]
    rw [e36, e36, show rI T (ccol 3) k = rI T 509 k from rfl]
    by_cases q : day < rI T 509 k
    · rw [decide_eq_true q] at ih
      rw [if_pos q]
      exact ih
    · rw [decide_eq_false q] at ih
      rw [if_neg q]
      exact ih
theorem to_unripe (hw : WF T W V) (h : TD v T W V L S) (day : Int32) : o_to_unripe v day S = some (unM T day, S) := by
  have hn := hw.b
  exact to_unripe_loop hw h day (ct T 0) 0 FU (Nat.zero_add _) (by unfold FU; omega)
theorem lo_srt {s : Nat} (hn : ct T 0 ≤ 32) : lo (ct T 0) (srt T s) := lo_mk _ hn
theorem cryF_hang {c l w : Nat} : ∀ i, i < 32 → tb (cryF T Z c l w) i = true → tb (Z 0) i = true := by
  intro i hi h
  unfold cryF flA fl0 at h
  rw [tb_or, tb_and, tb_and] at h
  cases q : tb (Z 0) i
  · rw [q] at h
    simp at h
  · rfl
theorem ls_eq {c l w : Nat} (hn : ct T 0 ≤ 32) : (Z 1 ||| (Z 0 &&& hdM T Z c l w)) &&& (Z 0 &&& (cryF T Z c l w ^^^ (-1))) = lsT T (Z 0) (Z 1) (whM T Z c l w) (ecM T Z c l w) := by
  rw [hd_eq T Z c l w hn]
  unfold lsT
  apply tb_ext
  intro i hi
  rw [show flA T (Z 0) (Z 1) (whM T Z c l w) (ecM T Z c l w) = cryF T Z c l w from rfl]
  have hc : tb (cryF T Z c l w) i = false → tb (Z 0) i = true → tb (whM T Z c l w) i = true → tb (srt T 2) i = true := by
    intro h1 h2 h3
    unfold cryF flA fl0 at h1
    rw [tb_or, Bool.or_eq_false_iff] at h1
    have h4 := h1.1
    rw [tb_and, tb_or, tb_and, tb_or, tb_not _ hi, h2, h3] at h4
    cases h5 : tb (srt T 2) i
    · rw [h5] at h4
      simp at h4
    · rfl
  rw [tb_and, tb_or, tb_and, tb_or, tb_and, tb_not _ hi, tb_and, tb_or, tb_and, tb_or, tb_and, tb_and, tb_not _ hi]
  cases h1 : tb (cryF T Z c l w) i
  · cases h2 : tb (Z 0) i
    · simp
    · cases h3 : tb (whM T Z c l w) i
      · cases tb (Z 1) i <;> cases tb (ecM T Z c l w) i <;> simp
      · rw [hc h1 h2 h3]
        simp
  · simp
theorem sd_cry (hw : WF T W V) (hz : WZ T Z) (h : TD v T W V L S) (hu : 200 ≤ u) (hs : SD u Z (ct T 0) S) {c l w : Nat} (hc : c < ct T 1) (hl : l < 12) (hww : w < 7) : ∃ S', o_sd_cry u v (nI l) (nI w) (nI c) S = some (cryF T Z c l w, S') ∧ SD u (cryZ T L Z c l w) (ct T 0) S' ∧ Fr (frXU u) S S' := by
  have hn := hw.b
  obtain ⟨S1, e1, e2⟩ := to_valuesOf hw h (cryF T Z c l w) (Z 2)
  have hs1 := SD.frX hu hs e2
  refine ⟨wI (wI (wI S1 u 4 (Z 4 + vlS T L (cryF T Z c l w) (Z 2))) u 1 (Z 0 &&& (cryF T Z c l w ^^^ (-1)))) u 2 (lsT T (Z 0) (Z 1) (whM T Z c l w) (ecM T Z c l w)), ?_, ⟨hs.1, ?_, ?_, ?_, ?_, ?_, fun a ha => ?_⟩, (e2.mo fun a k q => frXU_X q).tr (((Fr.wI ?_).tr (Fr.wI ?_)).tr (Fr.wI ?_))⟩
  · unfold o_sd_cry
    rw [if_pos hs.1.1, sd_meant hw hz h hs hc, bnq, if_pos h.k, two_mul_nI, to_within hw h hl (by omega), bnq, ltq, meant_hd (by omega), to_within hw h hl (by omega), bnq, meant_wh (by omega), hs.2.1, hs.2.2.1, to_felled hw h hz.1, bnq, flC_cry (by omega), hs.2.2.2.1, e1, bnq, hs.2.2.2.2.1, ltq, rI_wI_k (by decide), hs1.2.1, ltq, rI_wI_k (show (2 : Nat) ≠ 1 by decide), rI_wI_k (show (2 : Nat) ≠ 4 by decide), hs1.2.2.1, rI_wI, ls_eq (by omega), ltq]
  · rw [rI_wI_k (by decide), rI_wI]
    rfl
  · rw [rI_wI]
    rfl
  · rw [rI_wI_k (by decide), rI_wI_k (by decide), rI_wI_k (by decide), hs1.2.2.2.1]
    rfl
  · rw [rI_wI_k (by decide), rI_wI_k (by decide), rI_wI]
    rfl
  · rw [rI_wI_k (by decide), rI_wI_k (by decide), rI_wI_k (by decide), hs1.2.2.2.2.2.1]
    rfl
  · rw [rI_wI_a (by omega), rI_wI_a (by omega), rI_wI_a (by omega), hs1.2.2.2.2.2.2 a ha]
    unfold cryZ
    rw [if_neg (by omega), if_neg (by omega), if_neg (by omega)]
  all_goals simp [Jvm.Pilot.CNameOrchardLaw_law_r1181_455a07.frXU, frU]
end ST2
