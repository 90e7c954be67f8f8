section JUDGED2
variable {T : St} {W V : Nat → List Nat} {L : Int32 → Int32 → Int32} {v d : Nat} {Z : Nat → Int32} {So So' Sm Sm' S : St}
def grB (T : St) (x day : Int32) : Bool := !decide (x &&& unM T day = 0)
def fGo : Nat → Nat → Bool := fun a k => frC a k || frS a k || (a == 500 && k == 73)
theorem fGo_o {a k : Nat} (h : (502 ≤ a ∧ a ≤ 523) ∨ (536 ≤ a ∧ a ≤ 539)) : fGo a k = false := by
  unfold fGo frC frV frH frS frV
  simp
  omega
theorem PR_G {a k : Nat} (h : PR a k = false) : fGo a k = false := by
  unfold fGo
  rw [PR_C h, PR_FS h]
  have h := PR_Q h
  unfold PQ at h
  by_cases h5 : a = 500
  · subst h5
    simp at h
    by_cases h1 : k = 1
    · subst h1; rfl
    · have := h h1
      subst this
      rfl
  · rw [beq_eq_false_iff_ne.mpr h5]
    rfl
theorem fGo_C {a k : Nat} (h : fGo a k = false) : frC a k = false := (Bool.or_eq_false_iff.mp (Bool.or_eq_false_iff.mp h).1).1
theorem fGo_S {a k : Nat} (h : fGo a k = false) : frS a k = false := (Bool.or_eq_false_iff.mp (Bool.or_eq_false_iff.mp h).1).2
theorem cry_lo (c l w : Nat) (hz : WZ T Z) : lo (ct T 0) (cryF T Z c l w) := by
  unfold cryF flA fl0
  exact lo_or (lo_and hz.1) (lo_and hz.1)
/-- one line, lived through on both sides -/
theorem live_ok (hw : WF T W V) (hL : LawV T L) (hz : WZ T Z) (hv : rQ So 1 9 = some v) (hT : TD v T W V L So) (hs : SD 205 Z (ct T 0) So) (hO : OM T Sm) (hS : SM Z Sm) {n : Nat} {f : Nat → Nat → Int32} (tb1 : TB 111 40 3 n f So) (lv : LnV T n f) (lm : LnM 0 n f Sm) {i : Nat} (hi : i < n) : ∃ r Z' So' Sm', o_live (nI i) So = some (r, So') ∧ m_goes (nI i) Sm = some (bI (!decide (r = -1)), Sm') ∧ rI Sm' 500 73 = bI (!decide (r = -1) && grB T r (Z 2)) ∧ SD 205 Z' (ct T 0) So' ∧ SM Z' Sm' ∧ WZ T Z' ∧ Fr (frXU 205) So So' ∧ Fr fGo Sm Sm' := by
  have hn := hw.b
  have hn40 : n ≤ 40 := tb1.2.2.2.2.2.1
  have e0 : o_tb_at 111 (nI i) (0 : Int32) So = some (f i 0, So) := tb_atI tb1 (i := i) (j := 0) hi (by decide)
  have e1 : o_tb_at 111 (nI i) (1 : Int32) So = some (f i 1, So) := tb_atI tb1 (i := i) (j := 1) hi (by decide)
  have e2 : o_tb_at 111 (nI i) (2 : Int32) So = some (f i 2, So) := tb_atI tb1 (i := i) (j := 2) hi (by decide)
  have f0 : Fr fGo Sm (wI Sm 500 73 0) := Fr.wI rfl
  have hO1 : OM T (wI Sm 500 73 0) := hO.fr f0 fun a k q => fGo_o q
  have hS1 : SM Z (wI Sm 500 73 0) := fun k hk => (rI_wI_a (by decide)).trans (hS k hk)
  have g : ¬ (nI i < 0 ∨ 240 ≤ (nI i).toNatClampNeg) := nI_in (by omega) (by omega)
  have gc : (nI i).toNatClampNeg = i := nI_clamp (by omega)
  have r0 : grB T 0 (Z 2) = false := by
    unfold grB
    rw [show (0 : Int32) &&& unM T (Z 2) = 0 from Int32.zero_and, decide_eq_true rfl]
    rfl
  have d0 : decide ((0 : Int32) = -1) = false := by decide
  have rd : ∀ a j, a ≠ 500 → rI (wI Sm 500 73 0) a j = rI Sm a j := fun a j q => rI_wI_a q
  have lm2 := lm.2 i hi
  rw [Nat.mul_zero, Nat.zero_add] at lm2
  unfold o_live m_goes
  rw [e0, bnq, e1, bnq, ltq (wI Sm 500 73 0), if_neg g, gc, rd 544 _ (by decide), rd 545 _ (by decide), rd 546 _ (by decide)]
  rcases lv i hi with q | ⟨q, ⟨p, hp, q1⟩, k, hk, q2⟩ | ⟨q, a, ha, q1⟩
  · -- a day
    have m0 : rI Sm 544 i = 2 := by
      rcases lm2 with h | h | h
      · exact h.2
      · exact absurd (q.symm.trans h.1) (by decide)
      · exact absurd (q.symm.trans h.1) (by decide)
    obtain ⟨So', a1, a2, a3⟩ := sd_nextDay hs
    obtain ⟨Sm', b1', b2, b3⟩ := m_passes_ok hS1
    refine ⟨0, nextZ Z, So', Sm', ?_, ?_, ?_, a2, b2, WZ_next hz, a3.mo fun x y q => frXU_U q, f0.tr (b3.mo fun x y q => ?_)⟩
    · rw [q, if_neg (by decide), if_neg (by decide), a1, bnq]
    · rw [m0, if_pos rfl, b1', bnq, d0]
      rfl
    · rw [b3.i (by decide), rI_wI, r0, Bool.and_false]
      rfl
    · have := fGo_S q
      unfold frS at this
      exact (Bool.or_eq_false_iff.mp this).2
  · -- a call
    have m0 : rI Sm 544 i = 0 ∧ rI Sm 545 i = nI p ∧ rI Sm 546 i = nI k := by
      rcases lm2 with h | h | h
      · exact absurd (q.symm.trans h.1) (by decide)
      · exact ⟨h.2.1, h.2.2.1.trans q1, h.2.2.2.trans q2⟩
      · exact absurd (q.symm.trans h.1) (by decide)
    have hpe := hw.pe hp
    have ecay : cayB T W (nI p) (nI k) = sayB T W p k := by
      unfold cayB
      rw [inN_nI (by omega) (by omega), inN_nI (by omega) (by omega), decide_eq_true hp, decide_eq_true hk, nI_clamp (by omega), nI_clamp (by omega)]
      rfl
    rw [q, if_pos rfl, e2, bnq, q1, q2, oq2 hv, if_pos hT.k, to_canSay hw hT, bnq, ecay, m0.1, m0.2.1, m0.2.2, if_neg (show ¬ (0 : Int32) = 2 by decide), if_neg (nI_inC (by omega) (by omega)), if_neg (show ¬ (0 : Int32) = 1 by decide), if_neg (nI_inC (by omega) (by omega)), if_neg (nI_inC (by omega) (by omega)), m_isSaid_ok hw hO1 hp hk, bnq]
    cases hsay : sayB T W p k with
    | false =>
      refine ⟨-1, Z, So, wI Sm 500 73 0, ?_, ?_, ?_, hs, hS1, hz, Fr.rf, f0⟩
      · rw [if_pos bF]
      · rw [if_pos bF]
        rfl
      · rw [rI_wI]
        rfl
    | true =>
      obtain ⟨So', a1, a2, a3⟩ := sd_cry (u := 205) hw hz hT (by decide) hs hk hpe.1.2 hpe.2.1.2
      obtain ⟨Sm', b1', b2, b3⟩ := m_calls_ok hw hL hz hO1 hS1 hk hpe.1.2 hpe.2.1.2
      have hO2 := hO1.fr b3 fun a k q => frC_o q
      have eg := m_greenOf_ok hw hO2 b2 (cryF T Z k (vN T 512 p) (vN T 513 p))
      have ez2 : cryZ T L Z k (vN T 512 p) (vN T 513 p) 2 = Z 2 := rfl
      rw [ez2] at eg
      have hr : ¬ cryF T Z k (vN T 512 p) (vN T 513 p) = -1 := fun e => by
        have h1 := cry_lo k (vN T 512 p) (vN T 513 p) hz 31 (by omega) (by decide)
        rw [e] at h1
        exact absurd h1 (by decide)
      refine ⟨cryF T Z k (vN T 512 p) (vN T 513 p), cryZ T L Z k (vN T 512 p) (vN T 513 p), So', wI Sm' 500 73 (bI (grB T (cryF T Z k (vN T 512 p) (vN T 513 p)) (Z 2))), ?_, ?_, ?_, a2, fun j hj => (rI_wI_a (by decide)).trans (b2 j hj), WZ_cry hz k (vN T 512 p) (vN T 513 p), a3, (f0.tr (b3.mo fun x y q => fGo_C q)).tr (Fr.wI rfl)⟩
      · rw [if_neg bT, oq2 hv, oq2 hv, if_pos hT.k, to_laneOf hT hp, bnq, oq2 hv, if_pos hT.k, to_loudOf hT hp, bnq, hpe.1.1, hpe.2.1.1, a1, bnq]
      · rw [if_neg bT, if_neg (nI_inC (by omega) (by omega)), if_neg (nI_inC (by omega) (by omega)), rd 545 _ (by decide), rd 546 _ (by decide), m0.2.1, m0.2.2, if_neg (nI_in (by omega) (by omega)), if_neg (nI_inC (by omega) (by omega)), nI_clamp (by omega), if_neg (nI_inC (by omega) (by omega)), hO1.la (by omega), hO1.lo (by omega), hpe.1.1, hpe.2.1.1, b1', bnq, eg, bnq]
        unfold m_goes_125
        by_cases qg : cryF T Z k (vN T 512 p) (vN T 513 p) &&& unM T (Z 2) = 0
        · rw [if_neg (fun h => (gr_pos hn.1 _ _).mp h qg), if_pos b0, ltq, decide_eq_false hr]
          unfold grB
          rw [decide_eq_true qg]
          rfl
        · rw [if_pos ((gr_pos hn.1 _ _).mpr qg), if_pos b1, ltq, decide_eq_false hr]
          unfold grB
          rw [decide_eq_false qg]
          rfl
      · rw [rI_wI, decide_eq_false hr]
        rfl
  · -- a pick
    have m0 : rI Sm 544 i = 1 ∧ rI Sm 546 i = nI a := by
      rcases lm2 with h | h | h
      · exact absurd (q.symm.trans h.1) (by decide)
      · exact absurd (q.symm.trans h.1) (by decide)
      · exact ⟨h.2.1, h.2.2.trans q1⟩
    rw [q, if_neg (show ¬ (2 : Int32) = 1 by decide), if_pos rfl, q1, sd_canTake hz hs hn.1, bnq, m0.1, m0.2, if_neg (show ¬ (1 : Int32) = 2 by decide), if_neg (nI_inC (by omega) (by omega)), if_pos rfl, if_neg (nI_inC (by omega) (by omega)), m_canPick_ok hS1 ha hn.1, bnq]
    cases htk : tkB T Z (nI a) with
    | false =>
      refine ⟨-1, Z, So, wI Sm 500 73 0, ?_, ?_, ?_, hs, hS1, hz, Fr.rf, f0⟩
      · rw [if_pos bF]
      · rw [if_pos bF]
        rfl
      · rw [rI_wI]
        rfl
    | true =>
      obtain ⟨So', a1, a2, a3⟩ := sd_take (u := 205) hw hz hT (by decide) hs ha htk
      obtain ⟨Sm', b1', b2, b3⟩ := m_picks_ok hw hL hO1 hS1 ha
      refine ⟨0, takeZ T L Z a, So', Sm', ?_, ?_, ?_, a2, b2, WZ_take hz a, a3, f0.tr (b3.mo fun x y q => fGo_S q)⟩
      · rw [if_neg bT, oq2 hv, a1, bnq]
      · rw [if_neg bT, if_neg (nI_inC (by omega) (by omega)), rd 546 _ (by decide), m0.2, b1', bnq, d0]
        rfl
      · rw [b3.i (by decide), rI_wI, r0, Bool.and_false]
        rfl
theorem frXU_n {u a k : Nat} (h : ¬ (30 ≤ a ∧ a ≤ 33) ∧ ¬ (50 ≤ a ∧ a ≤ 57)) (h' : a ≠ u ∧ a ≠ u + 30) : frXU u a k = false := by
  unfold frXU
  rw [frU_n h'.1 h'.2]
  unfold frX
  simp
  omega
def mi (x : Int32) : Prop := x = -1 ∨ ∃ k, k < 40 ∧ x = nI k
theorem mi_lt {x : Int32} (h : mi x) : x < 0 ↔ x = -1 := by
  rcases h with rfl | ⟨k, hk, rfl⟩
  · exact ⟨fun _ => rfl, fun _ => by decide⟩
  · exact ⟨fun q => absurd q (nI_pos (by omega)), fun q => absurd q (nI_m1 (by omega))⟩
/-- the lines, lived through on both sides -/
theorem judged_loop (hw : WF T W V) (hL : LawV T L) {n : Nat} {f : Nat → Nat → Int32} (lv : LnV T n f) (hn40 : n ≤ 40) (w : Int32) : ∀ (j i m1 m2 : Nat) (Z : Nat → Int32) (So Sm : St) (x y : Int32), i + j = n → j < m1 → j < m2 → mi x → mi y → WZ T Z → rQ So 1 9 = some v → TD v T W V L So → SD 205 Z (ct T 0) So → OM T Sm → SM Z Sm → TB 111 40 3 n f So → LnM 0 n f Sm → ∃ x' y' Z' So' Sm', o_judged_30 m1 w x y (nI i) So = o_judged_112 w x' y' So' ∧ m_judged_41 m2 w x y (nI i) Sm = m_judged_88 w x' y' Sm' ∧ SD 205 Z' (ct T 0) So' ∧ SM Z' Sm' ∧ Fr (frXU 205) So So' ∧ Fr fGo Sm Sm'
  | 0, i, m1, m2, Z, So, Sm, x, y, hi, h1, h2, hx, hy, hz, hv, hT, hs, hO, hS, tb1, lm => by
    obtain ⟨m1, rfl, h1⟩ := fuel h1
    obtain ⟨m2, rfl, h2⟩ := fuel h2
    rw [Nat.add_zero] at hi
    subst hi
    refine ⟨x, y, Z, So, Sm, ?_, ?_, hs, hS, Fr.rf, Fr.rf⟩
    · rw [o_judged_30, tb_size tb1, bnq, if_neg (nI_nlt (Nat.le_refl _) (by omega))]
    · rw [m_judged_41, if_neg (by decide), c0, lm.1, if_neg (nI_nlt (Nat.le_refl _) (by omega))]
  | j + 1, i, m1, m2, Z, So, Sm, x, y, hi, h1, h2, hx, hy, hz, hv, hT, hs, hO, hS, tb1, lm => by
    obtain ⟨m1, rfl, h1⟩ := fuel h1
    obtain ⟨m2, rfl, h2⟩ := fuel h2
    obtain ⟨r, Z1, So1, Sm1, a1, a2, a3, a4, a5, a6, a7, a8⟩ := live_ok hw hL hz hv hT hs hO hS tb1 lv lm (show i < n by omega)
    have go : ∀ x' y' : Int32, mi x' → mi y' → ∃ x'' y'' Z' So' Sm', o_judged_30 m1 w x' y' (nI (i + 1)) So1 = o_judged_112 w x'' y'' So' ∧ m_judged_41 m2 w x' y' (nI (i + 1)) Sm1 = m_judged_88 w x'' y'' Sm' ∧ SD 205 Z' (ct T 0) So' ∧ SM Z' Sm' ∧ Fr (frXU 205) So So' ∧ Fr fGo Sm Sm' := by
      intro x' y' hx' hy'
      obtain ⟨x'', y'', Z', So', Sm', b1', b2, b3, b4, b5, b6⟩ := judged_loop hw hL lv hn40 w j (i + 1) m1 m2 Z1 So1 Sm1 x' y' (by omega) (by omega) (by omega) hx' hy' a6 ((a7.q (frXU_n (by decide) (by decide))).trans hv) (hT.fr a7 fun a k q => frXU_t (by decide) q) a4 (hO.fr a8 fun a k q => fGo_o q) a5 (tb1.fr a7 (fun k => frXU_n (by decide) (by decide)) (fun k => frXU_n (by decide) (by decide))) (lm.fr a8 fun a k q => by
        unfold fGo frC frV frH frS frV
        simp
        omega)
      exact ⟨x'', y'', Z', So', Sm', b1', b2, b3, b4, a7.tr b5, a8.tr b6⟩
    have hmi : mi (nI i) := Or.inr ⟨i, by omega, rfl⟩
    rw [o_judged_30, tb_size tb1, bnq, if_pos (nI_lt (by omega) (by omega)), oq2 hv, if_pos hT.k, hs.2.2.2.1, to_unripe hw hT, bnq, a1, bnq, m_judged_41, if_neg (show ¬ ((0 : Int32) < 0 ∨ 6 ≤ (0 : Int32).toNatClampNeg) by decide), c0, lm.1, if_pos (nI_lt (by omega) (by omega)), a2, bnq]
    unfold o_judged_86 o_judged_106 m_judged_68 m_judged_82
    rw [ltq (nI i + 1), ltq (nI i + 1), ltq (nI i + 1), nI_1, a3]
    by_cases qr : r = -1
    · rw [if_pos qr, decide_eq_true qr, if_pos (show bI (!true) = 0 from rfl)]
      by_cases qx : x = -1
      · rw [if_pos qx, if_pos ((mi_lt hx).mpr qx), if_pos (show bI (!true && _) = 0 from rfl)]
        exact go _ _ hmi hy
      · rw [if_neg qx, if_neg (fun q => qx ((mi_lt hx).mp q)), if_pos (show bI (!true && _) = 0 from rfl)]
        exact go _ _ hx hy
    · rw [if_neg qr, decide_eq_false qr, if_neg (show ¬ bI (!false) = 0 by decide)]
      unfold grB
      by_cases qg : r &&& unM T (Z 2) = 0
      · rw [if_pos qg, decide_eq_true qg, if_pos (show bI (!false && !true) = 0 from rfl)]
        exact go _ _ hx hy
      · rw [if_neg qg, decide_eq_false qg, if_neg (show ¬ bI (!false && !false) = 0 by decide)]
        by_cases qy : y = -1
        · rw [if_pos qy, if_pos ((mi_lt hy).mpr qy)]
          exact go _ _ hx hmi
        · rw [if_neg qy, if_neg (fun q => qy ((mi_lt hy).mp q))]
          exact go _ _ hx hy
end JUDGED2
