/-! Copies of standings, fresh ones; what a standing keeps. -/
section CPY
variable {v u : Nat} {T : St} {W V : Nat → List Nat} {L : Int32 → Int32 → Int32} {Z : Nat → Int32} {S S' : St}
theorem sd_copy_loop {u u2 : Nat} (k1 : KO.1 u = (0, 5) ∧ KO.1 (u + 30) = (1, 10)) (k2 : KO.1 u2 = (0, 5) ∧ KO.1 (u2 + 30) = (1, 10)) (hne : u + 30 ≠ u2 + 30) (f : Nat → Int32) : ∀ (j i m : Nat) (S : St), i + j = 10 → j < m → (∀ a, a < 10 → rI S (u2 + 30) a = f a) → (∀ a, a < i → rI S (u + 30) a = f a) → ∃ S', o_sd_copy_47 m u u2 (nI i) S = some ((), S') ∧ (∀ a, a < 10 → rI S' (u + 30) a = f a) ∧ Fr (fun a _ => a == u + 30) S S'
  | 0, i, m, S, hi, hm, h2, h1 => by
    obtain ⟨m, rfl, hm⟩ := fuel hm
    obtain rfl : i = 10 := by omega
    refine ⟨S, ?_, h1, Fr.rf⟩
    rw [o_sd_copy_47, if_pos k1.1, k1.2, if_pos (k1r _), show Int32.ofNat 10 = nI 10 from rfl, if_neg (nI_nlt (Nat.le_refl _) (by omega))]
    rfl
  | j + 1, i, m, S, hi, hm, h2, h1 => by
    obtain ⟨m, rfl, hm⟩ := fuel hm
    have f1 : Fr (fun a _ => a == u + 30) S (wI S (u + 30) i (f i)) := Fr.wI (by simp)
    obtain ⟨S', d1, d2, d3⟩ := sd_copy_loop k1 k2 hne f j (i + 1) m (wI S (u + 30) i (f i)) (by omega) (by omega) (fun a ha => by rw [rI_wI_a (by omega), h2 a ha]) (fun a ha => by
      by_cases q : a = i
      · rw [q, rI_wI]
      · rw [rI_wI_k q, h1 a (by omega)])
    refine ⟨S', ?_, d2, f1.tr d3⟩
    rw [o_sd_copy_47, if_pos k1.1, k1.2, if_pos (k1r _), show Int32.ofNat 10 = nI 10 from rfl, if_pos (nI_lt (by omega) (by omega)), if_pos k2.1]
    unfold o_sd_soundOf o_sd_soundOf_23
    rw [if_neg (nI_pos (by omega)), if_pos k2.1, k2.2, if_pos (k1r _), show Int32.ofNat 10 = nI 10 from rfl, if_pos (nI_lt (by omega) (by omega)), if_pos (k1e _), if_neg (nI_in (by omega) (by omega)), bnq, if_pos (k1e _), if_neg (nI_in (by omega) (by omega)), nI_clamp (by omega), h2 i (by omega), ltq, ltq, nI_1]
    exact d1
theorem sd_copy {u u2 n : Nat} (k1 : KO.1 u = (0, 5) ∧ KO.1 (u + 30) = (1, 10)) (h : SD u2 Z n S) (hn : n ≤ 10) (hne : u ≠ u2) (hx : u + 30 ≠ u2) (hy : u2 + 30 ≠ u) (hb : ∃ b, Z 3 = bI b) : ∃ S', o_sd_copy u u2 S = some ((), S') ∧ SD u Z n S' ∧ Fr (frU u) S S' := by
  obtain ⟨b, hb⟩ := hb
  generalize hS1 : wI (wI (wI (wI (wI S u 1 (Z 0)) u 2 (Z 1)) u 3 (Z 2)) u 4 (Z 4)) u 5 (Z 3) = S1
  have f1 : Fr (frU u) S S1 := hS1 ▸ ((((Fr.wI (by simp [frU])).tr (Fr.wI (by simp [frU]))).tr (Fr.wI (by simp [frU]))).tr (Fr.wI (by simp [frU]))).tr (Fr.wI (by simp [frU]))
  have f2 : Fr (fun a _ => a == u) S S1 := hS1 ▸ ((((Fr.wI (by simp)).tr (Fr.wI (by simp))).tr (Fr.wI (by simp))).tr (Fr.wI (by simp))).tr (Fr.wI (by simp))
  obtain ⟨S', d1, d2, d3⟩ := sd_copy_loop (u := u) (u2 := u2) k1 h.1 (by omega) (fun a => rI S1 (u2 + 30) a) 10 0 FU S1 rfl (by unfold FU; omega) (fun a _ => rfl) (fun a ha => absurd ha (Nat.not_lt_zero a))
  have hu : ∀ k, rI S' u k = rI S1 u k := fun k => d3.i (by simp)
  refine ⟨S', ?_, ⟨k1, ?_, ?_, ?_, ?_, ?_, fun a ha => ?_⟩, f1.tr (d3.mo fun a k q => (Bool.or_eq_false_iff.mp q).2)⟩
  · unfold o_sd_copy
    rw [if_pos h.1.1, if_pos k1.1, h.2.1, ltq, rI_wI_a (by omega), h.2.2.1, ltq, rI_wI_a (by omega), rI_wI_a (by omega), h.2.2.2.1, ltq, rI_wI_a (by omega), rI_wI_a (by omega), rI_wI_a (by omega), h.2.2.2.2.1, ltq, rI_wI_a (by omega), rI_wI_a (by omega), rI_wI_a (by omega), rI_wI_a (by omega), h.2.2.2.2.2.1, hb, if_pos (bI_bo b), ltq, ← hb, hS1]
    exact d1
  · rw [hu, ← hS1, rI_wI_k (by decide), rI_wI_k (by decide), rI_wI_k (by decide), rI_wI_k (by decide), rI_wI]
  · rw [hu, ← hS1, rI_wI_k (by decide), rI_wI_k (by decide), rI_wI_k (by decide), rI_wI]
  · rw [hu, ← hS1, rI_wI_k (by decide), rI_wI_k (by decide), rI_wI]
  · rw [hu, ← hS1, rI_wI_k (by decide), rI_wI]
  · rw [hu, ← hS1, rI_wI]
  · rw [d2 a (by omega), f2.i (by simp; omega), h.2.2.2.2.2.2 a ha]
theorem m_copies_loop {v0 v2 a b n0 n2 : Nat} (k0 : KM.1 v0 = (1, n0)) (k2 : KM.1 v2 = (1, n2)) (ha : a + 15 ≤ n0) (hb : b + 15 ≤ n2) (h0 : n0 < 2 ^ 31) (h2 : n2 < 2 ^ 31) (hne : v0 ≠ v2) : ∀ (j i m : Nat) (S : St), i + j = 15 → j < m → ∃ S', m_copies_3 m v0 (nI a) v2 (nI b) (nI i) S = some ((), S') ∧ (∀ k, i ≤ k → k < 15 → rI S' v2 (b + k) = rI S v0 (a + k)) ∧ (∀ k, (k < b + i ∨ b + 15 ≤ k) → rI S' v2 k = rI S v2 k) ∧ Fr (fun a _ => a == v2) S S'
  | 0, i, m, S, hi, hm => by
    obtain ⟨m, rfl, hm⟩ := fuel hm
    obtain rfl : i = 15 := by omega
    refine ⟨S, ?_, fun k h1 h2 => by omega, fun _ _ => rfl, Fr.rf⟩
    rw [m_copies_3, show (15 : Int32) = nI 15 from rfl, if_neg (nI_nlt (Nat.le_refl _) (by omega))]
    rfl
  | j + 1, i, m, S, hi, hm => by
    obtain ⟨m, rfl, hm⟩ := fuel hm
    have f1 : Fr (fun a _ => a == v2) S (wI S v2 (b + i) (rI S v0 (a + i))) := Fr.wI (by simp)
    obtain ⟨S', d1, d2, d3, d4⟩ := m_copies_loop k0 k2 ha hb h0 h2 hne j (i + 1) m (wI S v2 (b + i) (rI S v0 (a + i))) (by omega) (by omega)
    refine ⟨S', ?_, fun k q1 q2 => ?_, fun k q => ?_, f1.tr d4⟩
    · rw [m_copies_3, show (15 : Int32) = nI 15 from rfl, if_pos (nI_lt (by omega) (by omega)), k0, if_pos (k1e _), nI_add, if_neg (nI_in (by omega) (by omega)), k2, if_pos (k1e _), nI_add, if_neg (nI_in (by omega) (by omega)), nI_clamp (by omega), nI_clamp (by omega), ltq, ltq, nI_1]
      exact d1
    · by_cases q : k = i
      · subst q
        rw [d3 _ (Or.inl (by omega)), rI_wI]
      · rw [d2 k (by omega) q2, rI_wI_a hne]
    · rw [d3 k (by omega), rI_wI_k (by omega)]
theorem m_copies_ok {v0 v2 a b n0 n2 : Nat} (k0 : KM.1 v0 = (1, n0)) (k2 : KM.1 v2 = (1, n2)) (ha : a + 15 ≤ n0) (hb : b + 15 ≤ n2) (h0 : n0 < 2 ^ 31) (h2 : n2 < 2 ^ 31) (hne : v0 ≠ v2) (S : St) : ∃ S', m_copies v0 (nI a) v2 (nI b) S = some ((), S') ∧ (∀ k, k < 15 → rI S' v2 (b + k) = rI S v0 (a + k)) ∧ (∀ k, (k < b ∨ b + 15 ≤ k) → rI S' v2 k = rI S v2 k) ∧ Fr (fun a _ => a == v2) S S' := by
  obtain ⟨S', d1, d2, d3, d4⟩ := m_copies_loop k0 k2 ha hb h0 h2 hne 15 0 FU S rfl (by unfold FU; omega)
  exact ⟨S', d1, fun k hk => d2 k (Nat.zero_le _) hk, fun k hk => d3 k (by omega), d4⟩
/-! fresh ones -/
theorem sd_begin_loop (hw : WF T W V) (hu : 200 ≤ u) (k1 : KO.1 u = (0, 5) ∧ KO.1 (u + 30) = (1, 10)) : ∀ (j i m : Nat) (S : St), TD v T W V L S → i + j = 10 → j < m → (∀ a, a < i → a < ct T 0 → rI S (u + 30) a = rI T 505 a) → ∃ S', o_sd_begin_37 m u v (nI i) S = some ((), S') ∧ (∀ a, a < ct T 0 → rI S' (u + 30) a = rI T 505 a) ∧ Fr (fun a _ => a == u + 30) S S'
  | 0, i, m, S, h, hi, hm, h1 => by
    have hn := hw.b
    obtain ⟨m, rfl, hm⟩ := fuel hm
    obtain rfl : i = 10 := by omega
    refine ⟨S, ?_, fun a ha => h1 a (by omega) ha, Fr.rf⟩
    rw [o_sd_begin_37, if_pos k1.1, k1.2, if_pos (k1r _), show Int32.ofNat 10 = nI 10 from rfl, if_neg (nI_nlt (Nat.le_refl _) (by omega))]
    rfl
  | j + 1, i, m, S, h, hi, hm, h1 => by
    have hn := hw.b
    obtain ⟨m, rfl, hm⟩ := fuel hm
    generalize hx : (bif decide (i < ct T 0) then rI T (ccol 5) i else -1) = x
    have f1 : Fr (fun a _ => a == u + 30) S (wI S (u + 30) i x) := Fr.wI (by simp)
    obtain ⟨S', d1, d2, d3⟩ := sd_begin_loop hw hu k1 j (i + 1) m (wI S (u + 30) i x) (h.fr f1 fun a k q => by unfold ton at q; simp; omega) (by omega) (by omega) (fun a ha hac => by
      by_cases q : a = i
      · rw [q, rI_wI, ← hx, decide_eq_true (by omega)]
        rfl
      · rw [rI_wI_k q, h1 a (by omega) hac])
    refine ⟨S', ?_, d2, f1.tr d3⟩
    rw [o_sd_begin_37, if_pos k1.1, k1.2, if_pos (k1r _), show Int32.ofNat 10 = nI 10 from rfl, if_pos (nI_lt (by omega) (by omega)), if_pos h.k, if_pos h.ap.k, show (5 : Int32) = nI 5 from rfl, tb_at h.ap (by omega) (by decide), bnq, if_pos (k1e _), if_neg (nI_in (by omega) (by omega)), nI_clamp (by omega), hx, ltq, ltq, nI_1]
    exact d1
theorem sd_begin (hw : WF T W V) (h : TD v T W V L S) (hu : 200 ≤ u) (k1 : KO.1 u = (0, 5) ∧ KO.1 (u + 30) = (1, 10)) : ∃ S', o_sd_begin u v S = some ((), S') ∧ SD u (freshZ T) (ct T 0) S' ∧ Fr (frU u) S S' := by
  have hn := hw.b
  generalize hS1 : wI (wI (wI (wI (wI S u 1 (((1 : Int32) <<< (nI (ct T 0) &&& 31)) - 1)) u 2 0) u 3 0) u 4 0) u 5 0 = S1
  have f2 : Fr (fun a _ => a == u) S S1 := hS1 ▸ ((((Fr.wI (by simp)).tr (Fr.wI (by simp))).tr (Fr.wI (by simp))).tr (Fr.wI (by simp))).tr (Fr.wI (by simp))
  obtain ⟨S', d1, d2, d3⟩ := sd_begin_loop hw hu k1 10 0 FU S1 (h.fr f2 fun a k q => by unfold ton at q; simp; omega) rfl (by unfold FU; omega) (fun a ha => absurd ha (Nat.not_lt_zero a))
  have hu' : ∀ k, rI S' u k = rI S1 u k := fun k => d3.i (by simp)
  refine ⟨S', ?_, ⟨k1, ?_, ?_, ?_, ?_, ?_, fun a ha => ?_⟩, (f2.mo fun a k q => (Bool.or_eq_false_iff.mp q).1).tr (d3.mo fun a k q => (Bool.or_eq_false_iff.mp q).2)⟩
  · unfold o_sd_begin
    rw [if_pos h.k, if_pos h.ap.k, tb_size h.ap, bnq, if_pos k1.1, ltq, ltq, ltq, ltq, ltq, hS1]
    exact d1
  · rw [hu', ← hS1, rI_wI_k (by decide), rI_wI_k (by decide), rI_wI_k (by decide), rI_wI_k (by decide), rI_wI]
    rfl
  · rw [hu', ← hS1, rI_wI_k (by decide), rI_wI_k (by decide), rI_wI_k (by decide), rI_wI]
    rfl
  · rw [hu', ← hS1, rI_wI_k (by decide), rI_wI_k (by decide), rI_wI]
    rfl
  · rw [hu', ← hS1, rI_wI_k (by decide), rI_wI]
    rfl
  · rw [hu', ← hS1, rI_wI]
    rfl
  · rw [d2 a ha]
    unfold freshZ
    rw [if_neg (by omega), if_neg (by omega), show 5 + a - 5 = a by omega, if_pos ha]
theorem m_fresh_a (hw : WF T W V) : ∀ (j i m : Nat) (S : St), OM T S → i + j = ct T 0 → j < m → ∃ S', m_fresh_39 m (nI i) S = some ((), S') ∧ (∀ a, i ≤ a → a < ct T 0 → rI S' 553 (5 + a) = rI T 505 a) ∧ (∀ k, (k < 5 + i ∨ 5 + ct T 0 ≤ k) → rI S' 553 k = rI S 553 k) ∧ Fr (fun a _ => a == 553) S S'
  | 0, i, m, S, hO, hi, hm => by
    have hn := hw.b
    obtain ⟨m, rfl, hm⟩ := fuel hm
    rw [Nat.add_zero] at hi
    subst hi
    refine ⟨S, ?_, fun a h1 h2 => by omega, fun _ _ => rfl, Fr.rf⟩
    rw [m_fresh_39, if_neg g0_12, c0, hO.n (by decide), hw.n (by decide), if_neg (nI_nlt (Nat.le_refl _) (by omega))]
    rfl
  | j + 1, i, m, S, hO, hi, hm => by
    have hn := hw.b
    obtain ⟨m, rfl, hm⟩ := fuel hm
    have f1 : Fr (fun a _ => a == 553) S (wI S 553 (5 + i) (rI T 505 i)) := Fr.wI (by simp)
    obtain ⟨S', d1, d2, d3, d4⟩ := m_fresh_a hw j (i + 1) m (wI S 553 (5 + i) (rI T 505 i)) (hO.fr f1 fun a k q => by simp; omega) (by omega) (by omega)
    refine ⟨S', ?_, fun a q1 q2 => ?_, fun k q => ?_, f1.tr d4⟩
    · rw [m_fresh_39, if_neg g0_12, c0, hO.n (by decide), hw.n (by decide), if_pos (nI_lt (by omega) (by omega)), if_neg (nI_in (by omega) (by omega)), show (5 : Int32) + nI i = nI (5 + i) from nI_add 5 i, if_neg (nI_in (by omega) (by omega)), nI_clamp (by omega), nI_clamp (by omega), hO.sd (by omega), ltq, ltq, nI_1]
      exact d1
    · by_cases q : a = i
      · subst q
        rw [d3 _ (Or.inl (by omega)), rI_wI]
      · exact d2 a (by omega) q2
    · rw [d3 k (by omega), rI_wI_k (by omega)]
theorem m_fresh_b : ∀ (j i m : Nat) (S : St), i + j = 15 → j < m → (∀ k, k < i → rI S 553 k = 0) → ∃ S', m_fresh_2 m (nI i) S = m_fresh_21 S' ∧ (∀ k, k < 15 → rI S' 553 k = 0) ∧ Fr (fun a _ => a == 553) S S'
  | 0, i, m, S, hi, hm, h => by
    obtain ⟨m, rfl, hm⟩ := fuel hm
    obtain rfl : i = 15 := by omega
    refine ⟨S, ?_, h, Fr.rf⟩
    rw [m_fresh_2, show (15 : Int32) = nI 15 from rfl, if_neg (nI_nlt (Nat.le_refl _) (by omega))]
  | j + 1, i, m, S, hi, hm, h => by
    obtain ⟨m, rfl, hm⟩ := fuel hm
    have f1 : Fr (fun a _ => a == 553) S (wI S 553 i 0) := Fr.wI (by simp)
    obtain ⟨S', d1, d2, d3⟩ := m_fresh_b j (i + 1) m (wI S 553 i 0) (by omega) (by omega) (fun k hk => by
      by_cases q : k = i
      · rw [q, rI_wI]
      · rw [rI_wI_k q, h k (by omega)])
    refine ⟨S', ?_, d2, f1.tr d3⟩
    rw [m_fresh_2, show (15 : Int32) = nI 15 from rfl, if_pos (nI_lt (by omega) (by omega)), if_neg (nI_in (by omega) (by omega)), nI_clamp (by omega), ltq, ltq, nI_1]
    exact d1
theorem m_fresh_ok (hw : WF T W V) (hO : OM T S) : ∃ S', m_fresh S = some ((), S') ∧ SM (freshZ T) S' ∧ Fr (fun a _ => a == 553) S S' := by
  have hn := hw.b
  obtain ⟨S1, e1, e2, e3⟩ := m_fresh_b 15 0 FU S rfl (by unfold FU; omega) (fun k hk => absurd hk (Nat.not_lt_zero k))
  have hO1 : OM T S1 := hO.fr e3 fun a k q => by simp; omega
  have f1 : Fr (fun a _ => a == 553) S1 (wI S1 553 0 (((1 : Int32) <<< (nI (ct T 0) &&& 31)) - 1)) := Fr.wI (by simp)
  obtain ⟨S2, d1, d2, d3, d4⟩ := m_fresh_a hw (ct T 0) 0 FU _ (hO1.fr f1 fun a k q => by simp; omega) (Nat.zero_add _) (by unfold FU; omega)
  refine ⟨S2, ?_, fun k hk => ?_, e3.tr (f1.tr d4)⟩
  · unfold m_fresh
    rw [show (0 : Int32) = nI 0 from rfl, e1]
    unfold m_fresh_21
    rw [if_neg g0_12, if_neg g0_15, c0, hO1.n (by decide), hw.n (by decide), ltq]
    exact d1
  · unfold freshZ
    by_cases q0 : k = 0
    · rw [q0, d3 0 (Or.inl (by omega)), rI_wI, if_pos rfl]
    · rw [if_neg q0]
      by_cases q5 : k < 5
      · rw [if_pos q5, d3 k (Or.inl (by omega)), rI_wI_k q0, e2 k hk]
      · rw [if_neg q5]
        by_cases qn : k - 5 < ct T 0
        · rw [if_pos qn, ← d2 (k - 5) (Nat.zero_le _) qn, show 5 + (k - 5) = k by omega]
        · rw [if_neg qn, d3 k (Or.inr (by omega)), rI_wI_k q0, e2 k hk]
/-! what a standing keeps -/
theorem ones_all : ∀ n, n < 11 → ∀ i, i < 32 → tb (((1 : Int32) <<< (nI n &&& 31)) - 1) i = decide (i < n) := by decide +kernel
theorem WZ_fresh (hw : WF T W V) : WZ T (freshZ T) := by
  have hn := hw.b
  refine ⟨fun i h1 h2 => ?_, fun i _ _ => tb_z i, fun i hi h => ?_, ⟨false, rfl⟩, fun a ha => ?_⟩
  · show tb (((1 : Int32) <<< (nI (ct T 0) &&& 31)) - 1) i = false
    rw [ones_all _ (by omega) i h2, decide_eq_false (by omega)]
  · have : tb (0 : Int32) i = true := h
    rw [tb_z] at this
    cases this
  · have e : freshZ T (5 + a) = rI T 505 a := by
      unfold freshZ
      rw [if_neg (by omega), if_neg (by omega), show 5 + a - 5 = a by omega, if_pos ha]
    unfold zs
    rw [e]
    exact (hw.ap ha).1
theorem WZ_cry (hz : WZ T Z) (c l w : Nat) : WZ T (cryZ T L Z c l w) := by
  refine ⟨lo_and hz.1, ?_, fun i hi h => ?_, ?_, fun a ha => ?_⟩
  · show lo (ct T 0) (lsT T (Z 0) (Z 1) (whM T Z c l w) (ecM T Z c l w))
    exact lo_and2 (lo_and hz.1)
  · have h : tb (lsT T (Z 0) (Z 1) (whM T Z c l w) (ecM T Z c l w)) i = true := h
    unfold lsT at h
    rw [tb_and, Bool.and_eq_true] at h
    exact h.2
  · exact hz.2.2.2.1
  · have e : cryZ T L Z c l w (5 + a) = Z (5 + a) := by
      unfold cryZ
      rw [if_neg (by omega), if_neg (by omega), if_neg (by omega)]
    unfold zs
    rw [e]
    exact hz.2.2.2.2 a ha
theorem WZ_take (hz : WZ T Z) (a : Nat) : WZ T (takeZ T L Z a) := by
  refine ⟨lo_and hz.1, lo_and hz.2.1, fun i hi h => ?_, ⟨true, rfl⟩, fun b hb => ?_⟩
  · have h : tb (Z 1 &&& (((1 : Int32) <<< (nI a &&& 31)) ^^^ (-1))) i = true := h
    show tb (Z 0 &&& (((1 : Int32) <<< (nI a &&& 31)) ^^^ (-1))) i = true
    rw [tb_and, Bool.and_eq_true] at h ⊢
    exact ⟨hz.2.2.1 i hi h.1, h.2⟩
  · have e : takeZ T L Z a (5 + b) = Z (5 + b) := by
      unfold takeZ
      rw [if_neg (by omega), if_neg (by omega), if_neg (by omega), if_neg (by omega)]
    unfold zs
    rw [e]
    exact hz.2.2.2.2 b hb
theorem WZ_next (hz : WZ T Z) : WZ T (nextZ Z) := by
  refine ⟨hz.1, hz.2.1, hz.2.2.1, ⟨false, rfl⟩, fun b hb => ?_⟩
  have e : nextZ Z (5 + b) = Z (5 + b) := by
    unfold nextZ
    rw [if_neg (by omega), if_neg (by omega)]
  unfold zs
  rw [e]
  exact hz.2.2.2.2 b hb
theorem WZ_name (hz : WZ T Z) {a k : Nat} (hk : k < ct T 1) (hn : ct T 1 ≤ 16) : WZ T (nameZ Z a (nI k)) := by
  have e : ∀ j, j < 5 → nameZ Z a (nI k) j = Z j := fun j hj => by
    unfold nameZ
    rw [if_neg (by omega)]
  refine ⟨?_, ?_, ?_, ?_, fun b hb => ?_⟩
  · rw [e 0 (by decide)]; exact hz.1
  · rw [e 1 (by decide)]; exact hz.2.1
  · rw [e 0 (by decide), e 1 (by decide)]; exact hz.2.2.1
  · rw [e 3 (by decide)]; exact hz.2.2.2.1
  · unfold zs nameZ
    by_cases q : 5 + b = 5 + a
    · rw [if_pos q, nI_clamp (by omega)]
      exact ⟨rfl, hk⟩
    · rw [if_neg q]
      exact hz.2.2.2.2 b hb
theorem WZ_had (hz : WZ T Z) (x : Int32) : WZ T (fun k => if k = 4 then x else Z k) := by
  refine ⟨hz.1, hz.2.1, hz.2.2.1, hz.2.2.2.1, fun b hb => ?_⟩
  have e : (fun k => if k = 4 then x else Z k) (5 + b) = Z (5 + b) := if_neg (by omega)
  unfold zs
  rw [e]
  exact hz.2.2.2.2 b hb
end CPY
