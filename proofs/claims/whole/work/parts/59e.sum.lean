section SUMS
variable {T : St} {W V : Nat → List Nat} {L : Int32 → Int32 → Int32} {v d u a : Nat} {Z Z1 Z2 : Nat → Int32} {So So' Sm Sm' S : St}
theorem hf_all : ∀ m, m < 1024 → nI m >>> ((1 : Int32) &&& 31) = nI (m / 2) ∧ ((nI m &&& 1) = 0 ↔ m % 2 = 0) := by decide +kernel
theorem tb_all : ∀ n, n < 1024 → ∀ a, a < 10 → tb (nI n) a = decide (n / 2 ^ a % 2 = 1) := by decide +kernel
/-- the sum of a row over a set, from a day's place on -/
theorem sum_loop {v0 : Nat} (k0 : KO.1 v0 = (1, 30)) {n dd : Nat} (hn : n < 1024) (hd : dd < 3) : ∀ (j a m : Nat), a + j = 10 → j < m → o_se_sum_11 m v0 (sm a fun i => bif tb (nI n) i then rI S v0 (10 * dd + i) else 0) (nI (n / 2 ^ a)) (nI (10 * dd + a)) S = some (sm 10 (fun i => bif tb (nI n) i then rI S v0 (10 * dd + i) else 0), S)
  | 0, a, m, ha, hm => by
    obtain ⟨m, rfl, hm⟩ := fuel hm
    obtain rfl : a = 10 := by omega
    have e0 : n / 2 ^ 10 = 0 := by omega
    rw [o_se_sum_11, k0, if_neg (nI_pos (by omega)), if_pos (k1r _), e0]
    unfold o_se_sum_58
    by_cases q : nI (10 * dd + 10) < Int32.ofNat ((1, 30) : Nat × Nat).2
    · rw [if_pos q, if_pos (show nI 0 = 0 from rfl)]
    · rw [if_neg q]
  | j + 1, a, m, ha, hm => by
    obtain ⟨m, rfl, hm⟩ := fuel hm
    have hle : n / 2 ^ a ≤ n := Nat.div_le_self _ _
    have ih := sum_loop k0 hn hd j (a + 1) m (by omega) (by omega)
    have hh := hf_all (n / 2 ^ a) (by omega)
    have ed : n / 2 ^ a / 2 = n / 2 ^ (a + 1) := by rw [Nat.div_div_eq_div_mul, Nat.pow_succ]
    have et := tb_all n hn a (by omega)
    rw [o_se_sum_11, k0, if_neg (nI_pos (by omega)), if_pos (k1r _), if_pos (show nI (10 * dd + a) < Int32.ofNat ((1, 30) : Nat × Nat).2 from nI_lt (b := 30) (by omega) (by decide))]
    unfold o_se_sum_58 o_se_sum_44
    by_cases q : n / 2 ^ a = 0
    · rw [if_pos (show nI (n / 2 ^ a) = 0 by rw [q]; rfl)]
      congr 2
      refine (sm_more (by omega) fun i h1 h2 => ?_).symm
      have : n / 2 ^ i = 0 := by
        have h3 : n / 2 ^ i = n / 2 ^ a / 2 ^ (i - a) := by rw [Nat.div_div_eq_div_mul, ← Nat.pow_add, show a + (i - a) = i by omega]
        rw [h3, q, Nat.zero_div]
      rw [tb_all n hn i h2, this]
      rfl
    · rw [if_neg (nI_ne0 (Nat.pos_of_ne_zero q) (Nat.lt_of_le_of_lt hle (by omega))), ltq, hh.1, ed, ltq, nI_1]
      rw [sm] at ih
      by_cases q2 : n / 2 ^ a % 2 = 0
      · rw [decide_eq_false (by omega)] at et
        rw [et, cond_false] at ih
        rw [if_pos (hh.2.mpr q2), ltq, show 10 * dd + a + 1 = 10 * dd + (a + 1) by omega]
        exact ih
      · rw [decide_eq_true (by omega)] at et
        rw [et, cond_true] at ih
        rw [if_neg (fun e => q2 (hh.2.mp e)), if_pos (k1e _), if_neg (nI_in (show 10 * dd + a < ((1, 30) : Nat × Nat).2 by show _ < 30; omega) (by decide)), nI_clamp (by omega), ltq, ltq, ltq, show 10 * dd + a + 1 = 10 * dd + (a + 1) by omega]
        exact ih
theorem sum_ok {v0 : Nat} (k0 : KO.1 v0 = (1, 30)) {x : Int32} (hx : lo 10 x) {dd : Nat} (hd : dd < 3) : o_se_sum v0 (nI dd) x S = some (sm 10 (fun i => bif tb x i then rI S v0 (10 * dd + i) else 0), S) := by
  obtain ⟨n, hn, rfl⟩ := lo10 hx
  have := sum_loop (S := S) k0 hn hd 10 0 FU rfl (by unfold FU; omega)
  rw [show n / 2 ^ 0 = n by rw [Nat.pow_zero, Nat.div_one], Nat.add_zero] at this
  unfold o_se_sum
  rw [show nI dd * 10 = nI (10 * dd) by rw [show (10 : Int32) = nI 10 from rfl, nI_mul, Nat.mul_comm], ltq]
  exact this
end SUMS
