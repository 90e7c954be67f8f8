/-! Fetch: sets of bits, numbers by threes. -/
section BITSETS
def tbJ (x : Int64) (i : Nat) : Bool := x.toBitVec.getLsbD i
theorem tbJ_and (x y : Int64) (i : Nat) : tbJ (x &&& y) i = (tbJ x i && tbJ y i) := by
  unfold tbJ
  rw [Int64.toBitVec_and, BitVec.getLsbD_and]
theorem tbJ_or (x y : Int64) (i : Nat) : tbJ (x ||| y) i = (tbJ x i || tbJ y i) := by
  unfold tbJ
  rw [Int64.toBitVec_or, BitVec.getLsbD_or]
theorem tbJ_z (i : Nat) : tbJ 0 i = false := by
  show (0 : BitVec 64).getLsbD i = false
  exact BitVec.getLsbD_zero
theorem tbJ_ext {x y : Int64} (h : ∀ i, i < 64 → tbJ x i = tbJ y i) : x = y := Int64.toBitVec_inj.mp (BitVec.eq_of_getLsbD_eq fun i hi => h i hi)
theorem tbJ_o : ∀ i, i < 64 → tbJ 1 i = decide (i = 0) := by decide +kernel
theorem tbJ_sh1 : ∀ k, k < 64 → ∀ i, i < 64 → tbJ ((1 : Int64) <<< ((nI k).toInt64 &&& 63)) i = decide (i = k) := by decide +kernel
theorem tbJ_shr (x : Int64) (i : Nat) : tbJ ((x.toUInt64 >>> ((1 : Int32).toInt64.toUInt64 &&& Int64.toUInt64 63)).toInt64) i = tbJ x (i + 1) := by
  have h1 : (1 : Int32).toInt64.toUInt64 &&& Int64.toUInt64 63 = UInt64.ofNat 1 := by decide
  rw [h1]
  unfold tbJ
  have e1 : (x.toUInt64 >>> (UInt64.ofNat 1)).toInt64.toBitVec = x.toBitVec >>> 1 := by
    show (x.toUInt64 >>> (UInt64.ofNat 1)).toBitVec = _
    rw [UInt64.toBitVec_shiftRight]
    show x.toBitVec >>> ((BitVec.ofNat 64 1) % 64) = _
    rw [BitVec.ushiftRight_eq']
    exact congrArg (fun k => x.toBitVec >>> k) (show ((BitVec.ofNat 64 1) % 64).toNat = 1 by decide)
  rw [e1, BitVec.getLsbD_ushiftRight, Nat.add_comm]
theorem tbJ_one (x : Int64) : lg_cmp (x &&& (1 : Int64)) (0 : Int64) = 0 ↔ tbJ x 0 = false := by
  rw [lg_cmp_eq]
  constructor
  · intro q
    have := congrArg (fun y => tbJ y 0) q
    simp only [tbJ_and, tbJ_z, tbJ_o 0 (by decide), decide_true, Bool.and_true] at this
    exact this
  · intro q
    apply tbJ_ext
    intro i hi
    rw [tbJ_and, tbJ_z, tbJ_o i hi]
    by_cases h : i = 0
    · rw [h, q]
      rfl
    · rw [decide_eq_false h, Bool.and_false]
theorem tbJ_bit (x : Int64) {k : Nat} (hk : k < 64) : lg_cmp (x &&& ((1 : Int64) <<< ((nI k).toInt64 &&& 63))) (0 : Int64) = 0 ↔ tbJ x k = false := by
  rw [lg_cmp_eq]
  constructor
  · intro q
    have := congrArg (fun y => tbJ y k) q
    simp only [tbJ_and, tbJ_z, tbJ_sh1 k hk k hk, decide_true, Bool.and_true] at this
    exact this
  · intro q
    apply tbJ_ext
    intro i hi
    rw [tbJ_and, tbJ_z, tbJ_sh1 k hk i hi]
    by_cases h : i = k
    · rw [h, q]
      rfl
    · rw [decide_eq_false h, Bool.and_false]
variable {S S' : St}
/-- a bit of a row of longs -/
def bJ (S : St) (a N : Nat) : Bool := tbJ (rJ S a (N / 64)) (N % 64)
theorem bJ_w (a N M : Nat) : bJ (wJ S a (N / 64) (rJ S a (N / 64) ||| ((1 : Int64) <<< ((nI (N % 64)).toInt64 &&& 63)))) a M = (bJ S a M || decide (M = N)) := by
  unfold bJ
  by_cases h : M / 64 = N / 64
  · rw [h, rJ_wJ, tbJ_or, tbJ_sh1 (N % 64) (Nat.mod_lt _ (by decide)) (M % 64) (Nat.mod_lt _ (by decide))]
    congr 1
    exact decide_eq_decide.mpr ⟨fun q => by omega, fun q => by omega⟩
  · rw [rJ_wJ_k h, decide_eq_false (show ¬ M = N by intro q; exact h (by rw [q])), Bool.or_false]
theorem bJ_wo {a b k N : Nat} {x : Int64} (h : a ≠ b) : bJ (wJ S b k x) a N = bJ S a N := by
  unfold bJ
  rw [rJ_wJ_a h]
theorem bJ_fr {P : Nat → Nat → Bool} (f : Fr P S S') {a : Nat} (h : ∀ k, P a k = false) (N : Nat) : bJ S' a N = bJ S a N := by
  unfold bJ
  rw [f.j (h _)]
/-! by threes -/
def tN (x : Int32) (a : Nat) : Nat := (tb x a).toNat
theorem tN_le (x : Int32) (a : Nat) : tN x a ≤ 1 := Bool.toNat_le _
def cN (x : Int32) : Nat := x.toNatClampNeg
theorem cN_ok {x : Int32} (h : lo 10 x) : x = nI (cN x) ∧ cN x < 1024 := by
  obtain ⟨n, hn, rfl⟩ := lo10 h
  unfold cN
  rw [nI_clamp (by omega)]
  exact ⟨rfl, hn⟩
theorem tt_all : ∀ n, n < 1024 → ∀ a, a < 10 → Nat.testBit n a = tb (nI n) a := by decide +kernel
theorem th_st (c : Bool) (s x : Nat) : (bif c then s + x else s) = s + x * c.toNat := by cases c <;> simp
def HS (d : Nat → Nat) : Nat → Nat → Nat
  | 0, _ => 0
  | j + 1, a => d a + 3 * HS d j (a + 1)
theorem HS_div {d : Nat → Nat} (hd : ∀ a, d a ≤ 2) (n : Nat) : ∀ a, a ≤ n → HS d n 0 / 3 ^ a = HS d (n - a) a
  | 0, _ => by rw [Nat.pow_zero, Nat.div_one, Nat.sub_zero]
  | a + 1, h => by
    have ih := HS_div hd n a (by omega)
    have h1 := hd a
    rw [Nat.pow_succ, ← Nat.div_div_eq_div_mul, ih, show n - a = (n - (a + 1)) + 1 by omega, HS]
    omega
theorem HS_mod {d : Nat → Nat} (hd : ∀ a, d a ≤ 2) {n a : Nat} (h : a < n) : HS d n 0 / 3 ^ a % 3 = d a := by
  have h1 := hd a
  rw [HS_div hd n a (by omega), show n - a = (n - (a + 1)) + 1 by omega, HS]
  omega
theorem HS_lt {d : Nat → Nat} (hd : ∀ a, d a ≤ 2) : ∀ n a, HS d n a < 3 ^ n
  | 0, _ => by rw [HS]; decide
  | n + 1, a => by
    have ih := HS_lt hd n (a + 1)
    have h1 := hd a
    rw [HS, Nat.pow_succ]
    omega
theorem thN_c {x : Int32} (h : lo 10 x) : thN (cN x) = HS (tN x) 10 0 := by
  obtain ⟨n, hn, rfl⟩ := lo10 h
  unfold cN
  rw [nI_clamp (by omega)]
  unfold thN tN
  rw [show List.range 10 = [0, 1, 2, 3, 4, 5, 6, 7, 8, 9] from rfl]
  simp only [List.foldl_cons, List.foldl_nil, th_st, HS, Nat.reduceAdd]
  rw [tt_all n hn 0 (by decide), tt_all n hn 1 (by decide), tt_all n hn 2 (by decide), tt_all n hn 3 (by decide), tt_all n hn 4 (by decide), tt_all n hn 5 (by decide), tt_all n hn 6 (by decide), tt_all n hn 7 (by decide), tt_all n hn 8 (by decide), tt_all n hn 9 (by decide)]
  omega
theorem HS_add (d e : Nat → Nat) : ∀ n a, HS d n a + HS e n a = HS (fun a => d a + e a) n a
  | 0, _ => rfl
  | n + 1, a => by
    have ih := HS_add d e n (a + 1)
    rw [HS, HS, HS, ← ih]
    omega
/-- the number of a standing -/
def ix (σ : Int32 × Int32) : Nat := thN (cN σ.1) + thN (cN σ.2)
theorem ix_HS {σ : Int32 × Int32} (h1 : lo 10 σ.1) (h2 : lo 10 σ.2) : ix σ = HS (fun a => tN σ.1 a + tN σ.2 a) 10 0 := by
  unfold ix
  rw [thN_c h1, thN_c h2, HS_add]
theorem d2_le (σ : Int32 × Int32) : ∀ a, (fun a => tN σ.1 a + tN σ.2 a) a ≤ 2 := fun a => by
  have h1 := tN_le σ.1 a
  have h2 := tN_le σ.2 a
  show tN σ.1 a + tN σ.2 a ≤ 2
  omega
theorem ix_lt {σ : Int32 × Int32} (h1 : lo 10 σ.1) (h2 : lo 10 σ.2) : ix σ < 59049 := by
  rw [ix_HS h1 h2]
  exact HS_lt (d2_le σ) 10 0
theorem ix_dig {σ : Int32 × Int32} (h1 : lo 10 σ.1) (h2 : lo 10 σ.2) {a : Nat} (ha : a < 10) : ix σ / 3 ^ a % 3 = tN σ.1 a + tN σ.2 a := by
  rw [ix_HS h1 h2]
  exact HS_mod (d2_le σ) ha
theorem ix_inj {σ τ : Int32 × Int32} (h1 : lo 10 σ.1) (h2 : lo 10 σ.2) (h3 : ∀ i, i < 32 → tb σ.2 i = true → tb σ.1 i = true) (g1 : lo 10 τ.1) (g2 : lo 10 τ.2) (g3 : ∀ i, i < 32 → tb τ.2 i = true → tb τ.1 i = true) (e : ix σ = ix τ) : σ = τ := by
  have key : ∀ i, i < 10 → tb σ.1 i = tb τ.1 i ∧ tb σ.2 i = tb τ.2 i := fun i hi => by
    have a1 := ix_dig h1 h2 hi
    have a2 := ix_dig g1 g2 hi
    have a3 := h3 i (by omega)
    have a4 := g3 i (by omega)
    rw [e, a2] at a1
    unfold tN at a1
    revert a1 a3 a4
    cases tb σ.1 i <;> cases tb σ.2 i <;> cases tb τ.1 i <;> cases tb τ.2 i <;> simp
  exact Prod.ext (eq_of_lo h1 g1 fun i hi => (key i hi).1) (eq_of_lo h2 g2 fun i hi => (key i hi).2)
theorem emod64 {N k : Nat} (hN : N < 2 ^ 31) (hk : 0 < k) (hk2 : k < 2 ^ 31) : nI N / nI k = nI (N / k) ∧ nI N - nI N / nI k * nI k = nI (N % k) := by
  have e1 : nI N / nI k = nI (N / k) := nI_div hN hk2
  refine ⟨e1, ?_⟩
  have h2 := Nat.div_mul_le_self N k
  rw [e1, nI_mul, nI_sub h2]
  congr 1
  have := Nat.div_add_mod N k
  rw [Nat.mul_comm] at this
  omega
theorem dg_loop {N d : Nat} (hN : N < 59049) (hd : d < 3) : ∀ (j a m : Nat), a + j = 10 → j < m → o_se_digits_7 m (nI d) (mk a fun i => decide (N / 3 ^ i % 3 = d)) (nI (N / 3 ^ a)) (nI a) S = some (mk 10 (fun i => decide (N / 3 ^ i % 3 = d)), S)
  | 0, a, m, ha, hm => by
    obtain ⟨m, rfl, hm⟩ := fuel hm
    obtain rfl : a = 10 := by omega
    rw [o_se_digits_7, if_neg (by decide)]
    rfl
  | j + 1, a, m, ha, hm => by
    obtain ⟨m, rfl, hm⟩ := fuel hm
    have hle : N / 3 ^ a ≤ N := Nat.div_le_self _ _
    have ih := dg_loop hN hd j (a + 1) m (by omega) (by omega)
    obtain ⟨e1, e2⟩ := emod64 (N := N / 3 ^ a) (k := 3) (by omega) (by decide) (by decide)
    have e3 : N / 3 ^ a / 3 = N / 3 ^ (a + 1) := by rw [Nat.div_div_eq_div_mul, Nat.pow_succ]
    have e4 : nI (N / 3 ^ a) / (3 : Int32) = nI (N / 3 ^ (a + 1)) := by rw [← e3]; exact e1
    rw [mk] at ih
    rw [o_se_digits_7, if_pos (show nI a < 10 from nI_lt (b := 10) (by omega) (by decide)), (show nI (N / 3 ^ a) - nI (N / 3 ^ a) / 3 * 3 = _ from e2)]
    unfold o_se_digits_30
    by_cases q : N / 3 ^ a % 3 = d
    · rw [decide_eq_true q, cond_true] at ih
      rw [if_pos (by rw [q]), ltq, e4, ltq, nI_1, ltq]
      exact ih
    · rw [decide_eq_false q, cond_false] at ih
      rw [if_neg (nI_ne q (by omega) (by omega)), ltq, e4, ltq, nI_1, ltq]
      exact ih
theorem digits_ok {σ : Int32 × Int32} (h1 : lo 10 σ.1) (h2 : lo 10 σ.2) (h3 : ∀ i, i < 32 → tb σ.2 i = true → tb σ.1 i = true) : o_se_digits (nI (ix σ)) 2 S = some (σ.2, S) ∧ ∃ x, o_se_digits (nI (ix σ)) 1 S = some (x, S) ∧ σ.2 ||| x = σ.1 := by
  have hlt := ix_lt h1 h2
  have d2 := dg_loop (S := S) (d := 2) hlt (by decide) 10 0 FU rfl (by unfold FU; omega)
  have d1 := dg_loop (S := S) (d := 1) hlt (by decide) 10 0 FU rfl (by unfold FU; omega)
  rw [Nat.pow_zero, Nat.div_one] at d1 d2
  have e2 : mk 10 (fun i => decide (ix σ / 3 ^ i % 3 = 2)) = σ.2 := (eq_mk (by decide) h2 fun i hi => by
    show _ = decide (ix σ / 3 ^ i % 3 = 2)
    rw [ix_dig h1 h2 hi]
    have := h3 i (by omega)
    unfold tN
    revert this
    cases tb σ.1 i <;> cases tb σ.2 i <;> simp).symm
  refine ⟨?_, mk 10 (fun i => decide (ix σ / 3 ^ i % 3 = 1)), ?_, ?_⟩
  · unfold o_se_digits
    rw [← e2]
    exact d2
  · unfold o_se_digits
    exact d1
  · refine eq_of_lo (n := 10) (lo_or h2 (lo_mk _ (by decide))) h1 fun i hi => ?_
    rw [tb_or, tb_mk _ _ _ (by decide) (by omega), ix_dig h1 h2 hi]
    have := h3 i (by omega)
    rw [decide_eq_true hi]
    unfold tN
    revert this
    cases tb σ.1 i <;> cases tb σ.2 i <;> simp
theorem fillJ_loop {a : Nat} (k : KO.1 a = (4, 923)) : ∀ (j i m : Nat) (S : St), i + j = 923 → j < m → (∀ q, q < i → rJ S a q = 0) → ∃ S', o_j_fillJ_6 m a 0 (nI i) (nI 923) S = some ((), S') ∧ (∀ q, q < 923 → rJ S' a q = 0) ∧ Fr (fun b _ => b == a) S S'
  | 0, i, m, S, hi, hm, h => by
    obtain ⟨m, rfl, hm⟩ := fuel hm
    obtain rfl : i = 923 := by omega
    refine ⟨S, ?_, h, Fr.rf⟩
    rw [o_j_fillJ_6, if_neg (by decide)]
    rfl
  | j + 1, i, m, S, hi, hm, h => by
    obtain ⟨m, rfl, hm⟩ := fuel hm
    obtain ⟨S', e1, e2, e3⟩ := fillJ_loop k j (i + 1) m (wJ S a i 0) (by omega) (by omega) (fun q hq => by
      by_cases q2 : q = i
      · rw [q2, rJ_wJ]
      · rw [rJ_wJ_k q2]
        exact h q (by omega))
    refine ⟨S', ?_, e2, (Fr.wJ (by simp)).tr e3⟩
    rw [o_j_fillJ_6, if_pos (nI_lt (by omega) (by decide)), k, if_pos (k4e _), if_neg (nI_in (show i < ((4, 923) : Nat × Nat).2 by show _ < 923; omega) (by decide)), nI_clamp (by omega), ltq, ltq, nI_1]
    exact e1
theorem fillJ_ok {a : Nat} (k : KO.1 a = (4, 923)) (S : St) : ∃ S', o_j_fillJ a 0 S = some ((), S') ∧ (∀ q, q < 923 → rJ S' a q = 0) ∧ Fr (fun b _ => b == a) S S' := by
  obtain ⟨S', e1, e2, e3⟩ := fillJ_loop k 923 0 FU S rfl (by unfold FU; omega) (fun q hq => absurd hq (Nat.not_lt_zero _))
  refine ⟨S', ?_, e2, e3⟩
  unfold o_j_fillJ
  rw [k, if_pos (k4r _), ltq]
  exact e1
end BITSETS
