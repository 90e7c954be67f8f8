/-! Masks: Int32 bit by bit. -/
def tb (x : Int32) (i : Nat) : Bool := x.toBitVec.getLsbD i
theorem tb_ext {x y : Int32} (h : ∀ i, i < 32 → tb x i = tb y i) : x = y := Int32.toBitVec_inj.mp (BitVec.eq_of_getLsbD_eq fun i hi => h i hi)
theorem tb_and (x y : Int32) (i : Nat) : tb (x &&& y) i = (tb x i && tb y i) := by
  unfold tb
  rw [Int32.toBitVec_and, BitVec.getLsbD_and]
theorem tb_or (x y : Int32) (i : Nat) : tb (x ||| y) i = (tb x i || tb y i) := by
  unfold tb
  rw [Int32.toBitVec_or, BitVec.getLsbD_or]
theorem tb_xor (x y : Int32) (i : Nat) : tb (x ^^^ y) i = (tb x i ^^ tb y i) := by
  unfold tb
  rw [Int32.toBitVec_xor, BitVec.getLsbD_xor]
theorem tb_m1 : ∀ i, i < 32 → tb (-1) i = true := by decide +kernel
theorem tb_not (x : Int32) {i : Nat} (hi : i < 32) : tb (x ^^^ (-1)) i = !tb x i := by
  rw [tb_xor, tb_m1 i hi]
  cases tb x i <;> rfl
theorem tb_z (i : Nat) : tb 0 i = false := by
  unfold tb
  show (0#32).getLsbD i = false
  exact BitVec.getLsbD_zero
theorem tb_o : ∀ i, i < 32 → tb 1 i = decide (i = 0) := by decide +kernel
theorem tb_sh1_all : ∀ k, k < 32 → ∀ i, i < 32 → tb ((1 : Int32) <<< (nI k &&& 31)) i = decide (i = k) := by decide +kernel
theorem tb_sh1 {k i : Nat} (hk : k < 32) (hi : i < 32) : tb ((1 : Int32) <<< (nI k &&& 31)) i = decide (i = k) := tb_sh1_all k hk i hi
theorem sm_all : ∀ k, k < 32 → ((nI k &&& 31).toBitVec.smod 32).toNat = k := by decide +kernel
theorem tb_sr (x : Int32) {k : Nat} (hk : k < 32) : (x >>> (nI k &&& 31)) &&& 1 = if tb x k then 1 else 0 := by
  apply tb_ext
  intro i hi
  rw [tb_and, tb_o i hi]
  by_cases h0 : i = 0
  · subst h0
    have h1 : tb (x >>> (nI k &&& 31)) 0 = tb x k := by
      unfold tb
      rw [Int32.toBitVec_shiftRight, BitVec.sshiftRight_eq', sm_all k hk, BitVec.getLsbD_sshiftRight]
      simp [hk]
    rw [h1]
    cases tb x k
    · simp [tb_z]
    · simp [tb_o 0 (by decide)]
  · have h2 : tb (if tb x k then 1 else 0) i = false := by
      cases tb x k
      · simp [tb_z]
      · simp [tb_o i hi, h0]
    rw [h2]
    simp [h0]
theorem sr_ne (x : Int32) {k : Nat} (hk : k < 32) : (x >>> (nI k &&& 31)) &&& 1 = 0 ↔ tb x k = false := by
  rw [tb_sr x hk]
  cases tb x k <;> simp
theorem sr_one (x : Int32) {k : Nat} (hk : k < 32) : (x >>> (nI k &&& 31)) &&& 1 = 1 ↔ tb x k = true := by
  rw [tb_sr x hk]
  cases tb x k <;> simp
/-- no bit at n or above -/
def lo (n : Nat) (x : Int32) : Prop := ∀ i, n ≤ i → i < 32 → tb x i = false
theorem lo_and {n : Nat} {x y : Int32} (h : lo n x) : lo n (x &&& y) := fun i h1 h2 => by rw [tb_and, h i h1 h2]; rfl
theorem lo_or {n : Nat} {x y : Int32} (h : lo n x) (h' : lo n y) : lo n (x ||| y) := fun i h1 h2 => by rw [tb_or, h i h1 h2, h' i h1 h2]; rfl
theorem lo_0 (n : Nat) : lo n 0 := fun i _ _ => tb_z i
theorem eq_of_lo {n : Nat} {x y : Int32} (hx : lo n x) (hy : lo n y) (h : ∀ i, i < n → tb x i = tb y i) : x = y := by
  apply tb_ext
  intro i hi
  by_cases hn : i < n
  · exact h i hn
  · rw [hx i (by omega) hi, hy i (by omega) hi]
theorem zero_iff {n : Nat} {x : Int32} (hx : lo n x) : x = 0 ↔ ∀ i, i < n → tb x i = false := by
  constructor
  · rintro rfl i _
    exact tb_z i
  · intro h
    exact eq_of_lo hx (lo_0 n) fun i hi => by rw [h i hi, tb_z]
