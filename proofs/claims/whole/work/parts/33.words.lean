/-! Words: five bits a letter of the class's, by 27 of the reference's. -/
theorem lN_toI {n : Nat} (h : n < 2 ^ 63) : (lN n).toInt = (n : Int) := Int64.toInt_ofNat_of_lt h
theorem lN_eqB {a b : Nat} (ha : a < 2 ^ 63) (hb : b < 2 ^ 63) : lN a = lN b ↔ a = b := by
  rw [← Int64.toInt_inj, lN_toI ha, lN_toI hb]; omega
theorem lN_ltB {a b : Nat} (ha : a < 2 ^ 63) (hb : b < 2 ^ 63) : lN a < lN b ↔ a < b := by
  rw [Int64.lt_iff_toInt_lt, lN_toI ha, lN_toI hb]; omega
theorem lN_div {a b : Nat} (ha : a < 2 ^ 63) (hb : b < 2 ^ 63) : lN a / lN b = lN (a / b) := (Int64.ofNat_div ha hb).symm
theorem lN_mod {a b : Nat} (ha : a < 2 ^ 63) (hb : b < 2 ^ 63) : lN a - lN a / lN b * lN b = lN (a % b) := by
  have h : a / b * b ≤ a := Nat.div_mul_le_self a b
  rw [lN_div ha hb, lN_mul, lN_sub h]
  congr 1
  have := Nat.div_add_mod a b
  rw [Nat.mul_comm] at this
  omega
theorem lN_bv (n : Nat) : (lN n).toBitVec = BitVec.ofNat 64 n := rfl
theorem lN_shr {n s : Nat} (hn : n < 2 ^ 63) (hs : s ≤ 56) : lN n >>> (Int64.ofNat s) = lN (n / 2 ^ s) := by
  apply Int64.toBitVec_inj.mp
  rw [Int64.toBitVec_shiftRight, BitVec.sshiftRight_eq']
  have h1 : ∀ s : Nat, s ≤ 56 → ((Int64.ofNat s).toBitVec.smod 64).toNat = s := by decide
  rw [h1 s hs, lN_bv, lN_bv]
  have h2 : (BitVec.ofNat 64 n).msb = false := by
    rw [BitVec.msb_eq_false_iff_two_mul_lt, BitVec.toNat_ofNat, Nat.mod_eq_of_lt (by omega)]
    omega
  rw [BitVec.sshiftRight_eq_of_msb_false h2]
  apply BitVec.eq_of_toNat_eq
  rw [BitVec.toNat_ushiftRight, BitVec.toNat_ofNat, BitVec.toNat_ofNat, Nat.mod_eq_of_lt (by omega), Nat.shiftRight_eq_div_pow, Nat.mod_eq_of_lt]
  exact Nat.lt_of_le_of_lt (Nat.div_le_self _ _) (by omega)
theorem lN_shr5 {n : Nat} (hn : n < 2 ^ 63) : lN n >>> ((5 : Int32).toInt64 &&& 63) = lN (n / 32) := lN_shr (s := 5) hn (by decide)
theorem lN_and31 {n : Nat} (hn : n < 2 ^ 63) : lN n &&& (31 : Int64) = lN (n % 32) := by
  apply Int64.toBitVec_inj.mp
  apply BitVec.eq_of_toNat_eq
  rw [Int64.toBitVec_and, BitVec.toNat_and, lN_bv, lN_bv, BitVec.toNat_ofNat, BitVec.toNat_ofNat, Nat.mod_eq_of_lt (show n < 2 ^ 64 by omega)]
  have h : (31 : Int64).toBitVec.toNat = 2 ^ 5 - 1 := by decide
  rw [h, Nat.and_two_pow_sub_one_eq_mod, Nat.mod_eq_of_lt (show n % 32 < 2 ^ 64 by omega)]
theorem lN_shl5 {n : Nat} (hn : n < 2 ^ 58) : lN n <<< ((5 : Int32).toInt64 &&& 63) = lN (n * 32) := by
  apply Int64.toBitVec_inj.mp
  apply BitVec.eq_of_toNat_eq
  rw [Int64.toBitVec_shiftLeft, BitVec.shiftLeft_eq', BitVec.toNat_shiftLeft, lN_bv, lN_bv, BitVec.toNat_ofNat, BitVec.toNat_ofNat]
  have h : (((5 : Int32).toInt64 &&& 63).toBitVec.smod 64).toNat = 5 := by decide
  rw [h, Nat.mod_eq_of_lt (show n < 2 ^ 64 by omega), Nat.shiftLeft_eq]
theorem lN_or {a c : Nat} (ha : a < 2 ^ 58) (hc : c < 32) : lN (a * 32) ||| lN c = lN (a * 32 + c) := by
  apply Int64.toBitVec_inj.mp
  apply BitVec.eq_of_toNat_eq
  rw [Int64.toBitVec_or, BitVec.toNat_or, lN_bv, lN_bv, lN_bv, BitVec.toNat_ofNat, BitVec.toNat_ofNat, BitVec.toNat_ofNat, Nat.mod_eq_of_lt (show a * 32 < 2 ^ 64 by omega), Nat.mod_eq_of_lt (show c < 2 ^ 64 by omega), Nat.mod_eq_of_lt (show a * 32 + c < 2 ^ 64 by omega)]
  have := Nat.two_pow_add_eq_or_of_lt (i := 5) hc a
  rw [Nat.mul_comm a 32]
  exact this.symm
/-- a word's letters, 1 to 26 -/
def WD (w : List Nat) : Prop := w ≠ [] ∧ w.length ≤ 8 ∧ ∀ c ∈ w, 1 ≤ c ∧ c ≤ 26
def pk5 : List Nat → Nat
  | [] => 0
  | c :: t => pk5 t * 32 + c
def p27 : Nat → List Nat → Nat
  | a, [] => a
  | a, c :: t => p27 (a * 27 + c) t
theorem pk5_lt : ∀ {t : List Nat}, (∀ c ∈ t, 1 ≤ c ∧ c ≤ 26) → pk5 t < 32 ^ t.length
  | [], _ => by decide
  | c :: t, h => by
    have h1 := pk5_lt (t := t) fun x hx => h x (List.mem_cons_of_mem _ hx)
    have h2 := h c List.mem_cons_self
    rw [pk5, List.length_cons, Nat.pow_succ]
    omega
theorem pw_mono {b m n : Nat} (hb : 0 < b) (h : m ≤ n) : b ^ m ≤ b ^ n := Nat.pow_le_pow_right hb h
theorem pk5_B {t : List Nat} (h : ∀ c ∈ t, 1 ≤ c ∧ c ≤ 26) (hl : t.length ≤ 8) : pk5 t < 2 ^ 40 := Nat.lt_of_lt_of_le (pk5_lt h) (pw_mono (b := 32) (by decide) hl)
theorem pk5_mod {c : Nat} {t : List Nat} (hc : c ≤ 26) : pk5 (c :: t) % 32 = c := by
  rw [pk5]; omega
theorem pk5_div {c : Nat} {t : List Nat} (hc : c ≤ 26) : pk5 (c :: t) / 32 = pk5 t := by
  rw [pk5]; omega
theorem pk5_pos {c : Nat} {t : List Nat} (hc : 1 ≤ c) : 0 < pk5 (c :: t) := by
  rw [pk5]; omega
theorem pk5_inj : ∀ {t u : List Nat}, (∀ c ∈ t, 1 ≤ c ∧ c ≤ 26) → (∀ c ∈ u, 1 ≤ c ∧ c ≤ 26) → pk5 t = pk5 u → t = u
  | [], [], _, _, _ => rfl
  | [], c :: u, _, h', h => by
    have := pk5_pos (t := u) (h' c List.mem_cons_self).1
    rw [← h] at this
    exact absurd this (Nat.lt_irrefl 0)
  | c :: t, [], h', _, h => by
    have := pk5_pos (t := t) (h' c List.mem_cons_self).1
    rw [h] at this
    exact absurd this (Nat.lt_irrefl 0)
  | c :: t, d :: u, h1, h2, h => by
    have e1 := pk5_mod (t := t) (h1 c List.mem_cons_self).2
    have e2 := pk5_mod (t := u) (h2 d List.mem_cons_self).2
    have f1 := pk5_div (t := t) (h1 c List.mem_cons_self).2
    have f2 := pk5_div (t := u) (h2 d List.mem_cons_self).2
    rw [h] at e1 f1
    rw [e1.symm.trans e2, pk5_inj (fun x hx => h1 x (List.mem_cons_of_mem _ hx)) (fun x hx => h2 x (List.mem_cons_of_mem _ hx)) (f1.symm.trans f2)]
theorem p27_app : ∀ (t : List Nat) (a c : Nat), p27 a (t ++ [c]) = p27 a t * 27 + c
  | [], _, _ => rfl
  | d :: t, a, c => by
    show p27 (a * 27 + d) (t ++ [c]) = p27 (a * 27 + d) t * 27 + c
    exact p27_app t _ c
/-- by 27, the last letter first -/
def q27 : List Nat → Nat
  | [] => 0
  | c :: t => q27 t * 27 + c
theorem p27_rev : ∀ w : List Nat, p27 0 w.reverse = q27 w
  | [] => rfl
  | c :: t => by rw [List.reverse_cons, p27_app, p27_rev t, q27]
theorem p27_q (w : List Nat) : p27 0 w = q27 w.reverse := by
  rw [← p27_rev, List.reverse_reverse]
theorem q27_lt : ∀ {t : List Nat}, (∀ c ∈ t, 1 ≤ c ∧ c ≤ 26) → q27 t < 27 ^ t.length
  | [], _ => by decide
  | c :: t, h => by
    have h1 := q27_lt (t := t) fun x hx => h x (List.mem_cons_of_mem _ hx)
    have h2 := h c List.mem_cons_self
    rw [q27, List.length_cons, Nat.pow_succ]
    omega
theorem q27_B {t : List Nat} (h : ∀ c ∈ t, 1 ≤ c ∧ c ≤ 26) (hl : t.length ≤ 8) : q27 t < 2 ^ 40 := Nat.lt_of_lt_of_le (q27_lt h) (Nat.le_trans (pw_mono (b := 27) (by decide) hl) (by decide))
theorem q27_mod {c : Nat} {t : List Nat} (hc : c ≤ 26) : q27 (c :: t) % 27 = c := by
  rw [q27]; omega
theorem q27_div {c : Nat} {t : List Nat} (hc : c ≤ 26) : q27 (c :: t) / 27 = q27 t := by
  rw [q27]; omega
theorem q27_pos {c : Nat} {t : List Nat} (hc : 1 ≤ c) : 0 < q27 (c :: t) := by
  rw [q27]; omega
theorem q27_inj : ∀ {t u : List Nat}, (∀ c ∈ t, 1 ≤ c ∧ c ≤ 26) → (∀ c ∈ u, 1 ≤ c ∧ c ≤ 26) → q27 t = q27 u → t = u
  | [], [], _, _, _ => rfl
  | [], c :: u, _, h', h => by
    have := q27_pos (t := u) (h' c List.mem_cons_self).1
    rw [← h] at this
    exact absurd this (Nat.lt_irrefl 0)
  | c :: t, [], h', _, h => by
    have := q27_pos (t := t) (h' c List.mem_cons_self).1
    rw [h] at this
    exact absurd this (Nat.lt_irrefl 0)
  | c :: t, d :: u, h1, h2, h => by
    have e1 := q27_mod (t := t) (h1 c List.mem_cons_self).2
    have e2 := q27_mod (t := u) (h2 d List.mem_cons_self).2
    have f1 := q27_div (t := t) (h1 c List.mem_cons_self).2
    have f2 := q27_div (t := u) (h2 d List.mem_cons_self).2
    rw [h] at e1 f1
    rw [e1.symm.trans e2, q27_inj (fun x hx => h1 x (List.mem_cons_of_mem _ hx)) (fun x hx => h2 x (List.mem_cons_of_mem _ hx)) (f1.symm.trans f2)]
theorem rev_ok {w : List Nat} (h : ∀ c ∈ w, 1 ≤ c ∧ c ≤ 26) : ∀ c ∈ w.reverse, 1 ≤ c ∧ c ≤ 26 := fun c hc => h c (List.mem_reverse.mp hc)
theorem p27_inj {t u : List Nat} (h1 : ∀ c ∈ t, 1 ≤ c ∧ c ≤ 26) (h2 : ∀ c ∈ u, 1 ≤ c ∧ c ≤ 26) (h : p27 0 t = p27 0 u) : t = u := by
  rw [p27_q, p27_q] at h
  have := q27_inj (rev_ok h1) (rev_ok h2) h
  rw [← List.reverse_reverse t, this, List.reverse_reverse]
theorem p27_B {t : List Nat} (h : ∀ c ∈ t, 1 ≤ c ∧ c ≤ 26) (hl : t.length ≤ 8) : p27 0 t < 2 ^ 40 := by
  rw [p27_q]
  exact q27_B (rev_ok h) (by rw [List.length_reverse]; exact hl)
/-- how many first letters are the same -/
def cpl : List Nat → List Nat → Nat
  | a :: t, b :: u => if a = b then cpl t u + 1 else 0
  | _, _ => 0
/-- how many last ones -/
def csl (w u : List Nat) : Nat := cpl w.reverse u.reverse
theorem cpl_le : ∀ t u : List Nat, cpl t u ≤ t.length ∧ cpl t u ≤ u.length
  | [], _ => by simp [cpl]
  | _ :: _, [] => by simp [cpl]
  | a :: t, b :: u => by
    have := cpl_le t u
    rw [cpl, List.length_cons, List.length_cons]
    split <;> omega
/-- the fewest edits between the first i letters of a and the first j of b -/
def lv (a b : Nat → Nat) : Nat → Nat → Nat
  | 0, j => j
  | i + 1, 0 => i + 1
  | i + 1, j + 1 => min (lv a b i j + if a i = b j then 0 else 1) (1 + min (lv a b i (j + 1)) (lv a b (i + 1) j))
termination_by i j => i + j
theorem lv_0j (a b : Nat → Nat) (j : Nat) : lv a b 0 j = j := by rw [lv]
theorem lv_i0 (a b : Nat → Nat) (i : Nat) : lv a b i 0 = i := by
  cases i with
  | zero => rw [lv]
  | succ i => rw [lv]
theorem lv_s (a b : Nat → Nat) (i j : Nat) : lv a b (i + 1) (j + 1) = min (lv a b i j + if a i = b j then 0 else 1) (1 + min (lv a b i (j + 1)) (lv a b (i + 1) j)) := by rw [lv]
theorem lv_B (a b : Nat → Nat) : ∀ s i j : Nat, i + j ≤ s → lv a b i j ≤ i + j
  | 0, i, j, h => by
    obtain rfl : i = 0 := by omega
    rw [lv_0j]; omega
  | s + 1, 0, j, h => by rw [lv_0j]; omega
  | s + 1, i + 1, 0, h => by rw [lv_i0]; omega
  | s + 1, i + 1, j + 1, h => by
    have h1 := lv_B a b s i (j + 1) (by omega)
    rw [lv_s]
    omega
def edt (w u : List Nat) : Nat := lv (fun i => w.getD i 0) (fun i => u.getD i 0) w.length u.length
theorem edt_le (w u : List Nat) : edt w u ≤ w.length + u.length := lv_B _ _ _ _ _ (Nat.le_refl _)
