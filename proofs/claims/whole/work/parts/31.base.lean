/-! Tools of the pure part: frames, masks, sums. -/
def Fr (P : Nat → Nat → Bool) (S S' : St) : Prop := (∀ a k, P a k = false → S'.1 a k = S.1 a k) ∧ (∀ a k, P a k = false → S'.2.1 a k = S.2.1 a k) ∧ (∀ a k, P a k = false → S'.2.2 a k = S.2.2 a k)
section FR
variable {P Q : Nat → Nat → Bool} {S S1 S2 : St}
theorem Fr.rf : Fr P S S := ⟨fun _ _ _ => rfl, fun _ _ _ => rfl, fun _ _ _ => rfl⟩
theorem Fr.tr (h : Fr P S S1) (h' : Fr P S1 S2) : Fr P S S2 := ⟨fun a k q => (h'.1 a k q).trans (h.1 a k q), fun a k q => (h'.2.1 a k q).trans (h.2.1 a k q), fun a k q => (h'.2.2 a k q).trans (h.2.2 a k q)⟩
theorem Fr.mo (h : Fr P S S1) (hq : ∀ a k, Q a k = false → P a k = false) : Fr Q S S1 := ⟨fun a k q => h.1 a k (hq a k q), fun a k q => h.2.1 a k (hq a k q), fun a k q => h.2.2 a k (hq a k q)⟩
theorem up2_ne {α : Type} {f : Nat → Nat → α} {a k b j : Nat} {v : α} (h : ¬ (b = a ∧ j = k)) : up2 f a k v b j = f b j := by
  unfold up2
  by_cases h1 : b = a
  · rw [if_pos h1, if_neg (fun h2 => h ⟨h1, h2⟩)]
  · rw [if_neg h1]
theorem up2_eq {α : Type} {f : Nat → Nat → α} {a k : Nat} {v : α} : up2 f a k v a k = v := by
  unfold up2
  rw [if_pos rfl, if_pos rfl]
theorem fr_w {a k : Nat} (h : P a k = true) {b j : Nat} (hb : P b j = false) : ¬ (b = a ∧ j = k) := by
  rintro ⟨rfl, rfl⟩
  rw [h] at hb
  cases hb
theorem Fr.wI {a k : Nat} {v : Int32} (h : P a k = true) : Fr P S (wI S a k v) := ⟨fun _ _ q => up2_ne (fr_w h q), fun _ _ _ => rfl, fun _ _ _ => rfl⟩
theorem Fr.wJ {a k : Nat} {v : Int64} (h : P a k = true) : Fr P S (wJ S a k v) := ⟨fun _ _ _ => rfl, fun _ _ q => up2_ne (fr_w h q), fun _ _ _ => rfl⟩
theorem Fr.wQ {a k : Nat} {v : Option Nat} (h : P a k = true) : Fr P S (wQ S a k v) := ⟨fun _ _ _ => rfl, fun _ _ _ => rfl, fun _ _ q => up2_ne (fr_w h q)⟩
theorem Fr.i (h : Fr P S S1) {a k : Nat} (hp : P a k = false) : rI S1 a k = rI S a k := h.1 a k hp
theorem Fr.j (h : Fr P S S1) {a k : Nat} (hp : P a k = false) : rJ S1 a k = rJ S a k := h.2.1 a k hp
theorem Fr.q (h : Fr P S S1) {a k : Nat} (hp : P a k = false) : rQ S1 a k = rQ S a k := h.2.2 a k hp
end FR
section RW
variable {S : St} {a k b j : Nat} {v : Int32} {w : Int64} {o : Option Nat}
theorem rI_wI : rI (wI S a k v) a k = v := up2_eq
theorem rI_wI_a (h : b ≠ a) : rI (wI S a k v) b j = rI S b j := up2_ne fun q => h q.1
theorem rI_wI_k (h : j ≠ k) : rI (wI S a k v) b j = rI S b j := up2_ne fun q => h q.2
theorem rJ_wJ : rJ (wJ S a k w) a k = w := up2_eq
theorem rJ_wJ_a (h : b ≠ a) : rJ (wJ S a k w) b j = rJ S b j := up2_ne fun q => h q.1
theorem rJ_wJ_k (h : j ≠ k) : rJ (wJ S a k w) b j = rJ S b j := up2_ne fun q => h q.2
theorem rQ_wQ : rQ (wQ S a k o) a k = o := up2_eq
theorem rQ_wQ_a (h : b ≠ a) : rQ (wQ S a k o) b j = rQ S b j := up2_ne fun q => h q.1
theorem rQ_wQ_k (h : j ≠ k) : rQ (wQ S a k o) b j = rQ S b j := up2_ne fun q => h q.2
end RW
theorem bn_some {α β : Type} (v : α) (S : St) (k : α → St → Re β) : bn (some (v, S)) k = k v S := rfl
theorem oq_some {β : Type} (b : Nat) (a : β) (k : Nat → β) : oq (some b) a k = k b := rfl
/-! truth -/
def bI (b : Bool) : Int32 := bif b then 1 else 0
theorem bI_bo (b : Bool) : isBo (bI b) = true := by cases b <;> rfl
theorem bI_z (b : Bool) : bI b = 0 ↔ b = false := by cases b <;> simp [bI]
theorem bI_o (b : Bool) : bI b = 1 ↔ b = true := by cases b <;> simp [bI]
theorem bI_inj {a b : Bool} (h : bI a = bI b) : a = b := by
  cases a <;> cases b <;> first | rfl | (exact absurd h (by decide))
theorem bo_of {x : Int32} (h : isBo x = true) : ∃ b, x = bI b := by
  unfold isBo at h
  rcases Bool.or_eq_true _ _ |>.mp h with h | h
  · exact ⟨false, by simpa [bI] using h⟩
  · exact ⟨true, by simpa [bI] using h⟩
/-! masks -/
/-- the mask of those below n that are p -/
def mk : Nat → (Nat → Bool) → Int32
  | 0, _ => 0
  | n + 1, p => mk n p ||| (bif p n then (1 : Int32) <<< (nI n &&& 31) else 0)
theorem tb_mk : ∀ (n : Nat) (p : Nat → Bool) (i : Nat), n ≤ 32 → i < 32 → tb (mk n p) i = (decide (i < n) && p i)
  | 0, p, i, _, _ => by simp [mk, tb_z]
  | n + 1, p, i, hn, hi => by
    rw [mk, tb_or, tb_mk n p i (by omega) hi]
    have h : tb (bif p n then (1 : Int32) <<< (nI n &&& 31) else 0) i = (decide (i = n) && p n) := by
      cases p n
      · simp [tb_z]
      · simp [tb_sh1 (show n < 32 by omega) hi]
    rw [h]
    by_cases h1 : i < n
    · have h2 : i < n + 1 := by omega
      have h3 : ¬ i = n := by omega
      simp [h1, h2, h3]
    · by_cases h3 : i = n
      · subst h3
        simp
      · have h2 : ¬ i < n + 1 := by omega
        simp [h1, h2, h3]
theorem lo_mk {n : Nat} (p : Nat → Bool) (hn : n ≤ 32) : lo n (mk n p) := fun i h1 h2 => by
  rw [tb_mk n p i hn h2]
  have : ¬ i < n := by omega
  simp [this]
theorem mk_ext {n : Nat} {p q : Nat → Bool} (h : ∀ i, i < n → p i = q i) : mk n p = mk n q := by
  induction n with
  | zero => rfl
  | succ n ih => rw [mk, mk, ih fun i hi => h i (by omega), h n (by omega)]
theorem eq_mk {n : Nat} {x : Int32} {p : Nat → Bool} (hn : n ≤ 32) (hx : lo n x) (h : ∀ i, i < n → tb x i = p i) : x = mk n p :=
  eq_of_lo hx (lo_mk p hn) fun i hi => by
    rw [h i hi, tb_mk n p i hn (by omega)]
    simp [hi]
theorem mk_tb {n : Nat} {x : Int32} (hn : n ≤ 32) (hx : lo n x) : mk n (tb x) = x := (eq_mk hn hx fun _ _ => rfl).symm
/-- beyond n nothing more comes -/
theorem mk_more {n m : Nat} {p : Nat → Bool} (hnm : n ≤ m) (hm : m ≤ 32) (h : ∀ i, n ≤ i → i < m → p i = false) : mk m p = mk n p := by
  apply tb_ext
  intro i hi
  rw [tb_mk _ _ _ hm hi, tb_mk _ _ _ (by omega) hi]
  by_cases h1 : i < n
  · have : i < m := by omega
    simp [h1, this]
  · by_cases h2 : i < m
    · simp [h1, h2, h i (by omega) h2]
    · simp [h1, h2]
theorem lo_mo {n m : Nat} {x : Int32} (h : lo n x) (hnm : n ≤ m) : lo m x := fun i h1 h2 => h i (by omega) h2
theorem lo_and2 {n : Nat} {x y : Int32} (h : lo n y) : lo n (x &&& y) := fun i h1 h2 => by rw [tb_and, h i h1 h2, Bool.and_false]
theorem tb_bit {k i : Nat} (hk : k < 32) (hi : i < 32) : tb ((1 : Int32) <<< (nI k &&& 31)) i = decide (i = k) := tb_sh1 hk hi
/-! sums -/
def sm : Nat → (Nat → Int32) → Int32
  | 0, _ => 0
  | n + 1, f => sm n f + f n
theorem sm_ext {n : Nat} {f g : Nat → Int32} (h : ∀ i, i < n → f i = g i) : sm n f = sm n g := by
  induction n with
  | zero => rfl
  | succ n ih => rw [sm, sm, ih fun i hi => h i (by omega), h n (by omega)]
theorem sm_0 {n : Nat} {f : Nat → Int32} (h : ∀ i, i < n → f i = 0) : sm n f = 0 := by
  induction n with
  | zero => rfl
  | succ n ih => rw [sm, ih fun i hi => h i (by omega), h n (by omega)]; rfl
theorem sm_add {n : Nat} {f g : Nat → Int32} : sm n (fun i => f i + g i) = sm n f + sm n g := by
  induction n with
  | zero => rfl
  | succ n ih => rw [sm, sm, sm, ih]; ac_rfl
theorem sm_more {n m : Nat} {f : Nat → Int32} (hnm : n ≤ m) (h : ∀ i, n ≤ i → i < m → f i = 0) : sm m f = sm n f := by
  induction hnm with
  | refl => rfl
  | step hm ih => rw [sm, ih fun i h1 h2 => h i h1 (Nat.lt_succ_of_lt h2), h _ hm (Nat.lt_succ_self _), Int32.add_zero]
/-! the first that is p -/
def ff (p : Nat → Bool) : Nat → Nat → Int32
  | _, 0 => -1
  | k, c + 1 => bif p k then nI k else ff p (k + 1) c
theorem ff_ext {p q : Nat → Bool} : ∀ (c k : Nat), (∀ i, k ≤ i → i < k + c → p i = q i) → ff p k c = ff q k c
  | 0, _, _ => rfl
  | c + 1, k, h => by rw [ff, ff, h k (by omega) (by omega), ff_ext c (k + 1) fun i h1 h2 => h i (by omega) (by omega)]
theorem ff_none {p : Nat → Bool} : ∀ (c k : Nat), (∀ i, k ≤ i → i < k + c → p i = false) → ff p k c = -1
  | 0, _, _ => rfl
  | c + 1, k, h => by rw [ff, h k (by omega) (by omega), ff_none c (k + 1) fun i h1 h2 => h i (by omega) (by omega)]; rfl
theorem ff_or {p : Nat → Bool} : ∀ (c k : Nat), (ff p k c = -1 ∧ ∀ i, k ≤ i → i < k + c → p i = false) ∨ ∃ i, k ≤ i ∧ i < k + c ∧ p i = true ∧ ff p k c = nI i ∧ ∀ j, k ≤ j → j < i → p j = false
  | 0, k => Or.inl ⟨rfl, fun i h1 h2 => by omega⟩
  | c + 1, k => by
    rw [ff]
    cases hp : p k with
    | true => exact Or.inr ⟨k, Nat.le_refl _, by omega, hp, rfl, fun j h1 h2 => by omega⟩
    | false =>
      rcases ff_or (p := p) c (k + 1) with ⟨h1, h2⟩ | ⟨i, h1, h2, h3, h4, h5⟩
      · refine Or.inl ⟨h1, fun i h3 h4 => ?_⟩
        by_cases hi : i = k
        · rw [hi, hp]
        · exact h2 i (by omega) (by omega)
      · refine Or.inr ⟨i, by omega, by omega, h3, h4, fun j h6 h7 => ?_⟩
        by_cases hj : j = k
        · rw [hj, hp]
        · exact h5 j (by omega) h7
theorem nI_m1 {n : Nat} (h : n < 2 ^ 31) : ¬ nI n = -1 := by
  intro q
  have := congrArg Int32.toInt q
  rw [nI_toInt h] at this
  have h2 : (-1 : Int32).toInt = -1 := by decide
  omega
theorem fuel {j n : Nat} (h : j < n) : ∃ m, n = m + 1 ∧ j ≤ m := ⟨n - 1, by omega, by omega⟩
theorem nI_sub {a b : Nat} (h : b ≤ a) : nI a - nI b = nI (a - b) := by
  have : nI a = nI (a - b) + nI b := by rw [nI_add, Nat.sub_add_cancel h]
  rw [this, Int32.add_sub_cancel]
theorem nI_mul (a b : Nat) : nI a * nI b = nI (a * b) := (Int32.ofNat_mul a b).symm
theorem nI_ofs {a b : Nat} (h : nI a = nI b) (ha : a < 2 ^ 31) (hb : b < 2 ^ 31) : a = b := (nI_eq ha hb).mp h
theorem nI_up {n c : Nat} (h : n < c) (hc : c < 2 ^ 31) : ¬ (nI n < 0 ∨ c ≤ (nI n).toNatClampNeg) := nI_in h hc
theorem b0 : isBo 0 = true := rfl
theorem b1 : isBo 1 = true := rfl
theorem bF : bI false = 0 := rfl
theorem bT : ¬ bI true = 0 := by decide
theorem k1r (c : Nat) : 1 ≤ ((1, c) : Nat × Nat).1 ∧ ((1, c) : Nat × Nat).1 < 8 := ⟨Nat.le_refl 1, by show 1 < 8; decide⟩
theorem k4r (c : Nat) : 1 ≤ ((4, c) : Nat × Nat).1 ∧ ((4, c) : Nat × Nat).1 < 8 := ⟨by show 1 ≤ 4; decide, by show 4 < 8; decide⟩
theorem k5r (c : Nat) : 1 ≤ ((5, c) : Nat × Nat).1 ∧ ((5, c) : Nat × Nat).1 < 8 := ⟨by show 1 ≤ 5; decide, by show 5 < 8; decide⟩
theorem k5s (c : Nat) : 5 ≤ ((5, c) : Nat × Nat).1 ∧ ((5, c) : Nat × Nat).1 < 8 := ⟨Nat.le_refl 5, by show 5 < 8; decide⟩
theorem k1e (c : Nat) : ((1, c) : Nat × Nat).1 = 1 := rfl
theorem k4e (c : Nat) : ((4, c) : Nat × Nat).1 = 4 := rfl
theorem nI_inC {c N : Nat} (h : c < N) (hN : N < 2 ^ 31) : ¬ (nI c < 0 ∨ N ≤ c) := by
  rintro (q | q)
  · exact nI_pos (by omega) q
  · omega
/-- not by 'rfl': a defeq check against a loop with much fuel runs away -/
theorem ltq {α β : Type} (x : α) (k : α → β) : lt' x k = k x := congrArg (fun f : α → (α → β) → β => f x k) (show (lt' : α → (α → β) → β) = fun x k => k x from rfl)
theorem nI_ne {a b : Nat} (h : ¬ a = b) (ha : a < 2 ^ 31) (hb : b < 2 ^ 31) : ¬ nI a = nI b := fun e => h (nI_ofs e ha hb)
