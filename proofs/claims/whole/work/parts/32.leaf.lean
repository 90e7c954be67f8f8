/-! The class's leaves: tables. -/
/-- a table at v of m rows of w, n of them told, holds f -/
def TB (v m w n : Nat) (f : Nat → Nat → Int32) (S : St) : Prop := KO.1 v = (0, 7) ∧ KO.1 (v + 30) = (1, m * w) ∧ rI S v 0 = nI m ∧ rI S v 1 = nI w ∧ rI S v 3 = nI n ∧ n ≤ m ∧ (m ≤ 40 ∧ 0 < w ∧ w ≤ 11) ∧ ∀ i j, i < n → j < w → rI S (v + 30) (i * w + j) = f i j
section TBL
variable {v m w n : Nat} {f : Nat → Nat → Int32} {S S' : St}
theorem TB.k (h : TB v m w n f S) : KO.1 v = (0, 7) := h.1
theorem TB.ext (h : TB v m w n f S) {g : Nat → Nat → Int32} (e : ∀ i j, i < n → j < w → f i j = g i j) : TB v m w n g S := ⟨h.1, h.2.1, h.2.2.1, h.2.2.2.1, h.2.2.2.2.1, h.2.2.2.2.2.1, h.2.2.2.2.2.2.1, fun i j hi hj => (h.2.2.2.2.2.2.2 i j hi hj).trans (e i j hi hj)⟩
theorem TB.eqs (h : TB v m w n f S) (e : ∀ k, rI S' v k = rI S v k) (e' : ∀ k, rI S' (v + 30) k = rI S (v + 30) k) : TB v m w n f S' := ⟨h.1, h.2.1, (e 0).trans h.2.2.1, (e 1).trans h.2.2.2.1, (e 3).trans h.2.2.2.2.1, h.2.2.2.2.2.1, h.2.2.2.2.2.2.1, fun i j hi hj => (e' _).trans (h.2.2.2.2.2.2.2 i j hi hj)⟩
theorem TB.fr {P : Nat → Nat → Bool} (h : TB v m w n f S) (hf : Fr P S S') (e : ∀ k, P v k = false) (e' : ∀ k, P (v + 30) k = false) : TB v m w n f S' := h.eqs (fun k => hf.i (e k)) (fun k => hf.i (e' k))
theorem tb_size (h : TB v m w n f S) : o_tb_size v S = some (nI n, S) := by
  unfold o_tb_size
  rw [if_pos h.1, h.2.2.2.2.1]
theorem tb_full (h : TB v m w n f S) : o_tb_full v S = some (bI (decide (m ≤ n)), S) := by
  have hm := h.2.2.2.2.2.2.1.1
  have hn := h.2.2.2.2.2.1
  unfold o_tb_full o_tb_full_16
  rw [if_pos h.1, h.2.2.1, h.2.2.2.2.1]
  by_cases hq : n < m
  · rw [if_pos (nI_lt hq (by omega)), if_pos b0, decide_eq_false (by omega)]
    rfl
  · rw [if_neg (nI_nlt (by omega) (by omega)), if_pos b1, decide_eq_true (by omega)]
    rfl
theorem tb_holds (h : TB v m w n f S) {i j : Nat} (hi : i < 2 ^ 31) (hj : j < w) : o_tb_holds v (nI i) (nI j) S = some (bI (decide (i < n)), S) := by
  have hm := h.2.2.2.2.2.2.1
  have hn := h.2.2.2.2.2.1
  unfold o_tb_holds o_tb_holds_36 o_tb_holds_37
  rw [if_neg (nI_pos hi), if_pos h.1, h.2.2.2.2.1, h.2.2.1, h.2.2.2.1]
  by_cases hq : i < n
  · rw [if_pos (nI_lt hq (by omega)), if_pos (nI_lt (by omega) (by omega)), if_neg (nI_pos (by omega)), if_pos (nI_lt hj (by omega)), if_pos b1, decide_eq_true hq]
    rfl
  · rw [if_neg (nI_nlt (by omega) hi), if_pos b0, decide_eq_false hq]
    rfl
theorem tb_ix (h : TB v m w n f S) {i j : Nat} (hi : i < n) (hj : j < w) : i * w + j < m * w ∧ m * w ≤ 440 := by
  obtain ⟨h1, h2, h3⟩ := h.2.2.2.2.2.2.1
  have hn := h.2.2.2.2.2.1
  constructor
  · calc i * w + j < i * w + w := by omega
      _ = (i + 1) * w := (Nat.succ_mul i w).symm
      _ ≤ m * w := Nat.mul_le_mul_right w (by omega)
  · calc m * w ≤ 40 * 11 := Nat.mul_le_mul h1 h3
theorem tb_at (h : TB v m w n f S) {i j : Nat} (hi : i < 2 ^ 31) (hj : j < w) : o_tb_at v (nI i) (nI j) S = some (bif decide (i < n) then f i j else -1, S) := by
  unfold o_tb_at
  rw [if_pos h.1, tb_holds h hi hj, bn_some]
  by_cases hq : i < n
  · rw [decide_eq_true hq]
    obtain ⟨h1, h2⟩ := tb_ix h hq hj
    rw [if_neg bT, h.2.2.2.1, nI_mul, nI_add]
    unfold o_tb_at_21 o_tb_at_45
    have hk : Int32.ofNat (m * w) = nI (m * w) := rfl
    rw [if_neg (nI_pos (by omega)), if_pos h.1, h.2.1, if_pos (k1r _), hk, if_pos (nI_lt h1 (by omega)), if_pos rfl, if_neg (nI_in h1 (by omega)), nI_clamp (by omega), h.2.2.2.2.2.2.2 i j hq hj]
    rfl
  · rw [decide_eq_false hq, if_pos bF]
    unfold o_tb_at_21 o_tb_at_44 o_tb_at_45
    rw [if_pos (by decide)]
    rfl
theorem tb_atN (h : TB v m w n f S) {x y : Int32} (hx : x < 0) : o_tb_at v x y S = some (-1, S) := by
  unfold o_tb_at o_tb_holds o_tb_holds_36 o_tb_holds_37
  rw [if_pos h.1, if_pos hx, if_pos b0, bn_some, if_pos rfl]
  unfold o_tb_at_21 o_tb_at_44 o_tb_at_45
  rw [if_pos (by decide)]
theorem tb_atI (h : TB v m w n f S) {i j : Nat} (hi : i < n) (hj : j < w) : o_tb_at v (nI i) (nI j) S = some (f i j, S) := by
  have h1 := h.2.2.2.2.2.1
  have h2 := h.2.2.2.2.2.2.1
  rw [tb_at h (by omega) hj, decide_eq_true hi]
  rfl
theorem tb_put (h : TB v m w n f S) {i j : Nat} (hi : i < n) (hj : j < w) (x : Int32) : o_tb_put v (nI i) (nI j) x S = some ((), wI S (v + 30) (i * w + j) x) := by
  have h1 := h.2.2.2.2.2.1
  have h2 := h.2.2.2.2.2.2.1
  unfold o_tb_put
  rw [if_pos h.1, tb_holds h (by omega) hj, bn_some, decide_eq_true hi]
  obtain ⟨h3, h4⟩ := tb_ix h hi hj
  rw [if_neg bT, h.2.2.2.1, nI_mul, nI_add]
  unfold o_tb_put_21 o_tb_put_46
  simp only [ltq]
  have hk : Int32.ofNat (m * w) = nI (m * w) := rfl
  rw [if_neg (nI_pos (by omega)), if_pos h.1, h.2.1, if_pos (k1r _), hk, if_pos (nI_lt h3 (by omega)), if_pos rfl, if_neg (nI_in h3 (by omega)), nI_clamp (by omega)]
theorem tb_putN (h : TB v m w n f S) {x y z : Int32} (hx : x < 0) : o_tb_put v x y z S = some ((), S) := by
  unfold o_tb_put o_tb_holds o_tb_holds_36 o_tb_holds_37
  rw [if_pos h.1, if_pos hx, if_pos b0, bn_some, if_pos rfl]
  unfold o_tb_put_21 o_tb_put_46
  rw [if_pos (by decide)]
/-- the place of a row and a column -/
theorem rc_eq {w i j i' j' : Nat} (hj : j < w) (hj' : j' < w) (h : i * w + j = i' * w + j') : i = i' ∧ j = j' := by
  have hw : 0 < w := by omega
  have e1 : (i * w + j) / w = i := by rw [Nat.mul_comm, Nat.mul_add_div hw, Nat.div_eq_of_lt hj, Nat.add_zero]
  have e2 : (i' * w + j') / w = i' := by rw [Nat.mul_comm, Nat.mul_add_div hw, Nat.div_eq_of_lt hj', Nat.add_zero]
  have e3 : (i * w + j) % w = j := by rw [Nat.mul_comm, Nat.mul_add_mod, Nat.mod_eq_of_lt hj]
  have e4 : (i' * w + j') % w = j' := by rw [Nat.mul_comm, Nat.mul_add_mod, Nat.mod_eq_of_lt hj']
  rw [h] at e1 e3
  exact ⟨e1.symm.trans e2, e3.symm.trans e4⟩
def upR (f : Nat → Nat → Int32) (i j : Nat) (x : Int32) : Nat → Nat → Int32 := fun a b => if a = i ∧ b = j then x else f a b
theorem TB.put (h : TB v m w n f S) {i j : Nat} (hj : j < w) (x : Int32) : TB v m w n (upR f i j x) (wI S (v + 30) (i * w + j) x) := by
  have hv : v ≠ v + 30 := by omega
  refine ⟨h.1, h.2.1, ?_, ?_, ?_, h.2.2.2.2.2.1, h.2.2.2.2.2.2.1, fun a b ha hb => ?_⟩
  · rw [rI_wI_a hv]; exact h.2.2.1
  · rw [rI_wI_a hv]; exact h.2.2.2.1
  · rw [rI_wI_a hv]; exact h.2.2.2.2.1
  · unfold upR
    by_cases he : a = i ∧ b = j
    · obtain ⟨rfl, rfl⟩ := he
      rw [if_pos ⟨rfl, rfl⟩, rI_wI]
    · rw [if_neg he, rI_wI_k (fun q => he (rc_eq hb hj q))]
      exact h.2.2.2.2.2.2.2 a b ha hb
/-- zeros in the last row, c columns -/
theorem tb_add_loop (hw : w ≤ 11) : ∀ (c j : Nat) (k : Nat) (f : Nat → Nat → Int32) (S : St), TB v m w (n + 1) f S → j + c = w → c < k → ∃ S', o_tb_add_21 k v (nI j) S = some (nI n, S') ∧ TB v m w (n + 1) (fun a b => if a = n ∧ j ≤ b then 0 else f a b) S' ∧ Fr (fun a _ => a == v + 30) S S'
  | 0, j, k, f, S, h, hj, hk => by
    obtain ⟨k, rfl, hk⟩ := fuel hk
    obtain rfl : j = w := by omega
    have h1 := h.2.2.2.2.2.1
    have h2 := h.2.2.2.2.2.2.1
    refine ⟨S, ?_, h.ext fun a b ha hb => ?_, Fr.rf⟩
    · rw [o_tb_add_21, if_pos h.1, h.2.2.2.1, if_neg (nI_nlt (Nat.le_refl _) (by omega))]
      unfold o_tb_add_47
      rw [if_pos h.1, h.2.2.2.2.1, nI_pred]
    · have : ¬ (a = n ∧ j ≤ b) := by omega
      rw [if_neg this]
  | c + 1, j, k, f, S, h, hj, hk => by
    obtain ⟨k, rfl, hk⟩ := fuel hk
    have h1 := h.2.2.2.2.2.1
    have h2 := h.2.2.2.2.2.2.1
    have hjw : j < w := by omega
    obtain ⟨S', e1, e2, e3⟩ := tb_add_loop hw c (j + 1) k _ _ (h.put (i := n) hjw 0) (by omega) (by omega)
    refine ⟨S', ?_, e2.ext fun a b ha hb => ?_, Fr.tr (Fr.wI (by simp)) e3⟩
    · rw [o_tb_add_21, if_pos h.1, h.2.2.2.1, if_pos (nI_lt hjw (by omega)), h.2.2.2.2.1, nI_pred, tb_put h (Nat.lt_succ_self n) hjw 0, bn_some]
      simp only [ltq]
      rw [nI_1]
      exact e1
    · unfold upR
      by_cases q : a = n ∧ j ≤ b
      · rw [if_pos q]
        by_cases q1 : a = n ∧ j + 1 ≤ b
        · rw [if_pos q1]
        · rw [if_neg q1, if_pos (by omega)]
      · rw [if_neg q, if_neg (by omega), if_neg (by omega)]
theorem tb_add (h : TB v m w n f S) (hn : n < m) : ∃ S', o_tb_add v S = some (nI n, S') ∧ TB v m w (n + 1) (fun a b => if a = n then 0 else f a b) S' ∧ Fr (fun a k => a == v + 30 || (a == v && k == 3)) S S' := by
  have h2 := h.2.2.2.2.2.2.1
  have hv : v + 30 ≠ v := by omega
  have hT : TB v m w (n + 1) (fun a b => if a = n then rI S (v + 30) (a * w + b) else f a b) (wI S v 3 (rI S v 3 + 1)) := by
    refine ⟨h.1, h.2.1, ?_, ?_, ?_, hn, h2, fun a b ha hb => ?_⟩
    · rw [rI_wI_k (by decide)]; exact h.2.2.1
    · rw [rI_wI_k (by decide)]; exact h.2.2.2.1
    · rw [rI_wI, h.2.2.2.2.1, nI_1]
    · rw [rI_wI_a hv]
      by_cases q : a = n
      · simp only [if_pos q]
      · simp only [if_neg q]; exact h.2.2.2.2.2.2.2 a b (by omega) hb
  obtain ⟨S', e1, e2, e3⟩ := tb_add_loop h2.2.2 w 0 FU _ _ hT (by omega) (by unfold FU; omega)
  refine ⟨S', ?_, e2.ext fun a b ha hb => ?_, Fr.tr (Fr.wI (by simp)) (e3.mo fun a k q => ?_)⟩
  · unfold o_tb_add
    rw [if_pos h.1, tb_full h, bn_some, decide_eq_false (by omega), if_pos bF]
    simp only [ltq]
    exact e1
  · by_cases q : a = n
    · rw [if_pos ⟨q, Nat.zero_le _⟩, if_pos q]
    · rw [if_neg (by omega), if_neg q, if_neg q]
  · rw [Bool.or_eq_false_iff] at q
    exact q.1
theorem tb_addF (h : TB v m w n f S) (hn : ¬ n < m) : o_tb_add v S = some (-1, S) := by
  unfold o_tb_add
  rw [if_pos h.1, tb_full h, bn_some, decide_eq_true (by omega), if_neg (by decide)]
theorem tb_clear (h : TB v m w n f S) (g : Nat → Nat → Int32) : o_tb_clear v S = some ((), wI S v 3 0) ∧ TB v m w 0 g (wI S v 3 0) := by
  constructor
  · unfold o_tb_clear
    simp only [ltq]
    rw [if_pos h.1]
  · refine ⟨h.1, h.2.1, ?_, ?_, ?_, Nat.zero_le _, h.2.2.2.2.2.2.1, fun a b ha hb => absurd ha (Nat.not_lt_zero a)⟩
    · rw [rI_wI_k (by decide)]; exact h.2.2.1
    · rw [rI_wI_k (by decide)]; exact h.2.2.2.1
    · rw [rI_wI]; rfl
theorem tb_copy {u n' : Nat} {g : Nat → Nat → Int32} (h : TB v m w n f S) (h' : TB u m w n' g S) (huv : u ≠ v) (hu : u + 30 ≠ v) (hv : v + 30 ≠ u) : ∃ S', o_tb_copy v u S = some ((), S') ∧ TB v m w n' g S' ∧ Fr (fun a k => a == v + 30 || (a == v && k == 3)) S S' := by
  have h2 := h.2.2.2.2.2.2.1
  have h3 : m * w ≤ 40 * 11 := Nat.mul_le_mul h2.1 h2.2.2
  refine ⟨wI (cpA S (u + 30) (v + 30) (m * w)) v 3 (rI (cpA S (u + 30) (v + 30) (m * w)) u 3), ?_, ?_, ?_⟩
  · unfold o_tb_copy
    simp only [ltq]
    rw [if_pos h'.1, h'.2.1, if_pos (k1r _), if_pos h.1, h.2.1, if_pos (k1r _), if_pos rfl, if_pos (k1r _), if_pos (by refine ⟨?_, ?_, by omega, ?_, ?_, ?_, ?_, by show m * w < 100000; omega⟩ <;> first | trivial | rfl)]
  · have e : ∀ k, rI (cpA S (u + 30) (v + 30) (m * w)) u k = rI S u k := fun k => if_neg (by omega)
    have e' : ∀ k, rI (cpA S (u + 30) (v + 30) (m * w)) v k = rI S v k := fun k => if_neg (by omega)
    refine ⟨h.1, h.2.1, ?_, ?_, ?_, h'.2.2.2.2.2.1, h2, fun a b ha hb => ?_⟩
    · rw [rI_wI_k (by decide), e']; exact h.2.2.1
    · rw [rI_wI_k (by decide), e']; exact h.2.2.2.1
    · rw [rI_wI, e]; exact h'.2.2.2.2.1
    · rw [rI_wI_a (by omega)]
      have hx := (tb_ix h' ha hb).1
      have : rI (cpA S (u + 30) (v + 30) (m * w)) (v + 30) (a * w + b) = rI S (u + 30) (a * w + b) := if_pos ⟨rfl, hx⟩
      rw [this]
      exact h'.2.2.2.2.2.2.2 a b ha hb
  · refine Fr.tr (S1 := cpA S (u + 30) (v + 30) (m * w)) ⟨fun a k q => ?_, fun _ _ _ => rfl, fun _ _ _ => rfl⟩ (Fr.wI (by simp))
    refine if_neg ?_
    rintro ⟨rfl, -⟩
    simp at q
end TBL
