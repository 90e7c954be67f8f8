/-! The class's Names. -/
def okW (t : List Nat) : Prop := t.length ≤ 8 ∧ ∀ c ∈ t, 1 ≤ c ∧ c ≤ 26
theorem WD.ok {w : List Nat} (h : WD w) : okW w := ⟨h.2.1, h.2.2⟩
theorem okW.tl {c : Nat} {t : List Nat} (h : okW (c :: t)) : okW t := ⟨by have := h.1; rw [List.length_cons] at this; omega, fun x hx => h.2 x (List.mem_cons_of_mem _ hx)⟩
theorem okW.hd {c : Nat} {t : List Nat} (h : okW (c :: t)) : 1 ≤ c ∧ c ≤ 26 := h.2 c List.mem_cons_self
theorem okW.B {t : List Nat} (h : okW t) : pk5 t < 2 ^ 40 := pk5_B h.2 h.1
theorem okW.dr {t : List Nat} (h : okW t) (k : Nat) : okW (t.drop k) := ⟨by have := h.1; rw [List.length_drop]; omega, fun x hx => h.2 x (List.mem_of_mem_drop hx)⟩
theorem okW.ge {t : List Nat} (h : okW t) (k : Nat) : t.getD k 0 ≤ 26 := by
  rw [List.getD_eq_getElem?_getD]
  cases e : t[k]? with
  | none => decide
  | some c => exact (h.2 c (List.mem_of_getElem? e)).2
theorem okW.pos {t : List Nat} (h : okW t) {k : Nat} (hk : k < t.length) : 1 ≤ t.getD k 0 := by
  rw [List.getD_eq_getElem?_getD, List.getElem?_eq_getElem hk]
  exact (h.2 _ (List.getElem_mem hk)).1
theorem getD_out {t : List Nat} {k : Nat} (hk : t.length ≤ k) : t.getD k 0 = 0 := by
  rw [List.getD_eq_getElem?_getD, List.getElem?_eq_none hk]
  rfl
theorem pk5_sh : ∀ {t : List Nat}, (∀ c ∈ t, 1 ≤ c ∧ c ≤ 26) → ∀ k : Nat, pk5 t / 2 ^ (5 * k) = pk5 (t.drop k)
  | t, _, 0 => by simp
  | [], _, k + 1 => by simp [pk5]
  | c :: t, h, k + 1 => by
    rw [show 2 ^ (5 * (k + 1)) = 32 * 2 ^ (5 * k) by rw [show 5 * (k + 1) = 5 * k + 5 by omega, Nat.pow_add]; omega, ← Nat.div_div_eq_div_mul, pk5_div (h c List.mem_cons_self).2, pk5_sh (fun x hx => h x (List.mem_cons_of_mem _ hx)) k]
    rfl
theorem pk5_hd {t : List Nat} (h : ∀ c ∈ t, 1 ≤ c ∧ c ≤ 26) : pk5 t % 32 = t.getD 0 0 := by
  cases t with
  | nil => rfl
  | cons c t => rw [pk5_mod (h c List.mem_cons_self).2]; rfl
theorem getD_drop (t : List Nat) (k j : Nat) : (t.drop k).getD j 0 = t.getD (k + j) 0 := by
  rw [List.getD_eq_getElem?_getD, List.getD_eq_getElem?_getD, List.getElem?_drop]
def NW (v cap n : Nat) (w : Nat → List Nat) (S : St) : Prop := KO.1 v = (0, 2) ∧ KO.1 (v + 4) = (4, cap) ∧ KO.1 (v + 8) = (1, 9) ∧ rI S v 2 = nI n ∧ n ≤ cap ∧ cap ≤ 16 ∧ ∀ i, i < n → rJ S (v + 4) i = lN (pk5 (w i)) ∧ WD (w i)
section NAM
variable {v cap n : Nat} {w : Nat → List Nat} {S S' : St}
theorem NW.eqs (h : NW v cap n w S) (e : rI S' v 2 = rI S v 2) (e' : ∀ k, rJ S' (v + 4) k = rJ S (v + 4) k) : NW v cap n w S' := ⟨h.1, h.2.1, h.2.2.1, e.trans h.2.2.2.1, h.2.2.2.2.1, h.2.2.2.2.2.1, fun i hi => ⟨(e' i).trans (h.2.2.2.2.2.2 i hi).1, (h.2.2.2.2.2.2 i hi).2⟩⟩
theorem NW.fr {P : Nat → Nat → Bool} (h : NW v cap n w S) (hf : Fr P S S') (e : P v 2 = false) (e' : ∀ k, P (v + 4) k = false) : NW v cap n w S' := h.eqs (hf.i e) (fun k => hf.j (e' k))
theorem NW.wd (h : NW v cap n w S) {i : Nat} (hi : i < n) : WD (w i) := (h.2.2.2.2.2.2 i hi).2
theorem na_size (h : NW v cap n w S) : o_na_size v S = some (nI n, S) := by
  unfold o_na_size
  rw [if_pos h.1, h.2.2.2.1]
theorem na_at (h : NW v cap n w S) {i : Nat} (hi : i < n) : o_na_at v (nI i) S = some (lN (pk5 (w i)), S) := by
  have h1 := h.2.2.2.2.1
  have h2 := h.2.2.2.2.2.1
  unfold o_na_at o_na_at_31
  have hk : Int32.ofNat cap = nI cap := rfl
  rw [if_neg (nI_pos (by omega)), if_pos h.1, h.2.2.2.1, if_pos (nI_lt hi (by omega)), h.2.1, if_pos (k4r _), hk, if_pos (nI_lt (by omega) (by omega)), if_pos rfl, if_neg (nI_in (by omega) (by omega)), nI_clamp (by omega), (h.2.2.2.2.2.2 i hi).1]
theorem na_atO (h : NW v cap n w S) {i : Nat} (hi : ¬ i < n) (hb : i < 2 ^ 31) : o_na_at v (nI i) S = some (lN (pk5 []), S) := by
  unfold o_na_at o_na_at_30 o_na_at_31
  rw [if_neg (nI_pos hb), if_pos h.1, h.2.2.2.1, if_neg (nI_nlt (by omega) hb)]
  rfl
theorem na_atN {x : Int32} (hx : x < 0) : o_na_at v x S = some (lN (pk5 []), S) := by
  unfold o_na_at o_na_at_30 o_na_at_31
  rw [if_pos hx]
  rfl
theorem na_clear (h : NW v cap n w S) (w' : Nat → List Nat) : o_na_clear v S = some ((), wI S v 2 0) ∧ NW v cap 0 w' (wI S v 2 0) := by
  constructor
  · unfold o_na_clear
    simp only [ltq]
    rw [if_pos h.1]
  · exact ⟨h.1, h.2.1, h.2.2.1, rI_wI, Nat.zero_le _, h.2.2.2.2.2.1, fun i hi => absurd hi (Nat.not_lt_zero i)⟩
theorem na_add (h : NW v cap n w S) (hn : n < cap) {u : List Nat} (hu : WD u) : ∃ S', o_na_add v (lN (pk5 u)) S = some ((), S') ∧ NW v cap (n + 1) (fun i => if i = n then u else w i) S' ∧ Fr (fun a k => a == v + 4 || (a == v && k == 2)) S S' := by
  have h1 := h.2.2.2.2.1
  have h2 := h.2.2.2.2.2.1
  have hk : Int32.ofNat cap = nI cap := rfl
  refine ⟨wI (wJ S (v + 4) n (lN (pk5 u))) v 2 (nI (n + 1)), ?_, ⟨h.1, h.2.1, h.2.2.1, rI_wI, hn, h2, fun i hi => ?_⟩, Fr.tr (Fr.wJ (by simp)) (Fr.wI (by simp))⟩
  · unfold o_na_add o_na_add_32
    simp only [ltq]
    rw [if_pos h.1, h.2.1, if_pos (k4r _), h.2.2.2.1, hk, if_pos (nI_lt hn (by omega)), if_pos rfl, if_neg (nI_in hn (by omega)), nI_clamp (by omega), rI_wJ, h.2.2.2.1, nI_1]
  · rw [rJ_wI]
    by_cases q : i = n
    · subst q
      simp only [rJ_wJ, if_true]
      exact ⟨trivial, hu⟩
    · simp only [rJ_wJ_k q, if_neg q]
      exact h.2.2.2.2.2.2 i (by omega)
theorem na_find_loop (h : NW v cap n w S) {u : List Nat} (hu : okW u) : ∀ (j k m : Nat), k + j = n → j < m → o_na_find_2 m v (lN (pk5 u)) (nI k) S = some (ff (fun i => decide (w i = u)) k j, S)
  | 0, k, m, hk, hm => by
    obtain ⟨m, rfl, hm⟩ := fuel hm
    have h2 := h.2.2.2.2.2.1
    have h1 := h.2.2.2.2.1
    rw [o_na_find_2, if_pos h.1, h.2.2.2.1, if_neg (nI_nlt (by omega) (by omega))]
    rfl
  | j + 1, k, m, hk, hm => by
    obtain ⟨m, rfl, hm⟩ := fuel hm
    have h2 := h.2.2.2.2.2.1
    have h1 := h.2.2.2.2.1
    rw [o_na_find_2, if_pos h.1, h.2.2.2.1, if_pos (nI_lt (by omega) (by omega)), na_at h (by omega), bn_some]
    have hw := (h.wd (i := k) (by omega)).ok
    by_cases q : w k = u
    · rw [q, if_pos (by rw [lg_cmp_eq]), ff, decide_eq_true q]
      rfl
    · rw [if_neg (by
        rw [lg_cmp_eq, lN_eqB (by have := hw.B; omega) (by have := hu.B; omega)]
        exact fun e => q (pk5_inj hw.2 hu.2 e)), ff, decide_eq_false q]
      simp only [ltq]
      rw [nI_1]
      exact na_find_loop h hu j (k + 1) m (by omega) (by omega)
theorem na_find (h : NW v cap n w S) {u : List Nat} (hu : okW u) : o_na_find v (lN (pk5 u)) S = some (ff (fun i => decide (w i = u)) 0 n, S) := by
  have h2 := h.2.2.2.2.2.1
  have h1 := h.2.2.2.2.1
  exact na_find_loop h hu n 0 FU (by omega) (by unfold FU; omega)
theorem sh5_all : ∀ p, p < 8 → (((5 : Int32) * nI p).toInt64 &&& 63) = Int64.ofNat (5 * p) := by decide +kernel
theorem letter_of {t : List Nat} (ht : okW t) {p : Nat} (hp : p < 8) : (((lN (pk5 t) >>> (((5 : Int32) * nI p).toInt64 &&& 63)) &&& (31 : Int64))).toInt32 = nI (t.getD p 0) := by
  have hB := ht.B
  rw [sh5_all p hp, lN_shr (by omega) (by omega), pk5_sh ht.2, lN_and31 (by have := (ht.dr p).B; omega), lN_i, pk5_hd (ht.dr p).2, getD_drop]
  rfl
theorem na_letter (h : NW v cap n w S) {i p : Nat} (hi : i < n) (hp : p < 2 ^ 31) : o_na_letter v (nI i) (nI p) S = some (nI ((w i).getD p 0), S) := by
  unfold o_na_letter o_na_letter_27 o_na_letter_28
  rw [if_neg (nI_pos hp), show (8 : Int32) = nI 8 from rfl]
  have hw := (h.wd hi).ok
  by_cases q : p < 8
  · rw [if_pos (nI_lt q (by decide)), if_pos h.1, na_at h hi, bn_some, letter_of hw q]
  · rw [if_neg (nI_nlt (by omega) hp), getD_out (by have := hw.1; omega)]
    rfl
theorem na_letterN {x y : Int32} (hx : y < 0) : o_na_letter v x y S = some (nI 0, S) := by
  unfold o_na_letter o_na_letter_27 o_na_letter_28
  rw [if_pos hx]
  rfl
theorem na_letterI (h : NW v cap n w S) {x : Int32} (hx : x < 0) : o_na_letter v x 0 S = some (nI 0, S) := by
  unfold o_na_letter o_na_letter_27 o_na_letter_28
  rw [if_neg (by decide), if_pos (by decide), if_pos h.1, na_atN hx, bn_some, show (0 : Int32) = nI 0 from rfl, letter_of (t := []) ⟨by decide, fun c hc => absurd hc List.not_mem_nil⟩ (by decide)]
  rfl
theorem na_letters_loop : ∀ (t : List Nat) (k m : Nat), okW t → k + t.length ≤ 8 → t.length < m → o_na_letters_9 m (lN (pk5 t)) (nI k) S = some (nI (k + t.length), S)
  | [], k, m, ht, hk, hm => by
    obtain ⟨m, rfl, hm⟩ := fuel hm
    rw [o_na_letters_9, show (8 : Int32) = nI 8 from rfl]
    unfold o_na_letters_32
    by_cases q : k < 8
    · rw [if_pos (nI_lt q (by decide)), if_pos (by rw [lg_cmp_eq]; rfl)]
      rfl
    · rw [if_neg (nI_nlt (by omega) (by omega))]
      rfl
  | c :: t, k, m, ht, hk, hm => by
    obtain ⟨m, rfl, hm⟩ := fuel hm
    rw [List.length_cons] at hk hm
    have hB := ht.B
    have hp := pk5_pos (t := t) ht.hd.1
    rw [o_na_letters_9, show (8 : Int32) = nI 8 from rfl, if_pos (nI_lt (by omega) (by decide)), if_neg (by
      rw [lg_cmp_eq, show (0 : Int64) = lN 0 from rfl, lN_eqB (by omega) (by decide)]
      omega)]
    simp only [ltq]
    rw [lN_shr5 (by omega), pk5_div ht.hd.2, nI_1, na_letters_loop t (k + 1) m ht.tl (by omega) (by omega), List.length_cons, Nat.add_assoc k 1, Nat.add_comm 1]
theorem na_letters (h : NW v cap n w S) {i : Nat} (hi : i < n) : o_na_letters v (nI i) S = some (nI (w i).length, S) := by
  have hw := (h.wd hi).ok
  unfold o_na_letters
  rw [if_pos h.1, na_at h hi, bn_some]
  have := na_letters_loop (S := S) (w i) 0 FU hw (by have := hw.1; omega) (by have := hw.1; unfold FU; omega)
  rw [Nat.zero_add] at this
  exact this
theorem na_holds_loop {l : Nat} (hl : 1 ≤ l ∧ l ≤ 26) : ∀ (j k m : Nat) (t : List Nat), okW t → k + j = 8 → t.length ≤ j → j < m → o_na_holds_9 m (nI l) (lN (pk5 t)) (nI k) S = some (bI (t.contains l), S)
  | 0, k, m, t, ht, hk, hj, hm => by
    obtain ⟨m, rfl, hm⟩ := fuel hm
    obtain rfl : t = [] := List.eq_nil_of_length_eq_zero (by omega)
    rw [o_na_holds_9, show (8 : Int32) = nI 8 from rfl, if_neg (nI_nlt (by omega) (by omega))]
    rfl
  | j + 1, k, m, t, ht, hk, hj, hm => by
    obtain ⟨m, rfl, hm⟩ := fuel hm
    have hB := ht.B
    rw [o_na_holds_9, show (8 : Int32) = nI 8 from rfl, if_pos (nI_lt (by omega) (by decide)), if_neg (nI_ne0 (by omega) (by omega)), lN_and31 (by omega), nI_l (by omega)]
    cases t with
    | nil =>
      rw [if_neg (by
        rw [lg_cmp_eq, lN_eqB (by decide) (by omega)]
        show ¬ 0 % 32 = l
        omega)]
      simp only [ltq]
      rw [lN_shr5 (by decide), nI_1]
      have := na_holds_loop hl j (k + 1) m [] ht (by omega) (by simp) (by omega)
      exact this
    | cons c t =>
      rw [List.length_cons] at hj
      rw [pk5_mod ht.hd.2]
      by_cases q : c = l
      · subst q
        rw [if_pos (by rw [lg_cmp_eq])]
        unfold o_na_holds_31
        simp [bI]
      · rw [if_neg (by
          rw [lg_cmp_eq, lN_eqB (by have := ht.hd; omega) (by omega)]
          exact q)]
        simp only [ltq]
        rw [lN_shr5 (by omega), pk5_div ht.hd.2, nI_1, na_holds_loop hl j (k + 1) m t ht.tl (by omega) (by omega) (by omega), List.contains_cons]
        have : (l == c) = false := by simpa using fun e => q e.symm
        rw [this]
        rfl
theorem na_holds (h : NW v cap n w S) {i : Nat} (hi : i < n) {l : Nat} (hl : l ≤ 26) : o_na_holds v (nI i) (nI l) S = some (bI (decide (l ≠ 0) && (w i).contains l), S) := by
  have hw := (h.wd hi).ok
  unfold o_na_holds
  rw [if_pos h.1, na_at h hi, bn_some]
  by_cases q : l = 0
  · subst q
    rw [show FU = 999999 + 1 from rfl, o_na_holds_9, if_pos (by decide), if_pos (by decide)]
    rfl
  · rw [show (0 : Int32) = nI 0 from rfl, na_holds_loop ⟨by omega, hl⟩ 8 0 FU (w i) hw (by omega) hw.1 (by unfold FU; omega), decide_eq_true (by omega), Bool.true_and]
theorem na_start_loop : ∀ (j k m : Nat) (t u : List Nat), okW t → okW u → k + j = 8 → t.length ≤ j → j < m → o_na_start_16 m (lN (pk5 t)) (lN (pk5 u)) (nI k) S = some (nI (k + cpl t u), S)
  | 0, k, m, t, u, ht, hu, hk, hj, hm => by
    obtain ⟨m, rfl, hm⟩ := fuel hm
    obtain rfl : t = [] := List.eq_nil_of_length_eq_zero (by omega)
    rw [o_na_start_16, show (8 : Int32) = nI 8 from rfl, if_neg (nI_nlt (by omega) (by omega))]
    rfl
  | j + 1, k, m, t, u, ht, hu, hk, hj, hm => by
    obtain ⟨m, rfl, hm⟩ := fuel hm
    have hB := ht.B
    have hB' := hu.B
    rw [o_na_start_16, show (8 : Int32) = nI 8 from rfl, if_pos (nI_lt (by omega) (by decide)), lN_and31 (by omega), lN_and31 (by omega)]
    cases t with
    | nil =>
      rw [if_pos (by rw [lg_cmp_eq]; rfl)]
      rfl
    | cons c t =>
      rw [List.length_cons] at hj
      rw [pk5_mod ht.hd.2, if_neg (by
        rw [lg_cmp_eq, show (0 : Int64) = lN 0 from rfl, lN_eqB (by have := ht.hd; omega) (by decide)]
        have := ht.hd
        omega)]
      cases u with
      | nil =>
        rw [if_neg (by
          rw [lg_cmp_eq, lN_eqB (by have := ht.hd; omega) (by decide)]
          have := ht.hd
          show ¬ c = 0 % 32
          omega)]
        rfl
      | cons d u =>
        rw [pk5_mod hu.hd.2, cpl]
        by_cases q : c = d
        · subst q
          rw [if_pos (by rw [lg_cmp_eq]), if_pos rfl]
          simp only [ltq]
          rw [lN_shr5 (by omega), lN_shr5 (by omega), pk5_div ht.hd.2, pk5_div ht.hd.2, nI_1, na_start_loop j (k + 1) m t u ht.tl hu.tl (by omega) (by omega) (by omega), Nat.add_assoc k 1, Nat.add_comm 1]
        · rw [if_neg (by
            rw [lg_cmp_eq, lN_eqB (by have := ht.hd; omega) (by have := hu.hd; omega)]
            exact q), if_neg q]
          rfl
theorem na_start (h : NW v cap n w S) {i j : Nat} (hi : i < n) (hj : j < n) : o_na_start v (nI i) (nI j) S = some (nI (cpl (w i) (w j)), S) := by
  have hw := (h.wd hi).ok
  unfold o_na_start
  rw [if_pos h.1, na_at h hi, bn_some, na_at h hj, bn_some]
  have := na_start_loop (S := S) 8 0 FU (w i) (w j) hw (h.wd hj).ok (by omega) hw.1 (by unfold FU; omega)
  rw [Nat.zero_add] at this
  exact this
/-- letters from the end -/
theorem rev_getD {t : List Nat} {k : Nat} (hk : k < t.length) : t.reverse.getD k 0 = t.getD (t.length - 1 - k) 0 := by
  rw [List.getD_eq_getElem?_getD, List.getD_eq_getElem?_getD, List.getElem?_reverse hk]
theorem cpl_drop : ∀ (k : Nat) (t u : List Nat), k ≤ cpl t u → cpl t u = k + cpl (t.drop k) (u.drop k)
  | 0, t, u, _ => by simp
  | k + 1, [], u, h => by simp [cpl] at h
  | k + 1, a :: t, [], h => by simp [cpl] at h
  | k + 1, a :: t, b :: u, h => by
    rw [cpl] at h ⊢
    by_cases q : a = b
    · rw [if_pos q] at h ⊢
      rw [cpl_drop k t u (by omega)]
      simp
      omega
    · rw [if_neg q] at h
      omega
theorem cpl_stop {t u : List Nat} (h : t = [] ∨ u = [] ∨ t.getD 0 0 ≠ u.getD 0 0) : cpl t u = 0 := by
  cases t with
  | nil => simp [cpl]
  | cons a t =>
    cases u with
    | nil => simp [cpl]
    | cons b u =>
      rw [cpl, if_neg]
      rcases h with h | h | h
      · cases h
      · cases h
      · exact h
theorem cpl_go {t u : List Nat} (ht : t ≠ []) (hu : u ≠ []) (h : t.getD 0 0 = u.getD 0 0) : 0 < cpl t u := by
  cases t with
  | nil => exact absurd rfl ht
  | cons a t =>
    cases u with
    | nil => exact absurd rfl hu
    | cons b u =>
      have h' : a = b := h
      rw [cpl, if_pos h']
      omega
theorem na_rhyme_loop (h : NW v cap n w S) {a b : Nat} (ha : a < n) (hb : b < n) : ∀ (j k m : Nat), k + j = csl (w a) (w b) → j < m → o_na_rhyme_22 m v (nI a) (nI b) (nI (w a).length - 1) (nI (w b).length - 1 - (nI (w a).length - 1)) (nI k) S = some (nI (csl (w a) (w b)), S) := by
  have hw := (h.wd ha).ok
  have hu := (h.wd hb).ok
  have hl1 := hw.1
  have hl2 := hu.1
  have hp1 : 0 < (w a).length := List.length_pos_iff.mpr (h.wd ha).1
  have hp2 : 0 < (w b).length := List.length_pos_iff.mpr (h.wd hb).1
  have hle := cpl_le (w a).reverse (w b).reverse
  rw [List.length_reverse, List.length_reverse] at hle
  have hlt : ∀ k, (nI (w a).length - 1 < nI k ↔ (w a).length ≤ k) ∨ 2 ^ 31 ≤ k := fun k => by
    by_cases hk : k < 2 ^ 31
    · left
      rw [show (1 : Int32) = nI 1 from rfl, nI_sub hp1, nI_ltI (by omega) hk]
      omega
    · right; omega
  have e1 : ∀ k, k < (w a).length → nI (w a).length - 1 - nI k = nI ((w a).length - 1 - k) := fun k hk => by
    rw [show (1 : Int32) = nI 1 from rfl, nI_sub hp1, nI_sub (by omega)]
  have e2 : ∀ k, nI (w a).length - 1 - nI k + (nI (w b).length - 1 - (nI (w a).length - 1)) = nI (w b).length - 1 - nI k := fun k => by
    rw [Int32.sub_eq_add_neg (nI (w a).length - 1) (nI k), Int32.add_assoc, Int32.add_comm (-nI k), ← Int32.add_assoc, Int32.add_comm (nI (w a).length - 1), Int32.sub_add_cancel, ← Int32.sub_eq_add_neg]
  have key : ∀ k, k ≤ csl (w a) (w b) → csl (w a) (w b) = k + cpl ((w a).reverse.drop k) ((w b).reverse.drop k) := fun k hk => cpl_drop k _ _ hk
  have step : ∀ k, k < (w a).length → k ≤ csl (w a) (w b) → ∃ y, o_na_letter v (nI b) (nI (w b).length - 1 - nI k) S = some (nI y, S) ∧ y ≤ 26 ∧ ((w a).getD ((w a).length - 1 - k) 0 = y ↔ k < csl (w a) (w b)) := by
    intro k hk hc
    by_cases q : k < (w b).length
    · refine ⟨(w b).getD ((w b).length - 1 - k) 0, ?_, hu.ge _, ?_⟩
      · rw [show (1 : Int32) = nI 1 from rfl, nI_sub hp2, nI_sub (by omega), na_letter h hb (by omega)]
      · rw [← rev_getD hk, ← rev_getD q]
        have e3 := getD_drop (w a).reverse k 0
        have e4 := getD_drop (w b).reverse k 0
        rw [Nat.add_zero] at e3 e4
        rw [← e3, ← e4]
        constructor
        · intro hq
          have := cpl_go (t := (w a).reverse.drop k) (u := (w b).reverse.drop k) (by
            intro hh
            have := congrArg List.length hh
            simp at this
            omega) (by
            intro hh
            have := congrArg List.length hh
            simp at this
            omega) hq
          have := key k hc
          omega
        · intro hq
          refine Decidable.byContradiction fun hne => ?_
          have := cpl_stop (t := (w a).reverse.drop k) (u := (w b).reverse.drop k) (Or.inr (Or.inr hne))
          have := key k hc
          omega
    · refine ⟨0, ?_, by omega, ?_⟩
      · rw [na_letterN (by
          have : k = (w b).length := by have := hle.2; unfold csl at hc; omega
          rw [this, show (1 : Int32) = nI 1 from rfl, nI_sub hp2]
          have hall : ∀ l, l < 9 → 0 < l → nI (l - 1) - nI l < 0 := by decide +kernel
          exact hall _ (by omega) hp2)]
      · have := hw.pos (k := (w a).length - 1 - k) (by omega)
        constructor
        · intro hq; omega
        · intro hq
          have := hle.2
          unfold csl at hq
          omega
  intro j
  induction j with
  | zero =>
    intro k m hk hm
    obtain ⟨m, rfl, hm⟩ := fuel hm
    rw [o_na_rhyme_22]
    unfold csl at hk
    by_cases q : (w a).length ≤ k
    · rw [if_pos (by rcases hlt k with hh | hh
                     · exact hh.mpr q
                     · omega)]
      unfold o_na_rhyme_58 csl
      rw [← hk, Nat.add_zero]
    · rw [if_neg (fun qq => by rcases hlt k with hh | hh
                               · exact q (hh.mp qq)
                               · omega), if_pos h.1, e1 k (by omega), na_letter h ha (by omega), bn_some, ← e1 k (by omega), e2]
      obtain ⟨y, hy1, hy2, hy3⟩ := step k (by omega) (by unfold csl; omega)
      rw [hy1, bn_some, if_neg (by
        rw [nI_eq (by have := hw.ge ((w a).length - 1 - k); omega) (by omega)]
        intro hh
        have := hy3.mp hh
        unfold csl at this
        omega)]
      unfold o_na_rhyme_58 csl
      rw [← hk, Nat.add_zero]
  | succ j ih =>
    intro k m hk hm
    obtain ⟨m, rfl, hm⟩ := fuel hm
    have hkl : k < (w a).length := by unfold csl at hk; omega
    rw [o_na_rhyme_22, if_neg (fun qq => by rcases hlt k with hh | hh
                                            · have := hh.mp qq
                                              omega
                                            · omega), if_pos h.1, e1 k hkl, na_letter h ha (by omega), bn_some, ← e1 k hkl, e2]
    obtain ⟨y, hy1, hy2, hy3⟩ := step k hkl (by omega)
    rw [hy1, bn_some, if_pos (by rw [hy3.mpr (by omega)])]
    simp only [ltq]
    rw [nI_1]
    exact ih (k + 1) m (by omega) (by omega)
theorem na_rhyme (h : NW v cap n w S) {i j : Nat} (hi : i < n) (hj : j < n) : o_na_rhyme v (nI i) (nI j) S = some (nI (csl (w i) (w j)), S) := by
  unfold o_na_rhyme
  simp only [ltq]
  rw [if_pos h.1, na_letters h hi, bn_some, na_letters h hj, bn_some]
  have := (cpl_le (w i).reverse (w j).reverse).1
  rw [List.length_reverse] at this
  have := (h.wd hi).ok.1
  exact na_rhyme_loop h hi hj (csl (w i) (w j)) 0 FU (by omega) (by unfold FU csl; omega)
end NAM
