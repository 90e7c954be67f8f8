/-! What Search()'s loop does. -/
def ovr (S : St) (t : Nat) : St := (fun b k => if b = 11 ∧ k < t then nI (thN k) else S.1 b k, S.2)
theorem ovr_thr (S : St) : ovr S 1024 = thrS S := rfl
theorem ovr_one {S : St} (h : S.1 11 0 = 0) : ovr S 1 = S := by
  refine Prod.ext ?_ rfl
  funext b k
  simp only [ovr]
  by_cases hb : b = 11 ∧ k < 1
  · obtain ⟨rfl, hk⟩ := hb
    obtain rfl : k = 0 := by omega
    rw [if_pos ⟨rfl, by omega⟩, h]
    rfl
  · rw [if_neg hb]
set_option maxRecDepth 100000 in
theorem th_add_all : ((List.range 10).all fun a => (List.range (2 ^ a)).all fun j => thN (j + 2 ^ a) == thN j + 3 ^ a) = true := by decide +kernel
theorem th_add {a j : Nat} (ha : a < 10) (hj : j < 2 ^ a) : thN (j + 2 ^ a) = thN j + 3 ^ a := by
  have h := List.all_eq_true.mp th_add_all a (List.mem_range.mpr ha)
  have h1 := List.all_eq_true.mp h j (List.mem_range.mpr hj)
  simpa using h1
theorem th_sh : ∀ a, a < 10 → ((1 : Int32) <<< (nI a &&& 31)) = nI (2 ^ a) ∧ nI (3 ^ a) * (3 : Int32) = nI (3 ^ (a + 1)) ∧ 2 ^ a ≤ 512 := by decide +kernel
theorem ovr_wr {S : St} {a j : Nat} (ha : a < 10) (hj : j < 2 ^ a) : wI (ovr S (2 ^ a + j)) 11 (j + 2 ^ a) (nI (thN j) + nI (3 ^ a)) = ovr S (2 ^ a + (j + 1)) := by
  refine Prod.ext ?_ rfl
  funext b k
  simp only [wI, up2, ovr]
  by_cases hb : b = 11
  · subst hb
    by_cases hk : k = j + 2 ^ a
    · subst hk
      rw [if_pos rfl, if_pos rfl, if_pos ⟨rfl, by omega⟩, th_add ha hj, nI_add]
    · simp only [if_pos, if_neg hk, true_and]
      by_cases h1 : k < 2 ^ a + j
      · rw [if_pos h1, if_pos (by omega)]
      · rw [if_neg h1, if_neg (by omega)]
  · simp [hb]
theorem se_in {a : Nat} (ha : a < 10) (k84 : Int32 → Int32 → St → Re Unit) (S : St) : ∀ (i j n : Nat), j + i = 2 ^ a → i < n → i_se_init_92 k84 n (nI (3 ^ a)) (nI a) (nI j) (ovr S (2 ^ a + j)) = k84 (nI (3 ^ (a + 1))) (nI (a + 1)) (ovr S (2 ^ (a + 1)))
  | 0, j, n, hj, hn => by
    obtain ⟨m, rfl⟩ : ∃ m, n = m + 1 := ⟨n - 1, by omega⟩
    obtain ⟨e1, e2, e3⟩ := th_sh a ha
    rw [i_se_init_92, e1, if_neg (fun q => by have := (nI_ltI (by omega) (by omega)).mp q; omega)]
    unfold i_se_init_136 lt'
    have e4 : 2 ^ a + j = 2 ^ (a + 1) := by rw [Nat.pow_succ]; omega
    rw [e2, nI_1, e4]
  | i + 1, j, n, hj, hn => by
    obtain ⟨m, rfl⟩ : ∃ m, n = m + 1 := ⟨n - 1, by omega⟩
    obtain ⟨e1, e2, e3⟩ := th_sh a ha
    have hr : rI (ovr S (2 ^ a + j)) 11 j = nI (thN j) := by
      show (if 11 = 11 ∧ j < 2 ^ a + j then nI (thN j) else S.1 11 j) = _
      rw [if_pos ⟨rfl, by omega⟩]
    rw [i_se_init_92, e1, if_pos ((nI_ltI (by omega) (by omega)).mpr (by omega)), nI_add, show (1024 : Int32) = nI 1024 from rfl, if_pos ((nI_ltI (by omega) (by omega)).mpr (by omega)), nI_clamp (by omega), nI_clamp (by omega), if_neg (by rintro (q | q); exact nI_pos (by omega) q; omega), if_neg (by rintro (q | q); exact nI_pos (by omega) q; omega)]
    unfold lt'
    rw [hr, ovr_wr ha (by omega), nI_1]
    exact se_in ha k84 S i (j + 1) m (by omega) (by omega)
theorem se_out (S : St) : ∀ (i a n : Nat), a + i = 10 → i < n → i_se_init_84 n (nI (3 ^ a)) (nI a) (ovr S (2 ^ a)) = some ((), ovr S 1024)
  | 0, a, n, ha, hn => by
    obtain ⟨m, rfl⟩ : ∃ m, n = m + 1 := ⟨n - 1, by omega⟩
    obtain rfl : a = 10 := by omega
    rw [i_se_init_84, if_neg (by decide)]
    rfl
  | i + 1, a, n, ha, hn => by
    obtain ⟨m, rfl⟩ : ∃ m, n = m + 1 := ⟨n - 1, by omega⟩
    have h1 : a < 10 := by omega
    obtain ⟨e1, e2, e3⟩ := th_sh a h1
    rw [i_se_init_84, show (10 : Int32) = nI 10 from rfl, if_pos ((nI_ltI (by omega) (by omega)).mpr h1)]
    have := se_in h1 (i_se_init_84 m) S (2 ^ a) 0 FU (by omega) (by have : FU = 1000000 := rfl; omega)
    rw [Nat.add_zero] at this
    rw [show (0 : Int32) = nI 0 from rfl, this]
    exact se_out S i (a + 1) m (by omega) (by omega)
/-- SEARCH's LOOP -/
theorem se_init {S : St} (h : S.1 11 0 = 0) : i_se_init_80 S = some ((), thrS S) := by
  have h1 := se_out S 10 0 FU rfl (by have : FU = 1000000 := rfl; omega)
  rw [show (2 : Nat) ^ 0 = 1 from rfl, ovr_one h] at h1
  unfold i_se_init_80
  exact h1
