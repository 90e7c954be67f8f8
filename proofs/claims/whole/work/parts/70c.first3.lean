/-! The first states: what they hold. -/
section FIRST
variable {d : Nat} {T : St} {W V : Nat → List Nat}
theorem so3_c : (∀ e ∈ iniO, rI SO3 e.1 e.2.1 = e.2.2) ∧ (∀ e ∈ iniD 20, rI SO3 e.1 e.2.1 = e.2.2) ∧ (∀ e ∈ iniD 21, rI SO3 e.1 e.2.1 = e.2.2) ∧ (∀ e ∈ iniQ, rQ SO3 e.1 e.2.1 = some e.2.2) ∧ ∀ i, i < 16 → rQ SO3 19 i = some (206 + i) := by
  obtain ⟨S, h1, h3⟩ := ends_of ini_O
  have h4 : SO3 = S := by unfold SO3; rw [h1]
  simp only [Bool.and_eq_true] at h3
  obtain ⟨a1, a2, a3, a4, a5⟩ := h3
  unfold chkC at a1 a2 a3
  unfold chkQ at a4
  rw [List.all_eq_true] at a1 a2 a3 a4 a5
  rw [h4]
  exact ⟨fun e he => beq_iff_eq.mp (a1 e he), fun e he => beq_iff_eq.mp (a2 e he), fun e he => beq_iff_eq.mp (a3 e he), fun e he => beq_iff_eq.mp (a4 e he), fun i hi => beq_iff_eq.mp (a5 i (List.mem_range.mpr hi))⟩
theorem so3_t : ∀ k, k < 1024 → rI SO3 11 k = nI (thN k) := by
  obtain ⟨S, h1, h3⟩ := ends_of ini_T
  have h4 : SO3 = S := by unfold SO3; rw [h1]
  rw [List.all_eq_true] at h3
  intro k hk
  rw [h4]
  have := beq_iff_eq.mp (h3 k (List.mem_range.mpr hk))
  refine this.trans ?_
  show (if 11 = 11 ∧ k < 1024 then nI (thN k) else S00.1 11 k) = nI (thN k)
  rw [if_pos ⟨rfl, hk⟩]
theorem sm0_c : (∀ e ∈ iniM, rI SM0 e.1 e.2.1 = e.2.2) ∧ (∀ k, k < 6 → rI SM0 502 k = 0) ∧ (∀ k, k < 15 → rI SM0 553 k = 0) ∧ ∀ k, k < 4 → rI SM0 557 k = 0 := by
  obtain ⟨S, h1, h3⟩ := ends_of ini_M
  have h4 : SM0 = S := by unfold SM0; rw [h1]
  simp only [Bool.and_eq_true] at h3
  obtain ⟨a1, a2, a3, a4⟩ := h3
  unfold chkC at a1
  rw [List.all_eq_true] at a1 a2 a3 a4
  rw [h4]
  exact ⟨fun e he => beq_iff_eq.mp (a1 e he), fun k hk => beq_iff_eq.mp (a2 k (List.mem_range.mpr hk)), fun k hk => beq_iff_eq.mp (a3 k (List.mem_range.mpr hk)), fun k hk => beq_iff_eq.mp (a4 k (List.mem_range.mpr hk))⟩
/-- an orchard with nothing in it -/
theorem dtb_S {S : St} (hd : d = 20 ∨ d = 21) (h : ∀ e ∈ iniD d, rI S e.1 e.2.1 = e.2.2) : DTB d (fun _ => 0) T W V S ∧ rI S d 12 = 0 ∧ rI S d 13 = 0 := by
  have g : ∀ a k x, (a, k, x) ∈ iniD d → rI S a k = x := fun a k x he => h (a, k, x) he
  have em : ∀ {a : Nat}, a < 0 → False := fun h => absurd h (Nat.not_lt_zero _)
  have kk : KO.1 (d + 80) = (0, 7) ∧ KO.1 (d + 80 + 30) = (1, 10 * 7) ∧ KO.1 (d + 82) = (0, 7) ∧ KO.1 (d + 82 + 30) = (1, 5 * 3) ∧ KO.1 (d + 84) = (0, 7) ∧ KO.1 (d + 84 + 30) = (1, 6 * 2) ∧ KO.1 (d + 86) = (0, 7) ∧ KO.1 (d + 86 + 30) = (1, 4 * 11) ∧ KO.1 (d + 88) = (0, 7) ∧ KO.1 (d + 88 + 30) = (1, 4 * 2) ∧ KO.1 (d + 2) = (0, 2) ∧ KO.1 (d + 2 + 4) = (4, 16) ∧ KO.1 (d + 2 + 8) = (1, 9) ∧ KO.1 (d + 4) = (0, 2) ∧ KO.1 (d + 4 + 4) = (4, 5) ∧ KO.1 (d + 4 + 8) = (1, 9) := by
    rcases hd with rfl | rfl <;> exact ⟨rfl, rfl, rfl, rfl, rfl, rfl, rfl, rfl, rfl, rfl, rfl, rfl, rfl, rfl, rfl, rfl⟩
  obtain ⟨k1, k2, k3, k4, k5, k6, k7, k8, k9, k10, k11, k12, k13, k14, k15, k16⟩ := kk
  refine ⟨⟨⟨k1, k2, g _ _ 10 (by unfold iniD; simp), g _ _ 7 (by unfold iniD; simp), g _ _ 0 (by unfold iniD; simp), Nat.zero_le _, by decide, fun i j hi => absurd hi (Nat.not_lt_zero _)⟩, ⟨k3, k4, g _ _ 5 (by unfold iniD; simp), g _ _ 3 (by unfold iniD; simp), g _ _ 0 (by unfold iniD; simp), Nat.zero_le _, by decide, fun i j hi => absurd hi (Nat.not_lt_zero _)⟩, ⟨k5, k6, g _ _ 6 (by unfold iniD; simp), g _ _ 2 (by unfold iniD; simp), g _ _ 0 (by unfold iniD; simp), Nat.zero_le _, by decide, fun i j hi => absurd hi (Nat.not_lt_zero _)⟩, ⟨fun _ _ => 0, ⟨k7, k8, g _ _ 4 (by unfold iniD; simp), g _ _ 11 (by unfold iniD; simp), g _ _ 0 (by unfold iniD; simp), Nat.zero_le _, by decide, fun i j hi => absurd hi (Nat.not_lt_zero _)⟩, fun q hq => absurd hq (Nat.not_lt_zero _)⟩, ⟨k9, k10, g _ _ 4 (by unfold iniD; simp), g _ _ 2 (by unfold iniD; simp), g _ _ 0 (by unfold iniD; simp), Nat.zero_le _, by decide, fun i j hi => absurd hi (Nat.not_lt_zero _)⟩, ⟨k11, k12, k13, g _ _ 0 (by unfold iniD; simp), Nat.zero_le _, by decide, fun i hi => absurd hi (Nat.not_lt_zero _)⟩, ⟨k14, k15, k16, g _ _ 0 (by unfold iniD; simp), Nat.zero_le _, by decide, fun i hi => absurd hi (Nat.not_lt_zero _)⟩⟩, g _ _ 0 (by unfold iniD; simp), g _ _ 0 (by unfold iniD; simp)⟩
end FIRST
