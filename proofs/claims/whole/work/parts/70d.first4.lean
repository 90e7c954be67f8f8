/-! The first states: both orchards settled. -/
section FIRST4
variable {d : Nat} {S S' M : St}
theorem iniD_p {e : Nat × Nat × Int32} (he : e ∈ iniD d) : e.1 % 2 = d % 2 := by
  unfold iniD at he
  simp only [List.mem_cons, List.not_mem_nil, or_false] at he
  rcases he with rfl | rfl | rfl | rfl | rfl | rfl | rfl | rfl | rfl | rfl | rfl | rfl | rfl | rfl | rfl | rfl | rfl | rfl | rfl <;> (show _ % 2 = _; omega)
theorem fLd_p {a k : Nat} (h : a % 2 ≠ d % 2) : fLd d a k = false := by
  unfold fLd
  rw [Bool.and_eq_false_iff]
  exact Or.inr (beq_eq_false_iff_ne.mpr h)
/-- an empty orchard settled -/
theorem set_0 (hd : d = 20 ∨ d = 21) (h : ∀ e ∈ iniD d, rI S e.1 e.2.1 = e.2.2) (T : St) (W V : Nat → List Nat) : ∃ S', o_to_settle d S = some ((), S') ∧ DTB d (fun _ => 0) T W V S' ∧ SET d (fun _ => 0) T W dfN dfV S' ∧ Fr (fLd d) S S' := by
  obtain ⟨h1, h2, h3⟩ := dtb_S (T := T) (W := W) (V := V) hd h
  exact se_ok hd h1 (Or.inl ⟨h2, rfl⟩) (Or.inl ⟨h3, rfl⟩) fun x y => ⟨_, dfN_rp _⟩
/-- the reference's empty orchard -/
theorem ct_0 (h : ∀ k, k < 6 → rI M 502 k = 0) {k : Nat} (hk : k < 6) : ct M k = 0 := by
  unfold ct
  rw [h k hk]
  rfl
theorem wf_0 (h : ∀ k, k < 6 → rI M 502 k = 0) (W V : Nat → List Nat) : WF M W V := by
  have k0 := ct_0 h (k := 0) (by decide)
  have k1 := ct_0 h (k := 1) (by decide)
  have k2 := ct_0 h (k := 2) (by decide)
  have k3 := ct_0 h (k := 3) (by decide)
  have k4 := ct_0 h (k := 4) (by decide)
  have k5 := ct_0 h (k := 5) (by decide)
  refine ⟨fun k hk => by rw [ct_0 h hk, h k hk]; rfl, by rw [k0, k1, k2, k3, k4, k5]; decide, ?_, ?_, ?_, ?_, ?_, ?_, ?_, ?_, ?_⟩
  · rw [k0]; exact fun a ha => absurd ha (Nat.not_lt_zero _)
  · rw [k0]; exact fun a ha => absurd ha (Nat.not_lt_zero _)
  · rw [k2]; exact fun a ha => absurd ha (Nat.not_lt_zero _)
  · rw [k3]; exact fun a ha => absurd ha (Nat.not_lt_zero _)
  · rw [k4]; exact fun a ha => absurd ha (Nat.not_lt_zero _)
  · rw [k5]; exact fun a ha => absurd ha (Nat.not_lt_zero _)
  · rw [k1]; exact fun a ha => absurd ha (Nat.not_lt_zero _)
  · rw [k2]; exact fun a ha => absurd ha (Nat.not_lt_zero _)
  · rw [k1]; exact fun a b ha => absurd ha (Nat.not_lt_zero _)
theorem lawv_0 (h1 : rI M 521 1 = 0) (h2 : rI M 522 1 = 0) : LawV M (VL dfV) := Or.inl ⟨h2.trans h1.symm, fun k a hk => dfV_L hk a⟩
/-- the class's empty orchard is the reference's -/
theorem td_0 (hd : d = 20 ∨ d = 21) (h : ∀ k, k < 6 → rI M 502 k = 0) {W V : Nat → List Nat} (hT : DTB d (fun _ => 0) M W V S) (hS : SET d (fun _ => 0) M W dfN dfV S) : TD d M W V (VL dfV) S := by
  have k0 := ct_0 h (k := 0) (by decide)
  have k1 := ct_0 h (k := 1) (by decide)
  have k2 := ct_0 h (k := 2) (by decide)
  have k3 := ct_0 h (k := 3) (by decide)
  have k4 := ct_0 h (k := 4) (by decide)
  have k5 := ct_0 h (k := 5) (by decide)
  obtain ⟨t1, t2, t3, ⟨f, t4, t4'⟩, t5, t6, t7⟩ := hT
  obtain ⟨s1, s2, s3, s4, s5⟩ := hS
  refine ⟨hd, ?_, ?_, ?_, ⟨f, ?_, ?_⟩, ?_, ?_, ?_, ?_, ?_, ?_, ⟨?_, ?_, ?_⟩, dfV, s1, fun k dd hk => ⟨_, dfV_rp _, (VL_of (dfV_rp _)).symm⟩⟩
  · rw [k0]; exact t1
  · rw [k2]; exact t2
  · rw [k3]; exact t3
  · rw [k4]; exact t4
  · rw [k4]; exact fun q hq => absurd hq (Nat.not_lt_zero _)
  · rw [k5]; exact t5
  · rw [k1]; exact t6
  · rw [k2]; exact t7
  · rw [k1]; exact fun x hx => absurd hx (Nat.not_lt_zero _)
  · rw [k0]; exact fun r hr => s3 r hr
  · rw [k0]; exact fun a ha => s4 a ha
  · unfold srt; rw [k0]; exact s5 1 (Or.inl rfl)
  · unfold srt; rw [k0]; exact s5 2 (Or.inr (Or.inl rfl))
  · unfold srt; rw [k0]; exact s5 3 (Or.inr (Or.inr rfl))
end FIRST4
