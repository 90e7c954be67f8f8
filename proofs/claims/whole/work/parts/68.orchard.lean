/-! A new orchard on both sides. -/
section ORCH
variable {n p b k i s bz j a v d q : Nat} {T T' So Sm S S' So' Sm' : St} {P Q : Nat → Nat → Bool} {c c' : Nat → Nat} {W V : Nat → List Nat} {L : Int32 → Int32 → Int32} {Z : Nat → Int32}
theorem TD.frp (h : TD v T W V L S) (hf : Fr P S S') (hp : ∀ a k, ton a → a % 2 = v % 2 → P a k = false) : TD v T W V L S' := by
  have hv := h.1
  have tn : ∀ o, (o ≤ 8 ∨ (16 ≤ o ∧ o ≤ 24) ∨ (38 ≤ o ∧ o ≤ 42) ∨ (80 ≤ o ∧ o ≤ 88) ∨ (110 ≤ o ∧ o ≤ 118)) ∧ o % 2 = 0 → ∀ k, P (v + o) k = false := fun o ho k => hp (v + o) k (by unfold ton; omega) (by omega)
  have t0 : ∀ k, P v k = false := tn 0 (by omega)
  obtain ⟨f, hf1, hf2⟩ := h.pg
  obtain ⟨l, hl1, hl2⟩ := h.la
  refine ⟨hv, h.ap.fr hf (tn 80 (by omega)) (tn 110 (by omega)), h.pe.fr hf (tn 82 (by omega)) (tn 112 (by omega)), h.sr.fr hf (tn 84 (by omega)) (tn 114 (by omega)), ⟨f, hf1.fr hf (tn 86 (by omega)) (tn 116 (by omega)), hf2⟩, h.bn.fr hf (tn 88 (by omega)) (tn 118 (by omega)), h.sn.fr hf (tn 2 (by omega) 2) (tn 6 (by omega)), h.pn.fr hf (tn 4 (by omega) 2) (tn 8 (by omega)), fun c hc => ?_, fun r hr => ?_, fun a ha => ?_, ⟨?_, ?_, ?_⟩, ⟨l, hl1.fr hf (tn 16 (by omega) 5) (tn 20 (by omega)) (tn 24 (by omega)), hl2⟩⟩
  · rw [hf.i (tn 38 (by omega) c)]; exact h.nr hc
  · rw [hf.i (tn 40 (by omega) r)]; exact h.ro hr
  · rw [hf.i (tn 42 (by omega) a)]; exact h.tw ha
  · rw [hf.i (t0 14)]; exact h.so.1
  · rw [hf.i (t0 15)]; exact h.so.2.1
  · rw [hf.i (t0 16)]; exact h.so.2.2
/-- what the class's orchard touches: the draft d, the tape, the standing -/
def fOr (d : Nat) : Nat → Nat → Bool := fun a k => fLo d a k || a == 3 || (a == 1 && (decide (9 ≤ k) && decide (k ≤ 12))) || a == 200 || a == 230 || a == 111 || a == 116 || a == 70
theorem fOr_n {a k : Nat} (h : ¬ (dcl a = true ∧ a % 2 = d % 2)) (h3 : a ≠ 3) (h1 : ¬ (a = 1 ∧ 9 ≤ k ∧ k ≤ 12)) (h2 : a ≠ 200 ∧ a ≠ 230 ∧ a ≠ 111 ∧ a ≠ 116 ∧ a ≠ 70) : fOr d a k = false := by
  have h4 : fLo d a k = false := by
    unfold fLo
    rw [fCo_n (Or.inl h3), Bool.false_or, Bool.and_eq_false_iff]
    by_cases q : dcl a = true
    · exact Or.inr (beq_eq_false_iff_ne.mpr fun e => h ⟨q, e⟩)
    · exact Or.inl (Bool.eq_false_iff.mpr q)
  unfold fOr
  rw [h4]
  simp
  omega
theorem dcl_n {a : Nat} (h : ¬ (20 ≤ a ∧ a ≤ 63) ∧ ¬ (100 ≤ a ∧ a ≤ 109) ∧ ¬ (130 ≤ a ∧ a ≤ 139)) : ¬ dcl a = true := by
  unfold dcl
  simp
  omega
theorem fOr_L (h : Fr (fLo d) S S') : Fr (fOr d) S S' := h.mo fun a k q => by
  unfold fOr at q
  simp only [Bool.or_eq_false_iff] at q
  exact q.1.1.1.1.1.1.1
/-- the failed reading leaves the orchard -/
theorem Told.frp (h : Told T W V L v So Sm) (hv : d = 41 - v) (fo : Fr (fOr d) So So') (fm : Fr Q Sm Sm') (hQ : ∀ a k, oc a k = true → Q a k = false) (h9 : rQ So' 1 9 = some v) : Told T W V L v So' Sm' := by
  obtain ⟨h1, h2, h3, h4, h5, h6⟩ := h
  have h20 := h6.1
  refine ⟨h1, Fr.tr h2 (fm.mo fun a k q => hQ a k ?_), h3, h4, h9, h6.frp fo fun a k q1 q2 => fOr_n (by omega) ?_ ?_ ?_⟩
  · unfold PM at q
    simpa using q
  all_goals (unfold ton at q1; omega)
theorem fBm_oc {a k : Nat} (h : oc a k = true) : fBm a k = false := by
  unfold fBm fLm fCm
  rw [h]
  unfold oc at h
  simp at h ⊢
  omega
end ORCH
