/-! A new orchard on both sides: the op. -/
section ORCH2
variable {n p b k i s s' bz j a v d q : Nat} {T T' So Sm S S' So' Sm' : St} {P Q : Nat → Nat → Bool} {c c' : Nat → Nat} {W V : Nat → List Nat} {L : Int32 → Int32 → Int32} {Z : Nat → Int32}
/-- the reference's marks, gone -/
theorem mk_60 : ∀ (j i m : Nat) (S : St), i + j = 4 → j < m → ∃ S', m_orchard_60 m (nI i) S = some (0, S') ∧ (∀ q, i ≤ q → q < 4 → rI S' 557 q = 0) ∧ (∀ q, q < i → rI S' 557 q = rI S 557 q) ∧ Fr (fAr 557) S S'
  | 0, i, m, S, hi, hm => by
    obtain ⟨m, rfl, hm⟩ := fuel hm
    rw [m_orchard_60, if_neg (show ¬ nI i < 4 from nI_nlt (b := 4) (by omega) (by omega))]
    exact ⟨S, rfl, fun q h1 h2 => absurd h1 (by omega), fun q _ => rfl, Fr.rf⟩
  | j + 1, i, m, S, hi, hm => by
    obtain ⟨m, rfl, hm⟩ := fuel hm
    have fw : Fr (fAr 557) S (wI S 557 i (vp_nar .boolean 0)) := Fr.wI (by unfold fAr; simp)
    obtain ⟨S', g1, g2, g3, g4⟩ := mk_60 j (i + 1) m (wI S 557 i (vp_nar .boolean 0)) (by omega) (by omega)
    rw [m_orchard_60, if_pos (show nI i < 4 from nI_lt (b := 4) (by omega) (by decide)), if_neg (nI_in (show i < 4 by omega) (by decide)), nI_clamp (by omega), ltq (wI S 557 _ _), nI_1, ltq, g1]
    refine ⟨S', rfl, fun q h1 h2 => ?_, fun q hq => (g3 q (by omega)).trans (rI_wI_k (by omega)), fw.tr g4⟩
    by_cases e : q = i
    · rw [g3 q (by omega), e, rI_wI]
      decide
    · exact g2 q (by omega) h2
/-- a refused orchard: all stays -/
theorem or_bad (hI : Told T W V L v So Sm) (hN : Now T Z So Sm) (hS : Slt T W 0 So Sm) (hU : Und T n So Sm) (hM : Mks T W So Sm) (hR : Rst v So) (hd : d = 41 - v) (fo : Fr (fLo d) So So') (fm : Fr fBm Sm Sm') (hD : Dft d So') (h1 : rI Sm' 500 1 = 0) : Inv (wI So' 3 1 0) Sm' := by
  have hv := hI.2.2.2.2.2.1
  have f1 : Fr (fOr d) So (wI So' 3 1 0) := (fOr_L fo).tr (Fr.wI (by unfold fOr; simp))
  have h19 : rQ (wI So' 3 1 0) 1 9 = some v := (fo.q (by unfold fLo; rw [fCo_n (by omega)]; rfl)).trans hI.2.2.2.2.1
  have nf : ∀ a k, fOr d a k = false → fOr d a k = false := fun _ _ h => h
  have o : ∀ {a k : Nat}, (¬ (20 ≤ a ∧ a ≤ 63) ∧ ¬ (100 ≤ a ∧ a ≤ 109) ∧ ¬ (130 ≤ a ∧ a ≤ 139)) → a ≠ 3 → fLo d a k = false := fun h h3 => by
    unfold fLo
    rw [fCo_n (Or.inl h3), Bool.false_or, Bool.and_eq_false_iff]
    exact Or.inl (Bool.eq_false_iff.mpr (dcl_n h))
  -- the frame without the standing
  have f2 : Fr (fun a k => fLo d a k || (a == 3 && k == 1)) So (wI So' 3 1 0) := (fo.mo fun a k q => (Bool.or_eq_false_iff.mp q).1).tr (Fr.wI (by simp))
  have o2 : ∀ {a k : Nat}, (¬ (20 ≤ a ∧ a ≤ 63) ∧ ¬ (100 ≤ a ∧ a ≤ 109) ∧ ¬ (130 ≤ a ∧ a ≤ 139)) → a ≠ 3 → (fLo d a k || (a == 3 && k == 1)) = false := fun h h3 => by
    rw [o h h3, beq_eq_false_iff_ne.mpr h3]
    rfl
  have m2 : ∀ {a k : Nat}, 543 ≤ a → fBm a k = false := fun h => by
    unfold fBm fLm fCm
    simp
    omega
  refine ⟨T, W, V, L, v, Z, n, hI.frp hd f1 fm (fun a k h => fBm_oc h) h19, hN.fr f2 fm (fun k => ⟨o2 (by decide) (by decide), o2 (by decide) (by decide)⟩) (fun k => m2 (by decide)), hS.fr f2 fm (fun k => ⟨o2 (by decide) (by decide), o2 (by decide) (by decide), o2 (by decide) (by decide), o2 (by decide) (by decide), o2 (by decide) (by decide)⟩) (fun a k q => m2 q.1), hU.fr f2 fm (fun a k q => o2 (by omega) (by omega)) (by rfl) (fun k => m2 (by decide)), hM.fr f2 fm (o2 (by decide) (by decide)) (fun a k q => o2 (by unfold mko at q; omega) (by unfold mko at q; omega)) (fun a k q => m2 (by omega)), ⟨0, by decide, rI_wI, h1, fun k hk => absurd hk (Nat.not_lt_zero _)⟩, ?_⟩
  obtain ⟨r1, r2, ⟨m, f, r3⟩, r4, r5⟩ := hR
  refine ⟨(f2.q (o2 (by decide) (by decide))).trans r1, ?_, ⟨m, f, r3.fr f2 (fun k => o2 (by decide) (by decide)) (fun k => o2 (by decide) (by decide))⟩, fun k hk => (f2.i (o2 (by decide) (by decide))).trans (r4 k hk), ?_⟩
  · rw [← hd]
    exact hD.fr2 (by omega) (Fr.wI (by simp) : Fr (fun a k => a == 3 && k == 1) So' _) fun a k q => by
      have : a ≠ 3 := by omega
      simp [this]
  · rw [f2.q (o2 (by decide) (by decide)), f2.q (o2 (by decide) (by decide))]
    exact r5
end ORCH2
