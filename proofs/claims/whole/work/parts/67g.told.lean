/-! A new orchard, told on both sides. -/
section NEWT
variable {n p b k i d s s' bz j mo mm a v x : Nat} {T T' So Sm S S' So' Sm' : St} {P Q : Nat → Nat → Bool} {c c' : Nat → Nat} {W V : Nat → List Nat} {NB : Nat → Nat → Bool} {f : Nat → Nat → Int32} {l lN' lV' : List (Nat × Int32)}
theorem CM0 {F X : Nat → Int32} (h1 : X 1 = F 0) (h2 : X 2 = F 1) (h3 : X 3 = F 2) (h4 : X 4 = F 3) : CM 0 F X := fun k hk hz => by
  have hr : 36 ≤ k ∧ k < 40 := by
    by_cases q : 36 ≤ k ∧ k < 40
    · exact q
    · exact absurd (show fcB 0 k = 0 by unfold fcB; rw [if_neg (by decide), if_neg q]) hz
  rcases (show k = 36 ∨ k = 37 ∨ k = 38 ∨ k = 39 by omega) with rfl | rfl | rfl | rfl
  · exact h1
  · exact h2
  · exact h3
  · exact h4
theorem CM1 {F X : Nat → Int32} (h1 : X 5 = F 0) (h2 : X 6 = F 1) : CM 1 F X := fun k hk hz => by
  have hr : 40 ≤ k := by
    by_cases q : 40 ≤ k
    · exact q
    · exact absurd (show fcB 1 k = 0 by unfold fcB; rw [if_pos rfl, if_neg q]) hz
  rcases (show k = 40 ∨ k = 41 by omega) with rfl | rfl
  · exact h1
  · exact h2
theorem clp_b (x : Int32) : ∃ j, j < 1000 ∧ clp x = nI j := by
  unfold clp
  by_cases q1 : x < 0
  · rw [if_pos q1]
    exact ⟨0, by decide, rfl⟩
  · rw [if_neg q1]
    by_cases q2 : (999 : Int32) < x
    · rw [if_pos q2]
      exact ⟨999, by decide, rfl⟩
    · rw [if_neg q2]
      rw [Int32.lt_iff_toInt_lt] at q1 q2
      have e0 : (0 : Int32).toInt = 0 := by decide
      have e9 : (999 : Int32).toInt = 999 := by decide
      rw [e0] at q1
      rw [e9] at q2
      refine ⟨x.toInt.toNat, by omega, ?_⟩
      apply Int32.toInt_inj.mp
      unfold nI
      rw [Int32.toInt_ofNat_of_lt (by omega)]
      omega
/-- what the law of worth answers -/
def vF (k d : Int32) : Nat → Int32 := fun i => if i = 0 then k else if i = 1 then d else if i = 2 then 0 else 0
def VL (l : List (Nat × Int32)) (k d : Int32) : Int32 := match rp (vF k d) l [] with
  | some [r] => clp r
  | _ => 0
theorem VL_of {r : Int32} {k d : Int32} (h : rp (vF k d) l [] = some [r]) : VL l k d = clp r := by
  unfold VL
  rw [h]
theorem VL_b (l : List (Nat × Int32)) (k d : Int32) : ∃ j, j < 1000 ∧ VL l k d = nI j := by
  unfold VL
  split
  · exact clp_b _
  · exact ⟨0, by decide, rfl⟩
theorem NBl_of {W : Nat → List Nat} {x y : Nat} {r : Int32} (h : rp (nF W x y) l [] = some [r]) : NBl W l x y = decide (r ≠ 0) := by
  unfold NBl
  rw [h]
theorem dfV_rp (F : Nat → Int32) : rp F dfV [] = some [F 0 * bI (decide (bI (decide (F 1 < 0)) = 0))] := by
  show some [jn 14 (if tokFL.getD 40 0 < 0 then 0 else F (tokFL.getD 40 0).toNatClampNeg) (bI (decide (jn 10 (if tokFL.getD 41 0 < 0 then 0 else F (tokFL.getD 41 0).toNatClampNeg) (if tokFL.getD 2 0 < 0 then 0 else F (tokFL.getD 2 0).toNatClampNeg) = 0)))] = _
  rw [show tokFL.getD 40 0 = 0 by decide, show tokFL.getD 41 0 = 1 by decide, show tokFL.getD 2 0 = -1 by decide, if_neg (by decide), if_neg (by decide), if_pos (by decide), c0, c1]
  unfold jn
  simp
theorem dfV_L {k : Nat} (hk : k < 100) (dd : Int32) : VL dfV (nI k) dd = if dd < 0 then 0 else nI k := by
  rw [VL_of (dfV_rp _)]
  show clp (nI k * bI (decide (bI (decide (dd < 0)) = 0))) = _
  by_cases q : dd < 0
  · rw [decide_eq_true q, if_pos q, show bI (decide (bI true = 0)) = nI 0 by decide, nI_mul]
    rfl
  · rw [decide_eq_false q, if_neg q, show bI (decide (bI false = 0)) = nI 1 by decide, nI_mul, Nat.mul_one]
    unfold clp
    rw [if_neg (nI_pos (by omega)), if_neg (show ¬ (999 : Int32) < nI k from nI_nlt (a := 999) (by omega) (by decide))]
/-- a law of the draft: as a formula, and where the reference has it then -/
theorem law_new {line cd : Nat} (hl : line < 2) (h : LWD d line cd So Sm) (hcd : cd ≤ 2000) : (rI So d (12 + line) = 0 ∧ ∀ S, LYC T W V c Sm S → rI S 522 line = rI S 521 line) ∨ (¬ rI So d (12 + line) = 0 ∧ ∃ l cs, FS (d + 14 + 2 * line) l So ∧ LW line l cs ∧ ∀ S, LYC T W V c Sm S → rI S 522 line ≠ rI S 521 line ∧ ∃ fr, rI S 521 line = nI fr ∧ rI S 522 line = nI (fr + cs.length) ∧ fr + cs.length ≤ 1000 ∧ ∀ i, i < cs.length → rI S 523 (fr + i) = nI (cs.getD i 0) ∧ cs.getD i 0 < 20000) := by
  rcases h with ⟨h1, h2, h3⟩ | ⟨h1, fr, l, cs, h2, h3, h4, h5, h6, h7, h8, h9⟩
  · refine Or.inl ⟨h1, fun S hS => ?_⟩
    rw [(hS.2.2.2 line hl).1, (hS.2.2.2 line hl).2, h2, h3]
  · refine Or.inr ⟨by rw [h1]; decide, l, cs, h2, h6, fun S hS => ?_⟩
    have hp : 0 < cs.length := List.length_pos_iff.mpr h7
    have e1 : rI S 521 line = nI (fr - 1000) := by
      rw [(hS.2.2.2 line hl).1, h3, show (1000 : Int32) = nI 1000 from rfl, nI_sub h8]
    have e2 : rI S 522 line = nI (fr - 1000 + cs.length) := by
      rw [(hS.2.2.2 line hl).2, h4, show (1000 : Int32) = nI 1000 from rfl, nI_sub (by omega), show fr + cs.length - 1000 = fr - 1000 + cs.length by omega]
    refine ⟨?_, fr - 1000, e1, e2, by omega, fun i hi => ?_⟩
    · rw [e1, e2]
      exact nI_ne (by omega) (by omega) (by omega)
    · rw [hS.2.2.1 _ (by omega), show 1000 + (fr - 1000 + i) = fr + i by omega]
      exact h5 i hi
/-- the reference's new orchard -/
theorem wf_new (hD : DRW c T W V) (hC : LYC T W V c Sm Sm') (hP : ∀ x, x < c 1 → ∀ y, y < c 1 → CPD W NB x y Sm') : WF Sm' W V ∧ ∀ k, k < 6 → ct Sm' k = c k := by
  obtain ⟨h1, h2, h3, h4, h5, h6, h7, h8, h9, h10⟩ := hD
  have e : ∀ a k, oc a k = true → a ≤ 520 → a ≠ 503 → a ≠ 504 → rI Sm' a k = rI T a k := hC.1
  have oc2 : ∀ k, k < 6 → oc 502 k = true := fun k hk => oc502 hk
  have hct : ∀ k, k < 6 → ct Sm' k = c k := fun k hk => by
    unfold ct
    rw [e 502 k (oc2 k hk) (by decide) (by decide) (by decide), h1 k hk, nI_clamp]
    rcases (show k = 0 ∨ k = 1 ∨ k = 2 ∨ k = 3 ∨ k = 4 ∨ k = 5 by omega) with rfl | rfl | rfl | rfl | rfl | rfl <;> omega
  have k0 := hct 0 (by decide)
  have k1 := hct 1 (by decide)
  have k2 := hct 2 (by decide)
  have k3 := hct 3 (by decide)
  have k4 := hct 4 (by decide)
  have k5 := hct 5 (by decide)
  have oA : ∀ a k, 505 ≤ a → a ≤ 511 → k < 10 → oc a k = true := fun a k q1 q2 q3 => by unfold oc; simp; omega
  have oP : ∀ a k, 512 ≤ a → a ≤ 514 → k < 5 → oc a k = true := fun a k q1 q2 q3 => by unfold oc; simp; omega
  have oG : ∀ a k, 515 ≤ a → a ≤ 516 → k < 6 → oc a k = true := fun a k q1 q2 q3 => by unfold oc; simp; omega
  have oQ : ∀ k, k < 40 → oc 517 k = true := fun k q3 => by unfold oc; simp; omega
  have oB : ∀ a k, 518 ≤ a → a ≤ 520 → k < 4 → oc a k = true := fun a k q1 q2 q3 => by unfold oc; simp; omega
  have eA : ∀ a k, 505 ≤ a → a ≤ 511 → k < 10 → rI Sm' a k = rI T a k := fun a k q1 q2 q3 => e a k (oA a k q1 q2 q3) (by omega) (by omega) (by omega)
  have eP : ∀ a k, 512 ≤ a → a ≤ 514 → k < 5 → rI Sm' a k = rI T a k := fun a k q1 q2 q3 => e a k (oP a k q1 q2 q3) (by omega) (by omega) (by omega)
  have eG : ∀ a k, 515 ≤ a → a ≤ 516 → k < 6 → rI Sm' a k = rI T a k := fun a k q1 q2 q3 => e a k (oG a k q1 q2 q3) (by omega) (by omega) (by omega)
  have eB : ∀ a k, 518 ≤ a → a ≤ 520 → k < 4 → rI Sm' a k = rI T a k := fun a k q1 q2 q3 => e a k (oB a k q1 q2 q3) (by omega) (by omega) (by omega)
  refine ⟨⟨fun k hk => ?_, ?_, ?_, ?_, ?_, ?_, ?_, ?_, ?_, ?_, ?_⟩, hct⟩
  · rw [hct k hk, e 502 k (oc2 k hk) (by decide) (by decide) (by decide)]
    exact h1 k hk
  · rw [k0, k1, k2, k3, k4, k5]
    omega
  · rw [k0, k1]
    exact fun a ha => by
      obtain ⟨q1, q2, q3, q4, q5, q6⟩ := h3 a ha
      exact ⟨q1.ex (eA _ _ (by decide) (by decide) (by omega)), q2.ex (eA _ _ (by decide) (by decide) (by omega)), q3.ex (eA _ _ (by decide) (by decide) (by omega)), q4.ex (eA _ _ (by decide) (by decide) (by omega)), q5.ex (eA _ _ (by decide) (by decide) (by omega)), q6.ex (eA _ _ (by decide) (by decide) (by omega))⟩
  · rw [k0]
    exact fun a ha => by
      have ea := eA 511 a (by decide) (by decide) (by omega)
      rcases h4 a ha with q | ⟨q1, q2, q3⟩
      · exact Or.inl (ea.trans q)
      · have := q1.2
        refine Or.inr ⟨q1.ex ea, ?_, ?_⟩
        · rw [vN_ex ea]
          exact q2
        · rw [vN_ex ea, eA 511 _ (by decide) (by decide) (by omega)]
          exact q3
  · rw [k2]
    exact fun p hp => by
      obtain ⟨q1, q2, q3⟩ := h5 p hp
      exact ⟨q1.ex (eP _ _ (by decide) (by decide) (by omega)), q2.ex (eP _ _ (by decide) (by decide) (by omega)), q3.ex (eP _ _ (by decide) (by decide) (by omega))⟩
  · rw [k3, k1]
    exact fun g hg => by
      obtain ⟨q1, q2⟩ := h6 g hg
      exact ⟨q1.ex (eG _ _ (by decide) (by decide) (by omega)), q2.ex (eG _ _ (by decide) (by decide) (by omega))⟩
  · rw [k4, k0]
    exact fun q hq => by
      obtain ⟨q1, q2⟩ := h7 q hq
      have eq := eB 518 q (by decide) (by decide) (by omega)
      refine ⟨q1.ex eq, fun k hk => ?_⟩
      rw [vN_ex eq] at hk
      have := q1.2
      exact (q2 k hk).ex (e 517 _ (oQ _ (by omega)) (by decide) (by decide) (by decide))
  · rw [k5, k1]
    exact fun g hg => by
      obtain ⟨q1, q2⟩ := h8 g hg
      exact ⟨q1.ex (eB _ _ (by decide) (by decide) (by omega)), q2.ex (eB _ _ (by decide) (by decide) (by omega))⟩
  · rw [k1]
    exact fun k hk => ⟨(h9 k hk).1, (hC.2.1 503 k (by unfold oc; simp; omega) (by decide) (by decide)).trans (h9 k hk).2⟩
  · rw [k2]
    exact fun k hk => ⟨(h10 k hk).1, (hC.2.1 504 k (by unfold oc; simp; omega) (by decide) (by decide)).trans (h10 k hk).2⟩
  · rw [k1]
    exact fun x y hx hy => by
      obtain ⟨q1, q2, q3, q4⟩ := hP x hx y hy
      exact ⟨q1, q2, q3, _, q4⟩
end NEWT
