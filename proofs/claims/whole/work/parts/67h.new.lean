/-! A new orchard, told on both sides: the whole. -/
section NEWO
variable {n p b k i d s s' bz j mo mm a v x : Nat} {T T' So Sm S S' So' Sm' : St} {P Q : Nat → Nat → Bool} {c c' : Nat → Nat} {W V : Nat → List Nat} {NB : Nat → Nat → Bool} {f : Nat → Nat → Int32} {l lN' lV' : List (Nat × Int32)}
theorem near_new {cd : Nat} (h : LWD d 0 cd So Sm) (hcd : cd ≤ 2000) : ∃ lN', ((rI So d 12 = 0 ∧ lN' = dfN) ∨ (¬ rI So d 12 = 0 ∧ FS (d + 14) lN' So)) ∧ (∀ x y, ∃ r, rp (nF W x y) lN' [] = some [r]) ∧ ∀ S, LYC T W V c Sm S → NLm W (NBl W lN') S := by
  rcases law_new (T := T) (W := W) (V := V) (c := c) (line := 0) (by decide) h hcd with ⟨h1, h2⟩ | ⟨h1, l, cs, h2, h3, h4⟩
  · refine ⟨dfN, Or.inl ⟨h1, rfl⟩, fun x y => ⟨_, dfN_rp _⟩, fun S hS => Or.inl ⟨h2 S hS, fun a b hab => ?_⟩⟩
    rw [NBl_of (dfN_rp _)]
    show decide ((if nI (edt (W a) (W b)) = 0 then (1 : Int32) else 0) ≠ 0) = _
    by_cases q : edt (W a) (W b) = 0
    · rw [if_pos (show nI (edt (W a) (W b)) = 0 by rw [q]; rfl), decide_eq_true q]
      decide
    · rw [if_neg (show ¬ nI (edt (W a) (W b)) = 0 from nI_ne0 (by omega) (by omega)), decide_eq_false q]
      decide
  · refine ⟨l, Or.inr ⟨h1, h2⟩, fun x y => ?_, fun S hS => ?_⟩
    · obtain ⟨f, v, _, y2⟩ := h3 (nF W x y) (fun k => nF W x y (k - 1)) (CM0 rfl rfl rfl rfl)
      exact ⟨_, y2⟩
    · obtain ⟨q1, fr, q2, q3, q4, q5⟩ := h4 S hS
      refine Or.inr ⟨q1, fr, cs, q2, q3, by omega, q5, fun a b X x1 x2 x3 x4 => ?_⟩
      obtain ⟨f, v, y1, y2⟩ := h3 (nF W a b) X (CM0 x1 x2 x3 x4)
      exact ⟨f, v, y1, NBl_of y2⟩
theorem value_new {cd : Nat} (h : LWD d 1 cd So Sm) (hcd : cd ≤ 2000) : ∃ lV', ((rI So d 13 = 0 ∧ lV' = dfV) ∨ (¬ rI So d 13 = 0 ∧ FS (d + 16) lV' So)) ∧ (∀ k dd, ∃ r, rp (vF (nI k) dd) lV' [] = some [r]) ∧ ∀ S, LYC T W V c Sm S → LawV S (VL lV') := by
  rcases law_new (T := T) (W := W) (V := V) (c := c) (line := 1) (by decide) h hcd with ⟨h1, h2⟩ | ⟨h1, l, cs, h2, h3, h4⟩
  · exact ⟨dfV, Or.inl ⟨h1, rfl⟩, fun k dd => ⟨_, dfV_rp _⟩, fun S hS => Or.inl ⟨h2 S hS, fun k a hk => dfV_L hk a⟩⟩
  · refine ⟨l, Or.inr ⟨h1, h2⟩, fun k dd => ?_, fun S hS => ?_⟩
    · obtain ⟨f, v, _, y2⟩ := h3 (vF (nI k) dd) (fun i => vF (nI k) dd (i - 5)) (CM1 rfl rfl)
      exact ⟨_, y2⟩
    · obtain ⟨q1, fr, q2, q3, q4, q5⟩ := h4 S hS
      refine Or.inr ⟨q1, fr, cs, q2, q3, q4, q5, fun X => ?_⟩
      obtain ⟨f, v, y1, y2⟩ := h3 (vF (X 5) (X 6)) X (CM1 rfl rfl)
      exact ⟨f, v, y1, (VL_of y2).symm⟩
theorem dbI (b : Bool) : decide (bI b = 1) = b := by
  cases b <;> decide
theorem newTold_ok (hd : d = 20 ∨ d = 21) (hb : b ≤ 1000) (h : RDS d c T W V b So Sm) : ∃ So' Sm' L, o_to_settle d So = some ((), So') ∧ m_lays Sm = some ((), Sm') ∧ WF Sm' W V ∧ LawV Sm' L ∧ (∀ k d, k < 100 → ∃ j, j < 1000 ∧ L (nI k) d = nI j) ∧ TD d Sm' W V L So' ∧ Fr (fLd d) So So' ∧ Fr fLyA Sm Sm' := by
  obtain ⟨hD, hO, hT, cd, hL0, hL1, h32, hcd, hcb⟩ := h
  obtain ⟨lN', n1, n2, n3⟩ := near_new (T := T) (W := W) (V := V) (c := c) hL0 (by omega)
  obtain ⟨lV', v1, v2, v3⟩ := value_new (T := T) (W := W) (V := V) (c := c) hL1 (by omega)
  obtain ⟨Sm', a1, a2, a3, a4⟩ := lays_ok (NB := NBl W lN') hD hO n3
  obtain ⟨So', b1', b2', b3', b4'⟩ := se_ok hd hT n1 v1 n2
  obtain ⟨hW, hct⟩ := wf_new hD a2 a3
  obtain ⟨t1, t2, t3, ⟨f, t4, t4'⟩, t5, t6, t7⟩ := b2'
  obtain ⟨s1, s2, s3, s4, s5⟩ := b3'
  have hb2 := hD.2.1
  have k0 := hct 0 (by decide)
  have k1 := hct 1 (by decide)
  have k2 := hct 2 (by decide)
  have k3 := hct 3 (by decide)
  have k4 := hct 4 (by decide)
  have k5 := hct 5 (by decide)
  have e : ∀ a k, oc a k = true → a ≤ 520 → a ≠ 503 → a ≠ 504 → rI Sm' a k = rI T a k := a2.1
  have eA : ∀ a k, 505 ≤ a → a ≤ 511 → k < 10 → rI Sm' a k = rI T a k := fun a k q1 q2 q3 => e a k (by unfold oc; simp; omega) (by omega) (by omega) (by omega)
  have eP : ∀ a k, 512 ≤ a → a ≤ 514 → k < 5 → rI Sm' a k = rI T a k := fun a k q1 q2 q3 => e a k (by unfold oc; simp; omega) (by omega) (by omega) (by omega)
  have eG : ∀ a k, 515 ≤ a → a ≤ 516 → k < 6 → rI Sm' a k = rI T a k := fun a k q1 q2 q3 => e a k (by unfold oc; simp; omega) (by omega) (by omega) (by omega)
  have eB : ∀ a k, 518 ≤ a → a ≤ 520 → k < 4 → rI Sm' a k = rI T a k := fun a k q1 q2 q3 => e a k (by unfold oc; simp; omega) (by omega) (by omega) (by omega)
  have hso : ∀ q, q < 4 → (mk (c 0) fun a => decide (rI T 506 a = nI q)) = srt Sm' q := fun q hq => by
    unfold srt
    rw [k0]
    refine mk_ext fun a ha => ?_
    obtain ⟨_, q2, _⟩ := hD.2.2.1 a ha
    have := q2.2
    rw [vN_ex (eA 506 a (by decide) (by decide) (by omega)), q2.1]
    refine decide_eq_decide.mpr ⟨fun h => ?_, fun h => by rw [h]⟩
    exact nI_ofs h (by omega) (by omega)
  refine ⟨So', Sm', VL lV', b1', a1, hW, v3 Sm' a2, fun k dd _ => VL_b lV' (nI k) dd, ⟨hd, ?_, ?_, ?_, ⟨f, ?_, ?_⟩, ?_, ?_, ?_, ?_, ?_, ?_, ⟨?_, ?_, ?_⟩, lV', s1, fun k dd hk => ?_⟩, b4', a4⟩
  · rw [k0]
    exact t1.ext fun a j ha hj => (eA _ _ (by unfold ccol; split <;> (try split) <;> omega) (by unfold ccol; split <;> (try split) <;> omega) (by omega)).symm
  · rw [k2]
    exact t2.ext fun a j ha hj => (eP _ _ (by omega) (by omega) (by omega)).symm
  · rw [k3]
    exact t3.ext fun a j ha hj => (eG _ _ (by omega) (by omega) (by omega)).symm
  · rw [k4]
    exact t4
  · rw [k4]
    exact fun q hq => by
      have eq := eB 518 q (by decide) (by decide) (by omega)
      have := (hD.2.2.2.2.2.2.1 q hq).1.2
      refine ⟨(t4' q hq).1.trans eq.symm, fun k hk => ?_⟩
      rw [vN_ex eq] at hk
      exact ((t4' q hq).2 k hk).trans (e 517 _ (by unfold oc; simp; omega) (by decide) (by decide) (by decide)).symm
  · rw [k5]
    exact t5.ext fun a j ha hj => (eB _ _ (by omega) (by omega) (by omega)).symm
  · rw [k1]
    exact t6
  · rw [k2]
    exact t7
  · rw [k1]
    exact fun x hx => by
      rw [s2 x hx]
      refine mk_ext fun y hy => ?_
      rw [(a3 x hx y hy).2.2.2, dbI]
  · rw [k0]
    exact fun r hr => by
      rw [s3 r hr]
      refine mk_ext fun a ha => ?_
      obtain ⟨_, _, _, q4, _⟩ := hD.2.2.1 a ha
      have := q4.2
      rw [vN_ex (eA 508 a (by decide) (by decide) (by omega)), q4.1]
      refine decide_eq_decide.mpr ⟨fun h => ?_, fun h => by rw [h]⟩
      exact nI_ofs h (by omega) (by omega)
  · rw [k0]
    exact fun a ha => by
      rw [s4 a ha]
      refine mk_ext fun y hy => ?_
      rw [eA 511 y (by decide) (by decide) (by omega)]
  · exact (s5 1 (Or.inl rfl)).trans (hso 1 (by decide))
  · exact (s5 2 (Or.inr (Or.inl rfl))).trans (hso 2 (by decide))
  · exact (s5 3 (Or.inr (Or.inr rfl))).trans (hso 3 (by decide))
  · obtain ⟨r, hr⟩ := v2 k dd
    exact ⟨r, hr, (VL_of hr).symm⟩
end NEWO
