/-! An orchard is laid: two words letter by letter. -/
section SPELLS
variable {n p b k i d s s' bz j mo mm a : Nat} {w u : List Nat} {tx : Nat → Int32} {T T' So Sm S S' So' Sm' : St} {P Q : Nat → Nat → Bool} {c c' : Nat → Nat}
theorem sp_1 (v0 : Int64) (a : Nat) : ∀ (r : List Nat) (i m : Nat), (∀ c ∈ r, 1 ≤ c ∧ c ≤ 26) → r.length ≤ 8 → r.length < m → m_spells_5 m v0 a (nI i) (lN (q27 r)) S = m_spells_26 v0 a (nI (i + r.length)) S
  | [], i, m, h, hl, hm => by
    obtain ⟨m, rfl, hm⟩ := fuel hm
    rw [m_spells_5, if_neg (fun q => by
      rw [lg_cmp_gt] at q
      exact absurd q (by decide))]
    rfl
  | c :: t, i, m, h, hl, hm => by
    obtain ⟨m, rfl, hm⟩ := fuel hm
    rw [List.length_cons] at hl hm
    have hc := h c List.mem_cons_self
    have ih := sp_1 v0 a t (i + 1) m (fun x hx => h x (List.mem_cons_of_mem _ hx)) (by omega) (by omega)
    have hB := q27_B h (by rw [List.length_cons]; omega)
    have hp := q27_pos (t := t) hc.1
    rw [m_spells_5, if_pos (by
      rw [lg_cmp_gt, show (0 : Int64) = lN 0 from rfl, lN_ltB (by decide) (by omega)]
      exact hp), nI_1, ltq, show (27 : Int64) = lN 27 from rfl, lN_div (by omega) (by decide), q27_div hc.2, ltq, ih, List.length_cons, show i + 1 + t.length = i + (t.length + 1) by omega]
def fAr (a : Nat) : Nat → Nat → Bool := fun b _ => b == a
theorem fAr_n {a b k : Nat} (h : b ≠ a) : fAr a b k = false := beq_eq_false_iff_ne.mpr h
theorem sp_2 {a : Nat} (ha : KM.1 a = (1, 8)) (z : Int32) : ∀ (r : List Nat) (m : Nat) (S : St), (∀ c ∈ r, 1 ≤ c ∧ c ≤ 26) → r.length ≤ 8 → r.length < m → ∃ S', m_spells_34 m a z (lN (q27 r)) (nI r.length - 1) S = some (z, S') ∧ (∀ k, k < r.length → rI S' a k = nI (r.reverse.getD k 0)) ∧ (∀ k, r.length ≤ k → rI S' a k = rI S a k) ∧ Fr (fAr a) S S'
  | [], m, S, h, hl, hm => by
    obtain ⟨m, rfl, hm⟩ := fuel hm
    rw [m_spells_34, if_pos (show nI ([] : List Nat).length - 1 < 0 by decide)]
    exact ⟨S, rfl, fun k hk => absurd hk (Nat.not_lt_zero _), fun k _ => rfl, Fr.rf⟩
  | c :: t, m, S, h, hl, hm => by
    obtain ⟨m, rfl, hm⟩ := fuel hm
    rw [List.length_cons] at hl hm
    have hc := h c List.mem_cons_self
    obtain ⟨S', g1, g2, g3, g4⟩ := sp_2 ha z t m (wI S a t.length (nI c)) (fun x hx => h x (List.mem_cons_of_mem _ hx)) (by omega) (by omega)
    have hB := q27_B h (by rw [List.length_cons]; omega)
    rw [m_spells_34, List.length_cons, (show nI (t.length + 1) - 1 = nI t.length from nI_sub (a := t.length + 1) (b := 1) (by omega)), if_neg (nI_pos (by omega)), ha, if_pos rfl, if_neg (nI_in (show t.length < 8 by omega) (by decide)), nI_clamp (by omega), show (27 : Int64) = lN 27 from rfl, lN_mod (by omega) (by decide), q27_mod hc.2, lN_i, ltq (wI S a _ _), lN_div (by omega) (by decide), q27_div hc.2, ltq, ltq, (show nI t.length + (-1 : Int32) = nI t.length - 1 from (Int32.sub_eq_add_neg _ _).symm), g1]
    refine ⟨S', rfl, fun k hk => ?_, fun k hk => (g3 k (by omega)).trans (rI_wI_k (by omega)), (Fr.wI (by unfold fAr; simp)).tr g4⟩
    rw [List.reverse_cons]
    by_cases q : k = t.length
    · rw [g3 k (by omega), q, rI_wI]
      have := getD_ae t.reverse c 0
      rw [List.length_reverse] at this
      rw [this]
    · rw [g2 k (by omega), getD_ap _ _ _ (by rw [List.length_reverse]; omega)]
theorem sp_ok {a : Nat} (ha : KM.1 a = (1, 8)) (hw : WD w) (S : St) : ∃ S', m_spells (lN (p27 0 w)) a S = some (nI w.length, S') ∧ (∀ k, k < w.length → rI S' a k = nI (w.getD k 0)) ∧ Fr (fAr a) S S' := by
  obtain ⟨h1, h2, h3⟩ := hw
  have hr := rev_ok h3
  obtain ⟨S', g1, g2, g3, g4⟩ := sp_2 ha (nI w.length) w.reverse FU S hr (by rw [List.length_reverse]; omega) (by rw [List.length_reverse]; unfold FU; omega)
  refine ⟨S', ?_, fun k hk => ?_, g4⟩
  · unfold m_spells
    rw [p27_q, (show m_spells_5 FU (lN (q27 w.reverse)) a 0 (lN (q27 w.reverse)) S = _ from sp_1 _ a w.reverse 0 FU hr (by rw [List.length_reverse]; omega) (by rw [List.length_reverse]; unfold FU; omega))]
    unfold m_spells_26
    rw [Nat.zero_add, List.length_reverse, ltq]
    rw [List.length_reverse] at g1
    exact g1
  · have := g2 k (by rw [List.length_reverse]; exact hk)
    rw [List.reverse_reverse] at this
    exact this
/-- two words, letter by letter -/
def AB (w u : List Nat) (S : St) : Prop := (∀ k, k < w.length → rI S 540 k = nI (w.getD k 0)) ∧ ∀ k, k < u.length → rI S 541 k = nI (u.getD k 0)
theorem AB.fr (h : AB w u S) (f : Fr P S S') (h1 : ∀ k, P 540 k = false ∧ P 541 k = false) : AB w u S' := ⟨fun k hk => (f.i (h1 k).1).trans (h.1 k hk), fun k hk => (f.i (h1 k).2).trans (h.2 k hk)⟩
theorem ab_eq (h : AB w u S) (hw : WD w) (hu : WD u) {x y : Nat} (hx : x < w.length) (hy : y < u.length) : rI S 540 x = rI S 541 y ↔ w.getD x 0 = u.getD y 0 := by
  rw [h.1 x hx, h.2 y hy]
  have h1 := hw.ok.ge x
  have h2 := hu.ok.ge y
  exact ⟨fun e => nI_ofs e (by omega) (by omega), fun e => by rw [e]⟩
/-- the first letters -/
theorem cp_loop (h : AB w u S) (hw : WD w) (hu : WD u) (v3 : Int32) : ∀ (j i m : Nat), i + j = cpl w u → j < m → m_compares_221 m v3 (nI w.length) (nI u.length) (nI i) S = m_compares_258 v3 (nI w.length) (nI u.length) (nI (cpl w u)) S
  | j, i, 0, hi, hm => absurd hm (Nat.not_lt_zero _)
  | j, i, m + 1, hi, hm => by
    have hle := cpl_le w u
    have l1 := hw.2.1
    have l2 := hu.2.1
    have key : cpl w u = i + cpl (w.drop i) (u.drop i) := cpl_drop i w u (by omega)
    rw [m_compares_221]
    cases j with
    | zero =>
      have hi : i = cpl w u := by omega
      rw [← hi]
      by_cases q1 : i < w.length
      · rw [if_pos (nI_lt q1 (by omega))]
        by_cases q2 : i < u.length
        · rw [if_pos (nI_lt q2 (by omega)), if_neg (nI_in (show i < 8 by omega) (by decide)), if_neg (nI_in (show i < 8 by omega) (by decide)), nI_clamp (by omega), if_neg (fun q => by
            have e := (ab_eq h hw hu q1 q2).mp q
            have := cpl_go (t := w.drop i) (u := u.drop i) (by
              intro e2
              have := congrArg List.length e2
              rw [List.length_drop] at this
              simp at this
              omega) (by
              intro e2
              have := congrArg List.length e2
              rw [List.length_drop] at this
              simp at this
              omega) (by rw [getD_drop, getD_drop]; exact e)
            omega)]
        · rw [if_neg (nI_nlt (by omega) (by omega))]
      · rw [if_neg (nI_nlt (by omega) (by omega))]
    | succ j =>
      have ih := cp_loop h hw hu v3 j (i + 1) m (by omega) (by omega)
      have q1 : i < w.length := by omega
      have q2 : i < u.length := by omega
      rw [if_pos (nI_lt q1 (by omega)), if_pos (nI_lt q2 (by omega)), if_neg (nI_in (show i < 8 by omega) (by decide)), if_neg (nI_in (show i < 8 by omega) (by decide)), nI_clamp (by omega), if_pos ((ab_eq h hw hu q1 q2).mpr (by
        by_cases q : w.getD i 0 = u.getD i 0
        · exact q
        · have := cpl_stop (t := w.drop i) (u := u.drop i) (Or.inr (Or.inr (by rw [getD_drop, getD_drop]; exact q)))
          omega)), nI_1, ltq, ih]
/-- the last letters -/
theorem cs_loop (h : AB w u S) (hw : WD w) (hu : WD u) (v3 : Int32) : ∀ (j i m : Nat), i + j = csl w u → j < m → m_compares_269 m v3 (nI w.length) (nI u.length) (nI i) S = m_compares_316 v3 (nI w.length) (nI (csl w u)) S
  | j, i, 0, hi, hm => absurd hm (Nat.not_lt_zero _)
  | j, i, m + 1, hi, hm => by
    have hle := cpl_le w.reverse u.reverse
    rw [List.length_reverse, List.length_reverse] at hle
    have hle : csl w u ≤ w.length ∧ csl w u ≤ u.length := hle
    have l1 := hw.2.1
    have l2 := hu.2.1
    have key : csl w u = i + cpl (w.reverse.drop i) (u.reverse.drop i) := cpl_drop i _ _ (show i ≤ csl w u by omega)
    have ix : ∀ {t : List Nat}, i < t.length → (nI t.length - (1 : Int32)) - nI i = nI (t.length - 1 - i) := fun ht => by
      rw [show (1 : Int32) = nI 1 from rfl, nI_sub (by omega), nI_sub (by omega)]
    rw [m_compares_269]
    cases j with
    | zero =>
      have hi : i = csl w u := by omega
      rw [← hi]
      by_cases q1 : i < w.length
      · rw [if_pos (nI_lt q1 (by omega))]
        by_cases q2 : i < u.length
        · rw [if_pos (nI_lt q2 (by omega)), ix q1, ix q2, if_neg (nI_in (show w.length - 1 - i < 8 by omega) (by decide)), if_neg (nI_in (show u.length - 1 - i < 8 by omega) (by decide)), nI_clamp (by omega), nI_clamp (by omega), if_neg (fun q => by
            have e := (ab_eq h hw hu (by omega) (by omega)).mp q
            have := cpl_go (t := w.reverse.drop i) (u := u.reverse.drop i) (by
              intro e2
              have := congrArg List.length e2
              rw [List.length_drop, List.length_reverse] at this
              simp at this
              omega) (by
              intro e2
              have := congrArg List.length e2
              rw [List.length_drop, List.length_reverse] at this
              simp at this
              omega) (by
              rw [getD_drop, getD_drop, Nat.add_zero, rev_getD q1, rev_getD q2]
              exact e)
            omega)]
        · rw [if_neg (nI_nlt (by omega) (by omega))]
      · rw [if_neg (nI_nlt (by omega) (by omega))]
    | succ j =>
      have ih := cs_loop h hw hu v3 j (i + 1) m (by omega) (by omega)
      have q1 : i < w.length := by omega
      have q2 : i < u.length := by omega
      rw [if_pos (nI_lt q1 (by omega)), if_pos (nI_lt q2 (by omega)), ix q1, ix q2, if_neg (nI_in (show w.length - 1 - i < 8 by omega) (by decide)), if_neg (nI_in (show u.length - 1 - i < 8 by omega) (by decide)), nI_clamp (by omega), nI_clamp (by omega), if_pos ((ab_eq h hw hu (by omega) (by omega)).mpr (by
        by_cases q : w.getD (w.length - 1 - i) 0 = u.getD (u.length - 1 - i) 0
        · exact q
        · have := cpl_stop (t := w.reverse.drop i) (u := u.reverse.drop i) (Or.inr (Or.inr (by
            rw [getD_drop, getD_drop, Nat.add_zero, rev_getD q1, rev_getD q2]
            exact q)))
          omega)), nI_1, ltq, ih]
end SPELLS
