/-! Where the cells stand: the addresses of the names. -/
def gPl (al : List Nat) (base : Nat) (ad : Nat → Nat) (sm : Nat) (a : Nat) : Nat := if a = 1100 then sm else if 1000 ≤ a then ad (a - 1000) else base + al.idxOf a
theorem gPl_c {al : List Nat} {base sm : Nat} {ad : Nat → Nat} {i : Nat} (hi : i < 42) : gPl al base ad sm (1000 + i) = ad i := by
  unfold gPl
  rw [if_neg (by omega), if_pos (by omega), Nat.add_sub_cancel_left]
theorem gPl_w {al : List Nat} {base sm : Nat} {ad : Nat → Nat} : gPl al base ad sm 1100 = sm := if_pos rfl
theorem gPl_n {al : List Nat} {base sm a : Nat} {ad : Nat → Nat} (h : a < 1000) : gPl al base ad sm a = base + al.idxOf a := by
  unfold gPl
  rw [if_neg (by omega), if_neg (by omega)]
set_option maxRecDepth 100000 in
theorem alO_ix : ∀ i, i < 154 → alO.idxOf (alO.getD i 0) = i ∧ alO.getD i 0 < 260 := by decide +kernel
set_option maxRecDepth 100000 in
theorem alM_ix : ∀ i, i < 67 → alM.idxOf (alM.getD i 0) = i ∧ alM.getD i 0 < 567 := by decide +kernel
set_option maxRecDepth 100000 in
theorem alO_len : alO.length = 154 := by decide +kernel
set_option maxRecDepth 100000 in
theorem alM_len : alM.length = 67 := by decide +kernel
set_option maxRecDepth 100000 in
theorem alO_nd : alO.Nodup := by decide +kernel
set_option maxRecDepth 100000 in
theorem alM_nd : alM.Nodup := by decide +kernel
set_option maxRecDepth 100000 in
theorem alO_k : ∀ a ∈ alO, a < 1000 ∧ (KO.1 a).1 < 8 ∧ ((KO.1 a).1 = 0 → (KO.1 a).2 < 13) := by decide +kernel
set_option maxRecDepth 100000 in
theorem alM_k : ∀ a ∈ alM, a < 1000 ∧ (KM.1 a).1 < 8 ∧ ((KM.1 a).1 = 0 → (KM.1 a).2 < 13) := by decide +kernel
set_option maxRecDepth 100000 in
theorem alO_i : ∀ a, a < 260 → (KO.1 a).1 < 8 ∨ (KO.1 a).1 = 99 := by decide +kernel
set_option maxRecDepth 100000 in
theorem alO_m : ∀ a, a < 260 → (KO.1 a).1 < 8 → a ∈ alO := by decide +kernel
set_option maxRecDepth 100000 in
theorem alM_m : ∀ a, a < 567 → (KM.1 a).1 < 8 → a ∈ alM := by decide +kernel
theorem kO_hi {a : Nat} (h : 260 ≤ a) : ¬ (KO.1 a).1 < 8 ∧ ((KO.1 a).1 = 20 → a = 1000 + (KO.1 a).2 ∧ (KO.1 a).2 < 42) ∧ ((KO.1 a).1 = 30 → a = 1100 ∧ (KO.1 a).2 = 42) := by
  show ¬ (kdO a).1 < 8 ∧ ((kdO a).1 = 20 → a = 1000 + (kdO a).2 ∧ (kdO a).2 < 42) ∧ ((kdO a).1 = 30 → a = 1100 ∧ (kdO a).2 = 42)
  unfold kdO
  rw [if_neg (by omega)]
  by_cases h1 : a < 1000
  · rw [if_pos h1]
    exact ⟨by decide, fun h => absurd h (by decide), fun h => absurd h (by decide)⟩
  · rw [if_neg h1]
    by_cases h2 : a < 1042
    · rw [if_pos h2]
      exact ⟨(by decide : ¬ 20 < 8), fun _ => ⟨(by show a = 1000 + (a - 1000); omega), (by show a - 1000 < 42; omega)⟩, fun h => absurd (show 20 = 30 from h) (by decide)⟩
    · rw [if_neg h2]
      by_cases h3 : a = 1100
      · rw [if_pos h3]
        exact ⟨(by decide : ¬ 30 < 8), fun h => absurd (show 30 = 20 from h) (by decide), fun _ => ⟨h3, rfl⟩⟩
      · rw [if_neg h3]
        exact ⟨by decide, fun h => absurd h (by decide), fun h => absurd h (by decide)⟩
theorem kM_hi {a : Nat} (h : 567 ≤ a) : (KM.1 a) = (99, 0) := by
  show kdM a = (99, 0)
  unfold kdM
  rw [if_neg (by omega), List.getD_eq_getElem?_getD, List.getElem?_eq_none (by show 67 ≤ a - 500; omega)]
  rfl
theorem ix_of {al : List Nat} {n : Nat} (hn : al.length = n) (h : ∀ i, i < n → al.idxOf (al.getD i 0) = i) {i a : Nat} (hi : al[i]? = some a) : al.idxOf a = i := by
  have hl := (List.getElem?_eq_some_iff.mp hi).1
  have h1 := h i (by omega)
  rw [List.getD_eq_getElem?_getD, hi] at h1
  exact h1
theorem okA_O {base sm : Nat} {ad : Nat → Nat} (h1 : ∀ i, i < 42 → ad i < base) (h2 : ∀ i j, i < 42 → j < 42 → ad i = ad j → i = j) : okA KO alO (gPl alO base ad sm) base := by
  refine ⟨alO_nd, alO_k, fun a ha => kO_hi (by omega), fun i a hi => ?_, fun a b ha h20 hb he => ?_⟩
  · rw [gPl_n (by have := (alO_k a (List.mem_of_getElem? hi)).1; omega), ix_of alO_len (fun i h => (alO_ix i h).1) hi]
  · obtain ⟨e1, e2⟩ := (kO_hi (a := a) (by omega)).2.1 h20
    rw [e1, gPl_c e2] at he
    rcases hb with hb | ⟨hb, hb20⟩
    · rw [gPl_n (alO_k b hb).1] at he
      have := h1 _ e2
      omega
    · obtain ⟨g1, g2⟩ := (kO_hi (a := b) (by omega)).2.1 hb20
      rw [g1, gPl_c g2] at he
      have := h2 _ _ e2 g2 he
      omega
theorem okA_M {base sm : Nat} {ad : Nat → Nat} : okA KM alM (gPl alM base ad sm) base := by
  refine ⟨alM_nd, alM_k, fun a ha => ?_, fun i a hi => ?_, fun a b ha h20 hb he => ?_⟩
  · rw [kM_hi (by omega)]
    exact ⟨by decide, fun h => absurd h (by decide), fun h => absurd h (by decide)⟩
  · rw [gPl_n (by have := (alM_k a (List.mem_of_getElem? hi)).1; omega), ix_of alM_len (fun i h => (alM_ix i h).1) hi]
  · rw [kM_hi (by omega)] at h20
    exact absurd h20 (by decide)
theorem okK_of {K : Cfg} {al : List Nat} {G : Nat → Nat} {base : Nat} (hA : okA K al G base) (h1 : ∀ a, (K.1 a).1 < 8 → a ∈ al) (h20 : ∀ a, (K.1 a).1 = 20 → 1000 ≤ a) (h30 : ∀ a, (K.1 a).1 = 30 → 1000 ≤ a) : okK K al G := by
  obtain ⟨q1, q2, q3, q4, q5⟩ := hA
  refine ⟨h1, fun a h => (q2 a (h1 a (by omega))).2.2 h, fun a h => (q3 a (h20 a h)).2.1 h, fun a h => (q3 a (h30 a h)).2.2 h, fun a b ha hb he => ?_⟩
  rcases ha with ha | ha
  · rcases hb with hb | hb
    · obtain ⟨i, hi⟩ := List.getElem?_of_mem (h1 a ha)
      obtain ⟨j, hj⟩ := List.getElem?_of_mem (h1 b hb)
      rw [q4 i a hi, q4 j b hj] at he
      obtain rfl : i = j := by omega
      exact Option.some.inj (hi.symm.trans hj)
    · exact (q5 b a (h20 b hb) hb (Or.inl (h1 a ha)) he.symm).symm
  · rcases hb with hb | hb
    · exact q5 a b (h20 a ha) ha (Or.inl (h1 b hb)) he
    · exact q5 a b (h20 a ha) ha (Or.inr ⟨h20 b hb, hb⟩) he
theorem okK_O {G : Nat → Nat} {base : Nat} (hA : okA KO alO G base) : okK KO alO G := by
  refine okK_of hA (fun a h => ?_) (fun a h => ?_) (fun a h => ?_)
  · by_cases q : a < 260
    · exact alO_m a q h
    · exact absurd h (kO_hi (by omega)).1
  · by_cases q : a < 260
    · have := alO_i a q; omega
    · have := ((kO_hi (a := a) (by omega)).2.1 h).1; omega
  · by_cases q : a < 260
    · have := alO_i a q; omega
    · have := ((kO_hi (a := a) (by omega)).2.2 h).1; omega
set_option maxRecDepth 100000 in
theorem alM_i : ∀ a, a < 567 → (KM.1 a).1 < 8 ∨ (KM.1 a).1 = 99 := by decide +kernel
theorem okK_M {G : Nat → Nat} {base : Nat} (hA : okA KM alM G base) : okK KM alM G := by
  have hi : ∀ a, (KM.1 a).1 < 8 ∨ (KM.1 a).1 = 99 := fun a => by
    by_cases q : a < 567
    · exact alM_i a q
    · rw [kM_hi (by omega)]; exact Or.inr rfl
  refine okK_of hA (fun a h => ?_) (fun a h => ?_) (fun a h => ?_)
  · by_cases q : a < 567
    · exact alM_m a q h
    · rw [kM_hi (by omega)] at h; exact absurd h (by decide)
  · have := hi a; omega
  · have := hi a; omega
/-- a whole world's addresses lie in one piece -/
theorem wl_piece {K : Cfg} {G : Nat → Nat} {al : List Nat} {base n : Nat} (hA : okA K al G base) (hn : al.length = n) {a : Nat} (ha : a ∈ al) : base ≤ G a ∧ G a < base + n := by
  obtain ⟨i, hi⟩ := List.getElem?_of_mem ha
  rw [hA.2.2.2.1 i a hi]
  have := (List.getElem?_eq_some_iff.mp hi).1
  omega
theorem wl_apart {K : Cfg} {G : Nat → Nat} {cy : Nat → ClassId} {al : List Nat} {base : Nat} (hA : okA K al G base) (S : St) : va_D (fun q => base ≤ q) (wl K G cy al S) := by
  have at' : ∀ (k : Nat) (q : Nat × va_E), (wl K G cy al S)[k]? = some q → k < al.length ∧ q.1 = base + k := by
    intro k q hk
    simp only [wl, List.getElem?_map] at hk
    cases hb : al[k]? with
    | none => simp [hb] at hk
    | some b =>
      simp only [hb, Option.map_some, Option.some.injEq] at hk
      refine ⟨(List.getElem?_eq_some_iff.mp hb).1, ?_⟩
      rw [← hk]
      exact hA.2.2.2.1 k b hb
  refine ⟨fun i j p q hi hj e => ?_, fun k q hk => ?_⟩
  · have h1 := (at' i p hi).2
    have h2 := (at' j q hj).2
    omega
  · have := (at' k q hk).2
    show base ≤ q.1
    omega
theorem wl_in {K : Cfg} {G : Nat → Nat} {cy : Nat → ClassId} {al : List Nat} {S : St} {k : Nat} {q : Nat × va_E} (h : (wl K G cy al S)[k]? = some q) : ∃ a ∈ al, G a = q.1 := by
  simp only [wl, List.getElem?_map] at h
  cases hb : al[k]? with
  | none => simp [hb] at h
  | some b =>
    simp only [hb, Option.map_some, Option.some.injEq] at h
    exact ⟨b, List.mem_of_getElem? hb, by rw [← h]⟩
