/-! The calls that the reference lays out. -/
section LAYS
variable {T : St} {W V : Nat → List Nat} {L : Int32 → Int32 → Int32} {v d u a : Nat} {Z Z1 Z2 : Nat → Int32} {So So' Sm Sm' S : St}
/-- the calls that a person can make, from a sound on -/
def rowL (T : St) (W : Nat → List Nat) (p : Nat) : Nat → Nat → List (Nat × Nat)
  | _, 0 => []
  | k, j + 1 => (bif sayB T W p k then [(p, k)] else []) ++ rowL T W p (k + 1) j
def allL (T : St) (W : Nat → List Nat) : Nat → Nat → List (Nat × Nat)
  | _, 0 => []
  | p, j + 1 => rowL T W p 0 (ct T 1) ++ allL T W (p + 1) j
theorem rowL_len (T : St) (W : Nat → List Nat) (p : Nat) : ∀ j k, (rowL T W p k j).length ≤ j
  | 0, k => Nat.le_refl _
  | j + 1, k => by
    have := rowL_len T W p j (k + 1)
    rw [rowL, List.length_append]
    cases sayB T W p k with
    | true => rw [cond_true]; show 1 + _ ≤ _; omega
    | false => rw [cond_false]; show 0 + _ ≤ _; omega
theorem allL_len (hn : ct T 1 ≤ 16) (W : Nat → List Nat) : ∀ j p, (allL T W p j).length ≤ 16 * j
  | 0, p => Nat.le_refl _
  | j + 1, p => by
    have h1 := allL_len hn W j (p + 1)
    have h2 := rowL_len T W p (ct T 1) 0
    rw [allL, List.length_append]
    omega
theorem rowL_mem (T : St) (W : Nat → List Nat) (p : Nat) : ∀ j k x, x ∈ rowL T W p k j → x.1 = p ∧ x.2 < k + j ∧ sayB T W p x.2 = true
  | 0, k, x, h => by cases h
  | j + 1, k, x, h => by
    rw [rowL, List.mem_append] at h
    rcases h with h | h
    · cases hs : sayB T W p k with
      | false => rw [hs] at h; cases h
      | true =>
        rw [hs, cond_true, List.mem_singleton] at h
        subst h
        exact ⟨rfl, by show k < _; omega, hs⟩
    · have := rowL_mem T W p j (k + 1) x h
      exact ⟨this.1, by omega, this.2.2⟩
theorem allL_mem (T : St) (W : Nat → List Nat) : ∀ j p x, x ∈ allL T W p j → x.1 < p + j ∧ x.2 < ct T 1 ∧ sayB T W x.1 x.2 = true
  | 0, p, x, h => by cases h
  | j + 1, p, x, h => by
    rw [allL, List.mem_append] at h
    rcases h with h | h
    · have := rowL_mem T W p (ct T 1) 0 x h
      exact ⟨by omega, by omega, by rw [this.1]; exact this.2.2⟩
    · have := allL_mem T W j (p + 1) x h
      exact ⟨by omega, this.2.1, this.2.2⟩
/-- the calls stand in the rows -/
def LC (T : St) (Z : Nat → Int32) (l : List (Nat × Nat)) (S : St) : Prop := rI S 500 77 = nI l.length ∧ ∀ i, i < l.length → rI S 558 i = whM T Z (l.getD i (0, 0)).2 (vN T 512 (l.getD i (0, 0)).1) (vN T 513 (l.getD i (0, 0)).1) ∧ rI S 559 i = ecM T Z (l.getD i (0, 0)).2 (vN T 512 (l.getD i (0, 0)).1) (vN T 513 (l.getD i (0, 0)).1) ∧ rI S 560 i = nI (16 * (l.getD i (0, 0)).1 + (l.getD i (0, 0)).2)
theorem LC.fr {P : Nat → Nat → Bool} {l : List (Nat × Nat)} (h : LC T Z l S) (fm : Fr P S So) (h1 : P 500 77 = false) (h2 : ∀ k, P 558 k = false ∧ P 559 k = false ∧ P 560 k = false) : LC T Z l So := by
  refine ⟨(fm.i h1).trans h.1, fun i hi => ?_⟩
  rw [fm.i (h2 i).1, fm.i (h2 i).2.1, fm.i (h2 i).2.2]
  exact h.2 i hi
theorem getD_l (l : List (Nat × Nat)) (x : Nat × Nat) {i : Nat} (h : i < l.length) : (l ++ [x]).getD i (0, 0) = l.getD i (0, 0) := by
  simp [List.getD_eq_getElem?_getD, List.getElem?_append, h]
theorem getD_e (l : List (Nat × Nat)) (x : Nat × Nat) : (l ++ [x]).getD l.length (0, 0) = x := by
  simp [List.getD_eq_getElem?_getD, List.getElem?_append]
def fLC : Nat → Nat → Bool := fun a k => (a == 500 && (k == 70 || k == 71 || k == 77)) || a == 558 || a == 559 || a == 560
theorem fLC_n {a k : Nat} (h : a ≠ 500 ∨ (k ≠ 70 ∧ k ≠ 71 ∧ k ≠ 77)) (h2 : a ≠ 558 ∧ a ≠ 559 ∧ a ≠ 560) : fLC a k = false := by
  unfold fLC
  simp
  omega
theorem fLC_H {a k : Nat} (h : (a == 500 && (k == 70 || k == 71 || k == 72)) = false) : True := trivial
def frW : Nat → Nat → Bool := fun a k => a == 500 && (k == 70 || k == 71)
theorem lc_in (hw : WF T W V) (hz : WZ T Z) {p : Nat} (hp : p < ct T 2) (k7 : Int32 → St → Re Unit) : ∀ (j k m : Nat) (l : List (Nat × Nat)) (S : St), OM T S → SM Z S → LC T Z l S → k + j = ct T 1 → l.length + j ≤ 80 → j < m → ∃ S', m_laysCalls_19 k7 m (nI p) (nI k) S = m_laysCalls_115 k7 (nI p) S' ∧ LC T Z (l ++ rowL T W p k j) S' ∧ Fr (fun a k => fLC a k || frH a k) S S'
  | 0, k, m, l, S, hO, hS, hl, hk, hlen, hm => by
    have hn := hw.b
    obtain ⟨m, rfl, hm⟩ := fuel hm
    rw [Nat.add_zero] at hk
    subst hk
    refine ⟨S, ?_, by rw [rowL, List.append_nil]; exact hl, Fr.rf⟩
    rw [m_laysCalls_19, if_neg g1_12, c1, hO.n (by decide), hw.n (by decide), if_neg (nI_nlt (Nat.le_refl _) (by omega))]
  | j + 1, k, m, l, S, hO, hS, hl, hk, hlen, hm => by
    have hn := hw.b
    obtain ⟨m, rfl, hm⟩ := fuel hm
    have hpe := hw.pe hp
    rw [m_laysCalls_19, if_neg g1_12, c1, hO.n (by decide), hw.n (by decide), if_pos (nI_lt (by omega) (by omega)), m_isSaid_ok hw hO hp (by omega), bnq, rowL]
    unfold m_laysCalls_109
    cases hsay : sayB T W p k with
    | false =>
      obtain ⟨S', e1, e2, e3⟩ := lc_in hw hz hp k7 j (k + 1) m l S hO hS hl (by omega) (by omega) (by omega)
      refine ⟨S', ?_, by rw [cond_false, List.nil_append]; exact e2, e3⟩
      rw [if_pos bF, ltq, nI_1]
      exact e1
    | true =>
      obtain ⟨S1, a1, a2, a3, a4⟩ := m_hears_ok hw hz hO hS (show k < ct T 1 by omega) hpe.1.2 hpe.2.1.2
      have h77 : rI S1 500 77 = nI l.length := (a2.i (by rfl)).trans hl.1
      have hl1 : LC T Z l S1 := hl.fr a2 (by rfl) fun k => ⟨rfl, rfl, rfl⟩
      have f1 : Fr fLC S1 (wI (wI (wI (wI S1 558 l.length (whM T Z k (vN T 512 p) (vN T 513 p))) 559 l.length (ecM T Z k (vN T 512 p) (vN T 513 p))) 560 l.length (nI (16 * p + k))) 500 77 (nI (l.length + 1))) := (((Fr.wI rfl).tr (Fr.wI rfl)).tr (Fr.wI rfl)).tr (Fr.wI rfl)
      have hl2 : LC T Z (l ++ [(p, k)]) (wI (wI (wI (wI S1 558 l.length (whM T Z k (vN T 512 p) (vN T 513 p))) 559 l.length (ecM T Z k (vN T 512 p) (vN T 513 p))) 560 l.length (nI (16 * p + k))) 500 77 (nI (l.length + 1))) := by
        refine ⟨by rw [rI_wI, List.length_append]; rfl, fun i hi => ?_⟩
        rw [List.length_append] at hi
        have hi : i < l.length + 1 := hi
        by_cases q : i = l.length
        · subst q
          rw [getD_e]
          refine ⟨?_, ?_, ?_⟩
          · rw [rI_wI_a (by decide), rI_wI_a (by decide), rI_wI_a (by decide), rI_wI]
          · rw [rI_wI_a (by decide), rI_wI_a (by decide), rI_wI]
          · rw [rI_wI_a (by decide), rI_wI]
        · rw [getD_l l _ (show i < l.length by omega)]
          obtain ⟨r1, r2, r3⟩ := hl1.2 i (by omega)
          refine ⟨?_, ?_, ?_⟩
          · rw [rI_wI_a (by decide), rI_wI_a (by decide), rI_wI_a (by decide), rI_wI_k q, r1]
          · rw [rI_wI_a (by decide), rI_wI_a (by decide), rI_wI_k q, rI_wI_a (by decide), r2]
          · rw [rI_wI_a (by decide), rI_wI_k q, rI_wI_a (by decide), rI_wI_a (by decide), r3]
      obtain ⟨S', e1, e2, e3⟩ := lc_in hw hz hp k7 j (k + 1) m (l ++ [(p, k)]) _ ((hO.fr a2 fun a k q => frH_o q).fr f1 fun a k q => fLC_n (by omega) (by omega)) ((hS.fr a2 fun k => rfl).fr f1 fun k => rfl) hl2 (by omega) (by rw [List.length_append]; show l.length + 1 + j ≤ 80; omega) (by omega)
      refine ⟨S', ?_, by rw [cond_true, ← List.append_assoc]; exact e2, ((a2.mo fun a k q => (Bool.or_eq_false_iff.mp q).2).tr (f1.mo fun a k q => (Bool.or_eq_false_iff.mp q).1)).tr e3⟩
      rw [if_neg bT, if_neg (nI_in (by omega) (by omega)), if_neg (nI_in (by omega) (by omega)), nI_clamp (by omega), hO.la (by omega), hO.lo (by omega), hpe.1.1, hpe.2.1.1, a1, bnq, h77, if_neg (nI_in (by omega) (by omega)), nI_clamp (by omega), a3, ltq (wI S1 558 _ _), rI_wI_a (S := S1) (a := 558) (b := 500) (by decide), h77, if_neg (nI_in (by omega) (by omega)), nI_clamp (by omega), rI_wI_a (S := S1) (a := 558) (b := 500) (by decide), a4, ltq (wI (wI S1 558 _ _) 559 _ _), rI_wI_a (S := wI S1 558 _ _) (a := 559) (b := 500) (by decide), rI_wI_a (S := S1) (a := 558) (b := 500) (by decide), h77, if_neg (nI_in (by omega) (by omega)), nI_clamp (by omega), x16, ltq (wI (wI (wI S1 558 _ _) 559 _ _) 560 _ _), rI_wI_a (S := wI (wI S1 558 _ _) 559 _ _) (a := 560) (b := 500) (by decide), rI_wI_a (S := wI S1 558 _ _) (a := 559) (b := 500) (by decide), rI_wI_a (S := S1) (a := 558) (b := 500) (by decide), h77, nI_1, ltq, ltq, nI_1]
      exact e1
theorem lc_out (hw : WF T W V) (hz : WZ T Z) : ∀ (j p m : Nat) (l : List (Nat × Nat)) (S : St), OM T S → SM Z S → LC T Z l S → p + j = ct T 2 → l.length + 16 * j ≤ 80 → j < m → ∃ S', m_laysCalls_7 m (nI p) S = some ((), S') ∧ LC T Z (l ++ allL T W p j) S' ∧ Fr (fun a k => fLC a k || frH a k) S S'
  | 0, p, m, l, S, hO, hS, hl, hk, hlen, hm => by
    have hn := hw.b
    obtain ⟨m, rfl, hm⟩ := fuel hm
    rw [Nat.add_zero] at hk
    subst hk
    refine ⟨S, ?_, by rw [allL, List.append_nil]; exact hl, Fr.rf⟩
    rw [m_laysCalls_7, if_neg g2_12, c2, hO.n (by decide), hw.n (by decide), if_neg (nI_nlt (Nat.le_refl _) (by omega))]
    rfl
  | j + 1, p, m, l, S, hO, hS, hl, hk, hlen, hm => by
    have hn := hw.b
    obtain ⟨m, rfl, hm⟩ := fuel hm
    have hlen2 := rowL_len T W p (ct T 1) 0
    obtain ⟨S1, a1, a2, a3⟩ := lc_in hw hz (show p < ct T 2 by omega) (m_laysCalls_7 m) (ct T 1) 0 FU l S hO hS hl (Nat.zero_add _) (by omega) (by unfold FU; omega)
    have fn : ∀ a k : Nat, a ≠ 500 → a < 558 → (fLC a k || frH a k) = false := fun a k q q2 => by
      rw [fLC_n (Or.inl q) (by omega)]
      unfold frH
      rw [beq_eq_false_iff_ne.mpr q]
      rfl
    obtain ⟨S', e1, e2, e3⟩ := lc_out hw hz j (p + 1) m (l ++ rowL T W p 0 (ct T 1)) S1 (hO.fr a3 fun a k q => fn _ _ (by omega) (by omega)) (hS.fr a3 fun k => fn _ _ (by decide) (by decide)) a2 (by omega) (by rw [List.length_append]; omega) (by omega)
    refine ⟨S', ?_, by rw [allL, ← List.append_assoc]; exact e2, a3.tr e3⟩
    rw [m_laysCalls_7, if_neg g2_12, c2, hO.n (by decide), hw.n (by decide), if_pos (nI_lt (by omega) (by omega)), (show m_laysCalls_19 (m_laysCalls_7 m) FU (nI p) 0 S = _ from a1)]
    unfold m_laysCalls_115
    rw [ltq, nI_1]
    exact e1
/-- all the calls that can be made, in their order -/
def CL (T : St) (W : Nat → List Nat) : List (Nat × Nat) := allL T W 0 (ct T 2)
theorem m_laysCalls_ok (hw : WF T W V) (hz : WZ T Z) (hO : OM T S) (hS : SM Z S) : ∃ S', m_laysCalls S = some ((), S') ∧ LC T Z (CL T W) S' ∧ Fr (fun a k => fLC a k || frH a k) S S' := by
  have hn := hw.b
  have f0 : Fr fLC S (wI S 500 77 0) := Fr.wI rfl
  obtain ⟨S', e1, e2, e3⟩ := lc_out hw hz (ct T 2) 0 FU [] (wI S 500 77 0) (hO.fr f0 fun a k q => fLC_n (by omega) (by omega)) (hS.fr f0 fun k => rfl) ⟨rI_wI, fun i hi => absurd hi (Nat.not_lt_zero _)⟩ (Nat.zero_add _) (by show 0 + _ ≤ _; omega) (by unfold FU; omega)
  refine ⟨S', ?_, e2, (f0.mo fun a k q => (Bool.or_eq_false_iff.mp q).1).tr e3⟩
  unfold m_laysCalls
  rw [ltq]
  exact e1
end LAYS
