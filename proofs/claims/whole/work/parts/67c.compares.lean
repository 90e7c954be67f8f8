/-! An orchard is laid: two words compared. -/
section COMPARES
variable {n p b k i d s s' bz j mo mm a v : Nat} {w u : List Nat} {tx : Nat → Int32} {T T' So Sm S S' So' Sm' : St} {P Q : Nat → Nat → Bool} {c c' : Nat → Nat}
/-- the edits between the first letters -/
def lvW (w u : List Nat) (i j : Nat) : Nat := lv (fun i => w.getD i 0) (fun i => u.getD i 0) i j
theorem lvW_B (w u : List Nat) (i j : Nat) : lvW w u i j ≤ i + j := lv_B _ _ _ _ _ (Nat.le_refl _)
/-- the rows that are done: all before i, and j of row i -/
def EDT (w u : List Nat) (i j : Nat) (S : St) : Prop := ∀ x y, y ≤ u.length → x ≤ 8 → (x < i ∨ (x = i ∧ y < j)) → rI S 542 (9 * x + y) = nI (lvW w u x y)
theorem EDT.add (hu : u.length ≤ 8) (h : EDT w u i j S) (hi : i ≤ 8) (hj : j ≤ 8) : EDT w u i (j + 1) (wI S 542 (9 * i + j) (nI (lvW w u i j))) := fun x y hy hx hq => by
  by_cases q : x = i ∧ y = j
  · obtain ⟨rfl, rfl⟩ := q
    exact rI_wI
  · rw [rI_wI_k (by omega)]
    exact h x y hy hx (by omega)
theorem lvW_s (w u : List Nat) (i j : Nat) : nI (lvW w u (i + 1) (j + 1)) = mn (nI (lvW w u i j + if w.getD i 0 = u.getD j 0 then 0 else 1)) (1 + mn (nI (lvW w u i (j + 1))) (nI (lvW w u (i + 1) j))) ∨ 2 ^ 20 ≤ i + j := by
  by_cases hb : 2 ^ 20 ≤ i + j
  · exact Or.inr hb
  refine Or.inl ?_
  have b1' := lvW_B w u i j
  have b2' := lvW_B w u i (j + 1)
  have b3' := lvW_B w u (i + 1) j
  have e : lvW w u (i + 1) (j + 1) = min (lvW w u i j + if w.getD i 0 = u.getD j 0 then 0 else 1) (1 + min (lvW w u i (j + 1)) (lvW w u (i + 1) j)) := lv_s _ _ _ _
  have mnN : ∀ x y : Nat, x < 2 ^ 31 → y < 2 ^ 31 → mn (nI x) (nI y) = nI (min x y) := fun x y hx hy => by
    unfold mn
    by_cases q : y < x
    · rw [if_pos (nI_lt q hx), Nat.min_eq_right (by omega)]
    · rw [if_neg (nI_nlt (by omega) (by omega)), Nat.min_eq_left (by omega)]
  have hs : (if w.getD i 0 = u.getD j 0 then 0 else 1) ≤ 1 := by split <;> omega
  rw [e, mnN _ _ (by omega) (by omega), show (1 : Int32) = nI 1 from rfl, nI_add, mnN _ _ (by omega) (by omega)]
/-- a cell on the rim -/
theorem cm_67 (k50 : Int32 → Int32 → Int32 → Int32 → Int32 → St → Re Unit) (v3 v4 v5 : Int32) (hi : i ≤ 8) (hj : j ≤ 8) (h : i = 0 ∨ j = 0) : m_compares_67 k50 v3 v4 v5 (nI i) (nI j) S = k50 v3 v4 v5 (nI i) (nI (j + 1)) (wI S 542 (9 * i + j) (nI (lvW w u i j))) := by
  have e : lvW w u i j = i + j := by
    unfold lvW
    rcases h with rfl | rfl
    · rw [lv_0j]; omega
    · rw [lv_i0]; omega
  unfold m_compares_67 m_compares_187
  rw [(show (9 : Int32) * nI i + nI j = nI (9 * i + j) from ixR 9 i j), if_neg (nI_in (show 9 * i + j < 81 by omega) (by decide)), nI_clamp (by omega), nI_add, ltq (wI S 542 _ _), nI_1, ltq, e]
/-- a row -/
theorem cm_row (hw : WD w) (hu : WD u) (k40 : Int32 → Int32 → Int32 → Int32 → St → Re Unit) (v3 : Int32) (hi : i ≤ w.length) : ∀ (c j m : Nat) (S : St), j + c = u.length + 1 → c < m → AB w u S → EDT w u i j S → ∃ S', m_compares_50 k40 m v3 (nI w.length) (nI u.length) (nI i) (nI j) S = k40 v3 (nI w.length) (nI u.length) (nI (i + 1)) S' ∧ EDT w u (i + 1) 0 S' ∧ Fr (fAr 542) S S'
  | 0, j, m, S, hj, hm, hA, hE => by
    obtain ⟨m, rfl, hm⟩ := fuel hm
    have l2 := hu.2.1
    rw [m_compares_50, if_pos (nI_lt (show u.length < j by omega) (by omega))]
    unfold m_compares_193
    rw [nI_1, ltq]
    exact ⟨S, rfl, fun x y hy hx hq => hE x y hy hx (by omega), Fr.rf⟩
  | c + 1, j, m, S, hj, hm, hA, hE => by
    obtain ⟨m, rfl, hm⟩ := fuel hm
    have l1 := hw.2.1
    have l2 := hu.2.1
    have fw : ∀ x : Int32, Fr (fAr 542) S (wI S 542 (9 * i + j) x) := fun x => Fr.wI (by unfold fAr; simp)
    obtain ⟨S', g1, g2, g3⟩ := cm_row hw hu k40 v3 hi c (j + 1) m (wI S 542 (9 * i + j) (nI (lvW w u i j))) (by omega) (by omega) (hA.fr (fw _) fun k => ⟨fAr_n (by decide), fAr_n (by decide)⟩) (hE.add l2 (by omega) (by omega))
    refine ⟨S', ?_, g2, (fw _).tr g3⟩
    rw [m_compares_50, if_neg (nI_nlt (show j ≤ u.length by omega) (by omega))]
    by_cases q1 : i = 0
    · rw [if_pos (by rw [q1]; rfl), cm_67 (w := w) (u := u) _ v3 _ _ (show i ≤ 8 by omega) (show j ≤ 8 by omega) (Or.inl q1)]
      exact g1
    rw [if_neg (nI_ne0 (by omega) (by omega))]
    by_cases q2 : j = 0
    · rw [if_pos (by rw [q2]; rfl), cm_67 (w := w) (u := u) _ v3 _ _ (show i ≤ 8 by omega) (show j ≤ 8 by omega) (Or.inr q2)]
      exact g1
    rw [if_neg (nI_ne0 (by omega) (by omega))]
    obtain ⟨i', rfl⟩ : ∃ i', i = i' + 1 := ⟨i - 1, by omega⟩
    obtain ⟨j', rfl⟩ : ∃ j', j = j' + 1 := ⟨j - 1, by omega⟩
    have ei : nI (i' + 1) - (1 : Int32) = nI i' := nI_sub (a := i' + 1) (b := 1) (by omega)
    have ej : nI (j' + 1) - (1 : Int32) = nI j' := nI_sub (a := j' + 1) (b := 1) (by omega)
    have e9 : (9 : Int32) * nI i' + nI (j' + 1) = nI (9 * i' + (j' + 1)) := ixR 9 i' (j' + 1)
    have e9' : nI (9 * i' + (j' + 1)) - (1 : Int32) = nI (9 * i' + j') := nI_sub (a := 9 * i' + (j' + 1)) (b := 1) (by omega)
    have e8 : (9 : Int32) * nI (i' + 1) + nI (j' + 1) = nI (9 * (i' + 1) + (j' + 1)) := ixR 9 (i' + 1) (j' + 1)
    have e8' : nI (9 * (i' + 1) + (j' + 1)) - (1 : Int32) = nI (9 * (i' + 1) + j') := nI_sub (a := 9 * (i' + 1) + (j' + 1)) (b := 1) (by omega)
    have d0 := hE i' j' (by omega) (by omega) (Or.inl (by omega))
    have d1 := hE i' (j' + 1) (by omega) (by omega) (Or.inl (by omega))
    have d2 := hE (i' + 1) j' (by omega) (by omega) (Or.inr ⟨rfl, by omega⟩)
    have hm1 : ∀ y : Nat, y = (if w.getD i' 0 = u.getD j' 0 then 0 else 1) → m_compares_131 (m_compares_50 k40 m) v3 (nI w.length) (nI u.length) (nI (i' + 1)) (nI (j' + 1)) (nI y) (nI (lvW w u i' j')) S = m_compares_50 k40 m v3 (nI w.length) (nI u.length) (nI (i' + 1)) (nI (j' + 1 + 1)) (wI S 542 (9 * (i' + 1) + (j' + 1)) (nI (lvW w u (i' + 1) (j' + 1)))) := fun y hy => by
      unfold m_compares_131 m_compares_187
      rw [ltq, ei, e9, e8, e8', if_neg (nI_in (show 9 * i' + (j' + 1) < 81 by omega) (by decide)), if_neg (nI_in (show 9 * (i' + 1) + j' < 81 by omega) (by decide)), nI_clamp (show 9 * i' + (j' + 1) < 2 ^ 31 by omega), nI_clamp (show 9 * (i' + 1) + j' < 2 ^ 31 by omega), d1, d2, m_mn, bnq, nI_add, m_mn, bnq, if_neg (nI_in (show 9 * (i' + 1) + (j' + 1) < 81 by omega) (by decide)), nI_clamp (show 9 * (i' + 1) + (j' + 1) < 2 ^ 31 by omega), ltq (wI S 542 _ _), nI_1, ltq]
      rcases lvW_s w u i' j' with e | e
      · rw [e, hy]
      · omega
    rw [ei, ej, e9, e9', if_neg (nI_in (show 9 * i' + j' < 81 by omega) (by decide)), if_neg (nI_in (show i' < 8 by omega) (by decide)), if_neg (nI_in (show j' < 8 by omega) (by decide)), nI_clamp (show i' < 2 ^ 31 by omega), nI_clamp (show j' < 2 ^ 31 by omega), nI_clamp (show 9 * i' + j' < 2 ^ 31 by omega), d0]
    by_cases q3 : w.getD i' 0 = u.getD j' 0
    · rw [if_pos ((ab_eq hA hw hu (by omega) (by omega)).mpr q3)]
      exact (hm1 0 (by rw [if_pos q3])).trans g1
    · rw [if_neg (fun q => q3 ((ab_eq hA hw hu (by omega) (by omega)).mp q))]
      exact (hm1 1 (by rw [if_neg q3])).trans g1
theorem cm_rows (hw : WD w) (hu : WD u) (v3 : Int32) : ∀ (c i m : Nat) (S : St), i + c = w.length + 1 → c < m → AB w u S → EDT w u i 0 S → ∃ S', m_compares_40 m v3 (nI w.length) (nI u.length) (nI i) S = m_compares_199 v3 (nI w.length) (nI u.length) S' ∧ EDT w u (w.length + 1) 0 S' ∧ Fr (fAr 542) S S'
  | 0, i, m, S, hi, hm, hA, hE => by
    obtain ⟨m, rfl, hm⟩ := fuel hm
    have l1 := hw.2.1
    rw [m_compares_40, if_pos (nI_lt (show w.length < i by omega) (by omega))]
    obtain rfl : i = w.length + 1 := by omega
    exact ⟨S, rfl, hE, Fr.rf⟩
  | c + 1, i, m, S, hi, hm, hA, hE => by
    obtain ⟨m, rfl, hm⟩ := fuel hm
    have l1 := hw.2.1
    have l2 := hu.2.1
    obtain ⟨S1, a1, a2, a3⟩ := cm_row hw hu (m_compares_40 m) v3 (show i ≤ w.length by omega) (u.length + 1) 0 FU S (by omega) (by unfold FU; omega) hA hE
    obtain ⟨S', g1, g2, g3⟩ := cm_rows hw hu v3 c (i + 1) m S1 (by omega) (by omega) (hA.fr a3 fun k => ⟨fAr_n (by decide), fAr_n (by decide)⟩) a2
    rw [m_compares_40, if_neg (nI_nlt (show i ≤ w.length by omega) (by omega)), (show m_compares_50 (m_compares_40 m) FU v3 (nI w.length) (nI u.length) (nI i) 0 S = _ from a1), g1]
    exact ⟨S', rfl, g2, a3.tr g3⟩
/-- whether two SOUNDs are near, as the reference's law says -/
def NLm (W : Nat → List Nat) (NB : Nat → Nat → Bool) (S : St) : Prop := (rI S 522 0 = rI S 521 0 ∧ ∀ a b, edt (W a) (W b) < 2 ^ 31 → NB a b = decide (edt (W a) (W b) = 0)) ∨ (rI S 522 0 ≠ rI S 521 0 ∧ ∃ fr cs, rI S 521 0 = nI fr ∧ rI S 522 0 = nI (fr + cs.length) ∧ fr + cs.length ≤ 2000 ∧ (∀ i, i < cs.length → rI S 523 (fr + i) = nI (cs.getD i 0) ∧ cs.getD i 0 < 20000) ∧ ∀ a b, ∀ X : Nat → Int32, X 1 = nI (edt (W a) (W b)) → X 2 = nI (cpl (W a) (W b)) → X 3 = nI (csl (W a) (W b)) → X 4 = nI (W a).length → ∃ f v, lrun X cs ([f0 false], none) = some ([f], some v) ∧ NB a b = decide (fullV f v ≠ 0))
theorem NLm.fr {W : Nat → List Nat} {NB : Nat → Nat → Bool} (h : NLm W NB S) (f : Fr P S S') (hp : ∀ k, P 521 k = false ∧ P 522 k = false ∧ P 523 k = false) : NLm W NB S' := by
  rcases h with ⟨h1, h2⟩ | ⟨h1, fr, cs, h2, h3, h4, h5, h6⟩
  · exact Or.inl ⟨by rw [f.i (hp _).2.1, f.i (hp _).1]; exact h1, h2⟩
  · exact Or.inr ⟨by rw [f.i (hp _).2.1, f.i (hp _).1]; exact h1, fr, cs, (f.i (hp _).1).trans h2, (f.i (hp _).2.1).trans h3, h4, fun i hi => by rw [f.i (hp _).2.2]; exact h5 i hi, h6⟩
/-- what a comparing writes -/
def fCp (v : Nat) : Nat → Nat → Bool := fun b k => (decide (526 ≤ b) && decide (b ≤ 535)) || b == 540 || b == 541 || b == 542 || ((decide (536 ≤ b) && decide (b ≤ 539)) && k == v)
theorem fCp_n {v b k : Nat} (h : ¬ (526 ≤ b ∧ b ≤ 535)) (h2 : b ≠ 540 ∧ b ≠ 541 ∧ b ≠ 542) (h3 : ¬ (536 ≤ b ∧ b ≤ 539 ∧ k = v)) : fCp v b k = false := by
  unfold fCp
  simp
  omega
theorem cm_ok {W : Nat → List Nat} {NB : Nat → Nat → Bool} {x y : Nat} (hx : x < 16) (hy : y < 16) (hw : WD (W x)) (hu : WD (W y)) (h3 : rJ S 503 x = lN (p27 0 (W x))) (h4 : rJ S 503 y = lN (p27 0 (W y))) (hN : NLm W NB S) : ∃ S', m_compares (nI x) (nI y) S = some ((), S') ∧ Fr (fCp (16 * x + y)) S S' ∧ rI S' 536 (16 * x + y) = nI (edt (W x) (W y)) ∧ rI S' 537 (16 * x + y) = nI (cpl (W x) (W y)) ∧ rI S' 538 (16 * x + y) = nI (csl (W x) (W y)) ∧ rI S' 539 (16 * x + y) = bI (NB x y) := by
  have l1 := hw.2.1
  have l2 := hu.2.1
  obtain ⟨S1, a1, a2, a3⟩ := sp_ok (a := 540) rfl hw S
  obtain ⟨S2, b1', b2', b3'⟩ := sp_ok (a := 541) rfl hu S1
  have hA : AB (W x) (W y) S2 := ⟨fun k hk => (b3'.i (fAr_n (by decide))).trans (a2 k hk), b2'⟩
  obtain ⟨S3, c1', c2', c3'⟩ := cm_rows hw hu (nI (16 * x + y)) ((W x).length + 1) 0 FU S2 (by omega) (by unfold FU; omega) hA (fun x y hy hx hq => absurd hq (by omega))
  have hA3 := hA.fr c3' fun k => ⟨fAr_n (by decide), fAr_n (by decide)⟩
  have e36 : rI S3 542 (9 * (W x).length + (W y).length) = nI (edt (W x) (W y)) := c2' _ _ (Nat.le_refl _) (by omega) (by omega)
  unfold m_compares
  rw [(show (16 : Int32) * nI x + nI y = nI (16 * x + y) from ixR 16 x y), ltq, if_neg (nI_in (show x < 32 by omega) (by decide)), nI_clamp (show x < 2 ^ 31 by omega), h3, a1, bnq, if_neg (nI_in (show y < 32 by omega) (by decide)), nI_clamp (show y < 2 ^ 31 by omega), a3.j (fAr_n (by decide)), h4, b1', bnq, (show m_compares_40 FU (nI (16 * x + y)) _ _ 0 S2 = _ from c1')]
  unfold m_compares_199
  have gv : ¬ (nI (16 * x + y) < 0 ∨ 256 ≤ (nI (16 * x + y)).toNatClampNeg) := nI_in (show 16 * x + y < 256 by omega) (by decide)
  have gC : ¬ (nI (16 * x + y) < 0 ∨ 256 ≤ 16 * x + y) := nI_inC (show 16 * x + y < 256 by omega) (by decide)
  have cv : (nI (16 * x + y)).toNatClampNeg = 16 * x + y := nI_clamp (by omega)
  rw [(show (9 : Int32) * nI (W x).length + nI (W y).length = nI (9 * (W x).length + (W y).length) from ixR 9 _ _), if_neg (nI_in (show 9 * (W x).length + (W y).length < 81 by omega) (by decide)), nI_clamp (show 9 * (W x).length + (W y).length < 2 ^ 31 by omega), e36, if_neg gv, cv, ltq (wI S3 536 _ _)]
  have hA4 : AB (W x) (W y) (wI S3 536 (16 * x + y) (nI (edt (W x) (W y)))) := hA3.fr (Fr.wI rfl : Fr (fun a _ => a == 536) S3 _) fun k => ⟨rfl, rfl⟩
  rw [(show m_compares_221 FU _ _ _ 0 _ = _ from cp_loop hA4 hw hu (nI (16 * x + y)) (cpl (W x) (W y)) 0 FU (by omega) (by have := (cpl_le (W x) (W y)).1; unfold FU; omega))]
  unfold m_compares_258
  rw [if_neg gv, cv, ltq (wI (wI S3 536 _ _) 537 _ _)]
  have hA5 : AB (W x) (W y) (wI (wI S3 536 (16 * x + y) (nI (edt (W x) (W y)))) 537 (16 * x + y) (nI (cpl (W x) (W y)))) := hA4.fr (Fr.wI rfl : Fr (fun a _ => a == 537) _ _) fun k => ⟨rfl, rfl⟩
  have hcs : csl (W x) (W y) ≤ (W x).length := by
    have := (cpl_le (W x).reverse (W y).reverse).1
    rw [List.length_reverse] at this
    exact this
  rw [(show m_compares_269 FU _ _ _ 0 _ = _ from cs_loop hA5 hw hu (nI (16 * x + y)) (csl (W x) (W y)) 0 FU (by omega) (by unfold FU; omega))]
  have f5 : Fr (fCp (16 * x + y)) S (wI (wI (wI S3 536 (16 * x + y) (nI (edt (W x) (W y)))) 537 (16 * x + y) (nI (cpl (W x) (W y)))) 538 (16 * x + y) (nI (csl (W x) (W y)))) := ((((a3.mo fun b k q => ?_).tr (b3'.mo fun b k q => ?_)).tr (c3'.mo fun b k q => ?_)).tr (((Fr.wI ?_).tr (Fr.wI ?_)).tr (Fr.wI ?_)))
  rotate_left
  · unfold fCp at q; unfold fAr; simp at q ⊢; omega
  · unfold fCp at q; unfold fAr; simp at q ⊢; omega
  · unfold fCp at q; unfold fAr; simp at q ⊢; omega
  · unfold fCp; simp
  · unfold fCp; simp
  · unfold fCp; simp
  unfold m_compares_316
  have hN5 := hN.fr f5 fun k => ⟨fCp_n (by omega) (by omega) (by omega), fCp_n (by omega) (by omega) (by omega), fCp_n (by omega) (by omega) (by omega)⟩
  rw [if_neg gv, cv, ltq (wI (wI (wI S3 536 _ _) 537 _ _) 538 _ _), if_neg (show ¬ ((0 : Int32) < 0 ∨ 4 ≤ (0 : Int32).toNatClampNeg) by decide), if_neg (show ¬ ((0 : Int32) < 0 ∨ 4 ≤ (0 : Int32).toNatClampNeg) by decide), c0]
  have r6 : rI (wI (wI (wI S3 536 (16 * x + y) (nI (edt (W x) (W y)))) 537 (16 * x + y) (nI (cpl (W x) (W y)))) 538 (16 * x + y) (nI (csl (W x) (W y)))) 536 (16 * x + y) = nI (edt (W x) (W y)) := by rw [rI_wI_a (by decide), rI_wI_a (by decide), rI_wI]
  have r7 : rI (wI (wI (wI S3 536 (16 * x + y) (nI (edt (W x) (W y)))) 537 (16 * x + y) (nI (cpl (W x) (W y)))) 538 (16 * x + y) (nI (csl (W x) (W y)))) 537 (16 * x + y) = nI (cpl (W x) (W y)) := by rw [rI_wI_a (by decide), rI_wI]
  have r8 : rI (wI (wI (wI S3 536 (16 * x + y) (nI (edt (W x) (W y)))) 537 (16 * x + y) (nI (cpl (W x) (W y)))) 538 (16 * x + y) (nI (csl (W x) (W y)))) 538 (16 * x + y) = nI (csl (W x) (W y)) := rI_wI
  generalize wI (wI (wI S3 536 (16 * x + y) (nI (edt (W x) (W y)))) 537 (16 * x + y) (nI (cpl (W x) (W y)))) 538 (16 * x + y) (nI (csl (W x) (W y))) = S5 at *
  have hed : edt (W x) (W y) ≤ 16 := by
    have := edt_le (W x) (W y)
    omega
  have fin : ∀ (S6 : St) (z : Bool), Fr (fCp (16 * x + y)) S S6 → rI S6 536 (16 * x + y) = nI (edt (W x) (W y)) → rI S6 537 (16 * x + y) = nI (cpl (W x) (W y)) → rI S6 538 (16 * x + y) = nI (csl (W x) (W y)) → z = NB x y → ∃ S', some ((), wI S6 539 (16 * x + y) (vp_nar .boolean (bI z))) = some ((), S') ∧ Fr (fCp (16 * x + y)) S S' ∧ rI S' 536 (16 * x + y) = nI (edt (W x) (W y)) ∧ rI S' 537 (16 * x + y) = nI (cpl (W x) (W y)) ∧ rI S' 538 (16 * x + y) = nI (csl (W x) (W y)) ∧ rI S' 539 (16 * x + y) = bI (NB x y) := fun S6 z q1 q2 q3 q4 q5 => by
    refine ⟨_, rfl, q1.tr (Fr.wI (by unfold fCp; simp)), (rI_wI_a (by decide)).trans q2, (rI_wI_a (by decide)).trans q3, (rI_wI_a (by decide)).trans q4, ?_⟩
    rw [rI_wI, nar_b, q5]
  unfold m_compares_358 m_compares_422
  rcases hN5 with ⟨n1, n2⟩ | ⟨n1, fr, cs, n2, n3, n4, n5, n6⟩
  · rw [if_pos n1, if_neg gC, r6]
    by_cases q : edt (W x) (W y) = 0
    · rw [if_pos (show nI (edt (W x) (W y)) = 0 by rw [q]; rfl), if_neg gv, cv, ltq]
      exact fin S5 true f5 r6 r7 r8 (by rw [n2 x y (by omega), decide_eq_true q])
    · rw [if_neg (show ¬ nI (edt (W x) (W y)) = 0 from nI_ne0 (by omega) (by omega)), if_neg gv, cv, ltq]
      exact fin S5 false f5 r6 r7 r8 (by rw [n2 x y (by omega), decide_eq_false q])
  · rw [if_neg n1, if_neg gC, if_neg (show ¬ ((1 : Int32) < 0 ∨ 20 ≤ (1 : Int32).toNatClampNeg) by decide), c1, r6, ltq (wI S5 535 1 _), if_neg gC, if_neg (show ¬ ((2 : Int32) < 0 ∨ 20 ≤ (2 : Int32).toNatClampNeg) by decide), c2, rI_wI_a (show 537 ≠ 535 by decide), r7, ltq (wI (wI S5 535 1 _) 535 2 _), if_neg gC, if_neg (show ¬ ((3 : Int32) < 0 ∨ 20 ≤ (3 : Int32).toNatClampNeg) by decide), c3, rI_wI_a (show 538 ≠ 535 by decide), rI_wI_a (show 538 ≠ 535 by decide), r8, ltq (wI (wI (wI S5 535 1 _) 535 2 _) 535 3 _), if_neg (show ¬ ((4 : Int32) < 0 ∨ 20 ≤ (4 : Int32).toNatClampNeg) by decide), c4, ltq (wI (wI (wI (wI S5 535 1 _) 535 2 _) 535 3 _) 535 4 _)]
    have f9 : Fr (fAr 535) S5 (wI (wI (wI (wI S5 535 1 (nI (edt (W x) (W y)))) 535 2 (nI (cpl (W x) (W y)))) 535 3 (nI (csl (W x) (W y)))) 535 4 (nI (W x).length)) := (((Fr.wI (by unfold fAr; simp)).tr (Fr.wI (by unfold fAr; simp))).tr (Fr.wI (by unfold fAr; simp))).tr (Fr.wI (by unfold fAr; simp))
    have x1 : rI (wI (wI (wI (wI S5 535 1 (nI (edt (W x) (W y)))) 535 2 (nI (cpl (W x) (W y)))) 535 3 (nI (csl (W x) (W y)))) 535 4 (nI (W x).length)) 535 1 = nI (edt (W x) (W y)) := by rw [rI_wI_k (by decide), rI_wI_k (by decide), rI_wI_k (by decide), rI_wI]
    have x2 : rI (wI (wI (wI (wI S5 535 1 (nI (edt (W x) (W y)))) 535 2 (nI (cpl (W x) (W y)))) 535 3 (nI (csl (W x) (W y)))) 535 4 (nI (W x).length)) 535 2 = nI (cpl (W x) (W y)) := by rw [rI_wI_k (by decide), rI_wI_k (by decide), rI_wI]
    have x3 : rI (wI (wI (wI (wI S5 535 1 (nI (edt (W x) (W y)))) 535 2 (nI (cpl (W x) (W y)))) 535 3 (nI (csl (W x) (W y)))) 535 4 (nI (W x).length)) 535 3 = nI (csl (W x) (W y)) := by rw [rI_wI_k (by decide), rI_wI]
    have x4 : rI (wI (wI (wI (wI S5 535 1 (nI (edt (W x) (W y)))) 535 2 (nI (cpl (W x) (W y)))) 535 3 (nI (csl (W x) (W y)))) 535 4 (nI (W x).length)) 535 4 = nI (W x).length := rI_wI
    generalize wI (wI (wI (wI S5 535 1 (nI (edt (W x) (W y)))) 535 2 (nI (cpl (W x) (W y)))) 535 3 (nI (csl (W x) (W y)))) 535 4 (nI (W x).length) = S9 at *
    obtain ⟨f, v, y1, y2⟩ := n6 x y (rI S9 535) x1 x2 x3 x4
    have hW : WK 0 fr cs (rI S9 535) S9 := ⟨by decide, (f9.i (fAr_n (by decide))).trans n2, (f9.i (fAr_n (by decide))).trans n3, n4, fun i hi => by
      rw [f9.i (fAr_n (by decide))]
      exact n5 i hi, fun c _ => rfl⟩
    obtain ⟨S10, z1, z2⟩ := m_worked_ok hW y1
    have fE : Fr (fCp (16 * x + y)) S S10 := (f5.tr (f9.mo fun b k q => by
      unfold fCp at q
      unfold fAr
      simp at q ⊢
      omega)).tr (z2.mo fun b k q => by
      unfold fCp at q
      unfold frEA
      simp at q ⊢
      omega)
    have g6 : ∀ b k, 536 ≤ b → b ≤ 538 → rI S10 b k = rI S5 b k := fun b k q1 q2 => (z2.i (by unfold frEA; simp; omega)).trans (f9.i (fAr_n (by omega)))
    rw [(show m_worked 0 S9 = _ from z1), bnq]
    by_cases q : fullV f v = 0
    · rw [if_pos q, if_neg gv, cv, ltq]
      exact fin S10 false fE ((g6 _ _ (by decide) (by decide)).trans r6) ((g6 _ _ (by decide) (by decide)).trans r7) ((g6 _ _ (by decide) (by decide)).trans r8) (by rw [y2]; simp [q])
    · rw [if_neg q, if_neg gv, cv, ltq]
      exact fin S10 true fE ((g6 _ _ (by decide) (by decide)).trans r6) ((g6 _ _ (by decide) (by decide)).trans r7) ((g6 _ _ (by decide) (by decide)).trans r8) (by rw [y2]; simp [q])
end COMPARES
