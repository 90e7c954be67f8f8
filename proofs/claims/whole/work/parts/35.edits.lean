/-! The class's edits. -/
theorem j_min {a b : Nat} (ha : a < 2 ^ 31) (hb : b < 2 ^ 31) (S : St) : o_j_min (nI a) (nI b) S = some (nI (min a b), S) := by
  unfold o_j_min o_j_min_10
  by_cases q : b < a
  · rw [if_pos (nI_lt q ha), Nat.min_eq_right (by omega)]
  · rw [if_neg (nI_nlt (by omega) hb), Nat.min_eq_left (by omega)]
theorem j_max {a b : Nat} (ha : a < 2 ^ 31) (hb : b < 2 ^ 31) (S : St) : o_j_max (nI a) (nI b) S = some (nI (max a b), S) := by
  unfold o_j_max o_j_max_10
  by_cases q : a < b
  · rw [if_pos (nI_lt q hb), Nat.max_eq_right (by omega)]
  · rw [if_neg (nI_nlt (by omega) ha), Nat.max_eq_left (by omega)]
section EDT
variable {v cap n : Nat} {w : Nat → List Nat}
def frR (v : Nat) : Nat → Nat → Bool := fun a _ => a == v + 8
theorem frR_f {v x k : Nat} (h : x ≠ v + 8) : frR v x k = false := by simpa [frR] using h
theorem NW.row {S S' : St} (h : NW v cap n w S) (hf : Fr (frR v) S S') : NW v cap n w S' := h.fr hf (frR_f (by omega)) (fun k => frR_f (by omega))
theorem na_edits_in {a b : Nat} (hb : b < n) {i : Nat} (hi : i < (w a).length) (ha : a < n) (k44 : Nat → Int32 → Int32 → Int32 → Int32 → Int32 → St → Re Int32) : ∀ (c j m : Nat) (S : St), NW v cap n w S → 1 ≤ j → j + c = (w b).length + 1 → c < m → (∀ q, q ≤ (w b).length → rI S (v + 8) q = nI (if q < j then lv (fun i => (w a).getD i 0) (fun i => (w b).getD i 0) (i + 1) q else lv (fun i => (w a).getD i 0) (fun i => (w b).getD i 0) i q)) → ∃ S', o_na_edits_84 k44 m v (nI a) (nI b) (nI (w b).length) (nI (w a).length) (nI i) (nI ((w a).getD i 0)) (lN (pk5 ((w b).drop (j - 1)))) (nI (lv (fun i => (w a).getD i 0) (fun i => (w b).getD i 0) i (j - 1))) (nI j) S = k44 v (nI a) (nI b) (nI (w b).length) (nI (w a).length) (nI (i + 1)) S' ∧ Fr (frR v) S S' ∧ ∀ q, q ≤ (w b).length → rI S' (v + 8) q = nI (lv (fun i => (w a).getD i 0) (fun i => (w b).getD i 0) (i + 1) q) := by
  intro c
  induction c with
  | zero =>
    intro j m S h h1 hj hm hr
    obtain ⟨m, rfl, hm⟩ := fuel hm
    have hl := (h.wd hb).2.1
    refine ⟨S, ?_, Fr.rf, fun q hq => ?_⟩
    · rw [o_na_edits_84, if_pos (nI_lt (by omega) (by omega))]
      unfold o_na_edits_177
      simp only [ltq]
      rw [nI_1]
    · rw [hr q hq, if_pos (by omega)]
  | succ c ih =>
    intro j m S h h1 hj hm hr
    obtain ⟨m, rfl, hm⟩ := fuel hm
    have hl := (h.wd hb).2.1
    have hla := (h.wd ha).2.1
    have hu := (h.wd hb).ok
    have hw := (h.wd ha).ok
    obtain ⟨j, rfl⟩ : ∃ j', j = j' + 1 := ⟨j - 1, by omega⟩
    have hdl := hu.dr j
    have hB := hdl.B
    have hb1 := lv_B (fun i => (w a).getD i 0) (fun i => (w b).getD i 0) _ i j (Nat.le_refl _)
    have hb2 := lv_B (fun i => (w a).getD i 0) (fun i => (w b).getD i 0) _ i (j + 1) (Nat.le_refl _)
    have hb3 := lv_B (fun i => (w a).getD i 0) (fun i => (w b).getD i 0) _ (i + 1) j (Nat.le_refl _)
    have hk9 : Int32.ofNat 9 = nI 9 := rfl
    have hd : (w b).drop j = (w b).getD j 0 :: (w b).drop (j + 1) := by
      rw [List.getD_eq_getElem?_getD, List.getElem?_eq_getElem (show j < (w b).length by omega)]
      exact List.drop_eq_getElem_cons (by omega)
    have hgj := hu.ge j
    have hsh : lN (pk5 ((w b).drop j)) >>> ((5 : Int32).toInt64 &&& 63) = lN (pk5 ((w b).drop (j + 1))) := by
      rw [lN_shr5 (by omega), hd, pk5_div hgj]
    have r1 : rI S (v + 8) (j + 1) = nI (lv (fun i => (w a).getD i 0) (fun i => (w b).getD i 0) i (j + 1)) := by rw [hr (j + 1) (by omega), if_neg (by omega)]
    have r2 : rI S (v + 8) j = nI (lv (fun i => (w a).getD i 0) (fun i => (w b).getD i 0) (i + 1) j) := by rw [hr j (by omega), if_pos (by omega)]
    have body : ∀ p : Nat, p ≤ 1 → o_na_edits_120 (o_na_edits_84 k44 m) v (nI a) (nI b) (nI (w b).length) (nI (w a).length) (nI i) (nI ((w a).getD i 0)) (lN (pk5 ((w b).drop j))) (nI (j + 1)) (nI p) (nI (lv (fun i => (w a).getD i 0) (fun i => (w b).getD i 0) i j)) S = o_na_edits_84 k44 m v (nI a) (nI b) (nI (w b).length) (nI (w a).length) (nI i) (nI ((w a).getD i 0)) (lN (pk5 ((w b).drop (j + 1)))) (nI (lv (fun i => (w a).getD i 0) (fun i => (w b).getD i 0) i (j + 1))) (nI (j + 1 + 1)) (wI S (v + 8) (j + 1) (nI (min (lv (fun i => (w a).getD i 0) (fun i => (w b).getD i 0) i j + p) (1 + min (lv (fun i => (w a).getD i 0) (fun i => (w b).getD i 0) i (j + 1)) (lv (fun i => (w a).getD i 0) (fun i => (w b).getD i 0) (i + 1) j))))) := by
      intro p hp
      unfold o_na_edits_120
      simp only [ltq]
      rw [if_pos h.1, h.2.2.1, if_pos rfl, if_neg (nI_in (by omega) (by omega)), if_pos rfl, if_neg (nI_in (by omega) (by omega)), if_pos rfl, show nI (j + 1) - 1 = nI j from nI_pred j, if_neg (nI_in (by omega) (by omega)), nI_clamp (by omega), nI_clamp (by omega), r1, r2, j_min (by omega) (by omega), bn_some, show (1 : Int32) = nI 1 from rfl, nI_add, nI_add, j_min (by omega) (by omega), bn_some, if_pos rfl, if_neg (nI_inC (by omega) (by omega)), hsh, nI_add]
    have hwr : ∀ p, wI S (v + 8) (j + 1) p = wI S (v + 8) (j + 1) p := fun _ => rfl
    have fin : ∀ S1 : St, S1 = wI S (v + 8) (j + 1) (nI (lv (fun i => (w a).getD i 0) (fun i => (w b).getD i 0) (i + 1) (j + 1))) → ∃ S', o_na_edits_84 k44 m v (nI a) (nI b) (nI (w b).length) (nI (w a).length) (nI i) (nI ((w a).getD i 0)) (lN (pk5 ((w b).drop (j + 1)))) (nI (lv (fun i => (w a).getD i 0) (fun i => (w b).getD i 0) i (j + 1))) (nI (j + 1 + 1)) S1 = k44 v (nI a) (nI b) (nI (w b).length) (nI (w a).length) (nI (i + 1)) S' ∧ Fr (frR v) S S' ∧ ∀ q, q ≤ (w b).length → rI S' (v + 8) q = nI (lv (fun i => (w a).getD i 0) (fun i => (w b).getD i 0) (i + 1) q) := by
      intro S1 hS1
      have f1 : Fr (frR v) S S1 := hS1 ▸ Fr.wI (by simp [frR])
      obtain ⟨S', e1, e2, e3⟩ := ih (j + 1 + 1) m S1 (h.row f1) (by omega) (by omega) (by omega) (fun q hq => by
        rw [hS1]
        by_cases hqj : q = j + 1
        · rw [hqj, rI_wI, if_pos (by omega)]
        · rw [rI_wI_k hqj, hr q hq]
          by_cases hql : q < j + 1
          · rw [if_pos hql, if_pos (by omega)]
          · rw [if_neg hql, if_neg (by omega)])
      exact ⟨S', e1, f1.tr e2, e3⟩
    rw [o_na_edits_84, if_neg (nI_nlt (by omega) (by omega)), if_pos h.1, h.2.2.1, if_pos (by decide), hk9, if_pos (nI_lt (by omega) (by decide)), show j + 1 - 1 = j from rfl, lN_and31 (by omega), nI_l (by have := hw.ge i; omega), pk5_hd hdl.2, getD_drop, Nat.add_zero]
    by_cases q : (w a).getD i 0 = (w b).getD j 0
    · rw [if_pos (by rw [lg_cmp_eq, q]), show (0 : Int32) = nI 0 from rfl, body 0 (by omega)]
      refine fin _ ?_
      rw [lv_s, if_pos q]
    · rw [if_neg (by
        rw [lg_cmp_eq, lN_eqB (by omega) (by have := hw.ge i; omega)]
        exact fun e => q e.symm), show (1 : Int32) = nI 1 from rfl, body 1 (by omega)]
      refine fin _ ?_
      rw [lv_s, if_neg q]
theorem na_edits_out {a b : Nat} (hb : b < n) (ha : a < n) : ∀ (c i m : Nat) (S : St), NW v cap n w S → i + c = (w a).length → c < m → (∀ q, q ≤ (w b).length → rI S (v + 8) q = nI (lv (fun i => (w a).getD i 0) (fun i => (w b).getD i 0) i q)) → ∃ S', o_na_edits_44 m v (nI a) (nI b) (nI (w b).length) (nI (w a).length) (nI i) S = some (nI (edt (w a) (w b)), S') ∧ Fr (frR v) S S' := by
  intro c
  induction c with
  | zero =>
    intro i m S h hi hm hr
    obtain ⟨m, rfl, hm⟩ := fuel hm
    have hl := (h.wd hb).2.1
    have hla := (h.wd ha).2.1
    have hk9 : Int32.ofNat 9 = nI 9 := rfl
    refine ⟨S, ?_, Fr.rf⟩
    rw [o_na_edits_44, if_neg (nI_nlt (by omega) (by omega))]
    unfold o_na_edits_183 o_na_edits_202
    rw [if_pos h.1, h.2.2.1, if_pos (by decide), hk9, if_pos (nI_lt (by omega) (by decide)), if_pos rfl, if_neg (nI_in (by omega) (by omega)), nI_clamp (by omega), hr _ (Nat.le_refl _)]
    rw [Nat.add_zero] at hi
    rw [hi]
    rfl
  | succ c ih =>
    intro i m S h hi hm hr
    obtain ⟨m, rfl, hm⟩ := fuel hm
    have hl := (h.wd hb).2.1
    have hla := (h.wd ha).2.1
    have f1 : Fr (frR v) S (wI S (v + 8) 0 (nI (i + 1))) := Fr.wI (by simp [frR])
    obtain ⟨S1, e1, e2, e3⟩ := na_edits_in hb (i := i) (by omega) ha (o_na_edits_44 m) (w b).length 1 FU (wI S (v + 8) 0 (nI (i + 1))) (h.row f1) (Nat.le_refl _) (by omega) (by unfold FU; omega) (fun q hq => by
      by_cases h0 : q = 0
      · rw [h0, rI_wI, if_pos (by omega), lv_i0]
      · rw [rI_wI_k h0, hr q hq, if_neg (by omega)])
    obtain ⟨S2, e4, e5⟩ := ih (i + 1) m S1 ((h.row f1).row e2) (by omega) (by omega) e3
    refine ⟨S2, ?_, (f1.tr e2).tr e5⟩
    rw [o_na_edits_44, if_pos (nI_lt (by omega) (by omega)), if_pos h.1, na_letter h ha (by omega), bn_some, na_at h hb, bn_some, h.2.2.1, if_pos rfl, if_neg (by decide)]
    simp only [ltq]
    rw [nI_1, show (0 : Int32).toNatClampNeg = 0 by decide]
    have := e1
    rw [show 1 - 1 = 0 from rfl, lv_i0, List.drop_zero] at this
    rw [show (1 : Int32) = nI 1 from rfl, this]
    exact e4
theorem na_edits_ini {a b : Nat} (k : St → Re Int32) (hk : ∀ S, o_na_edits_41 v (nI a) (nI b) (nI (w b).length) (nI (w a).length) S = k S) : ∀ (c j m : Nat) (S : St), NW v cap n w S → j + c = 9 → c < m → (∀ q, q < j → rI S (v + 8) q = nI q) → ∃ S', o_na_edits_16 m v (nI a) (nI b) (nI (w b).length) (nI (w a).length) (nI j) S = k S' ∧ Fr (frR v) S S' ∧ ∀ q, q < 9 → rI S' (v + 8) q = nI q := by
  intro c
  have hk9 : Int32.ofNat 9 = nI 9 := rfl
  induction c with
  | zero =>
    intro j m S h hj hm hr
    obtain ⟨m, rfl, hm⟩ := fuel hm
    refine ⟨S, ?_, Fr.rf, fun q hq => hr q (by omega)⟩
    rw [o_na_edits_16, if_pos h.1, h.2.2.1, if_pos (by decide), hk9, if_neg (nI_nlt (by omega) (by omega)), hk]
  | succ c ih =>
    intro j m S h hj hm hr
    obtain ⟨m, rfl, hm⟩ := fuel hm
    have f1 : Fr (frR v) S (wI S (v + 8) j (nI j)) := Fr.wI (by simp [frR])
    obtain ⟨S', e1, e2, e3⟩ := ih (j + 1) m _ (h.row f1) (by omega) (by omega) (fun q hq => by
      by_cases h0 : q = j
      · rw [h0, rI_wI]
      · rw [rI_wI_k h0, hr q (by omega)])
    refine ⟨S', ?_, f1.tr e2, e3⟩
    rw [o_na_edits_16, if_pos h.1, h.2.2.1, if_pos (by decide), hk9, if_pos (nI_lt (by omega) (by decide)), if_pos rfl, if_neg (nI_in (by omega) (by omega)), nI_clamp (by omega)]
    simp only [ltq]
    rw [nI_1]
    exact e1
theorem na_edits {S : St} (h : NW v cap n w S) {a b : Nat} (ha : a < n) (hb : b < n) : ∃ S', o_na_edits v (nI a) (nI b) S = some (nI (edt (w a) (w b)), S') ∧ Fr (frR v) S S' := by
  have hl := (h.wd hb).2.1
  have hla := (h.wd ha).2.1
  obtain ⟨S1, e1, e2, e3⟩ := na_edits_ini (v := v) (w := w) (a := a) (b := b) (fun S => o_na_edits_41 v (nI a) (nI b) (nI (w b).length) (nI (w a).length) S) (fun _ => rfl) 9 0 FU S h rfl (by unfold FU; omega) (fun q hq => by omega)
  obtain ⟨S2, e4, e5⟩ := na_edits_out hb ha (w a).length 0 FU S1 (h.row e2) (by omega) (by unfold FU; omega) (fun q hq => by rw [e3 q (by omega), lv_0j])
  refine ⟨S2, ?_, e2.tr e5⟩
  unfold o_na_edits
  rw [if_pos h.1, na_letters h hb, bn_some, na_letters h ha, bn_some, show (0 : Int32) = nI 0 from rfl, e1]
  exact e4
end EDT
