/-! The reference's law, worked: the loop over its codes, the second part. -/
/-- what is done with a code -/
def wCh (k14 : Int32 → Int32 → Int32 → St → Re Int32) (v1 v2 v3 x1 : Int32) (S : St) : Re Int32 :=
    if x1 = (28 : Int32) then m_worked_46 k14 v1 v2 v3 x1 S
    else if x1 = (30 : Int32) then m_worked_46 k14 v1 v2 v3 x1 S
    else if x1 = (20 : Int32) then m_worked_89 k14 v1 v2 v3 x1 S
    else if x1 = (21 : Int32) then m_worked_89 k14 v1 v2 v3 x1 S
    else if x1 = (22 : Int32) then (if v2 < 0 ∨ 7 ≤ v2.toNatClampNeg then none else lt' (wI S 533 v2.toNatClampNeg x1) fun S2 => m_worked_329 k14 v1 v2 v3 S2)
    else if x1 = (24 : Int32) then m_worked_137 k14 v1 v2 v3 x1 S
    else if x1 = (25 : Int32) then m_worked_137 k14 v1 v2 v3 x1 S
    else if x1 = (26 : Int32) then m_worked_194 k14 v1 v2 v3 x1 S
    else if x1 = (27 : Int32) then m_worked_194 k14 v1 v2 v3 x1 S
    else if x1 < (100 : Int32) then (if x1 < (20 : Int32) then (if x1 < 0 ∨ 20 ≤ x1.toNatClampNeg then none else m_worked_243 k14 v1 v2 v3 x1 (rI S 535 x1.toNatClampNeg) S) else m_worked_243 k14 v1 v2 v3 x1 (0 : Int32) S)
    else m_worked_243 k14 v1 v2 v3 x1 ((x1 - (100 : Int32))) S
theorem w_go {line k hi c : Nat} {S : St} (m : Nat) (v2 : Int32) (hl : line < 4) (e : rI S 522 line = nI hi) (hk : k < hi) (hh : hi ≤ 2000) (hc : rI S 523 k = nI c) : m_worked_14 (m + 1) (nI line) v2 (nI k) S = wCh (m_worked_14 m) (nI line) v2 (nI k) (nI c) S := by
  rw [m_worked_14, if_neg (nI_in hl (by omega)), nI_clamp (by omega), e, if_pos (nI_lt hk (by omega)), if_neg (nI_in (by omega) (by omega)), nI_clamp (show k < 2 ^ 31 by omega), hc]
  simp only [ltq]
  rfl
section WCH
variable (k14 : Int32 → Int32 → Int32 → St → Re Int32) (v1 v2 v3 : Int32) (S : St)
theorem wCh_28 : wCh k14 v1 v2 v3 (nI 28) S = m_worked_46 k14 v1 v2 v3 (nI 28) S := by
  unfold wCh
  rw [if_pos (show nI 28 = 28 from rfl)]
theorem wCh_30 : wCh k14 v1 v2 v3 (nI 30) S = m_worked_46 k14 v1 v2 v3 (nI 30) S := by
  unfold wCh
  rw [if_neg (show ¬ nI 30 = 28 by decide), if_pos (show nI 30 = 30 from rfl)]
theorem wCh_20 : wCh k14 v1 v2 v3 (nI 20) S = m_worked_89 k14 v1 v2 v3 (nI 20) S := by
  unfold wCh
  rw [if_neg (show ¬ nI 20 = 28 by decide), if_neg (show ¬ nI 20 = 30 by decide), if_pos (show nI 20 = 20 from rfl)]
theorem wCh_21 : wCh k14 v1 v2 v3 (nI 21) S = m_worked_89 k14 v1 v2 v3 (nI 21) S := by
  unfold wCh
  rw [if_neg (show ¬ nI 21 = 28 by decide), if_neg (show ¬ nI 21 = 30 by decide), if_neg (show ¬ nI 21 = 20 by decide), if_pos (show nI 21 = 21 from rfl)]
theorem wCh_22 : wCh k14 v1 v2 v3 (nI 22) S = (if v2 < 0 ∨ 7 ≤ v2.toNatClampNeg then none else lt' (wI S 533 v2.toNatClampNeg (nI 22)) fun S2 => m_worked_329 k14 v1 v2 v3 S2) := by
  unfold wCh
  rw [if_neg (show ¬ nI 22 = 28 by decide), if_neg (show ¬ nI 22 = 30 by decide), if_neg (show ¬ nI 22 = 20 by decide), if_neg (show ¬ nI 22 = 21 by decide), if_pos (show nI 22 = 22 from rfl)]
theorem wCh_24 : wCh k14 v1 v2 v3 (nI 24) S = m_worked_137 k14 v1 v2 v3 (nI 24) S := by
  unfold wCh
  rw [if_neg (show ¬ nI 24 = 28 by decide), if_neg (show ¬ nI 24 = 30 by decide), if_neg (show ¬ nI 24 = 20 by decide), if_neg (show ¬ nI 24 = 21 by decide), if_neg (show ¬ nI 24 = 22 by decide), if_pos (show nI 24 = 24 from rfl)]
theorem wCh_25 : wCh k14 v1 v2 v3 (nI 25) S = m_worked_137 k14 v1 v2 v3 (nI 25) S := by
  unfold wCh
  rw [if_neg (show ¬ nI 25 = 28 by decide), if_neg (show ¬ nI 25 = 30 by decide), if_neg (show ¬ nI 25 = 20 by decide), if_neg (show ¬ nI 25 = 21 by decide), if_neg (show ¬ nI 25 = 22 by decide), if_neg (show ¬ nI 25 = 24 by decide), if_pos (show nI 25 = 25 from rfl)]
theorem wCh_26 : wCh k14 v1 v2 v3 (nI 26) S = m_worked_194 k14 v1 v2 v3 (nI 26) S := by
  unfold wCh
  rw [if_neg (show ¬ nI 26 = 28 by decide), if_neg (show ¬ nI 26 = 30 by decide), if_neg (show ¬ nI 26 = 20 by decide), if_neg (show ¬ nI 26 = 21 by decide), if_neg (show ¬ nI 26 = 22 by decide), if_neg (show ¬ nI 26 = 24 by decide), if_neg (show ¬ nI 26 = 25 by decide), if_pos (show nI 26 = 26 from rfl)]
theorem wCh_27 : wCh k14 v1 v2 v3 (nI 27) S = m_worked_194 k14 v1 v2 v3 (nI 27) S := by
  unfold wCh
  rw [if_neg (show ¬ nI 27 = 28 by decide), if_neg (show ¬ nI 27 = 30 by decide), if_neg (show ¬ nI 27 = 20 by decide), if_neg (show ¬ nI 27 = 21 by decide), if_neg (show ¬ nI 27 = 22 by decide), if_neg (show ¬ nI 27 = 24 by decide), if_neg (show ¬ nI 27 = 25 by decide), if_neg (show ¬ nI 27 = 26 by decide), if_pos (show nI 27 = 27 from rfl)]
theorem wCh_29 : wCh k14 v1 v2 v3 (nI 29) S = m_worked_243 k14 v1 v2 v3 (nI 29) 0 S := by
  unfold wCh
  rw [if_neg (show ¬ nI 29 = 28 by decide), if_neg (show ¬ nI 29 = 30 by decide), if_neg (show ¬ nI 29 = 20 by decide), if_neg (show ¬ nI 29 = 21 by decide), if_neg (show ¬ nI 29 = 22 by decide), if_neg (show ¬ nI 29 = 24 by decide), if_neg (show ¬ nI 29 = 25 by decide), if_neg (show ¬ nI 29 = 26 by decide), if_neg (show ¬ nI 29 = 27 by decide), if_pos (show nI 29 < 100 by decide), if_neg (show ¬ nI 29 < 20 by decide)]
theorem wCh_v {c : Nat} (hv : 100 ≤ c ∨ c < 20) (hc : c < 20000) {V : Nat → Int32} (hV : ∀ c, c < 20 → rI S 535 c = V c) : wCh k14 v1 v2 v3 (nI c) S = m_worked_243 k14 v1 v2 v3 (nI c) (if 100 ≤ c then nI (c - 100) else V c) S := by
  have hne : ∀ k : Nat, 20 ≤ k → k < 100 → ¬ nI c = nI k := fun k k1 k2 => by
    rw [nI_eq (by omega) (by omega)]
    omega
  unfold wCh
  rw [if_neg (show ¬ nI c = 28 from hne 28 (by decide) (by decide)), if_neg (show ¬ nI c = 30 from hne 30 (by decide) (by decide)), if_neg (show ¬ nI c = 20 from hne 20 (by decide) (by decide)), if_neg (show ¬ nI c = 21 from hne 21 (by decide) (by decide)), if_neg (show ¬ nI c = 22 from hne 22 (by decide) (by decide)), if_neg (show ¬ nI c = 24 from hne 24 (by decide) (by decide)), if_neg (show ¬ nI c = 25 from hne 25 (by decide) (by decide)), if_neg (show ¬ nI c = 26 from hne 26 (by decide) (by decide)), if_neg (show ¬ nI c = 27 from hne 27 (by decide) (by decide))]
  by_cases h100 : 100 ≤ c
  · rw [if_pos h100, if_neg (show ¬ nI c < 100 from nI_nlt (a := c) (b := 100) h100 (by omega)), show (100 : Int32) = nI 100 from rfl, nI_sub h100]
  · rw [if_neg h100, if_pos (show nI c < 100 from nI_lt (b := 100) (by omega) (by decide)), if_pos (show nI c < 20 from nI_lt (b := 20) (by omega) (by decide)), if_neg (nI_in (by omega) (by omega)), nI_clamp (by omega), hV c (by omega)]
end WCH
section WRL2
variable {line fr : Nat} {cs : List Nat} {V : Nat → Int32} {S S' : St}
/-- one code that waits for no value -/
theorem w_op (k14 : Int32 → Int32 → Int32 → St → Re Int32) {c : Nat} {f : Fm} {fs : List Fm} {v : Int32} {s' : LSt} (v1 : Int32) (k : Nat) (hl : fs.length < 7) (h : RLS (f :: fs, some v) S) (hr : lstep V c (f :: fs, some v) = some s') (hc : c = 20 ∨ c = 21 ∨ c = 22 ∨ c = 24 ∨ c = 25 ∨ c = 26 ∨ c = 27) : ∃ S' : St, wCh k14 v1 (nI fs.length) (nI k) (nI c) S = k14 v1 (nI fs.length) (nI (k + 1)) S' ∧ RLS s' S' ∧ Fr frEA S S' ∧ s'.1.length = fs.length + 1 := by
  rcases hc with rfl | rfl | rfl | rfl | rfl | rfl | rfl
  · rw [wCh_20]
    exact w_plus k14 v1 k hl h hr (Or.inl rfl)
  · rw [wCh_21]
    exact w_plus k14 v1 k hl h hr (Or.inr rfl)
  · rw [wCh_22]
    exact w_mul k14 v1 k hl h hr rfl
  · rw [wCh_24]
    exact w_cmp k14 v1 k hl h hr (Or.inl rfl)
  · rw [wCh_25]
    exact w_cmp k14 v1 k hl h hr (Or.inr rfl)
  · rw [wCh_26]
    exact w_con k14 v1 k hl h hr (Or.inl rfl)
  · rw [wCh_27]
    exact w_con k14 v1 k hl h hr (Or.inr rfl)
theorem w_open (k14 : Int32 → Int32 → Int32 → St → Re Int32) {c : Nat} {fs : List Fm} (v1 : Int32) (k : Nat) (h0 : 0 < fs.length) (hl : fs.length < 7) (h : RL fs S) (hc : c = 28 ∨ c = 30) : ∃ S' : St, wCh k14 v1 (nI (fs.length - 1)) (nI k) (nI c) S = k14 v1 (nI fs.length) (nI (k + 1)) S' ∧ RL (f0 (decide (c = 30)) :: fs) S' ∧ Fr frEA S S' := by
  have ex : nI (fs.length - 1) + (1 : Int32) = nI fs.length := by
    rw [nI_1, Nat.sub_add_cancel h0]
  have g := nI_in hl (show 7 < 2 ^ 31 by omega)
  have key : ∀ (b : Bool) (x : Int32), x = bI b → ∃ S1 : St, m_worked_66 k14 v1 (nI fs.length) (nI k) x (nI fs.length) S = k14 v1 (nI fs.length) (nI (k + 1)) S1 ∧ RL (f0 b :: fs) S1 ∧ Fr frEA S S1 := by
    rintro b x rfl
    obtain ⟨S1, e1, e2, e3, e4, e5, e6, e7, e8⟩ := m_opens_ok hl (wI S 534 fs.length (bI b))
    have f2 : Fr (frE fs.length) S S1 := Fr.tr (Fr.wI (by simp [frE])) e2
    refine ⟨S1, ?_, ⟨⟨⟨e3, Or.inl rfl, fun q => absurd rfl q⟩, ⟨e4, Or.inl rfl, fun q => absurd rfl q⟩, ⟨e6, Or.inl rfl, e5⟩, ⟨e7, Or.inl rfl, fun q => absurd rfl q⟩, fun _ => by rw [e8, rI_wI]; rfl⟩, RL.fr h f2 (Nat.le_refl _)⟩, f2.mo fun a k q => frE_A q⟩
    unfold m_worked_66
    simp only [ltq]
    rw [if_neg g, nI_clamp (by omega), e1, bn_some, w329]
  rcases hc with rfl | rfl
  · rw [wCh_28]
    unfold m_worked_46
    simp only [ltq]
    rw [if_neg (show ¬ nI 28 = 30 by decide), ex]
    exact key false 0 rfl
  · rw [wCh_30]
    unfold m_worked_46
    simp only [ltq]
    rw [if_pos (show nI 30 = 30 from rfl), ex]
    exact key true 1 rfl
theorem w_val (k14 : Int32 → Int32 → Int32 → St → Re Int32) {c : Nat} {fs : List Fm} (v1 : Int32) (k : Nat) (h0 : fs ≠ []) (hl : fs.length ≤ 7) (h : RL fs S) (hc : c < 20000) (hv : 100 ≤ c ∨ c < 20) (hV : ∀ c, c < 20 → rI S 535 c = V c) : ∃ S' : St, wCh k14 v1 (nI (fs.length - 1)) (nI k) (nI c) S = k14 v1 (nI ((pnt fs (if 100 ≤ c then nI (c - 100) else V c)).1.length - 1)) (nI (k + 1)) S' ∧ RLS ((pnt fs (if 100 ≤ c then nI (c - 100) else V c)).1, some (pnt fs (if 100 ≤ c then nI (c - 100) else V c)).2) S' ∧ Fr frEA S S' ∧ (pnt fs (if 100 ≤ c then nI (c - 100) else V c)).1.length ≤ fs.length ∧ (pnt fs (if 100 ≤ c then nI (c - 100) else V c)).1 ≠ [] := by
  rw [wCh_v _ _ _ _ _ hv hc hV]
  generalize (if 100 ≤ c then nI (c - 100) else V c) = x
  have hq29 : ¬ nI c = 29 := fun q => by
    have := (nI_eq (a := c) (b := 29) (by omega) (by omega)).mp q
    omega
  obtain ⟨S1, e1, e2, e3, e4, e5⟩ := m_worked_val k14 v1 (nI k) fs FU x S h0 hl (by unfold FU; omega) h
  refine ⟨S1, ?_, e2, e3, e4, e5⟩
  unfold m_worked_243
  rw [if_neg hq29, e1, w329]
theorem w_243 (k14 : Int32 → Int32 → Int32 → St → Re Int32) {d : Nat} {x : Int32} {S1 : St} (v1 k : Int32) (h0 : 0 < d) (hl : d < 7) (e1 : m_tests (nI d) S = some ((), S1)) (e3 : rI S1 526 d = x) : m_worked_243 k14 v1 (nI d) k (nI 29) 0 S = m_worked_268 k14 FU v1 (nI (d - 1)) k x S1 := by
  have ex : nI d + (-1 : Int32) = nI (d - 1) := by
    obtain ⟨n, rfl⟩ : ∃ n, d = n + 1 := ⟨d - 1, by omega⟩
    rw [Nat.add_sub_cancel, show nI (n + 1) = nI n + 1 from (nI_1 _).symm, Int32.add_assoc, show (1 : Int32) + -1 = 0 by decide, Int32.add_zero]
  have g := nI_in hl (show 7 < 2 ^ 31 by omega)
  have h29 : nI 29 = (29 : Int32) := rfl
  rw [m_worked_243, if_pos h29, e1, bn_some, if_neg g]
  simp only [ltq]
  rw [nI_clamp (by omega), e3, ex]
theorem w_close (k14 : Int32 → Int32 → Int32 → St → Re Int32) {f : Fm} {fs : List Fm} {v : Int32} (v1 : Int32) (k : Nat) (h0 : fs ≠ []) (hl : fs.length < 7) (h : RLS (f :: fs, some v) S) : ∃ S' : St, wCh k14 v1 (nI fs.length) (nI k) (nI 29) S = k14 v1 (nI ((pnt fs (fullV f v)).1.length - 1)) (nI (k + 1)) S' ∧ RLS ((pnt fs (fullV f v)).1, some (pnt fs (fullV f v)).2) S' ∧ Fr frEA S S' ∧ (pnt fs (fullV f v)).1.length ≤ fs.length ∧ (pnt fs (fullV f v)).1 ≠ [] := by
  obtain ⟨q1, q2⟩ := h
  obtain ⟨S1, e1, e2, e3, e4, e5, e6, e7, e8⟩ := m_tests_ok hl q1
  have hq := w_243 k14 v1 (nI k) (List.length_pos_iff.mpr h0) hl e1 e3
  generalize fullV f v = x at hq ⊢
  obtain ⟨S2, d1, d2, d3, d4, d5⟩ := m_worked_val k14 v1 (nI k) fs FU x S1 h0 (by omega) (by unfold FU; omega) (RL.fr q2 e2 (Nat.le_refl _))
  refine ⟨S2, ?_, d2, Fr.tr (e2.mo fun a k q => frE_A q) d3, d4, d5⟩
  rw [wCh_29, hq, d1, w329]
/-- one code -/
theorem w_step (k14 : Int32 → Int32 → Int32 → St → Re Int32) {c : Nat} {fs fs' : List Fm} {cur cur' : Option Int32} (v1 : Int32) (k : Nat) (h0 : fs ≠ []) (hl : fs.length ≤ 7) (h : RLS (fs, cur) S) (hc : c < 20000) (hV : ∀ c, c < 20 → rI S 535 c = V c) (hr : lstep V c (fs, cur) = some (fs', cur')) : ∃ S' : St, wCh k14 v1 (nI (fs.length - 1)) (nI k) (nI c) S = k14 v1 (nI (fs'.length - 1)) (nI (k + 1)) S' ∧ RLS (fs', cur') S' ∧ Fr frEA S S' ∧ fs' ≠ [] ∧ fs'.length ≤ 7 := by
  have hp : 0 < fs.length := List.length_pos_iff.mpr h0
  cases cur with
  | none =>
    unfold lstep at hr
    simp only at hr
    by_cases h28 : c = 28 ∨ c = 30
    · rw [if_pos h28] at hr
      split at hr
      · rename_i hl7
        injection hr with hr
        injection hr with r1 r2
        subst r1 r2
        obtain ⟨S', e1, e2, e3⟩ := w_open k14 v1 k hp hl7 h h28
        refine ⟨S', ?_, e2, e3, by simp, by rw [List.length_cons]; omega⟩
        rw [List.length_cons, Nat.add_sub_cancel]
        exact e1
      · cases hr
    · rw [if_neg h28] at hr
      by_cases hv : 100 ≤ c ∨ c < 20
      · rw [if_pos hv] at hr
        injection hr with hr
        injection hr with r1 r2
        subst r1 r2
        obtain ⟨S', e1, e2, e3, e4, e5⟩ := w_val k14 v1 k h0 hl h hc hv hV
        exact ⟨S', e1, e2, e3, e5, Nat.le_trans e4 hl⟩
      · rw [if_neg hv] at hr
        cases hr
  | some v =>
    cases fs with
    | nil => exact absurd rfl h0
    | cons f fs =>
      rw [List.length_cons] at hl
      rw [List.length_cons, Nat.add_sub_cancel]
      by_cases hc7 : c = 20 ∨ c = 21 ∨ c = 22 ∨ c = 24 ∨ c = 25 ∨ c = 26 ∨ c = 27
      · obtain ⟨S', e1, e2, e3, e4⟩ := w_op k14 v1 k (by omega) h hr hc7
        have e4 : fs'.length = fs.length + 1 := e4
        refine ⟨S', ?_, e2, e3, (fun q => by rw [q] at e4; cases e4), by omega⟩
        rw [e4, Nat.add_sub_cancel]
        exact e1
      · unfold lstep at hr
        simp only at hr
        rw [if_neg (by omega), if_neg (by omega), if_neg (by omega), if_neg (by omega)] at hr
        split at hr
        · rename_i hq
          obtain ⟨rfl, hfs⟩ := hq
          injection hr with hr
          injection hr with r1 r2
          subst r1 r2
          obtain ⟨S', e1, e2, e3, e4, e5⟩ := w_close k14 v1 k hfs (by omega) h
          exact ⟨S', e1, e2, e3, e5, by omega⟩
        · cases hr
theorem m_worked_loop {f : Fm} {v : Int32} : ∀ (r : List Nat) (i m : Nat) (fs : List Fm) (cur : Option Int32) (S : St), WK line fr cs V S → i ≤ cs.length → cs.drop i = r → r.length < m → RLS (fs, cur) S → fs ≠ [] → fs.length ≤ 7 → lrun V r (fs, cur) = some ([f], some v) → ∃ S', m_worked_14 m (nI line) (nI (fs.length - 1)) (nI (fr + i)) S = some (fullV f v, S') ∧ Fr frEA S S' := by
  intro r
  induction r with
  | nil =>
    intro i m fs cur S h hi hd hm hs _ _ hr
    obtain ⟨m, rfl, hm⟩ := fuel hm
    have hil : cs.length ≤ i := List.drop_eq_nil_iff.mp hd
    obtain ⟨h1, h2, h3, h4, h5, h6⟩ := h
    injection hr with hr
    injection hr with r1 r2
    subst r1 r2
    obtain ⟨S', e1, e2, e3, -⟩ := m_tests_ok (show 0 < 7 by decide) hs.1
    refine ⟨S', ?_, e2.mo fun a k q => frE_A q⟩
    rw [m_worked_14, if_neg (nI_in h1 (by omega)), nI_clamp (by omega), h3, if_neg (nI_nlt (by omega) (by omega))]
    unfold m_worked_335
    have e1' : m_tests 0 S = some ((), S') := e1
    rw [e1', bn_some, if_neg (by decide), show (0 : Int32).toNatClampNeg = 0 by decide, e3]
  | cons c r ih =>
    intro i m fs cur S h hi hd hm hs h0 hl hr
    obtain ⟨m, rfl, hm⟩ := fuel hm
    obtain ⟨hil, he, hd'⟩ := dropC (d := 0) hd
    have hci := h.2.2.2.2.1 i hil
    rw [he] at hci
    rw [lrun] at hr
    cases hq : lstep V c (fs, cur) with
    | none => rw [hq] at hr; cases hr
    | some s1 =>
      obtain ⟨fs', cur'⟩ := s1
      rw [hq] at hr
      have hr' : lrun V r (fs', cur') = some ([f], some v) := hr
      rw [List.length_cons] at hm
      obtain ⟨S1, e1, e2, e3, e4, e5⟩ := w_step (m_worked_14 m) (nI line) (fr + i) h0 hl hs hci.2 h.2.2.2.2.2 hq
      obtain ⟨S2, e6, e7⟩ := ih (i + 1) m fs' cur' S1 (h.frw e3) (by omega) hd' (by omega) e2 e4 e5 hr'
      refine ⟨S2, ?_, e3.tr e7⟩
      rw [w_go m (nI (fs.length - 1)) h.1 h.2.2.1 (show fr + i < fr + cs.length by omega) h.2.2.2.1 hci.1, e1]
      exact e6
/-- the law, worked -/
theorem m_worked_ok (h : WK line fr cs V S) {f : Fm} {v : Int32} (hr : lrun V cs ([f0 false], none) = some ([f], some v)) : ∃ S', m_worked (nI line) S = some (fullV f v, S') ∧ Fr frEA S S' := by
  obtain ⟨S1, e1, e2, e3, e4, e5, e6, e7, e8⟩ := m_opens_ok (show 0 < 7 by decide) S
  have f1 : Fr frEA S S1 := e2.mo fun a k q => frE_A q
  have h' := h.frw f1
  have hl := h.2.2.2.1
  obtain ⟨S', d1, d2⟩ := m_worked_loop cs 0 FU [f0 false] none S1 h' (Nat.zero_le _) rfl (by unfold FU; omega) ⟨⟨⟨e3, Or.inl rfl, fun q => absurd rfl q⟩, ⟨e4, Or.inl rfl, fun q => absurd rfl q⟩, ⟨e6, Or.inl rfl, e5⟩, ⟨e7, Or.inl rfl, fun q => absurd rfl q⟩, fun q => absurd q (Nat.lt_irrefl 0)⟩, trivial⟩ (by simp) (by simp) hr
  refine ⟨S', ?_, f1.tr d2⟩
  unfold m_worked
  simp only [ltq]
  have h1 := h.1
  have e1' : m_opens (0 : Int32) S = some ((), S1) := e1
  rw [e1', bn_some, if_neg (nI_in h.1 (by omega)), nI_clamp (by omega), h'.2.1]
  exact d1
end WRL2
