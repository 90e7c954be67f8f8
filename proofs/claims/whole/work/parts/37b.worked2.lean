/-! The reference's law, worked: the loop over its codes. -/
def WK (line fr : Nat) (cs : List Nat) (V : Nat → Int32) (S : St) : Prop := line < 4 ∧ rI S 521 line = nI fr ∧ rI S 522 line = nI (fr + cs.length) ∧ fr + cs.length ≤ 2000 ∧ (∀ i, i < cs.length → rI S 523 (fr + i) = nI (cs.getD i 0) ∧ cs.getD i 0 < 20000) ∧ ∀ c, c < 20 → rI S 535 c = V c
section WRL
variable {line fr : Nat} {cs : List Nat} {V : Nat → Int32} {S S' : St}
theorem WK.fr' {P : Nat → Nat → Bool} (h : WK line fr cs V S) (hf : Fr P S S') (e : ∀ k, P 521 k = false) (e2 : ∀ k, P 522 k = false) (e3 : ∀ k, P 523 k = false) (e4 : ∀ k, P 535 k = false) : WK line fr cs V S' := ⟨h.1, (hf.i (e _)).trans h.2.1, (hf.i (e2 _)).trans h.2.2.1, h.2.2.2.1, fun i hi => ⟨(hf.i (e3 _)).trans (h.2.2.2.2.1 i hi).1, (h.2.2.2.2.1 i hi).2⟩, fun c hc => (hf.i (e4 _)).trans (h.2.2.2.2.2 c hc)⟩
theorem WK.frw (h : WK line fr cs V S) (hf : Fr frEA S S') : WK line fr cs V S' := h.fr' hf (fun _ => rfl) (fun _ => rfl) (fun _ => rfl) (fun _ => rfl)
theorem w329 (k14 : Int32 → Int32 → Int32 → St → Re Int32) (v1 v2 : Int32) (k : Nat) (S : St) : m_worked_329 k14 v1 v2 (nI k) S = k14 v1 v2 (nI (k + 1)) S := by
  unfold m_worked_329
  simp only [ltq]
  rw [nI_1]
theorem w_plus (k14 : Int32 → Int32 → Int32 → St → Re Int32) {c : Nat} {f : Fm} {fs : List Fm} {v : Int32} {s' : LSt} (v1 : Int32) (k : Nat) (hl : fs.length < 7) (h : RLS (f :: fs, some v) S) (hr : lstep V c (f :: fs, some v) = some s') (hc : c = 20 ∨ c = 21) : ∃ S' : St, m_worked_89 k14 v1 (nI fs.length) (nI k) (nI c) S = k14 v1 (nI fs.length) (nI (k + 1)) S' ∧ RLS s' S' ∧ Fr frEA S S' ∧ s'.1.length = fs.length + 1 := by
  obtain ⟨h1, h2⟩ := h
  have g := nI_in hl (show 7 < 2 ^ 31 by omega)
  unfold lstep at hr
  simp only at hr
  rw [if_neg (by omega), if_pos hc] at hr
  injection hr with hr
  subst hr
  obtain ⟨S1, e1, e2, e3, e4, e5⟩ := m_sums_ok hl h1
  obtain ⟨a1, a2, a3, a4, a5⟩ := h1
  have f2 : Fr (frE fs.length) S (wI S1 531 fs.length (nI c)) := e2.tr (Fr.wI (by simp [frE]))
  refine ⟨wI S1 531 fs.length (nI c), ?_, ⟨⟨⟨?_, a1.2.1, fun q => ?_⟩, ⟨?_, a2.2.1, fun q => ?_⟩, ⟨?_, Or.inr hc, ?_⟩, ⟨?_, Or.inl rfl, fun q => absurd rfl q⟩, fun q => ?_⟩, RL.fr h2 f2 (Nat.le_refl _)⟩, f2.mo fun a k q => frE_A q, rfl⟩
  · unfold m_worked_89
    simp only [ltq]
    rw [e1, bn_some, if_neg g, nI_clamp (by omega), w329]
  · rw [rI_wI_a (by decide), e5 _ (by decide) (by decide), a1.1]
  · rw [rI_wI_a (by decide), e5 _ (by decide) (by decide), a1.2.2 q]
  · rw [rI_wI_a (by decide), e5 _ (by decide) (by decide), a2.1]
  · rw [rI_wI_a (by decide), e5 _ (by decide) (by decide), a2.2.2 q]
  · rw [rI_wI, if_neg (by simp only; omega)]
  · rw [rI_wI_a (by decide), e3, if_neg (by simp only; omega)]
  · rw [rI_wI_a (by decide), e4]
    rfl
  · rw [rI_wI_a (by decide), e5 _ (by decide) (by decide), a5 q]
theorem w_cmp (k14 : Int32 → Int32 → Int32 → St → Re Int32) {c : Nat} {f : Fm} {fs : List Fm} {v : Int32} {s' : LSt} (v1 : Int32) (k : Nat) (hl : fs.length < 7) (h : RLS (f :: fs, some v) S) (hr : lstep V c (f :: fs, some v) = some s') (hc : c = 24 ∨ c = 25) : ∃ S' : St, m_worked_137 k14 v1 (nI fs.length) (nI k) (nI c) S = k14 v1 (nI fs.length) (nI (k + 1)) S' ∧ RLS s' S' ∧ Fr frEA S S' ∧ s'.1.length = fs.length + 1 := by
  obtain ⟨h1, h2⟩ := h
  have g := nI_in hl (show 7 < 2 ^ 31 by omega)
  unfold lstep at hr
  simp only at hr
  rw [if_neg (by omega), if_neg (by omega), if_pos hc] at hr
  split at hr
  · injection hr with hr
    subst hr
    obtain ⟨S1, e1, e2, e3, e4, e5⟩ := m_sums_ok hl h1
    obtain ⟨a1, a2, a3, a4, a5⟩ := h1
    have f2 : Fr (frE fs.length) S (wI (wI (wI (wI S1 528 fs.length (rI S1 530 fs.length)) 529 fs.length (nI c)) 530 fs.length 0) 531 fs.length 20) := (((e2.tr (Fr.wI (by simp [frE]))).tr (Fr.wI (by simp [frE]))).tr (Fr.wI (by simp [frE]))).tr (Fr.wI (by simp [frE]))
    refine ⟨_, ?_, ⟨⟨⟨?_, a1.2.1, fun q => ?_⟩, ⟨?_, Or.inr hc, fun q => ?_⟩, ⟨?_, Or.inl rfl, ?_⟩, ⟨?_, Or.inl rfl, fun q => absurd rfl q⟩, fun q => ?_⟩, RL.fr h2 f2 (Nat.le_refl _)⟩, f2.mo fun a k q => frE_A q, rfl⟩
    · unfold m_worked_137
      simp only [ltq]
      rw [e1, bn_some, if_neg g, if_neg g, if_neg g, if_neg g, if_neg g, nI_clamp (by omega), w329]
    · rw [rI_wI_a (by decide), rI_wI_a (by decide), rI_wI_a (by decide), rI_wI_a (by decide), e5 _ (by decide) (by decide), a1.1]
    · rw [rI_wI_a (by decide), rI_wI_a (by decide), rI_wI_a (by decide), rI_wI_a (by decide), e5 _ (by decide) (by decide), a1.2.2 q]
    · rw [rI_wI_a (by decide), rI_wI_a (by decide), rI_wI]
    · rw [rI_wI_a (by decide), rI_wI_a (by decide), rI_wI_a (by decide), rI_wI, e3]
    · rw [rI_wI]
      rfl
    · rw [rI_wI_a (by decide), rI_wI]
      rfl
    · rw [rI_wI_a (by decide), rI_wI_a (by decide), rI_wI_a (by decide), rI_wI_a (by decide), e4]
      rfl
    · rw [rI_wI_a (by decide), rI_wI_a (by decide), rI_wI_a (by decide), rI_wI_a (by decide), e5 _ (by decide) (by decide), a5 q]
  · cases hr
theorem w_con (k14 : Int32 → Int32 → Int32 → St → Re Int32) {c : Nat} {f : Fm} {fs : List Fm} {v : Int32} {s' : LSt} (v1 : Int32) (k : Nat) (hl : fs.length < 7) (h : RLS (f :: fs, some v) S) (hr : lstep V c (f :: fs, some v) = some s') (hc : c = 26 ∨ c = 27) : ∃ S' : St, m_worked_194 k14 v1 (nI fs.length) (nI k) (nI c) S = k14 v1 (nI fs.length) (nI (k + 1)) S' ∧ RLS s' S' ∧ Fr frEA S S' ∧ s'.1.length = fs.length + 1 := by
  obtain ⟨h1, h2⟩ := h
  have g := nI_in hl (show 7 < 2 ^ 31 by omega)
  unfold lstep at hr
  simp only at hr
  rw [if_neg (by omega), if_neg (by omega), if_neg (by omega), if_pos hc] at hr
  injection hr with hr
  subst hr
  obtain ⟨S1, e1, e2, e3, e4, e5, e6, e7, e8⟩ := m_tests_ok hl h1
  obtain ⟨a1, a2, a3, a4, a5⟩ := h1
  have f2 : Fr (frE fs.length) S (wI S1 527 fs.length (nI c)) := e2.tr (Fr.wI (by simp [frE]))
  refine ⟨_, ?_, ⟨⟨⟨?_, Or.inr hc, fun q => ?_⟩, ⟨?_, Or.inl rfl, fun q => absurd rfl q⟩, ⟨?_, Or.inl rfl, ?_⟩, ⟨?_, Or.inl rfl, fun q => absurd rfl q⟩, fun q => ?_⟩, RL.fr h2 f2 (Nat.le_refl _)⟩, f2.mo fun a k q => frE_A q, rfl⟩
  · unfold m_worked_194
    simp only [ltq]
    rw [e1, bn_some, if_neg g, nI_clamp (by omega), w329]
  · rw [rI_wI]
  · rw [rI_wI_a (by decide), e3]
  · rw [rI_wI_a (by decide), e4]
    rfl
  · rw [rI_wI_a (by decide), e6]
    rfl
  · rw [rI_wI_a (by decide), e5]
    rfl
  · rw [rI_wI_a (by decide), e7]
    rfl
  · rw [rI_wI_a (by decide), e8, a5 q]
theorem w_mul (k14 : Int32 → Int32 → Int32 → St → Re Int32) {c : Nat} {f : Fm} {fs : List Fm} {v : Int32} {s' : LSt} (v1 : Int32) (k : Nat) (hl : fs.length < 7) (h : RLS (f :: fs, some v) S) (hr : lstep V c (f :: fs, some v) = some s') (hc : c = 22) : ∃ S' : St, (if nI fs.length < 0 ∨ 7 ≤ (nI fs.length).toNatClampNeg then none else lt' (wI S 533 (nI fs.length).toNatClampNeg (nI c)) fun S2 => m_worked_329 k14 v1 (nI fs.length) (nI k) S2) = k14 v1 (nI fs.length) (nI (k + 1)) S' ∧ RLS s' S' ∧ Fr frEA S S' ∧ s'.1.length = fs.length + 1 := by
  obtain ⟨h1, h2⟩ := h
  have g := nI_in hl (show 7 < 2 ^ 31 by omega)
  unfold lstep at hr
  simp only at hr
  subst hc
  rw [if_pos rfl] at hr
  injection hr with hr
  subst hr
  obtain ⟨a1, a2, a3, a4, a5⟩ := h1
  have f2 : Fr (frE fs.length) S (wI S 533 fs.length (nI 22)) := Fr.wI (by simp [frE])
  refine ⟨wI S 533 fs.length (nI 22), ?_, ⟨⟨⟨?_, a1.2.1, fun q => ?_⟩, ⟨?_, a2.2.1, fun q => ?_⟩, ⟨?_, a3.2.1, ?_⟩, ⟨?_, Or.inr rfl, fun q => ?_⟩, fun q => ?_⟩, RL.fr h2 f2 (Nat.le_refl _)⟩, f2.mo fun a k q => frE_A q, rfl⟩
  · rw [if_neg g]
    simp only [ltq]
    rw [nI_clamp (by omega), w329]
  · rw [rI_wI_a (by decide), a1.1]
  · rw [rI_wI_a (by decide), a1.2.2 q]
  · rw [rI_wI_a (by decide), a2.1]
  · rw [rI_wI_a (by decide), a2.2.2 q]
  · rw [rI_wI_a (by decide), a3.1]
  · rw [rI_wI_a (by decide), a3.2.2]
  · rw [rI_wI]
  · rw [rI_wI_a (by decide), a4]
  · rw [rI_wI_a (by decide), a5 q]
end WRL
