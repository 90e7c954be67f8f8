/-! The reference's law, worked: the loop over its codes. -/
def WK (line fr : Nat) (cs : List Nat) (V : Nat → Int32) (S : St) : Prop := line < 4 ∧ rI S 521 line = nI fr ∧ rI S 522 line = nI (fr + cs.length) ∧ fr + cs.length ≤ 2000 ∧ (∀ i, i < cs.length → rI S 523 (fr + i) = nI (cs.getD i 0) ∧ cs.getD i 0 < 20000) ∧ ∀ c, c < 20 → rI S 535 c = V c
section WRL
variable {line fr : Nat} {cs : List Nat} {V : Nat → Int32} {S S' : St}
theorem WK.fr' {P : Nat → Nat → Bool} (h : WK line fr cs V S) (hf : Fr P S S') (e : ∀ k, P 521 k = false) (e2 : ∀ k, P 522 k = false) (e3 : ∀ k, P 523 k = false) (e4 : ∀ k, P 535 k = false) : WK line fr cs V S' := ⟨h.1, (hf.i (e _)).trans h.2.1, (hf.i (e2 _)).trans h.2.2.1, h.2.2.2.1, fun i hi => ⟨(hf.i (e3 _)).trans (h.2.2.2.2.1 i hi).1, (h.2.2.2.2.1 i hi).2⟩, fun c hc => (hf.i (e4 _)).trans (h.2.2.2.2.2 c hc)⟩
theorem WK.fr (h : WK line fr cs V S) (hf : Fr frEA S S') : WK line fr cs V S' := h.fr' hf (fun _ => rfl) (fun _ => rfl) (fun _ => rfl) (fun _ => rfl)
theorem w329 (k14 : Int32 → Int32 → Int32 → St → Re Int32) (v1 v2 : Int32) (k : Nat) (S : St) : m_worked_329 k14 v1 v2 (nI k) S = k14 v1 v2 (nI (k + 1)) S := by
  unfold m_worked_329
  simp only [lt']
  rw [nI_1]
/-- one code that waits for no value: the state behind it -/
theorem m_worked_op (k14 : Int32 → Int32 → Int32 → St → Re Int32) {c : Nat} {f : Fm} {fs : List Fm} {v : Int32} {s' : LSt} (v1 : Int32) (k : Nat) (hl : fs.length < 7) (h : RLS (f :: fs, some v) S) (hr : lstep V c (f :: fs, some v) = some s') (hc : c = 20 ∨ c = 21 ∨ c = 22 ∨ c = 24 ∨ c = 25 ∨ c = 26 ∨ c = 27) : ∃ S' : St, (if nI c = (20 : Int32) then m_worked_89 k14 v1 (nI fs.length) (nI k) (nI c) S else if nI c = (21 : Int32) then m_worked_89 k14 v1 (nI fs.length) (nI k) (nI c) S else if nI c = (22 : Int32) then (if nI fs.length < 0 ∨ 7 ≤ (nI fs.length).toNatClampNeg then none else lt' (wI S 533 (nI fs.length).toNatClampNeg (nI c)) fun S2 => m_worked_329 k14 v1 (nI fs.length) (nI k) S2) else if nI c = (24 : Int32) then m_worked_137 k14 v1 (nI fs.length) (nI k) (nI c) S else if nI c = (25 : Int32) then m_worked_137 k14 v1 (nI fs.length) (nI k) (nI c) S else m_worked_194 k14 v1 (nI fs.length) (nI k) (nI c) S) = k14 v1 (nI fs.length) (nI (k + 1)) S' ∧ RLS s' S' ∧ Fr frEA S S' ∧ s'.1.length = fs.length + 1 := by
  obtain ⟨h1, h2⟩ := h
  have g := nI_in hl (show 7 < 2 ^ 31 by omega)
  unfold lstep at hr
  simp only at hr
  have plus : c = 20 ∨ c = 21 → ∃ S' : St, m_worked_89 k14 v1 (nI fs.length) (nI k) (nI c) S = k14 v1 (nI fs.length) (nI (k + 1)) S' ∧ RLS s' S' ∧ Fr frEA S S' ∧ s'.1.length = fs.length + 1 := by
    intro hc
    rw [if_neg (by omega), if_pos hc] at hr
    injection hr with hr
    subst hr
    obtain ⟨S1, e1, e2, e3, e4, e5⟩ := m_sums_ok hl h1
    obtain ⟨a1, a2, a3, a4, a5⟩ := h1
    have f2 : Fr (frE fs.length) S (wI S1 531 fs.length (nI c)) := e2.tr (Fr.wI (by simp [frE]))
    refine ⟨wI S1 531 fs.length (nI c), ?_, ⟨⟨⟨?_, a1.2.1, fun q => ?_⟩, ⟨?_, a2.2.1, fun q => ?_⟩, ⟨?_, Or.inr hc, ?_⟩, ⟨?_, Or.inl rfl, fun q => absurd rfl q⟩, fun q => ?_⟩, RL.fr h2 f2 (Nat.le_refl _)⟩, f2.mo fun a k q => frE_A q, rfl⟩
    · unfold m_worked_89
      simp only [lt']
      rw [e1, bn_some, if_neg g, nI_clamp (by omega), w329]
    · rw [rI_wI_a (by decide), e5 _ (by decide) (by decide), a1.1]
    · rw [rI_wI_a (by decide), e5 _ (by decide) (by decide), a1.2.2 q]
    · rw [rI_wI_a (by decide), e5 _ (by decide) (by decide), a2.1]
    · rw [rI_wI_a (by decide), e5 _ (by decide) (by decide), a2.2.2 q]
    · rw [rI_wI, if_neg (by simp only; omega)]
    · rw [rI_wI_a (by decide), e3, if_neg (by simp only; omega)]
    · rw [rI_wI_a (by decide), e4]
      rfl
    · rw [rI_wI_a (by decide), e5 _ (by decide) (by decide), a5 q]
  have cmp : c = 24 ∨ c = 25 → ∃ S' : St, m_worked_137 k14 v1 (nI fs.length) (nI k) (nI c) S = k14 v1 (nI fs.length) (nI (k + 1)) S' ∧ RLS s' S' ∧ Fr frEA S S' ∧ s'.1.length = fs.length + 1 := by
    intro hc
    rw [if_neg (by omega), if_neg (by omega), if_pos hc] at hr
    split at hr
    · injection hr with hr
      subst hr
      obtain ⟨S1, e1, e2, e3, e4, e5⟩ := m_sums_ok hl h1
      obtain ⟨a1, a2, a3, a4, a5⟩ := h1
      have f2 : Fr (frE fs.length) S (wI (wI (wI (wI S1 528 fs.length (rI S1 530 fs.length)) 529 fs.length (nI c)) 530 fs.length 0) 531 fs.length 20) := (((e2.tr (Fr.wI (by simp [frE]))).tr (Fr.wI (by simp [frE]))).tr (Fr.wI (by simp [frE]))).tr (Fr.wI (by simp [frE]))
      refine ⟨_, ?_, ⟨⟨⟨?_, a1.2.1, fun q => ?_⟩, ⟨?_, Or.inr hc, fun q => ?_⟩, ⟨?_, Or.inl rfl, ?_⟩, ⟨?_, Or.inl rfl, fun q => absurd rfl q⟩, fun q => ?_⟩, RL.fr h2 f2 (Nat.le_refl _)⟩, f2.mo fun a k q => frE_A q, rfl⟩
      · unfold m_worked_137
        simp only [lt']
        rw [e1, bn_some, if_neg g, if_neg g, if_neg g, if_neg g, if_neg g, nI_clamp (by omega), w329]
      · rw [rI_wI_a (by decide), rI_wI_a (by decide), rI_wI_a (by decide), rI_wI_a (by decide), e5 _ (by decide) (by decide), a1.1]
      · rw [rI_wI_a (by decide), rI_wI_a (by decide), rI_wI_a (by decide), rI_wI_a (by decide), e5 _ (by decide) (by decide), a1.2.2 q]
      · rw [rI_wI_a (by decide), rI_wI_a (by decide), rI_wI]
      · rw [rI_wI_a (by decide), rI_wI_a (by decide), rI_wI_a (by decide), rI_wI, e3]
      · rw [rI_wI]
        rfl
      · rw [rI_wI_a (by decide), rI_wI]
        rfl
      · rw [rI_wI_a (by decide), rI_wI_a (by decide), rI_wI_a (by decide), rI_wI_a (by decide), e4]
        rfl
      · rw [rI_wI_a (by decide), rI_wI_a (by decide), rI_wI_a (by decide), rI_wI_a (by decide), e5 _ (by decide) (by decide), a5 q]
    · cases hr
  have con : c = 26 ∨ c = 27 → ∃ S' : St, m_worked_194 k14 v1 (nI fs.length) (nI k) (nI c) S = k14 v1 (nI fs.length) (nI (k + 1)) S' ∧ RLS s' S' ∧ Fr frEA S S' ∧ s'.1.length = fs.length + 1 := by
    intro hc
    rw [if_neg (by omega), if_neg (by omega), if_neg (by omega), if_pos hc] at hr
    injection hr with hr
    subst hr
    obtain ⟨S1, e1, e2, e3, e4, e5, e6, e7, e8⟩ := m_tests_ok hl h1
    obtain ⟨a1, a2, a3, a4, a5⟩ := h1
    have f2 : Fr (frE fs.length) S (wI S1 527 fs.length (nI c)) := e2.tr (Fr.wI (by simp [frE]))
    refine ⟨_, ?_, ⟨⟨⟨?_, Or.inr hc, fun q => ?_⟩, ⟨?_, Or.inl rfl, fun q => absurd rfl q⟩, ⟨?_, Or.inl rfl, ?_⟩, ⟨?_, Or.inl rfl, fun q => absurd rfl q⟩, fun q => ?_⟩, RL.fr h2 f2 (Nat.le_refl _)⟩, f2.mo fun a k q => frE_A q, rfl⟩
    · unfold m_worked_194
      simp only [lt']
      rw [e1, bn_some, if_neg g, nI_clamp (by omega), w329]
    · rw [rI_wI]
    · rw [rI_wI_a (by decide), e3]
    · rw [rI_wI_a (by decide), e4]
      rfl
    · rw [rI_wI_a (by decide), e6]
      rfl
    · rw [rI_wI_a (by decide), e5]
      rfl
    · rw [rI_wI_a (by decide), e7]
      rfl
    · rw [rI_wI_a (by decide), e8, a5 q]
  rcases hc with rfl | rfl | rfl | rfl | rfl | rfl | rfl
  · rw [if_pos (by decide)]
    exact plus (Or.inl rfl)
  · rw [if_neg (by decide), if_pos (by decide)]
    exact plus (Or.inr rfl)
  · rw [if_neg (by decide), if_neg (by decide), if_pos (by decide), if_neg g]
    rw [if_pos rfl] at hr
    injection hr with hr
    subst hr
    obtain ⟨a1, a2, a3, a4, a5⟩ := h1
    have f2 : Fr (frE fs.length) S (wI S 533 fs.length (nI 22)) := Fr.wI (by simp [frE])
    refine ⟨wI S 533 fs.length (nI 22), ?_, ⟨⟨⟨?_, a1.2.1, fun q => ?_⟩, ⟨?_, a2.2.1, fun q => ?_⟩, ⟨?_, a3.2.1, ?_⟩, ⟨?_, Or.inr rfl, fun q => ?_⟩, fun q => ?_⟩, RL.fr h2 f2 (Nat.le_refl _)⟩, f2.mo fun a k q => frE_A q, rfl⟩
    · simp only [lt']
      rw [nI_clamp (by omega), w329]
    · rw [rI_wI_a (by decide), a1.1]
    · rw [rI_wI_a (by decide), a1.2.2 q]
    · rw [rI_wI_a (by decide), a2.1]
    · rw [rI_wI_a (by decide), a2.2.2 q]
    · rw [rI_wI_a (by decide), a3.1]
    · rw [rI_wI_a (by decide), a3.2.2]
    · rw [rI_wI]
    · rw [rI_wI_a (by decide), a4]
    · rw [rI_wI_a (by decide), a5 q]
  · rw [if_neg (by decide), if_neg (by decide), if_neg (by decide), if_pos (by decide)]
    exact cmp (Or.inl rfl)
  · rw [if_neg (by decide), if_neg (by decide), if_neg (by decide), if_neg (by decide), if_pos (by decide)]
    exact cmp (Or.inr rfl)
  · rw [if_neg (by decide), if_neg (by decide), if_neg (by decide), if_neg (by decide), if_neg (by decide)]
    exact con (Or.inl rfl)
  · rw [if_neg (by decide), if_neg (by decide), if_neg (by decide), if_neg (by decide), if_neg (by decide)]
    exact con (Or.inr rfl)
theorem m_worked_loop {f : Fm} {v : Int32} : ∀ (r : List Nat) (i m : Nat) (s : LSt) (S : St), WK line fr cs V S → i ≤ cs.length → cs.drop i = r → r.length < m → RLS s S → s.1 ≠ [] → s.1.length ≤ 7 → lrun V r s = some ([f], some v) → ∃ S', m_worked_14 m (nI line) (nI (s.1.length - 1)) (nI (fr + i)) S = some (fullV f v, S') ∧ Fr frEA S S'
  | [], i, m, s, S, h, hi, hd, hm, hs, _, _, hr => by
    obtain ⟨m, rfl, hm⟩ := fuel hm
    have hil : cs.length ≤ i := List.drop_eq_nil_iff.mp hd
    obtain ⟨h1, h2, h3, h4, h5, h6⟩ := h
    injection hr with hr
    subst hr
    obtain ⟨S', e1, e2, e3, -⟩ := m_tests_ok (show 0 < 7 by decide) hs.1
    refine ⟨S', ?_, e2.mo fun a k q => frE_A q⟩
    rw [m_worked_14, if_neg (nI_in h1 (by omega)), nI_clamp (by omega), h3, if_neg (nI_nlt (by omega) (by omega))]
    unfold m_worked_335
    rw [show (0 : Int32) = nI 0 from rfl, e1, bn_some, if_neg (by decide)]
    rw [show (nI 0).toNatClampNeg = 0 by decide, e3]
  | c :: r, i, m, s, S, h, hi, hd, hm, hs, h0, hl, hr => by
    obtain ⟨m, rfl, hm⟩ := fuel hm
    obtain ⟨hil, he, hd'⟩ := dropC (d := 0) hd
    have hW := h
    obtain ⟨h1, h2, h3, h4, h5, h6⟩ := h
    have hci := h5 i hil
    rw [he] at hci
    rw [lrun] at hr
    cases hq : lstep V c s with
    | none => rw [hq] at hr; cases hr
    | some s1 =>
      rw [hq] at hr
      have hr' : lrun V r s1 = some ([f], some v) := hr
      rw [List.length_cons] at hm
      -- what comes of the state behind the step
      have fin : ∀ (S1 : St), RLS s1 S1 → Fr frEA S S1 → s1.1 ≠ [] → s1.1.length ≤ 7 → ∃ S', m_worked_14 m (nI line) (nI (s1.1.length - 1)) (nI (fr + i + 1)) S1 = some (fullV f v, S') ∧ Fr frEA S S' := by
        intro S1 q1 q2 q3 q4
        obtain ⟨S', e1, e2⟩ := m_worked_loop r (i + 1) m s1 S1 (hW.fr q2) (by omega) hd' (by omega) q1 q3 q4 hr'
        exact ⟨S', e1, q2.tr e2⟩
      have start : m_worked_14 (m + 1) (nI line) (nI (s.1.length - 1)) (nI (fr + i)) S = (if nI c = (28 : Int32) then m_worked_46 (m_worked_14 m) (nI line) (nI (s.1.length - 1)) (nI (fr + i)) (nI c) S else if nI c = (30 : Int32) then m_worked_46 (m_worked_14 m) (nI line) (nI (s.1.length - 1)) (nI (fr + i)) (nI c) S else if nI c = (20 : Int32) then m_worked_89 (m_worked_14 m) (nI line) (nI (s.1.length - 1)) (nI (fr + i)) (nI c) S else if nI c = (21 : Int32) then m_worked_89 (m_worked_14 m) (nI line) (nI (s.1.length - 1)) (nI (fr + i)) (nI c) S else if nI c = (22 : Int32) then (if nI (s.1.length - 1) < 0 ∨ 7 ≤ (nI (s.1.length - 1)).toNatClampNeg then none else lt' (wI S 533 (nI (s.1.length - 1)).toNatClampNeg (nI c)) fun S2 => m_worked_329 (m_worked_14 m) (nI line) (nI (s.1.length - 1)) (nI (fr + i)) S2) else if nI c = (24 : Int32) then m_worked_137 (m_worked_14 m) (nI line) (nI (s.1.length - 1)) (nI (fr + i)) (nI c) S else if nI c = (25 : Int32) then m_worked_137 (m_worked_14 m) (nI line) (nI (s.1.length - 1)) (nI (fr + i)) (nI c) S else if nI c = (26 : Int32) then m_worked_194 (m_worked_14 m) (nI line) (nI (s.1.length - 1)) (nI (fr + i)) (nI c) S else if nI c = (27 : Int32) then m_worked_194 (m_worked_14 m) (nI line) (nI (s.1.length - 1)) (nI (fr + i)) (nI c) S else if nI c < (100 : Int32) then (if nI c < (20 : Int32) then (if nI c < 0 ∨ 20 ≤ (nI c).toNatClampNeg then none else m_worked_243 (m_worked_14 m) (nI line) (nI (s.1.length - 1)) (nI (fr + i)) (nI c) (rI S 535 (nI c).toNatClampNeg) S) else m_worked_243 (m_worked_14 m) (nI line) (nI (s.1.length - 1)) (nI (fr + i)) (nI c) (0 : Int32) S) else m_worked_243 (m_worked_14 m) (nI line) (nI (s.1.length - 1)) (nI (fr + i)) (nI c) ((nI c - (100 : Int32))) S) := by
        rw [m_worked_14, if_neg (nI_in h1 (by omega)), nI_clamp (by omega), h3, if_pos (nI_lt (by omega) (by omega)), if_neg (nI_in (by omega) (by omega)), nI_clamp (show fr + i < 2 ^ 31 by omega), hci.1]
        rfl
      rw [start]
      obtain ⟨fs, cur⟩ := s
      cases cur with
      | none =>
        have hq0 := hq
        unfold lstep at hq
        simp only at hq
        by_cases hc : c = 28 ∨ c = 30
        · rw [if_pos hc] at hq
          split at hq
          · rename_i hl7
            injection hq with hq
            subst hq
            have hn : fs.length < 7 := hl7
            have hp : 0 < fs.length := List.length_pos_iff.mpr h0
            have key : ∀ b : Bool, ∃ S1 : St, m_worked_66 (m_worked_14 m) (nI line) (nI fs.length) (nI (fr + i)) (bI b) (nI fs.length) S = m_worked_14 m (nI line) (nI fs.length) (nI (fr + i + 1)) S1 ∧ RLS (f0 b :: fs, none) S1 ∧ Fr frEA S S1 := by
              intro b
              obtain ⟨S1, e1, e2, e3, e4, e5, e6, e7, e8⟩ := m_opens_ok hn (wI S 534 fs.length (bI b))
              have g := nI_in hn (show 7 < 2 ^ 31 by omega)
              have f2 : Fr (frE fs.length) S S1 := Fr.tr (Fr.wI (by simp [frE])) e2
              refine ⟨S1, ?_, ⟨⟨⟨e3, Or.inl rfl, fun q => absurd rfl q⟩, ⟨e4, Or.inl rfl, fun q => absurd rfl q⟩, ⟨e6, Or.inl rfl, e5⟩, ⟨e7, Or.inl rfl, fun q => absurd rfl q⟩, fun _ => by rw [e8, rI_wI]; rfl⟩, RL.fr hs f2 (Nat.le_refl _)⟩, f2.mo fun a k q => frE_A q⟩
              unfold m_worked_66
              simp only [lt']
              rw [if_neg g, nI_clamp (by omega), e1, bn_some, w329]
            have ex : nI (fs.length - 1) + (1 : Int32) = nI fs.length := by
              rw [nI_1, Nat.sub_add_cancel hp]
            rcases hc with rfl | rfl
            · obtain ⟨S1, e1, e2, e3⟩ := key false
              obtain ⟨S', e4, e5⟩ := fin S1 e2 e3 (by simp) (by simp; omega)
              refine ⟨S', ?_, e5⟩
              rw [← e4, if_pos (by decide)]
              unfold m_worked_46
              simp only [lt']
              rw [if_neg (by decide), ex]
              exact e1
            · obtain ⟨S1, e1, e2, e3⟩ := key true
              obtain ⟨S', e4, e5⟩ := fin S1 e2 e3 (by simp) (by simp; omega)
              refine ⟨S', ?_, e5⟩
              rw [← e4, if_neg (by decide), if_pos (by decide)]
              unfold m_worked_46
              simp only [lt']
              rw [if_pos (by decide), ex]
              exact e1
          · cases hq
        · rw [if_neg hc] at hq
          by_cases hv : 100 ≤ c ∨ c < 20
          · rw [if_pos hv] at hq
            injection hq with hq
            subst hq
            have hne : ∀ k : Nat, 20 ≤ k → k < 100 → ¬ nI c = nI k := fun k k1 k2 => by
              rw [nI_eq (by omega) (by omega)]
              omega
            obtain ⟨S1, e1, e2, e3, e4, e5⟩ := m_worked_val (m_worked_14 m) (nI line) (nI (fr + i)) fs FU (if 100 ≤ c then nI (c - 100) else V c) S h0 hl (by have : fs.length ≤ 7 := hl; unfold FU; omega) hs
            obtain ⟨S', e6, e7⟩ := fin S1 e2 e3 e5 (Nat.le_trans e4 hl)
            refine ⟨S', ?_, e7⟩
            rw [← e6, if_neg (hne 28 (by decide) (by decide)), if_neg (hne 30 (by decide) (by decide)), if_neg (hne 20 (by decide) (by decide)), if_neg (hne 21 (by decide) (by decide)), if_neg (hne 22 (by decide) (by decide)), if_neg (hne 24 (by decide) (by decide)), if_neg (hne 25 (by decide) (by decide)), if_neg (hne 26 (by decide) (by decide)), if_neg (hne 27 (by decide) (by decide))]
            rw [show (m_worked_14 m (nI line) (nI ((pnt fs (if 100 ≤ c then nI (c - 100) else V c)).1.length - 1)) (nI (fr + i + 1)) S1) = _ from (w329 (m_worked_14 m) _ _ _ _).symm, ← e1]
            have e43 : ∀ y, m_worked_243 (m_worked_14 m) (nI line) (nI (fs.length - 1)) (nI (fr + i)) (nI c) y S = m_worked_268 (m_worked_14 m) FU (nI line) (nI (fs.length - 1)) (nI (fr + i)) y S := fun y => by
              unfold m_worked_243
              rw [if_neg (hne 29 (by decide) (by decide))]
            by_cases h100 : 100 ≤ c
            · rw [if_pos h100, if_neg (nI_nlt (b := c) (a := 100) (by omega) (by omega) : ¬ nI c < nI 100), e43, show (100 : Int32) = nI 100 from rfl, nI_sub h100]
            · rw [if_neg h100, if_pos (nI_lt (show c < 100 by omega) (by decide) : nI c < nI 100), if_pos (nI_lt (show c < 20 by omega) (by decide) : nI c < nI 20), if_neg (nI_in (by omega) (by omega)), nI_clamp (by omega), h6 c (by omega), e43]
          · rw [if_neg hv] at hq
            cases hq
      | some x =>
        cases fs with
        | nil => exact absurd rfl h0
        | cons g' fs =>
          rw [List.length_cons] at hl
          by_cases hc : c = 20 ∨ c = 21 ∨ c = 22 ∨ c = 24 ∨ c = 25 ∨ c = 26 ∨ c = 27
          · obtain ⟨S1, e1, e2, e3, e4⟩ := m_worked_op (m_worked_14 m) (nI line) (fr + i) (show fs.length < 7 by omega) hs hq hc
            obtain ⟨S', e5, e6⟩ := fin S1 e2 e3 (fun q => by rw [q] at e4; cases e4) (by omega)
            refine ⟨S', ?_, e6⟩
            rw [← e5, e4, Nat.add_sub_cancel, ← e1, List.length_cons, Nat.add_sub_cancel]
            rcases hc with rfl | rfl | rfl | rfl | rfl | rfl | rfl
            all_goals rfl
          · have hc29 : c = 29 ∧ fs ≠ [] := by
              unfold lstep at hq
              simp only at hq
              rw [if_neg (by omega), if_neg (by omega), if_neg (by omega), if_neg (by omega)] at hq
              split at hq
              · assumption
              · cases hq
            obtain ⟨rfl, hfs⟩ := hc29
            unfold lstep at hq
            simp only at hq
            rw [if_neg (by omega), if_neg (by omega), if_neg (by omega), if_neg (by omega), if_pos ⟨trivial, hfs⟩] at hq
            injection hq with hq
            subst hq
            obtain ⟨q1, q2⟩ := hs
            obtain ⟨S1, e1, e2, e3, e4, e5, e6, e7, e8⟩ := m_tests_ok (show fs.length < 7 by omega) q1
            have g := nI_in (show fs.length < 7 by omega) (show 7 < 2 ^ 31 by omega)
            have hp : 0 < fs.length := List.length_pos_iff.mpr hfs
            obtain ⟨S2, d1, d2, d3, d4, d5⟩ := m_worked_val (m_worked_14 m) (nI line) (nI (fr + i)) fs FU (fullV g' x) S1 hfs (by omega) (by unfold FU; omega) (RL.fr q2 e2 (Nat.le_refl _))
            obtain ⟨S', e9, e10⟩ := fin S2 d2 (Fr.tr (e2.mo fun a k q => frE_A q) d3) d5 (by omega)
            refine ⟨S', ?_, e10⟩
            rw [← e9, ← w329 (m_worked_14 m), ← d1, List.length_cons, Nat.add_sub_cancel]
            have ex : nI fs.length + (-1 : Int32) = nI (fs.length - 1) := by
              obtain ⟨n, hn⟩ : ∃ n, fs.length = n + 1 := ⟨fs.length - 1, by omega⟩
              rw [hn, Nat.add_sub_cancel, show nI (n + 1) = nI n + 1 from (nI_1 _).symm, Int32.add_assoc, show (1 : Int32) + -1 = 0 by decide, Int32.add_zero]
            have e43 : ∀ y, m_worked_243 (m_worked_14 m) (nI line) (nI fs.length) (nI (fr + i)) (nI 29) y S = m_worked_268 (m_worked_14 m) FU (nI line) (nI (fs.length - 1)) (nI (fr + i)) (fullV g' x) S1 := fun y => by
              unfold m_worked_243
              simp only [lt']
              rw [if_pos (by decide), e1, bn_some, if_neg g, nI_clamp (by omega), e3, ex]
            rw [if_neg (by decide), if_neg (by decide), if_neg (by decide), if_neg (by decide), if_neg (by decide), if_neg (by decide), if_neg (by decide), if_neg (by decide), if_neg (by decide), if_pos (by decide), if_neg (by decide), e43]
/-- the law, worked -/
theorem m_worked_ok (h : WK line fr cs V S) {f : Fm} {v : Int32} (hr : lrun V cs ([f0 false], none) = some ([f], some v)) : ∃ S', m_worked (nI line) S = some (fullV f v, S') ∧ Fr frEA S S' := by
  obtain ⟨S1, e1, e2, e3, e4, e5, e6, e7, e8⟩ := m_opens_ok (show 0 < 7 by decide) S
  have f1 : Fr frEA S S1 := e2.mo fun a k q => frE_A q
  have h' := h.fr f1
  have hl := h.2.2.2.1
  obtain ⟨S', d1, d2⟩ := m_worked_loop cs 0 FU ([f0 false], none) S1 h' (Nat.zero_le _) rfl (by unfold FU; omega) ⟨⟨⟨e3, Or.inl rfl, fun q => absurd rfl q⟩, ⟨e4, Or.inl rfl, fun q => absurd rfl q⟩, ⟨e6, Or.inl rfl, e5⟩, ⟨e7, Or.inl rfl, fun q => absurd rfl q⟩, fun q => absurd q (Nat.lt_irrefl 0)⟩, trivial⟩ (by simp) (by simp) hr
  refine ⟨S', ?_, f1.tr d2⟩
  unfold m_worked
  simp only [lt']
  have h1 := h.1
  rw [show (0 : Int32) = nI 0 from rfl, e1, bn_some, if_neg (nI_in h.1 (by omega)), nI_clamp (by omega), h'.2.1]
  exact d1
end WRL
