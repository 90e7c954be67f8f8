/-! Public methods: laws. -/
section LAWS
variable {T : St} {W V : Nat → List Nat} {L : Int32 → Int32 → Int32} {v d q : Nat} {Z : Nat → Int32} {So So' Sm Sm' : St} {P Q : Nat → Nat → Bool}
def fitN (g : Nat → Nat → Int32) (a l : Int32) (i : Nat) : Bool := !(decide (a < g i 0) && decide (g i 1 < l))
def fitF (g : Nat → Nat → Int32) (a l : Int32) : Nat → Nat → Bool
  | _, 0 => true
  | i, j + 1 => if bI (fitN g a l i) = g i 2 then fitF g a l (i + 1) j else false
theorem o_fits_loop {m : Nat} {g : Nat → Nat → Int32} (h : TB 116 12 3 m g So) (hg : ∀ i, i < m → ∃ b, g i 2 = bI b) (a l : Int32) : ∀ (j i mm : Nat), i + j = m → j < mm → o_fits_2 mm a l (nI i) So = some (bI (fitF g a l i j), So)
  | 0, i, mm, hi, hm => by
    obtain ⟨mm, rfl, hm⟩ := fuel hm
    have := h.2.2.2.2.2.1
    rw [o_fits_2, tb_size h, bnq, if_neg (nI_nlt (by omega) (by omega))]
    rfl
  | j + 1, i, mm, hi, hm => by
    obtain ⟨mm, rfl, hm⟩ := fuel hm
    have := h.2.2.2.2.2.1
    obtain ⟨b, hb⟩ := hg i (by omega)
    have e0 : o_tb_at 116 (nI i) (0 : Int32) So = some (g i 0, So) := tb_atI h (i := i) (j := 0) (by omega) (by decide)
    have e1 : o_tb_at 116 (nI i) (1 : Int32) So = some (g i 1, So) := tb_atI h (i := i) (j := 1) (by omega) (by decide)
    have e2 : o_tb_at 116 (nI i) (2 : Int32) So = some (g i 2, So) := tb_atI h (i := i) (j := 2) (by omega) (by decide)
    have ih := o_fits_loop h hg a l j (i + 1) mm (by omega) (by omega)
    have key : ∀ c : Bool, fitN g a l i = c → o_fits_53 (o_fits_2 mm) a l (nI i) (bI c) So = some (bI (fitF g a l i (j + 1)), So) := by
      intro c hc
      unfold o_fits_53 o_fits_78 o_fits_81
      rw [e2, bnq, fitF, hc, hb]
      cases b with
      | false =>
        rw [if_neg (show ¬ bI false = 1 by decide)]
        cases c with
        | false =>
          rw [if_pos bF, ltq, nI_1, ih, if_pos rfl]
        | true =>
          rw [if_neg bT, if_neg (show ¬ bI true = bI false by decide)]
          rfl
      | true =>
        rw [if_pos (show bI true = 1 from rfl)]
        cases c with
        | false =>
          rw [if_neg (show ¬ bI false = 1 by decide), if_neg (show ¬ bI false = bI true by decide)]
          rfl
        | true =>
          rw [if_pos (show bI true = 1 from rfl), ltq, nI_1, ih, if_pos rfl]
    rw [o_fits_2, tb_size h, bnq, if_pos (nI_lt (by omega) (by omega)), e0, bnq]
    by_cases q1 : a < g i 0
    · rw [if_pos q1, e1, bnq]
      by_cases q2 : g i 1 < l
      · rw [if_pos q2]
        exact key false (by unfold fitN; rw [decide_eq_true q1, decide_eq_true q2]; rfl)
      · rw [if_neg q2]
        exact key true (by unfold fitN; rw [decide_eq_false q2, Bool.and_false]; rfl)
    · rw [if_neg q1]
      exact key true (by unfold fitN; rw [decide_eq_false q1, Bool.false_and]; rfl)
theorem m_fits_loop (hw : WF T W V) (hO : OM T Sm) {m : Nat} {g : Nat → Nat → Int32} (hm12 : m ≤ 12) (h : TlM T W 0 m g Sm) (a l : Int32) : ∀ (j i mm : Nat), i + j = m → j < mm → m_isLaw_2 mm a l (nI i) Sm = some (bI (fitF g a l i j), Sm)
  | 0, i, mm, hi, hm => by
    obtain ⟨mm, rfl, hm⟩ := fuel hm
    rw [m_isLaw_2, if_neg g05, c0, h.1, if_neg (nI_nlt (by omega) (by omega))]
    rfl
  | j + 1, i, mm, hi, hm => by
    obtain ⟨mm, rfl, hm⟩ := fuel hm
    obtain ⟨c, k, b, r1, r2, r3, r4, r5, r6, r7, r8⟩ := h.2 i (by omega)
    rw [Nat.mul_zero, Nat.zero_add] at r3 r4 r5
    have hn := hw.b
    have hnr := hw.nr r1 r2
    have ih := m_fits_loop hw hO hm12 h a l j (i + 1) mm (by omega) (by omega)
    have key : ∀ c : Bool, fitN g a l i = c → m_isLaw_57 (m_isLaw_2 mm) a l (nI i) (bI c) Sm = some (bI (fitF g a l i (j + 1)), Sm) := by
      intro c hc
      unfold m_isLaw_57 m_isLaw_66
      rw [if_neg (nI_in (by omega) (by omega)), nI_clamp (by omega), r5, fitF, hc, r8]
      by_cases q : bI c = bI b
      · rw [if_pos q, if_pos q, ltq, nI_1, ih]
      · rw [if_neg q, if_neg q]
        rfl
    rw [m_isLaw_2, if_neg g05, c0, h.1, if_pos (nI_lt (by omega) (by omega)), if_neg (nI_in (by omega) (by omega)), nI_clamp (by omega), r3, r4, x16, ltq, if_neg (nI_inC (by omega) (by omega)), if_neg (nI_in (by omega) (by omega)), nI_clamp (by omega), hO.ed, hnr.1, ← r6, hO.rh, hnr.2.2.1, ← r7]
    by_cases q1 : a < g i 0
    · rw [if_pos q1]
      by_cases q2 : g i 1 < l
      · rw [if_neg (nI_inC (by omega) (by omega)), if_pos q2]
        exact key false (by unfold fitN; rw [decide_eq_true q1, decide_eq_true q2]; rfl)
      · rw [if_neg (nI_inC (by omega) (by omega)), if_neg q2]
        exact key true (by unfold fitN; rw [decide_eq_false q2, Bool.and_false]; rfl)
    · rw [if_neg q1]
      exact key true (by unfold fitN; rw [decide_eq_false q1, Bool.false_and]; rfl)
/-! the search over the laws: the class comes from above, the reference from below -/
def og (p : Nat → Bool) (a : Int32) : Nat → Int32 × Int32 × Int32 → Int32 × Int32 × Int32
  | 0, s => s
  | j + 1, s => og p a j (bif p (j + 1) then (s.1 + 1, if s.1 = 0 then a else s.2.1, if s.1 = 0 then nI (j + 1) else s.2.2) else s)
def mg (p : Nat → Bool) (a : Int32) : Nat → Nat → Int32 × Int32 × Int32 → Int32 × Int32 × Int32
  | 0, _, s => s
  | j + 1, k, s => mg p a j (k + 1) (bif p k then (s.1 + 1, if s.2.1 < 0 then a else s.2.1, if (if s.2.1 < 0 then a else s.2.1) = a then nI k else s.2.2) else s)
theorem og_ext {p p' : Nat → Bool} (a : Int32) : ∀ (j : Nat) (s : Int32 × Int32 × Int32), (∀ l, 1 ≤ l → l ≤ j → p l = p' l) → og p a j s = og p' a j s
  | 0, s, _ => rfl
  | j + 1, s, h => by
    rw [og, og, h (j + 1) (by omega) (by omega)]
    exact og_ext a j _ fun l h1 h2 => h l h1 (by omega)
theorem mg_ext {p p' : Nat → Bool} (a : Int32) : ∀ (j k : Nat) (s : Int32 × Int32 × Int32), (∀ l, k ≤ l → l < k + j → p l = p' l) → mg p a j k s = mg p' a j k s
  | 0, k, s, _ => rfl
  | j + 1, k, s, h => by
    rw [mg, mg, h k (by omega) (by omega)]
    exact mg_ext a j (k + 1) _ fun l h1 h2 => h l (by omega) (by omega)
def p8b (b1 b2 b3 b4 b5 b6 b7 b8 : Bool) : Nat → Bool := fun l => if l = 1 then b1 else if l = 2 then b2 else if l = 3 then b3 else if l = 4 then b4 else if l = 5 then b5 else if l = 6 then b6 else if l = 7 then b7 else b8
theorem row_all : ∀ a, a < 5 → ∀ b1 b2 b3 b4 b5 b6 b7 b8 : Bool, og (p8b b1 b2 b3 b4 b5 b6 b7 b8) (nI a) 8 (0, -1, -1) = mg (p8b b1 b2 b3 b4 b5 b6 b7 b8) (nI a) 8 1 (0, -1, -1) ∧ (mg (p8b b1 b2 b3 b4 b5 b6 b7 b8) (nI a) 8 1 (0, -1, -1) = (0, -1, -1) ∨ ((mg (p8b b1 b2 b3 b4 b5 b6 b7 b8) (nI a) 8 1 (0, -1, -1)).2.1 = nI a ∧ ∃ n, n < 9 ∧ 1 ≤ n ∧ (mg (p8b b1 b2 b3 b4 b5 b6 b7 b8) (nI a) 8 1 (0, -1, -1)).1 = nI n)) := by decide +kernel
theorem row_new (p : Nat → Bool) {a : Nat} (ha : a < 5) : og p (nI a) 8 (0, -1, -1) = mg p (nI a) 8 1 (0, -1, -1) ∧ (mg p (nI a) 8 1 (0, -1, -1) = (0, -1, -1) ∨ ((mg p (nI a) 8 1 (0, -1, -1)).2.1 = nI a ∧ ∃ n, n < 9 ∧ 1 ≤ n ∧ (mg p (nI a) 8 1 (0, -1, -1)).1 = nI n)) := by
  have e : ∀ l, 1 ≤ l → l ≤ 8 → p l = p8b (p 1) (p 2) (p 3) (p 4) (p 5) (p 6) (p 7) (p 8) l := by
    intro l h1 h2
    rcases (show l = 1 ∨ l = 2 ∨ l = 3 ∨ l = 4 ∨ l = 5 ∨ l = 6 ∨ l = 7 ∨ l = 8 by omega) with rfl | rfl | rfl | rfl | rfl | rfl | rfl | rfl <;> rfl
  rw [og_ext (nI a) 8 _ e, mg_ext (nI a) 8 1 _ fun l h1 h2 => e l h1 (by omega)]
  exact row_all a ha _ _ _ _ _ _ _ _
def cnt (p : Nat → Bool) : Nat → Nat
  | 0 => 0
  | j + 1 => cnt p j + (bif p (j + 1) then 1 else 0)
theorem cnt_le (p : Nat → Bool) : ∀ j, cnt p j ≤ j
  | 0 => Nat.le_refl _
  | j + 1 => by
    have := cnt_le p j
    rw [cnt]
    cases p (j + 1) <;> simp <;> omega
theorem og_old (p : Nat → Bool) (a f t : Int32) : ∀ (j c : Nat), 1 ≤ c → c + j < 1000 → og p a j (nI c, f, t) = (nI (c + cnt p j), f, t)
  | 0, c, h1, h2 => rfl
  | j + 1, c, h1, h2 => by
    rw [og, cnt]
    cases p (j + 1) with
    | false => exact og_old p a f t j c h1 (by omega)
    | true =>
      show og p a j (nI c + 1, if nI c = 0 then a else f, if nI c = 0 then nI (j + 1) else t) = _
      rw [if_neg (nI_ne0 (by omega) (by omega)), if_neg (nI_ne0 (by omega) (by omega)), nI_1, og_old p a f t j (c + 1) (by omega) (by omega), show c + 1 + cnt p j = c + (cnt p j + 1) by omega]
      rfl
theorem mg_old (p : Nat → Bool) {a f : Nat} (ha : a < 5) (hf : f < a) (t : Int32) : ∀ (j k c : Nat), c + k + j < 1000 → mg p (nI a) j (k + 1) (nI (c + cnt p k), nI f, t) = (nI (c + cnt p (k + j)), nI f, t)
  | 0, k, c, h => rfl
  | j + 1, k, c, h => by
    rw [mg]
    have e : (bif p (k + 1) then (((nI (c + cnt p k), nI f, t) : Int32 × Int32 × Int32).1 + 1, if ((nI (c + cnt p k), nI f, t) : Int32 × Int32 × Int32).2.1 < 0 then nI a else ((nI (c + cnt p k), nI f, t) : Int32 × Int32 × Int32).2.1, if (if ((nI (c + cnt p k), nI f, t) : Int32 × Int32 × Int32).2.1 < 0 then nI a else ((nI (c + cnt p k), nI f, t) : Int32 × Int32 × Int32).2.1) = nI a then nI (k + 1) else ((nI (c + cnt p k), nI f, t) : Int32 × Int32 × Int32).2.2) else ((nI (c + cnt p k), nI f, t) : Int32 × Int32 × Int32)) = (nI (c + cnt p (k + 1)), nI f, t) := by
      rw [cnt]
      cases p (k + 1) with
      | false => rfl
      | true =>
        show (nI (c + cnt p k) + 1, if nI f < 0 then nI a else nI f, if (if nI f < 0 then nI a else nI f) = nI a then nI (k + 1) else t) = _
        rw [if_neg (nI_pos (by omega)), if_neg (nI_ne (by omega) (by omega) (by omega)), nI_1]
        rfl
    rw [e, mg_old p ha hf t j (k + 1) c (by omega), show k + 1 + j = k + (j + 1) by omega]
theorem row_same (p : Nat → Bool) {a : Nat} (ha : a < 5) (s : Int32 × Int32 × Int32) (hs : s = (0, -1, -1) ∨ ∃ c f, f < a ∧ 1 ≤ c ∧ c ≤ 8 * a ∧ s.1 = nI c ∧ s.2.1 = nI f) : og p (nI a) 8 s = mg p (nI a) 8 1 s ∧ (og p (nI a) 8 s = (0, -1, -1) ∨ ∃ c f, f < a + 1 ∧ 1 ≤ c ∧ c ≤ 8 * (a + 1) ∧ (og p (nI a) 8 s).1 = nI c ∧ (og p (nI a) 8 s).2.1 = nI f) := by
  rcases hs with rfl | ⟨c, f, h1, h2, h3, h4, h5⟩
  · obtain ⟨e, r⟩ := row_new p ha
    rw [e]
    refine ⟨rfl, ?_⟩
    rcases r with r | ⟨r1, n, r2, r3, r4⟩
    · exact Or.inl r
    · exact Or.inr ⟨n, a, by omega, r3, by omega, r4, r1⟩
  · obtain ⟨s1, s2, s3⟩ := s
    have h4 : s1 = nI c := h4
    have h5 : s2 = nI f := h5
    subst h4
    subst h5
    have e1 := og_old p (nI a) (nI f) s3 8 c h2 (by omega)
    have e2 := mg_old p ha h1 s3 8 0 c (by omega)
    have := cnt_le p 8
    rw [e1]
    refine ⟨?_, Or.inr ⟨c + cnt p 8, f, by omega, by omega, by omega, rfl, rfl⟩⟩
    rw [Nat.zero_add] at e2
    exact e2.symm
theorem o_laws_in {F : Nat → Bool} {a : Nat} (w : Int32) (k10 : Int32 → Int32 → Int32 → Int32 → Int32 → St → Re Int32) (hF : ∀ l, l < 9 → o_fits (nI a) (nI l) So = some (bI (F l), So)) : ∀ (j mm : Nat) (s : Int32 × Int32 × Int32), j < 9 → j < mm → o_laws_20 k10 mm w s.1 s.2.1 s.2.2 (nI a) (nI j) So = o_laws_70 k10 w (og F (nI a) j s).1 (og F (nI a) j s).2.1 (og F (nI a) j s).2.2 (nI a) So
  | 0, mm, s, hj, hm => by
    obtain ⟨mm, rfl, hm⟩ := fuel hm
    rw [o_laws_20, if_pos (by decide)]
    rfl
  | j + 1, mm, s, hj, hm => by
    obtain ⟨mm, rfl, hm⟩ := fuel hm
    have ed : nI (j + 1) + (-1 : Int32) = nI j := by
      rw [← Int32.sub_eq_add_neg]
      exact nI_pred j
    rw [o_laws_20, if_neg (show ¬ nI (j + 1) < 1 from nI_nlt (a := j + 1) (b := 1) (by omega) (by omega)), hF _ hj, bnq, og]
    unfold o_laws_47 o_laws_59 o_laws_64
    cases F (j + 1) with
    | false =>
      rw [if_pos bF, ltq, ed]
      exact o_laws_in w k10 hF j mm s (by omega) (by omega)
    | true =>
      have ih := o_laws_in w k10 hF j mm (s.1 + 1, if s.1 = 0 then nI a else s.2.1, if s.1 = 0 then nI (j + 1) else s.2.2) (by omega) (by omega)
      rw [if_neg bT]
      by_cases q : s.1 = 0
      · rw [if_pos q, if_pos q] at ih
        rw [if_pos q, if_pos q, ltq, ltq, ed]
        show _ = o_laws_70 k10 w (og F (nI a) j (s.1 + 1, if s.1 = 0 then nI a else s.2.1, if s.1 = 0 then nI (j + 1) else s.2.2)).1 (og F (nI a) j (s.1 + 1, if s.1 = 0 then nI a else s.2.1, if s.1 = 0 then nI (j + 1) else s.2.2)).2.1 (og F (nI a) j (s.1 + 1, if s.1 = 0 then nI a else s.2.1, if s.1 = 0 then nI (j + 1) else s.2.2)).2.2 (nI a) So
        rw [if_pos q, if_pos q]
        exact ih
      · rw [if_neg q, if_neg q] at ih
        rw [if_neg q, if_neg q, ltq, ltq, ed]
        show _ = o_laws_70 k10 w (og F (nI a) j (s.1 + 1, if s.1 = 0 then nI a else s.2.1, if s.1 = 0 then nI (j + 1) else s.2.2)).1 (og F (nI a) j (s.1 + 1, if s.1 = 0 then nI a else s.2.1, if s.1 = 0 then nI (j + 1) else s.2.2)).2.1 (og F (nI a) j (s.1 + 1, if s.1 = 0 then nI a else s.2.1, if s.1 = 0 then nI (j + 1) else s.2.2)).2.2 (nI a) So
        rw [if_neg q, if_neg q]
        exact ih
theorem m_laws_in {F : Nat → Bool} {a : Nat} (w : Int32) (k26 : Int32 → Int32 → Int32 → Int32 → Int32 → St → Re Int32) (hF : ∀ l, l < 9 → m_isLaw (nI a) (nI l) Sm = some (bI (F l), Sm)) : ∀ (j k mm : Nat) (s : Int32 × Int32 × Int32), k + j = 9 → j < mm → m_laws_35 k26 mm w s.1 s.2.1 s.2.2 (nI a) (nI k) Sm = m_laws_82 k26 w (mg F (nI a) j k s).1 (mg F (nI a) j k s).2.1 (mg F (nI a) j k s).2.2 (nI a) Sm
  | 0, k, mm, s, hk, hm => by
    obtain ⟨mm, rfl, hm⟩ := fuel hm
    obtain rfl : k = 9 := by omega
    rw [m_laws_35, if_neg (by decide)]
    rfl
  | j + 1, k, mm, s, hk, hm => by
    obtain ⟨mm, rfl, hm⟩ := fuel hm
    rw [m_laws_35, if_pos (show nI k < 9 from nI_lt (b := 9) (by omega) (by decide)), hF _ (by omega), bnq, mg]
    unfold m_laws_66 m_laws_76
    cases F k with
    | false =>
      rw [if_pos bF, ltq, nI_1]
      exact m_laws_in w k26 hF j (k + 1) mm s (by omega) (by omega)
    | true =>
      have ih := m_laws_in w k26 hF j (k + 1) mm (s.1 + 1, if s.2.1 < 0 then nI a else s.2.1, if (if s.2.1 < 0 then nI a else s.2.1) = nI a then nI k else s.2.2) (by omega) (by omega)
      rw [if_neg bT, ltq]
      refine Eq.trans ?_ ih
      by_cases q : s.2.1 < 0
      · rw [if_pos q, if_pos q, if_pos rfl, if_pos rfl, ltq, nI_1]
      · rw [if_neg q, if_neg q]
        by_cases q2 : s.2.1 = nI a
        · rw [if_pos q2, if_pos q2, ltq, nI_1]
        · rw [if_neg q2, if_neg q2, ltq, nI_1]
theorem laws_out {F : Nat → Nat → Bool} (w : Int32) (oF : ∀ a l, a < 5 → l < 9 → o_fits (nI a) (nI l) So = some (bI (F a l), So)) (mF : ∀ a l, a < 5 → l < 9 → m_isLaw (nI a) (nI l) Sm = some (bI (F a l), Sm)) : ∀ (j a m1 m2 : Nat) (s : Int32 × Int32 × Int32), a + j = 5 → j < m1 → j < m2 → (s = (0, -1, -1) ∨ ∃ c f, f < a ∧ 1 ≤ c ∧ c ≤ 8 * a ∧ s.1 = nI c ∧ s.2.1 = nI f) → ∃ s' : Int32 × Int32 × Int32, o_laws_10 m1 w s.1 s.2.1 s.2.2 (nI a) So = o_laws_76 w s'.1 s'.2.1 s'.2.2 So ∧ m_laws_26 m2 w s.1 s.2.1 s.2.2 (nI a) Sm = m_laws_88 w s'.1 s'.2.1 s'.2.2 Sm
  | 0, a, m1, m2, s, ha, h1, h2, hs => by
    obtain ⟨m1, rfl, h1⟩ := fuel h1
    obtain ⟨m2, rfl, h2⟩ := fuel h2
    obtain rfl : a = 5 := by omega
    refine ⟨s, ?_, ?_⟩
    · rw [o_laws_10, if_pos (by decide)]
    · rw [m_laws_26, if_neg (by decide)]
  | j + 1, a, m1, m2, s, ha, h1, h2, hs => by
    obtain ⟨m1, rfl, h1⟩ := fuel h1
    obtain ⟨m2, rfl, h2⟩ := fuel h2
    obtain ⟨e, hs'⟩ := row_same (F a) (show a < 5 by omega) s hs
    obtain ⟨s', i1, i2⟩ := laws_out w oF mF j (a + 1) m1 m2 (og (F a) (nI a) 8 s) (by omega) (by omega) (by omega) hs'
    refine ⟨s', ?_, ?_⟩
    · rw [o_laws_10, if_neg (show ¬ 4 < nI a from nI_nlt (a := 4) (b := a) (by omega) (by decide)), show (8 : Int32) = nI 8 from rfl, o_laws_in w _ (fun l hl => oF a l (by omega) hl) 8 FU s (by decide) (by unfold FU; omega)]
      unfold o_laws_70
      rw [ltq, nI_1]
      exact i1
    · rw [m_laws_26, if_pos (show nI a < 5 from nI_lt (b := 5) (by omega) (by decide)), show (1 : Int32) = nI 1 from rfl, m_laws_in w _ (fun l hl => mF a l (by omega) hl) 8 1 FU s (by decide) (by unfold FU; omega)]
      unfold m_laws_82
      rw [ltq, nI_1, ← e]
      exact i2
theorem laws_ok (h : Inv So Sm) (w : Int32) : Sim (o_laws w So) (m_laws w Sm) () := by
  have hI := h
  obtain ⟨T, W, V, L, v, Z, d, ht, hz, hs, hu, hm, hp, hr⟩ := h
  obtain ⟨hw, hO, hL, hB, hv, hT⟩ := ht
  have hO1 : OM T (wI Sm 500 0 0) := hO.fr (th0 Sm) fun a k q => PQ_or q
  obtain ⟨nl, fl, m, g, kn, th, s1, s2, s3, s4, s5, -⟩ := hs
  have hm12 : m ≤ 12 := s4.2.2.2.2.2.1
  have s5' : TlM T W 0 m g (wI Sm 500 0 0) := s5.fr (th0 Sm) (fun a k q => PQ_sl (by omega))
  obtain ⟨s', i1, i2⟩ := laws_out (So := So) (Sm := wI Sm 500 0 0) (F := fun a l => fitF g (nI a) (nI l) 0 m) w (fun a l ha hl => o_fits_loop s4 (fun i hi => by
    obtain ⟨c, k, b, r1, r2, r3, r4, r5, r6, r7, r8⟩ := s5.2 i hi
    exact ⟨b, r8⟩) (nI a) (nI l) m 0 FU (Nat.zero_add _) (by unfold FU; omega)) (fun a l ha hl => m_fits_loop hw hO1 hm12 s5' (nI a) (nI l) m 0 FU (Nat.zero_add _) (by unfold FU; omega)) 5 0 FU FU (0, -1, -1) (by decide) (by unfold FU; omega) (by unfold FU; omega) (Or.inl rfl)
  unfold o_laws m_laws
  rw [ltq, m_within_ok, bnq, (show o_laws_10 FU w 0 (-1) (-1) 0 So = _ from i1), (show m_laws_26 FU w 0 (-1) (-1) 0 (wI Sm 500 0 0) = _ from i2)]
  unfold o_laws_76 m_laws_88 m_laws_107
  rcases nI_or w 3 (by decide) with q | ⟨k, hk, rfl⟩ | ⟨k, hk, hk2, rfl⟩
  · rw [if_neg (ti_neg q (by decide)), if_neg (ti_neg q (by decide)), if_neg (ti_neg q (by decide)), decide_eq_true q, if_pos (show bI (!true && _) = 0 from rfl)]
    exact ⟨_, _, _, rfl, rfl, hI.th⟩
  · rcases (show k = 0 ∨ k = 1 ∨ k = 2 by omega) with rfl | rfl | rfl
    · rw [if_pos (by decide), if_neg (by decide), if_pos (by decide)]
      exact ⟨_, _, _, rfl, rfl, hI.th⟩
    · rw [if_neg (by decide), if_pos (by decide), if_neg (by decide), if_neg (by decide), if_pos (by decide)]
      exact ⟨_, _, _, rfl, rfl, hI.th⟩
    · rw [if_neg (by decide), if_neg (by decide), if_pos (by decide), if_neg (by decide), if_neg (by decide), if_neg (by decide)]
      exact ⟨_, _, _, rfl, rfl, hI.th⟩
  · rw [if_neg (ti_big (by omega) hk2), if_neg (ti_big (by omega) hk2), if_neg (ti_big (by omega) hk2), decide_eq_true (show (2 : Int32) < nI k from nI_lt (a := 2) (by omega) hk2), if_pos (show bI (_ && !true) = 0 by rw [Bool.not_true, Bool.and_false]; rfl)]
    exact ⟨_, _, _, rfl, rfl, hI.th⟩
end LAWS
