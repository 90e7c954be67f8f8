/-! The reference's law, worked: an abstract machine of frames, and that the arrays hold it. -/
/-- kept by and/or, ahead of < or =, the sum so far, the term so far: each with its sign (0: none); whether it is a not's -/
abbrev Fm : Type := (Nat × Int32) × (Nat × Int32) × (Nat × Int32) × (Nat × Int32) × Bool
def f0 (b : Bool) : Fm := ((0, 0), (0, 0), (0, 0), (0, 0), b)
def gT (f : Fm) (v : Int32) : Int32 := if f.2.2.2.1.1 = 0 then v else f.2.2.2.1.2 * v
def gS (f : Fm) (m : Int32) : Int32 := if f.2.2.1.1 = 0 then m else if f.2.2.1.1 = 21 then f.2.2.1.2 - m else f.2.2.1.2 + m
def gA (f : Fm) (s : Int32) : Int32 := if f.2.1.1 = 0 then s else if f.2.1.1 = 24 then bI (decide (f.2.1.2 < s)) else bI (decide (f.2.1.2 = s))
def gK (f : Fm) (x : Int32) : Int32 := if f.1.1 = 0 then x else if f.1.1 = 26 then bI (decide (f.1.2 ≠ 0) && decide (x ≠ 0)) else bI (decide (f.1.2 ≠ 0) || decide (x ≠ 0))
def fullV (f : Fm) (v : Int32) : Int32 := gK f (gA f (gS f (gT f v)))
/-- the nots that end behind a value -/
def pnt : List Fm → Int32 → List Fm × Int32
  | f :: g :: r, v => if f.2.2.2.2 = true then pnt (g :: r) (bI (decide (v = 0))) else (f :: g :: r, v)
  | l, v => (l, v)
abbrev LSt : Type := List Fm × Option Int32
def lstep (V : Nat → Int32) (c : Nat) : LSt → Option LSt
  | (fs, none) =>
    if c = 28 ∨ c = 30 then (if fs.length < 7 then some (f0 (decide (c = 30)) :: fs, none) else none)
    else if 100 ≤ c ∨ c < 20 then (match pnt fs (if 100 ≤ c then nI (c - 100) else V c) with | (l, v) => some (l, some v)) else none
  | (f :: fs, some v) =>
    if c = 22 then some ((f.1, f.2.1, f.2.2.1, (22, gT f v), f.2.2.2.2) :: fs, none)
    else if c = 20 ∨ c = 21 then some ((f.1, f.2.1, (c, gS f (gT f v)), (0, 0), f.2.2.2.2) :: fs, none)
    else if c = 24 ∨ c = 25 then (if f.2.1.1 = 0 then some ((f.1, (c, gS f (gT f v)), (0, 0), (0, 0), f.2.2.2.2) :: fs, none) else none)
    else if c = 26 ∨ c = 27 then some (((c, fullV f v), (0, 0), (0, 0), (0, 0), f.2.2.2.2) :: fs, none)
    else if c = 29 ∧ fs ≠ [] then (match pnt fs (fullV f v) with | (l, x) => some (l, some x)) else none
  | ([], some _) => none
def lrun (V : Nat → Int32) : List Nat → LSt → Option LSt
  | [], s => some s
  | c :: l, s => (lstep V c s).bind (lrun V l)
theorem lrun_app (V : Nat → Int32) : ∀ (l l' : List Nat) (s : LSt), lrun V (l ++ l') s = (lrun V l s).bind (lrun V l')
  | [], _, _ => rfl
  | c :: l, l', s => by
    rw [List.cons_append, lrun, lrun]
    cases lstep V c s with
    | none => rfl
    | some s' => exact lrun_app V l l' s'
def frE (d : Nat) : Nat → Nat → Bool := fun a k => decide (526 ≤ a) && decide (a ≤ 534) && k == d
def frEA : Nat → Nat → Bool := fun a _ => decide (526 ≤ a) && decide (a ≤ 534)
theorem frE_A {d a k : Nat} (h : frEA a k = false) : frE d a k = false := by
  unfold frEA at h
  unfold frE
  rw [h, Bool.false_and]
/-- a frame that waits for a part -/
def RF (d : Nat) (f : Fm) (S : St) : Prop :=
  (rI S 527 d = nI f.1.1 ∧ (f.1.1 = 0 ∨ f.1.1 = 26 ∨ f.1.1 = 27) ∧ (f.1.1 ≠ 0 → rI S 526 d = f.1.2)) ∧
  (rI S 529 d = nI f.2.1.1 ∧ (f.2.1.1 = 0 ∨ f.2.1.1 = 24 ∨ f.2.1.1 = 25) ∧ (f.2.1.1 ≠ 0 → rI S 528 d = f.2.1.2)) ∧
  (rI S 531 d = (if f.2.2.1.1 = 0 then 20 else nI f.2.2.1.1) ∧ (f.2.2.1.1 = 0 ∨ f.2.2.1.1 = 20 ∨ f.2.2.1.1 = 21) ∧ rI S 530 d = (if f.2.2.1.1 = 0 then 0 else f.2.2.1.2)) ∧
  (rI S 533 d = nI f.2.2.2.1.1 ∧ (f.2.2.2.1.1 = 0 ∨ f.2.2.2.1.1 = 22) ∧ (f.2.2.2.1.1 ≠ 0 → rI S 532 d = f.2.2.2.1.2)) ∧
  (0 < d → rI S 534 d = bI f.2.2.2.2)
/-- a frame with the value v of its last part -/
def RA (d : Nat) (f : Fm) (v : Int32) (S : St) : Prop :=
  (rI S 527 d = nI f.1.1 ∧ (f.1.1 = 0 ∨ f.1.1 = 26 ∨ f.1.1 = 27) ∧ (f.1.1 ≠ 0 → rI S 526 d = f.1.2)) ∧
  (rI S 529 d = nI f.2.1.1 ∧ (f.2.1.1 = 0 ∨ f.2.1.1 = 24 ∨ f.2.1.1 = 25) ∧ (f.2.1.1 ≠ 0 → rI S 528 d = f.2.1.2)) ∧
  (rI S 531 d = (if f.2.2.1.1 = 0 then 20 else nI f.2.2.1.1) ∧ (f.2.2.1.1 = 0 ∨ f.2.2.1.1 = 20 ∨ f.2.2.1.1 = 21) ∧ rI S 530 d = (if f.2.2.1.1 = 0 then 0 else f.2.2.1.2)) ∧
  rI S 532 d = gT f v ∧
  (0 < d → rI S 534 d = bI f.2.2.2.2)
def RL : List Fm → St → Prop
  | [], _ => True
  | f :: r, S => RF r.length f S ∧ RL r S
def RLS : LSt → St → Prop
  | (fs, none), S => RL fs S
  | (f :: r, some v), S => RA r.length f v S ∧ RL r S
  | ([], some _), _ => False
section WRK
variable {d : Nat} {f : Fm} {S S' : St}
theorem RF.fr {P : Nat → Nat → Bool} (h : RF d f S) (hf : Fr P S S') (e : ∀ a, P a d = false) : RF d f S' := by
  unfold RF at h ⊢
  simp only [hf.i (e 526), hf.i (e 527), hf.i (e 528), hf.i (e 529), hf.i (e 530), hf.i (e 531), hf.i (e 532), hf.i (e 533), hf.i (e 534)]
  exact h
theorem RL.fr : ∀ {r : List Fm} {e : Nat}, RL r S → Fr (frE e) S S' → r.length ≤ e → RL r S'
  | [], _, _, _, _ => trivial
  | f :: r, e, h, hf, he => by
    rw [List.length_cons] at he
    exact ⟨h.1.fr hf fun a => by
      have : (r.length == e) = false := by simp; omega
      unfold frE
      rw [this, Bool.and_false], RL.fr h.2 hf (by omega)⟩
theorem m_opens_ok (hd : d < 7) (S : St) : ∃ S', m_opens (nI d) S = some ((), S') ∧ Fr (frE d) S S' ∧ rI S' 527 d = 0 ∧ rI S' 529 d = 0 ∧ rI S' 530 d = 0 ∧ rI S' 531 d = 20 ∧ rI S' 533 d = 0 ∧ rI S' 534 d = rI S 534 d := by
  have g := nI_in hd (show 7 < 2 ^ 31 by omega)
  refine ⟨wI (wI (wI (wI (wI S 527 d 0) 529 d 0) 530 d 0) 531 d 20) 533 d 0, ?_, ((((Fr.wI ?_).tr (Fr.wI ?_)).tr (Fr.wI ?_)).tr (Fr.wI ?_)).tr (Fr.wI ?_), ?_, ?_, ?_, ?_, ?_, ?_⟩
  · unfold m_opens
    simp only [ltq]
    rw [if_neg g, if_neg g, if_neg g, if_neg g, if_neg g, nI_clamp (by omega)]
  all_goals first
    | (simp [frE]; done)
    | (repeat first | rw [rI_wI] | rw [rI_wI_a (by decide)])
theorem m_sums_ok (hd : d < 7) {v : Int32} (h : RA d f v S) : ∃ S', m_sums (nI d) S = some ((), S') ∧ Fr (frE d) S S' ∧ rI S' 530 d = gS f (gT f v) ∧ rI S' 533 d = 0 ∧ (∀ a, a ≠ 530 → a ≠ 533 → rI S' a d = rI S a d) := by
  have g := nI_in hd (show 7 < 2 ^ 31 by omega)
  have g' := nI_inC hd (show 7 < 2 ^ 31 by omega)
  obtain ⟨-, -, ⟨h1, h2, h3⟩, h4, -⟩ := h
  have e45 : ∀ x : Int32, m_sums_45 (nI d) x (nI d) S = some ((), wI (wI S 530 d x) 533 d 0) := fun x => by
    unfold m_sums_45
    simp only [ltq]
    rw [if_neg g, if_neg g, nI_clamp (by omega)]
  refine ⟨wI (wI S 530 d (gS f (gT f v))) 533 d 0, ?_, (Fr.wI (by simp [frE])).tr (Fr.wI (by simp [frE])), by rw [rI_wI_a (by decide), rI_wI], by rw [rI_wI], fun a q1 q2 => by rw [rI_wI_a q2, rI_wI_a q1]⟩
  unfold m_sums
  rw [if_neg g, nI_clamp (by omega), h1, h3, h4, e45, e45]
  unfold gS
  rcases h2 with h2 | h2 | h2
  · rw [if_pos h2, if_pos h2, if_pos h2, if_neg (show ¬ (20 : Int32) = 21 by decide), if_neg g', if_neg g', Int32.zero_add]
  · rw [if_neg (show ¬ f.2.2.1.1 = 0 by omega), if_neg (show ¬ f.2.2.1.1 = 0 by omega), if_neg (show ¬ f.2.2.1.1 = 0 by omega), h2, if_neg (show ¬ nI 20 = 21 by decide), if_neg g', if_neg g', if_neg (show ¬ 20 = 21 by decide)]
  · rw [if_neg (show ¬ f.2.2.1.1 = 0 by omega), if_neg (show ¬ f.2.2.1.1 = 0 by omega), if_neg (show ¬ f.2.2.1.1 = 0 by omega), h2, if_pos (show nI 21 = 21 from rfl), if_neg g', if_neg g', if_pos rfl]
theorem m_tests_ok (hd : d < 7) {v : Int32} (h : RA d f v S) : ∃ S', m_tests (nI d) S = some ((), S') ∧ Fr (frE d) S S' ∧ rI S' 526 d = fullV f v ∧ rI S' 529 d = 0 ∧ rI S' 530 d = 0 ∧ rI S' 531 d = 20 ∧ rI S' 533 d = 0 ∧ rI S' 534 d = rI S 534 d := by
  have g := nI_in hd (show 7 < 2 ^ 31 by omega)
  have gC := nI_inC hd (show 7 < 2 ^ 31 by omega)
  obtain ⟨S1, e1, e2, e3, e4, e5⟩ := m_sums_ok hd h
  obtain ⟨⟨a1, a2, a3⟩, ⟨b1, b2, b3⟩, -, -, c1⟩ := h
  have e136 : ∀ x : Int32, m_tests_136 (nI d) x S1 = some ((), wI (wI (wI (wI S1 526 d x) 529 d 0) 530 d 0) 531 d 20) := fun x => by
    unfold m_tests_136
    simp only [ltq]
    rw [if_neg g, if_neg g, if_neg g, if_neg g, nI_clamp (by omega)]
  have e106 : ∀ x : Int32, f.1.1 ≠ 26 → m_tests_106 (nI d) x S1 = m_tests_136 (nI d) (gK f x) S1 := fun x hx => by
    unfold m_tests_106 gK
    rw [if_neg g, nI_clamp (by omega), e5 527 (by decide) (by decide), a1]
    rcases a2 with q | q | q
    · rw [q, if_neg (by decide), if_pos rfl]
    · exact absurd q hx
    · rw [if_neg (show ¬ f.1.1 = 0 by omega), if_neg hx]
      unfold m_tests_135 m_tests_130 m_tests_135
      rw [q, if_pos (show nI 27 = 27 from rfl), if_neg gC, e5 526 (by decide) (by decide), a3 (by omega)]
      by_cases h1 : f.1.2 = 0
      · by_cases h2 : x = 0
        · simp [h1, h2, bI]
        · simp [h1, h2, bI]
      · simp [h1, bI]
  have e76 : ∀ x : Int32, m_tests_76 (nI d) x S1 = m_tests_136 (nI d) (gK f x) S1 := fun x => by
    unfold m_tests_76
    rw [if_neg g, nI_clamp (by omega), e5 527 (by decide) (by decide), a1]
    by_cases hq : f.1.1 = 26
    · rw [if_pos (by rw [hq]; decide), if_neg gC, e5 526 (by decide) (by decide), a3 (by omega)]
      unfold m_tests_104 m_tests_105 m_tests_106 gK
      rw [if_neg g, nI_clamp (by omega), e5 527 (by decide) (by decide), a1, hq, if_neg (show ¬ nI 26 = 27 by decide), if_neg (show ¬ 26 = 0 by decide), if_pos rfl]
      rw [if_neg gC, if_neg (show ¬ nI 26 = 27 by decide)]
      by_cases h1 : f.1.2 = 0
      · simp [h1, bI]
      · by_cases h2 : x = 0
        · simp [h1, h2, bI]
        · simp [h1, h2, bI]
    · rw [if_neg (by
        rcases a2 with q | q | q
        · rw [q]; decide
        · exact absurd q hq
        · rw [q]; decide), e106 x hq]
  have fin : ∀ x, x = fullV f v → ∃ S', m_tests_136 (nI d) x S1 = some ((), S') ∧ Fr (frE d) S S' ∧ rI S' 526 d = fullV f v ∧ rI S' 529 d = 0 ∧ rI S' 530 d = 0 ∧ rI S' 531 d = 20 ∧ rI S' 533 d = 0 ∧ rI S' 534 d = rI S 534 d := by
    rintro x rfl
    refine ⟨_, e136 _, (((e2.tr (Fr.wI ?_)).tr (Fr.wI ?_)).tr (Fr.wI ?_)).tr (Fr.wI ?_), ?_, ?_, ?_, ?_, ?_, ?_⟩
    · simp [frE]
    · simp [frE]
    · simp [frE]
    · simp [frE]
    · rw [rI_wI_a (by decide), rI_wI_a (by decide), rI_wI_a (by decide), rI_wI]
    · rw [rI_wI_a (by decide), rI_wI_a (by decide), rI_wI]
    · rw [rI_wI_a (by decide), rI_wI]
    · rw [rI_wI]
    · rw [rI_wI_a (by decide), rI_wI_a (by decide), rI_wI_a (by decide), rI_wI_a (by decide), e4]
    · rw [rI_wI_a (by decide), rI_wI_a (by decide), rI_wI_a (by decide), rI_wI_a (by decide), e5 534 (by decide) (by decide)]
  unfold m_tests
  simp only [ltq]
  rw [e1, bn_some, if_neg g, if_neg g, nI_clamp (by omega), e5 529 (by decide) (by decide), b1, e3]
  rcases b2 with q | q | q
  · rw [q, if_neg (by decide)]
    unfold m_tests_44
    rw [if_neg g, nI_clamp (by omega), e5 529 (by decide) (by decide), b1, q, if_neg (by decide), e76]
    exact fin _ (by unfold fullV gA; rw [if_pos q])
  · rw [q, if_pos (by decide), if_neg gC, if_neg gC, e5 528 (by decide) (by decide), b3 (by omega)]
    unfold m_tests_43 m_tests_44
    rw [if_neg g, nI_clamp (by omega), e5 529 (by decide) (by decide), b1, q, if_neg (show ¬ nI 24 = 25 by decide), if_neg (show ¬ nI 24 = 25 by decide), e76, e76]
    by_cases h1 : f.2.1.2 < gS f (gT f v)
    · rw [if_pos h1]
      try rw [if_neg gC]
      refine fin _ ?_
      unfold fullV gA
      rw [if_neg (by omega), if_pos q, decide_eq_true h1]
      rfl
    · rw [if_neg h1]
      try rw [if_neg gC]
      refine fin _ ?_
      unfold fullV gA
      rw [if_neg (by omega), if_pos q, decide_eq_false h1]
      rfl
  · rw [q, if_neg (by decide)]
    unfold m_tests_44
    rw [if_neg g, nI_clamp (by omega), e5 529 (by decide) (by decide), b1, q, if_pos (by decide), if_neg gC, if_neg gC, e5 528 (by decide) (by decide), b3 (by omega), e3]
    unfold m_tests_75
    rw [e76, e76]
    by_cases h1 : f.2.1.2 = gS f (gT f v)
    · rw [if_pos h1]
      refine fin _ ?_
      unfold fullV gA
      rw [if_neg (by omega), if_neg (by omega), decide_eq_true h1]
      rfl
    · rw [if_neg h1]
      refine fin _ ?_
      unfold fullV gA
      rw [if_neg (by omega), if_neg (by omega), decide_eq_false h1]
      rfl
/-- a value is laid into the frames: nots end -/
theorem m_worked_val (k14 : Int32 → Int32 → Int32 → St → Re Int32) (v1 v3 : Int32) : ∀ (fs : List Fm) (m : Nat) (x : Int32) (S : St), fs ≠ [] → fs.length ≤ 7 → fs.length ≤ m → RL fs S → ∃ S' : St, m_worked_268 k14 m v1 (nI (fs.length - 1)) v3 x S = m_worked_329 k14 v1 (nI ((pnt fs x).1.length - 1)) v3 S' ∧ RLS ((pnt fs x).1, some (pnt fs x).2) S' ∧ Fr frEA S S' ∧ (pnt fs x).1.length ≤ fs.length ∧ (pnt fs x).1 ≠ []
  | [], m, x, S, h0, _, _, _ => absurd rfl h0
  | f :: r, m, x, S, _, hl, hm, h => by
    rw [List.length_cons] at hl hm ⊢
    obtain ⟨m, rfl, hm⟩ := fuel (j := r.length) hm
    have hd : r.length < 7 := by omega
    have g := nI_in hd (show 7 < 2 ^ 31 by omega)
    have lay : ∃ S' : St, m_worked_300 k14 v1 (nI r.length) v3 x S = m_worked_329 k14 v1 (nI r.length) v3 S' ∧ (RA r.length f x S' ∧ RL r S') ∧ Fr frEA S S' := by
      have e328 : ∀ y, m_worked_328 k14 v1 (nI r.length) v3 y (nI r.length) S = m_worked_329 k14 v1 (nI r.length) v3 (wI S 532 r.length y) := fun y => by
        unfold m_worked_328
        simp only [ltq]
        rw [if_neg g, nI_clamp (by omega)]
      obtain ⟨h1, h2⟩ := h
      refine ⟨wI S 532 r.length (gT f x), ?_, ⟨?_, RL.fr h2 (e := r.length) (Fr.wI (by simp [frE])) (Nat.le_refl _)⟩, Fr.wI (by simp [frEA])⟩
      · obtain ⟨-, -, -, ⟨q1, q2, q3⟩, -⟩ := h1
        unfold m_worked_300
        rw [if_neg g, nI_clamp (by omega), q1, e328]
        unfold gT
        rcases q2 with q2 | q2
        · rw [if_pos (by rw [q2]; rfl), if_pos q2]
        · rw [if_neg (by rw [q2]; decide), if_neg (show ¬ f.2.2.2.1.1 = 0 by omega), if_neg (nI_inC hd (by omega)), q3 (by omega), e328]
      · obtain ⟨h3, h4, h5, -, h6⟩ := h1
        unfold RA
        simp only [rI_wI_a (show (526 : Nat) ≠ 532 by decide), rI_wI_a (show (527 : Nat) ≠ 532 by decide), rI_wI_a (show (528 : Nat) ≠ 532 by decide), rI_wI_a (show (529 : Nat) ≠ 532 by decide), rI_wI_a (show (530 : Nat) ≠ 532 by decide), rI_wI_a (show (531 : Nat) ≠ 532 by decide), rI_wI_a (show (534 : Nat) ≠ 532 by decide), rI_wI]
        exact ⟨h3, h4, h5, trivial, h6⟩
    rw [m_worked_268, Nat.add_sub_cancel]
    cases r with
    | nil =>
      obtain ⟨S', e1, e2, e3⟩ := lay
      rw [if_neg (by decide)]
      exact ⟨S', e1, e2, e3, Nat.le_refl _, by simp [pnt]⟩
    | cons g' r =>
      rw [if_pos (show 0 < nI (g' :: r).length from nI_lt (a := 0) (by rw [List.length_cons]; omega) (by rw [List.length_cons] at hl ⊢; omega)), if_neg g, nI_clamp (by omega), h.1.2.2.2.2 (by rw [List.length_cons]; omega)]
      by_cases hn : f.2.2.2.2 = true
      · rw [if_pos (by rw [hn]; rfl)]
        obtain ⟨S', e1, e2, e3, e4, e5⟩ := m_worked_val k14 v1 v3 (g' :: r) m (bI (decide (x = 0))) S (by simp) (by omega) (by omega) h.2
        have hp : pnt (f :: g' :: r) x = pnt (g' :: r) (bI (decide (x = 0))) := by rw [pnt, if_pos hn]
        rw [hp]
        refine ⟨S', ?_, e2, e3, by omega, e5⟩
        rw [← e1]
        have ex : nI (g' :: r).length + (-1 : Int32) = nI ((g' :: r).length - 1) := by
          rw [List.length_cons, Nat.add_sub_cancel, show nI (r.length + 1) = nI r.length + 1 from (nI_1 _).symm, Int32.add_assoc, show (1 : Int32) + -1 = 0 by decide, Int32.add_zero]
        unfold m_worked_292
        simp only [ltq]
        rw [ex]
        by_cases hx : x = 0
        · rw [if_pos hx, decide_eq_true hx]
          rfl
        · rw [if_neg hx, decide_eq_false hx]
          rfl
      · rw [if_neg (by
          rw [bI_o]
          exact hn)]
        obtain ⟨S', e1, e2, e3⟩ := lay
        have hp : pnt (f :: g' :: r) x = (f :: g' :: r, x) := by rw [pnt, if_neg hn]
        rw [hp]
        exact ⟨S', e1, e2, e3, Nat.le_refl _, by simp⟩
end WRK
