/-! Reading a law: the class's steps against the reference's codes. -/
section SHAPES
abbrev Sh : Type := Nat × Nat × Nat × Nat × Bool
def shp (f : Fm) : Sh := (f.1.1, f.2.1.1, f.2.2.1.1, f.2.2.2.1.1, f.2.2.2.2)
def tT (s : Sh) : List Nat := if s.2.2.2.1 = 0 then [] else [14]
def sT (s : Sh) : List Nat := if s.2.2.1 = 0 then [] else [if s.2.2.1 = 20 then 12 else 13]
def cT (s : Sh) : List Nat := if s.2.1 = 0 then [] else [if s.2.1 = 24 then 10 else 11]
def kkT (s : Sh) : List Nat := if s.1 = 0 then [] else [if s.1 = 26 then 8 else 9]
def tkF (s : Sh) : List Nat := tT s ++ (sT s ++ (cT s ++ kkT s))
def okS (s : Sh) : Prop := (s.1 = 0 ∨ s.1 = 26 ∨ s.1 = 27) ∧ (s.2.1 = 0 ∨ s.2.1 = 24 ∨ s.2.1 = 25) ∧ (s.2.2.1 = 0 ∨ s.2.2.1 = 20 ∨ s.2.2.1 = 21) ∧ (s.2.2.2.1 = 0 ∨ s.2.2.2.1 = 22) ∧ (s.2.2.2.2 = true → s.1 = 0 ∧ s.2.1 = 0 ∧ s.2.2.1 = 0 ∧ s.2.2.2.1 = 0)
def wsF : List Sh → List Nat
  | [] => []
  | [s] => tkF s
  | s :: t :: r => tkF s ++ (if s.2.2.2.2 = true then 7 else 4) :: wsF (t :: r)
def vT (f : Fm) : List Int32 := if f.2.2.2.1.1 = 0 then [] else [f.2.2.2.1.2]
def vS (f : Fm) : List Int32 := if f.2.2.1.1 = 0 then [] else [f.2.2.1.2]
def vC (f : Fm) : List Int32 := if f.2.1.1 = 0 then [] else [f.2.1.2]
def vK (f : Fm) : List Int32 := if f.1.1 = 0 then [] else [f.1.2]
def vlF (f : Fm) : List Int32 := vT f ++ (vS f ++ (vC f ++ vK f))
def stF : List Fm → List Int32
  | [] => []
  | f :: r => vlF f ++ stF r
/-- behind a frame's own signs comes none that binds -/
def RH (R : List Nat) : Prop := R = [] ∨ ∃ x r, R = x :: r ∧ stT x = 0
theorem RH_rl {R : List Nat} (h : RH R) {s : Nat} (hs : 1 ≤ s) : rlT s R = [] ∧ rlD s R = R := by
  rcases h with rfl | ⟨x, r, rfl, hx⟩
  · exact ⟨rfl, rfl⟩
  · rw [rlT, rlD, if_neg (by omega), if_neg (by omega)]
    exact ⟨rfl, rfl⟩
theorem rl_go {s t : Nat} {R : List Nat} (h : s ≤ stT t) : rlT s (t :: R) = t :: rlT s R ∧ rlD s (t :: R) = rlD s R := by
  rw [rlT, rlD, if_pos h, if_pos h]
  exact ⟨rfl, rfl⟩
theorem rl_no {s t : Nat} {R : List Nat} (h : ¬ s ≤ stT t) : rlT s (t :: R) = [] ∧ rlD s (t :: R) = t :: R := by
  rw [rlT, rlD, if_neg h, if_neg h]
  exact ⟨rfl, rfl⟩
theorem rl_K (s : Sh) {R : List Nat} (hR : RH R) : rlT 1 (kkT s ++ R) = kkT s ∧ rlD 1 (kkT s ++ R) = R ∧ ∀ i, 2 ≤ i → rlT i (kkT s ++ R) = [] ∧ rlD i (kkT s ++ R) = kkT s ++ R := by
  unfold kkT
  by_cases h : s.1 = 0
  · rw [if_pos h, List.nil_append]
    exact ⟨(RH_rl hR (by decide)).1, (RH_rl hR (by decide)).2, fun i hi => RH_rl hR (by omega)⟩
  · rw [if_neg h, List.cons_append, List.nil_append]
    have h1 : stT (if s.1 = 26 then 8 else 9) = 1 := by
      by_cases q : s.1 = 26
      · rw [if_pos q]; rfl
      · rw [if_neg q]; rfl
    refine ⟨?_, ?_, fun i hi => rl_no (by omega)⟩
    · rw [(rl_go (by omega)).1, (RH_rl hR (by decide)).1]
    · rw [(rl_go (by omega)).2, (RH_rl hR (by decide)).2]
theorem rl_C (s : Sh) {R : List Nat} (hR : RH R) : rlT 1 (cT s ++ (kkT s ++ R)) = cT s ++ kkT s ∧ rlD 1 (cT s ++ (kkT s ++ R)) = R ∧ ∀ i, 3 ≤ i → rlT i (cT s ++ (kkT s ++ R)) = [] ∧ rlD i (cT s ++ (kkT s ++ R)) = cT s ++ (kkT s ++ R) := by
  obtain ⟨k1, k2, k3⟩ := rl_K s hR
  unfold cT
  by_cases h : s.2.1 = 0
  · rw [if_pos h, List.nil_append, List.nil_append]
    exact ⟨k1, k2, fun i hi => k3 i (by omega)⟩
  · rw [if_neg h, List.cons_append, List.nil_append]
    have h1 : stT (if s.2.1 = 24 then 10 else 11) = 2 := by
      by_cases q : s.2.1 = 24
      · rw [if_pos q]; rfl
      · rw [if_neg q]; rfl
    refine ⟨?_, ?_, fun i hi => rl_no (by omega)⟩
    · rw [(rl_go (by omega)).1, k1]; rfl
    · rw [(rl_go (by omega)).2, k2]
theorem rl_S (s : Sh) {R : List Nat} (hR : RH R) : rlT 1 (sT s ++ (cT s ++ (kkT s ++ R))) = sT s ++ (cT s ++ kkT s) ∧ rlD 1 (sT s ++ (cT s ++ (kkT s ++ R))) = R ∧ rlT 3 (sT s ++ (cT s ++ (kkT s ++ R))) = sT s ∧ rlD 3 (sT s ++ (cT s ++ (kkT s ++ R))) = cT s ++ (kkT s ++ R) ∧ rlT 4 (sT s ++ (cT s ++ (kkT s ++ R))) = [] ∧ rlD 4 (sT s ++ (cT s ++ (kkT s ++ R))) = sT s ++ (cT s ++ (kkT s ++ R)) := by
  obtain ⟨k1, k2, k3⟩ := rl_C s hR
  unfold sT
  by_cases h : s.2.2.1 = 0
  · rw [if_pos h, List.nil_append, List.nil_append]
    exact ⟨k1, k2, (k3 3 (by decide)).1, (k3 3 (by decide)).2, (k3 4 (by decide)).1, (k3 4 (by decide)).2⟩
  · rw [if_neg h, List.cons_append, List.nil_append]
    have h1 : stT (if s.2.2.1 = 20 then 12 else 13) = 3 := by
      by_cases q : s.2.2.1 = 20
      · rw [if_pos q]; rfl
      · rw [if_neg q]; rfl
    refine ⟨?_, ?_, ?_, ?_, (rl_no (by omega)).1, (rl_no (by omega)).2⟩
    · rw [(rl_go (by omega)).1, k1]; rfl
    · rw [(rl_go (by omega)).2, k2]
    · rw [(rl_go (by omega)).1, (k3 3 (by decide)).1]
    · rw [(rl_go (by omega)).2, (k3 3 (by decide)).2]
theorem rl_F (s : Sh) {R : List Nat} (hR : RH R) : rlT 1 (tkF s ++ R) = tkF s ∧ rlD 1 (tkF s ++ R) = R ∧ rlT 3 (tkF s ++ R) = tT s ++ sT s ∧ rlD 3 (tkF s ++ R) = cT s ++ (kkT s ++ R) ∧ rlT 4 (tkF s ++ R) = tT s ∧ rlD 4 (tkF s ++ R) = sT s ++ (cT s ++ (kkT s ++ R)) := by
  obtain ⟨k1, k2, k3, k4, k5, k6⟩ := rl_S s hR
  have e : tkF s ++ R = tT s ++ (sT s ++ (cT s ++ (kkT s ++ R))) := by
    unfold tkF
    simp only [List.append_assoc]
  rw [e]
  unfold tkF tT
  by_cases h : s.2.2.2.1 = 0
  · rw [if_pos h, List.nil_append, List.nil_append, List.nil_append]
    exact ⟨k1, k2, k3, k4, k5, k6⟩
  · rw [if_neg h, List.cons_append, List.nil_append]
    have h1 : stT 14 = 4 := rfl
    refine ⟨?_, ?_, ?_, ?_, ?_, ?_⟩
    · rw [(rl_go (by omega)).1, k1]; rfl
    · rw [(rl_go (by omega)).2, k2]
    · rw [(rl_go (by omega)).1, k3]; rfl
    · rw [(rl_go (by omega)).2, k4]
    · rw [(rl_go (by omega)).1, k5]
    · rw [(rl_go (by omega)).2, k6]
/-! the steps' answers -/
theorem rp_jn (F : Nat → Int32) {t : Nat} (ht : 8 ≤ t ∧ t ≤ 14) (a b : Int32) (X : List Int32) : rp F [(t, 0)] (b :: a :: X) = some (jn t a b :: X) := by
  rw [rp]
  have e : rpS F t 0 (b :: a :: X) = some (jn t a b :: X) := by
    unfold rpS
    rw [if_neg (by omega), if_pos ht]
  show (match rpS F t 0 (b :: a :: X) with | none => none | some st' => rp F [] st') = _
  rw [e]
  rfl
theorem rp_T (F : Nat → Int32) (f : Fm) (x : Int32) (X : List Int32) : rp F (zst (tT (shp f))) (x :: (vT f ++ X)) = some (gT f x :: X) := by
  unfold tT vT gT
  show rp F (zst (if f.2.2.2.1.1 = 0 then [] else [14])) _ = _
  by_cases h : f.2.2.2.1.1 = 0
  · rw [if_pos h, if_pos h, if_pos h]
    rfl
  · rw [if_neg h, if_neg h, if_neg h]
    exact rp_jn F (by decide) _ _ X
theorem rp_S (F : Nat → Int32) (f : Fm) (hf : okS (shp f)) (x : Int32) (X : List Int32) : rp F (zst (sT (shp f))) (x :: (vS f ++ X)) = some (gS f x :: X) := by
  unfold sT vS gS
  have h2 : f.2.2.1.1 = 0 ∨ f.2.2.1.1 = 20 ∨ f.2.2.1.1 = 21 := hf.2.2.1
  show rp F (zst (if f.2.2.1.1 = 0 then [] else [if f.2.2.1.1 = 20 then 12 else 13])) _ = _
  rcases h2 with h | h | h
  · rw [if_pos h, if_pos h, if_pos h]
    rfl
  · have n0 : ¬ f.2.2.1.1 = 0 := by omega
    have n1 : ¬ f.2.2.1.1 = 21 := by omega
    rw [if_neg n0, if_neg n0, if_neg n0, if_pos h, if_neg n1]
    exact rp_jn F (by decide) _ _ X
  · have n0 : ¬ f.2.2.1.1 = 0 := by omega
    have n1 : ¬ f.2.2.1.1 = 20 := by omega
    rw [if_neg n0, if_neg n0, if_neg n0, if_neg n1, if_pos h]
    exact rp_jn F (by decide) _ _ X
theorem rp_C (F : Nat → Int32) (f : Fm) (hf : okS (shp f)) (x : Int32) (X : List Int32) : rp F (zst (cT (shp f))) (x :: (vC f ++ X)) = some (gA f x :: X) := by
  unfold cT vC gA
  have h2 : f.2.1.1 = 0 ∨ f.2.1.1 = 24 ∨ f.2.1.1 = 25 := hf.2.1
  show rp F (zst (if f.2.1.1 = 0 then [] else [if f.2.1.1 = 24 then 10 else 11])) _ = _
  rcases h2 with h | h | h
  · rw [if_pos h, if_pos h, if_pos h]
    rfl
  · have n0 : ¬ f.2.1.1 = 0 := by omega
    rw [if_neg n0, if_neg n0, if_neg n0, if_pos h, if_pos h]
    exact rp_jn F (by decide) _ _ X
  · have n0 : ¬ f.2.1.1 = 0 := by omega
    have n1 : ¬ f.2.1.1 = 24 := by omega
    rw [if_neg n0, if_neg n0, if_neg n0, if_neg n1, if_neg n1]
    exact rp_jn F (by decide) _ _ X
theorem rp_K (F : Nat → Int32) (f : Fm) (hf : okS (shp f)) (x : Int32) (X : List Int32) : rp F (zst (kkT (shp f))) (x :: (vK f ++ X)) = some (gK f x :: X) := by
  unfold kkT vK gK
  have h2 : f.1.1 = 0 ∨ f.1.1 = 26 ∨ f.1.1 = 27 := hf.1
  show rp F (zst (if f.1.1 = 0 then [] else [if f.1.1 = 26 then 8 else 9])) _ = _
  rcases h2 with h | h | h
  · rw [if_pos h, if_pos h, if_pos h]
    rfl
  · have n0 : ¬ f.1.1 = 0 := by omega
    rw [if_neg n0, if_neg n0, if_neg n0, if_pos h, if_pos h]
    exact rp_jn F (by decide) _ _ X
  · have n0 : ¬ f.1.1 = 0 := by omega
    have n1 : ¬ f.1.1 = 26 := by omega
    rw [if_neg n0, if_neg n0, if_neg n0, if_neg n1, if_neg n1]
    exact rp_jn F (by decide) _ _ X
theorem zst_app (a b : List Nat) : zst (a ++ b) = zst a ++ zst b := List.map_append
theorem rp_TS (F : Nat → Int32) (f : Fm) (hf : okS (shp f)) (x : Int32) (X : List Int32) : rp F (zst (tT (shp f) ++ sT (shp f))) (x :: (vT f ++ (vS f ++ X))) = some (gS f (gT f x) :: X) := by
  rw [zst_app, rp_app, rp_T, Option.bind_some]
  exact rp_S F f hf _ X
theorem rp_F (F : Nat → Int32) (f : Fm) (hf : okS (shp f)) (x : Int32) (X : List Int32) : rp F (zst (tkF (shp f))) (x :: (vlF f ++ X)) = some (fullV f x :: X) := by
  unfold tkF vlF fullV
  rw [zst_app, rp_app, List.append_assoc, rp_T, Option.bind_some, zst_app, rp_app, List.append_assoc, rp_S F f hf, Option.bind_some, zst_app, rp_app, List.append_assoc, rp_C F f hf, Option.bind_some]
  exact rp_K F f hf _ X
/-- frames that end with a part, of shapes -/
def pnS : List Sh → List Sh
  | s :: t :: r => if s.2.2.2.2 = true then pnS (t :: r) else s :: t :: r
  | l => l
theorem wsF_hd {s : Sh} {r : List Sh} : ∃ R, RH R ∧ wsF (s :: r) = tkF s ++ R := by
  cases r with
  | nil => exact ⟨[], Or.inl rfl, (List.append_nil _).symm⟩
  | cons t r =>
    refine ⟨_, Or.inr ⟨_, _, rfl, ?_⟩, rfl⟩
    by_cases q : s.2.2.2.2 = true
    · rw [if_pos q]; rfl
    · rw [if_neg q]; rfl
theorem tkF_no {s : Sh} (h : okS s) (hn : s.2.2.2.2 = true) : tkF s = [] := by
  obtain ⟨h1, h2, h3, h4⟩ := h.2.2.2.2 hn
  unfold tkF tT sT cT kkT
  rw [if_pos h1, if_pos h2, if_pos h3, if_pos h4]
  rfl
theorem tkF_7 (s : Sh) : ∀ x ∈ tkF s, x ≠ 7 ∧ 8 ≤ x ∧ x ≤ 14 := by
  intro x hx
  unfold tkF tT sT cT kkT at hx
  rw [List.mem_append, List.mem_append, List.mem_append] at hx
  have key : 8 ≤ x ∧ x ≤ 14 := by
    rcases hx with hx | hx | hx | hx
    · split at hx
      · cases hx
      · rw [List.mem_singleton] at hx
        omega
    · split at hx
      · cases hx
      · rw [List.mem_singleton] at hx
        split at hx <;> omega
    · split at hx
      · cases hx
      · rw [List.mem_singleton] at hx
        split at hx <;> omega
    · split at hx
      · cases hx
      · rw [List.mem_singleton] at hx
        split at hx <;> omega
  omega
theorem ntN_F (s : Sh) {R : List Nat} (h : tkF s = [] → ntN R = 0) : ntN (tkF s ++ R) = 0 := by
  have h7 := tkF_7 s
  cases hk : tkF s with
  | nil =>
    rw [List.nil_append]
    exact h hk
  | cons x xs =>
    rw [List.cons_append, ntN, if_neg]
    rw [hk] at h7
    exact (h7 x List.mem_cons_self).1
/-- the nots on top of the signs that wait are the frames that end -/
theorem pnS_ws : ∀ (sh : List Sh), (∀ s ∈ sh, okS s) → (wsF sh).drop (ntN (wsF sh)) = wsF (pnS sh)
  | [], _ => rfl
  | [s], h => by
    have : ntN (wsF [s]) = 0 := by
      have := ntN_F s (R := []) (fun _ => rfl)
      rw [List.append_nil] at this
      exact this
    rw [this]
    rfl
  | s :: t :: r, h => by
    have ih := pnS_ws (t :: r) fun x hx => h x (List.mem_cons_of_mem _ hx)
    rw [pnS, wsF]
    by_cases q : s.2.2.2.2 = true
    · rw [if_pos q, if_pos q, tkF_no (h s List.mem_cons_self) q, List.nil_append, ntN, if_pos rfl, List.drop_succ_cons]
      exact ih
    · rw [if_neg q, if_neg q]
      have : ntN (tkF s ++ 4 :: wsF (t :: r)) = 0 := ntN_F s fun _ => by rw [ntN, if_neg (by decide)]
      rw [this, List.drop_zero, wsF, if_neg q]
theorem vlF_no {f : Fm} (h : okS (shp f)) (hn : f.2.2.2.2 = true) : vlF f = [] := by
  obtain ⟨h1, h2, h3, h4⟩ := h.2.2.2.2 hn
  have h1 : f.1.1 = 0 := h1
  have h2 : f.2.1.1 = 0 := h2
  have h3 : f.2.2.1.1 = 0 := h3
  have h4 : f.2.2.2.1.1 = 0 := h4
  unfold vlF vT vS vC vK
  rw [if_pos h1, if_pos h2, if_pos h3, if_pos h4]
  rfl
theorem rp_not (F : Nat → Int32) (x : Int32) (X : List Int32) (l : List (Nat × Int32)) : rp F ((7, 0) :: l) (x :: X) = rp F l (bI (decide (x = 0)) :: X) := by
  rw [rp]
  have e : rpS F 7 0 (x :: X) = some (bI (decide (x = 0)) :: X) := by
    unfold rpS
    rw [if_pos rfl]
  show (match rpS F 7 0 (x :: X) with | none => none | some st' => rp F l st') = _
  rw [e]
theorem pnt_ok (F : Nat → Int32) : ∀ (fs : List Fm) (x : Int32), (∀ s ∈ fs.map shp, okS s) → (pnt fs x).1.map shp = pnS (fs.map shp) ∧ rp F (List.replicate (ntN (wsF (fs.map shp))) (7, 0)) (x :: stF fs) = some ((pnt fs x).2 :: stF (pnt fs x).1)
  | [], x, _ => ⟨rfl, rfl⟩
  | [f], x, h => by
    have e0 : ntN (wsF ([f].map shp)) = 0 := by
      have := ntN_F (shp f) (R := []) (fun _ => rfl)
      rw [List.append_nil] at this
      exact this
    rw [e0]
    exact ⟨rfl, rfl⟩
  | f :: g :: r, x, h => by
    rw [List.map_cons] at h
    have hf := h (shp f) List.mem_cons_self
    have ih := fun y => pnt_ok F (g :: r) y fun s hs => h s (List.mem_cons_of_mem _ hs)
    rw [List.map_cons, List.map_cons, pnS, wsF, pnt]
    by_cases q : f.2.2.2.2 = true
    · have q' : (shp f).2.2.2.2 = true := q
      rw [if_pos q, if_pos q', if_pos q', tkF_no hf q', List.nil_append, ntN, if_pos rfl, List.replicate_succ]
      obtain ⟨i1, i2⟩ := ih (bI (decide (x = 0)))
      refine ⟨i1, ?_⟩
      rw [show stF (f :: g :: r) = stF (g :: r) by rw [stF, vlF_no hf q]; rfl, rp_not]
      exact i2
    · have q' : ¬ (shp f).2.2.2.2 = true := q
      rw [if_neg q, if_neg q', if_neg q']
      have : ntN (tkF (shp f) ++ 4 :: wsF (shp g :: r.map shp)) = 0 := ntN_F (shp f) fun _ => by rw [ntN, if_neg (by decide)]
      rw [this]
      exact ⟨rfl, rfl⟩
theorem vlF_le (f : Fm) : (vlF f).length ≤ 4 := by
  unfold vlF vT vS vC vK
  rw [List.length_append, List.length_append, List.length_append]
  split <;> split <;> split <;> split <;> simp
theorem stF_le : ∀ fs : List Fm, (stF fs).length ≤ 4 * fs.length
  | [] => Nat.le_refl _
  | f :: r => by
    have h1 := vlF_le f
    have h2 := stF_le r
    rw [stF, List.length_append, List.length_cons]
    omega
/-- facts alike on both sides -/
def CM (line : Nat) (F V : Nat → Int32) : Prop := ∀ k, k < 42 → ¬ fcB line k = 0 → V (fcB line k) = F (tokFL.getD k 0).toNatClampNeg
/-- while a part is wanted; behind a part -/
def PWf (line : Nat) (l : List (Nat × Int32)) (cs : List Nat) (sh : List Sh) : Prop := ∀ F V, CM line F V → ∃ fs, fs.map shp = sh ∧ lrun V cs ([f0 false], none) = some (fs, none) ∧ rp F l [] = some (stF fs)
def PAf (line : Nat) (l : List (Nat × Int32)) (cs : List Nat) (sh : List Sh) : Prop := ∀ F V, CM line F V → ∃ fs v, fs.map shp = sh ∧ lrun V cs ([f0 false], none) = some (fs, some v) ∧ rp F l [] = some (v :: stF fs)
variable {line : Nat} {l : List (Nat × Int32)} {cs : List Nat} {s : Sh} {sh r : List Sh}
theorem lrun1 (V : Nat → Int32) (c : Nat) {cs : List Nat} {σ τ : LSt} (h : lrun V cs ([f0 false], none) = some σ) (hc : lstep V c σ = some τ) : lrun V (cs ++ [c]) ([f0 false], none) = some τ := by
  rw [lrun_app, h, Option.bind_some, lrun, hc]
  rfl
theorem PW_0 (line : Nat) : PWf line [] [] [(0, 0, 0, 0, false)] := fun F V _ => ⟨[f0 false], rfl, rfl, rfl⟩
theorem PW_open (h : PWf line l cs sh) (hl : sh.length < 7) {c : Nat} (hc : c = 28 ∨ c = 30) : PWf line l (cs ++ [c]) ((0, 0, 0, 0, decide (c = 30)) :: sh) := by
  intro F V hV
  obtain ⟨fs, h1, h2, h3⟩ := h F V hV
  refine ⟨f0 (decide (c = 30)) :: fs, by rw [List.map_cons, h1]; rfl, lrun1 V c h2 ?_, h3⟩
  have hlen : fs.length < 7 := by
    rw [← h1, List.length_map] at hl
    exact hl
  unfold lstep
  simp only
  rw [if_pos hc, if_pos hlen]
theorem PW_val (h : PWf line l cs sh) (hl : sh.length < 8) (hok : ∀ s ∈ sh, okS s) {k c : Nat} {x : Int32} (hk : k < 42) (hst : stT k = 0) (hk7 : ¬ k = 7) (hc : (k = 2 ∧ ∃ j, c = 100 + j ∧ x = nI j) ∨ (¬ fcB line k = 0 ∧ c = fcB line k)) : PAf line (l ++ [(k, x)] ++ List.replicate (ntN (wsF sh)) (7, 0)) (cs ++ [c]) (pnS sh) := by
  intro F V hV
  obtain ⟨fs, h1, h2, h3⟩ := h F V hV
  have hlen : fs.length < 8 := by
    rw [← h1, List.length_map] at hl
    exact hl
  have hsl := stF_le fs
  have hfc : fcB line k < 20 := by
    unfold fcB
    repeat' split
    all_goals omega
  have hv : rpS F k x (stF fs) = some ((if 100 ≤ c then nI (c - 100) else V c) :: stF fs) := by
    unfold rpS
    rw [if_neg hk7, if_neg (by
      rintro ⟨q1, q2⟩
      unfold stT at hst
      revert hst
      rcases (show k = 8 ∨ k = 9 ∨ k = 10 ∨ k = 11 ∨ k = 12 ∨ k = 13 ∨ k = 14 by omega) with rfl | rfl | rfl | rfl | rfl | rfl | rfl <;> decide), if_pos (by omega)]
    rcases hc with ⟨rfl, j, rfl, rfl⟩ | ⟨hc1, hc2⟩
    · rw [if_pos (by decide), if_pos (by omega), show 100 + j - 100 = j by omega]
    · have h36 : 36 ≤ k := by
        unfold fcB at hc1
        revert hc1
        split
        · split <;> omega
        · split <;> omega
      have hnn : ¬ tokFL.getD k 0 < 0 := by
        have : ∀ k, k < 42 → 36 ≤ k → ¬ tokFL.getD k 0 < 0 := by decide +kernel
        exact this k hk h36
      rw [if_neg hnn, if_neg (by omega), hc2, hV k hk hc1]
  obtain ⟨p1, p2⟩ := pnt_ok F fs (if 100 ≤ c then nI (c - 100) else V c) (by rw [h1]; exact hok)
  rw [h1] at p1 p2
  refine ⟨(pnt fs (if 100 ≤ c then nI (c - 100) else V c)).1, (pnt fs (if 100 ≤ c then nI (c - 100) else V c)).2, p1, lrun1 V c h2 ?_, ?_⟩
  · unfold lstep
    simp only
    rw [if_neg (by rcases hc with ⟨_, j, hj, _⟩ | ⟨_, hj⟩ <;> omega), if_pos (by rcases hc with ⟨_, j, hj, _⟩ | ⟨_, hj⟩ <;> omega)]
  · rw [rp_app, rp_app, h3, Option.bind_some]
    have e : rp F [(k, x)] (stF fs) = some ((if 100 ≤ c then nI (c - 100) else V c) :: stF fs) := by
      rw [rp]
      show (match rpS F k x (stF fs) with | none => none | some st' => rp F [] st') = _
      rw [hv]
      rfl
    rw [e, Option.bind_some]
    exact p2
theorem PA_plus (h : PAf line l cs (s :: r)) (hok : okS s) {c : Nat} (hc : c = 20 ∨ c = 21) : PWf line (l ++ zst (tT s ++ sT s)) (cs ++ [c]) ((s.1, s.2.1, c, 0, s.2.2.2.2) :: r) := by
  intro F V hV
  obtain ⟨fs, v, h1, h2, h3⟩ := h F V hV
  cases fs with
  | nil => cases h1
  | cons f fs =>
    rw [List.map_cons] at h1
    injection h1 with e1 e2
    refine ⟨(f.1, f.2.1, (c, gS f (gT f v)), (0, 0), f.2.2.2.2) :: fs, ?_, lrun1 V c h2 ?_, ?_⟩
    · rw [List.map_cons, e2, ← e1]
      rfl
    · unfold lstep
      simp only
      rw [if_neg (by omega), if_pos hc]
    · rw [rp_app, h3, Option.bind_some, ← e1, stF, vlF, List.append_assoc, List.append_assoc, rp_TS F f (by rw [e1]; exact hok), stF]
      unfold vlF vT vS vC vK
      rw [if_pos (show ((f.1, f.2.1, (c, gS f (gT f v)), ((0 : Nat), (0 : Int32)), f.2.2.2.2) : Fm).2.2.2.1.1 = 0 from rfl), if_neg (show ¬ ((f.1, f.2.1, (c, gS f (gT f v)), ((0 : Nat), (0 : Int32)), f.2.2.2.2) : Fm).2.2.1.1 = 0 by show ¬ c = 0; omega)]
      rfl
theorem PA_mul (h : PAf line l cs (s :: r)) : PWf line (l ++ zst (tT s)) (cs ++ [22]) ((s.1, s.2.1, s.2.2.1, 22, s.2.2.2.2) :: r) := by
  intro F V hV
  obtain ⟨fs, v, h1, h2, h3⟩ := h F V hV
  cases fs with
  | nil => cases h1
  | cons f fs =>
    rw [List.map_cons] at h1
    injection h1 with e1 e2
    refine ⟨(f.1, f.2.1, f.2.2.1, (22, gT f v), f.2.2.2.2) :: fs, ?_, lrun1 V 22 h2 ?_, ?_⟩
    · rw [List.map_cons, e2, ← e1]
      rfl
    · unfold lstep
      simp only
      rw [if_pos trivial]
    · rw [rp_app, h3, Option.bind_some, ← e1, stF, vlF, List.append_assoc, rp_T, stF]
      rfl
theorem PA_cmp (h : PAf line l cs (s :: r)) (hok : okS s) (h0 : s.2.1 = 0) {c : Nat} (hc : c = 24 ∨ c = 25) : PWf line (l ++ zst (tT s ++ sT s)) (cs ++ [c]) ((s.1, c, 0, 0, s.2.2.2.2) :: r) := by
  intro F V hV
  obtain ⟨fs, v, h1, h2, h3⟩ := h F V hV
  cases fs with
  | nil => cases h1
  | cons f fs =>
    rw [List.map_cons] at h1
    injection h1 with e1 e2
    have hf0 : f.2.1.1 = 0 := by
      rw [← e1] at h0
      exact h0
    refine ⟨(f.1, (c, gS f (gT f v)), (0, 0), (0, 0), f.2.2.2.2) :: fs, ?_, lrun1 V c h2 ?_, ?_⟩
    · rw [List.map_cons, e2, ← e1]
      rfl
    · unfold lstep
      simp only
      rw [if_neg (by omega), if_neg (by omega), if_pos hc, if_pos hf0]
    · rw [rp_app, h3, Option.bind_some, ← e1, stF, vlF, List.append_assoc, List.append_assoc, rp_TS F f (by rw [e1]; exact hok), stF]
      unfold vlF vT vS vC vK
      rw [if_pos hf0, if_pos (show ((f.1, (c, gS f (gT f v)), ((0 : Nat), (0 : Int32)), ((0 : Nat), (0 : Int32)), f.2.2.2.2) : Fm).2.2.2.1.1 = 0 from rfl), if_neg (show ¬ ((f.1, (c, gS f (gT f v)), ((0 : Nat), (0 : Int32)), ((0 : Nat), (0 : Int32)), f.2.2.2.2) : Fm).2.1.1 = 0 by show ¬ c = 0; omega)]
      rfl
theorem PA_con (h : PAf line l cs (s :: r)) (hok : okS s) {c : Nat} (hc : c = 26 ∨ c = 27) : PWf line (l ++ zst (tkF s)) (cs ++ [c]) ((c, 0, 0, 0, s.2.2.2.2) :: r) := by
  intro F V hV
  obtain ⟨fs, v, h1, h2, h3⟩ := h F V hV
  cases fs with
  | nil => cases h1
  | cons f fs =>
    rw [List.map_cons] at h1
    injection h1 with e1 e2
    refine ⟨((c, fullV f v), (0, 0), (0, 0), (0, 0), f.2.2.2.2) :: fs, ?_, lrun1 V c h2 ?_, ?_⟩
    · rw [List.map_cons, e2, ← e1]
      rfl
    · unfold lstep
      simp only
      rw [if_neg (by omega), if_neg (by omega), if_neg (by omega), if_pos hc]
    · rw [rp_app, h3, Option.bind_some, ← e1, stF, rp_F F f (by rw [e1]; exact hok), stF]
      unfold vlF vT vS vC vK
      rw [if_pos rfl, if_neg (show ¬ (((c, fullV f v), ((0 : Nat), (0 : Int32)), ((0 : Nat), (0 : Int32)), ((0 : Nat), (0 : Int32)), f.2.2.2.2) : Fm).1.1 = 0 by show ¬ c = 0; omega)]
      rfl
theorem PA_close {t : Sh} (h : PAf line l cs (s :: t :: r)) (hok : ∀ x ∈ s :: t :: r, okS x) : PAf line (l ++ zst (tkF s) ++ List.replicate (ntN (wsF (t :: r))) (7, 0)) (cs ++ [29]) (pnS (t :: r)) := by
  intro F V hV
  obtain ⟨fs, v, h1, h2, h3⟩ := h F V hV
  cases fs with
  | nil => cases h1
  | cons f fs =>
    rw [List.map_cons] at h1
    injection h1 with e1 e2
    obtain ⟨p1, p2⟩ := pnt_ok F fs (fullV f v) (by rw [e2]; exact fun x hx => hok x (List.mem_cons_of_mem _ hx))
    rw [e2] at p1 p2
    refine ⟨(pnt fs (fullV f v)).1, (pnt fs (fullV f v)).2, p1, lrun1 V 29 h2 ?_, ?_⟩
    · unfold lstep
      simp only
      rw [if_neg (by decide), if_neg (by decide), if_neg (by decide), if_neg (by decide), if_pos ⟨trivial, fun q => by rw [q] at e2; cases e2⟩]
    · rw [rp_app, rp_app, h3, Option.bind_some, ← e1, stF, rp_F F f (by rw [e1]; exact hok s List.mem_cons_self), Option.bind_some]
      exact p2
/-- a law that was read: both sides answer alike -/
def LW (line : Nat) (l : List (Nat × Int32)) (cs : List Nat) : Prop := ∀ F V, CM line F V → ∃ f v, lrun V cs ([f0 false], none) = some ([f], some v) ∧ rp F l [] = some [fullV f v]
theorem PA_end (h : PAf line l cs [s]) (hok : okS s) : LW line (l ++ zst (tkF s)) cs := by
  intro F V hV
  obtain ⟨fs, v, h1, h2, h3⟩ := h F V hV
  cases fs with
  | nil => cases h1
  | cons f fs =>
    rw [List.map_cons] at h1
    injection h1 with e1 e2
    have e3 : fs = [] := List.map_eq_nil_iff.mp e2
    subst e3
    refine ⟨f, v, h2, ?_⟩
    rw [rp_app, h3, Option.bind_some, ← e1, stF, rp_F F f (by rw [e1]; exact hok)]
    rfl
end SHAPES
