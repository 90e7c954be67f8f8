/-! Fetch: what is reached within so many calls. -/
section FETCH
variable {T : St} {W V : Nat → List Nat} {L : Int32 → Int32 → Int32} {v n : Nat} {Z : Nat → Int32} {So Sm S S' : St}
/-- those that are not deaf -/
def ndf (T : St) : Int32 := srt T 3 ^^^ (-1)
def nxM (T : St) (Z : Nat → Int32) (x : Nat × Nat) (σ : Int32 × Int32) : Int32 × Int32 := (σ.1 &&& (flA T σ.1 σ.2 (cwh T Z x) (cec T Z x) ^^^ (-1)), lsT T σ.1 σ.2 (cwh T Z x) (cec T Z x))
def nxC (T : St) (w e : Int32) (σ : Int32 × Int32) : Int32 × Int32 := (σ.1 &&& (flC T σ.1 σ.2 w e ^^^ (-1)), (σ.2 ||| e) &&& (σ.1 &&& (flC T σ.1 σ.2 w e ^^^ (-1))))
def RM (T : St) (W : Nat → List Nat) (Z : Nat → Int32) : Nat → Int32 × Int32 → Prop
  | 0, σ => σ = (Z 0, Z 1 &&& Z 0)
  | k + 1, σ => RM T W Z k σ ∨ ∃ τ x, RM T W Z k τ ∧ x ∈ CL T W ∧ σ = nxM T Z x τ
def prj (T : St) (σ : Int32 × Int32) : Int32 × Int32 := (σ.1 &&& ndf T, σ.2 &&& ndf T)
def RK (T : St) (W : Nat → List Nat) (Z : Nat → Int32) : Nat → Int32 × Int32 → Prop
  | 0, σ => σ = (Z 0 &&& ndf T, Z 1 &&& (Z 0 &&& ndf T))
  | k + 1, σ => RK T W Z k σ ∨ ∃ τ y, RK T W Z k τ ∧ y ∈ GL T W Z ∧ σ = nxC T y.1 y.2.1 τ
def DM (T : St) (W : Nat → List Nat) (Z : Nat → Int32) (k : Nat) : Prop := ∃ σ, RM T W Z k σ ∧ σ.1 &&& ndf T = 0
def DK (T : St) (W : Nat → List Nat) (Z : Nat → Int32) (k : Nat) : Prop := ∃ σ, RK T W Z k σ ∧ σ.1 = 0
def VS (Z : Nat → Int32) (σ : Int32 × Int32) : Prop := (∀ i, i < 32 → tb σ.1 i = true → tb (Z 0) i = true) ∧ ∀ i, i < 32 → tb σ.2 i = true → tb σ.1 i = true
theorem and_l {a b : Int32} {i : Nat} (h : tb (a &&& b) i = true) : tb a i = true := by
  rw [tb_and, Bool.and_eq_true] at h
  exact h.1
theorem and_r {a b : Int32} {i : Nat} (h : tb (a &&& b) i = true) : tb b i = true := by
  rw [tb_and, Bool.and_eq_true] at h
  exact h.2
theorem VS_nx {σ : Int32 × Int32} (h : VS Z σ) (x : Nat × Nat) : VS Z (nxM T Z x σ) := by
  refine ⟨fun i hi q => h.1 i hi (and_l q), fun i hi q => ?_⟩
  unfold nxM lsT at q ⊢
  exact and_r q
theorem VS_RM : ∀ (k : Nat) (σ : Int32 × Int32), RM T W Z k σ → VS Z σ
  | 0, σ, h => by
    rw [RM] at h
    subst h
    exact ⟨fun i _ q => q, fun i _ q => and_r q⟩
  | k + 1, σ, h => by
    rw [RM] at h
    rcases h with h | ⟨τ, x, h1, _, rfl⟩
    · exact VS_RM k σ h
    · exact VS_nx (VS_RM k τ h1) x
theorem VS_nxC {σ : Int32 × Int32} (h : VS Z σ) (w e : Int32) : VS Z (nxC T w e σ) := ⟨fun i hi q => h.1 i hi (and_l q), fun i hi q => and_r q⟩
theorem VS_RK : ∀ (k : Nat) (σ : Int32 × Int32), RK T W Z k σ → VS Z σ
  | 0, σ, h => by
    rw [RK] at h
    subst h
    exact ⟨fun i _ q => and_l q, fun i _ q => and_r q⟩
  | k + 1, σ, h => by
    rw [RK] at h
    rcases h with h | ⟨τ, x, h1, _, rfl⟩
    · exact VS_RK k σ h
    · exact VS_nxC (VS_RK k τ h1) _ _
theorem RM_mo : ∀ {k j : Nat}, k ≤ j → ∀ {σ : Int32 × Int32}, RM T W Z k σ → RM T W Z j σ := by
  intro k j h
  induction h with
  | refl => exact fun h => h
  | step _ ih => exact fun h => Or.inl (ih h)
theorem RK_mo : ∀ {k j : Nat}, k ≤ j → ∀ {σ : Int32 × Int32}, RK T W Z k σ → RK T W Z j σ := by
  intro k j h
  induction h with
  | refl => exact fun h => h
  | step _ ih => exact fun h => Or.inl (ih h)
theorem tb_wh (hn : ct T 0 ≤ 32) (x : Nat × Nat) {i : Nat} (hi : i < 32) : (tb (cwh T Z x) i = true → tb (ndf T) i = true) ∧ (tb (cec T Z x) i = true → tb (ndf T) i = true) := by
  unfold cwh cec whM ecM ndf srt
  rw [tb_mk _ _ _ hn hi, tb_mk _ _ _ hn hi, tb_not _ hi, tb_mk _ _ _ hn hi]
  unfold whB ecB mnt
  cases decide (i < ct T 0) <;> cases decide (vN T 506 i = 3) <;> simp
/-- without the deaf ones the class's call does as the reference's -/
theorem prj_nx (hw : WF T W V) {σ : Int32 × Int32} (h : VS Z σ) (x : Nat × Nat) : nxC T (gtr T Z x).1 (gtr T Z x).2.1 (prj T σ) = prj T (nxM T Z x σ) := by
  have hn := hw.b
  have e1 : flC T σ.1 σ.2 (gtr T Z x).1 (gtr T Z x).2.1 = flA T σ.1 σ.2 (cwh T Z x) (cec T Z x) := felled_sub (by omega) h.1 _ _ _
  have e2 : (σ.2 ||| (gtr T Z x).2.1) &&& (σ.1 &&& (flA T σ.1 σ.2 (cwh T Z x) (cec T Z x) ^^^ (-1))) = lsT T σ.1 σ.2 (cwh T Z x) (cec T Z x) := loose_sub (by omega) h.1 _ _ _
  have tw : ∀ i, i < 32 → tb (gtr T Z x).1 i = (tb (Z 0) i && tb (cwh T Z x) i) := fun i hi => by
    show tb (Z 0 &&& whM T Z x.2 (vN T 512 x.1) (vN T 513 x.1)) i = _
    rw [tb_and]
    rfl
  have te : ∀ i, i < 32 → tb (gtr T Z x).2.1 i = (tb (Z 0) i && (tb (cwh T Z x) i || tb (cec T Z x) i)) := fun i hi => by
    show tb (Z 0 &&& hdM T Z x.2 (vN T 512 x.1) (vN T 513 x.1)) i = _
    rw [tb_and, hd_tb (by omega) _ _ _ hi]
    rfl
  have f0 : f0C T (prj T σ).1 (prj T σ).2 (gtr T Z x).1 (gtr T Z x).2.1 = f0C T σ.1 σ.2 (gtr T Z x).1 (gtr T Z x).2.1 := by
    unfold f0C prj
    apply tb_ext
    intro i hi
    have a1 := tb_wh (T := T) (Z := Z) (by omega) x hi
    rw [tb_and, tb_or, tb_and, tb_and, tb_and, tb_and, tb_and, tb_or, tb_and, tb_and, tw i hi, te i hi]
    revert a1
    cases tb (cwh T Z x) i <;> cases tb (cec T Z x) i <;> cases tb (ndf T) i <;> simp
  have fl : flC T (prj T σ).1 (prj T σ).2 (gtr T Z x).1 (gtr T Z x).2.1 = flA T σ.1 σ.2 (cwh T Z x) (cec T Z x) &&& ndf T := by
    rw [← e1]
    unfold flC
    rw [f0]
    apply tb_ext
    intro i hi
    have a1 := tb_wh (T := T) (Z := Z) (by omega) x hi
    have a2 : tb (f0C T σ.1 σ.2 (gtr T Z x).1 (gtr T Z x).2.1) i = ((tb (gtr T Z x).1 i && tb (srt T 2 ^^^ (-1)) i || tb (gtr T Z x).2.1 i && tb σ.2 i) && tb σ.1 i) := by
      unfold f0C
      rw [tb_and, tb_or, tb_and, tb_and]
    generalize mk (ct T 0) (twB T (f0C T σ.1 σ.2 (gtr T Z x).1 (gtr T Z x).2.1) (ct T 0)) = t
    rw [tb_or, tb_and, tb_and, tb_or, tb_and, a2, tw i hi, te i hi]
    show ((tb (Z 0) i && tb (cwh T Z x) i && tb (srt T 2 ^^^ (-1)) i || (tb (Z 0) i && (tb (cwh T Z x) i || tb (cec T Z x) i)) && tb σ.2 i) && tb σ.1 i || tb (σ.1 &&& ndf T) i && tb t i) = _
    rw [tb_and]
    revert a1
    cases tb (cwh T Z x) i <;> cases tb (cec T Z x) i <;> cases tb (ndf T) i <;> simp
  unfold nxC
  rw [fl]
  unfold nxM
  rw [← e2]
  unfold prj
  refine Prod.ext ?_ ?_
  · apply tb_ext
    intro i hi
    rw [tb_and, tb_not _ hi, tb_and, tb_and, tb_and, tb_and, tb_not _ hi]
    cases tb σ.1 i <;> cases tb (flA T σ.1 σ.2 (cwh T Z x) (cec T Z x)) i <;> cases tb (ndf T) i <;> rfl
  · apply tb_ext
    intro i hi
    have a1 := tb_wh (T := T) (Z := Z) (by omega) x hi
    rw [tb_and, tb_or, tb_and, tb_and, tb_not _ hi, tb_and, tb_and, tb_and, tb_and, tb_or, tb_and, tb_not _ hi, te i hi]
    revert a1
    cases tb σ.1 i <;> cases tb σ.2 i <;> cases tb (flA T σ.1 σ.2 (cwh T Z x) (cec T Z x)) i <;> cases tb (ndf T) i <;> cases tb (Z 0) i <;> cases tb (cwh T Z x) i <;> cases tb (cec T Z x) i <;> simp
theorem gl_from : ∀ (P : List (Nat × Nat)) (l : List (Int32 × Int32 × Int32)) (y : Int32 × Int32 × Int32), y ∈ P.foldl (gst T Z) l → y ∈ l ∨ ∃ x, x ∈ P ∧ y = gtr T Z x
  | [], l, y, h => Or.inl h
  | x :: P, l, y, h => by
    rw [List.foldl_cons] at h
    rcases gl_from P (gst T Z l x) y h with h | ⟨x', h1, h2⟩
    · rcases gad_mem h with h | ⟨h, _⟩
      · exact Or.inl h
      · exact Or.inr ⟨x, List.mem_cons_self, h⟩
    · exact Or.inr ⟨x', List.mem_cons_of_mem _ h1, h2⟩
theorem gl_keep : ∀ (P : List (Nat × Nat)) (l : List (Int32 × Int32 × Int32)) (y : Int32 × Int32 × Int32), y ∈ l → y ∈ P.foldl (gst T Z) l
  | [], l, y, h => h
  | x :: P, l, y, h => by
    rw [List.foldl_cons]
    refine gl_keep P _ y ?_
    obtain ⟨_, r, hr⟩ := gad_len l (gtr T Z x)
    unfold gst
    rw [hr]
    exact List.mem_append_left _ h
theorem gl_has : ∀ (P : List (Nat × Nat)) (l : List (Int32 × Int32 × Int32)) (x : Nat × Nat), l.length + P.length ≤ 80 → x ∈ P → ¬ (gtr T Z x).2.1 = 0 → ∃ y, y ∈ P.foldl (gst T Z) l ∧ y.1 = (gtr T Z x).1 ∧ y.2.1 = (gtr T Z x).2.1
  | [], l, x, _, h, _ => by cases h
  | p :: P, l, x, hl, h, hx => by
    rw [List.length_cons] at hl
    rw [List.foldl_cons]
    rcases List.mem_cons.mp h with rfl | h
    · obtain ⟨y, h1, h2, h3⟩ := gad_has (l := l) (x := gtr T Z x) (by omega) hx
      exact ⟨y, gl_keep P _ y h1, h2, h3⟩
    · have := (gad_len l (gtr T Z p)).1
      exact gl_has P (gst T Z l p) x (by unfold gst; omega) h hx
/-- who is reached by the class's calls is reached by the reference's, and the other way -/
theorem RK_RM (hw : WF T W V) (hz : WZ T Z) : ∀ (k : Nat) (σ : Int32 × Int32), RK T W Z k σ → ∃ τ, RM T W Z k τ ∧ prj T τ = σ
  | 0, σ, h => by
    rw [RK] at h
    subst h
    refine ⟨_, rfl, ?_⟩
    unfold prj
    refine Prod.ext rfl ?_
    apply tb_ext
    intro i hi
    rw [tb_and, tb_and, tb_and, tb_and]
    cases tb (Z 1) i <;> cases tb (Z 0) i <;> rfl
  | k + 1, σ, h => by
    rw [RK] at h
    rcases h with h | ⟨τ, y, h1, h2, rfl⟩
    · obtain ⟨τ, h1, h2⟩ := RK_RM hw hz k σ h
      exact ⟨τ, Or.inl h1, h2⟩
    · obtain ⟨τ', h3, rfl⟩ := RK_RM hw hz k τ h1
      rcases gl_from (CL T W) [] y h2 with h | ⟨x, h4, rfl⟩
      · cases h
      · exact ⟨nxM T Z x τ', Or.inr ⟨τ', x, h3, h4, rfl⟩, (prj_nx hw (VS_RM k τ' h3) x).symm⟩
theorem nx_null (hn : ct T 0 ≤ 32) {σ : Int32 × Int32} (h : VS Z σ) {w : Int32} (hwe : ∀ i, i < 32 → tb w i = false) : nxC T w 0 σ = σ := by
  have f0 : f0C T σ.1 σ.2 w 0 = 0 := by
    unfold f0C
    apply tb_ext
    intro i hi
    rw [tb_and, tb_or, tb_and, tb_and, hwe i hi, tb_z]
    simp
  have fl : flC T σ.1 σ.2 w 0 = 0 := by
    unfold flC
    rw [f0]
    apply tb_ext
    intro i hi
    rw [tb_or, tb_and, tb_mk _ _ _ hn hi]
    have : twB T 0 (ct T 0) i = false := by
      unfold twB
      rw [List.any_eq_false]
      intro x _
      rw [tb_z]
      simp
    rw [this, tb_z]
    simp
  unfold nxC
  rw [fl, and_not0, Int32.or_zero]
  exact Prod.ext rfl (sub_and h.2)
theorem RM_RK (hw : WF T W V) (hz : WZ T Z) : ∀ (k : Nat) (σ : Int32 × Int32), RM T W Z k σ → RK T W Z k (prj T σ)
  | 0, σ, h => by
    rw [RM] at h
    subst h
    rw [RK]
    unfold prj
    refine Prod.ext rfl ?_
    apply tb_ext
    intro i hi
    rw [tb_and, tb_and, tb_and, tb_and]
    cases tb (Z 1) i <;> cases tb (Z 0) i <;> rfl
  | k + 1, σ, h => by
    have hn := hw.b
    rw [RM] at h
    rcases h with h | ⟨τ, x, h1, h2, rfl⟩
    · exact Or.inl (RM_RK hw hz k σ h)
    · have ih := RM_RK hw hz k τ h1
      rw [← prj_nx hw (VS_RM k τ h1) x]
      by_cases q : (gtr T Z x).2.1 = 0
      · rw [q, nx_null (by omega) (VS_RK k _ ih) (fun i hi => ?_)]
        · exact Or.inl ih
        · have a1 := congrArg (fun x => tb x i) q
          have a4 : tb (gtr T Z x).2.1 i = (tb (Z 0) i && (tb (cwh T Z x) i || tb (cec T Z x) i)) := by
            show tb (Z 0 &&& hdM T Z x.2 (vN T 512 x.1) (vN T 513 x.1)) i = _
            rw [tb_and, hd_tb (by omega) _ _ _ hi]
            rfl
          have a5 : (tb (Z 0) i && (tb (cwh T Z x) i || tb (cec T Z x) i)) = false := by
            rw [← a4, q, tb_z]
          show tb (Z 0 &&& whM T Z x.2 (vN T 512 x.1) (vN T 513 x.1)) i = false
          rw [tb_and]
          show (tb (Z 0) i && tb (cwh T Z x) i) = false
          revert a5
          cases tb (Z 0) i <;> cases tb (cwh T Z x) i <;> cases tb (cec T Z x) i <;> simp
      · obtain ⟨y, h3, h4, h5⟩ := gl_has (CL T W) [] x (by have := CL_len hw; rw [List.length_nil]; omega) h2 q
        rw [← h4, ← h5]
        exact Or.inr ⟨prj T τ, y, ih, h3, rfl⟩
theorem DM_DK (hw : WF T W V) (hz : WZ T Z) (k : Nat) : DM T W Z k ↔ DK T W Z k := by
  constructor
  · rintro ⟨σ, h1, h2⟩
    exact ⟨prj T σ, RM_RK hw hz k σ h1, h2⟩
  · rintro ⟨σ, h1, h2⟩
    obtain ⟨τ, h3, rfl⟩ := RK_RM hw hz k σ h1
    exact ⟨τ, h3, h2⟩
/-- the answer: the least number, if it is no more than 4 -/
def FAns (D : Nat → Prop) (r : Int32) : Prop := (∃ n, n ≤ 4 ∧ D n ∧ (∀ j, j < n → ¬ D j) ∧ r = nI n) ∨ ((∀ j, j ≤ 4 → ¬ D j) ∧ r = -1)
theorem FAns.eq {D E : Nat → Prop} {r s : Int32} (he : ∀ k, D k ↔ E k) (h : FAns D r) (h' : FAns E s) : r = s := by
  rcases h with ⟨n, h1, h2, h3, rfl⟩ | ⟨h1, rfl⟩
  · rcases h' with ⟨m, g1, g2, g3, rfl⟩ | ⟨g1, rfl⟩
    · have : n = m := by
        rcases Nat.lt_trichotomy n m with q | q | q
        · exact absurd ((he n).mp h2) (g3 n q)
        · exact q
        · exact absurd ((he m).mpr g2) (h3 m q)
      rw [this]
    · exact absurd ((he n).mp h2) (g1 n h1)
  · rcases h' with ⟨m, g1, g2, g3, rfl⟩ | ⟨g1, rfl⟩
    · exact absurd ((he m).mpr g2) (h1 m g1)
    · rfl
end FETCH
