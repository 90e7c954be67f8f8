/-! Crop: the class's list serves as well as the reference's. -/
section FOLDS
variable {T : St} {W V : Nat → List Nat} {L : Int32 → Int32 → Int32} {Z : Nat → Int32} {S : St}
/-- more than before, and by whom -/
def upA (x b : Int32) (acc : Int32 × Int32) : Int32 × Int32 := if acc.1 < x then (x, b) else acc
/-- what a call of the class's list wins -/
def evl (T : St) (Z : Nat → Int32) (L : Int32 → Int32 → Int32) (G : Int32 → Int32 → Int32) (dd : Nat) (h s g : Int32) (w e : Int32) : Int32 := (g + vlS T L (flC T h s w e) (Z 2 + nI dd)) + G (h &&& (flC T h s w e ^^^ (-1))) ((s ||| e) &&& (h &&& (flC T h s w e ^^^ (-1))))
def still (T : St) (h s w e : Int32) : Bool := decide (h &&& (flC T h s w e ^^^ (-1)) = h) && decide ((s ||| e) &&& (h &&& (flC T h s w e ^^^ (-1))) = s)
def ecs (T : St) (Z : Nat → Int32) (L : Int32 → Int32 → Int32) (G : Int32 → Int32 → Int32) (dd : Nat) (ν : Int32 → Int32) (h s g : Int32) (acc : Int32 × Int32) (y : Int32 × Int32 × Int32) : Int32 × Int32 := bif still T h s y.1 y.2.1 then acc else upA (evl T Z L G dd h s g y.1 y.2.1) (ν y.2.2) acc
def ecr (T : St) (Z : Nat → Int32) (L : Int32 → Int32 → Int32) (G : Int32 → Int32 → Int32) (dd : Nat) (ν : Int32 → Int32) (h s g : Int32) (acc : Int32 × Int32) (x : Nat × Nat) : Int32 × Int32 := if h &&& (cwh T Z x ||| cec T Z x) = 0 then acc else upA (g + cva T Z L G dd h s x) (ν (nI (16 * x.1 + x.2))) acc
theorem i_lt (x y : Int32) : ¬ x < y ↔ y.toInt ≤ x.toInt := by
  rw [Int32.lt_iff_toInt_lt]
  omega
theorem upA_ge (x b : Int32) (acc : Int32 × Int32) : acc.1.toInt ≤ (upA x b acc).1.toInt ∧ x.toInt ≤ (upA x b acc).1.toInt := by
  unfold upA
  by_cases q : acc.1 < x
  · rw [if_pos q]
    rw [Int32.lt_iff_toInt_lt] at q
    exact ⟨Int.le_of_lt q, Int.le_refl _⟩
  · rw [if_neg q]
    rw [i_lt] at q
    exact ⟨Int.le_refl _, q⟩
theorem upA_no {x b : Int32} {acc : Int32 × Int32} (h : x.toInt ≤ acc.1.toInt) : upA x b acc = acc := if_neg ((i_lt _ _).mpr h)
section
variable {G : Int32 → Int32 → Int32} {dd : Nat} {ν : Int32 → Int32} {h s g : Int32}
theorem ecs_ge (acc : Int32 × Int32) (y : Int32 × Int32 × Int32) : acc.1.toInt ≤ (ecs T Z L G dd ν h s g acc y).1.toInt := by
  unfold ecs
  cases still T h s y.1 y.2.1 with
  | true => exact Int.le_refl _
  | false => exact (upA_ge _ _ _).1
theorem ecs_fold (l : List (Int32 × Int32 × Int32)) (acc : Int32 × Int32) : acc.1.toInt ≤ (l.foldl (ecs T Z L G dd ν h s g) acc).1.toInt := by
  refine fold_inv (P := fun b : Int32 × Int32 => acc.1.toInt ≤ b.1.toInt) (fun b x hb => Int.le_trans hb (ecs_ge b x)) l acc (Int.le_refl _)
/-- what is in the list is reached -/
theorem ecs_mem : ∀ (l : List (Int32 × Int32 × Int32)) (acc : Int32 × Int32) (y : Int32 × Int32 × Int32), y ∈ l → still T h s y.1 y.2.1 = false → (evl T Z L G dd h s g y.1 y.2.1).toInt ≤ (l.foldl (ecs T Z L G dd ν h s g) acc).1.toInt
  | [], _, y, hy, _ => by cases hy
  | x :: l, acc, y, hy, hs => by
    rw [List.foldl_cons]
    rcases List.mem_cons.mp hy with rfl | hy
    · refine Int.le_trans ?_ (ecs_fold l _)
      unfold ecs
      rw [hs]
      exact (upA_ge _ _ _).2
    · exact ecs_mem l _ y hy hs
theorem fl_none (hn : ct T 0 ≤ 32) {w e : Int32} (q : h &&& (w ||| e) = 0) : flA T h s w e = 0 := by
  have hb : ∀ i, i < 32 → (tb h i && (tb w i || tb e i)) = false := fun i hi => by
    have := congrArg (fun x => tb x i) q
    simp only [tb_and, tb_or, tb_z] at this
    exact this
  have e0 : fl0 T h s w e = 0 := by
    unfold fl0
    apply tb_ext
    intro i hi
    have := hb i hi
    rw [tb_and, tb_or, tb_and, tb_and, tb_or, tb_z]
    revert this
    cases tb h i <;> cases tb w i <;> cases tb e i <;> simp
  unfold flA
  rw [e0]
  apply tb_ext
  intro i hi
  rw [tb_or, tb_and, tb_mk _ _ _ hn hi]
  have : twB T 0 (ct T 0) i = false := by
    unfold twB
    rw [List.any_eq_false]
    intro x _
    rw [tb_z]
    simp
  rw [this, tb_z]
  simp
theorem and_not0 (x : Int32) : x &&& ((0 : Int32) ^^^ (-1)) = x := by
  apply tb_ext
  intro i hi
  rw [tb_and, tb_not _ hi, tb_z]
  simp
theorem sub_and {a b : Int32} (h : ∀ i, i < 32 → tb a i = true → tb b i = true) : a &&& b = a := by
  apply tb_ext
  intro i hi
  rw [tb_and]
  have := h i hi
  revert this
  cases tb a i <;> cases tb b i <;> simp
/-- a call of the reference's list does as its like in the class's -/
theorem ecs_gtr (hw : WF T W V) (hh : ∀ i, i < 32 → tb h i = true → tb (Z 0) i = true) (hs : ∀ i, i < 32 → tb s i = true → tb h i = true) {acc : Int32 × Int32} (ha : (g + G h s).toInt ≤ acc.1.toInt) (x : Nat × Nat) : ecs T Z L G dd ν h s g acc (gtr T Z x) = ecr T Z L G dd ν h s g acc x := by
  have hn := hw.b
  have e1 : flC T h s (gtr T Z x).1 (gtr T Z x).2.1 = flA T h s (cwh T Z x) (cec T Z x) := felled_sub (by omega) hh _ _ _
  have e2 : (s ||| (gtr T Z x).2.1) &&& (h &&& (flA T h s (cwh T Z x) (cec T Z x) ^^^ (-1))) = lsT T h s (cwh T Z x) (cec T Z x) := loose_sub (by omega) hh _ _ _
  have e3 : evl T Z L G dd h s g (gtr T Z x).1 (gtr T Z x).2.1 = g + cva T Z L G dd h s x := by
    unfold evl cva
    rw [e1, e2, Int32.add_assoc]
  unfold ecs ecr still
  rw [e3, e1, e2]
  by_cases q : h &&& (cwh T Z x ||| cec T Z x) = 0
  · have f0 := fl_none (T := T) (s := s) (by omega) q
    have l0 : lsT T h s (cwh T Z x) (cec T Z x) = s := by
      rw [← e2, f0, and_not0]
      apply tb_ext
      intro i hi
      have a1 := hs i hi
      have a2 := congrArg (fun x => tb x i) e2
      have a3 := congrArg (fun x => tb x i) q
      simp only [tb_and, tb_or, tb_z] at a3
      rw [tb_and, tb_or]
      have a4 : tb (gtr T Z x).2.1 i = (tb (Z 0) i && (tb (cwh T Z x) i || tb (cec T Z x) i)) := by
        show tb (Z 0 &&& hdM T Z x.2 (vN T 512 x.1) (vN T 513 x.1)) i = _
        rw [tb_and, hd_tb (by omega) _ _ _ hi]
        rfl
      rw [a4]
      revert a1 a3
      cases tb h i <;> cases tb s i <;> cases tb (Z 0) i <;> cases tb (cwh T Z x) i <;> cases tb (cec T Z x) i <;> simp
    rw [if_pos q, f0, l0, and_not0, decide_eq_true rfl, decide_eq_true rfl]
    rfl
  · rw [if_neg q]
    by_cases q1 : h &&& (flA T h s (cwh T Z x) (cec T Z x) ^^^ (-1)) = h
    · by_cases q2 : lsT T h s (cwh T Z x) (cec T Z x) = s
      · rw [decide_eq_true q1, decide_eq_true q2]
        show acc = _
        refine (upA_no ?_).symm
        have f0 : flA T h s (cwh T Z x) (cec T Z x) = 0 := by
          apply tb_ext
          intro i hi
          have a1 := congrArg (fun x => tb x i) q1
          have a2 : tb (flA T h s (cwh T Z x) (cec T Z x)) i = true → tb h i = true := flA_in
          simp only [tb_and, tb_not _ hi] at a1
          rw [tb_z]
          revert a1 a2
          cases tb h i <;> cases tb (flA T h s (cwh T Z x) (cec T Z x)) i <;> simp
        have v0 : vlS T L 0 (Z 2 + nI dd) = 0 := by
          unfold vlS
          exact sm_0 fun i _ => by rw [tb_z]; rfl
        unfold cva
        rw [q1, q2, f0, v0, Int32.zero_add]
        exact ha
      · rw [decide_eq_false q2, Bool.and_false]
        rfl
    · rw [decide_eq_false q1]
      rfl
theorem ecs_gad (hw : WF T W V) (hh : ∀ i, i < 32 → tb h i = true → tb (Z 0) i = true) (hs : ∀ i, i < 32 → tb s i = true → tb h i = true) {acc0 : Int32 × Int32} (ha : (g + G h s).toInt ≤ acc0.1.toInt) {l : List (Int32 × Int32 × Int32)} (hl : l.length < 80) (x : Nat × Nat) : (gad l (gtr T Z x)).foldl (ecs T Z L G dd ν h s g) acc0 = ecs T Z L G dd ν h s g (l.foldl (ecs T Z L G dd ν h s g) acc0) (gtr T Z x) := by
  have hn := hw.b
  have ha2 : (g + G h s).toInt ≤ (l.foldl (ecs T Z L G dd ν h s g) acc0).1.toInt := Int.le_trans ha (ecs_fold l acc0)
  unfold gad
  by_cases q : (gtr T Z x).2.1 = 0
  · rw [if_pos q, ecs_gtr hw hh hs ha2]
    unfold ecr
    rw [if_pos]
    apply tb_ext
    intro i hi
    have a1 := hh i hi
    have a2 := congrArg (fun x => tb x i) q
    have a4 : tb (gtr T Z x).2.1 i = (tb (Z 0) i && (tb (cwh T Z x) i || tb (cec T Z x) i)) := by
      show tb (Z 0 &&& hdM T Z x.2 (vN T 512 x.1) (vN T 513 x.1)) i = _
      rw [tb_and, hd_tb (by omega) _ _ _ hi]
      rfl
    have a5 : (tb (Z 0) i && (tb (cwh T Z x) i || tb (cec T Z x) i)) = false := by
      rw [← a4, q, tb_z]
    rw [tb_and, tb_or, tb_z]
    revert a1 a5
    cases tb h i <;> cases tb (Z 0) i <;> cases tb (cwh T Z x) i <;> cases tb (cec T Z x) i <;> simp
  · rw [if_neg q, if_pos hl]
    cases hany : l.any (gpr (gtr T Z x).1 (gtr T Z x).2.1) with
    | false =>
      rw [cond_false, List.foldl_append]
      rfl
    | true =>
      rw [cond_true]
      rw [List.any_eq_true] at hany
      obtain ⟨y, h1, h2⟩ := hany
      unfold gpr at h2
      rw [Bool.and_eq_true, decide_eq_true_eq, decide_eq_true_eq] at h2
      have e : ∀ acc, ecs T Z L G dd ν h s g acc (gtr T Z x) = bif still T h s y.1 y.2.1 then acc else upA (evl T Z L G dd h s g y.1 y.2.1) (ν (gtr T Z x).2.2) acc := fun acc => by
        unfold ecs
        rw [h2.1, h2.2]
      rw [e]
      cases hst : still T h s y.1 y.2.1 with
      | true => rfl
      | false =>
        rw [cond_false]
        exact (upA_no (ecs_mem l acc0 y h1 hst)).symm
theorem gad_le (l : List (Int32 × Int32 × Int32)) (x : Int32 × Int32 × Int32) : (gad l x).length ≤ l.length + 1 := by
  unfold gad
  by_cases q : x.2.1 = 0
  · rw [if_pos q]
    omega
  · rw [if_neg q]
    by_cases q2 : l.length < 80
    · rw [if_pos q2]
      cases l.any (gpr x.1 x.2.1) with
      | true => rw [cond_true]; omega
      | false => rw [cond_false, List.length_append]; exact Nat.le_refl _
    · rw [if_neg q2]
      omega
theorem ecs_all (hw : WF T W V) (hh : ∀ i, i < 32 → tb h i = true → tb (Z 0) i = true) (hs : ∀ i, i < 32 → tb s i = true → tb h i = true) {acc0 : Int32 × Int32} (ha : (g + G h s).toInt ≤ acc0.1.toInt) : ∀ (P : List (Nat × Nat)) (l : List (Int32 × Int32 × Int32)), l.length + P.length ≤ 80 → (P.foldl (gst T Z) l).foldl (ecs T Z L G dd ν h s g) acc0 = P.foldl (ecr T Z L G dd ν h s g) (l.foldl (ecs T Z L G dd ν h s g) acc0)
  | [], l, _ => rfl
  | x :: P, l, hl => by
    rw [List.length_cons] at hl
    have hg : (gst T Z l x).length ≤ l.length + 1 := gad_le l _
    have ha2 : (g + G h s).toInt ≤ (l.foldl (ecs T Z L G dd ν h s g) acc0).1.toInt := Int.le_trans ha (ecs_fold l acc0)
    rw [List.foldl_cons, List.foldl_cons, ecs_all hw hh hs ha P (gst T Z l x) (by omega)]
    unfold gst
    rw [ecs_gad hw hh hs ha (by omega) x, ecs_gtr hw hh hs ha2]
end
/-- the fold of a day behind the first: one gain more -/
theorem ecr_gN (hw : WF T W V) (hB : BL L) {r dd : Nat} {h s g b : Int32} (hg : rg 19980 g) : ∀ (P : List (Nat × Nat)) (l : List (Nat × Nat)) (B : Int32) (acc : Int32 × Int32), rg 9990 B → P.foldl (ecr T Z L (gN T Z L l r (dd + 1)) dd (fun _ => b) h s g) (upA (g + B) b acc) = upA (g + P.foldl (cvs T Z L (gN T Z L l r (dd + 1)) dd h s) B) b acc
  | [], _, _, _, _ => rfl
  | x :: P, l, B, acc, hBr => by
    rw [List.foldl_cons, List.foldl_cons]
    have hc := (cva_le (Z := Z) hw hB (fun h s => gN_cel hw hB l r (dd + 1) h s) h s x).1
    have e : ecr T Z L (gN T Z L l r (dd + 1)) dd (fun _ => b) h s g (upA (g + B) b acc) x = upA (g + cvs T Z L (gN T Z L l r (dd + 1)) dd h s B x) b acc := by
      unfold ecr cvs
      by_cases q : h &&& (cwh T Z x ||| cec T Z x) = 0
      · rw [if_pos q, if_pos q]
      · rw [if_neg q, if_neg q]
        have t1 : (g + cva T Z L (gN T Z L l r (dd + 1)) dd h s x).toInt = g.toInt + (cva T Z L (gN T Z L l r (dd + 1)) dd h s x).toInt := (rg_add hg hc (by decide)).1
        have t2 : (g + B).toInt = g.toInt + B.toInt := (rg_add hg hBr (by decide)).1
        by_cases q2 : B < cva T Z L (gN T Z L l r (dd + 1)) dd h s x
        · rw [if_pos q2]
          rw [Int32.lt_iff_toInt_lt] at q2
          unfold upA
          by_cases q3 : acc.1 < g + B
          · have q4 : acc.1 < g + cva T Z L (gN T Z L l r (dd + 1)) dd h s x := by
              rw [Int32.lt_iff_toInt_lt] at q3 ⊢
              omega
            rw [if_pos q3, if_pos q4, if_pos]
            rw [Int32.lt_iff_toInt_lt]
            show (g + B).toInt < _
            omega
          · rw [if_neg q3]
        · rw [if_neg q2]
          rw [i_lt] at q2
          refine upA_no ?_
          have := (upA_ge (g + B) b acc).2
          omega
    rw [e]
    refine ecr_gN hw hB hg P l _ acc ?_
    unfold cvs
    by_cases q : h &&& (cwh T Z x ||| cec T Z x) = 0
    · rw [if_pos q]
      exact hBr
    · rw [if_neg q]
      by_cases q2 : B < cva T Z L (gN T Z L l r (dd + 1)) dd h s x
      · rw [if_pos q2]
        exact hc
      · rw [if_neg q2]
        exact hBr
end FOLDS
