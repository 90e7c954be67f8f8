/-! The calls as the class gathers them: those that are heard alike but once. -/
section GATHER
variable {T : St} {W V : Nat → List Nat} {L : Int32 → Int32 → Int32} {v d u a : Nat} {Z Z1 Z2 : Nat → Int32} {So So' Sm Sm' S : St}
def Tr3 : Type := Int32 × Int32 × Int32
def gpr (w h : Int32) (x : Int32 × Int32 × Int32) : Bool := decide (x.1 = w) && decide (x.2.1 = h)
def gad (l : List (Int32 × Int32 × Int32)) (x : Int32 × Int32 × Int32) : List (Int32 × Int32 × Int32) := if x.2.1 = 0 then l else if l.length < 80 then (bif l.any (gpr x.1 x.2.1) then l else l ++ [x]) else l
def GA (l : List (Int32 × Int32 × Int32)) (S : St) : Prop := rI S 5 9 = nI l.length ∧ l.length ≤ 80 ∧ ∀ i, i < l.length → rI S 6 i = (l.getD i (0, 0, 0)).1 ∧ rI S 7 i = (l.getD i (0, 0, 0)).2.1 ∧ rI S 8 i = (l.getD i (0, 0, 0)).2.2
def fGa : Nat → Nat → Bool := fun a k => (a == 5 && k == 9) || a == 6 || a == 7 || a == 8
theorem fGa_n {a k : Nat} (h : a ≠ 5) (h2 : a ≠ 6 ∧ a ≠ 7 ∧ a ≠ 8) : fGa a k = false := by
  unfold fGa
  simp
  omega
theorem t3_l (l : List (Int32 × Int32 × Int32)) (x : Int32 × Int32 × Int32) {i : Nat} (h : i < l.length) : (l ++ [x]).getD i (0, 0, 0) = l.getD i (0, 0, 0) := by
  simp [List.getD_eq_getElem?_getD, List.getElem?_append, h]
theorem t3_e (l : List (Int32 × Int32 × Int32)) (x : Int32 × Int32 × Int32) : (l ++ [x]).getD l.length (0, 0, 0) = x := by
  simp [List.getD_eq_getElem?_getD, List.getElem?_append]
theorem t3_c (l : List (Int32 × Int32 × Int32)) {i : Nat} (h : i < l.length) : l.drop i = l.getD i (0, 0, 0) :: l.drop (i + 1) := by
  rw [List.drop_eq_getElem_cons h]
  simp [List.getD_eq_getElem?_getD, h]
theorem ga_look {l : List (Int32 × Int32 × Int32)} (hl : GA l S) (w h z : Int32) : ∀ (j i m : Nat), i + j = l.length → j < m → o_se_add_17 m w h z (nI i) S = bif (l.drop i).any (gpr w h) then some ((), S) else o_se_add_55 w h z S
  | 0, i, m, hi, hm => by
    obtain ⟨m, rfl, hm⟩ := fuel hm
    have h80 := hl.2.1
    rw [Nat.add_zero] at hi
    subst hi
    rw [o_se_add_17, hl.1, if_neg (nI_nlt (Nat.le_refl _) (by omega)), List.drop_length]
    rfl
  | j + 1, i, m, hi, hm => by
    obtain ⟨m, rfl, hm⟩ := fuel hm
    have h80 := hl.2.1
    obtain ⟨r1, r2, r3⟩ := hl.2.2 i (by omega)
    have ih := ga_look hl w h z j (i + 1) m (by omega) (by omega)
    rw [o_se_add_17, hl.1, if_pos (nI_lt (by omega) (by omega)), if_neg (nI_in (by omega) (by omega)), nI_clamp (by omega), if_neg (nI_inC (by omega) (by omega)), r1, r2, t3_c l (show i < l.length by omega), List.any_cons]
    generalize l.getD i (0, 0, 0) = x
    unfold o_se_add_48 o_se_add_49 gpr
    by_cases q : x.1 = w
    · rw [if_pos q, decide_eq_true q, Bool.true_and]
      by_cases q2 : x.2.1 = h
      · rw [if_pos q2, decide_eq_true q2, Bool.true_or]
        rfl
      · rw [if_neg q2, decide_eq_false q2, Bool.false_or, ltq, nI_1]
        exact ih
    · rw [if_neg q, decide_eq_false q, Bool.false_and, Bool.false_or, ltq, nI_1]
      exact ih
theorem ga_add {l : List (Int32 × Int32 × Int32)} (hl : GA l S) (w h z : Int32) : ∃ S', o_se_add w h z S = some ((), S') ∧ GA (gad l (w, h, z)) S' ∧ Fr fGa S S' := by
  have h80 := hl.2.1
  unfold o_se_add o_se_add_13 gad
  by_cases q : h = 0
  · rw [if_pos q, if_pos (show (w, h, z).2.1 = 0 from q)]
    exact ⟨S, rfl, hl, Fr.rf⟩
  · rw [if_neg q, if_neg (show ¬ (w, h, z).2.1 = 0 from q), hl.1]
    by_cases q2 : l.length < 80
    · rw [if_pos (show nI l.length < 80 from nI_lt (b := 80) q2 (by decide)), if_pos q2, (show o_se_add_17 FU w h z 0 S = _ from ga_look hl w h z l.length 0 FU (Nat.zero_add _) (by unfold FU; omega)), List.drop_zero]
      show ∃ S', (bif l.any (gpr w h) then some ((), S) else o_se_add_55 w h z S) = some ((), S') ∧ GA (bif l.any (gpr w h) then l else l ++ [(w, h, z)]) S' ∧ Fr fGa S S'
      cases l.any (gpr w h) with
      | true => exact ⟨S, rfl, hl, Fr.rf⟩
      | false =>
        rw [cond_false, cond_false]
        refine ⟨wI (wI (wI (wI S 6 l.length w) 7 l.length h) 8 l.length z) 5 9 (nI (l.length + 1)), ?_, ⟨by rw [rI_wI, List.length_append]; rfl, by rw [List.length_append]; show l.length + 1 ≤ 80; omega, fun i hi => ?_⟩, (((Fr.wI rfl).tr (Fr.wI rfl)).tr (Fr.wI rfl)).tr (Fr.wI rfl)⟩
        · unfold o_se_add_55
          rw [hl.1, if_neg (nI_in (by omega) (by omega)), nI_clamp (by omega), ltq (wI S 6 _ _), rI_wI_a (S := S) (a := 6) (b := 5) (by decide), hl.1, if_neg (nI_in (by omega) (by omega)), nI_clamp (by omega), ltq (wI (wI S 6 _ _) 7 _ _), rI_wI_a (S := wI S 6 _ _) (a := 7) (b := 5) (by decide), rI_wI_a (S := S) (a := 6) (b := 5) (by decide), hl.1, if_neg (nI_in (by omega) (by omega)), nI_clamp (by omega), ltq (wI (wI (wI S 6 _ _) 7 _ _) 8 _ _), rI_wI_a (S := wI (wI S 6 _ _) 7 _ _) (a := 8) (b := 5) (by decide), rI_wI_a (S := wI S 6 _ _) (a := 7) (b := 5) (by decide), rI_wI_a (S := S) (a := 6) (b := 5) (by decide), hl.1, nI_1, ltq]
        · rw [List.length_append] at hi
          have hi : i < l.length + 1 := hi
          by_cases q3 : i = l.length
          · subst q3
            rw [t3_e]
            refine ⟨?_, ?_, ?_⟩
            · rw [rI_wI_a (by decide), rI_wI_a (by decide), rI_wI_a (by decide), rI_wI]
            · rw [rI_wI_a (by decide), rI_wI_a (by decide), rI_wI]
            · rw [rI_wI_a (by decide), rI_wI]
          · rw [t3_l l _ (show i < l.length by omega)]
            obtain ⟨r1, r2, r3⟩ := hl.2.2 i (by omega)
            refine ⟨?_, ?_, ?_⟩
            · rw [rI_wI_a (by decide), rI_wI_a (by decide), rI_wI_a (by decide), rI_wI_k q3, r1]
            · rw [rI_wI_a (by decide), rI_wI_a (by decide), rI_wI_k q3, rI_wI_a (by decide), r2]
            · rw [rI_wI_a (by decide), rI_wI_k q3, rI_wI_a (by decide), rI_wI_a (by decide), r3]
    · rw [if_neg (show ¬ nI l.length < 80 from nI_nlt (b := 80) (by omega) (by omega)), if_neg q2]
      exact ⟨S, rfl, hl, Fr.rf⟩
/-- a call as the class holds it -/
def gtr (T : St) (Z : Nat → Int32) (x : Nat × Nat) : Int32 × Int32 × Int32 := (Z 0 &&& whM T Z x.2 (vN T 512 x.1) (vN T 513 x.1), Z 0 &&& hdM T Z x.2 (vN T 512 x.1) (vN T 513 x.1), nI (16 * x.1 + x.2))
def gst (T : St) (Z : Nat → Int32) (l : List (Int32 × Int32 × Int32)) (x : Nat × Nat) : List (Int32 × Int32 × Int32) := gad l (gtr T Z x)
theorem ga_in (hw : WF T W V) (hz : WZ T Z) {p : Nat} (hp : p < ct T 2) (k7 : Nat → Nat → Int32 → St → Re Unit) : ∀ (j k m : Nat) (l : List (Int32 × Int32 × Int32)) (S : St), TD v T W V L S → SD 200 Z (ct T 0) S → GA l S → k + j = ct T 1 → j < m → ∃ S', o_se_gather_55 k7 m v 200 (nI p) (mk (ct T 0) fun a => decide (awy T a (vN T 512 p) ≤ vN T 513 p)) (mk (ct T 0) fun a => decide (awy T a (vN T 512 p) ≤ 2 * vN T 513 p)) (nI k) S = o_se_gather_117 k7 v 200 (nI p) S' ∧ GA ((rowL T W p k j).foldl (gst T Z) l) S' ∧ Fr fGa S S'
  | 0, k, m, l, S, hT, hs, hl, hk, hm => by
    have hn := hw.b
    obtain ⟨m, rfl, hm⟩ := fuel hm
    rw [Nat.add_zero] at hk
    subst hk
    refine ⟨S, ?_, hl, Fr.rf⟩
    rw [o_se_gather_55, if_pos hT.k, if_pos hT.sn.1, na_size hT.sn, bnq, if_neg (nI_nlt (Nat.le_refl _) (by omega))]
  | j + 1, k, m, l, S, hT, hs, hl, hk, hm => by
    have hn := hw.b
    obtain ⟨m, rfl, hm⟩ := fuel hm
    have hkl : k < ct T 1 := by omega
    have ecay : cayB T W (nI p) (nI k) = sayB T W p k := by
      unfold cayB
      rw [inN_nI (by omega) (by omega), inN_nI (by omega) (by omega), decide_eq_true hp, decide_eq_true hkl, nI_clamp (by omega), nI_clamp (by omega)]
      rfl
    rw [o_se_gather_55, if_pos hT.k, if_pos hT.sn.1, na_size hT.sn, bnq, if_pos (nI_lt (by omega) (by omega)), to_canSay hw hT, bnq, ecay, rowL]
    have go : ∀ (t : Int32) (l' : List (Int32 × Int32 × Int32)), gad l (t &&& (mk (ct T 0) fun a => decide (awy T a (vN T 512 p) ≤ vN T 513 p)), t &&& (mk (ct T 0) fun a => decide (awy T a (vN T 512 p) ≤ 2 * vN T 513 p)), nI (16 * p + k)) = l' → ∃ S', o_se_gather_88 (o_se_gather_55 k7 m) v 200 (nI p) (mk (ct T 0) fun a => decide (awy T a (vN T 512 p) ≤ vN T 513 p)) (mk (ct T 0) fun a => decide (awy T a (vN T 512 p) ≤ 2 * vN T 513 p)) (nI k) t S = o_se_gather_117 k7 v 200 (nI p) S' ∧ GA ((rowL T W p (k + 1) j).foldl (gst T Z) l') S' ∧ Fr fGa S S' := by
      intro t l' hl'
      obtain ⟨S1, a1, a2, a3⟩ := ga_add hl (t &&& (mk (ct T 0) fun a => decide (awy T a (vN T 512 p) ≤ vN T 513 p))) (t &&& (mk (ct T 0) fun a => decide (awy T a (vN T 512 p) ≤ 2 * vN T 513 p))) (nI (16 * p + k))
      rw [hl'] at a2
      obtain ⟨S', e1, e2, e3⟩ := ga_in hw hz hp k7 j (k + 1) m l' S1 (hT.fr a3 fun a k q => by unfold ton at q; exact fGa_n (by omega) (by omega)) (hs.frw a3 (fun k => fGa_n (by decide) (by decide)) (fun k => fGa_n (by decide) (by decide))) a2 (by omega) (by omega)
      refine ⟨S', ?_, e2, a3.tr e3⟩
      unfold o_se_gather_88
      rw [x16, a1, bnq, ltq, nI_1]
      exact e1
    cases hsay : sayB T W p k with
    | false =>
      obtain ⟨S', e1, e2, e3⟩ := go 0 l (by unfold gad; exact if_pos Int32.zero_and)
      refine ⟨S', ?_, by rw [cond_false, List.nil_append]; exact e2, e3⟩
      rw [if_pos bF]
      exact e1
    | true =>
      obtain ⟨S', e1, e2, e3⟩ := go (Z 0 &&& mk (ct T 0) (mnt T Z k)) (gst T Z l (p, k)) (by
        unfold gst gtr
        congr 1
        have em : ∀ q : Nat → Bool, Z 0 &&& mk (ct T 0) (mnt T Z k) &&& mk (ct T 0) q = Z 0 &&& mk (ct T 0) (fun a => mnt T Z k a && q a) := fun q => by
          apply tb_ext
          intro i hi
          rw [tb_and, tb_and, tb_and, tb_mk _ _ _ (by omega) hi, tb_mk _ _ _ (by omega) hi, tb_mk _ _ _ (by omega) hi]
          cases tb (Z 0) i <;> cases decide (i < ct T 0) <;> cases mnt T Z k i <;> cases q i <;> rfl
        rw [em, em]
        rfl)
      refine ⟨S', ?_, by rw [cond_true, List.singleton_append, List.foldl_cons]; exact e2, e3⟩
      rw [if_neg bT, if_pos hs.1.1, sd_meant hw hz hT hs hkl, bnq]
      exact e1
end GATHER
