/-! Crop: what can be won, within bounds. -/
section BOUNDS
variable {T : St} {W V : Nat → List Nat} {L : Int32 → Int32 → Int32} {Z : Nat → Int32} {S : St}
def rg (c : Nat) (x : Int32) : Prop := 0 ≤ x.toInt ∧ x.toInt ≤ c
theorem rg_0 (c : Nat) : rg c 0 := ⟨by decide, by rw [show (0 : Int32).toInt = 0 from rfl]; omega⟩
theorem rg_mo {c d : Nat} {x : Int32} (h : rg c x) (hc : c ≤ d) : rg d x := ⟨h.1, by have := h.2; omega⟩
theorem rg_add {c d : Nat} {x y : Int32} (hx : rg c x) (hy : rg d y) (h : c + d < 2 ^ 31) : (x + y).toInt = x.toInt + y.toInt ∧ rg (c + d) (x + y) := by
  have e : (x + y).toInt = x.toInt + y.toInt := by
    rw [Int32.toInt_add]
    obtain ⟨h1, h2⟩ := hx
    obtain ⟨h3, h4⟩ := hy
    exact Int.bmod_eq_of_le (by omega) (by omega)
  refine ⟨e, ?_⟩
  unfold rg at *
  rw [e]
  omega
theorem rg_nI {j c : Nat} (h : j ≤ c) (hc : c < 2 ^ 31) : rg c (nI j) := by
  unfold rg
  rw [nI_toInt (by omega)]
  omega
theorem sm_rg {c : Nat} {f : Nat → Int32} : ∀ n, n * c < 2 ^ 31 → (∀ i, i < n → rg c (f i)) → rg (n * c) (sm n f)
  | 0, _, _ => by rw [sm]; exact rg_0 _
  | n + 1, hn, h => by
    rw [Nat.succ_mul] at hn ⊢
    rw [sm]
    exact (rg_add (sm_rg n (by omega) fun i hi => h i (by omega)) (h n (by omega)) hn).2
theorem sm_le {c : Nat} {f g : Nat → Int32} : ∀ n, n * c < 2 ^ 31 → (∀ i, i < n → rg c (f i) ∧ rg c (g i) ∧ (f i).toInt ≤ (g i).toInt) → (sm n f).toInt ≤ (sm n g).toInt
  | 0, _, _ => Int.le_refl _
  | n + 1, hn, h => by
    rw [Nat.succ_mul] at hn
    have h1 := sm_rg (f := f) n (by omega) fun i hi => (h i (show i < n + 1 by omega)).1
    have h2 := sm_rg (f := g) n (by omega) fun i hi => (h i (show i < n + 1 by omega)).2.1
    have h3 := h n (by omega)
    have ih := sm_le n (by omega) fun i hi => h i (by omega)
    rw [sm, sm, (rg_add h1 h3.1 hn).1, (rg_add h2 h3.2.1 hn).1]
    omega
def BL (L : Int32 → Int32 → Int32) : Prop := ∀ k d, k < 100 → ∃ j, j < 1000 ∧ L (nI k) d = nI j
theorem vlA_rg (hw : WF T W V) (hB : BL L) {a : Nat} (ha : a < ct T 0) (d : Int32) : rg 999 (vlA T L a d) := by
  have h := (hw.ap ha).2.2.2.2.2
  obtain ⟨j, hj, e⟩ := hB (vN T 510 a) (d - rI T 509 a) h.2
  unfold vlA
  rw [h.1, e]
  exact rg_nI (by omega) (by decide)
theorem avl_rg (hw : WF T W V) (hB : BL L) (day : Int32) (dd a : Nat) : rg 999 (avl T L day dd a) := by
  unfold avl
  by_cases q : a < ct T 0
  · rw [decide_eq_true q, cond_true]
    exact vlA_rg hw hB q _
  · rw [decide_eq_false q, cond_false]
    exact rg_0 _
theorem ace_rg (hw : WF T W V) (hB : BL L) (day : Int32) : ∀ j dd a, rg 999 (ace T L day j dd a)
  | 0, _, _ => by rw [ace]; exact rg_0 _
  | j + 1, dd, a => by
    rw [ace]
    by_cases q : avl T L day dd a < ace T L day j (dd + 1) a
    · rw [if_pos q]
      exact ace_rg hw hB day j (dd + 1) a
    · rw [if_neg q]
      exact avl_rg hw hB day dd a
theorem ace_up (day : Int32) (j dd a : Nat) : (avl T L day dd a).toInt ≤ (ace T L day (j + 1) dd a).toInt ∧ (ace T L day j (dd + 1) a).toInt ≤ (ace T L day (j + 1) dd a).toInt := by
  rw [ace]
  by_cases q : avl T L day dd a < ace T L day j (dd + 1) a
  · rw [if_pos q]
    rw [Int32.lt_iff_toInt_lt] at q
    omega
  · rw [if_neg q]
    rw [Int32.lt_iff_toInt_lt] at q
    omega
theorem vls_avl (hn : ct T 0 ≤ 10) (x day : Int32) (dd : Nat) : vlS T L x (day + nI dd) = sm 10 (fun a => bif tb x a then avl T L day dd a else 0) := by
  have h1 : sm 10 (fun a => bif tb x a then avl T L day dd a else 0) = sm (ct T 0) (fun a => bif tb x a then avl T L day dd a else 0) := sm_more hn fun i h1 h2 => by
    show (bif tb x i then avl T L day dd i else 0) = 0
    unfold avl
    rw [decide_eq_false (by omega), cond_false]
    cases tb x i <;> rfl
  rw [h1]
  unfold vlS
  exact sm_ext fun i hi => by
    show (bif tb x i then vlA T L i (day + nI dd) else 0) = (bif tb x i then avl T L day dd i else 0)
    unfold avl
    rw [decide_eq_true hi, cond_true]
theorem flA_in {h s w e : Int32} {i : Nat} (q : tb (flA T h s w e) i = true) : tb h i = true := by
  unfold flA fl0 at q
  rw [tb_or, tb_and, tb_and] at q
  cases hh : tb h i with
  | true => rfl
  | false =>
    rw [hh] at q
    simp at q
/-- the most that can be had of so many days to come -/
def cel (T : St) (L : Int32 → Int32 → Int32) (day : Int32) (r dd : Nat) (h : Int32) : Int32 := sm 10 fun a => bif tb h a then ace T L day r dd a else 0
theorem cel_rg (hw : WF T W V) (hB : BL L) (day : Int32) (r dd : Nat) (h : Int32) : rg 9990 (cel T L day r dd h) := by
  unfold cel
  exact sm_rg (c := 999) 10 (by decide) fun i hi => by
    cases tb h i
    · exact rg_0 _
    · exact ace_rg hw hB day r dd i
theorem cva_le (hw : WF T W V) (hB : BL L) {g : Int32 → Int32 → Int32} {r dd : Nat} (hg : ∀ h s, rg 9990 (g h s) ∧ (g h s).toInt ≤ (cel T L (Z 2) r (dd + 1) h).toInt) (h s : Int32) (x : Nat × Nat) : rg 9990 (cva T Z L g dd h s x) ∧ (cva T Z L g dd h s x).toInt ≤ (cel T L (Z 2) (r + 1) dd h).toInt := by
  have hn := hw.b
  unfold cva
  have hin : ∀ i, tb (flA T h s (cwh T Z x) (cec T Z x)) i = true → tb h i = true := fun i q => flA_in q
  generalize hfl : flA T h s (cwh T Z x) (cec T Z x) = fl
  rw [hfl] at hin
  obtain ⟨g1, g2⟩ := hg (h &&& (fl ^^^ (-1))) (lsT T h s (cwh T Z x) (cec T Z x))
  rw [vls_avl (by omega)]
  have h1 : rg 9990 (sm 10 fun a => bif tb fl a then avl T L (Z 2) dd a else 0) := sm_rg (c := 999) 10 (by decide) fun i hi => by
    cases tb fl i
    · exact rg_0 _
    · exact avl_rg hw hB _ dd i
  have h2 := cel_rg (T := T) hw hB (Z 2) r (dd + 1) (h &&& (fl ^^^ (-1)))
  have h3 := rg_add h1 h2 (by decide)
  have h4 : (sm 10 fun a => (bif tb fl a then avl T L (Z 2) dd a else 0) + (bif tb (h &&& (fl ^^^ (-1))) a then ace T L (Z 2) r (dd + 1) a else 0)).toInt ≤ (cel T L (Z 2) (r + 1) dd h).toInt := by
    unfold cel
    refine sm_le (c := 999) 10 (by decide) fun i hi => ?_
    have a1 := avl_rg (T := T) hw hB (Z 2) dd i
    have a2 := ace_rg (T := T) hw hB (Z 2) r (dd + 1) i
    have a3 := ace_rg (T := T) hw hB (Z 2) (r + 1) dd i
    have a4 := ace_up (T := T) (L := L) (Z 2) r dd i
    have a5 := hin i
    show rg 999 ((bif tb fl i then avl T L (Z 2) dd i else 0) + (bif tb (h &&& (fl ^^^ (-1))) i then ace T L (Z 2) r (dd + 1) i else 0)) ∧ rg 999 (bif tb h i then ace T L (Z 2) (r + 1) dd i else 0) ∧ ((bif tb fl i then avl T L (Z 2) dd i else 0) + (bif tb (h &&& (fl ^^^ (-1))) i then ace T L (Z 2) r (dd + 1) i else 0)).toInt ≤ (bif tb h i then ace T L (Z 2) (r + 1) dd i else 0).toInt
    rw [tb_and, tb_not _ (by omega)]
    cases hf : tb fl i with
    | true =>
      rw [a5 hf, Bool.not_true, Bool.and_false, cond_true, cond_true, cond_false, Int32.add_zero]
      exact ⟨a1, a3, a4.1⟩
    | false =>
      rw [Bool.not_false, Bool.and_true, cond_false, Int32.zero_add]
      cases tb h i with
      | true => exact ⟨a2, a3, a4.2⟩
      | false => exact ⟨rg_0 _, rg_0 _, Int.le_refl _⟩
  rw [sm_add] at h4
  have h5 := rg_add h1 g1 (by decide)
  have h6 := cel_rg (T := T) hw hB (Z 2) (r + 1) dd h
  have h7 : ((sm 10 fun a => bif tb fl a then avl T L (Z 2) dd a else 0) + cel T L (Z 2) r (dd + 1) (h &&& (fl ^^^ (-1)))).toInt ≤ (cel T L (Z 2) (r + 1) dd h).toInt := h4
  rw [h3.1] at h7
  unfold rg at *
  rw [h5.1]
  omega
theorem fold_inv {α β : Type} {P : α → Prop} {f : α → β → α} (h : ∀ b x, P b → P (f b x)) : ∀ (l : List β) (b : α), P b → P (l.foldl f b)
  | [], _, hb => hb
  | x :: l, b, hb => fold_inv h l (f b x) (h b x hb)
theorem gN_cel (hw : WF T W V) (hB : BL L) (l : List (Nat × Nat)) : ∀ (r dd : Nat) (h s : Int32), rg 9990 (gN T Z L l r dd h s) ∧ (gN T Z L l r dd h s).toInt ≤ (cel T L (Z 2) r dd h).toInt
  | 0, dd, h, s => by
    rw [gN]
    exact ⟨rg_0 _, (cel_rg hw hB (Z 2) 0 dd h).1⟩
  | r + 1, dd, h, s => by
    rw [gN]
    refine fold_inv (P := fun b => rg 9990 b ∧ b.toInt ≤ (cel T L (Z 2) (r + 1) dd h).toInt) (fun b x hb => ?_) l _ ?_
    · have hc := cva_le (Z := Z) hw hB (fun h s => gN_cel hw hB l r (dd + 1) h s) h s x
      unfold cvs
      by_cases q : h &&& (cwh T Z x ||| cec T Z x) = 0
      · rw [if_pos q]
        exact hb
      · rw [if_neg q]
        by_cases q2 : b < cva T Z L (gN T Z L l r (dd + 1)) dd h s x
        · rw [if_pos q2]
          exact hc
        · rw [if_neg q2]
          exact hb
    · obtain ⟨h1, h2⟩ := gN_cel hw hB l r (dd + 1) h s
      refine ⟨h1, Int.le_trans h2 ?_⟩
      unfold cel
      refine sm_le (c := 999) 10 (by decide) fun i hi => ?_
      have a2 := ace_rg (T := T) hw hB (Z 2) r (dd + 1) i
      have a3 := ace_rg (T := T) hw hB (Z 2) (r + 1) dd i
      have a4 := ace_up (T := T) (L := L) (Z 2) r dd i
      show rg 999 (bif tb h i then ace T L (Z 2) r (dd + 1) i else 0) ∧ rg 999 (bif tb h i then ace T L (Z 2) (r + 1) dd i else 0) ∧ (bif tb h i then ace T L (Z 2) r (dd + 1) i else 0).toInt ≤ (bif tb h i then ace T L (Z 2) (r + 1) dd i else 0).toInt
      cases tb h i with
      | true => exact ⟨a2, a3, a4.2⟩
      | false => exact ⟨rg_0 _, rg_0 _, Int.le_refl _⟩
end BOUNDS
