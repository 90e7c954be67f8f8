/-! What the Statement's premises say of the start: classes, arrays, constants, texts. -/
abbrev tkN : String := "NameOrchard$Token"
abbrev tkD : String := "LNameOrchard$Token;"
def tkS (i : Nat) : Term := .static tkN (tokNL.getD i "") tkD
def flW : List Cond := flatC (Jvm.Cond.and given_1 narrow_1)
def pE : List Nat := [4, 112, 18, 166, 248, 255, 227, 53, 285, 292, 46, 25, 299, 306, 60, 313, 206, 213, 220, 320, 327, 334, 234, 241, 341, 348, 355, 362, 369, 262, 269, 276, 178, 185, 192, 199, 11, 376, 383, 390, 32, 39]
def pL : List Nat := [243, 756, 574, 766, 989, 1021, 903, 584, 2279, 2280, 582, 576, 2281, 2282, 586, 2283, 888, 899, 901, 2284, 2285, 2286, 946, 948, 2287, 2288, 2289, 2290, 2291, 1046, 1048, 1050, 877, 879, 881, 883, 568, 2292, 2293, 2294, 578, 580]
def pS : List Nat := [486, 486, 486, 486, 615, 620, 594, 524, 648, 655, 519, 499, 661, 666, 531, 671, 571, 577, 585, 680, 688, 697, 599, 607, 707, 719, 727, 735, 743, 625, 633, 641, 536, 545, 554, 563, 490, 752, 761, 770, 504, 512]
def kS0 : List Nat := [193, 193, 193, 193, 202, 205, 208, 211, 214, 220, 223, 226, 229, 232, 235, 238, 241, 244, 247, 250, 253, 256, 259, 262, 265, 268, 271, 274, 277, 280, 283, 286, 289, 292, 295, 298, 301, 307, 310, 313, 316, 319]
def tkX (i : Nat) : Term := .string tkN (kS0.getD i 0)
def tkV (i : Nat) : Term := .field (tkX i) "java/lang/String" "value" "[B"
def tkA : Term := .static tkN "ALL" "[LNameOrchard$Token;"
def tkW : Term := .static "NameOrchard$1" "$SwitchMap$NameOrchard$Token" "[I"
set_option maxRecDepth 100000 in
theorem fl_E : ∀ i, i < 42 → flW[pE.getD i 0]? = some (.exactly (tkS i) tkN) := by decide +kernel
set_option maxRecDepth 100000 in
theorem fl_ordinal : ∀ i, i < 42 → flW[pE.getD i 0 + 1]? = some (.eq (.field (tkS i) "java/lang/Enum" "ordinal" "I") (.int (Int32.ofNat i))) := by decide +kernel
set_option maxRecDepth 100000 in
theorem fl_strength : ∀ i, i < 42 → flW[pE.getD i 0 + 4]? = some (.eq (.field (tkS i) "NameOrchard$Token" "strength" "I") (.int (tokIL.getD i 0))) := by decide +kernel
set_option maxRecDepth 100000 in
theorem fl_fact : ∀ i, i < 42 → flW[pE.getD i 0 + 5]? = some (.eq (.field (tkS i) "NameOrchard$Token" "fact" "I") (.int (tokFL.getD i 0))) := by decide +kernel
set_option maxRecDepth 100000 in
theorem fl_ofNear : ∀ i, i < 42 → flW[pE.getD i 0 + 6]? = some (.eq (.field (tkS i) "NameOrchard$Token" "ofNear" "Z") (.int (tokNL'.getD i 0))) := by decide +kernel
set_option maxRecDepth 100000 in
theorem fl_text : ∀ i, i < 42 → flW[pE.getD i 0 + 2]? = some (.eq (.field (tkS i) tkN "text" "Ljava/lang/String;") (tkX i)) := by decide +kernel
set_option maxRecDepth 100000 in
theorem fl_letters : ∀ i, i < 42 → flW[pE.getD i 0 + 3]? = some (.eq (.field (tkS i) tkN "letters" "J") (.long (tokJL.getD i 0))) := by decide +kernel
set_option maxRecDepth 100000 in
theorem fl_X : ∀ i, i < 42 → flW[pS.getD i 0]? = some (.exactly (tkX i) "java/lang/String") ∧ flW[pS.getD i 0 + 1]? = some (.eq (.field (tkX i) "java/lang/String" "coder" "B") (.int 0)) ∧ flW[pS.getD i 0 + 2]? = some (.arrayOf (tkV i) .byte) ∧ flW[pS.getD i 0 + 3]? = some (.eq (.length (tkV i)) (.int (Int32.ofNat (txN i)))) := by decide +kernel
set_option maxRecDepth 100000 in
theorem fl_B : ∀ i, i < 42 → ∀ j, j < txN i → flW[pS.getD i 0 + 4 + j]? = some (.eq (.elem (tkV i) (.int (Int32.ofNat j))) (.int (txB i j))) := by decide +kernel
set_option maxRecDepth 100000 in
theorem fl_A : flW[121]? = some (.arrayOf tkA (.object tkN)) ∧ flW[122]? = some (.eq (.length tkA) (.int 42)) := by decide +kernel
set_option maxRecDepth 100000 in
theorem fl_Ae : ∀ j, j < 42 → flW[124 + j]? = some (.eq (.elem tkA (.int (Int32.ofNat j))) (tkS j)) := by decide +kernel
set_option maxRecDepth 100000 in
theorem fl_W : flW[68]? = some (.arrayOf tkW .int) ∧ flW[69]? = some (.eq (.length tkW) (.int 42)) := by decide +kernel
set_option maxRecDepth 100000 in
theorem fl_We : ∀ j, j < 42 → flW[70 + j]? = some (.eq (.elem tkW (.int (Int32.ofNat j))) (.int (smL.getD j 0))) := by decide +kernel
set_option maxRecDepth 100000 in
theorem fl_C : flW[173]? = some (.eq (.static "java/lang/String" "COMPACT_STRINGS" "Z") (.int 1)) ∧ flW[174]? = some (.isRef (.static "jdk/internal/util/Preconditions" "SIOOBE_FORMATTER" "Ljava/util/function/BiFunction;")) := by decide +kernel
set_option maxRecDepth 100000 in
theorem tb_L : ∀ i, i < 42 → lw_tbl[pL.getD i 0]? = some (.laysStatic tkN (tokNL.getD i "") tkD) := by decide +kernel
set_option maxRecDepth 100000 in
theorem tb_Z : lw_tbl[764]? = some (.laysStatic tkN "ALL" "[LNameOrchard$Token;") ∧ lw_tbl[633]? = some (.laysStatic "NameOrchard$1" "$SwitchMap$NameOrchard$Token" "[I") ∧ lw_tbl[787]? = some (.laysStatic "java/lang/String" "COMPACT_STRINGS" "Z") ∧ lw_tbl[803]? = some (.laysStatic "jdk/internal/util/Preconditions" "SIOOBE_FORMATTER" "Ljava/util/function/BiFunction;") ∧ lw_tbl[199]? = some (.initialized tkN) ∧ lw_tbl[209]? = some (.initialized "NameOrchard$1") ∧ lw_tbl[211]? = some (.initialized "java/lang/String") ∧ lw_tbl[213]? = some (.initialized "jdk/internal/util/Preconditions") := by decide +kernel
def inPL : List (Nat × Nat) := [(419, 1), (455, 7), (437, 3), (231, 2), (370, 13), (313, 6), (307, 5), (278, 4), (237, 8), (862, 8), (431, 17), (223, 13), (1510, 87)]
set_option maxRecDepth 100000 in
theorem tb_I : ∀ c, c < 13 → lw_tbl[(inPL.getD c (0, 0)).1]? = some (.instantiable (kN c) (inPL.getD c (0, 0)).2) := by decide +kernel
set_option maxRecDepth 100000 in
theorem tb_O : lw_tbl[461]? = some (.arrayOver (.object "NameOrchard$Token")) ∧ lw_tbl[428]? = some (.arrayOver (.object "NameOrchard$State")) ∧ lw_tbl[429]? = some (.arrayOver (.object "NameOrchard$Standing")) := by decide +kernel
section ENTRY
variable {args : Array Value} {s : State}
theorem fl_at (hg : (Jvm.Cond.and given_1 narrow_1).before args s = true) {i : Nat} {w : Cond} (h : flW[i]? = some w) : w.before args s = true := flat_of_before _ hg _ (List.mem_of_getElem? h)
theorem of_of {t : Term} {o n d : String} {v : Value} {a : Nat} {A : Nat → Prop} (hv : (Term.field t o n d).eval args s none [] s = some v) (ht : t.eval args s none [] s = some (.ref a)) (hA : ∀ a : Nat, a < s.heap.size → ¬ A a) : va_OF o n d v a A s s.heap := by
  cases hfo : s.fieldFound? o n d with
  | none =>
    rw [va_fe ht] at hv
    simp [State.fieldOf?, State.fieldNamed?, hfo] at hv
  | some x =>
    obtain ⟨cf, k, fi, f⟩ := x
    obtain ⟨g1, cell, g2, g3, -, -, g6⟩ := Term.field_spec hfo ht hv
    exact ⟨cf, k, fi, f, cell, hfo, g1, g2, g3, g6, hA _ (Array.getElem?_eq_some_iff.mp g2).1⟩
theorem of_inj {o n d : String} {v w : Value} {a : Nat} {A : Nat → Prop} {H : Heap} (h : va_OF o n d v a A s H) (h' : va_OF o n d w a A s H) : v = w := by
  obtain ⟨cf, k, i, f, cell, h1, h2, h3, h4, h5, h6⟩ := h
  obtain ⟨cf', k', i', f', cell', g1, g2, g3, g4, g5, g6⟩ := h'
  cases h1.symm.trans g1
  cases h3.symm.trans g3
  exact Option.some.inj (h5.symm.trans g5)
theorem ex_at {t : Term} {E : String} {A : Nat → Prop} (h : (Cond.exactly t E).before args s = true) (hA : ∀ a : Nat, a < s.heap.size → ¬ A a) : ∃ a : Nat, t.eval args s none [] s = some (.ref a) ∧ va_O E a A s s.heap ∧ a < s.heap.size := by
  obtain ⟨a, c, cell, k, q1, q2, q3, q4, q5, q6, -⟩ := Cond.exactly_spec h
  have hlt := (Array.getElem?_eq_some_iff.mp q3).1
  exact ⟨a, q1, ⟨cell, q3, q5, by rw [q6]; exact q2, hA a hlt⟩, hlt⟩
theorem or_inj : ∀ i, i < 42 → ∀ j, j < 42 → Int32.ofNat i = Int32.ofNat j → i = j := by decide +kernel
theorem or_val : ∀ i, i < 42 → ([0, 1, 2, 3, 4, 5, 6, 7, 8, 9, 10, 11, 12, 13, 14, 15, 16, 17, 18, 19, 20, 21, 22, 23, 24, 25, 26, 27, 28, 29, 30, 31, 32, 33, 34, 35, 36, 37, 38, 39, 40, 41] : List Int32).getD i 0 = Int32.ofNat i := by decide +kernel
theorem tok_at (hg : (Jvm.Cond.and given_1 narrow_1).before args s = true) {A : Nat → Prop} (hA : ∀ a : Nat, a < s.heap.size → ¬ A a) : ∃ ad : Nat → Nat, ∀ i, i < 42 → (tkS i).eval args s none [] s = some (.ref (ad i)) ∧ va_O tkN (ad i) A s s.heap ∧ ad i < s.heap.size := by
  have h0 : ∀ i : Nat, ∃ t : Nat, i < 42 → (tkS i).eval args s none [] s = some (.ref t) ∧ va_O tkN t A s s.heap ∧ t < s.heap.size := by
    intro i
    by_cases hi : i < 42
    · obtain ⟨a, q⟩ := ex_at (A := A) (fl_at hg (fl_E i hi)) hA
      exact ⟨a, fun _ => q⟩
    · exact ⟨0, fun h => absurd h hi⟩
  exact Classical.axiomOfChoice h0
theorem txt_at (hg : (Jvm.Cond.and given_1 narrow_1).before args s = true) (hts : ∀ w ∈ lw_tbl, w.before args s = true) {A : Nat → Prop} (hA : ∀ a : Nat, a < s.heap.size → ¬ A a) : ∃ q : Nat → Nat × Nat, ∀ i, i < 42 → (tkX i).eval args s none [] s = some (.ref (q i).1) ∧ SX (q i).1 (q i).2 (txN i) (txB i) A s s.heap := by
  have hL : ∀ {i : Nat} {w : Cond}, lw_tbl[i]? = some w → w.before args s = true := fun h => hts _ (List.mem_of_getElem? h)
  have h0 : ∀ i : Nat, ∃ q : Nat × Nat, i < 42 → (tkX i).eval args s none [] s = some (.ref q.1) ∧ SX q.1 q.2 (txN i) (txB i) A s s.heap := by
    intro i
    by_cases hi : i < 42
    · obtain ⟨x1, x2, x3, x4⟩ := fl_X i hi
      obtain ⟨a, q1, q2, q3⟩ := ex_at (A := A) (fl_at hg x1) hA
      have hN : txN i < 2 ^ 31 := (show ∀ i, i < 42 → txN i < 2 ^ 31 by decide +kernel) i hi
      obtain ⟨b, e1, e2⟩ := va_Tof (tm := tkV i) (ty := .byte) (N := txN i) (f := fun j => .int (txB i j)) hN (fl_at hg x3) (va_eqt (fl_at hg x4)) (fun j hj => va_eqt (fl_at hg (fl_B i hi j hj))) hA
      refine ⟨(a, b), fun _ => ⟨q1, q2, of_of (va_eqt (fl_at hg x2)) q1 hA, of_of e1 q1 hA, e2, ?_, ?_⟩⟩
      · exact va_Zof (hL tb_Z.2.2.1) (hL tb_Z.2.2.2.2.2.2.1) (va_eqi (fl_at hg fl_C.1)) hA
      · exact va_Zqof (hL tb_Z.2.2.2.1) (hL tb_Z.2.2.2.2.2.2.2) (fl_at hg fl_C.2) hA
    · exact ⟨(0, 0), fun h => absurd h hi⟩
  exact Classical.axiomOfChoice h0
/-- the facts of the statics, at the start -/
theorem sf_at (hg : (Jvm.Cond.and given_1 narrow_1).before args s = true) (hts : ∀ w ∈ lw_tbl, w.before args s = true) {A : Nat → Prop} (hA : ∀ a : Nat, a < s.heap.size → ¬ A a) : ∃ (ad : Nat → Nat) (sm aA : Nat) (q : Nat → Nat × Nat), (∀ i, i < 42 → ad i < s.heap.size) ∧ (∀ i j, i < 42 → j < 42 → ad i = ad j → i = j) ∧ ∀ G : Nat → Nat, (∀ i, i < 42 → G (1000 + i) = ad i) → G 1100 = sm → SFt G aA (fun i => (q i).1) (fun i => (q i).2) A s s.heap := by
  have hL : ∀ {i : Nat} {w : Cond}, lw_tbl[i]? = some w → w.before args s = true := fun h => hts _ (List.mem_of_getElem? h)
  obtain ⟨ad, had⟩ := tok_at (A := A) hg hA
  obtain ⟨q, hq⟩ := txt_at (A := A) hg hts hA
  obtain ⟨sm, s1, s2⟩ := va_Tof (A := A) (tm := tkW) (ty := .int) (N := 42) (f := fun j => .int (smL.getD j 0)) (by decide) (fl_at hg fl_W.1) (va_eqt (fl_at hg fl_W.2)) (fun j hj => va_eqt (fl_at hg (fl_We j hj))) hA
  obtain ⟨aA, a1, a2⟩ := va_Tof (A := A) (tm := tkA) (ty := .object tkN) (N := 42) (f := fun j => .ref (ad j)) (by decide) (fl_at hg fl_A.1) (va_eqt (fl_at hg fl_A.2)) (fun j hj => va_eqv (fl_at hg (fl_Ae j hj)) (had j hj).1) hA
  have hord : ∀ i, i < 42 → va_OF "java/lang/Enum" "ordinal" "I" (.int (Int32.ofNat i)) (ad i) A s s.heap := fun i hi => of_of (va_eqt (fl_at hg (fl_ordinal i hi))) (had i hi).1 hA
  have hinj : ∀ i j, i < 42 → j < 42 → ad i = ad j → i = j := by
    intro i j hi hj e
    have h1 := hord i hi
    have h2 := hord j hj
    rw [e] at h1
    have h3 := of_inj h1 h2
    exact or_inj i hi j hj (Value.int.inj h3)
  refine ⟨ad, sm, aA, q, fun i hi => (had i hi).2.2, hinj, fun G hG hG1 => ?_⟩
  have ht : ∀ i, i < 42 → (fun i => G (1000 + i)) i = ad i := hG
  refine ⟨⟨⟨fun i hi => ?_, fun i j hi hj e => ?_⟩, fun i hi => ?_, ?_, ?_⟩, ?_, ?_, fun i hi => ?_, fun i hi => (hq i hi).2⟩
  · have hi : i < 42 := hi
    rw [ht i hi]
    refine ⟨va_Zref (hL (tb_L i hi)) (hL tb_Z.2.2.2.2.1) (had i hi).1 hA, (had i hi).2.1, fun f hf => ?_⟩
    have hf : f = ("NameOrchard$Token", "strength", "I", tokIL) ∨ f = ("NameOrchard$Token", "fact", "I", tokFL) ∨ f = ("NameOrchard$Token", "ofNear", "Z", tokNL') ∨ f = ("java/lang/Enum", "ordinal", "I", [0, 1, 2, 3, 4, 5, 6, 7, 8, 9, 10, 11, 12, 13, 14, 15, 16, 17, 18, 19, 20, 21, 22, 23, 24, 25, 26, 27, 28, 29, 30, 31, 32, 33, 34, 35, 36, 37, 38, 39, 40, 41]) := by
      simpa [tokFI] using hf
    rcases hf with rfl | rfl | rfl | rfl
    · exact of_of (va_eqt (fl_at hg (fl_strength i hi))) (had i hi).1 hA
    · exact of_of (va_eqt (fl_at hg (fl_fact i hi))) (had i hi).1 hA
    · exact of_of (va_eqt (fl_at hg (fl_ofNear i hi))) (had i hi).1 hA
    · dsimp only
      rw [or_val i hi]
      exact hord i hi
  · have hi : i < 42 := hi
    have hj : j < 42 := hj
    rw [ht i hi, ht j hj] at e
    exact hinj i j hi hj e
  · rw [ht i hi]
    exact of_of (va_eqtl (fl_at hg (fl_letters i hi))) (had i hi).1 hA
  · rw [hG1]
    exact va_Zref (hL tb_Z.2.1) (hL tb_Z.2.2.2.2.2.1) s1 hA
  · rw [hG1]
    exact s2
  · exact va_Zref (hL tb_Z.1) (hL tb_Z.2.2.2.2.1) a1 hA
  · obtain ⟨cell, h1, h2, h3, h4, h5, h6, h7⟩ := a2
    exact ⟨cell, h1, h2, h3, h4, h5, fun j hj => by rw [h6 j hj]; show _ = some (Value.ref (G (1000 + j))); rw [hG j hj], h7⟩
  · rw [ht i hi]
    exact of_of (va_eqv (fl_at hg (fl_text i hi)) (hq i hi).1) (had i hi).1 hA
/-- the classes and array classes -/
theorem k_at (hts : ∀ w ∈ lw_tbl, w.before args s = true) : ∃ (D : va_G) (cy : Nat → ClassId), va_K D kCl (tysL cy) s := by
  have hL : ∀ {w : Cond}, w ∈ lw_tbl → w.before args s = true := fun h => hts _ h
  have htg : ∀ w ∈ gw, w.before args s = true := fun w h => hts w (List.mem_filter.mp h).1
  have hc : ∀ c : Nat, ∃ q : ClassId × (Nat → Nat), c < 13 → u_Kn s (kN c) (kT c) (kF c) q.1 q.2 := by
    intro c
    by_cases h : c < 13
    · obtain ⟨a, b, k⟩ := u_known htg (k_ws c h) (hts _ (List.mem_of_getElem? (tb_I c h)))
      exact ⟨(a, b), fun _ => k⟩
    · exact ⟨(0, fun _ => 0), fun z => absurd z h⟩
  obtain ⟨q, hq⟩ := Classical.axiomOfChoice hc
  have prim : ∀ ty : FieldType, (Cond.arrayClass ty).before args s = true → (∀ C, ty ≠ .object C) → ∃ cA : ClassId, ArrOfT s cA ty ∧ va_RA s cA ty := by
    intro ty h hn
    obtain ⟨c, k, comp, h1, h2, h3⟩ := Cond.arrayClass_spec h
    refine ⟨c, fun n z => ⟨fun k h => (by cases h), k, h2, comp, h3⟩, ?_⟩
    cases ty <;> first | exact h1 | exact absurd rfl (hn _)
  have obj : ∀ C : String, (Cond.arrayOver (.object C)).before args s = true → ∃ cA : ClassId, ArrOfT s cA (.object C) ∧ va_RA s cA (.object C) := by
    intro C h
    obtain ⟨comp, c, k, h1, h2, h3, h4, h5⟩ := Cond.arrayOver_spec h
    exact ⟨c, fun n z => ⟨fun k h => (by cases h), k, h3, comp, h4⟩, k, comp, h3, h4, h1, h5⟩
  obtain ⟨c1, e1⟩ := prim .int (hL at_ws.1) (fun C h => by cases h)
  obtain ⟨c2, e2⟩ := prim .char (hL at_ws.2.1) (fun C h => by cases h)
  obtain ⟨c3, e3⟩ := prim .boolean (hL at_ws.2.2.1) (fun C h => by cases h)
  obtain ⟨c4, e4⟩ := prim .long (hL at_ws.2.2.2) (fun C h => by cases h)
  obtain ⟨c5, e5⟩ := obj "NameOrchard$Token" (hL (List.mem_of_getElem? tb_O.1))
  obtain ⟨c6, e6⟩ := obj "NameOrchard$State" (hL (List.mem_of_getElem? tb_O.2.1))
  obtain ⟨c7, e7⟩ := obj "NameOrchard$Standing" (hL (List.mem_of_getElem? tb_O.2.2))
  refine ⟨(fun c => (q c).1, fun c => (q c).2), fun t => ([0, c1, c2, c3, c4, c5, c6, c7] : List ClassId).getD t 0, fun c r hr => ?_, fun k r hr => ?_⟩
  · have hl : c < 13 := (List.getElem?_eq_some_iff.mp hr).1
    have h13 := kCl_at c hl
    rw [h13] at hr
    cases hr
    exact hq c hl
  · have hl : k < 7 := (List.getElem?_eq_some_iff.mp hr).1
    rcases (show k = 0 ∨ k = 1 ∨ k = 2 ∨ k = 3 ∨ k = 4 ∨ k = 5 ∨ k = 6 by omega) with rfl | rfl | rfl | rfl | rfl | rfl | rfl <;> cases hr
    · exact e1
    · exact e2
    · exact e3
    · exact e4
    · exact e5
    · exact e6
    · exact e7
theorem nw_at (hts : ∀ w ∈ lw_tbl, w.before args s = true) : ∀ w ∈ nw, va_Nw w s := by
  intro w hw
  have h1 := (List.mem_filter.mp hw).2
  have h2 := hts w (List.mem_filter.mp hw).1
  cases w <;> first | exact va_Nw.of rfl h2 | (simp [isNest] at h1; done)
theorem ao_at (hts : ∀ w ∈ lw_tbl, w.before args s = true) : ∀ t, 5 ≤ t → t < 8 → va_AO (arK t) s := by
  intro t h5 h8
  rcases (show t = 5 ∨ t = 6 ∨ t = 7 by omega) with rfl | rfl | rfl
  · exact va_AO.of (hts _ (List.mem_of_getElem? tb_O.1))
  · exact va_AO.of (hts _ (List.mem_of_getElem? tb_O.2.1))
  · exact va_AO.of (hts _ (List.mem_of_getElem? tb_O.2.2))
end ENTRY
