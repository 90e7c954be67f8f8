/-! What the constructors make: by running them. Search's own loop is left out here: 'thrS' is what it does. -/
def S00 : St := (fun _ _ => 0, fun _ _ => 0, fun _ _ => none)
def alO : List Nat := [1, 2, 3, 4, 110, 140, 70, 200, 230, 111, 141, 116, 146, 205, 235, 5, 6, 7, 8, 9, 10, 11, 12, 13, 14, 15, 16, 17, 18, 19, 20, 22, 30, 26, 24, 32, 28, 100, 130, 102, 132, 104, 134, 106, 136, 108, 138, 34, 38, 42, 46, 50, 54, 36, 40, 44, 48, 52, 56, 58, 60, 62, 21, 23, 31, 27, 25, 33, 29, 101, 131, 103, 133, 105, 135, 107, 137, 109, 139, 35, 39, 43, 47, 51, 55, 37, 41, 45, 49, 53, 57, 59, 61, 63, 71, 201, 231, 112, 142, 117, 147, 72, 202, 232, 113, 143, 118, 148, 73, 203, 233, 114, 144, 119, 149, 74, 204, 234, 115, 145, 120, 150, 206, 236, 207, 237, 208, 238, 209, 239, 210, 240, 211, 241, 212, 242, 213, 243, 214, 244, 215, 245, 216, 246, 217, 247, 218, 248, 219, 249, 220, 250, 221, 251]
def alM : List Nat := List.range' 500 67
/-- the sum of the threes of the ones of k -/
def thN (k : Nat) : Nat := (List.range 10).foldl (fun s i => bif Nat.testBit k i then s + 3 ^ i else s) 0
def thrS (S : St) : St := (fun a k => if a = 11 ∧ k < 1024 then nI (thN k) else S.1 a k, S.2)
def rM : Option Ea := exA KM alM 9999 0 100000 8 2400 1 0 (lv_args 0 [.ref 500]) [] S00
/-- up to the call of Search() -/
def rO1 : Option Ea := exA KO alO 2200 42 100000 8 2200 1 0 (lv_args 0 [.ref 1]) [] S00
def SO1 : St := match rO1 with | some o => o.2.2.2.2 | none => S00
/-- Search(), up to its loop -/
def rO2 : Option Ea := exA KO alO 800 80 100000 7 800 16 0 (lv_args 0 [.ref 5]) [] SO1
def SO2 : St := match rO2 with | some o => o.2.2.2.2 | none => S00
/-- behind it -/
def rO3 : Option Ea := exA KO alO 2200 174 100000 8 2200 25 45 [(0, .ref 1)] [.ref 5, .ref 1] (thrS SO2)
def SO3 : St := match rO3 with | some o => o.2.2.2.2 | none => S00
/-- a run's end: the number of cells, the place, locals and stack -/
def endS (k pc : Nat) (lc : Lc) (st : List Value) (o : Ea) : Bool := o.1 == k && (o.2.1 == pc && (o.2.2.1 == lc && o.2.2.2.1 == st))
/-- the references that stay are as the kinds say -/
def chkS (K : Cfg) (al : List Nat) (S : St) : Bool := al.all (fun a => (K.1 a).1 != 0 || (List.range (kF (K.1 a).2)).all (fun z => match K.2.1 (K.1 a).2 a z with
  | some b => S.2.2 a z == some b
  | none => true))
def chkR (r : Option Ea) (k pc : Nat) (lc : Lc) (st : List Value) (f : Ea → Bool) : Bool := match r with
  | some o => endS k pc lc st o && f o
  | none => false
set_option maxRecDepth 1000000 in
theorem rM_ok : chkR rM 67 534 [(0, .ref 500)] [] (fun o => chkS KM alM o.2.2.2.2) = true := by decide +kernel
set_option maxRecDepth 1000000 in
theorem rO1_ok : chkR rO1 16 42 [(0, .ref 1)] [.ref 5, .ref 5, .ref 1] (fun _ => true) = true := by decide +kernel
set_option maxRecDepth 1000000 in
theorem rO2_ok : chkR rO2 25 80 [(0, .ref 5)] [] (fun o => o.2.2.2.2.2.2 5 5 == some 11 && o.2.2.2.2.1 11 0 == 0) = true := by decide +kernel
set_option maxRecDepth 1000000 in
theorem rO3_ok : chkR rO3 154 174 [(1, .int 16), (0, .ref 1)] [] (fun o => chkS KO alO o.2.2.2.2) = true := by decide +kernel
theorem ends_of {r : Option Ea} {k pc : Nat} {lc : Lc} {st : List Value} {f : Ea → Bool} (h : chkR r k pc lc st f = true) : ∃ S, r = some (k, pc, lc, st, S) ∧ f (k, pc, lc, st, S) = true := by
  unfold chkR at h
  split at h
  · rename_i o
    obtain ⟨k1, pc1, lc1, st1, S1⟩ := o
    simp only [Bool.and_eq_true] at h
    obtain ⟨h1, h2⟩ := h
    simp only [endS, Bool.and_eq_true, beq_iff_eq] at h1
    obtain ⟨rfl, rfl, rfl, rfl⟩ := h1
    exact ⟨S1, rfl, h2⟩
  · cases h
theorem rO1_is : rO1 = some (16, 42, [(0, .ref 1)], [.ref 5, .ref 5, .ref 1], SO1) := by
  obtain ⟨S, h1, -⟩ := ends_of rO1_ok
  have h4 : SO1 = S := by unfold SO1; rw [h1]
  rw [h4]
  exact h1
theorem rO2_is : rO2 = some (25, 80, [(0, .ref 5)], [], SO2) ∧ rQ SO2 5 5 = some 11 ∧ SO2.1 11 0 = 0 := by
  obtain ⟨S, h1, h3⟩ := ends_of rO2_ok
  have h4 : SO2 = S := by unfold SO2; rw [h1]
  simp only [Bool.and_eq_true, beq_iff_eq] at h3
  rw [h4]
  exact ⟨h1, h3.1, h3.2⟩
theorem rO3_is : rO3 = some (154, 174, [(1, .int 16), (0, .ref 1)], [], SO3) ∧ chkS KO alO SO3 = true := by
  obtain ⟨S, h1, h3⟩ := ends_of rO3_ok
  have h4 : SO3 = S := by unfold SO3; rw [h1]
  rw [h4]
  exact ⟨h1, h3⟩
def SM0 : St := match rM with | some o => o.2.2.2.2 | none => S00
theorem rM_is : rM = some (67, 534, [(0, .ref 500)], [], SM0) ∧ chkS KM alM SM0 = true := by
  obtain ⟨S, h1, h3⟩ := ends_of rM_ok
  have h4 : SM0 = S := by unfold SM0; rw [h1]
  rw [h4]
  exact ⟨h1, h3⟩
