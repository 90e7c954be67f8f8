/-! What the enum's constants hold (the Statement's own premises), and the switch's table. -/
def tokJL : List Int64 := [0, 0, 0, 0, 0, 0, 0, 20974, 4545, 591, 0, 0, 0, 0, 0, 5652993, 641, 180530, 9062903, 468724, 19047055, 486131888, 178220, 153068, 624093612691, 171056, 473122, 591022, 5943350, 405539, 363824, 25636, 14976400, 19965313, 9023671, 197796, 20587653, 21563027, 5694738, 190771, 183330, 5345]
def tokIL : List Int32 := [0, 0, 0, 0, 0, 0, 0, 0, 1, 1, 2, 2, 3, 3, 4, 0, 0, 0, 0, 0, 0, 0, 0, 0, 0, 0, 0, 0, 0, 0, 0, 0, 0, 0, 0, 0, 0, 0, 0, 0, 0, 0]
def tokFL : List Int32 := [(-1), (-1), (-1), (-1), (-1), (-1), (-1), (-1), (-1), (-1), (-1), (-1), (-1), (-1), (-1), (-1), (-1), (-1), (-1), (-1), (-1), (-1), (-1), (-1), (-1), (-1), (-1), (-1), (-1), (-1), (-1), (-1), (-1), (-1), (-1), (-1), 0, 1, 2, 3, 0, 1]
def tokNL' : List Int32 := [0, 0, 0, 0, 0, 0, 0, 0, 0, 0, 0, 0, 0, 0, 0, 0, 0, 0, 0, 0, 0, 0, 0, 0, 0, 0, 0, 0, 0, 0, 0, 0, 0, 0, 0, 0, 1, 1, 1, 1, 0, 0]
def smL : List Int32 := [0, 0, 0, 0, 0, 0, 0, 0, 6, 7, 4, 5, 1, 2, 3, 8, 0, 0, 0, 9, 10, 11, 0, 0, 12, 13, 14, 15, 16, 0, 0, 0, 0, 0, 0, 0, 0, 0, 0, 0, 0, 0]
/-- field k of constant i -/
def tokV (i k : Nat) : Value := match k with
  | 1 => .long (tokJL.getD i 0)
  | 2 => .int (tokIL.getD i 0)
  | 3 => .int (tokFL.getD i 0)
  | 4 => .int (tokNL'.getD i 0)
  | _ => .null
def tokFI : List (String × String × String × List Int32) := [("NameOrchard$Token", "strength", "I", tokIL), ("NameOrchard$Token", "fact", "I", tokFL), ("NameOrchard$Token", "ofNear", "Z", tokNL'), ("java/lang/Enum", "ordinal", "I", [0, 1, 2, 3, 4, 5, 6, 7, 8, 9, 10, 11, 12, 13, 14, 15, 16, 17, 18, 19, 20, 21, 22, 23, 24, 25, 26, 27, 28, 29, 30, 31, 32, 33, 34, 35, 36, 37, 38, 39, 40, 41])]
/-- the constants, the switch's table: outside A, and so they stay -/
def TF (G : Nat → Nat) (A : Nat → Prop) (U : State) (H : Heap) : Prop :=
  va_En "NameOrchard$Token" "LNameOrchard$Token;" tokNL tokFI (fun i => G (1000 + i)) A U H ∧ va_Ef 42 "NameOrchard$Token" "letters" "J" (fun i => .long (tokJL.getD i 0)) (fun i => G (1000 + i)) A U H ∧ va_Z "NameOrchard$1" "$SwitchMap$NameOrchard$Token" "[I" (.ref (G 1100)) A U H ∧ va_T .int (G 1100) 42 (fun j => .int (smL.getD j 0)) A U H
theorem TF.moved {G : Nat → Nat} {A : Nat → Prop} {u U : State} {H : Heap} (hvm : u.vm.Alike U.vm) (h : TF G A u H) : TF G A U H := ⟨va_En.moved hvm h.1, va_Ef.moved hvm h.2.1, va_Z.moved hvm h.2.2.1, va_T.moved hvm h.2.2.2⟩
theorem TF.kept {G : Nat → Nat} {A : Nat → Prop} {U : State} {H H1 : Heap} (hq : ∀ a : Nat, a < H.size → ¬ A a → H1[a]? = H[a]?) (h : TF G A U H) : TF G A U H1 := ⟨h.1.kept hq, h.2.1.kept hq, h.2.2.1.kept hq, h.2.2.2.kept hq⟩
theorem TF.narrow {G : Nat → Nat} {A B : Nat → Prop} {U : State} {H : Heap} (hAB : ∀ q, B q → A q) (h : TF G A U H) : TF G B U H := ⟨h.1.narrow hAB, h.2.1.narrow hAB, h.2.2.1.narrow hAB, h.2.2.2.narrow hAB⟩
