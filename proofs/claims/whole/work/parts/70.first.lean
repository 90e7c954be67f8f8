/-! The first states, read off the kernel's runs. -/
/-- cells of ints: name, place, what stands there -/
def iniO : List (Nat × Nat × Int32) := [(1, 11, 0), (1, 12, 0), (3, 1, 0), (70, 3, 0), (70, 4, 0), (110, 0, 40), (110, 1, 3), (110, 3, 0), (111, 0, 40), (111, 1, 3), (111, 3, 0), (112, 0, 40), (112, 1, 3), (112, 3, 0), (113, 0, 40), (113, 1, 3), (113, 3, 0), (114, 0, 40), (114, 1, 3), (114, 3, 0), (115, 0, 40), (115, 1, 3), (115, 3, 0), (116, 0, 12), (116, 1, 3), (116, 3, 0), (117, 0, 12), (117, 1, 3), (117, 3, 0), (118, 0, 12), (118, 1, 3), (118, 3, 0), (119, 0, 12), (119, 1, 3), (119, 3, 0), (120, 0, 12), (120, 1, 3), (120, 3, 0)]
/-- the same of both orchards -/
def iniD (d : Nat) : List (Nat × Nat × Int32) := [(d + 80, 0, 10), (d + 80, 1, 7), (d + 80, 3, 0), (d + 82, 0, 5), (d + 82, 1, 3), (d + 82, 3, 0), (d + 84, 0, 6), (d + 84, 1, 2), (d + 84, 3, 0), (d + 86, 0, 4), (d + 86, 1, 11), (d + 86, 3, 0), (d + 88, 0, 4), (d + 88, 1, 2), (d + 88, 3, 0), (d + 2, 2, 0), (d + 4, 2, 0), (d, 12, 0), (d, 13, 0)]
def iniQ : List (Nat × Nat × Nat) := [(1, 9, 20), (1, 10, 21), (5, 7, 13), (5, 8, 14), (16, 0, 71), (16, 1, 72), (16, 2, 73), (16, 3, 74)]
def chkC (l : List (Nat × Nat × Int32)) (S : St) : Bool := l.all fun e => S.1 e.1 e.2.1 == e.2.2
def chkQ (l : List (Nat × Nat × Nat)) (S : St) : Bool := l.all fun e => S.2.2 e.1 e.2.1 == some e.2.2
set_option maxRecDepth 1000000 in
theorem ini_O : chkR rO3 154 174 [(1, .int 16), (0, .ref 1)] [] (fun o => chkC iniO o.2.2.2.2 && (chkC (iniD 20) o.2.2.2.2 && (chkC (iniD 21) o.2.2.2.2 && (chkQ iniQ o.2.2.2.2 && (List.range 16).all fun i => o.2.2.2.2.2.2 19 i == some (206 + i))))) = true := by decide +kernel
