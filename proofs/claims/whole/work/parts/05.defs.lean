/-- an instruction of a table: it is what the bytes say, and its link stands in the tables -/
def chkI (o : Nat) (bytes : ByteArray) (e : Nat × Xi) : Bool :=
  decide (decode bytes e.1 = .ok (e.2.1, e.2.2.1)) && (match e.2.1 with
  | .getfield i => fL.any (fun f => f.1 == o && (f.2.1 == i && (f.2.2.1 == e.2.2.2.1 && (f.2.2.2.1 == e.2.2.2.2.1 && f.2.2.2.2.1 == e.2.2.2.2.2)))) || e.2.2.2.1 == 9
  | .putfield i => fL.any (fun f => f.1 == o && (f.2.1 == i && (f.2.2.1 == e.2.2.2.1 && (f.2.2.2.1 == e.2.2.2.2.1 && f.2.2.2.2.1 == e.2.2.2.2.2)))) || e.2.2.2.1 == 9
  | .invokevirtual i => mL.any (fun f => f.1 == o && (f.2.1 == i && (f.2.2.1 == e.2.2.2.1 && (f.2.2.2.1 == e.2.2.2.2.1 && f.2.2.2.2.1 == e.2.2.2.2.2)))) || e.2.2.2.1 == 9
  | .invokestatic i => mL.any (fun f => f.1 == o && (f.2.1 == i && (f.2.2.1 == e.2.2.2.1 && (f.2.2.2.1 == e.2.2.2.2.1 && f.2.2.2.2.1 == e.2.2.2.2.2)))) || e.2.2.2.1 == 9
  | .invokespecial i => mL.any (fun f => f.1 == o && (f.2.1 == i && (f.2.2.1 == e.2.2.2.1 && (f.2.2.2.1 == e.2.2.2.2.1 && f.2.2.2.2.1 == e.2.2.2.2.2)))) || e.2.2.2.1 == 9
  | .getstatic i => sL.any (fun f => f.1 == o && (f.2.1 == i && (f.2.2.1 == e.2.2.2.1 && f.2.2.2.1 == e.2.2.2.2.1))) || e.2.2.2.1 == 9
  | .ldc_w i => iL.any (fun f => f.1 == o && (f.2.1 == i && f.2.2.1 == e.2.2.2.1)) || e.2.2.2.2.1 == 9
  | .ldc i => iL.any (fun f => f.1 == o && (f.2.1 == i && f.2.2.1 == e.2.2.2.1)) || e.2.2.2.2.1 == 9
  | .ldc2_w i => jL.any (fun f => f.1 == o && (f.2.1 == i && f.2.2.1 == e.2.2.2.1))
  | _ => true)
/-- a method of the tables is what the Statement says -/
def GoodE (e : MI × List (Nat × Xi)) : Prop := Cond.code e.1.1 e.1.2.1 e.1.2.2.1 e.1.2.2.2.1 ∈ lw_tbl ∧ e.2.all (chkI e.1.2.2.2.2 e.1.2.1) = true ∧ e.1.1.cls = kN e.1.2.2.2.2 ∧ e.1.2.2.2.2 < 16 ∧ e.1.2.2.1 ≤ 14
