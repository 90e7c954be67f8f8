theorem mX_good {M : Nat} {e : MI × List (Nat × Xi)} (h : mX M = some e) : GoodE e := by sorry
