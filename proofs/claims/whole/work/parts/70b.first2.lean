/-! The first states: the reference's; the threes. -/
def iniM : List (Nat × Nat × Int32) := [(500, 1, 0), (500, 69, 0), (543, 0, 0), (547, 0, 0), (548, 0, 0), (549, 0, 0), (521, 0, 0), (521, 1, 0), (522, 0, 0), (522, 1, 0)]
set_option maxRecDepth 1000000 in
theorem ini_M : chkR rM 67 534 [(0, .ref 500)] [] (fun o => chkC iniM o.2.2.2.2 && ((List.range 6).all (fun k => o.2.2.2.2.1 502 k == 0) && ((List.range 15).all (fun k => o.2.2.2.2.1 553 k == 0) && (List.range 4).all fun k => o.2.2.2.2.1 557 k == 0))) = true := by decide +kernel
set_option maxRecDepth 1000000 in
theorem ini_T : chkR rO3 154 174 [(1, .int 16), (0, .ref 1)] [] (fun o => (List.range 1024).all fun k => o.2.2.2.2.1 11 k == (thrS S00).1 11 k) = true := by decide +kernel
