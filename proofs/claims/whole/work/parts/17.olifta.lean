/-! Methods of the class, lifted (laid by wip/whole/gen/klass.py) -/
-- NameOrchard$Draws begin (I)V
def o_dr_begin (v1 : Int32) (S : St) : Re Unit :=
  lt' (wJ S 15 0 v1.toInt64) fun S1 =>
  some ((), S1)
set_option maxRecDepth 100000 in
theorem s0_o_dr_begin {d : Nat} {S' : St} {r : Unit} (v1 : Int32) (S : St) (h : o_dr_begin v1 S = some (r, S')) : RR KO (d + 0) 1 0 [(0, .ref 15), (1, .int v1)] [] S none S' := by
  unfold o_dr_begin at h
  refine RR.runs (pc' := 6) (lc' := [(0, .ref 15), (1, .int v1)]) (st' := []) (S1 := (wJ S 15 0 v1.toInt64)) (nL := 2) (cd := cd_1) mx_1 rfl rfl 4 rfl ?_
  obtain ⟨S1, eS1, h⟩ := ltE h
  rw [← eS1]
  cases h
  exact RR.retv mx_1 rfl rfl rfl
theorem s_o_dr_begin {d : Nat} {S' : St} {r : Unit} (v1 : Int32) (S : St) (h : o_dr_begin v1 S = some (r, S')) : RC KO (d + 0) 1 [.ref 15, .int v1] S none S' := RC.of rfl (s0_o_dr_begin v1 S h)
-- NameOrchard$Draws below (I)I
def o_dr_below_40 (p0 : Int32) (S : St) : Re Int32 :=
  some (p0, S)
set_option maxRecDepth 100000 in
theorem s_o_dr_below_40 {d : Nat} {S' : St} {r : Int32} (p0 : Int32) (S : St) (h : o_dr_below_40 p0 S = some (r, S')) : RR KO (d + 0) 2 40 [] [.int p0] S (some (.int r)) S' := by
  unfold o_dr_below_40 at h
  cases h
  exact RR.reti mx_2 rfl rfl rfl
def o_dr_below (v1 : Int32) (S : St) : Re Int32 :=
  lt' (wJ S 15 0 (((((rJ S 15 0) * (1103515245 : Int64)) + (12345 : Int64)) - (((rJ S 15 0) * (1103515245 : Int64)) + (12345 : Int64)) / (2147483648 : Int64) * (2147483648 : Int64)))) fun S1 =>
  if 0 < v1 then (
    if v1.toInt64 = 0 then none else
    o_dr_below_40 (((((rJ S1 15 0) / (65536 : Int64)) - ((rJ S1 15 0) / (65536 : Int64)) / v1.toInt64 * v1.toInt64)).toInt32) S1)
  else (
    o_dr_below_40 (0 : Int32) S1)
set_option maxRecDepth 100000 in
theorem s0_o_dr_below {d : Nat} {S' : St} {r : Int32} (v1 : Int32) (S : St) (h : o_dr_below v1 S = some (r, S')) : RR KO (d + 0) 2 0 [(0, .ref 15), (1, .int v1)] [] S (some (.int r)) S' := by
  unfold o_dr_below at h
  refine RR.runs (pc' := 20) (lc' := [(0, .ref 15), (1, .int v1)]) (st' := []) (S1 := (wJ S 15 0 (((((rJ S 15 0) * (1103515245 : Int64)) + (12345 : Int64)) - (((rJ S 15 0) * (1103515245 : Int64)) + (12345 : Int64)) / (2147483648 : Int64) * (2147483648 : Int64))))) (nL := 2) (cd := cd_2) mx_2 rfl rfl 10 rfl ?_
  obtain ⟨S1, eS1, h⟩ := ltE h
  rw [← eS1]
  refine RR.runs (pc' := icm .le v1 0 39 24) (lc' := [(0, .ref 15), (1, .int v1)]) (st' := []) (S1 := S1) (nL := 2) (cd := cd_2) mx_2 rfl rfl 2 rfl ?_
  rcases ifE h with ⟨c, h⟩ | ⟨c, h⟩
  · refine RR.c_le (fun _ => ?_) (fun q => absurd c q)
    refine RR.runs (pc' := 34) (lc' := [(0, .ref 15), (1, .int v1)]) (st' := [.long v1.toInt64, .long (((rJ S1 15 0) / (65536 : Int64)))]) (S1 := S1) (nL := 2) (cd := cd_2) mx_2 rfl rfl 6 rfl ?_
    obtain ⟨g, h⟩ := gnE h
    refine RR.gN (pc' := 35) (lc' := [(0, .ref 15), (1, .int v1)]) (st' := [.long ((((rJ S1 15 0) / (65536 : Int64)) - ((rJ S1 15 0) / (65536 : Int64)) / v1.toInt64 * v1.toInt64))]) (S1 := S1) (nL := 2) (cd := cd_2) mx_2 rfl rfl rfl g ?_
    refine RR.runs (pc' := 40) (lc' := [(0, .ref 15), (1, .int v1)]) (st' := [.int (((((rJ S1 15 0) / (65536 : Int64)) - ((rJ S1 15 0) / (65536 : Int64)) / v1.toInt64 * v1.toInt64)).toInt32)]) (S1 := S1) (nL := 2) (cd := cd_2) mx_2 rfl rfl 2 rfl ?_
    refine RR.weak [] trivial ?_
    exact s_o_dr_below_40 _ _ h
  · refine RR.c_le (fun q => absurd q c) (fun _ => ?_)
    refine RR.runs (pc' := 40) (lc' := [(0, .ref 15), (1, .int v1)]) (st' := [.int (0 : Int32)]) (S1 := S1) (nL := 2) (cd := cd_2) mx_2 rfl rfl 1 rfl ?_
    refine RR.weak [] trivial ?_
    exact s_o_dr_below_40 _ _ h
theorem s_o_dr_below {d : Nat} {S' : St} {r : Int32} (v1 : Int32) (S : St) (h : o_dr_below v1 S = some (r, S')) : RC KO (d + 0) 2 [.ref 15, .int v1] S (some (.int r)) S' := RC.of rfl (s0_o_dr_below v1 S h)
-- NameOrchard$Formula clear ()V
def o_fo_clear (v0 : Nat) (S : St) : Re Unit :=
  if KO.1 v0 = (0, 1) then (
lt' (wI S v0 5 (0 : Int32)) fun S1 =>
  lt' (wI S1 v0 6 (0 : Int32)) fun S3 =>
  some ((), S3)) else none
set_option maxRecDepth 100000 in
theorem s0_o_fo_clear {d : Nat} {S' : St} {r : Unit} (v0 : Nat) (S : St) (h : o_fo_clear v0 S = some (r, S')) : RR KO (d + 0) 201 0 [(0, .ref v0)] [] S none S' := by
  unfold o_fo_clear at h
  refine RR.runs (pc' := 2) (lc' := [(0, .ref v0)]) (st' := [.int (0 : Int32), .ref v0]) (S1 := S) (nL := 1) (cd := cd_201) mx_201 rfl rfl 2 rfl ?_
  obtain ⟨g2, h⟩ := gpE h
  refine RR.gP (pc' := 5) (lc' := [(0, .ref v0)]) (st' := []) (S1 := (wI S v0 5 (0 : Int32))) (nL := 1) (cd := cd_201) mx_201 rfl rfl rfl ⟨g2, by decide, rfl, by decide⟩ ?_
  obtain ⟨S1, eS1, h⟩ := ltE h
  rw [← eS1]
  refine RR.runs (pc' := 7) (lc' := [(0, .ref v0)]) (st' := [.int (0 : Int32), .ref v0]) (S1 := S1) (nL := 1) (cd := cd_201) mx_201 rfl rfl 2 rfl ?_
  refine RR.gP (pc' := 10) (lc' := [(0, .ref v0)]) (st' := []) (S1 := (wI S1 v0 6 (0 : Int32))) (nL := 1) (cd := cd_201) mx_201 rfl rfl rfl ⟨g2, by decide, rfl, by decide⟩ ?_
  obtain ⟨S3, eS3, h⟩ := ltE h
  rw [← eS3]
  cases h
  exact RR.retv mx_201 rfl rfl rfl
theorem s_o_fo_clear {d : Nat} {S' : St} {r : Unit} (v0 : Nat) (S : St) (h : o_fo_clear v0 S = some (r, S')) : RC KO (d + 0) 201 [.ref v0] S none S' := RC.of rfl (s0_o_fo_clear v0 S h)
-- NameOrchard$Formula add (LNameOrchard$Token;I)V
def o_fo_add_54 (S : St) : Re Unit :=
  some ((), S)
set_option maxRecDepth 100000 in
theorem s_o_fo_add_54 {d : Nat} {S' : St} {r : Unit} (S : St) (h : o_fo_add_54 S = some (r, S')) : RR KO (d + 0) 202 54 [] [] S none S' := by
  unfold o_fo_add_54 at h
  cases h
  exact RR.retv mx_202 rfl rfl rfl
def o_fo_add (v0 : Nat) (v1 : Nat) (v2 : Int32) (S : St) : Re Unit :=
  if KO.1 v0 = (0, 1) then (
    if 1 ≤ (KO.1 (v0 + 4)).1 ∧ (KO.1 (v0 + 4)).1 < 8 then (
  if (rI S v0 5) < (Int32.ofNat (KO.1 (v0 + 4)).2) then (
            if 1 ≤ (KO.1 (v0 + 8)).1 ∧ (KO.1 (v0 + 8)).1 < 8 then (
    if (rI S v0 5) < (Int32.ofNat (KO.1 (v0 + 8)).2) then (
                  if ((KO.1 (v0 + 4)).1 = 5 ∧ (KO.1 v1).1 = 20) ∨ ((KO.1 (v0 + 4)).1 = 6 ∧ KO.1 v1 = (0, 6)) ∨ ((KO.1 (v0 + 4)).1 = 7 ∧ KO.1 v1 = (0, 5)) then (
if (rI S v0 5) < 0 ∨ (KO.1 (v0 + 4)).2 ≤ (rI S v0 5).toNatClampNeg then none else lt' (wQ S (v0 + 4) (rI S v0 5).toNatClampNeg (some v1)) fun S3 =>
                  if (KO.1 (v0 + 8)).1 = 1 then (
      if (rI S3 v0 5) < 0 ∨ (KO.1 (v0 + 8)).2 ≤ (rI S3 v0 5).toNatClampNeg then none else
      lt' (wI S3 (v0 + 8) (rI S3 v0 5).toNatClampNeg v2) fun S4 =>
            lt' (wI S4 v0 5 (((rI S4 v0 5) + (1 : Int32)))) fun S5 =>
      o_fo_add_54 S5) else none) else none)
    else (
      o_fo_add_54 S)) else none)
  else (
    o_fo_add_54 S)) else none) else none
set_option maxRecDepth 100000 in
theorem s0_o_fo_add {d : Nat} {S' : St} {r : Unit} (v0 : Nat) (v1 : Nat) (v2 : Int32) (S : St) (h : o_fo_add v0 v1 v2 S = some (r, S')) : RR KO (d + 0) 202 0 [(0, .ref v0), (1, .ref v1), (2, .int v2)] [] S none S' := by
  unfold o_fo_add at h
  refine RR.runs (pc' := 1) (lc' := [(0, .ref v0), (1, .ref v1), (2, .int v2)]) (st' := [.ref v0]) (S1 := S) (nL := 3) (cd := cd_202) mx_202 rfl rfl 1 rfl ?_
  obtain ⟨g1, h⟩ := gpE h
  refine RR.gPo (pc' := 4) (lc' := [(0, .ref v0), (1, .ref v1), (2, .int v2)]) (st' := [.int (rI S v0 5)]) (S1 := S) (nL := 3) (cd := cd_202) mx_202 rfl rfl rfl ⟨g1, by decide, by decide⟩ ?_
  refine RR.runs (pc' := 5) (lc' := [(0, .ref v0), (1, .ref v1), (2, .int v2)]) (st' := [.ref v0, .int (rI S v0 5)]) (S1 := S) (nL := 3) (cd := cd_202) mx_202 rfl rfl 1 rfl ?_
  refine RR.gPo (pc' := 8) (lc' := [(0, .ref v0), (1, .ref v1), (2, .int v2)]) (st' := [.ref (v0 + 4), .int (rI S v0 5)]) (S1 := S) (nL := 3) (cd := cd_202) mx_202 rfl rfl rfl ⟨g1, by decide, by decide⟩ ?_
  obtain ⟨g, h⟩ := gpE h
  refine RR.gP (pc' := 9) (lc' := [(0, .ref v0), (1, .ref v1), (2, .int v2)]) (st' := [.int ((Int32.ofNat (KO.1 (v0 + 4)).2)), .int (rI S v0 5)]) (S1 := S) (nL := 3) (cd := cd_202) mx_202 rfl rfl rfl g ?_
  refine RR.runs (pc' := icm .ge (rI S v0 5) ((Int32.ofNat (KO.1 (v0 + 4)).2)) 54 12) (lc' := [(0, .ref v0), (1, .ref v1), (2, .int v2)]) (st' := []) (S1 := S) (nL := 3) (cd := cd_202) mx_202 rfl rfl 1 rfl ?_
  rcases ifE h with ⟨c, h⟩ | ⟨c, h⟩
  · refine RR.c_ge (fun _ => ?_) (fun q => absurd c q)
    refine RR.runs (pc' := 13) (lc' := [(0, .ref v0), (1, .ref v1), (2, .int v2)]) (st' := [.ref v0]) (S1 := S) (nL := 3) (cd := cd_202) mx_202 rfl rfl 1 rfl ?_
    refine RR.gPo (pc' := 16) (lc' := [(0, .ref v0), (1, .ref v1), (2, .int v2)]) (st' := [.int (rI S v0 5)]) (S1 := S) (nL := 3) (cd := cd_202) mx_202 rfl rfl rfl ⟨g1, by decide, by decide⟩ ?_
    refine RR.runs (pc' := 17) (lc' := [(0, .ref v0), (1, .ref v1), (2, .int v2)]) (st' := [.ref v0, .int (rI S v0 5)]) (S1 := S) (nL := 3) (cd := cd_202) mx_202 rfl rfl 1 rfl ?_
    refine RR.gPo (pc' := 20) (lc' := [(0, .ref v0), (1, .ref v1), (2, .int v2)]) (st' := [.ref (v0 + 8), .int (rI S v0 5)]) (S1 := S) (nL := 3) (cd := cd_202) mx_202 rfl rfl rfl ⟨g1, by decide, by decide⟩ ?_
    obtain ⟨g, h⟩ := gpE h
    refine RR.gP (pc' := 21) (lc' := [(0, .ref v0), (1, .ref v1), (2, .int v2)]) (st' := [.int ((Int32.ofNat (KO.1 (v0 + 8)).2)), .int (rI S v0 5)]) (S1 := S) (nL := 3) (cd := cd_202) mx_202 rfl rfl rfl g ?_
    refine RR.runs (pc' := icm .ge (rI S v0 5) ((Int32.ofNat (KO.1 (v0 + 8)).2)) 54 24) (lc' := [(0, .ref v0), (1, .ref v1), (2, .int v2)]) (st' := []) (S1 := S) (nL := 3) (cd := cd_202) mx_202 rfl rfl 1 rfl ?_
    rcases ifE h with ⟨c, h⟩ | ⟨c, h⟩
    · refine RR.c_ge (fun _ => ?_) (fun q => absurd c q)
      refine RR.runs (pc' := 25) (lc' := [(0, .ref v0), (1, .ref v1), (2, .int v2)]) (st' := [.ref v0]) (S1 := S) (nL := 3) (cd := cd_202) mx_202 rfl rfl 1 rfl ?_
      refine RR.gPo (pc' := 28) (lc' := [(0, .ref v0), (1, .ref v1), (2, .int v2)]) (st' := [.ref (v0 + 4)]) (S1 := S) (nL := 3) (cd := cd_202) mx_202 rfl rfl rfl ⟨g1, by decide, by decide⟩ ?_
      refine RR.runs (pc' := 29) (lc' := [(0, .ref v0), (1, .ref v1), (2, .int v2)]) (st' := [.ref v0, .ref (v0 + 4)]) (S1 := S) (nL := 3) (cd := cd_202) mx_202 rfl rfl 1 rfl ?_
      refine RR.gPo (pc' := 32) (lc' := [(0, .ref v0), (1, .ref v1), (2, .int v2)]) (st' := [.int (rI S v0 5), .ref (v0 + 4)]) (S1 := S) (nL := 3) (cd := cd_202) mx_202 rfl rfl rfl ⟨g1, by decide, by decide⟩ ?_
      refine RR.runs (pc' := 33) (lc' := [(0, .ref v0), (1, .ref v1), (2, .int v2)]) (st' := [.ref v1, .int (rI S v0 5), .ref (v0 + 4)]) (S1 := S) (nL := 3) (cd := cd_202) mx_202 rfl rfl 1 rfl ?_
      obtain ⟨g2, h⟩ := gpE h
      obtain ⟨g, h⟩ := gnE h
      refine RR.gPN (pc' := 34) (lc' := [(0, .ref v0), (1, .ref v1), (2, .int v2)]) (st' := []) (S1 := (wQ S (v0 + 4) (rI S v0 5).toNatClampNeg (some v1))) (nL := 3) (cd := cd_202) mx_202 rfl rfl rfl g2 g ?_
      obtain ⟨S3, eS3, h⟩ := ltE h
      rw [← eS3]
      refine RR.runs (pc' := 35) (lc' := [(0, .ref v0), (1, .ref v1), (2, .int v2)]) (st' := [.ref v0]) (S1 := S3) (nL := 3) (cd := cd_202) mx_202 rfl rfl 1 rfl ?_
      refine RR.gPo (pc' := 38) (lc' := [(0, .ref v0), (1, .ref v1), (2, .int v2)]) (st' := [.ref (v0 + 8)]) (S1 := S3) (nL := 3) (cd := cd_202) mx_202 rfl rfl rfl ⟨g1, by decide, by decide⟩ ?_
      refine RR.runs (pc' := 39) (lc' := [(0, .ref v0), (1, .ref v1), (2, .int v2)]) (st' := [.ref v0, .ref (v0 + 8)]) (S1 := S3) (nL := 3) (cd := cd_202) mx_202 rfl rfl 1 rfl ?_
      refine RR.gPo (pc' := 42) (lc' := [(0, .ref v0), (1, .ref v1), (2, .int v2)]) (st' := [.int (rI S3 v0 5), .ref (v0 + 8)]) (S1 := S3) (nL := 3) (cd := cd_202) mx_202 rfl rfl rfl ⟨g1, by decide, by decide⟩ ?_
      refine RR.runs (pc' := 43) (lc' := [(0, .ref v0), (1, .ref v1), (2, .int v2)]) (st' := [.int v2, .int (rI S3 v0 5), .ref (v0 + 8)]) (S1 := S3) (nL := 3) (cd := cd_202) mx_202 rfl rfl 1 rfl ?_
      obtain ⟨gq, h⟩ := gpE h
      obtain ⟨g, h⟩ := gnE h
      refine RR.gPNo (c2 := (KO.1 (v0 + 8)).1 = 1) (pc' := 44) (lc' := [(0, .ref v0), (1, .ref v1), (2, .int v2)]) (st' := []) (S1 := (wI S3 (v0 + 8) (rI S3 v0 5).toNatClampNeg v2)) (nL := 3) (cd := cd_202) mx_202 rfl rfl rfl gq g ?_
      obtain ⟨S4, eS4, h⟩ := ltE h
      rw [← eS4]
      refine RR.runs (pc' := 46) (lc' := [(0, .ref v0), (1, .ref v1), (2, .int v2)]) (st' := [.ref v0, .ref v0]) (S1 := S4) (nL := 3) (cd := cd_202) mx_202 rfl rfl 2 rfl ?_
      refine RR.gPo (pc' := 49) (lc' := [(0, .ref v0), (1, .ref v1), (2, .int v2)]) (st' := [.int (rI S4 v0 5), .ref v0]) (S1 := S4) (nL := 3) (cd := cd_202) mx_202 rfl rfl rfl ⟨g1, by decide, by decide⟩ ?_
      refine RR.runs (pc' := 51) (lc' := [(0, .ref v0), (1, .ref v1), (2, .int v2)]) (st' := [.int (((rI S4 v0 5) + (1 : Int32))), .ref v0]) (S1 := S4) (nL := 3) (cd := cd_202) mx_202 rfl rfl 2 rfl ?_
      refine RR.gP (pc' := 54) (lc' := [(0, .ref v0), (1, .ref v1), (2, .int v2)]) (st' := []) (S1 := (wI S4 v0 5 (((rI S4 v0 5) + (1 : Int32))))) (nL := 3) (cd := cd_202) mx_202 rfl rfl rfl ⟨g1, by decide, rfl, by decide⟩ ?_
      obtain ⟨S5, eS5, h⟩ := ltE h
      rw [← eS5]
      refine RR.weak [] trivial ?_
      exact s_o_fo_add_54 _ h
    · refine RR.c_ge (fun q => absurd q c) (fun _ => ?_)
      refine RR.weak [] trivial ?_
      exact s_o_fo_add_54 _ h
  · refine RR.c_ge (fun q => absurd q c) (fun _ => ?_)
    refine RR.weak [] trivial ?_
    exact s_o_fo_add_54 _ h
theorem s_o_fo_add {d : Nat} {S' : St} {r : Unit} (v0 : Nat) (v1 : Nat) (v2 : Int32) (S : St) (h : o_fo_add v0 v1 v2 S = some (r, S')) : RC KO (d + 0) 202 [.ref v0, .ref v1, .int v2] S none S' := RC.of rfl (s0_o_fo_add v0 v1 v2 S h)
-- NameOrchard$Token isFactOf (Z)Z
def o_tk_isFactOf_21 (p0 : Int32) (S : St) : Re Int32 :=
  if isBo p0 = true then some (p0, S) else none
set_option maxRecDepth 100000 in
theorem s_o_tk_isFactOf_21 {d : Nat} {S' : St} {r : Int32} (p0 : Int32) (S : St) (h : o_tk_isFactOf_21 p0 S = some (r, S')) : RR KO (d + 0) 1803 21 [] [.int p0] S (some (.int r)) S' := by
  unfold o_tk_isFactOf_21 at h
  obtain ⟨g, h⟩ := gpE h
  cases h
  exact RR.retz mx_1803 rfl rfl rfl g
def o_tk_isFactOf_20 (S : St) : Re Int32 :=
  o_tk_isFactOf_21 (0 : Int32) S
set_option maxRecDepth 100000 in
theorem s_o_tk_isFactOf_20 {d : Nat} {S' : St} {r : Int32} (S : St) (h : o_tk_isFactOf_20 S = some (r, S')) : RR KO (d + 0) 1803 20 [] [] S (some (.int r)) S' := by
  unfold o_tk_isFactOf_20 at h
  refine RR.runs (pc' := 21) (lc' := []) (st' := [.int (0 : Int32)]) (S1 := S) (nL := 2) (cd := cd_1803) mx_1803 rfl rfl 1 rfl ?_
  refine RR.weak [] trivial ?_
  exact s_o_tk_isFactOf_21 _ _ h
def o_tk_isFactOf (v0 : Nat) (v1 : Int32) (S : St) : Re Int32 :=
  if (KO.1 v0).1 = 20 then (
  if (tokFL.getD (KO.1 v0).2 0) = (-1 : Int32) then (
    o_tk_isFactOf_20 S)
  else (
        if (tokNL'.getD (KO.1 v0).2 0) = v1 then (
      o_tk_isFactOf_21 (1 : Int32) S)
    else (
      o_tk_isFactOf_20 S))) else none
set_option maxRecDepth 100000 in
theorem s0_o_tk_isFactOf {d : Nat} {S' : St} {r : Int32} (v0 : Nat) (v1 : Int32) (S : St) (h : o_tk_isFactOf v0 v1 S = some (r, S')) : RR KO (d + 0) 1803 0 [(0, .ref v0), (1, .int v1)] [] S (some (.int r)) S' := by
  unfold o_tk_isFactOf at h
  refine RR.runs (pc' := 1) (lc' := [(0, .ref v0), (1, .int v1)]) (st' := [.ref v0]) (S1 := S) (nL := 2) (cd := cd_1803) mx_1803 rfl rfl 1 rfl ?_
  obtain ⟨g1, h⟩ := gpE h
  refine RR.gNP (pc' := 4) (lc' := [(0, .ref v0), (1, .int v1)]) (st' := [.int ((tokFL.getD (KO.1 v0).2 0))]) (S1 := S) (nL := 2) (cd := cd_1803) mx_1803 rfl rfl rfl (fun q => absurd (q.1 ▸ g1 : ((0, 9) : Nat × Nat).1 = 20) (by decide)) ⟨g1, by decide, rfl, by decide, by decide⟩ ?_
  refine RR.runs (pc' := icm .eq ((tokFL.getD (KO.1 v0).2 0)) (-1 : Int32) 20 8) (lc' := [(0, .ref v0), (1, .int v1)]) (st' := []) (S1 := S) (nL := 2) (cd := cd_1803) mx_1803 rfl rfl 2 rfl ?_
  rcases ifE h with ⟨c, h⟩ | ⟨c, h⟩
  · refine RR.c_eq (fun _ => ?_) (fun q => absurd c q)
    refine RR.weak [] trivial ?_
    exact s_o_tk_isFactOf_20 _ h
  · refine RR.c_eq (fun q => absurd q c) (fun _ => ?_)
    refine RR.runs (pc' := 9) (lc' := [(0, .ref v0), (1, .int v1)]) (st' := [.ref v0]) (S1 := S) (nL := 2) (cd := cd_1803) mx_1803 rfl rfl 1 rfl ?_
    refine RR.gNP (pc' := 12) (lc' := [(0, .ref v0), (1, .int v1)]) (st' := [.int ((tokNL'.getD (KO.1 v0).2 0))]) (S1 := S) (nL := 2) (cd := cd_1803) mx_1803 rfl rfl rfl (fun q => absurd (q.1 ▸ g1 : ((0, 9) : Nat × Nat).1 = 20) (by decide)) ⟨g1, by decide, rfl, by decide, by decide⟩ ?_
    refine RR.runs (pc' := icm .ne ((tokNL'.getD (KO.1 v0).2 0)) v1 20 16) (lc' := [(0, .ref v0), (1, .int v1)]) (st' := []) (S1 := S) (nL := 2) (cd := cd_1803) mx_1803 rfl rfl 2 rfl ?_
    rcases ifE h with ⟨c, h⟩ | ⟨c, h⟩
    · refine RR.c_ne (fun _ => ?_) (fun q => absurd c q)
      refine RR.runs (pc' := 21) (lc' := [(0, .ref v0), (1, .int v1)]) (st' := [.int (1 : Int32)]) (S1 := S) (nL := 2) (cd := cd_1803) mx_1803 rfl rfl 2 rfl ?_
      refine RR.weak [] trivial ?_
      exact s_o_tk_isFactOf_21 _ _ h
    · refine RR.c_ne (fun q => absurd q c) (fun _ => ?_)
      refine RR.weak [] trivial ?_
      exact s_o_tk_isFactOf_20 _ h
theorem s_o_tk_isFactOf {d : Nat} {S' : St} {r : Int32} (v0 : Nat) (v1 : Int32) (S : St) (h : o_tk_isFactOf v0 v1 S = some (r, S')) : RC KO (d + 0) 1803 [.ref v0, .int v1] S (some (.int r)) S' := RC.of rfl (s0_o_tk_isFactOf v0 v1 S h)
-- NameOrchard$Formula hold (LNameOrchard$Token;)V
def o_fo_hold_32 (S : St) : Re Unit :=
  some ((), S)
set_option maxRecDepth 100000 in
theorem s_o_fo_hold_32 {d : Nat} {S' : St} {r : Unit} (S : St) (h : o_fo_hold_32 S = some (r, S')) : RR KO (d + 0) 205 32 [] [] S none S' := by
  unfold o_fo_hold_32 at h
  cases h
  exact RR.retv mx_205 rfl rfl rfl
def o_fo_hold (v0 : Nat) (v1 : Nat) (S : St) : Re Unit :=
  if KO.1 v0 = (0, 1) then (
    if 1 ≤ (KO.1 (v0 + 12)).1 ∧ (KO.1 (v0 + 12)).1 < 8 then (
  if (rI S v0 6) < (Int32.ofNat (KO.1 (v0 + 12)).2) then (
            if ((KO.1 (v0 + 12)).1 = 5 ∧ (KO.1 v1).1 = 20) ∨ ((KO.1 (v0 + 12)).1 = 6 ∧ KO.1 v1 = (0, 6)) ∨ ((KO.1 (v0 + 12)).1 = 7 ∧ KO.1 v1 = (0, 5)) then (
if (rI S v0 6) < 0 ∨ (KO.1 (v0 + 12)).2 ≤ (rI S v0 6).toNatClampNeg then none else lt' (wQ S (v0 + 12) (rI S v0 6).toNatClampNeg (some v1)) fun S3 =>
        lt' (wI S3 v0 6 (((rI S3 v0 6) + (1 : Int32)))) fun S4 =>
    o_fo_hold_32 S4) else none)
  else (
    o_fo_hold_32 S)) else none) else none
set_option maxRecDepth 100000 in
theorem s0_o_fo_hold {d : Nat} {S' : St} {r : Unit} (v0 : Nat) (v1 : Nat) (S : St) (h : o_fo_hold v0 v1 S = some (r, S')) : RR KO (d + 0) 205 0 [(0, .ref v0), (1, .ref v1)] [] S none S' := by
  unfold o_fo_hold at h
  refine RR.runs (pc' := 1) (lc' := [(0, .ref v0), (1, .ref v1)]) (st' := [.ref v0]) (S1 := S) (nL := 2) (cd := cd_205) mx_205 rfl rfl 1 rfl ?_
  obtain ⟨g1, h⟩ := gpE h
  refine RR.gPo (pc' := 4) (lc' := [(0, .ref v0), (1, .ref v1)]) (st' := [.int (rI S v0 6)]) (S1 := S) (nL := 2) (cd := cd_205) mx_205 rfl rfl rfl ⟨g1, by decide, by decide⟩ ?_
  refine RR.runs (pc' := 5) (lc' := [(0, .ref v0), (1, .ref v1)]) (st' := [.ref v0, .int (rI S v0 6)]) (S1 := S) (nL := 2) (cd := cd_205) mx_205 rfl rfl 1 rfl ?_
  refine RR.gPo (pc' := 8) (lc' := [(0, .ref v0), (1, .ref v1)]) (st' := [.ref (v0 + 12), .int (rI S v0 6)]) (S1 := S) (nL := 2) (cd := cd_205) mx_205 rfl rfl rfl ⟨g1, by decide, by decide⟩ ?_
  obtain ⟨g, h⟩ := gpE h
  refine RR.gP (pc' := 9) (lc' := [(0, .ref v0), (1, .ref v1)]) (st' := [.int ((Int32.ofNat (KO.1 (v0 + 12)).2)), .int (rI S v0 6)]) (S1 := S) (nL := 2) (cd := cd_205) mx_205 rfl rfl rfl g ?_
  refine RR.runs (pc' := icm .ge (rI S v0 6) ((Int32.ofNat (KO.1 (v0 + 12)).2)) 32 12) (lc' := [(0, .ref v0), (1, .ref v1)]) (st' := []) (S1 := S) (nL := 2) (cd := cd_205) mx_205 rfl rfl 1 rfl ?_
  rcases ifE h with ⟨c, h⟩ | ⟨c, h⟩
  · refine RR.c_ge (fun _ => ?_) (fun q => absurd c q)
    refine RR.runs (pc' := 13) (lc' := [(0, .ref v0), (1, .ref v1)]) (st' := [.ref v0]) (S1 := S) (nL := 2) (cd := cd_205) mx_205 rfl rfl 1 rfl ?_
    refine RR.gPo (pc' := 16) (lc' := [(0, .ref v0), (1, .ref v1)]) (st' := [.ref (v0 + 12)]) (S1 := S) (nL := 2) (cd := cd_205) mx_205 rfl rfl rfl ⟨g1, by decide, by decide⟩ ?_
    refine RR.runs (pc' := 17) (lc' := [(0, .ref v0), (1, .ref v1)]) (st' := [.ref v0, .ref (v0 + 12)]) (S1 := S) (nL := 2) (cd := cd_205) mx_205 rfl rfl 1 rfl ?_
    refine RR.gPo (pc' := 20) (lc' := [(0, .ref v0), (1, .ref v1)]) (st' := [.int (rI S v0 6), .ref (v0 + 12)]) (S1 := S) (nL := 2) (cd := cd_205) mx_205 rfl rfl rfl ⟨g1, by decide, by decide⟩ ?_
    refine RR.runs (pc' := 21) (lc' := [(0, .ref v0), (1, .ref v1)]) (st' := [.ref v1, .int (rI S v0 6), .ref (v0 + 12)]) (S1 := S) (nL := 2) (cd := cd_205) mx_205 rfl rfl 1 rfl ?_
    obtain ⟨g2, h⟩ := gpE h
    obtain ⟨g, h⟩ := gnE h
    refine RR.gPN (pc' := 22) (lc' := [(0, .ref v0), (1, .ref v1)]) (st' := []) (S1 := (wQ S (v0 + 12) (rI S v0 6).toNatClampNeg (some v1))) (nL := 2) (cd := cd_205) mx_205 rfl rfl rfl g2 g ?_
    obtain ⟨S3, eS3, h⟩ := ltE h
    rw [← eS3]
    refine RR.runs (pc' := 24) (lc' := [(0, .ref v0), (1, .ref v1)]) (st' := [.ref v0, .ref v0]) (S1 := S3) (nL := 2) (cd := cd_205) mx_205 rfl rfl 2 rfl ?_
    refine RR.gPo (pc' := 27) (lc' := [(0, .ref v0), (1, .ref v1)]) (st' := [.int (rI S3 v0 6), .ref v0]) (S1 := S3) (nL := 2) (cd := cd_205) mx_205 rfl rfl rfl ⟨g1, by decide, by decide⟩ ?_
    refine RR.runs (pc' := 29) (lc' := [(0, .ref v0), (1, .ref v1)]) (st' := [.int (((rI S3 v0 6) + (1 : Int32))), .ref v0]) (S1 := S3) (nL := 2) (cd := cd_205) mx_205 rfl rfl 2 rfl ?_
    refine RR.gP (pc' := 32) (lc' := [(0, .ref v0), (1, .ref v1)]) (st' := []) (S1 := (wI S3 v0 6 (((rI S3 v0 6) + (1 : Int32))))) (nL := 2) (cd := cd_205) mx_205 rfl rfl rfl ⟨g1, by decide, rfl, by decide⟩ ?_
    obtain ⟨S4, eS4, h⟩ := ltE h
    rw [← eS4]
    refine RR.weak [] trivial ?_
    exact s_o_fo_hold_32 _ h
  · refine RR.c_ge (fun q => absurd q c) (fun _ => ?_)
    refine RR.weak [] trivial ?_
    exact s_o_fo_hold_32 _ h
theorem s_o_fo_hold {d : Nat} {S' : St} {r : Unit} (v0 : Nat) (v1 : Nat) (S : St) (h : o_fo_hold v0 v1 S = some (r, S')) : RC KO (d + 0) 205 [.ref v0, .ref v1] S none S' := RC.of rfl (s0_o_fo_hold v0 v1 S h)
-- NameOrchard$Formula last ()LNameOrchard$Token;
def o_fo_last_34 (p0 : Option Nat) (S : St) : Re (Option Nat) :=
  some (p0, S)
set_option maxRecDepth 100000 in
theorem s_o_fo_last_34 {d : Nat} {S' : St} {r : (Option Nat)} (p0 : Option Nat) (S : St) (h : o_fo_last_34 p0 S = some (r, S')) : RR KO (d + 0) 204 34 [] [qv p0] S (some (qv r)) S' := by
  unfold o_fo_last_34 at h
  cases h
  exact RR.reto mx_204 rfl rfl rfl
def o_fo_last_33 (S : St) : Re (Option Nat) :=
  o_fo_last_34 none S
set_option maxRecDepth 100000 in
theorem s_o_fo_last_33 {d : Nat} {S' : St} {r : (Option Nat)} (S : St) (h : o_fo_last_33 S = some (r, S')) : RR KO (d + 0) 204 33 [] [] S (some (qv r)) S' := by
  unfold o_fo_last_33 at h
  refine RR.runs (pc' := 34) (lc' := []) (st' := [.null]) (S1 := S) (nL := 1) (cd := cd_204) mx_204 rfl rfl 1 rfl ?_
  refine RR.weak [] trivial ?_
  exact s_o_fo_last_34 _ _ h
def o_fo_last (v0 : Nat) (S : St) : Re (Option Nat) :=
  if KO.1 v0 = (0, 1) then (
  if 0 < (rI S v0 6) then (
            if 1 ≤ (KO.1 (v0 + 12)).1 ∧ (KO.1 (v0 + 12)).1 < 8 then (
    if (Int32.ofNat (KO.1 (v0 + 12)).2) < (rI S v0 6) then (
      o_fo_last_33 S)
    else (
                  if 5 ≤ (KO.1 (v0 + 12)).1 ∧ (KO.1 (v0 + 12)).1 < 8 then (
if ((rI S v0 6) - (1 : Int32)) < 0 ∨ (KO.1 (v0 + 12)).2 ≤ (((rI S v0 6) - (1 : Int32))).toNatClampNeg then none else
      oq (rQ S (v0 + 12) (((rI S v0 6) - (1 : Int32))).toNatClampNeg) none fun o3 =>
      o_fo_last_34 (some o3) S) else none)) else none)
  else (
    o_fo_last_33 S)) else none
set_option maxRecDepth 100000 in
theorem s0_o_fo_last {d : Nat} {S' : St} {r : (Option Nat)} (v0 : Nat) (S : St) (h : o_fo_last v0 S = some (r, S')) : RR KO (d + 0) 204 0 [(0, .ref v0)] [] S (some (qv r)) S' := by
  unfold o_fo_last at h
  refine RR.runs (pc' := 1) (lc' := [(0, .ref v0)]) (st' := [.ref v0]) (S1 := S) (nL := 1) (cd := cd_204) mx_204 rfl rfl 1 rfl ?_
  obtain ⟨g1, h⟩ := gpE h
  refine RR.gPo (pc' := 4) (lc' := [(0, .ref v0)]) (st' := [.int (rI S v0 6)]) (S1 := S) (nL := 1) (cd := cd_204) mx_204 rfl rfl rfl ⟨g1, by decide, by decide⟩ ?_
  refine RR.runs (pc' := icm .le (rI S v0 6) 0 33 7) (lc' := [(0, .ref v0)]) (st' := []) (S1 := S) (nL := 1) (cd := cd_204) mx_204 rfl rfl 1 rfl ?_
  rcases ifE h with ⟨c, h⟩ | ⟨c, h⟩
  · refine RR.c_le (fun _ => ?_) (fun q => absurd c q)
    refine RR.runs (pc' := 8) (lc' := [(0, .ref v0)]) (st' := [.ref v0]) (S1 := S) (nL := 1) (cd := cd_204) mx_204 rfl rfl 1 rfl ?_
    refine RR.gPo (pc' := 11) (lc' := [(0, .ref v0)]) (st' := [.int (rI S v0 6)]) (S1 := S) (nL := 1) (cd := cd_204) mx_204 rfl rfl rfl ⟨g1, by decide, by decide⟩ ?_
    refine RR.runs (pc' := 12) (lc' := [(0, .ref v0)]) (st' := [.ref v0, .int (rI S v0 6)]) (S1 := S) (nL := 1) (cd := cd_204) mx_204 rfl rfl 1 rfl ?_
    refine RR.gPo (pc' := 15) (lc' := [(0, .ref v0)]) (st' := [.ref (v0 + 12), .int (rI S v0 6)]) (S1 := S) (nL := 1) (cd := cd_204) mx_204 rfl rfl rfl ⟨g1, by decide, by decide⟩ ?_
    obtain ⟨g, h⟩ := gpE h
    refine RR.gP (pc' := 16) (lc' := [(0, .ref v0)]) (st' := [.int ((Int32.ofNat (KO.1 (v0 + 12)).2)), .int (rI S v0 6)]) (S1 := S) (nL := 1) (cd := cd_204) mx_204 rfl rfl rfl g ?_
    refine RR.runs (pc' := icm .gt (rI S v0 6) ((Int32.ofNat (KO.1 (v0 + 12)).2)) 33 19) (lc' := [(0, .ref v0)]) (st' := []) (S1 := S) (nL := 1) (cd := cd_204) mx_204 rfl rfl 1 rfl ?_
    rcases ifE h with ⟨c, h⟩ | ⟨c, h⟩
    · refine RR.c_gt (fun _ => ?_) (fun q => absurd c q)
      refine RR.weak [] trivial ?_
      exact s_o_fo_last_33 _ h
    · refine RR.c_gt (fun q => absurd q c) (fun _ => ?_)
      refine RR.runs (pc' := 20) (lc' := [(0, .ref v0)]) (st' := [.ref v0]) (S1 := S) (nL := 1) (cd := cd_204) mx_204 rfl rfl 1 rfl ?_
      refine RR.gPo (pc' := 23) (lc' := [(0, .ref v0)]) (st' := [.ref (v0 + 12)]) (S1 := S) (nL := 1) (cd := cd_204) mx_204 rfl rfl rfl ⟨g1, by decide, by decide⟩ ?_
      refine RR.runs (pc' := 24) (lc' := [(0, .ref v0)]) (st' := [.ref v0, .ref (v0 + 12)]) (S1 := S) (nL := 1) (cd := cd_204) mx_204 rfl rfl 1 rfl ?_
      refine RR.gPo (pc' := 27) (lc' := [(0, .ref v0)]) (st' := [.int (rI S v0 6), .ref (v0 + 12)]) (S1 := S) (nL := 1) (cd := cd_204) mx_204 rfl rfl rfl ⟨g1, by decide, by decide⟩ ?_
      refine RR.runs (pc' := 29) (lc' := [(0, .ref v0)]) (st' := [.int (((rI S v0 6) - (1 : Int32))), .ref (v0 + 12)]) (S1 := S) (nL := 1) (cd := cd_204) mx_204 rfl rfl 2 rfl ?_
      obtain ⟨g2, h⟩ := gpE h
      obtain ⟨g, h⟩ := gnE h
      refine RR.gPN (pc' := 30) (lc' := [(0, .ref v0)]) (st' := [qv (rQ S (v0 + 12) (((rI S v0 6) - (1 : Int32))).toNatClampNeg)]) (S1 := S) (nL := 1) (cd := cd_204) mx_204 rfl rfl rfl g2 g ?_
      rcases oqE h with ⟨e1, h⟩ | ⟨o3, eo3, h⟩
      · cases h
      rw [eo3]
      refine RR.runs (pc' := 34) (lc' := [(0, .ref v0)]) (st' := [.ref o3]) (S1 := S) (nL := 1) (cd := cd_204) mx_204 rfl rfl 1 rfl ?_
      refine RR.weak [] trivial ?_
      exact s_o_fo_last_34 _ _ h
  · refine RR.c_le (fun q => absurd q c) (fun _ => ?_)
    refine RR.weak [] trivial ?_
    exact s_o_fo_last_33 _ h
theorem s_o_fo_last {d : Nat} {S' : St} {r : (Option Nat)} (v0 : Nat) (S : St) (h : o_fo_last v0 S = some (r, S')) : RC KO (d + 0) 204 [.ref v0] S (some (qv r)) S' := RC.of rfl (s0_o_fo_last v0 S h)
-- NameOrchard$Formula drop ()V
def o_fo_drop_17 (S : St) : Re Unit :=
  some ((), S)
set_option maxRecDepth 100000 in
theorem s_o_fo_drop_17 {d : Nat} {S' : St} {r : Unit} (S : St) (h : o_fo_drop_17 S = some (r, S')) : RR KO (d + 0) 206 17 [] [] S none S' := by
  unfold o_fo_drop_17 at h
  cases h
  exact RR.retv mx_206 rfl rfl rfl
def o_fo_drop (v0 : Nat) (S : St) : Re Unit :=
  if KO.1 v0 = (0, 1) then (
  if 0 < (rI S v0 6) then (
        lt' (wI S v0 6 (((rI S v0 6) - (1 : Int32)))) fun S2 =>
    o_fo_drop_17 S2)
  else (
    o_fo_drop_17 S)) else none
set_option maxRecDepth 100000 in
theorem s0_o_fo_drop {d : Nat} {S' : St} {r : Unit} (v0 : Nat) (S : St) (h : o_fo_drop v0 S = some (r, S')) : RR KO (d + 0) 206 0 [(0, .ref v0)] [] S none S' := by
  unfold o_fo_drop at h
  refine RR.runs (pc' := 1) (lc' := [(0, .ref v0)]) (st' := [.ref v0]) (S1 := S) (nL := 1) (cd := cd_206) mx_206 rfl rfl 1 rfl ?_
  obtain ⟨g1, h⟩ := gpE h
  refine RR.gPo (pc' := 4) (lc' := [(0, .ref v0)]) (st' := [.int (rI S v0 6)]) (S1 := S) (nL := 1) (cd := cd_206) mx_206 rfl rfl rfl ⟨g1, by decide, by decide⟩ ?_
  refine RR.runs (pc' := icm .le (rI S v0 6) 0 17 7) (lc' := [(0, .ref v0)]) (st' := []) (S1 := S) (nL := 1) (cd := cd_206) mx_206 rfl rfl 1 rfl ?_
  rcases ifE h with ⟨c, h⟩ | ⟨c, h⟩
  · refine RR.c_le (fun _ => ?_) (fun q => absurd c q)
    refine RR.runs (pc' := 9) (lc' := [(0, .ref v0)]) (st' := [.ref v0, .ref v0]) (S1 := S) (nL := 1) (cd := cd_206) mx_206 rfl rfl 2 rfl ?_
    refine RR.gPo (pc' := 12) (lc' := [(0, .ref v0)]) (st' := [.int (rI S v0 6), .ref v0]) (S1 := S) (nL := 1) (cd := cd_206) mx_206 rfl rfl rfl ⟨g1, by decide, by decide⟩ ?_
    refine RR.runs (pc' := 14) (lc' := [(0, .ref v0)]) (st' := [.int (((rI S v0 6) - (1 : Int32))), .ref v0]) (S1 := S) (nL := 1) (cd := cd_206) mx_206 rfl rfl 2 rfl ?_
    refine RR.gP (pc' := 17) (lc' := [(0, .ref v0)]) (st' := []) (S1 := (wI S v0 6 (((rI S v0 6) - (1 : Int32))))) (nL := 1) (cd := cd_206) mx_206 rfl rfl rfl ⟨g1, by decide, rfl, by decide⟩ ?_
    obtain ⟨S2, eS2, h⟩ := ltE h
    rw [← eS2]
    refine RR.weak [] trivial ?_
    exact s_o_fo_drop_17 _ h
  · refine RR.c_le (fun q => absurd q c) (fun _ => ?_)
    refine RR.weak [] trivial ?_
    exact s_o_fo_drop_17 _ h
theorem s_o_fo_drop {d : Nat} {S' : St} {r : Unit} (v0 : Nat) (S : St) (h : o_fo_drop v0 S = some (r, S')) : RC KO (d + 0) 206 [.ref v0] S none S' := RC.of rfl (s0_o_fo_drop v0 S h)
-- NameOrchard$Formula releaseNots ()I
def o_fo_releaseNots_44 (v1 : Int32) (S : St) : Re Int32 :=
  some (v1, S)
set_option maxRecDepth 100000 in
theorem s_o_fo_releaseNots_44 {d : Nat} {S' : St} {r : Int32} (v1 : Int32) (S : St) (h : o_fo_releaseNots_44 v1 S = some (r, S')) : RR KO (d + 1) 209 44 [(1, .int v1)] [] S (some (.int r)) S' := by
  unfold o_fo_releaseNots_44 at h
  refine RR.runs (pc' := 45) (lc' := [(1, .int v1)]) (st' := [.int v1]) (S1 := S) (nL := 3) (cd := cd_209) mx_209 rfl rfl 1 rfl ?_
  cases h
  exact RR.reti mx_209 rfl rfl rfl
def o_fo_releaseNots_4 : Nat → Nat → Int32 → Int32 → St → Re Int32
  | 0, _, _, _, _ => none
  | n + 1, v0, v1, v2, S =>
  if KO.1 v0 = (0, 1) then (
  if 1 ≤ (KO.1 (v0 + 12)).1 ∧ (KO.1 (v0 + 12)).1 < 8 then (
  if v2 < (Int32.ofNat (KO.1 (v0 + 12)).2) then (
    bn (o_fo_last v0 S) fun r2 S3 =>
    oq r2 (
      o_fo_releaseNots_44 v1 S3) (fun o4 =>
      if ((KO.1 o4).1 < 8 ∨ (KO.1 o4).1 = 20) ∧ ((KO.1 1007).1 < 8 ∨ (KO.1 1007).1 = 20) then (
if o4 = 1007 then (
        bn (o_fo_add v0 1007 (0 : Int32) S3) fun r6 S7 =>
        bn (o_fo_drop v0 S7) fun r8 S9 =>
        lt' ((v1 + (1 : Int32)) : Int32) fun x10 =>
        lt' ((v2 + (1 : Int32)) : Int32) fun x11 =>
        o_fo_releaseNots_4 n v0 x10 x11 S9)
      else (
        o_fo_releaseNots_44 v1 S3)) else none))
  else (
    o_fo_releaseNots_44 v1 S)) else none) else none
set_option maxRecDepth 100000 in
theorem s_o_fo_releaseNots_4 {d : Nat} {S' : St} {r : Int32} : ∀ (n : Nat) (v0 : Nat) (v1 : Int32) (v2 : Int32) (S : St), o_fo_releaseNots_4 n v0 v1 v2 S = some (r, S') → RR KO (d + 1) 209 4 [(0, .ref v0), (1, .int v1), (2, .int v2)] [] S (some (.int r)) S' := by
  intro n
  induction n with
  | zero => intro v0 v1 v2 S h; simp only [o_fo_releaseNots_4] at h; cases h
  | succ n ih =>
    intro v0 v1 v2 S h
    simp only [o_fo_releaseNots_4] at h
    refine RR.runs (pc' := 6) (lc' := [(0, .ref v0), (1, .int v1), (2, .int v2)]) (st' := [.ref v0, .int v2]) (S1 := S) (nL := 3) (cd := cd_209) mx_209 rfl rfl 2 rfl ?_
    obtain ⟨g1, h⟩ := gpE h
    refine RR.gPo (pc' := 9) (lc' := [(0, .ref v0), (1, .int v1), (2, .int v2)]) (st' := [.ref (v0 + 12), .int v2]) (S1 := S) (nL := 3) (cd := cd_209) mx_209 rfl rfl rfl ⟨g1, by decide, by decide⟩ ?_
    obtain ⟨g, h⟩ := gpE h
    refine RR.gP (pc' := 10) (lc' := [(0, .ref v0), (1, .int v1), (2, .int v2)]) (st' := [.int ((Int32.ofNat (KO.1 (v0 + 12)).2)), .int v2]) (S1 := S) (nL := 3) (cd := cd_209) mx_209 rfl rfl rfl g ?_
    refine RR.runs (pc' := icm .ge v2 ((Int32.ofNat (KO.1 (v0 + 12)).2)) 44 13) (lc' := [(0, .ref v0), (1, .int v1), (2, .int v2)]) (st' := []) (S1 := S) (nL := 3) (cd := cd_209) mx_209 rfl rfl 1 rfl ?_
    rcases ifE h with ⟨c, h⟩ | ⟨c, h⟩
    · refine RR.c_ge (fun _ => ?_) (fun q => absurd c q)
      refine RR.runs (pc' := 14) (lc' := [(0, .ref v0), (1, .int v1), (2, .int v2)]) (st' := [.ref v0]) (S1 := S) (nL := 3) (cd := cd_209) mx_209 rfl rfl 1 rfl ?_
      obtain ⟨r2, S3, h1, h⟩ := bnE h
      refine RR.callV (b := v0) (as := []) (rest := []) (r1 := (some (qv r2))) (S1 := S3) mx_209 rfl rfl mx_204 rfl rfl (by decide) (Or.inl g1) (Nat.le_of_ble_eq_true rfl) (Nat.le_of_ble_eq_true rfl) (RC.deep (by omega) (s_o_fo_last (d := d) _ _ h1)) ?_
      show RR KO _ 209 17 [(0, .ref v0), (1, .int v1), (2, .int v2)] [qv r2] S3 _ _
      rcases oqE h with ⟨e1, h⟩ | ⟨o4, e1, h⟩
      · subst e1
        refine RR.runs (pc' := 44) (lc' := [(0, .ref v0), (1, .int v1), (2, .int v2)]) (st' := []) (S1 := S3) (nL := 3) (cd := cd_209) mx_209 rfl rfl 2 rfl ?_
        refine RR.weak [(1, .int v1)] ⟨rfl, trivial⟩ ?_
        exact s_o_fo_releaseNots_44 _ _ h
      · subst e1
        refine RR.runs (pc' := 20) (lc' := [(0, .ref v0), (1, .int v1), (2, .int v2)]) (st' := [.ref 1007, .ref o4]) (S1 := S3) (nL := 3) (cd := cd_209) mx_209 rfl rfl 1 rfl ?_
        obtain ⟨g5, h⟩ := gpE h
        refine RR.gP (pc' := acm .ne o4 1007 44 23) (lc' := [(0, .ref v0), (1, .int v1), (2, .int v2)]) (st' := []) (S1 := S3) (nL := 3) (cd := cd_209) mx_209 rfl rfl rfl g5 ?_
        rcases ifE h with ⟨c, h⟩ | ⟨c, h⟩
        · refine RR.a_ne (fun _ => ?_) (fun q => absurd c q)
          refine RR.runs (pc' := 28) (lc' := [(0, .ref v0), (1, .int v1), (2, .int v2)]) (st' := [.int (0 : Int32), .ref 1007, .ref v0]) (S1 := S3) (nL := 3) (cd := cd_209) mx_209 rfl rfl 3 rfl ?_
          obtain ⟨r6, S7, h1, h⟩ := bnE h
          refine RR.callV (b := v0) (as := [.ref 1007, .int (0 : Int32)]) (rest := []) (r1 := none) (S1 := S7) mx_209 rfl rfl mx_202 rfl rfl (by decide) (Or.inl g1) (Nat.le_of_ble_eq_true rfl) (Nat.le_of_ble_eq_true rfl) (RC.deep (by omega) (s_o_fo_add (d := d) _ _ _ _ h1)) ?_
          show RR KO _ 209 31 [(0, .ref v0), (1, .int v1), (2, .int v2)] [] S7 _ _
          refine RR.runs (pc' := 32) (lc' := [(0, .ref v0), (1, .int v1), (2, .int v2)]) (st' := [.ref v0]) (S1 := S7) (nL := 3) (cd := cd_209) mx_209 rfl rfl 1 rfl ?_
          obtain ⟨r8, S9, h1, h⟩ := bnE h
          refine RR.callV (b := v0) (as := []) (rest := []) (r1 := none) (S1 := S9) mx_209 rfl rfl mx_206 rfl rfl (by decide) (Or.inl g1) (Nat.le_of_ble_eq_true rfl) (Nat.le_of_ble_eq_true rfl) (RC.deep (by omega) (s_o_fo_drop (d := d) _ _ h1)) ?_
          show RR KO _ 209 35 [(0, .ref v0), (1, .int v1), (2, .int v2)] [] S9 _ _
          refine RR.runs (pc' := 38) (lc' := [(1, .int ((v1 + (1 : Int32)))), (0, .ref v0), (2, .int v2)]) (st' := []) (S1 := S9) (nL := 3) (cd := cd_209) mx_209 rfl rfl 1 rfl ?_
          obtain ⟨x10, ex10, h⟩ := ltE h
          rw [← ex10]
          refine RR.runs (pc' := 41) (lc' := [(2, .int ((v2 + (1 : Int32)))), (1, .int x10), (0, .ref v0)]) (st' := []) (S1 := S9) (nL := 3) (cd := cd_209) mx_209 rfl rfl 1 rfl ?_
          obtain ⟨x11, ex11, h⟩ := ltE h
          rw [← ex11]
          refine RR.runs (pc' := 4) (lc' := [(2, .int x11), (1, .int x10), (0, .ref v0)]) (st' := []) (S1 := S9) (nL := 3) (cd := cd_209) mx_209 rfl rfl 1 rfl ?_
          refine RR.weak [(0, .ref v0), (1, .int x10), (2, .int x11)] ⟨rfl, rfl, rfl, trivial⟩ ?_
          exact ih _ _ _ _ h
        · refine RR.a_ne (fun q => absurd q c) (fun _ => ?_)
          refine RR.weak [(1, .int v1)] ⟨rfl, trivial⟩ ?_
          exact s_o_fo_releaseNots_44 _ _ h
    · refine RR.c_ge (fun q => absurd q c) (fun _ => ?_)
      refine RR.weak [(1, .int v1)] ⟨rfl, trivial⟩ ?_
      exact s_o_fo_releaseNots_44 _ _ h
def o_fo_releaseNots (v0 : Nat) (S : St) : Re Int32 :=
  o_fo_releaseNots_4 FU v0 (0 : Int32) (0 : Int32) S
set_option maxRecDepth 100000 in
theorem s0_o_fo_releaseNots {d : Nat} {S' : St} {r : Int32} (v0 : Nat) (S : St) (h : o_fo_releaseNots v0 S = some (r, S')) : RR KO (d + 1) 209 0 [(0, .ref v0)] [] S (some (.int r)) S' := by
  unfold o_fo_releaseNots at h
  refine RR.runs (pc' := 4) (lc' := [(2, .int (0 : Int32)), (1, .int (0 : Int32)), (0, .ref v0)]) (st' := []) (S1 := S) (nL := 3) (cd := cd_209) mx_209 rfl rfl 4 rfl ?_
  refine RR.weak [(0, .ref v0), (1, .int (0 : Int32)), (2, .int (0 : Int32))] ⟨rfl, rfl, rfl, trivial⟩ ?_
  exact s_o_fo_releaseNots_4 _ _ _ _ _ h
theorem s_o_fo_releaseNots {d : Nat} {S' : St} {r : Int32} (v0 : Nat) (S : St) (h : o_fo_releaseNots v0 S = some (r, S')) : RC KO (d + 1) 209 [.ref v0] S (some (.int r)) S' := RC.of rfl (s0_o_fo_releaseNots v0 S h)
-- NameOrchard$Formula release (I)V
def o_fo_release_35 (S : St) : Re Unit :=
  some ((), S)
set_option maxRecDepth 100000 in
theorem s_o_fo_release_35 {d : Nat} {S' : St} {r : Unit} (S : St) (h : o_fo_release_35 S = some (r, S')) : RR KO (d + 1) 207 35 [] [] S none S' := by
  unfold o_fo_release_35 at h
  cases h
  exact RR.retv mx_207 rfl rfl rfl
def o_fo_release_52 (S : St) : Re Unit :=
  some ((), S)
set_option maxRecDepth 100000 in
theorem s_o_fo_release_52 {d : Nat} {S' : St} {r : Unit} (S : St) (h : o_fo_release_52 S = some (r, S')) : RR KO (d + 1) 207 52 [] [] S none S' := by
  unfold o_fo_release_52 at h
  cases h
  exact RR.retv mx_207 rfl rfl rfl
def o_fo_release_2 : Nat → Nat → Int32 → Int32 → St → Re Unit
  | 0, _, _, _, _ => none
  | n + 1, v0, v1, v2, S =>
  if KO.1 v0 = (0, 1) then (
  if 1 ≤ (KO.1 (v0 + 12)).1 ∧ (KO.1 (v0 + 12)).1 < 8 then (
  if v2 < (Int32.ofNat (KO.1 (v0 + 12)).2) then (
    bn (o_fo_last v0 S) fun r2 S3 =>
    oq r2 (
      o_fo_release_35 S3) (fun o4 =>
      if (KO.1 o4).1 = 20 then (
      if (tokIL.getD (KO.1 o4).2 0) < v1 then (
        o_fo_release_35 S3)
      else (
                if (tokIL.getD (KO.1 o4).2 0) = 0 then (
          o_fo_release_35 S3)
        else (
          bn (o_fo_add v0 o4 (0 : Int32) S3) fun r6 S7 =>
          bn (o_fo_drop v0 S7) fun r8 S9 =>
          lt' ((v2 + (1 : Int32)) : Int32) fun x10 =>
          o_fo_release_2 n v0 v1 x10 S9))) else none))
  else (
    o_fo_release_52 S)) else none) else none
set_option maxRecDepth 100000 in
theorem s_o_fo_release_2 {d : Nat} {S' : St} {r : Unit} : ∀ (n : Nat) (v0 : Nat) (v1 : Int32) (v2 : Int32) (S : St), o_fo_release_2 n v0 v1 v2 S = some (r, S') → RR KO (d + 1) 207 2 [(0, .ref v0), (1, .int v1), (2, .int v2)] [] S none S' := by
  intro n
  induction n with
  | zero => intro v0 v1 v2 S h; simp only [o_fo_release_2] at h; cases h
  | succ n ih =>
    intro v0 v1 v2 S h
    simp only [o_fo_release_2] at h
    refine RR.runs (pc' := 4) (lc' := [(0, .ref v0), (1, .int v1), (2, .int v2)]) (st' := [.ref v0, .int v2]) (S1 := S) (nL := 4) (cd := cd_207) mx_207 rfl rfl 2 rfl ?_
    obtain ⟨g1, h⟩ := gpE h
    refine RR.gPo (pc' := 7) (lc' := [(0, .ref v0), (1, .int v1), (2, .int v2)]) (st' := [.ref (v0 + 12), .int v2]) (S1 := S) (nL := 4) (cd := cd_207) mx_207 rfl rfl rfl ⟨g1, by decide, by decide⟩ ?_
    obtain ⟨g, h⟩ := gpE h
    refine RR.gP (pc' := 8) (lc' := [(0, .ref v0), (1, .int v1), (2, .int v2)]) (st' := [.int ((Int32.ofNat (KO.1 (v0 + 12)).2)), .int v2]) (S1 := S) (nL := 4) (cd := cd_207) mx_207 rfl rfl rfl g ?_
    refine RR.runs (pc' := icm .ge v2 ((Int32.ofNat (KO.1 (v0 + 12)).2)) 52 11) (lc' := [(0, .ref v0), (1, .int v1), (2, .int v2)]) (st' := []) (S1 := S) (nL := 4) (cd := cd_207) mx_207 rfl rfl 1 rfl ?_
    rcases ifE h with ⟨c, h⟩ | ⟨c, h⟩
    · refine RR.c_ge (fun _ => ?_) (fun q => absurd c q)
      refine RR.runs (pc' := 12) (lc' := [(0, .ref v0), (1, .int v1), (2, .int v2)]) (st' := [.ref v0]) (S1 := S) (nL := 4) (cd := cd_207) mx_207 rfl rfl 1 rfl ?_
      obtain ⟨r2, S3, h1, h⟩ := bnE h
      refine RR.callV (b := v0) (as := []) (rest := []) (r1 := (some (qv r2))) (S1 := S3) mx_207 rfl rfl mx_204 rfl rfl (by decide) (Or.inl g1) (Nat.le_of_ble_eq_true rfl) (Nat.le_of_ble_eq_true rfl) (RC.deep (by omega) (s_o_fo_last (d := d) _ _ h1)) ?_
      show RR KO _ 207 15 [(0, .ref v0), (1, .int v1), (2, .int v2)] [qv r2] S3 _ _
      rcases oqE h with ⟨e1, h⟩ | ⟨o4, e1, h⟩
      · subst e1
        refine RR.runs (pc' := 35) (lc' := [(3, .null), (0, .ref v0), (1, .int v1), (2, .int v2)]) (st' := []) (S1 := S3) (nL := 4) (cd := cd_207) mx_207 rfl rfl 3 rfl ?_
        refine RR.weak [] trivial ?_
        exact s_o_fo_release_35 _ h
      · subst e1
        refine RR.runs (pc' := 21) (lc' := [(3, .ref o4), (0, .ref v0), (1, .int v1), (2, .int v2)]) (st' := [.ref o4]) (S1 := S3) (nL := 4) (cd := cd_207) mx_207 rfl rfl 4 rfl ?_
        obtain ⟨g5, h⟩ := gpE h
        refine RR.gNP (pc' := 24) (lc' := [(3, .ref o4), (0, .ref v0), (1, .int v1), (2, .int v2)]) (st' := [.int ((tokIL.getD (KO.1 o4).2 0))]) (S1 := S3) (nL := 4) (cd := cd_207) mx_207 rfl rfl rfl (fun q => absurd (q.1 ▸ g5 : ((0, 9) : Nat × Nat).1 = 20) (by decide)) ⟨g5, by decide, rfl, by decide, by decide⟩ ?_
        refine RR.runs (pc' := icm .lt ((tokIL.getD (KO.1 o4).2 0)) v1 35 28) (lc' := [(3, .ref o4), (0, .ref v0), (1, .int v1), (2, .int v2)]) (st' := []) (S1 := S3) (nL := 4) (cd := cd_207) mx_207 rfl rfl 2 rfl ?_
        rcases ifE h with ⟨c, h⟩ | ⟨c, h⟩
        · refine RR.c_lt (fun _ => ?_) (fun q => absurd c q)
          refine RR.weak [] trivial ?_
          exact s_o_fo_release_35 _ h
        · refine RR.c_lt (fun q => absurd q c) (fun _ => ?_)
          refine RR.runs (pc' := 29) (lc' := [(3, .ref o4), (0, .ref v0), (1, .int v1), (2, .int v2)]) (st' := [.ref o4]) (S1 := S3) (nL := 4) (cd := cd_207) mx_207 rfl rfl 1 rfl ?_
          refine RR.gNP (pc' := 32) (lc' := [(3, .ref o4), (0, .ref v0), (1, .int v1), (2, .int v2)]) (st' := [.int ((tokIL.getD (KO.1 o4).2 0))]) (S1 := S3) (nL := 4) (cd := cd_207) mx_207 rfl rfl rfl (fun q => absurd (q.1 ▸ g5 : ((0, 9) : Nat × Nat).1 = 20) (by decide)) ⟨g5, by decide, rfl, by decide, by decide⟩ ?_
          refine RR.runs (pc' := icm .ne ((tokIL.getD (KO.1 o4).2 0)) 0 36 35) (lc' := [(3, .ref o4), (0, .ref v0), (1, .int v1), (2, .int v2)]) (st' := []) (S1 := S3) (nL := 4) (cd := cd_207) mx_207 rfl rfl 1 rfl ?_
          rcases ifE h with ⟨c, h⟩ | ⟨c, h⟩
          · refine RR.c_ne (fun _ => ?_) (fun q => absurd c q)
            refine RR.weak [] trivial ?_
            exact s_o_fo_release_35 _ h
          · refine RR.c_ne (fun q => absurd q c) (fun _ => ?_)
            refine RR.runs (pc' := 39) (lc' := [(3, .ref o4), (0, .ref v0), (1, .int v1), (2, .int v2)]) (st' := [.int (0 : Int32), .ref o4, .ref v0]) (S1 := S3) (nL := 4) (cd := cd_207) mx_207 rfl rfl 3 rfl ?_
            obtain ⟨r6, S7, h1, h⟩ := bnE h
            refine RR.callV (b := v0) (as := [.ref o4, .int (0 : Int32)]) (rest := []) (r1 := none) (S1 := S7) mx_207 rfl rfl mx_202 rfl rfl (by decide) (Or.inl g1) (Nat.le_of_ble_eq_true rfl) (Nat.le_of_ble_eq_true rfl) (RC.deep (by omega) (s_o_fo_add (d := d) _ _ _ _ h1)) ?_
            show RR KO _ 207 42 [(3, .ref o4), (0, .ref v0), (1, .int v1), (2, .int v2)] [] S7 _ _
            refine RR.runs (pc' := 43) (lc' := [(3, .ref o4), (0, .ref v0), (1, .int v1), (2, .int v2)]) (st' := [.ref v0]) (S1 := S7) (nL := 4) (cd := cd_207) mx_207 rfl rfl 1 rfl ?_
            obtain ⟨r8, S9, h1, h⟩ := bnE h
            refine RR.callV (b := v0) (as := []) (rest := []) (r1 := none) (S1 := S9) mx_207 rfl rfl mx_206 rfl rfl (by decide) (Or.inl g1) (Nat.le_of_ble_eq_true rfl) (Nat.le_of_ble_eq_true rfl) (RC.deep (by omega) (s_o_fo_drop (d := d) _ _ h1)) ?_
            show RR KO _ 207 46 [(3, .ref o4), (0, .ref v0), (1, .int v1), (2, .int v2)] [] S9 _ _
            refine RR.runs (pc' := 49) (lc' := [(2, .int ((v2 + (1 : Int32)))), (3, .ref o4), (0, .ref v0), (1, .int v1)]) (st' := []) (S1 := S9) (nL := 4) (cd := cd_207) mx_207 rfl rfl 1 rfl ?_
            obtain ⟨x10, ex10, h⟩ := ltE h
            rw [← ex10]
            refine RR.runs (pc' := 2) (lc' := [(2, .int x10), (3, .ref o4), (0, .ref v0), (1, .int v1)]) (st' := []) (S1 := S9) (nL := 4) (cd := cd_207) mx_207 rfl rfl 1 rfl ?_
            refine RR.weak [(0, .ref v0), (1, .int v1), (2, .int x10)] ⟨rfl, rfl, rfl, trivial⟩ ?_
            exact ih _ _ _ _ h
    · refine RR.c_ge (fun q => absurd q c) (fun _ => ?_)
      refine RR.weak [] trivial ?_
      exact s_o_fo_release_52 _ h
def o_fo_release (v0 : Nat) (v1 : Int32) (S : St) : Re Unit :=
  o_fo_release_2 FU v0 v1 (0 : Int32) S
set_option maxRecDepth 100000 in
theorem s0_o_fo_release {d : Nat} {S' : St} {r : Unit} (v0 : Nat) (v1 : Int32) (S : St) (h : o_fo_release v0 v1 S = some (r, S')) : RR KO (d + 1) 207 0 [(0, .ref v0), (1, .int v1)] [] S none S' := by
  unfold o_fo_release at h
  refine RR.runs (pc' := 2) (lc' := [(2, .int (0 : Int32)), (0, .ref v0), (1, .int v1)]) (st' := []) (S1 := S) (nL := 4) (cd := cd_207) mx_207 rfl rfl 2 rfl ?_
  refine RR.weak [(0, .ref v0), (1, .int v1), (2, .int (0 : Int32))] ⟨rfl, rfl, rfl, trivial⟩ ?_
  exact s_o_fo_release_2 _ _ _ _ _ h
theorem s_o_fo_release {d : Nat} {S' : St} {r : Unit} (v0 : Nat) (v1 : Int32) (S : St) (h : o_fo_release v0 v1 S = some (r, S')) : RC KO (d + 1) 207 [.ref v0, .int v1] S none S' := RC.of rfl (s0_o_fo_release v0 v1 S h)
-- NameOrchard$Formula releaseBefore (LNameOrchard$Token;)Z
def o_fo_releaseBefore_56 (p0 : Int32) (S : St) : Re Int32 :=
  if isBo p0 = true then some (p0, S) else none
set_option maxRecDepth 100000 in
theorem s_o_fo_releaseBefore_56 {d : Nat} {S' : St} {r : Int32} (p0 : Int32) (S : St) (h : o_fo_releaseBefore_56 p0 S = some (r, S')) : RR KO (d + 2) 208 56 [] [.int p0] S (some (.int r)) S' := by
  unfold o_fo_releaseBefore_56 at h
  obtain ⟨g, h⟩ := gpE h
  cases h
  exact RR.retz mx_208 rfl rfl rfl g
def o_fo_releaseBefore_51 (S : St) : Re Int32 :=
  o_fo_releaseBefore_56 (1 : Int32) S
set_option maxRecDepth 100000 in
theorem s_o_fo_releaseBefore_51 {d : Nat} {S' : St} {r : Int32} (S : St) (h : o_fo_releaseBefore_51 S = some (r, S')) : RR KO (d + 2) 208 51 [] [] S (some (.int r)) S' := by
  unfold o_fo_releaseBefore_51 at h
  refine RR.runs (pc' := 56) (lc' := []) (st' := [.int (1 : Int32)]) (S1 := S) (nL := 4) (cd := cd_208) mx_208 rfl rfl 2 rfl ?_
  refine RR.weak [] trivial ?_
  exact s_o_fo_releaseBefore_56 _ _ h
def o_fo_releaseBefore_27 (v0 : Nat) (v2 : Int32) (p0 : Int32) (p1 : Nat) (S : St) : Re Int32 :=
  if KO.1 p1 = (0, 1) then (
bn (o_fo_release p1 p0 S) fun r2 S3 =>
  if KO.1 v0 = (0, 1) then (
bn (o_fo_last v0 S3) fun r5 S6 =>
  oq r5 (
    if v2 = 0 then (
      o_fo_releaseBefore_51 S6)
    else (
      o_fo_releaseBefore_51 S6)) (fun o7 =>
    if v2 = 0 then (
      o_fo_releaseBefore_51 S6)
    else (
      if (KO.1 o7).1 = 20 then (
      if (tokIL.getD (KO.1 o7).2 0) = (2 : Int32) then (
        o_fo_releaseBefore_56 (0 : Int32) S6)
      else (
        o_fo_releaseBefore_51 S6)) else none))) else none) else none
set_option maxRecDepth 100000 in
theorem s_o_fo_releaseBefore_27 {d : Nat} {S' : St} {r : Int32} (v0 : Nat) (v2 : Int32) (p0 : Int32) (p1 : Nat) (S : St) (h : o_fo_releaseBefore_27 v0 v2 p0 p1 S = some (r, S')) : RR KO (d + 2) 208 27 [(0, .ref v0), (2, .int v2)] [.int p0, .ref p1] S (some (.int r)) S' := by
  unfold o_fo_releaseBefore_27 at h
  obtain ⟨g1, h⟩ := gpE h
  obtain ⟨r2, S3, h1, h⟩ := bnE h
  refine RR.callV (b := p1) (as := [.int p0]) (rest := []) (r1 := none) (S1 := S3) mx_208 rfl rfl mx_207 rfl rfl (by decide) (Or.inl g1) (Nat.le_of_ble_eq_true rfl) (Nat.le_of_ble_eq_true rfl) (RC.deep (by omega) (s_o_fo_release (d := d) _ _ _ h1)) ?_
  show RR KO _ 208 30 [(0, .ref v0), (2, .int v2)] [] S3 _ _
  refine RR.runs (pc' := 31) (lc' := [(0, .ref v0), (2, .int v2)]) (st' := [.ref v0]) (S1 := S3) (nL := 4) (cd := cd_208) mx_208 rfl rfl 1 rfl ?_
  obtain ⟨g4, h⟩ := gpE h
  obtain ⟨r5, S6, h1, h⟩ := bnE h
  refine RR.callV (b := v0) (as := []) (rest := []) (r1 := (some (qv r5))) (S1 := S6) mx_208 rfl rfl mx_204 rfl rfl (by decide) (Or.inl g4) (Nat.le_of_ble_eq_true rfl) (Nat.le_of_ble_eq_true rfl) (RC.deep (by omega) (s_o_fo_last (d := d) _ _ h1)) ?_
  show RR KO _ 208 34 [(0, .ref v0), (2, .int v2)] [qv r5] S6 _ _
  rcases oqE h with ⟨e1, h⟩ | ⟨o7, e1, h⟩
  · subst e1
    refine RR.runs (pc' := icm .eq v2 0 51 39) (lc' := [(3, .null), (0, .ref v0), (2, .int v2)]) (st' := []) (S1 := S6) (nL := 4) (cd := cd_208) mx_208 rfl rfl 3 rfl ?_
    rcases ifE h with ⟨c, h⟩ | ⟨c, h⟩
    · refine RR.c_eq (fun _ => ?_) (fun q => absurd c q)
      refine RR.weak [] trivial ?_
      exact s_o_fo_releaseBefore_51 _ h
    · refine RR.c_eq (fun q => absurd q c) (fun _ => ?_)
      refine RR.runs (pc' := 51) (lc' := [(3, .null), (0, .ref v0), (2, .int v2)]) (st' := []) (S1 := S6) (nL := 4) (cd := cd_208) mx_208 rfl rfl 2 rfl ?_
      refine RR.weak [] trivial ?_
      exact s_o_fo_releaseBefore_51 _ h
  · subst e1
    refine RR.runs (pc' := icm .eq v2 0 51 39) (lc' := [(3, .ref o7), (0, .ref v0), (2, .int v2)]) (st' := []) (S1 := S6) (nL := 4) (cd := cd_208) mx_208 rfl rfl 3 rfl ?_
    rcases ifE h with ⟨c, h⟩ | ⟨c, h⟩
    · refine RR.c_eq (fun _ => ?_) (fun q => absurd c q)
      refine RR.weak [] trivial ?_
      exact s_o_fo_releaseBefore_51 _ h
    · refine RR.c_eq (fun q => absurd q c) (fun _ => ?_)
      refine RR.runs (pc' := 44) (lc' := [(3, .ref o7), (0, .ref v0), (2, .int v2)]) (st' := [.ref o7]) (S1 := S6) (nL := 4) (cd := cd_208) mx_208 rfl rfl 3 rfl ?_
      obtain ⟨g8, h⟩ := gpE h
      refine RR.gNP (pc' := 47) (lc' := [(3, .ref o7), (0, .ref v0), (2, .int v2)]) (st' := [.int ((tokIL.getD (KO.1 o7).2 0))]) (S1 := S6) (nL := 4) (cd := cd_208) mx_208 rfl rfl rfl (fun q => absurd (q.1 ▸ g8 : ((0, 9) : Nat × Nat).1 = 20) (by decide)) ⟨g8, by decide, rfl, by decide, by decide⟩ ?_
      refine RR.runs (pc' := icm .eq ((tokIL.getD (KO.1 o7).2 0)) (2 : Int32) 55 51) (lc' := [(3, .ref o7), (0, .ref v0), (2, .int v2)]) (st' := []) (S1 := S6) (nL := 4) (cd := cd_208) mx_208 rfl rfl 2 rfl ?_
      rcases ifE h with ⟨c, h⟩ | ⟨c, h⟩
      · refine RR.c_eq (fun _ => ?_) (fun q => absurd c q)
        refine RR.runs (pc' := 56) (lc' := [(3, .ref o7), (0, .ref v0), (2, .int v2)]) (st' := [.int (0 : Int32)]) (S1 := S6) (nL := 4) (cd := cd_208) mx_208 rfl rfl 1 rfl ?_
        refine RR.weak [] trivial ?_
        exact s_o_fo_releaseBefore_56 _ _ h
      · refine RR.c_eq (fun q => absurd q c) (fun _ => ?_)
        refine RR.weak [] trivial ?_
        exact s_o_fo_releaseBefore_51 _ h
def o_fo_releaseBefore_13 (v0 : Nat) (v1 : Nat) (p0 : Int32) (S : St) : Re Int32 :=
  if p0 = 0 then (
    if (KO.1 v1).1 = 20 then (
    o_fo_releaseBefore_27 v0 p0 ((tokIL.getD (KO.1 v1).2 0)) v0 S) else none)
  else (
    o_fo_releaseBefore_27 v0 p0 (3 : Int32) v0 S)
set_option maxRecDepth 100000 in
theorem s_o_fo_releaseBefore_13 {d : Nat} {S' : St} {r : Int32} (v0 : Nat) (v1 : Nat) (p0 : Int32) (S : St) (h : o_fo_releaseBefore_13 v0 v1 p0 S = some (r, S')) : RR KO (d + 2) 208 13 [(0, .ref v0), (1, .ref v1)] [.int p0] S (some (.int r)) S' := by
  unfold o_fo_releaseBefore_13 at h
  refine RR.runs (pc' := icm .eq p0 0 23 19) (lc' := [(2, .int p0), (0, .ref v0), (1, .ref v1)]) (st' := [.ref v0]) (S1 := S) (nL := 4) (cd := cd_208) mx_208 rfl rfl 4 rfl ?_
  rcases ifE h with ⟨c, h⟩ | ⟨c, h⟩
  · refine RR.c_eq (fun _ => ?_) (fun q => absurd c q)
    refine RR.runs (pc' := 24) (lc' := [(2, .int p0), (0, .ref v0), (1, .ref v1)]) (st' := [.ref v1, .ref v0]) (S1 := S) (nL := 4) (cd := cd_208) mx_208 rfl rfl 1 rfl ?_
    obtain ⟨g1, h⟩ := gpE h
    refine RR.gNP (pc' := 27) (lc' := [(2, .int p0), (0, .ref v0), (1, .ref v1)]) (st' := [.int ((tokIL.getD (KO.1 v1).2 0)), .ref v0]) (S1 := S) (nL := 4) (cd := cd_208) mx_208 rfl rfl rfl (fun q => absurd (q.1 ▸ g1 : ((0, 9) : Nat × Nat).1 = 20) (by decide)) ⟨g1, by decide, rfl, by decide, by decide⟩ ?_
    refine RR.weak [(0, .ref v0), (2, .int p0)] ⟨rfl, rfl, trivial⟩ ?_
    exact s_o_fo_releaseBefore_27 _ _ _ _ _ h
  · refine RR.c_eq (fun q => absurd q c) (fun _ => ?_)
    refine RR.runs (pc' := 27) (lc' := [(2, .int p0), (0, .ref v0), (1, .ref v1)]) (st' := [.int (3 : Int32), .ref v0]) (S1 := S) (nL := 4) (cd := cd_208) mx_208 rfl rfl 2 rfl ?_
    refine RR.weak [(0, .ref v0), (2, .int p0)] ⟨rfl, rfl, trivial⟩ ?_
    exact s_o_fo_releaseBefore_27 _ _ _ _ _ h
def o_fo_releaseBefore (v0 : Nat) (v1 : Nat) (S : St) : Re Int32 :=
  if (KO.1 v1).1 = 20 then (
  if (tokIL.getD (KO.1 v1).2 0) = (2 : Int32) then (
    o_fo_releaseBefore_13 v0 v1 (1 : Int32) S)
  else (
    o_fo_releaseBefore_13 v0 v1 (0 : Int32) S)) else none
set_option maxRecDepth 100000 in
theorem s0_o_fo_releaseBefore {d : Nat} {S' : St} {r : Int32} (v0 : Nat) (v1 : Nat) (S : St) (h : o_fo_releaseBefore v0 v1 S = some (r, S')) : RR KO (d + 2) 208 0 [(0, .ref v0), (1, .ref v1)] [] S (some (.int r)) S' := by
  unfold o_fo_releaseBefore at h
  refine RR.runs (pc' := 1) (lc' := [(0, .ref v0), (1, .ref v1)]) (st' := [.ref v1]) (S1 := S) (nL := 4) (cd := cd_208) mx_208 rfl rfl 1 rfl ?_
  obtain ⟨g1, h⟩ := gpE h
  refine RR.gNP (pc' := 4) (lc' := [(0, .ref v0), (1, .ref v1)]) (st' := [.int ((tokIL.getD (KO.1 v1).2 0))]) (S1 := S) (nL := 4) (cd := cd_208) mx_208 rfl rfl rfl (fun q => absurd (q.1 ▸ g1 : ((0, 9) : Nat × Nat).1 = 20) (by decide)) ⟨g1, by decide, rfl, by decide, by decide⟩ ?_
  refine RR.runs (pc' := icm .ne ((tokIL.getD (KO.1 v1).2 0)) (2 : Int32) 12 8) (lc' := [(0, .ref v0), (1, .ref v1)]) (st' := []) (S1 := S) (nL := 4) (cd := cd_208) mx_208 rfl rfl 2 rfl ?_
  rcases ifE h with ⟨c, h⟩ | ⟨c, h⟩
  · refine RR.c_ne (fun _ => ?_) (fun q => absurd c q)
    refine RR.runs (pc' := 13) (lc' := [(0, .ref v0), (1, .ref v1)]) (st' := [.int (1 : Int32)]) (S1 := S) (nL := 4) (cd := cd_208) mx_208 rfl rfl 2 rfl ?_
    refine RR.weak [(0, .ref v0), (1, .ref v1)] ⟨rfl, rfl, trivial⟩ ?_
    exact s_o_fo_releaseBefore_13 _ _ _ _ h
  · refine RR.c_ne (fun q => absurd q c) (fun _ => ?_)
    refine RR.runs (pc' := 13) (lc' := [(0, .ref v0), (1, .ref v1)]) (st' := [.int (0 : Int32)]) (S1 := S) (nL := 4) (cd := cd_208) mx_208 rfl rfl 1 rfl ?_
    refine RR.weak [(0, .ref v0), (1, .ref v1)] ⟨rfl, rfl, trivial⟩ ?_
    exact s_o_fo_releaseBefore_13 _ _ _ _ h
theorem s_o_fo_releaseBefore {d : Nat} {S' : St} {r : Int32} (v0 : Nat) (v1 : Nat) (S : St) (h : o_fo_releaseBefore v0 v1 S = some (r, S')) : RC KO (d + 2) 208 [.ref v0, .ref v1] S (some (.int r)) S' := RC.of rfl (s0_o_fo_releaseBefore v0 v1 S h)
-- NameOrchard$Tape signAt (I)I
def o_tp_signAt_31 (p0 : Int32) (S : St) : Re Int32 :=
  some (p0, S)
set_option maxRecDepth 100000 in
theorem s_o_tp_signAt_31 {d : Nat} {S' : St} {r : Int32} (p0 : Int32) (S : St) (h : o_tp_signAt_31 p0 S = some (r, S')) : RR KO (d + 0) 1608 31 [] [.int p0] S (some (.int r)) S' := by
  unfold o_tp_signAt_31 at h
  cases h
  exact RR.reti mx_1608 rfl rfl rfl
def o_tp_signAt_30 (S : St) : Re Int32 :=
  o_tp_signAt_31 (0 : Int32) S
set_option maxRecDepth 100000 in
theorem s_o_tp_signAt_30 {d : Nat} {S' : St} {r : Int32} (S : St) (h : o_tp_signAt_30 S = some (r, S')) : RR KO (d + 0) 1608 30 [] [] S (some (.int r)) S' := by
  unfold o_tp_signAt_30 at h
  refine RR.runs (pc' := 31) (lc' := []) (st' := [.int (0 : Int32)]) (S1 := S) (nL := 2) (cd := cd_1608) mx_1608 rfl rfl 1 rfl ?_
  refine RR.weak [] trivial ?_
  exact s_o_tp_signAt_31 _ _ h
def o_tp_signAt (v1 : Int32) (S : St) : Re Int32 :=
  if v1 < 0 then (
    o_tp_signAt_30 S)
  else (
    if v1 < (rI S 3 1) then (
      if v1 < (1000 : Int32) then (
        if v1 < 0 ∨ 1000 ≤ v1.toNatClampNeg then none else
        o_tp_signAt_31 (rI S 4 v1.toNatClampNeg) S)
      else (
        o_tp_signAt_30 S))
    else (
      o_tp_signAt_30 S))
set_option maxRecDepth 100000 in
theorem s0_o_tp_signAt {d : Nat} {S' : St} {r : Int32} (v1 : Int32) (S : St) (h : o_tp_signAt v1 S = some (r, S')) : RR KO (d + 0) 1608 0 [(0, .ref 3), (1, .int v1)] [] S (some (.int r)) S' := by
  unfold o_tp_signAt at h
  refine RR.runs (pc' := icm .lt v1 0 30 4) (lc' := [(0, .ref 3), (1, .int v1)]) (st' := []) (S1 := S) (nL := 2) (cd := cd_1608) mx_1608 rfl rfl 2 rfl ?_
  rcases ifE h with ⟨c, h⟩ | ⟨c, h⟩
  · refine RR.c_lt (fun _ => ?_) (fun q => absurd c q)
    refine RR.weak [] trivial ?_
    exact s_o_tp_signAt_30 _ h
  · refine RR.c_lt (fun q => absurd q c) (fun _ => ?_)
    refine RR.runs (pc' := icm .ge v1 (rI S 3 1) 30 12) (lc' := [(0, .ref 3), (1, .int v1)]) (st' := []) (S1 := S) (nL := 2) (cd := cd_1608) mx_1608 rfl rfl 4 rfl ?_
    rcases ifE h with ⟨c, h⟩ | ⟨c, h⟩
    · refine RR.c_ge (fun _ => ?_) (fun q => absurd c q)
      refine RR.runs (pc' := icm .ge v1 (1000 : Int32) 30 21) (lc' := [(0, .ref 3), (1, .int v1)]) (st' := []) (S1 := S) (nL := 2) (cd := cd_1608) mx_1608 rfl rfl 5 rfl ?_
      rcases ifE h with ⟨c, h⟩ | ⟨c, h⟩
      · refine RR.c_ge (fun _ => ?_) (fun q => absurd c q)
        refine RR.runs (pc' := 26) (lc' := [(0, .ref 3), (1, .int v1)]) (st' := [.int v1, .ref 4]) (S1 := S) (nL := 2) (cd := cd_1608) mx_1608 rfl rfl 3 rfl ?_
        obtain ⟨g, h⟩ := gnE h
        refine RR.gPN (c2 := (KO.1 4).1 = 2) (pc' := 27) (lc' := [(0, .ref 3), (1, .int v1)]) (st' := [.int (rI S 4 v1.toNatClampNeg)]) (S1 := S) (nL := 2) (cd := cd_1608) mx_1608 rfl rfl rfl rfl g ?_
        refine RR.runs (pc' := 31) (lc' := [(0, .ref 3), (1, .int v1)]) (st' := [.int (rI S 4 v1.toNatClampNeg)]) (S1 := S) (nL := 2) (cd := cd_1608) mx_1608 rfl rfl 1 rfl ?_
        refine RR.weak [] trivial ?_
        exact s_o_tp_signAt_31 _ _ h
      · refine RR.c_ge (fun q => absurd q c) (fun _ => ?_)
        refine RR.weak [] trivial ?_
        exact s_o_tp_signAt_30 _ h
    · refine RR.c_ge (fun q => absurd q c) (fun _ => ?_)
      refine RR.weak [] trivial ?_
      exact s_o_tp_signAt_30 _ h
theorem s_o_tp_signAt {d : Nat} {S' : St} {r : Int32} (v1 : Int32) (S : St) (h : o_tp_signAt v1 S = some (r, S')) : RC KO (d + 0) 1608 [.ref 3, .int v1] S (some (.int r)) S' := RC.of rfl (s0_o_tp_signAt v1 S h)
-- NameOrchard$Tape isLetter (I)Z
def o_tp_isLetter_17 (p0 : Int32) (S : St) : Re Int32 :=
  if isBo p0 = true then some (p0, S) else none
set_option maxRecDepth 100000 in
theorem s_o_tp_isLetter_17 {d : Nat} {S' : St} {r : Int32} (p0 : Int32) (S : St) (h : o_tp_isLetter_17 p0 S = some (r, S')) : RR KO (d + 0) 1609 17 [] [.int p0] S (some (.int r)) S' := by
  unfold o_tp_isLetter_17 at h
  obtain ⟨g, h⟩ := gpE h
  cases h
  exact RR.retz mx_1609 rfl rfl rfl g
def o_tp_isLetter_16 (S : St) : Re Int32 :=
  o_tp_isLetter_17 (0 : Int32) S
set_option maxRecDepth 100000 in
theorem s_o_tp_isLetter_16 {d : Nat} {S' : St} {r : Int32} (S : St) (h : o_tp_isLetter_16 S = some (r, S')) : RR KO (d + 0) 1609 16 [] [] S (some (.int r)) S' := by
  unfold o_tp_isLetter_16 at h
  refine RR.runs (pc' := 17) (lc' := []) (st' := [.int (0 : Int32)]) (S1 := S) (nL := 1) (cd := cd_1609) mx_1609 rfl rfl 1 rfl ?_
  refine RR.weak [] trivial ?_
  exact s_o_tp_isLetter_17 _ _ h
def o_tp_isLetter (v0 : Int32) (S : St) : Re Int32 :=
  if v0 < (97 : Int32) then (
    o_tp_isLetter_16 S)
  else (
    if (122 : Int32) < v0 then (
      o_tp_isLetter_16 S)
    else (
      o_tp_isLetter_17 (1 : Int32) S))
set_option maxRecDepth 100000 in
theorem s0_o_tp_isLetter {d : Nat} {S' : St} {r : Int32} (v0 : Int32) (S : St) (h : o_tp_isLetter v0 S = some (r, S')) : RR KO (d + 0) 1609 0 [(0, .int v0)] [] S (some (.int r)) S' := by
  unfold o_tp_isLetter at h
  refine RR.runs (pc' := icm .lt v0 (97 : Int32) 16 6) (lc' := [(0, .int v0)]) (st' := []) (S1 := S) (nL := 1) (cd := cd_1609) mx_1609 rfl rfl 3 rfl ?_
  rcases ifE h with ⟨c, h⟩ | ⟨c, h⟩
  · refine RR.c_lt (fun _ => ?_) (fun q => absurd c q)
    refine RR.weak [] trivial ?_
    exact s_o_tp_isLetter_16 _ h
  · refine RR.c_lt (fun q => absurd q c) (fun _ => ?_)
    refine RR.runs (pc' := icm .gt v0 (122 : Int32) 16 12) (lc' := [(0, .int v0)]) (st' := []) (S1 := S) (nL := 1) (cd := cd_1609) mx_1609 rfl rfl 3 rfl ?_
    rcases ifE h with ⟨c, h⟩ | ⟨c, h⟩
    · refine RR.c_gt (fun _ => ?_) (fun q => absurd c q)
      refine RR.weak [] trivial ?_
      exact s_o_tp_isLetter_16 _ h
    · refine RR.c_gt (fun q => absurd q c) (fun _ => ?_)
      refine RR.runs (pc' := 17) (lc' := [(0, .int v0)]) (st' := [.int (1 : Int32)]) (S1 := S) (nL := 1) (cd := cd_1609) mx_1609 rfl rfl 2 rfl ?_
      refine RR.weak [] trivial ?_
      exact s_o_tp_isLetter_17 _ _ h
theorem s_o_tp_isLetter {d : Nat} {S' : St} {r : Int32} (v0 : Int32) (S : St) (h : o_tp_isLetter v0 S = some (r, S')) : RC KO (d + 0) 1609 [.int v0] S (some (.int r)) S' := RC.of rfl (s0_o_tp_isLetter v0 S h)
-- NameOrchard$Names packed (JI)J
def o_na_packed_25 (p0 : Int32) (p1 : Int64) (S : St) : Re Int64 :=
  some ((p1 ||| p0.toInt64), S)
set_option maxRecDepth 100000 in
theorem s_o_na_packed_25 {d : Nat} {S' : St} {r : Int64} (p0 : Int32) (p1 : Int64) (S : St) (h : o_na_packed_25 p0 p1 S = some (r, S')) : RR KO (d + 0) 401 25 [] [.int p0, .long p1] S (some (.long r)) S' := by
  unfold o_na_packed_25 at h
  refine RR.runs (pc' := 27) (lc' := []) (st' := [.long (p1 ||| p0.toInt64)]) (S1 := S) (nL := 3) (cd := cd_401) mx_401 rfl rfl 2 rfl ?_
  cases h
  exact RR.retl mx_401 rfl rfl rfl
def o_na_packed_24 (p0 : Int64) (S : St) : Re Int64 :=
  o_na_packed_25 (0 : Int32) p0 S
set_option maxRecDepth 100000 in
theorem s_o_na_packed_24 {d : Nat} {S' : St} {r : Int64} (p0 : Int64) (S : St) (h : o_na_packed_24 p0 S = some (r, S')) : RR KO (d + 0) 401 24 [] [.long p0] S (some (.long r)) S' := by
  unfold o_na_packed_24 at h
  refine RR.runs (pc' := 25) (lc' := []) (st' := [.int (0 : Int32), .long p0]) (S1 := S) (nL := 3) (cd := cd_401) mx_401 rfl rfl 1 rfl ?_
  refine RR.weak [] trivial ?_
  exact s_o_na_packed_25 _ _ _ h
def o_na_packed (v0 : Int64) (v2 : Int32) (S : St) : Re Int64 :=
  if v2 < (97 : Int32) then (
    o_na_packed_24 ((v0 <<< ((5 : Int32).toInt64 &&& 63))) S)
  else (
    if (122 : Int32) < v2 then (
      o_na_packed_24 ((v0 <<< ((5 : Int32).toInt64 &&& 63))) S)
    else (
      o_na_packed_25 (((v2 - (97 : Int32)) + (1 : Int32))) ((v0 <<< ((5 : Int32).toInt64 &&& 63))) S))
set_option maxRecDepth 100000 in
theorem s0_o_na_packed {d : Nat} {S' : St} {r : Int64} (v0 : Int64) (v2 : Int32) (S : St) (h : o_na_packed v0 v2 S = some (r, S')) : RR KO (d + 0) 401 0 [(0, .long v0), (2, .int v2)] [] S (some (.long r)) S' := by
  unfold o_na_packed at h
  refine RR.runs (pc' := icm .lt v2 (97 : Int32) 24 9) (lc' := [(0, .long v0), (2, .int v2)]) (st' := [.long ((v0 <<< ((5 : Int32).toInt64 &&& 63)))]) (S1 := S) (nL := 3) (cd := cd_401) mx_401 rfl rfl 6 rfl ?_
  rcases ifE h with ⟨c, h⟩ | ⟨c, h⟩
  · refine RR.c_lt (fun _ => ?_) (fun q => absurd c q)
    refine RR.weak [] trivial ?_
    exact s_o_na_packed_24 _ _ h
  · refine RR.c_lt (fun q => absurd q c) (fun _ => ?_)
    refine RR.runs (pc' := icm .gt v2 (122 : Int32) 24 15) (lc' := [(0, .long v0), (2, .int v2)]) (st' := [.long ((v0 <<< ((5 : Int32).toInt64 &&& 63)))]) (S1 := S) (nL := 3) (cd := cd_401) mx_401 rfl rfl 3 rfl ?_
    rcases ifE h with ⟨c, h⟩ | ⟨c, h⟩
    · refine RR.c_gt (fun _ => ?_) (fun q => absurd c q)
      refine RR.weak [] trivial ?_
      exact s_o_na_packed_24 _ _ h
    · refine RR.c_gt (fun q => absurd q c) (fun _ => ?_)
      refine RR.runs (pc' := 25) (lc' := [(0, .long v0), (2, .int v2)]) (st' := [.int (((v2 - (97 : Int32)) + (1 : Int32))), .long ((v0 <<< ((5 : Int32).toInt64 &&& 63)))]) (S1 := S) (nL := 3) (cd := cd_401) mx_401 rfl rfl 6 rfl ?_
      refine RR.weak [] trivial ?_
      exact s_o_na_packed_25 _ _ _ h
theorem s_o_na_packed {d : Nat} {S' : St} {r : Int64} (v0 : Int64) (v2 : Int32) (S : St) (h : o_na_packed v0 v2 S = some (r, S')) : RC KO (d + 0) 401 [.long v0, .int v2] S (some (.long r)) S' := RC.of rfl (s0_o_na_packed v0 v2 S h)
-- NameOrchard$Tape readWord ()V
def o_tp_readWord_97 (S : St) : Re Unit :=
  bn (o_tk_ofLetters (rJ S 3 5) S) fun r1 S2 =>
  lt' (wQ S2 3 6 (some r1)) fun S3 =>
  some ((), S3)
set_option maxRecDepth 100000 in
theorem s_o_tp_readWord_97 {d : Nat} {S' : St} {r : Unit} (S : St) (h : o_tp_readWord_97 S = some (r, S')) : RR KO (d + 1) 1606 97 [(0, .ref 3)] [] S none S' := by
  unfold o_tp_readWord_97 at h
  refine RR.runs (pc' := 102) (lc' := [(0, .ref 3)]) (st' := [.long (rJ S 3 5), .ref 3]) (S1 := S) (nL := 2) (cd := cd_1606) mx_1606 rfl rfl 3 rfl ?_
  obtain ⟨r1, S2, h1, h⟩ := bnE h
  refine RR.callS (as := [.long (rJ S 3 5)]) (rest := [.ref 3]) (r1 := (some (.ref r1))) (S1 := S2) mx_1606 rfl rfl mx_1801 rfl rfl (by decide) (Nat.le_of_ble_eq_true rfl) (Nat.le_of_ble_eq_true rfl) (Nat.le_of_ble_eq_true rfl) (RC.deep (by omega) (s_o_tk_ofLetters (d := d) _ _ h1)) ?_
  show RR KO _ 1606 105 [(0, .ref 3)] [.ref r1, .ref 3] S2 _ _
  refine RR.runs (pc' := 108) (lc' := [(0, .ref 3)]) (st' := []) (S1 := (wQ S2 3 6 (some r1))) (nL := 2) (cd := cd_1606) mx_1606 rfl rfl 1 rfl ?_
  obtain ⟨S3, eS3, h⟩ := ltE h
  rw [← eS3]
  cases h
  exact RR.retv mx_1606 rfl rfl rfl
def o_tp_readWord_67 : Nat → Int32 → St → Re Unit
  | 0, _, _ => none
  | n + 1, v1, S =>
  if v1 < (rI S 3 3) then (
    o_tp_readWord_97 S)
  else (
    bn (o_tp_signAt v1 S) fun r1 S2 =>
    bn (o_na_packed (rJ S 3 5) r1 S2) fun r3 S4 =>
    lt' (wJ S4 3 5 r3) fun S5 =>
    lt' ((v1 + (-1 : Int32)) : Int32) fun x6 =>
    o_tp_readWord_67 n x6 S5)
set_option maxRecDepth 100000 in
theorem s_o_tp_readWord_67 {d : Nat} {S' : St} {r : Unit} : ∀ (n : Nat) (v1 : Int32) (S : St), o_tp_readWord_67 n v1 S = some (r, S') → RR KO (d + 1) 1606 67 [(0, .ref 3), (1, .int v1)] [] S none S' := by
  intro n
  induction n with
  | zero => intro v1 S h; simp only [o_tp_readWord_67] at h; cases h
  | succ n ih =>
    intro v1 S h
    simp only [o_tp_readWord_67] at h
    refine RR.runs (pc' := icm .lt v1 (rI S 3 3) 97 75) (lc' := [(0, .ref 3), (1, .int v1)]) (st' := []) (S1 := S) (nL := 2) (cd := cd_1606) mx_1606 rfl rfl 4 rfl ?_
    rcases ifE h with ⟨c, h⟩ | ⟨c, h⟩
    · refine RR.c_lt (fun _ => ?_) (fun q => absurd c q)
      refine RR.weak [(0, .ref 3)] ⟨rfl, trivial⟩ ?_
      exact s_o_tp_readWord_97 _ h
    · refine RR.c_lt (fun q => absurd q c) (fun _ => ?_)
      refine RR.runs (pc' := 82) (lc' := [(0, .ref 3), (1, .int v1)]) (st' := [.int v1, .ref 3, .long (rJ S 3 5), .ref 3]) (S1 := S) (nL := 2) (cd := cd_1606) mx_1606 rfl rfl 5 rfl ?_
      obtain ⟨r1, S2, h1, h⟩ := bnE h
      refine RR.callV (b := 3) (as := [.int v1]) (rest := [.long (rJ S 3 5), .ref 3]) (r1 := (some (.int r1))) (S1 := S2) mx_1606 rfl rfl mx_1608 rfl rfl (by decide) (Or.inl rfl) (Nat.le_of_ble_eq_true rfl) (Nat.le_of_ble_eq_true rfl) (RC.deep (by omega) (s_o_tp_signAt (d := d) _ _ h1)) ?_
      show RR KO _ 1606 85 [(0, .ref 3), (1, .int v1)] [.int r1, .long (rJ S 3 5), .ref 3] S2 _ _
      obtain ⟨r3, S4, h1, h⟩ := bnE h
      refine RR.callS (as := [.long (rJ S 3 5), .int r1]) (rest := [.ref 3]) (r1 := (some (.long r3))) (S1 := S4) mx_1606 rfl rfl mx_401 rfl rfl (by decide) (Nat.le_of_ble_eq_true rfl) (Nat.le_of_ble_eq_true rfl) (Nat.le_of_ble_eq_true rfl) (RC.deep (by omega) (s_o_na_packed (d := d) _ _ _ h1)) ?_
      show RR KO _ 1606 88 [(0, .ref 3), (1, .int v1)] [.long r3, .ref 3] S4 _ _
      refine RR.runs (pc' := 91) (lc' := [(0, .ref 3), (1, .int v1)]) (st' := []) (S1 := (wJ S4 3 5 r3)) (nL := 2) (cd := cd_1606) mx_1606 rfl rfl 1 rfl ?_
      obtain ⟨S5, eS5, h⟩ := ltE h
      rw [← eS5]
      refine RR.runs (pc' := 94) (lc' := [(1, .int ((v1 + (-1 : Int32)))), (0, .ref 3)]) (st' := []) (S1 := S5) (nL := 2) (cd := cd_1606) mx_1606 rfl rfl 1 rfl ?_
      obtain ⟨x6, ex6, h⟩ := ltE h
      rw [← ex6]
      refine RR.runs (pc' := 67) (lc' := [(1, .int x6), (0, .ref 3)]) (st' := []) (S1 := S5) (nL := 2) (cd := cd_1606) mx_1606 rfl rfl 1 rfl ?_
      refine RR.weak [(0, .ref 3), (1, .int x6)] ⟨rfl, rfl, trivial⟩ ?_
      exact ih _ _ h
def o_tp_readWord_38 (S : St) : Re Unit :=
  if (8 : Int32) < ((rI S 3 2) - (rI S 3 3)) then (
    lt' (wQ S 3 6 (some 1001)) fun S1 =>
    some ((), S1))
  else (
    lt' (((rI S 3 2) - (1 : Int32)) : Int32) fun x2 =>
    o_tp_readWord_67 FU x2 S)
set_option maxRecDepth 100000 in
theorem s_o_tp_readWord_38 {d : Nat} {S' : St} {r : Unit} (S : St) (h : o_tp_readWord_38 S = some (r, S')) : RR KO (d + 1) 1606 38 [(0, .ref 3)] [] S none S' := by
  unfold o_tp_readWord_38 at h
  refine RR.runs (pc' := icm .le (((rI S 3 2) - (rI S 3 3))) (8 : Int32) 60 52) (lc' := [(0, .ref 3)]) (st' := []) (S1 := S) (nL := 2) (cd := cd_1606) mx_1606 rfl rfl 7 rfl ?_
  rcases ifE h with ⟨c, h⟩ | ⟨c, h⟩
  · refine RR.c_le (fun _ => ?_) (fun q => absurd c q)
    refine RR.runs (pc' := 59) (lc' := [(0, .ref 3)]) (st' := []) (S1 := (wQ S 3 6 (some 1001))) (nL := 2) (cd := cd_1606) mx_1606 rfl rfl 3 rfl ?_
    obtain ⟨S1, eS1, h⟩ := ltE h
    rw [← eS1]
    cases h
    exact RR.retv mx_1606 rfl rfl rfl
  · refine RR.c_le (fun q => absurd q c) (fun _ => ?_)
    refine RR.runs (pc' := 67) (lc' := [(1, .int (((rI S 3 2) - (1 : Int32)))), (0, .ref 3)]) (st' := []) (S1 := S) (nL := 2) (cd := cd_1606) mx_1606 rfl rfl 5 rfl ?_
    obtain ⟨x2, ex2, h⟩ := ltE h
    rw [← ex2]
    refine RR.weak [(0, .ref 3), (1, .int x2)] ⟨rfl, rfl, trivial⟩ ?_
    exact s_o_tp_readWord_67 _ _ _ h
def o_tp_readWord_0 : Nat → St → Re Unit
  | 0, _ => none
  | n + 1, S =>
  if (rI S 3 2) < (rI S 3 1) then (
    bn (o_tp_signAt (rI S 3 2) S) fun r1 S2 =>
    bn (o_tp_isLetter r1 S2) fun r3 S4 =>
    if r3 = 0 then (
      o_tp_readWord_38 S4)
    else (
      lt' (wI S4 3 2 (((rI S4 3 2) + (1 : Int32)))) fun S5 =>
      o_tp_readWord_0 n S5))
  else (
    o_tp_readWord_38 S)
set_option maxRecDepth 100000 in
theorem s_o_tp_readWord_0 {d : Nat} {S' : St} {r : Unit} : ∀ (n : Nat) (S : St), o_tp_readWord_0 n S = some (r, S') → RR KO (d + 1) 1606 0 [(0, .ref 3)] [] S none S' := by
  intro n
  induction n with
  | zero => intro S h; simp only [o_tp_readWord_0] at h; cases h
  | succ n ih =>
    intro S h
    simp only [o_tp_readWord_0] at h
    refine RR.runs (pc' := icm .ge (rI S 3 2) (rI S 3 1) 38 11) (lc' := [(0, .ref 3)]) (st' := []) (S1 := S) (nL := 2) (cd := cd_1606) mx_1606 rfl rfl 5 rfl ?_
    rcases ifE h with ⟨c, h⟩ | ⟨c, h⟩
    · refine RR.c_ge (fun _ => ?_) (fun q => absurd c q)
      refine RR.runs (pc' := 16) (lc' := [(0, .ref 3)]) (st' := [.int (rI S 3 2), .ref 3]) (S1 := S) (nL := 2) (cd := cd_1606) mx_1606 rfl rfl 3 rfl ?_
      obtain ⟨r1, S2, h1, h⟩ := bnE h
      refine RR.callV (b := 3) (as := [.int (rI S 3 2)]) (rest := []) (r1 := (some (.int r1))) (S1 := S2) mx_1606 rfl rfl mx_1608 rfl rfl (by decide) (Or.inl rfl) (Nat.le_of_ble_eq_true rfl) (Nat.le_of_ble_eq_true rfl) (RC.deep (by omega) (s_o_tp_signAt (d := d) _ _ h1)) ?_
      show RR KO _ 1606 19 [(0, .ref 3)] [.int r1] S2 _ _
      obtain ⟨r3, S4, h1, h⟩ := bnE h
      refine RR.callS (as := [.int r1]) (rest := []) (r1 := (some (.int r3))) (S1 := S4) mx_1606 rfl rfl mx_1609 rfl rfl (by decide) (Nat.le_of_ble_eq_true rfl) (Nat.le_of_ble_eq_true rfl) (Nat.le_of_ble_eq_true rfl) (RC.deep (by omega) (s_o_tp_isLetter (d := d) _ _ h1)) ?_
      show RR KO _ 1606 22 [(0, .ref 3)] [.int r3] S4 _ _
      refine RR.runs (pc' := icm .eq r3 0 38 25) (lc' := [(0, .ref 3)]) (st' := []) (S1 := S4) (nL := 2) (cd := cd_1606) mx_1606 rfl rfl 1 rfl ?_
      rcases ifE h with ⟨c, h⟩ | ⟨c, h⟩
      · refine RR.c_eq (fun _ => ?_) (fun q => absurd c q)
        refine RR.weak [(0, .ref 3)] ⟨rfl, trivial⟩ ?_
        exact s_o_tp_readWord_38 _ h
      · refine RR.c_eq (fun q => absurd q c) (fun _ => ?_)
        refine RR.runs (pc' := 35) (lc' := [(0, .ref 3)]) (st' := []) (S1 := (wI S4 3 2 (((rI S4 3 2) + (1 : Int32))))) (nL := 2) (cd := cd_1606) mx_1606 rfl rfl 6 rfl ?_
        obtain ⟨S5, eS5, h⟩ := ltE h
        rw [← eS5]
        refine RR.runs (pc' := 0) (lc' := [(0, .ref 3)]) (st' := []) (S1 := S5) (nL := 2) (cd := cd_1606) mx_1606 rfl rfl 1 rfl ?_
        refine RR.weak [(0, .ref 3)] ⟨rfl, trivial⟩ ?_
        exact ih _ h
    · refine RR.c_ge (fun q => absurd q c) (fun _ => ?_)
      refine RR.weak [(0, .ref 3)] ⟨rfl, trivial⟩ ?_
      exact s_o_tp_readWord_38 _ h
def o_tp_readWord (S : St) : Re Unit := o_tp_readWord_0 FU S
theorem s_o_tp_readWord {d : Nat} {S' : St} {r : Unit} (S : St) (h : o_tp_readWord S = some (r, S')) : RC KO (d + 1) 1606 [.ref 3] S none S' := RC.of rfl (s_o_tp_readWord_0 FU S h)
-- NameOrchard$Tape isDigit (I)Z
def o_tp_isDigit_17 (p0 : Int32) (S : St) : Re Int32 :=
  if isBo p0 = true then some (p0, S) else none
set_option maxRecDepth 100000 in
theorem s_o_tp_isDigit_17 {d : Nat} {S' : St} {r : Int32} (p0 : Int32) (S : St) (h : o_tp_isDigit_17 p0 S = some (r, S')) : RR KO (d + 0) 1610 17 [] [.int p0] S (some (.int r)) S' := by
  unfold o_tp_isDigit_17 at h
  obtain ⟨g, h⟩ := gpE h
  cases h
  exact RR.retz mx_1610 rfl rfl rfl g
def o_tp_isDigit_16 (S : St) : Re Int32 :=
  o_tp_isDigit_17 (0 : Int32) S
set_option maxRecDepth 100000 in
theorem s_o_tp_isDigit_16 {d : Nat} {S' : St} {r : Int32} (S : St) (h : o_tp_isDigit_16 S = some (r, S')) : RR KO (d + 0) 1610 16 [] [] S (some (.int r)) S' := by
  unfold o_tp_isDigit_16 at h
  refine RR.runs (pc' := 17) (lc' := []) (st' := [.int (0 : Int32)]) (S1 := S) (nL := 1) (cd := cd_1610) mx_1610 rfl rfl 1 rfl ?_
  refine RR.weak [] trivial ?_
  exact s_o_tp_isDigit_17 _ _ h
def o_tp_isDigit (v0 : Int32) (S : St) : Re Int32 :=
  if v0 < (48 : Int32) then (
    o_tp_isDigit_16 S)
  else (
    if (57 : Int32) < v0 then (
      o_tp_isDigit_16 S)
    else (
      o_tp_isDigit_17 (1 : Int32) S))
set_option maxRecDepth 100000 in
theorem s0_o_tp_isDigit {d : Nat} {S' : St} {r : Int32} (v0 : Int32) (S : St) (h : o_tp_isDigit v0 S = some (r, S')) : RR KO (d + 0) 1610 0 [(0, .int v0)] [] S (some (.int r)) S' := by
  unfold o_tp_isDigit at h
  refine RR.runs (pc' := icm .lt v0 (48 : Int32) 16 6) (lc' := [(0, .int v0)]) (st' := []) (S1 := S) (nL := 1) (cd := cd_1610) mx_1610 rfl rfl 3 rfl ?_
  rcases ifE h with ⟨c, h⟩ | ⟨c, h⟩
  · refine RR.c_lt (fun _ => ?_) (fun q => absurd c q)
    refine RR.weak [] trivial ?_
    exact s_o_tp_isDigit_16 _ h
  · refine RR.c_lt (fun q => absurd q c) (fun _ => ?_)
    refine RR.runs (pc' := icm .gt v0 (57 : Int32) 16 12) (lc' := [(0, .int v0)]) (st' := []) (S1 := S) (nL := 1) (cd := cd_1610) mx_1610 rfl rfl 3 rfl ?_
    rcases ifE h with ⟨c, h⟩ | ⟨c, h⟩
    · refine RR.c_gt (fun _ => ?_) (fun q => absurd c q)
      refine RR.weak [] trivial ?_
      exact s_o_tp_isDigit_16 _ h
    · refine RR.c_gt (fun q => absurd q c) (fun _ => ?_)
      refine RR.runs (pc' := 17) (lc' := [(0, .int v0)]) (st' := [.int (1 : Int32)]) (S1 := S) (nL := 1) (cd := cd_1610) mx_1610 rfl rfl 2 rfl ?_
      refine RR.weak [] trivial ?_
      exact s_o_tp_isDigit_17 _ _ h
theorem s_o_tp_isDigit {d : Nat} {S' : St} {r : Int32} (v0 : Int32) (S : St) (h : o_tp_isDigit v0 S = some (r, S')) : RC KO (d + 0) 1610 [.int v0] S (some (.int r)) S' := RC.of rfl (s0_o_tp_isDigit v0 S h)
-- NameOrchard$Tape readNumber ()V
def o_tp_readNumber_98 (S : St) : Re Unit :=
  lt' (wQ S 3 6 (some 1002)) fun S1 =>
  some ((), S1)
set_option maxRecDepth 100000 in
theorem s_o_tp_readNumber_98 {d : Nat} {S' : St} {r : Unit} (S : St) (h : o_tp_readNumber_98 S = some (r, S')) : RR KO (d + 1) 1607 98 [(0, .ref 3)] [] S none S' := by
  unfold o_tp_readNumber_98 at h
  refine RR.runs (pc' := 105) (lc' := [(0, .ref 3)]) (st' := []) (S1 := (wQ S 3 6 (some 1002))) (nL := 2) (cd := cd_1607) mx_1607 rfl rfl 3 rfl ?_
  obtain ⟨S1, eS1, h⟩ := ltE h
  rw [← eS1]
  cases h
  exact RR.retv mx_1607 rfl rfl rfl
def o_tp_readNumber_64 : Nat → Int32 → St → Re Unit
  | 0, _, _ => none
  | n + 1, v1, S =>
  if v1 < (rI S 3 2) then (
    bn (o_tp_signAt v1 S) fun r1 S2 =>
    lt' (wI S2 3 4 (((((rI S 3 4) * (10 : Int32)) + r1) - (48 : Int32)))) fun S3 =>
    lt' ((v1 + (1 : Int32)) : Int32) fun x4 =>
    o_tp_readNumber_64 n x4 S3)
  else (
    o_tp_readNumber_98 S)
set_option maxRecDepth 100000 in
theorem s_o_tp_readNumber_64 {d : Nat} {S' : St} {r : Unit} : ∀ (n : Nat) (v1 : Int32) (S : St), o_tp_readNumber_64 n v1 S = some (r, S') → RR KO (d + 1) 1607 64 [(0, .ref 3), (1, .int v1)] [] S none S' := by
  intro n
  induction n with
  | zero => intro v1 S h; simp only [o_tp_readNumber_64] at h; cases h
  | succ n ih =>
    intro v1 S h
    simp only [o_tp_readNumber_64] at h
    refine RR.runs (pc' := icm .ge v1 (rI S 3 2) 98 72) (lc' := [(0, .ref 3), (1, .int v1)]) (st' := []) (S1 := S) (nL := 2) (cd := cd_1607) mx_1607 rfl rfl 4 rfl ?_
    rcases ifE h with ⟨c, h⟩ | ⟨c, h⟩
    · refine RR.c_ge (fun _ => ?_) (fun q => absurd c q)
      refine RR.runs (pc' := 82) (lc' := [(0, .ref 3), (1, .int v1)]) (st' := [.int v1, .ref 3, .int (((rI S 3 4) * (10 : Int32))), .ref 3]) (S1 := S) (nL := 2) (cd := cd_1607) mx_1607 rfl rfl 7 rfl ?_
      obtain ⟨r1, S2, h1, h⟩ := bnE h
      refine RR.callV (b := 3) (as := [.int v1]) (rest := [.int (((rI S 3 4) * (10 : Int32))), .ref 3]) (r1 := (some (.int r1))) (S1 := S2) mx_1607 rfl rfl mx_1608 rfl rfl (by decide) (Or.inl rfl) (Nat.le_of_ble_eq_true rfl) (Nat.le_of_ble_eq_true rfl) (RC.deep (by omega) (s_o_tp_signAt (d := d) _ _ h1)) ?_
      show RR KO _ 1607 85 [(0, .ref 3), (1, .int v1)] [.int r1, .int (((rI S 3 4) * (10 : Int32))), .ref 3] S2 _ _
      refine RR.runs (pc' := 92) (lc' := [(0, .ref 3), (1, .int v1)]) (st' := []) (S1 := (wI S2 3 4 (((((rI S 3 4) * (10 : Int32)) + r1) - (48 : Int32))))) (nL := 2) (cd := cd_1607) mx_1607 rfl rfl 4 rfl ?_
      obtain ⟨S3, eS3, h⟩ := ltE h
      rw [← eS3]
      refine RR.runs (pc' := 95) (lc' := [(1, .int ((v1 + (1 : Int32)))), (0, .ref 3)]) (st' := []) (S1 := S3) (nL := 2) (cd := cd_1607) mx_1607 rfl rfl 1 rfl ?_
      obtain ⟨x4, ex4, h⟩ := ltE h
      rw [← ex4]
      refine RR.runs (pc' := 64) (lc' := [(1, .int x4), (0, .ref 3)]) (st' := []) (S1 := S3) (nL := 2) (cd := cd_1607) mx_1607 rfl rfl 1 rfl ?_
      refine RR.weak [(0, .ref 3), (1, .int x4)] ⟨rfl, rfl, trivial⟩ ?_
      exact ih _ _ h
    · refine RR.c_ge (fun q => absurd q c) (fun _ => ?_)
      refine RR.weak [(0, .ref 3)] ⟨rfl, trivial⟩ ?_
      exact s_o_tp_readNumber_98 _ h
def o_tp_readNumber_38 (S : St) : Re Unit :=
  if (4 : Int32) < ((rI S 3 2) - (rI S 3 3)) then (
    lt' (wQ S 3 6 (some 1001)) fun S1 =>
    some ((), S1))
  else (
    lt' ((rI S 3 3) : Int32) fun x2 =>
    o_tp_readNumber_64 FU x2 S)
set_option maxRecDepth 100000 in
theorem s_o_tp_readNumber_38 {d : Nat} {S' : St} {r : Unit} (S : St) (h : o_tp_readNumber_38 S = some (r, S')) : RR KO (d + 1) 1607 38 [(0, .ref 3)] [] S none S' := by
  unfold o_tp_readNumber_38 at h
  refine RR.runs (pc' := icm .le (((rI S 3 2) - (rI S 3 3))) (4 : Int32) 59 51) (lc' := [(0, .ref 3)]) (st' := []) (S1 := S) (nL := 2) (cd := cd_1607) mx_1607 rfl rfl 7 rfl ?_
  rcases ifE h with ⟨c, h⟩ | ⟨c, h⟩
  · refine RR.c_le (fun _ => ?_) (fun q => absurd c q)
    refine RR.runs (pc' := 58) (lc' := [(0, .ref 3)]) (st' := []) (S1 := (wQ S 3 6 (some 1001))) (nL := 2) (cd := cd_1607) mx_1607 rfl rfl 3 rfl ?_
    obtain ⟨S1, eS1, h⟩ := ltE h
    rw [← eS1]
    cases h
    exact RR.retv mx_1607 rfl rfl rfl
  · refine RR.c_le (fun q => absurd q c) (fun _ => ?_)
    refine RR.runs (pc' := 64) (lc' := [(1, .int (rI S 3 3)), (0, .ref 3)]) (st' := []) (S1 := S) (nL := 2) (cd := cd_1607) mx_1607 rfl rfl 3 rfl ?_
    obtain ⟨x2, ex2, h⟩ := ltE h
    rw [← ex2]
    refine RR.weak [(0, .ref 3), (1, .int x2)] ⟨rfl, rfl, trivial⟩ ?_
    exact s_o_tp_readNumber_64 _ _ _ h
def o_tp_readNumber_0 : Nat → St → Re Unit
  | 0, _ => none
  | n + 1, S =>
  if (rI S 3 2) < (rI S 3 1) then (
    bn (o_tp_signAt (rI S 3 2) S) fun r1 S2 =>
    bn (o_tp_isDigit r1 S2) fun r3 S4 =>
    if r3 = 0 then (
      o_tp_readNumber_38 S4)
    else (
      lt' (wI S4 3 2 (((rI S4 3 2) + (1 : Int32)))) fun S5 =>
      o_tp_readNumber_0 n S5))
  else (
    o_tp_readNumber_38 S)
set_option maxRecDepth 100000 in
theorem s_o_tp_readNumber_0 {d : Nat} {S' : St} {r : Unit} : ∀ (n : Nat) (S : St), o_tp_readNumber_0 n S = some (r, S') → RR KO (d + 1) 1607 0 [(0, .ref 3)] [] S none S' := by
  intro n
  induction n with
  | zero => intro S h; simp only [o_tp_readNumber_0] at h; cases h
  | succ n ih =>
    intro S h
    simp only [o_tp_readNumber_0] at h
    refine RR.runs (pc' := icm .ge (rI S 3 2) (rI S 3 1) 38 11) (lc' := [(0, .ref 3)]) (st' := []) (S1 := S) (nL := 2) (cd := cd_1607) mx_1607 rfl rfl 5 rfl ?_
    rcases ifE h with ⟨c, h⟩ | ⟨c, h⟩
    · refine RR.c_ge (fun _ => ?_) (fun q => absurd c q)
      refine RR.runs (pc' := 16) (lc' := [(0, .ref 3)]) (st' := [.int (rI S 3 2), .ref 3]) (S1 := S) (nL := 2) (cd := cd_1607) mx_1607 rfl rfl 3 rfl ?_
      obtain ⟨r1, S2, h1, h⟩ := bnE h
      refine RR.callV (b := 3) (as := [.int (rI S 3 2)]) (rest := []) (r1 := (some (.int r1))) (S1 := S2) mx_1607 rfl rfl mx_1608 rfl rfl (by decide) (Or.inl rfl) (Nat.le_of_ble_eq_true rfl) (Nat.le_of_ble_eq_true rfl) (RC.deep (by omega) (s_o_tp_signAt (d := d) _ _ h1)) ?_
      show RR KO _ 1607 19 [(0, .ref 3)] [.int r1] S2 _ _
      obtain ⟨r3, S4, h1, h⟩ := bnE h
      refine RR.callS (as := [.int r1]) (rest := []) (r1 := (some (.int r3))) (S1 := S4) mx_1607 rfl rfl mx_1610 rfl rfl (by decide) (Nat.le_of_ble_eq_true rfl) (Nat.le_of_ble_eq_true rfl) (Nat.le_of_ble_eq_true rfl) (RC.deep (by omega) (s_o_tp_isDigit (d := d) _ _ h1)) ?_
      show RR KO _ 1607 22 [(0, .ref 3)] [.int r3] S4 _ _
      refine RR.runs (pc' := icm .eq r3 0 38 25) (lc' := [(0, .ref 3)]) (st' := []) (S1 := S4) (nL := 2) (cd := cd_1607) mx_1607 rfl rfl 1 rfl ?_
      rcases ifE h with ⟨c, h⟩ | ⟨c, h⟩
      · refine RR.c_eq (fun _ => ?_) (fun q => absurd c q)
        refine RR.weak [(0, .ref 3)] ⟨rfl, trivial⟩ ?_
        exact s_o_tp_readNumber_38 _ h
      · refine RR.c_eq (fun q => absurd q c) (fun _ => ?_)
        refine RR.runs (pc' := 35) (lc' := [(0, .ref 3)]) (st' := []) (S1 := (wI S4 3 2 (((rI S4 3 2) + (1 : Int32))))) (nL := 2) (cd := cd_1607) mx_1607 rfl rfl 6 rfl ?_
        obtain ⟨S5, eS5, h⟩ := ltE h
        rw [← eS5]
        refine RR.runs (pc' := 0) (lc' := [(0, .ref 3)]) (st' := []) (S1 := S5) (nL := 2) (cd := cd_1607) mx_1607 rfl rfl 1 rfl ?_
        refine RR.weak [(0, .ref 3)] ⟨rfl, trivial⟩ ?_
        exact ih _ h
    · refine RR.c_ge (fun q => absurd q c) (fun _ => ?_)
      refine RR.weak [(0, .ref 3)] ⟨rfl, trivial⟩ ?_
      exact s_o_tp_readNumber_38 _ h
def o_tp_readNumber (S : St) : Re Unit := o_tp_readNumber_0 FU S
theorem s_o_tp_readNumber {d : Nat} {S' : St} {r : Unit} (S : St) (h : o_tp_readNumber S = some (r, S')) : RC KO (d + 1) 1607 [.ref 3] S none S' := RC.of rfl (s_o_tp_readNumber_0 FU S h)
-- NameOrchard$Tape step ()V
def o_tp_step_45 (k8 : St → Re Unit) (S : St) : Re Unit :=
  lt' (wI S 3 2 (((rI S 3 2) + (1 : Int32)))) fun S1 =>
  k8 S1
set_option maxRecDepth 100000 in
theorem s_o_tp_step_45 {d : Nat} (k8 : St → Re Unit) {S' : St} {r : Unit} (b8 : ∀ (S : St), k8 S = some (r, S') → RR KO (d + 2) 1605 8 [(0, .ref 3)] [] S none S') (S : St) (h : o_tp_step_45 k8 S = some (r, S')) : RR KO (d + 2) 1605 45 [(0, .ref 3)] [] S none S' := by
  unfold o_tp_step_45 at h
  refine RR.runs (pc' := 55) (lc' := [(0, .ref 3)]) (st' := []) (S1 := (wI S 3 2 (((rI S 3 2) + (1 : Int32))))) (nL := 1) (cd := cd_1605) mx_1605 rfl rfl 6 rfl ?_
  obtain ⟨S1, eS1, h⟩ := ltE h
  rw [← eS1]
  refine RR.runs (pc' := 8) (lc' := [(0, .ref 3)]) (st' := []) (S1 := S1) (nL := 1) (cd := cd_1605) mx_1605 rfl rfl 1 rfl ?_
  refine RR.weak [(0, .ref 3)] ⟨rfl, trivial⟩ ?_
  exact b8 _ h
def o_tp_step_164 (S : St) : Re Unit :=
  some ((), S)
set_option maxRecDepth 100000 in
theorem s_o_tp_step_164 {d : Nat} {S' : St} {r : Unit} (S : St) (h : o_tp_step_164 S = some (r, S')) : RR KO (d + 2) 1605 164 [] [] S none S' := by
  unfold o_tp_step_164 at h
  cases h
  exact RR.retv mx_1605 rfl rfl rfl
def o_tp_step_58 (S : St) : Re Unit :=
  lt' (wI S 3 3 (rI S 3 2)) fun S1 =>
  lt' (wI S1 3 4 (0 : Int32)) fun S2 =>
  lt' (wJ S2 3 5 (0 : Int64)) fun S3 =>
  if (rI S3 3 2) < (rI S3 3 1) then (
    bn (o_tp_signAt (rI S3 3 2) S3) fun r4 S5 =>
    bn (o_tp_isLetter r4 S5) fun r6 S7 =>
    if r6 = 0 then (
      bn (o_tp_signAt (rI S7 3 2) S7) fun r8 S9 =>
      bn (o_tp_isDigit r8 S9) fun r10 S11 =>
      if r10 = 0 then (
        bn (o_tp_signAt (rI S11 3 2) S11) fun r12 S13 =>
        bn (o_tk_ofSign r12 S13) fun r14 S15 =>
        lt' (wQ S15 3 6 (some r14)) fun S16 =>
        lt' (wI S16 3 2 (((rI S16 3 2) + (1 : Int32)))) fun S17 =>
        o_tp_step_164 S17)
      else (
        bn (o_tp_readNumber S11) fun r18 S19 =>
        o_tp_step_164 S19))
    else (
      bn (o_tp_readWord S7) fun r20 S21 =>
      o_tp_step_164 S21))
  else (
    lt' (wQ S3 3 6 (some 1000)) fun S22 =>
    o_tp_step_164 S22)
set_option maxRecDepth 100000 in
theorem s_o_tp_step_58 {d : Nat} {S' : St} {r : Unit} (S : St) (h : o_tp_step_58 S = some (r, S')) : RR KO (d + 2) 1605 58 [(0, .ref 3)] [] S none S' := by
  unfold o_tp_step_58 at h
  refine RR.runs (pc' := 66) (lc' := [(0, .ref 3)]) (st' := []) (S1 := (wI S 3 3 (rI S 3 2))) (nL := 1) (cd := cd_1605) mx_1605 rfl rfl 4 rfl ?_
  obtain ⟨S1, eS1, h⟩ := ltE h
  rw [← eS1]
  refine RR.runs (pc' := 71) (lc' := [(0, .ref 3)]) (st' := []) (S1 := (wI S1 3 4 (0 : Int32))) (nL := 1) (cd := cd_1605) mx_1605 rfl rfl 3 rfl ?_
  obtain ⟨S2, eS2, h⟩ := ltE h
  rw [← eS2]
  refine RR.runs (pc' := 76) (lc' := [(0, .ref 3)]) (st' := []) (S1 := (wJ S2 3 5 (0 : Int64))) (nL := 1) (cd := cd_1605) mx_1605 rfl rfl 3 rfl ?_
  obtain ⟨S3, eS3, h⟩ := ltE h
  rw [← eS3]
  refine RR.runs (pc' := icm .lt (rI S3 3 2) (rI S3 3 1) 97 87) (lc' := [(0, .ref 3)]) (st' := []) (S1 := S3) (nL := 1) (cd := cd_1605) mx_1605 rfl rfl 5 rfl ?_
  rcases ifE h with ⟨c, h⟩ | ⟨c, h⟩
  · refine RR.c_lt (fun _ => ?_) (fun q => absurd c q)
    refine RR.runs (pc' := 102) (lc' := [(0, .ref 3)]) (st' := [.int (rI S3 3 2), .ref 3]) (S1 := S3) (nL := 1) (cd := cd_1605) mx_1605 rfl rfl 3 rfl ?_
    obtain ⟨r4, S5, h1, h⟩ := bnE h
    refine RR.callV (b := 3) (as := [.int (rI S3 3 2)]) (rest := []) (r1 := (some (.int r4))) (S1 := S5) mx_1605 rfl rfl mx_1608 rfl rfl (by decide) (Or.inl rfl) (Nat.le_of_ble_eq_true rfl) (Nat.le_of_ble_eq_true rfl) (RC.deep (by omega) (s_o_tp_signAt (d := d) _ _ h1)) ?_
    show RR KO _ 1605 105 [(0, .ref 3)] [.int r4] S5 _ _
    obtain ⟨r6, S7, h1, h⟩ := bnE h
    refine RR.callS (as := [.int r4]) (rest := []) (r1 := (some (.int r6))) (S1 := S7) mx_1605 rfl rfl mx_1609 rfl rfl (by decide) (Nat.le_of_ble_eq_true rfl) (Nat.le_of_ble_eq_true rfl) (Nat.le_of_ble_eq_true rfl) (RC.deep (by omega) (s_o_tp_isLetter (d := d) _ _ h1)) ?_
    show RR KO _ 1605 108 [(0, .ref 3)] [.int r6] S7 _ _
    refine RR.runs (pc' := icm .eq r6 0 118 111) (lc' := [(0, .ref 3)]) (st' := []) (S1 := S7) (nL := 1) (cd := cd_1605) mx_1605 rfl rfl 1 rfl ?_
    rcases ifE h with ⟨c, h⟩ | ⟨c, h⟩
    · refine RR.c_eq (fun _ => ?_) (fun q => absurd c q)
      refine RR.runs (pc' := 123) (lc' := [(0, .ref 3)]) (st' := [.int (rI S7 3 2), .ref 3]) (S1 := S7) (nL := 1) (cd := cd_1605) mx_1605 rfl rfl 3 rfl ?_
      obtain ⟨r8, S9, h1, h⟩ := bnE h
      refine RR.callV (b := 3) (as := [.int (rI S7 3 2)]) (rest := []) (r1 := (some (.int r8))) (S1 := S9) mx_1605 rfl rfl mx_1608 rfl rfl (by decide) (Or.inl rfl) (Nat.le_of_ble_eq_true rfl) (Nat.le_of_ble_eq_true rfl) (RC.deep (by omega) (s_o_tp_signAt (d := d) _ _ h1)) ?_
      show RR KO _ 1605 126 [(0, .ref 3)] [.int r8] S9 _ _
      obtain ⟨r10, S11, h1, h⟩ := bnE h
      refine RR.callS (as := [.int r8]) (rest := []) (r1 := (some (.int r10))) (S1 := S11) mx_1605 rfl rfl mx_1610 rfl rfl (by decide) (Nat.le_of_ble_eq_true rfl) (Nat.le_of_ble_eq_true rfl) (Nat.le_of_ble_eq_true rfl) (RC.deep (by omega) (s_o_tp_isDigit (d := d) _ _ h1)) ?_
      show RR KO _ 1605 129 [(0, .ref 3)] [.int r10] S11 _ _
      refine RR.runs (pc' := icm .eq r10 0 139 132) (lc' := [(0, .ref 3)]) (st' := []) (S1 := S11) (nL := 1) (cd := cd_1605) mx_1605 rfl rfl 1 rfl ?_
      rcases ifE h with ⟨c, h⟩ | ⟨c, h⟩
      · refine RR.c_eq (fun _ => ?_) (fun q => absurd c q)
        refine RR.runs (pc' := 145) (lc' := [(0, .ref 3)]) (st' := [.int (rI S11 3 2), .ref 3, .ref 3]) (S1 := S11) (nL := 1) (cd := cd_1605) mx_1605 rfl rfl 4 rfl ?_
        obtain ⟨r12, S13, h1, h⟩ := bnE h
        refine RR.callV (b := 3) (as := [.int (rI S11 3 2)]) (rest := [.ref 3]) (r1 := (some (.int r12))) (S1 := S13) mx_1605 rfl rfl mx_1608 rfl rfl (by decide) (Or.inl rfl) (Nat.le_of_ble_eq_true rfl) (Nat.le_of_ble_eq_true rfl) (RC.deep (by omega) (s_o_tp_signAt (d := d) _ _ h1)) ?_
        show RR KO _ 1605 148 [(0, .ref 3)] [.int r12, .ref 3] S13 _ _
        obtain ⟨r14, S15, h1, h⟩ := bnE h
        refine RR.callS (as := [.int r12]) (rest := [.ref 3]) (r1 := (some (.ref r14))) (S1 := S15) mx_1605 rfl rfl mx_1800 rfl rfl (by decide) (Nat.le_of_ble_eq_true rfl) (Nat.le_of_ble_eq_true rfl) (Nat.le_of_ble_eq_true rfl) (RC.deep (by omega) (s_o_tk_ofSign (d := d) _ _ h1)) ?_
        show RR KO _ 1605 151 [(0, .ref 3)] [.ref r14, .ref 3] S15 _ _
        refine RR.runs (pc' := 154) (lc' := [(0, .ref 3)]) (st' := []) (S1 := (wQ S15 3 6 (some r14))) (nL := 1) (cd := cd_1605) mx_1605 rfl rfl 1 rfl ?_
        obtain ⟨S16, eS16, h⟩ := ltE h
        rw [← eS16]
        refine RR.runs (pc' := 164) (lc' := [(0, .ref 3)]) (st' := []) (S1 := (wI S16 3 2 (((rI S16 3 2) + (1 : Int32))))) (nL := 1) (cd := cd_1605) mx_1605 rfl rfl 6 rfl ?_
        obtain ⟨S17, eS17, h⟩ := ltE h
        rw [← eS17]
        refine RR.weak [] trivial ?_
        exact s_o_tp_step_164 _ h
      · refine RR.c_eq (fun q => absurd q c) (fun _ => ?_)
        refine RR.runs (pc' := 133) (lc' := [(0, .ref 3)]) (st' := [.ref 3]) (S1 := S11) (nL := 1) (cd := cd_1605) mx_1605 rfl rfl 1 rfl ?_
        obtain ⟨r18, S19, h1, h⟩ := bnE h
        refine RR.callV (b := 3) (as := []) (rest := []) (r1 := none) (S1 := S19) mx_1605 rfl rfl mx_1607 rfl rfl (by decide) (Or.inl rfl) (Nat.le_of_ble_eq_true rfl) (Nat.le_of_ble_eq_true rfl) (RC.deep (by omega) (s_o_tp_readNumber (d := d) _ h1)) ?_
        show RR KO _ 1605 136 [(0, .ref 3)] [] S19 _ _
        refine RR.runs (pc' := 164) (lc' := [(0, .ref 3)]) (st' := []) (S1 := S19) (nL := 1) (cd := cd_1605) mx_1605 rfl rfl 1 rfl ?_
        refine RR.weak [] trivial ?_
        exact s_o_tp_step_164 _ h
    · refine RR.c_eq (fun q => absurd q c) (fun _ => ?_)
      refine RR.runs (pc' := 112) (lc' := [(0, .ref 3)]) (st' := [.ref 3]) (S1 := S7) (nL := 1) (cd := cd_1605) mx_1605 rfl rfl 1 rfl ?_
      obtain ⟨r20, S21, h1, h⟩ := bnE h
      refine RR.callV (b := 3) (as := []) (rest := []) (r1 := none) (S1 := S21) mx_1605 rfl rfl mx_1606 rfl rfl (by decide) (Or.inl rfl) (Nat.le_of_ble_eq_true rfl) (Nat.le_of_ble_eq_true rfl) (RC.deep (by omega) (s_o_tp_readWord (d := d) _ h1)) ?_
      show RR KO _ 1605 115 [(0, .ref 3)] [] S21 _ _
      refine RR.runs (pc' := 164) (lc' := [(0, .ref 3)]) (st' := []) (S1 := S21) (nL := 1) (cd := cd_1605) mx_1605 rfl rfl 1 rfl ?_
      refine RR.weak [] trivial ?_
      exact s_o_tp_step_164 _ h
  · refine RR.c_lt (fun q => absurd q c) (fun _ => ?_)
    refine RR.runs (pc' := 94) (lc' := [(0, .ref 3)]) (st' := []) (S1 := (wQ S3 3 6 (some 1000))) (nL := 1) (cd := cd_1605) mx_1605 rfl rfl 3 rfl ?_
    obtain ⟨S22, eS22, h⟩ := ltE h
    rw [← eS22]
    refine RR.runs (pc' := 164) (lc' := [(0, .ref 3)]) (st' := []) (S1 := S22) (nL := 1) (cd := cd_1605) mx_1605 rfl rfl 1 rfl ?_
    refine RR.weak [] trivial ?_
    exact s_o_tp_step_164 _ h
def o_tp_step_8 : Nat → St → Re Unit
  | 0, _ => none
  | n + 1, S =>
  if (rI S 3 2) < (rI S 3 1) then (
    bn (o_tp_signAt (rI S 3 2) S) fun r1 S2 =>
    if r1 = (10 : Int32) then (
      o_tp_step_45 (o_tp_step_8 n) S2)
    else (
      bn (o_tp_signAt (rI S2 3 2) S2) fun r3 S4 =>
      if r3 = (32 : Int32) then (
        o_tp_step_45 (o_tp_step_8 n) S4)
      else (
        o_tp_step_58 S4)))
  else (
    o_tp_step_58 S)
set_option maxRecDepth 100000 in
theorem s_o_tp_step_8 {d : Nat} {S' : St} {r : Unit} : ∀ (n : Nat) (S : St), o_tp_step_8 n S = some (r, S') → RR KO (d + 2) 1605 8 [(0, .ref 3)] [] S none S' := by
  intro n
  induction n with
  | zero => intro S h; simp only [o_tp_step_8] at h; cases h
  | succ n ih =>
    intro S h
    simp only [o_tp_step_8] at h
    refine RR.runs (pc' := icm .ge (rI S 3 2) (rI S 3 1) 58 19) (lc' := [(0, .ref 3)]) (st' := []) (S1 := S) (nL := 1) (cd := cd_1605) mx_1605 rfl rfl 5 rfl ?_
    rcases ifE h with ⟨c, h⟩ | ⟨c, h⟩
    · refine RR.c_ge (fun _ => ?_) (fun q => absurd c q)
      refine RR.runs (pc' := 24) (lc' := [(0, .ref 3)]) (st' := [.int (rI S 3 2), .ref 3]) (S1 := S) (nL := 1) (cd := cd_1605) mx_1605 rfl rfl 3 rfl ?_
      obtain ⟨r1, S2, h1, h⟩ := bnE h
      refine RR.callV (b := 3) (as := [.int (rI S 3 2)]) (rest := []) (r1 := (some (.int r1))) (S1 := S2) mx_1605 rfl rfl mx_1608 rfl rfl (by decide) (Or.inl rfl) (Nat.le_of_ble_eq_true rfl) (Nat.le_of_ble_eq_true rfl) (RC.deep (by omega) (s_o_tp_signAt (d := d) _ _ h1)) ?_
      show RR KO _ 1605 27 [(0, .ref 3)] [.int r1] S2 _ _
      refine RR.runs (pc' := icm .eq r1 (10 : Int32) 45 32) (lc' := [(0, .ref 3)]) (st' := []) (S1 := S2) (nL := 1) (cd := cd_1605) mx_1605 rfl rfl 2 rfl ?_
      rcases ifE h with ⟨c, h⟩ | ⟨c, h⟩
      · refine RR.c_eq (fun _ => ?_) (fun q => absurd c q)
        refine RR.weak [(0, .ref 3)] ⟨rfl, trivial⟩ ?_
        exact s_o_tp_step_45 _ (fun S h => ih S h) _ h
      · refine RR.c_eq (fun q => absurd q c) (fun _ => ?_)
        refine RR.runs (pc' := 37) (lc' := [(0, .ref 3)]) (st' := [.int (rI S2 3 2), .ref 3]) (S1 := S2) (nL := 1) (cd := cd_1605) mx_1605 rfl rfl 3 rfl ?_
        obtain ⟨r3, S4, h1, h⟩ := bnE h
        refine RR.callV (b := 3) (as := [.int (rI S2 3 2)]) (rest := []) (r1 := (some (.int r3))) (S1 := S4) mx_1605 rfl rfl mx_1608 rfl rfl (by decide) (Or.inl rfl) (Nat.le_of_ble_eq_true rfl) (Nat.le_of_ble_eq_true rfl) (RC.deep (by omega) (s_o_tp_signAt (d := d) _ _ h1)) ?_
        show RR KO _ 1605 40 [(0, .ref 3)] [.int r3] S4 _ _
        refine RR.runs (pc' := icm .ne r3 (32 : Int32) 58 45) (lc' := [(0, .ref 3)]) (st' := []) (S1 := S4) (nL := 1) (cd := cd_1605) mx_1605 rfl rfl 2 rfl ?_
        rcases ifE h with ⟨c, h⟩ | ⟨c, h⟩
        · refine RR.c_ne (fun _ => ?_) (fun q => absurd c q)
          refine RR.weak [(0, .ref 3)] ⟨rfl, trivial⟩ ?_
          exact s_o_tp_step_45 _ (fun S h => ih S h) _ h
        · refine RR.c_ne (fun q => absurd q c) (fun _ => ?_)
          refine RR.weak [(0, .ref 3)] ⟨rfl, trivial⟩ ?_
          exact s_o_tp_step_58 _ h
    · refine RR.c_ge (fun q => absurd q c) (fun _ => ?_)
      refine RR.weak [(0, .ref 3)] ⟨rfl, trivial⟩ ?_
      exact s_o_tp_step_58 _ h
def o_tp_step (S : St) : Re Unit :=
  if (rI S 3 7) = 0 then (
    o_tp_step_8 FU S)
  else (
    some ((), S))
set_option maxRecDepth 100000 in
theorem s0_o_tp_step {d : Nat} {S' : St} {r : Unit} (S : St) (h : o_tp_step S = some (r, S')) : RR KO (d + 2) 1605 0 [(0, .ref 3)] [] S none S' := by
  unfold o_tp_step at h
  refine RR.runs (pc' := icm .eq (rI S 3 7) 0 8 7) (lc' := [(0, .ref 3)]) (st' := []) (S1 := S) (nL := 1) (cd := cd_1605) mx_1605 rfl rfl 3 rfl ?_
  rcases ifE h with ⟨c, h⟩ | ⟨c, h⟩
  · refine RR.c_eq (fun _ => ?_) (fun q => absurd c q)
    refine RR.weak [(0, .ref 3)] ⟨rfl, trivial⟩ ?_
    exact s_o_tp_step_8 _ _ h
  · refine RR.c_eq (fun q => absurd q c) (fun _ => ?_)
    cases h
    exact RR.retv mx_1605 rfl rfl rfl
theorem s_o_tp_step {d : Nat} {S' : St} {r : Unit} (S : St) (h : o_tp_step S = some (r, S')) : RC KO (d + 2) 1605 [.ref 3] S none S' := RC.of rfl (s0_o_tp_step S h)
-- NameOrchard$Formula read (LNameOrchard$Tape;Z)I
def o_fo_read_250 (S : St) : Re Int32 :=
  some ((1 : Int32), S)
set_option maxRecDepth 100000 in
theorem s_o_fo_read_250 {d : Nat} {S' : St} {r : Int32} (S : St) (h : o_fo_read_250 S = some (r, S')) : RR KO (d + 3) 203 250 [] [] S (some (.int r)) S' := by
  unfold o_fo_read_250 at h
  refine RR.runs (pc' := 251) (lc' := []) (st' := [.int (1 : Int32)]) (S1 := S) (nL := 9) (cd := cd_203) mx_203 rfl rfl 1 rfl ?_
  cases h
  exact RR.reti mx_203 rfl rfl rfl
def o_fo_read_172 (S : St) : Re Int32 :=
  some ((1 : Int32), S)
set_option maxRecDepth 100000 in
theorem s_o_fo_read_172 {d : Nat} {S' : St} {r : Int32} (S : St) (h : o_fo_read_172 S = some (r, S')) : RR KO (d + 3) 203 172 [] [] S (some (.int r)) S' := by
  unfold o_fo_read_172 at h
  refine RR.runs (pc' := 173) (lc' := []) (st' := [.int (1 : Int32)]) (S1 := S) (nL := 9) (cd := cd_203) mx_203 rfl rfl 1 rfl ?_
  cases h
  exact RR.reti mx_203 rfl rfl rfl
def o_fo_read_240 (k15 : Nat → Int32 → Int32 → Int32 → Int32 → Int32 → St → Re Int32) (v0 : Nat) (v2 : Int32) (v3 : Int32) (v4 : Int32) (v5 : Int32) (v6 : Int32) (S : St) : Re Int32 :=
  bn (o_tp_step S) fun r1 S2 =>
  lt' ((v6 + (1 : Int32)) : Int32) fun x3 =>
  k15 v0 v2 v3 v4 v5 x3 S2
set_option maxRecDepth 100000 in
theorem s_o_fo_read_240 {d : Nat} (k15 : Nat → Int32 → Int32 → Int32 → Int32 → Int32 → St → Re Int32) {S' : St} {r : Int32} (b15 : ∀ (v0 : Nat) (v2 : Int32) (v3 : Int32) (v4 : Int32) (v5 : Int32) (v6 : Int32) (S : St), k15 v0 v2 v3 v4 v5 v6 S = some (r, S') → RR KO (d + 3) 203 15 [(0, .ref v0), (1, .ref 3), (2, .int v2), (3, .int v3), (4, .int v4), (5, .int v5), (6, .int v6)] [] S (some (.int r)) S') (v0 : Nat) (v2 : Int32) (v3 : Int32) (v4 : Int32) (v5 : Int32) (v6 : Int32) (S : St) (h : o_fo_read_240 k15 v0 v2 v3 v4 v5 v6 S = some (r, S')) : RR KO (d + 3) 203 240 [(0, .ref v0), (1, .ref 3), (2, .int v2), (3, .int v3), (4, .int v4), (5, .int v5), (6, .int v6)] [] S (some (.int r)) S' := by
  unfold o_fo_read_240 at h
  refine RR.runs (pc' := 241) (lc' := [(0, .ref v0), (1, .ref 3), (2, .int v2), (3, .int v3), (4, .int v4), (5, .int v5), (6, .int v6)]) (st' := [.ref 3]) (S1 := S) (nL := 9) (cd := cd_203) mx_203 rfl rfl 1 rfl ?_
  obtain ⟨r1, S2, h1, h⟩ := bnE h
  refine RR.callV (b := 3) (as := []) (rest := []) (r1 := none) (S1 := S2) mx_203 rfl rfl mx_1605 rfl rfl (by decide) (Or.inl rfl) (Nat.le_of_ble_eq_true rfl) (Nat.le_of_ble_eq_true rfl) (RC.deep (by omega) (s_o_tp_step (d := d) _ h1)) ?_
  show RR KO _ 203 244 [(0, .ref v0), (1, .ref 3), (2, .int v2), (3, .int v3), (4, .int v4), (5, .int v5), (6, .int v6)] [] S2 _ _
  refine RR.runs (pc' := 247) (lc' := [(6, .int ((v6 + (1 : Int32)))), (0, .ref v0), (1, .ref 3), (2, .int v2), (3, .int v3), (4, .int v4), (5, .int v5)]) (st' := []) (S1 := S2) (nL := 9) (cd := cd_203) mx_203 rfl rfl 1 rfl ?_
  obtain ⟨x3, ex3, h⟩ := ltE h
  rw [← ex3]
  refine RR.runs (pc' := 15) (lc' := [(6, .int x3), (0, .ref v0), (1, .ref 3), (2, .int v2), (3, .int v3), (4, .int v4), (5, .int v5)]) (st' := []) (S1 := S2) (nL := 9) (cd := cd_203) mx_203 rfl rfl 1 rfl ?_
  refine RR.weak [(0, .ref v0), (1, .ref 3), (2, .int v2), (3, .int v3), (4, .int v4), (5, .int v5), (6, .int x3)] ⟨rfl, rfl, rfl, rfl, rfl, rfl, rfl, trivial⟩ ?_
  exact b15 _ _ _ _ _ _ _ h
def o_fo_read_239 (p0 : Int32) (S : St) : Re Int32 :=
  some (p0, S)
set_option maxRecDepth 100000 in
theorem s_o_fo_read_239 {d : Nat} {S' : St} {r : Int32} (p0 : Int32) (S : St) (h : o_fo_read_239 p0 S = some (r, S')) : RR KO (d + 3) 203 239 [] [.int p0] S (some (.int r)) S' := by
  unfold o_fo_read_239 at h
  cases h
  exact RR.reti mx_203 rfl rfl rfl
def o_fo_read_224 (v0 : Nat) (v4 : Int32) (S : St) : Re Int32 :=
  if KO.1 v0 = (0, 1) then (
bn (o_fo_release v0 (1 : Int32) S) fun r2 S3 =>
  if 0 < v4 then (
    o_fo_read_239 (1 : Int32) S3)
  else (
    o_fo_read_239 (0 : Int32) S3)) else none
set_option maxRecDepth 100000 in
theorem s_o_fo_read_224 {d : Nat} {S' : St} {r : Int32} (v0 : Nat) (v4 : Int32) (S : St) (h : o_fo_read_224 v0 v4 S = some (r, S')) : RR KO (d + 3) 203 224 [(0, .ref v0), (4, .int v4)] [] S (some (.int r)) S' := by
  unfold o_fo_read_224 at h
  refine RR.runs (pc' := 226) (lc' := [(0, .ref v0), (4, .int v4)]) (st' := [.int (1 : Int32), .ref v0]) (S1 := S) (nL := 9) (cd := cd_203) mx_203 rfl rfl 2 rfl ?_
  obtain ⟨g1, h⟩ := gpE h
  obtain ⟨r2, S3, h1, h⟩ := bnE h
  refine RR.callV (b := v0) (as := [.int (1 : Int32)]) (rest := []) (r1 := none) (S1 := S3) mx_203 rfl rfl mx_207 rfl rfl (by decide) (Or.inl g1) (Nat.le_of_ble_eq_true rfl) (Nat.le_of_ble_eq_true rfl) (RC.deep (by omega) (s_o_fo_release (d := d) _ _ _ h1)) ?_
  show RR KO _ 203 229 [(0, .ref v0), (4, .int v4)] [] S3 _ _
  refine RR.runs (pc' := icm .le v4 0 238 234) (lc' := [(0, .ref v0), (4, .int v4)]) (st' := []) (S1 := S3) (nL := 9) (cd := cd_203) mx_203 rfl rfl 2 rfl ?_
  rcases ifE h with ⟨c, h⟩ | ⟨c, h⟩
  · refine RR.c_le (fun _ => ?_) (fun q => absurd c q)
    refine RR.runs (pc' := 239) (lc' := [(0, .ref v0), (4, .int v4)]) (st' := [.int (1 : Int32)]) (S1 := S3) (nL := 9) (cd := cd_203) mx_203 rfl rfl 2 rfl ?_
    refine RR.weak [] trivial ?_
    exact s_o_fo_read_239 _ _ h
  · refine RR.c_le (fun q => absurd q c) (fun _ => ?_)
    refine RR.runs (pc' := 239) (lc' := [(0, .ref v0), (4, .int v4)]) (st' := [.int (0 : Int32)]) (S1 := S3) (nL := 9) (cd := cd_203) mx_203 rfl rfl 1 rfl ?_
    refine RR.weak [] trivial ?_
    exact s_o_fo_read_239 _ _ h
def o_fo_read_127 (k15 : Nat → Int32 → Int32 → Int32 → Int32 → Int32 → St → Re Int32) (v0 : Nat) (v2 : Int32) (v3 : Int32) (v4 : Int32) (v5 : Int32) (v6 : Int32) (v7 : Nat) (S : St) : Re Int32 :=
  if v3 = 0 then (
    if (KO.1 v7).1 = 20 then (
    if 0 < (tokIL.getD (KO.1 v7).2 0) then (
      if KO.1 v0 = (0, 1) then (
bn (o_fo_releaseBefore v0 v7 S) fun r3 S4 =>
      if r3 = 0 then (
        o_fo_read_172 S4)
      else (
        bn (o_fo_hold v0 v7 S4) fun r5 S6 =>
        o_fo_read_240 k15 v0 v2 (1 : Int32) v4 v5 v6 S6)) else none)
    else (
      if ((KO.1 v7).1 < 8 ∨ (KO.1 v7).1 = 20) ∧ ((KO.1 1005).1 < 8 ∨ (KO.1 1005).1 = 20) then (
if v7 = 1005 then (
        if 0 < v4 then (
          if KO.1 v0 = (0, 1) then (
bn (o_fo_release v0 (1 : Int32) S) fun r9 S10 =>
          bn (o_fo_drop v0 S10) fun r11 S12 =>
          lt' ((v4 + (-1 : Int32)) : Int32) fun x13 =>
          bn (o_fo_releaseNots v0 S12) fun r14 S15 =>
          lt' ((v5 - ((1 : Int32) + r14)) : Int32) fun x16 =>
          o_fo_read_240 k15 v0 v2 v3 x13 x16 v6 S15) else none)
        else (
          o_fo_read_224 v0 v4 S))
      else (
        o_fo_read_224 v0 v4 S)) else none)) else none)
  else (
    if KO.1 v0 = (0, 1) then (
bn (o_fo_add v0 v7 (rI S 3 4) S) fun r18 S19 =>
    bn (o_fo_releaseNots v0 S19) fun r20 S21 =>
    lt' ((v5 - r20) : Int32) fun x22 =>
    o_fo_read_240 k15 v0 v2 (0 : Int32) v4 x22 v6 S21) else none)
set_option maxRecDepth 100000 in
theorem s_o_fo_read_127 {d : Nat} (k15 : Nat → Int32 → Int32 → Int32 → Int32 → Int32 → St → Re Int32) {S' : St} {r : Int32} (b15 : ∀ (v0 : Nat) (v2 : Int32) (v3 : Int32) (v4 : Int32) (v5 : Int32) (v6 : Int32) (S : St), k15 v0 v2 v3 v4 v5 v6 S = some (r, S') → RR KO (d + 3) 203 15 [(0, .ref v0), (1, .ref 3), (2, .int v2), (3, .int v3), (4, .int v4), (5, .int v5), (6, .int v6)] [] S (some (.int r)) S') (v0 : Nat) (v2 : Int32) (v3 : Int32) (v4 : Int32) (v5 : Int32) (v6 : Int32) (v7 : Nat) (S : St) (h : o_fo_read_127 k15 v0 v2 v3 v4 v5 v6 v7 S = some (r, S')) : RR KO (d + 3) 203 127 [(0, .ref v0), (1, .ref 3), (2, .int v2), (3, .int v3), (4, .int v4), (5, .int v5), (6, .int v6), (7, .ref v7)] [] S (some (.int r)) S' := by
  unfold o_fo_read_127 at h
  refine RR.runs (pc' := icm .eq v3 0 155 131) (lc' := [(0, .ref v0), (1, .ref 3), (2, .int v2), (3, .int v3), (4, .int v4), (5, .int v5), (6, .int v6), (7, .ref v7)]) (st' := []) (S1 := S) (nL := 9) (cd := cd_203) mx_203 rfl rfl 2 rfl ?_
  rcases ifE h with ⟨c, h⟩ | ⟨c, h⟩
  · refine RR.c_eq (fun _ => ?_) (fun q => absurd c q)
    refine RR.runs (pc' := 157) (lc' := [(0, .ref v0), (1, .ref 3), (2, .int v2), (3, .int v3), (4, .int v4), (5, .int v5), (6, .int v6), (7, .ref v7)]) (st' := [.ref v7]) (S1 := S) (nL := 9) (cd := cd_203) mx_203 rfl rfl 1 rfl ?_
    obtain ⟨g1, h⟩ := gpE h
    refine RR.gNP (pc' := 160) (lc' := [(0, .ref v0), (1, .ref 3), (2, .int v2), (3, .int v3), (4, .int v4), (5, .int v5), (6, .int v6), (7, .ref v7)]) (st' := [.int ((tokIL.getD (KO.1 v7).2 0))]) (S1 := S) (nL := 9) (cd := cd_203) mx_203 rfl rfl rfl (fun q => absurd (q.1 ▸ g1 : ((0, 9) : Nat × Nat).1 = 20) (by decide)) ⟨g1, by decide, rfl, by decide, by decide⟩ ?_
    refine RR.runs (pc' := icm .le ((tokIL.getD (KO.1 v7).2 0)) 0 185 163) (lc' := [(0, .ref v0), (1, .ref 3), (2, .int v2), (3, .int v3), (4, .int v4), (5, .int v5), (6, .int v6), (7, .ref v7)]) (st' := []) (S1 := S) (nL := 9) (cd := cd_203) mx_203 rfl rfl 1 rfl ?_
    rcases ifE h with ⟨c, h⟩ | ⟨c, h⟩
    · refine RR.c_le (fun _ => ?_) (fun q => absurd c q)
      refine RR.runs (pc' := 166) (lc' := [(0, .ref v0), (1, .ref 3), (2, .int v2), (3, .int v3), (4, .int v4), (5, .int v5), (6, .int v6), (7, .ref v7)]) (st' := [.ref v7, .ref v0]) (S1 := S) (nL := 9) (cd := cd_203) mx_203 rfl rfl 2 rfl ?_
      obtain ⟨g2, h⟩ := gpE h
      obtain ⟨r3, S4, h1, h⟩ := bnE h
      refine RR.callV (b := v0) (as := [.ref v7]) (rest := []) (r1 := (some (.int r3))) (S1 := S4) mx_203 rfl rfl mx_208 rfl rfl (by decide) (Or.inl g2) (Nat.le_of_ble_eq_true rfl) (Nat.le_of_ble_eq_true rfl) (RC.deep (by omega) (s_o_fo_releaseBefore (d := d) _ _ _ h1)) ?_
      show RR KO _ 203 169 [(0, .ref v0), (1, .ref 3), (2, .int v2), (3, .int v3), (4, .int v4), (5, .int v5), (6, .int v6), (7, .ref v7)] [.int r3] S4 _ _
      refine RR.runs (pc' := icm .ne r3 0 174 172) (lc' := [(0, .ref v0), (1, .ref 3), (2, .int v2), (3, .int v3), (4, .int v4), (5, .int v5), (6, .int v6), (7, .ref v7)]) (st' := []) (S1 := S4) (nL := 9) (cd := cd_203) mx_203 rfl rfl 1 rfl ?_
      rcases ifE h with ⟨c, h⟩ | ⟨c, h⟩
      · refine RR.c_ne (fun _ => ?_) (fun q => absurd c q)
        refine RR.weak [] trivial ?_
        exact s_o_fo_read_172 _ h
      · refine RR.c_ne (fun q => absurd q c) (fun _ => ?_)
        refine RR.runs (pc' := 177) (lc' := [(0, .ref v0), (1, .ref 3), (2, .int v2), (3, .int v3), (4, .int v4), (5, .int v5), (6, .int v6), (7, .ref v7)]) (st' := [.ref v7, .ref v0]) (S1 := S4) (nL := 9) (cd := cd_203) mx_203 rfl rfl 2 rfl ?_
        obtain ⟨r5, S6, h1, h⟩ := bnE h
        refine RR.callV (b := v0) (as := [.ref v7]) (rest := []) (r1 := none) (S1 := S6) mx_203 rfl rfl mx_205 rfl rfl (by decide) (Or.inl g2) (Nat.le_of_ble_eq_true rfl) (Nat.le_of_ble_eq_true rfl) (RC.deep (by omega) (s_o_fo_hold (d := d) _ _ _ h1)) ?_
        show RR KO _ 203 180 [(0, .ref v0), (1, .ref 3), (2, .int v2), (3, .int v3), (4, .int v4), (5, .int v5), (6, .int v6), (7, .ref v7)] [] S6 _ _
        refine RR.runs (pc' := 240) (lc' := [(3, .int (1 : Int32)), (0, .ref v0), (1, .ref 3), (2, .int v2), (4, .int v4), (5, .int v5), (6, .int v6), (7, .ref v7)]) (st' := []) (S1 := S6) (nL := 9) (cd := cd_203) mx_203 rfl rfl 3 rfl ?_
        refine RR.weak [(0, .ref v0), (1, .ref 3), (2, .int v2), (3, .int (1 : Int32)), (4, .int v4), (5, .int v5), (6, .int v6)] ⟨rfl, rfl, rfl, rfl, rfl, rfl, rfl, trivial⟩ ?_
        exact s_o_fo_read_240 _ b15 _ _ _ _ _ _ _ h
    · refine RR.c_le (fun q => absurd q c) (fun _ => ?_)
      refine RR.runs (pc' := 190) (lc' := [(0, .ref v0), (1, .ref 3), (2, .int v2), (3, .int v3), (4, .int v4), (5, .int v5), (6, .int v6), (7, .ref v7)]) (st' := [.ref 1005, .ref v7]) (S1 := S) (nL := 9) (cd := cd_203) mx_203 rfl rfl 2 rfl ?_
      obtain ⟨g7, h⟩ := gpE h
      refine RR.gP (pc' := acm .ne v7 1005 224 193) (lc' := [(0, .ref v0), (1, .ref 3), (2, .int v2), (3, .int v3), (4, .int v4), (5, .int v5), (6, .int v6), (7, .ref v7)]) (st' := []) (S1 := S) (nL := 9) (cd := cd_203) mx_203 rfl rfl rfl g7 ?_
      rcases ifE h with ⟨c, h⟩ | ⟨c, h⟩
      · refine RR.a_ne (fun _ => ?_) (fun q => absurd c q)
        refine RR.runs (pc' := icm .le v4 0 224 198) (lc' := [(0, .ref v0), (1, .ref 3), (2, .int v2), (3, .int v3), (4, .int v4), (5, .int v5), (6, .int v6), (7, .ref v7)]) (st' := []) (S1 := S) (nL := 9) (cd := cd_203) mx_203 rfl rfl 2 rfl ?_
        rcases ifE h with ⟨c, h⟩ | ⟨c, h⟩
        · refine RR.c_le (fun _ => ?_) (fun q => absurd c q)
          refine RR.runs (pc' := 200) (lc' := [(0, .ref v0), (1, .ref 3), (2, .int v2), (3, .int v3), (4, .int v4), (5, .int v5), (6, .int v6), (7, .ref v7)]) (st' := [.int (1 : Int32), .ref v0]) (S1 := S) (nL := 9) (cd := cd_203) mx_203 rfl rfl 2 rfl ?_
          obtain ⟨g8, h⟩ := gpE h
          obtain ⟨r9, S10, h1, h⟩ := bnE h
          refine RR.callV (b := v0) (as := [.int (1 : Int32)]) (rest := []) (r1 := none) (S1 := S10) mx_203 rfl rfl mx_207 rfl rfl (by decide) (Or.inl g8) (Nat.le_of_ble_eq_true rfl) (Nat.le_of_ble_eq_true rfl) (RC.deep (by omega) (s_o_fo_release (d := d) _ _ _ h1)) ?_
          show RR KO _ 203 203 [(0, .ref v0), (1, .ref 3), (2, .int v2), (3, .int v3), (4, .int v4), (5, .int v5), (6, .int v6), (7, .ref v7)] [] S10 _ _
          refine RR.runs (pc' := 204) (lc' := [(0, .ref v0), (1, .ref 3), (2, .int v2), (3, .int v3), (4, .int v4), (5, .int v5), (6, .int v6), (7, .ref v7)]) (st' := [.ref v0]) (S1 := S10) (nL := 9) (cd := cd_203) mx_203 rfl rfl 1 rfl ?_
          obtain ⟨r11, S12, h1, h⟩ := bnE h
          refine RR.callV (b := v0) (as := []) (rest := []) (r1 := none) (S1 := S12) mx_203 rfl rfl mx_206 rfl rfl (by decide) (Or.inl g8) (Nat.le_of_ble_eq_true rfl) (Nat.le_of_ble_eq_true rfl) (RC.deep (by omega) (s_o_fo_drop (d := d) _ _ h1)) ?_
          show RR KO _ 203 207 [(0, .ref v0), (1, .ref 3), (2, .int v2), (3, .int v3), (4, .int v4), (5, .int v5), (6, .int v6), (7, .ref v7)] [] S12 _ _
          refine RR.runs (pc' := 210) (lc' := [(4, .int ((v4 + (-1 : Int32)))), (0, .ref v0), (1, .ref 3), (2, .int v2), (3, .int v3), (5, .int v5), (6, .int v6), (7, .ref v7)]) (st' := []) (S1 := S12) (nL := 9) (cd := cd_203) mx_203 rfl rfl 1 rfl ?_
          obtain ⟨x13, ex13, h⟩ := ltE h
          rw [← ex13]
          refine RR.runs (pc' := 214) (lc' := [(4, .int x13), (0, .ref v0), (1, .ref 3), (2, .int v2), (3, .int v3), (5, .int v5), (6, .int v6), (7, .ref v7)]) (st' := [.ref v0, .int (1 : Int32), .int v5]) (S1 := S12) (nL := 9) (cd := cd_203) mx_203 rfl rfl 3 rfl ?_
          obtain ⟨r14, S15, h1, h⟩ := bnE h
          refine RR.callV (b := v0) (as := []) (rest := [.int (1 : Int32), .int v5]) (r1 := (some (.int r14))) (S1 := S15) mx_203 rfl rfl mx_209 rfl rfl (by decide) (Or.inl g8) (Nat.le_of_ble_eq_true rfl) (Nat.le_of_ble_eq_true rfl) (RC.deep (by omega) (s_o_fo_releaseNots (d := d) _ _ h1)) ?_
          show RR KO _ 203 217 [(4, .int x13), (0, .ref v0), (1, .ref 3), (2, .int v2), (3, .int v3), (5, .int v5), (6, .int v6), (7, .ref v7)] [.int r14, .int (1 : Int32), .int v5] S15 _ _
          refine RR.runs (pc' := 221) (lc' := [(5, .int ((v5 - ((1 : Int32) + r14)))), (4, .int x13), (0, .ref v0), (1, .ref 3), (2, .int v2), (3, .int v3), (6, .int v6), (7, .ref v7)]) (st' := []) (S1 := S15) (nL := 9) (cd := cd_203) mx_203 rfl rfl 3 rfl ?_
          obtain ⟨x16, ex16, h⟩ := ltE h
          rw [← ex16]
          refine RR.runs (pc' := 240) (lc' := [(5, .int x16), (4, .int x13), (0, .ref v0), (1, .ref 3), (2, .int v2), (3, .int v3), (6, .int v6), (7, .ref v7)]) (st' := []) (S1 := S15) (nL := 9) (cd := cd_203) mx_203 rfl rfl 1 rfl ?_
          refine RR.weak [(0, .ref v0), (1, .ref 3), (2, .int v2), (3, .int v3), (4, .int x13), (5, .int x16), (6, .int v6)] ⟨rfl, rfl, rfl, rfl, rfl, rfl, rfl, trivial⟩ ?_
          exact s_o_fo_read_240 _ b15 _ _ _ _ _ _ _ h
        · refine RR.c_le (fun q => absurd q c) (fun _ => ?_)
          refine RR.weak [(0, .ref v0), (4, .int v4)] ⟨rfl, rfl, trivial⟩ ?_
          exact s_o_fo_read_224 _ _ _ h
      · refine RR.a_ne (fun q => absurd q c) (fun _ => ?_)
        refine RR.weak [(0, .ref v0), (4, .int v4)] ⟨rfl, rfl, trivial⟩ ?_
        exact s_o_fo_read_224 _ _ _ h
  · refine RR.c_eq (fun q => absurd q c) (fun _ => ?_)
    refine RR.runs (pc' := 138) (lc' := [(0, .ref v0), (1, .ref 3), (2, .int v2), (3, .int v3), (4, .int v4), (5, .int v5), (6, .int v6), (7, .ref v7)]) (st' := [.int (rI S 3 4), .ref v7, .ref v0]) (S1 := S) (nL := 9) (cd := cd_203) mx_203 rfl rfl 4 rfl ?_
    obtain ⟨g17, h⟩ := gpE h
    obtain ⟨r18, S19, h1, h⟩ := bnE h
    refine RR.callV (b := v0) (as := [.ref v7, .int (rI S 3 4)]) (rest := []) (r1 := none) (S1 := S19) mx_203 rfl rfl mx_202 rfl rfl (by decide) (Or.inl g17) (Nat.le_of_ble_eq_true rfl) (Nat.le_of_ble_eq_true rfl) (RC.deep (by omega) (s_o_fo_add (d := d) _ _ _ _ h1)) ?_
    show RR KO _ 203 141 [(0, .ref v0), (1, .ref 3), (2, .int v2), (3, .int v3), (4, .int v4), (5, .int v5), (6, .int v6), (7, .ref v7)] [] S19 _ _
    refine RR.runs (pc' := 144) (lc' := [(0, .ref v0), (1, .ref 3), (2, .int v2), (3, .int v3), (4, .int v4), (5, .int v5), (6, .int v6), (7, .ref v7)]) (st' := [.ref v0, .int v5]) (S1 := S19) (nL := 9) (cd := cd_203) mx_203 rfl rfl 2 rfl ?_
    obtain ⟨r20, S21, h1, h⟩ := bnE h
    refine RR.callV (b := v0) (as := []) (rest := [.int v5]) (r1 := (some (.int r20))) (S1 := S21) mx_203 rfl rfl mx_209 rfl rfl (by decide) (Or.inl g17) (Nat.le_of_ble_eq_true rfl) (Nat.le_of_ble_eq_true rfl) (RC.deep (by omega) (s_o_fo_releaseNots (d := d) _ _ h1)) ?_
    show RR KO _ 203 147 [(0, .ref v0), (1, .ref 3), (2, .int v2), (3, .int v3), (4, .int v4), (5, .int v5), (6, .int v6), (7, .ref v7)] [.int r20, .int v5] S21 _ _
    refine RR.runs (pc' := 150) (lc' := [(5, .int (v5 - r20)), (0, .ref v0), (1, .ref 3), (2, .int v2), (3, .int v3), (4, .int v4), (6, .int v6), (7, .ref v7)]) (st' := []) (S1 := S21) (nL := 9) (cd := cd_203) mx_203 rfl rfl 2 rfl ?_
    obtain ⟨x22, ex22, h⟩ := ltE h
    rw [← ex22]
    refine RR.runs (pc' := 240) (lc' := [(3, .int (0 : Int32)), (5, .int x22), (0, .ref v0), (1, .ref 3), (2, .int v2), (4, .int v4), (6, .int v6), (7, .ref v7)]) (st' := []) (S1 := S21) (nL := 9) (cd := cd_203) mx_203 rfl rfl 3 rfl ?_
    refine RR.weak [(0, .ref v0), (1, .ref 3), (2, .int v2), (3, .int (0 : Int32)), (4, .int v4), (5, .int x22), (6, .int v6)] ⟨rfl, rfl, rfl, rfl, rfl, rfl, rfl, trivial⟩ ?_
    exact s_o_fo_read_240 _ b15 _ _ _ _ _ _ _ h
def o_fo_read_121 (k15 : Nat → Int32 → Int32 → Int32 → Int32 → Int32 → St → Re Int32) (v0 : Nat) (v2 : Int32) (v3 : Int32) (v5 : Int32) (v6 : Int32) (p0 : Int32) (p1 : Int32) (S : St) : Re Int32 :=
  lt' ((p1 + p0) : Int32) fun x1 =>
  o_fo_read_240 k15 v0 v2 v3 x1 v5 v6 S
set_option maxRecDepth 100000 in
theorem s_o_fo_read_121 {d : Nat} (k15 : Nat → Int32 → Int32 → Int32 → Int32 → Int32 → St → Re Int32) {S' : St} {r : Int32} (b15 : ∀ (v0 : Nat) (v2 : Int32) (v3 : Int32) (v4 : Int32) (v5 : Int32) (v6 : Int32) (S : St), k15 v0 v2 v3 v4 v5 v6 S = some (r, S') → RR KO (d + 3) 203 15 [(0, .ref v0), (1, .ref 3), (2, .int v2), (3, .int v3), (4, .int v4), (5, .int v5), (6, .int v6)] [] S (some (.int r)) S') (v0 : Nat) (v2 : Int32) (v3 : Int32) (v5 : Int32) (v6 : Int32) (p0 : Int32) (p1 : Int32) (S : St) (h : o_fo_read_121 k15 v0 v2 v3 v5 v6 p0 p1 S = some (r, S')) : RR KO (d + 3) 203 121 [(0, .ref v0), (1, .ref 3), (2, .int v2), (3, .int v3), (5, .int v5), (6, .int v6)] [.int p0, .int p1] S (some (.int r)) S' := by
  unfold o_fo_read_121 at h
  refine RR.runs (pc' := 124) (lc' := [(4, .int (p1 + p0)), (0, .ref v0), (1, .ref 3), (2, .int v2), (3, .int v3), (5, .int v5), (6, .int v6)]) (st' := []) (S1 := S) (nL := 9) (cd := cd_203) mx_203 rfl rfl 2 rfl ?_
  obtain ⟨x1, ex1, h⟩ := ltE h
  rw [← ex1]
  refine RR.runs (pc' := 240) (lc' := [(4, .int x1), (0, .ref v0), (1, .ref 3), (2, .int v2), (3, .int v3), (5, .int v5), (6, .int v6)]) (st' := []) (S1 := S) (nL := 9) (cd := cd_203) mx_203 rfl rfl 1 rfl ?_
  refine RR.weak [(0, .ref v0), (1, .ref 3), (2, .int v2), (3, .int v3), (4, .int x1), (5, .int v5), (6, .int v6)] ⟨rfl, rfl, rfl, rfl, rfl, rfl, rfl, trivial⟩ ?_
  exact s_o_fo_read_240 _ b15 _ _ _ _ _ _ _ h
def o_fo_read_88 (k15 : Nat → Int32 → Int32 → Int32 → Int32 → Int32 → St → Re Int32) (v0 : Nat) (v2 : Int32) (v3 : Int32) (v4 : Int32) (v5 : Int32) (v6 : Int32) (v7 : Nat) (v8 : Int32) (S : St) : Re Int32 :=
  if v3 = 0 then (
    o_fo_read_127 k15 v0 v2 v3 v4 v5 v6 v7 S)
  else (
    if v8 = 0 then (
      o_fo_read_127 k15 v0 v2 v3 v4 v5 v6 v7 S)
    else (
      if KO.1 v0 = (0, 1) then (
bn (o_fo_hold v0 v7 S) fun r2 S3 =>
      lt' ((v5 + (1 : Int32)) : Int32) fun x4 =>
      if ((KO.1 v7).1 < 8 ∨ (KO.1 v7).1 = 20) ∧ ((KO.1 1004).1 < 8 ∨ (KO.1 1004).1 = 20) then (
if v7 = 1004 then (
        o_fo_read_121 k15 v0 v2 v3 x4 v6 (1 : Int32) v4 S3)
      else (
        o_fo_read_121 k15 v0 v2 v3 x4 v6 (0 : Int32) v4 S3)) else none) else none))
set_option maxRecDepth 100000 in
theorem s_o_fo_read_88 {d : Nat} (k15 : Nat → Int32 → Int32 → Int32 → Int32 → Int32 → St → Re Int32) {S' : St} {r : Int32} (b15 : ∀ (v0 : Nat) (v2 : Int32) (v3 : Int32) (v4 : Int32) (v5 : Int32) (v6 : Int32) (S : St), k15 v0 v2 v3 v4 v5 v6 S = some (r, S') → RR KO (d + 3) 203 15 [(0, .ref v0), (1, .ref 3), (2, .int v2), (3, .int v3), (4, .int v4), (5, .int v5), (6, .int v6)] [] S (some (.int r)) S') (v0 : Nat) (v2 : Int32) (v3 : Int32) (v4 : Int32) (v5 : Int32) (v6 : Int32) (v7 : Nat) (v8 : Int32) (S : St) (h : o_fo_read_88 k15 v0 v2 v3 v4 v5 v6 v7 v8 S = some (r, S')) : RR KO (d + 3) 203 88 [(0, .ref v0), (1, .ref 3), (2, .int v2), (3, .int v3), (4, .int v4), (5, .int v5), (6, .int v6), (7, .ref v7), (8, .int v8)] [] S (some (.int r)) S' := by
  unfold o_fo_read_88 at h
  refine RR.runs (pc' := icm .eq v3 0 127 92) (lc' := [(0, .ref v0), (1, .ref 3), (2, .int v2), (3, .int v3), (4, .int v4), (5, .int v5), (6, .int v6), (7, .ref v7), (8, .int v8)]) (st' := []) (S1 := S) (nL := 9) (cd := cd_203) mx_203 rfl rfl 2 rfl ?_
  rcases ifE h with ⟨c, h⟩ | ⟨c, h⟩
  · refine RR.c_eq (fun _ => ?_) (fun q => absurd c q)
    refine RR.weak [(0, .ref v0), (1, .ref 3), (2, .int v2), (3, .int v3), (4, .int v4), (5, .int v5), (6, .int v6), (7, .ref v7)] ⟨rfl, rfl, rfl, rfl, rfl, rfl, rfl, rfl, trivial⟩ ?_
    exact s_o_fo_read_127 _ b15 _ _ _ _ _ _ _ _ h
  · refine RR.c_eq (fun q => absurd q c) (fun _ => ?_)
    refine RR.runs (pc' := icm .eq v8 0 127 97) (lc' := [(0, .ref v0), (1, .ref 3), (2, .int v2), (3, .int v3), (4, .int v4), (5, .int v5), (6, .int v6), (7, .ref v7), (8, .int v8)]) (st' := []) (S1 := S) (nL := 9) (cd := cd_203) mx_203 rfl rfl 2 rfl ?_
    rcases ifE h with ⟨c, h⟩ | ⟨c, h⟩
    · refine RR.c_eq (fun _ => ?_) (fun q => absurd c q)
      refine RR.weak [(0, .ref v0), (1, .ref 3), (2, .int v2), (3, .int v3), (4, .int v4), (5, .int v5), (6, .int v6), (7, .ref v7)] ⟨rfl, rfl, rfl, rfl, rfl, rfl, rfl, rfl, trivial⟩ ?_
      exact s_o_fo_read_127 _ b15 _ _ _ _ _ _ _ _ h
    · refine RR.c_eq (fun q => absurd q c) (fun _ => ?_)
      refine RR.runs (pc' := 100) (lc' := [(0, .ref v0), (1, .ref 3), (2, .int v2), (3, .int v3), (4, .int v4), (5, .int v5), (6, .int v6), (7, .ref v7), (8, .int v8)]) (st' := [.ref v7, .ref v0]) (S1 := S) (nL := 9) (cd := cd_203) mx_203 rfl rfl 2 rfl ?_
      obtain ⟨g1, h⟩ := gpE h
      obtain ⟨r2, S3, h1, h⟩ := bnE h
      refine RR.callV (b := v0) (as := [.ref v7]) (rest := []) (r1 := none) (S1 := S3) mx_203 rfl rfl mx_205 rfl rfl (by decide) (Or.inl g1) (Nat.le_of_ble_eq_true rfl) (Nat.le_of_ble_eq_true rfl) (RC.deep (by omega) (s_o_fo_hold (d := d) _ _ _ h1)) ?_
      show RR KO _ 203 103 [(0, .ref v0), (1, .ref 3), (2, .int v2), (3, .int v3), (4, .int v4), (5, .int v5), (6, .int v6), (7, .ref v7), (8, .int v8)] [] S3 _ _
      refine RR.runs (pc' := 106) (lc' := [(5, .int ((v5 + (1 : Int32)))), (0, .ref v0), (1, .ref 3), (2, .int v2), (3, .int v3), (4, .int v4), (6, .int v6), (7, .ref v7), (8, .int v8)]) (st' := []) (S1 := S3) (nL := 9) (cd := cd_203) mx_203 rfl rfl 1 rfl ?_
      obtain ⟨x4, ex4, h⟩ := ltE h
      rw [← ex4]
      refine RR.runs (pc' := 113) (lc' := [(5, .int x4), (0, .ref v0), (1, .ref 3), (2, .int v2), (3, .int v3), (4, .int v4), (6, .int v6), (7, .ref v7), (8, .int v8)]) (st' := [.ref 1004, .ref v7, .int v4]) (S1 := S3) (nL := 9) (cd := cd_203) mx_203 rfl rfl 3 rfl ?_
      obtain ⟨g5, h⟩ := gpE h
      refine RR.gP (pc' := acm .ne v7 1004 120 116) (lc' := [(5, .int x4), (0, .ref v0), (1, .ref 3), (2, .int v2), (3, .int v3), (4, .int v4), (6, .int v6), (7, .ref v7), (8, .int v8)]) (st' := [.int v4]) (S1 := S3) (nL := 9) (cd := cd_203) mx_203 rfl rfl rfl g5 ?_
      rcases ifE h with ⟨c, h⟩ | ⟨c, h⟩
      · refine RR.a_ne (fun _ => ?_) (fun q => absurd c q)
        refine RR.runs (pc' := 121) (lc' := [(5, .int x4), (0, .ref v0), (1, .ref 3), (2, .int v2), (3, .int v3), (4, .int v4), (6, .int v6), (7, .ref v7), (8, .int v8)]) (st' := [.int (1 : Int32), .int v4]) (S1 := S3) (nL := 9) (cd := cd_203) mx_203 rfl rfl 2 rfl ?_
        refine RR.weak [(0, .ref v0), (1, .ref 3), (2, .int v2), (3, .int v3), (5, .int x4), (6, .int v6)] ⟨rfl, rfl, rfl, rfl, rfl, rfl, trivial⟩ ?_
        exact s_o_fo_read_121 _ b15 _ _ _ _ _ _ _ _ h
      · refine RR.a_ne (fun q => absurd q c) (fun _ => ?_)
        refine RR.runs (pc' := 121) (lc' := [(5, .int x4), (0, .ref v0), (1, .ref 3), (2, .int v2), (3, .int v3), (4, .int v4), (6, .int v6), (7, .ref v7), (8, .int v8)]) (st' := [.int (0 : Int32), .int v4]) (S1 := S3) (nL := 9) (cd := cd_203) mx_203 rfl rfl 1 rfl ?_
        refine RR.weak [(0, .ref v0), (1, .ref 3), (2, .int v2), (3, .int v3), (5, .int x4), (6, .int v6)] ⟨rfl, rfl, rfl, rfl, rfl, rfl, trivial⟩ ?_
        exact s_o_fo_read_121 _ b15 _ _ _ _ _ _ _ _ h
def o_fo_read_86 (S : St) : Re Int32 :=
  some ((5 : Int32), S)
set_option maxRecDepth 100000 in
theorem s_o_fo_read_86 {d : Nat} {S' : St} {r : Int32} (S : St) (h : o_fo_read_86 S = some (r, S')) : RR KO (d + 3) 203 86 [] [] S (some (.int r)) S' := by
  unfold o_fo_read_86 at h
  refine RR.runs (pc' := 87) (lc' := []) (st' := [.int (5 : Int32)]) (S1 := S) (nL := 9) (cd := cd_203) mx_203 rfl rfl 1 rfl ?_
  cases h
  exact RR.reti mx_203 rfl rfl rfl
def o_fo_read_80 (k15 : Nat → Int32 → Int32 → Int32 → Int32 → Int32 → St → Re Int32) (v0 : Nat) (v2 : Int32) (v3 : Int32) (v4 : Int32) (v5 : Int32) (v6 : Int32) (v7 : Nat) (v8 : Int32) (S : St) : Re Int32 :=
  if v5 < (5 : Int32) then (
    o_fo_read_88 k15 v0 v2 v3 v4 v5 v6 v7 v8 S)
  else (
    o_fo_read_86 S)
set_option maxRecDepth 100000 in
theorem s_o_fo_read_80 {d : Nat} (k15 : Nat → Int32 → Int32 → Int32 → Int32 → Int32 → St → Re Int32) {S' : St} {r : Int32} (b15 : ∀ (v0 : Nat) (v2 : Int32) (v3 : Int32) (v4 : Int32) (v5 : Int32) (v6 : Int32) (S : St), k15 v0 v2 v3 v4 v5 v6 S = some (r, S') → RR KO (d + 3) 203 15 [(0, .ref v0), (1, .ref 3), (2, .int v2), (3, .int v3), (4, .int v4), (5, .int v5), (6, .int v6)] [] S (some (.int r)) S') (v0 : Nat) (v2 : Int32) (v3 : Int32) (v4 : Int32) (v5 : Int32) (v6 : Int32) (v7 : Nat) (v8 : Int32) (S : St) (h : o_fo_read_80 k15 v0 v2 v3 v4 v5 v6 v7 v8 S = some (r, S')) : RR KO (d + 3) 203 80 [(0, .ref v0), (1, .ref 3), (2, .int v2), (3, .int v3), (4, .int v4), (5, .int v5), (6, .int v6), (7, .ref v7), (8, .int v8)] [] S (some (.int r)) S' := by
  unfold o_fo_read_80 at h
  refine RR.runs (pc' := icm .lt v5 (5 : Int32) 88 86) (lc' := [(0, .ref v0), (1, .ref 3), (2, .int v2), (3, .int v3), (4, .int v4), (5, .int v5), (6, .int v6), (7, .ref v7), (8, .int v8)]) (st' := []) (S1 := S) (nL := 9) (cd := cd_203) mx_203 rfl rfl 3 rfl ?_
  rcases ifE h with ⟨c, h⟩ | ⟨c, h⟩
  · refine RR.c_lt (fun _ => ?_) (fun q => absurd c q)
    refine RR.weak [(0, .ref v0), (1, .ref 3), (2, .int v2), (3, .int v3), (4, .int v4), (5, .int v5), (6, .int v6), (7, .ref v7), (8, .int v8)] ⟨rfl, rfl, rfl, rfl, rfl, rfl, rfl, rfl, rfl, trivial⟩ ?_
    exact s_o_fo_read_88 _ b15 _ _ _ _ _ _ _ _ _ h
  · refine RR.c_lt (fun q => absurd q c) (fun _ => ?_)
    refine RR.weak [] trivial ?_
    exact s_o_fo_read_86 _ h
def o_fo_read_78 (S : St) : Re Int32 :=
  some ((1 : Int32), S)
set_option maxRecDepth 100000 in
theorem s_o_fo_read_78 {d : Nat} {S' : St} {r : Int32} (S : St) (h : o_fo_read_78 S = some (r, S')) : RR KO (d + 3) 203 78 [] [] S (some (.int r)) S' := by
  unfold o_fo_read_78 at h
  refine RR.runs (pc' := 79) (lc' := []) (st' := [.int (1 : Int32)]) (S1 := S) (nL := 9) (cd := cd_203) mx_203 rfl rfl 1 rfl ?_
  cases h
  exact RR.reti mx_203 rfl rfl rfl
def o_fo_read_50 (k15 : Nat → Int32 → Int32 → Int32 → Int32 → Int32 → St → Re Int32) (v0 : Nat) (v2 : Int32) (v3 : Int32) (v4 : Int32) (v5 : Int32) (v6 : Int32) (v7 : Nat) (p0 : Int32) (S : St) : Re Int32 :=
  if v3 = 0 then (
    o_fo_read_88 k15 v0 v2 v3 v4 v5 v6 v7 p0 S)
  else (
    if p0 = 0 then (
      if ((KO.1 v7).1 < 8 ∨ (KO.1 v7).1 = 20) ∧ ((KO.1 1002).1 < 8 ∨ (KO.1 1002).1 = 20) then (
if v7 = 1002 then (
        o_fo_read_80 k15 v0 v2 v3 v4 v5 v6 v7 p0 S)
      else (
        if (KO.1 v7).1 = 20 then (
bn (o_tk_isFactOf v7 v2 S) fun r3 S4 =>
        if r3 = 0 then (
          o_fo_read_78 S4)
        else (
          o_fo_read_80 k15 v0 v2 v3 v4 v5 v6 v7 p0 S4)) else none)) else none)
    else (
      o_fo_read_80 k15 v0 v2 v3 v4 v5 v6 v7 p0 S))
set_option maxRecDepth 100000 in
theorem s_o_fo_read_50 {d : Nat} (k15 : Nat → Int32 → Int32 → Int32 → Int32 → Int32 → St → Re Int32) {S' : St} {r : Int32} (b15 : ∀ (v0 : Nat) (v2 : Int32) (v3 : Int32) (v4 : Int32) (v5 : Int32) (v6 : Int32) (S : St), k15 v0 v2 v3 v4 v5 v6 S = some (r, S') → RR KO (d + 3) 203 15 [(0, .ref v0), (1, .ref 3), (2, .int v2), (3, .int v3), (4, .int v4), (5, .int v5), (6, .int v6)] [] S (some (.int r)) S') (v0 : Nat) (v2 : Int32) (v3 : Int32) (v4 : Int32) (v5 : Int32) (v6 : Int32) (v7 : Nat) (p0 : Int32) (S : St) (h : o_fo_read_50 k15 v0 v2 v3 v4 v5 v6 v7 p0 S = some (r, S')) : RR KO (d + 3) 203 50 [(0, .ref v0), (1, .ref 3), (2, .int v2), (3, .int v3), (4, .int v4), (5, .int v5), (6, .int v6), (7, .ref v7)] [.int p0] S (some (.int r)) S' := by
  unfold o_fo_read_50 at h
  refine RR.runs (pc' := icm .eq v3 0 88 56) (lc' := [(8, .int p0), (0, .ref v0), (1, .ref 3), (2, .int v2), (3, .int v3), (4, .int v4), (5, .int v5), (6, .int v6), (7, .ref v7)]) (st' := []) (S1 := S) (nL := 9) (cd := cd_203) mx_203 rfl rfl 3 rfl ?_
  rcases ifE h with ⟨c, h⟩ | ⟨c, h⟩
  · refine RR.c_eq (fun _ => ?_) (fun q => absurd c q)
    refine RR.weak [(0, .ref v0), (1, .ref 3), (2, .int v2), (3, .int v3), (4, .int v4), (5, .int v5), (6, .int v6), (7, .ref v7), (8, .int p0)] ⟨rfl, rfl, rfl, rfl, rfl, rfl, rfl, rfl, rfl, trivial⟩ ?_
    exact s_o_fo_read_88 _ b15 _ _ _ _ _ _ _ _ _ h
  · refine RR.c_eq (fun q => absurd q c) (fun _ => ?_)
    refine RR.runs (pc' := icm .ne p0 0 80 61) (lc' := [(8, .int p0), (0, .ref v0), (1, .ref 3), (2, .int v2), (3, .int v3), (4, .int v4), (5, .int v5), (6, .int v6), (7, .ref v7)]) (st' := []) (S1 := S) (nL := 9) (cd := cd_203) mx_203 rfl rfl 2 rfl ?_
    rcases ifE h with ⟨c, h⟩ | ⟨c, h⟩
    · refine RR.c_ne (fun _ => ?_) (fun q => absurd c q)
      refine RR.runs (pc' := 66) (lc' := [(8, .int p0), (0, .ref v0), (1, .ref 3), (2, .int v2), (3, .int v3), (4, .int v4), (5, .int v5), (6, .int v6), (7, .ref v7)]) (st' := [.ref 1002, .ref v7]) (S1 := S) (nL := 9) (cd := cd_203) mx_203 rfl rfl 2 rfl ?_
      obtain ⟨g1, h⟩ := gpE h
      refine RR.gP (pc' := acm .eq v7 1002 80 69) (lc' := [(8, .int p0), (0, .ref v0), (1, .ref 3), (2, .int v2), (3, .int v3), (4, .int v4), (5, .int v5), (6, .int v6), (7, .ref v7)]) (st' := []) (S1 := S) (nL := 9) (cd := cd_203) mx_203 rfl rfl rfl g1 ?_
      rcases ifE h with ⟨c, h⟩ | ⟨c, h⟩
      · refine RR.a_eq (fun _ => ?_) (fun q => absurd c q)
        refine RR.weak [(0, .ref v0), (1, .ref 3), (2, .int v2), (3, .int v3), (4, .int v4), (5, .int v5), (6, .int v6), (7, .ref v7), (8, .int p0)] ⟨rfl, rfl, rfl, rfl, rfl, rfl, rfl, rfl, rfl, trivial⟩ ?_
        exact s_o_fo_read_80 _ b15 _ _ _ _ _ _ _ _ _ h
      · refine RR.a_eq (fun q => absurd q c) (fun _ => ?_)
        refine RR.runs (pc' := 72) (lc' := [(8, .int p0), (0, .ref v0), (1, .ref 3), (2, .int v2), (3, .int v3), (4, .int v4), (5, .int v5), (6, .int v6), (7, .ref v7)]) (st' := [.int v2, .ref v7]) (S1 := S) (nL := 9) (cd := cd_203) mx_203 rfl rfl 2 rfl ?_
        obtain ⟨g2, h⟩ := gpE h
        obtain ⟨r3, S4, h1, h⟩ := bnE h
        refine RR.callV (b := v7) (as := [.int v2]) (rest := []) (r1 := (some (.int r3))) (S1 := S4) mx_203 rfl rfl mx_1803 rfl rfl (by decide) (Or.inr ⟨g2, rfl⟩) (Nat.le_of_ble_eq_true rfl) (Nat.le_of_ble_eq_true rfl) (RC.deep (by omega) (s_o_tk_isFactOf (d := d) _ _ _ h1)) ?_
        show RR KO _ 203 75 [(8, .int p0), (0, .ref v0), (1, .ref 3), (2, .int v2), (3, .int v3), (4, .int v4), (5, .int v5), (6, .int v6), (7, .ref v7)] [.int r3] S4 _ _
        refine RR.runs (pc' := icm .ne r3 0 80 78) (lc' := [(8, .int p0), (0, .ref v0), (1, .ref 3), (2, .int v2), (3, .int v3), (4, .int v4), (5, .int v5), (6, .int v6), (7, .ref v7)]) (st' := []) (S1 := S4) (nL := 9) (cd := cd_203) mx_203 rfl rfl 1 rfl ?_
        rcases ifE h with ⟨c, h⟩ | ⟨c, h⟩
        · refine RR.c_ne (fun _ => ?_) (fun q => absurd c q)
          refine RR.weak [] trivial ?_
          exact s_o_fo_read_78 _ h
        · refine RR.c_ne (fun q => absurd q c) (fun _ => ?_)
          refine RR.weak [(0, .ref v0), (1, .ref 3), (2, .int v2), (3, .int v3), (4, .int v4), (5, .int v5), (6, .int v6), (7, .ref v7), (8, .int p0)] ⟨rfl, rfl, rfl, rfl, rfl, rfl, rfl, rfl, rfl, trivial⟩ ?_
          exact s_o_fo_read_80 _ b15 _ _ _ _ _ _ _ _ _ h
    · refine RR.c_ne (fun q => absurd q c) (fun _ => ?_)
      refine RR.weak [(0, .ref v0), (1, .ref 3), (2, .int v2), (3, .int v3), (4, .int v4), (5, .int v5), (6, .int v6), (7, .ref v7), (8, .int p0)] ⟨rfl, rfl, rfl, rfl, rfl, rfl, rfl, rfl, rfl, trivial⟩ ?_
      exact s_o_fo_read_80 _ b15 _ _ _ _ _ _ _ _ _ h
def o_fo_read_45 (k15 : Nat → Int32 → Int32 → Int32 → Int32 → Int32 → St → Re Int32) (v0 : Nat) (v2 : Int32) (v3 : Int32) (v4 : Int32) (v5 : Int32) (v6 : Int32) (v7 : Nat) (S : St) : Re Int32 :=
  o_fo_read_50 k15 v0 v2 v3 v4 v5 v6 v7 (1 : Int32) S
set_option maxRecDepth 100000 in
theorem s_o_fo_read_45 {d : Nat} (k15 : Nat → Int32 → Int32 → Int32 → Int32 → Int32 → St → Re Int32) {S' : St} {r : Int32} (b15 : ∀ (v0 : Nat) (v2 : Int32) (v3 : Int32) (v4 : Int32) (v5 : Int32) (v6 : Int32) (S : St), k15 v0 v2 v3 v4 v5 v6 S = some (r, S') → RR KO (d + 3) 203 15 [(0, .ref v0), (1, .ref 3), (2, .int v2), (3, .int v3), (4, .int v4), (5, .int v5), (6, .int v6)] [] S (some (.int r)) S') (v0 : Nat) (v2 : Int32) (v3 : Int32) (v4 : Int32) (v5 : Int32) (v6 : Int32) (v7 : Nat) (S : St) (h : o_fo_read_45 k15 v0 v2 v3 v4 v5 v6 v7 S = some (r, S')) : RR KO (d + 3) 203 45 [(0, .ref v0), (1, .ref 3), (2, .int v2), (3, .int v3), (4, .int v4), (5, .int v5), (6, .int v6), (7, .ref v7)] [] S (some (.int r)) S' := by
  unfold o_fo_read_45 at h
  refine RR.runs (pc' := 50) (lc' := [(0, .ref v0), (1, .ref 3), (2, .int v2), (3, .int v3), (4, .int v4), (5, .int v5), (6, .int v6), (7, .ref v7)]) (st' := [.int (1 : Int32)]) (S1 := S) (nL := 9) (cd := cd_203) mx_203 rfl rfl 2 rfl ?_
  refine RR.weak [(0, .ref v0), (1, .ref 3), (2, .int v2), (3, .int v3), (4, .int v4), (5, .int v5), (6, .int v6), (7, .ref v7)] ⟨rfl, rfl, rfl, rfl, rfl, rfl, rfl, rfl, trivial⟩ ?_
  exact s_o_fo_read_50 _ b15 _ _ _ _ _ _ _ _ _ h
def o_fo_read_15 : Nat → Nat → Int32 → Int32 → Int32 → Int32 → Int32 → St → Re Int32
  | 0, _, _, _, _, _, _, _ => none
  | n + 1, v0, v2, v3, v4, v5, v6, S =>
  if (1000 : Int32) < v6 then (
    o_fo_read_250 S)
  else (
    oq (rQ S 3 6) none fun o1 =>
    if ((KO.1 o1).1 < 8 ∨ (KO.1 o1).1 = 20) ∧ ((KO.1 1007).1 < 8 ∨ (KO.1 1007).1 = 20) then (
if o1 = 1007 then (
      o_fo_read_45 (o_fo_read_15 n) v0 v2 v3 v4 v5 v6 o1 S)
    else (
      if ((KO.1 o1).1 < 8 ∨ (KO.1 o1).1 = 20) ∧ ((KO.1 1004).1 < 8 ∨ (KO.1 1004).1 = 20) then (
if o1 = 1004 then (
        o_fo_read_45 (o_fo_read_15 n) v0 v2 v3 v4 v5 v6 o1 S)
      else (
        o_fo_read_50 (o_fo_read_15 n) v0 v2 v3 v4 v5 v6 o1 (0 : Int32) S)) else none)) else none)
set_option maxRecDepth 100000 in
theorem s_o_fo_read_15 {d : Nat} {S' : St} {r : Int32} : ∀ (n : Nat) (v0 : Nat) (v2 : Int32) (v3 : Int32) (v4 : Int32) (v5 : Int32) (v6 : Int32) (S : St), o_fo_read_15 n v0 v2 v3 v4 v5 v6 S = some (r, S') → RR KO (d + 3) 203 15 [(0, .ref v0), (1, .ref 3), (2, .int v2), (3, .int v3), (4, .int v4), (5, .int v5), (6, .int v6)] [] S (some (.int r)) S' := by
  intro n
  induction n with
  | zero => intro v0 v2 v3 v4 v5 v6 S h; simp only [o_fo_read_15] at h; cases h
  | succ n ih =>
    intro v0 v2 v3 v4 v5 v6 S h
    simp only [o_fo_read_15] at h
    refine RR.runs (pc' := icm .gt v6 (1000 : Int32) 250 23) (lc' := [(0, .ref v0), (1, .ref 3), (2, .int v2), (3, .int v3), (4, .int v4), (5, .int v5), (6, .int v6)]) (st' := []) (S1 := S) (nL := 9) (cd := cd_203) mx_203 rfl rfl 3 rfl ?_
    rcases ifE h with ⟨c, h⟩ | ⟨c, h⟩
    · refine RR.c_gt (fun _ => ?_) (fun q => absurd c q)
      refine RR.weak [] trivial ?_
      exact s_o_fo_read_250 _ h
    · refine RR.c_gt (fun q => absurd q c) (fun _ => ?_)
      refine RR.runs (pc' := 27) (lc' := [(0, .ref v0), (1, .ref 3), (2, .int v2), (3, .int v3), (4, .int v4), (5, .int v5), (6, .int v6)]) (st' := [qv (rQ S 3 6)]) (S1 := S) (nL := 9) (cd := cd_203) mx_203 rfl rfl 2 rfl ?_
      rcases oqE h with ⟨e1, h⟩ | ⟨o1, eo1, h⟩
      · cases h
      rw [eo1]
      refine RR.runs (pc' := 34) (lc' := [(7, .ref o1), (0, .ref v0), (1, .ref 3), (2, .int v2), (3, .int v3), (4, .int v4), (5, .int v5), (6, .int v6)]) (st' := [.ref 1007, .ref o1]) (S1 := S) (nL := 9) (cd := cd_203) mx_203 rfl rfl 3 rfl ?_
      obtain ⟨g2, h⟩ := gpE h
      refine RR.gP (pc' := acm .eq o1 1007 45 37) (lc' := [(7, .ref o1), (0, .ref v0), (1, .ref 3), (2, .int v2), (3, .int v3), (4, .int v4), (5, .int v5), (6, .int v6)]) (st' := []) (S1 := S) (nL := 9) (cd := cd_203) mx_203 rfl rfl rfl g2 ?_
      rcases ifE h with ⟨c, h⟩ | ⟨c, h⟩
      · refine RR.a_eq (fun _ => ?_) (fun q => absurd c q)
        refine RR.weak [(0, .ref v0), (1, .ref 3), (2, .int v2), (3, .int v3), (4, .int v4), (5, .int v5), (6, .int v6), (7, .ref o1)] ⟨rfl, rfl, rfl, rfl, rfl, rfl, rfl, rfl, trivial⟩ ?_
        exact s_o_fo_read_45 _ (fun _ _ _ _ _ _ S h => ih _ _ _ _ _ _ S h) _ _ _ _ _ _ _ _ h
      · refine RR.a_eq (fun q => absurd q c) (fun _ => ?_)
        refine RR.runs (pc' := 42) (lc' := [(7, .ref o1), (0, .ref v0), (1, .ref 3), (2, .int v2), (3, .int v3), (4, .int v4), (5, .int v5), (6, .int v6)]) (st' := [.ref 1004, .ref o1]) (S1 := S) (nL := 9) (cd := cd_203) mx_203 rfl rfl 2 rfl ?_
        obtain ⟨g3, h⟩ := gpE h
        refine RR.gP (pc' := acm .ne o1 1004 49 45) (lc' := [(7, .ref o1), (0, .ref v0), (1, .ref 3), (2, .int v2), (3, .int v3), (4, .int v4), (5, .int v5), (6, .int v6)]) (st' := []) (S1 := S) (nL := 9) (cd := cd_203) mx_203 rfl rfl rfl g3 ?_
        rcases ifE h with ⟨c, h⟩ | ⟨c, h⟩
        · refine RR.a_ne (fun _ => ?_) (fun q => absurd c q)
          refine RR.weak [(0, .ref v0), (1, .ref 3), (2, .int v2), (3, .int v3), (4, .int v4), (5, .int v5), (6, .int v6), (7, .ref o1)] ⟨rfl, rfl, rfl, rfl, rfl, rfl, rfl, rfl, trivial⟩ ?_
          exact s_o_fo_read_45 _ (fun _ _ _ _ _ _ S h => ih _ _ _ _ _ _ S h) _ _ _ _ _ _ _ _ h
        · refine RR.a_ne (fun q => absurd q c) (fun _ => ?_)
          refine RR.runs (pc' := 50) (lc' := [(7, .ref o1), (0, .ref v0), (1, .ref 3), (2, .int v2), (3, .int v3), (4, .int v4), (5, .int v5), (6, .int v6)]) (st' := [.int (0 : Int32)]) (S1 := S) (nL := 9) (cd := cd_203) mx_203 rfl rfl 1 rfl ?_
          refine RR.weak [(0, .ref v0), (1, .ref 3), (2, .int v2), (3, .int v3), (4, .int v4), (5, .int v5), (6, .int v6), (7, .ref o1)] ⟨rfl, rfl, rfl, rfl, rfl, rfl, rfl, rfl, trivial⟩ ?_
          exact s_o_fo_read_50 _ (fun _ _ _ _ _ _ S h => ih _ _ _ _ _ _ S h) _ _ _ _ _ _ _ _ _ h
def o_fo_read (v0 : Nat) (v2 : Int32) (S : St) : Re Int32 :=
  if KO.1 v0 = (0, 1) then (
bn (o_fo_clear v0 S) fun r2 S3 =>
  o_fo_read_15 FU v0 v2 (1 : Int32) (0 : Int32) (0 : Int32) (0 : Int32) S3) else none
set_option maxRecDepth 100000 in
theorem s0_o_fo_read {d : Nat} {S' : St} {r : Int32} (v0 : Nat) (v2 : Int32) (S : St) (h : o_fo_read v0 v2 S = some (r, S')) : RR KO (d + 3) 203 0 [(0, .ref v0), (1, .ref 3), (2, .int v2)] [] S (some (.int r)) S' := by
  unfold o_fo_read at h
  refine RR.runs (pc' := 1) (lc' := [(0, .ref v0), (1, .ref 3), (2, .int v2)]) (st' := [.ref v0]) (S1 := S) (nL := 9) (cd := cd_203) mx_203 rfl rfl 1 rfl ?_
  obtain ⟨g1, h⟩ := gpE h
  obtain ⟨r2, S3, h1, h⟩ := bnE h
  refine RR.callV (b := v0) (as := []) (rest := []) (r1 := none) (S1 := S3) mx_203 rfl rfl mx_201 rfl rfl (by decide) (Or.inl g1) (Nat.le_of_ble_eq_true rfl) (Nat.le_of_ble_eq_true rfl) (RC.deep (by omega) (s_o_fo_clear (d := d) _ _ h1)) ?_
  show RR KO _ 203 4 [(0, .ref v0), (1, .ref 3), (2, .int v2)] [] S3 _ _
  refine RR.runs (pc' := 15) (lc' := [(6, .int (0 : Int32)), (5, .int (0 : Int32)), (4, .int (0 : Int32)), (3, .int (1 : Int32)), (0, .ref v0), (1, .ref 3), (2, .int v2)]) (st' := []) (S1 := S3) (nL := 9) (cd := cd_203) mx_203 rfl rfl 8 rfl ?_
  refine RR.weak [(0, .ref v0), (1, .ref 3), (2, .int v2), (3, .int (1 : Int32)), (4, .int (0 : Int32)), (5, .int (0 : Int32)), (6, .int (0 : Int32))] ⟨rfl, rfl, rfl, rfl, rfl, rfl, rfl, trivial⟩ ?_
  exact s_o_fo_read_15 _ _ _ _ _ _ _ _ h
theorem s_o_fo_read {d : Nat} {S' : St} {r : Int32} (v0 : Nat) (v2 : Int32) (S : St) (h : o_fo_read v0 v2 S = some (r, S')) : RC KO (d + 3) 203 [.ref v0, .ref 3, .int v2] S (some (.int r)) S' := RC.of rfl (s0_o_fo_read v0 v2 S h)
-- NameOrchard$Formula joined (LNameOrchard$Token;II)I
def o_fo_joined_74 (p0 : Int32) (S : St) : Re Int32 :=
  some (p0, S)
set_option maxRecDepth 100000 in
theorem s_o_fo_joined_74 {d : Nat} {S' : St} {r : Int32} (p0 : Int32) (S : St) (h : o_fo_joined_74 p0 S = some (r, S')) : RR KO (d + 1) 211 74 [] [.int p0] S (some (.int r)) S' := by
  unfold o_fo_joined_74 at h
  cases h
  exact RR.reti mx_211 rfl rfl rfl
def o_fo_joined_85 (p0 : Int32) (S : St) : Re Int32 :=
  some (p0, S)
set_option maxRecDepth 100000 in
theorem s_o_fo_joined_85 {d : Nat} {S' : St} {r : Int32} (p0 : Int32) (S : St) (h : o_fo_joined_85 p0 S = some (r, S')) : RR KO (d + 1) 211 85 [] [.int p0] S (some (.int r)) S' := by
  unfold o_fo_joined_85 at h
  cases h
  exact RR.reti mx_211 rfl rfl rfl
def o_fo_joined_99 (p0 : Int32) (S : St) : Re Int32 :=
  some (p0, S)
set_option maxRecDepth 100000 in
theorem s_o_fo_joined_99 {d : Nat} {S' : St} {r : Int32} (p0 : Int32) (S : St) (h : o_fo_joined_99 p0 S = some (r, S')) : RR KO (d + 1) 211 99 [] [.int p0] S (some (.int r)) S' := by
  unfold o_fo_joined_99 at h
  cases h
  exact RR.reti mx_211 rfl rfl rfl
def o_fo_joined_98 (S : St) : Re Int32 :=
  o_fo_joined_99 (0 : Int32) S
set_option maxRecDepth 100000 in
theorem s_o_fo_joined_98 {d : Nat} {S' : St} {r : Int32} (S : St) (h : o_fo_joined_98 S = some (r, S')) : RR KO (d + 1) 211 98 [] [] S (some (.int r)) S' := by
  unfold o_fo_joined_98 at h
  refine RR.runs (pc' := 99) (lc' := []) (st' := [.int (0 : Int32)]) (S1 := S) (nL := 3) (cd := cd_211) mx_211 rfl rfl 1 rfl ?_
  refine RR.weak [] trivial ?_
  exact s_o_fo_joined_99 _ _ h
def o_fo_joined_113 (p0 : Int32) (S : St) : Re Int32 :=
  some (p0, S)
set_option maxRecDepth 100000 in
theorem s_o_fo_joined_113 {d : Nat} {S' : St} {r : Int32} (p0 : Int32) (S : St) (h : o_fo_joined_113 p0 S = some (r, S')) : RR KO (d + 1) 211 113 [] [.int p0] S (some (.int r)) S' := by
  unfold o_fo_joined_113 at h
  cases h
  exact RR.reti mx_211 rfl rfl rfl
def o_fo_joined_108 (S : St) : Re Int32 :=
  o_fo_joined_113 (1 : Int32) S
set_option maxRecDepth 100000 in
theorem s_o_fo_joined_108 {d : Nat} {S' : St} {r : Int32} (S : St) (h : o_fo_joined_108 S = some (r, S')) : RR KO (d + 1) 211 108 [] [] S (some (.int r)) S' := by
  unfold o_fo_joined_108 at h
  refine RR.runs (pc' := 113) (lc' := []) (st' := [.int (1 : Int32)]) (S1 := S) (nL := 3) (cd := cd_211) mx_211 rfl rfl 2 rfl ?_
  refine RR.weak [] trivial ?_
  exact s_o_fo_joined_113 _ _ h
def o_fo_joined (v0 : Nat) (v1 : Int32) (v2 : Int32) (S : St) : Re Int32 :=
  if (KO.1 v0).1 = 20 then (
  if (Int32.ofNat (KO.1 v0).2) < 0 ∨ 42 ≤ ((Int32.ofNat (KO.1 v0).2)).toNatClampNeg then none else
  if ((smL.getD ((Int32.ofNat (KO.1 v0).2)).toNatClampNeg 0)).toInt = 1 then (
    some ((v1 + v2), S)) else (
  if ((smL.getD ((Int32.ofNat (KO.1 v0).2)).toNatClampNeg 0)).toInt = 2 then (
    some ((v1 - v2), S)) else (
  if ((smL.getD ((Int32.ofNat (KO.1 v0).2)).toNatClampNeg 0)).toInt = 3 then (
    some ((v1 * v2), S)) else (
  if ((smL.getD ((Int32.ofNat (KO.1 v0).2)).toNatClampNeg 0)).toInt = 4 then (
    if v1 < v2 then (
      o_fo_joined_74 (1 : Int32) S)
    else (
      o_fo_joined_74 (0 : Int32) S)) else (
  if ((smL.getD ((Int32.ofNat (KO.1 v0).2)).toNatClampNeg 0)).toInt = 5 then (
    if v1 = v2 then (
      o_fo_joined_85 (1 : Int32) S)
    else (
      o_fo_joined_85 (0 : Int32) S)) else (
  if ((smL.getD ((Int32.ofNat (KO.1 v0).2)).toNatClampNeg 0)).toInt = 6 then (
    if v1 = 0 then (
      o_fo_joined_98 S)
    else (
      if v2 = 0 then (
        o_fo_joined_98 S)
      else (
        o_fo_joined_99 (1 : Int32) S))) else (
  if ((smL.getD ((Int32.ofNat (KO.1 v0).2)).toNatClampNeg 0)).toInt = 7 then (
    if v1 = 0 then (
      if v2 = 0 then (
        o_fo_joined_113 (0 : Int32) S)
      else (
        o_fo_joined_108 S))
    else (
      o_fo_joined_108 S)) else (
    some ((0 : Int32), S))))))))) else none
set_option maxRecDepth 100000 in
theorem s0_o_fo_joined {d : Nat} {S' : St} {r : Int32} (v0 : Nat) (v1 : Int32) (v2 : Int32) (S : St) (h : o_fo_joined v0 v1 v2 S = some (r, S')) : RR KO (d + 1) 211 0 [(0, .ref v0), (1, .int v1), (2, .int v2)] [] S (some (.int r)) S' := by
  unfold o_fo_joined at h
  refine RR.runs (pc' := 4) (lc' := [(0, .ref v0), (1, .int v1), (2, .int v2)]) (st' := [.ref v0, .ref 1100]) (S1 := S) (nL := 3) (cd := cd_211) mx_211 rfl rfl 2 rfl ?_
  obtain ⟨g1, h⟩ := gpE h
  refine RR.ord mx_211 rfl rfl (by decide) g1 (Nat.le_of_ble_eq_true rfl) ?_
  show RR KO _ 211 7 [(0, .ref v0), (1, .int v1), (2, .int v2)] [.int ((Int32.ofNat (KO.1 v0).2)), .ref 1100] S _ _
  obtain ⟨g, h⟩ := gnE h
  refine RR.g30 (c1 := (KO.1 1100).1 = 1) (c2 := (KO.1 1100).1 = 30) (o := none) (pc' := 8) (lc' := [(0, .ref v0), (1, .int v1), (2, .int v2)]) (st' := [.int ((smL.getD ((Int32.ofNat (KO.1 v0).2)).toNatClampNeg 0))]) (S1 := S) (nL := 3) (cd := cd_211) mx_211 rfl rfl rfl (by decide) rfl g ?_
  refine RR.runs (pc' := swt ((smL.getD ((Int32.ofNat (KO.1 v0).2)).toNatClampNeg 0)) 8 106 1 [44, 48, 52, 56, 67, 78, 92]) (lc' := [(0, .ref v0), (1, .int v1), (2, .int v2)]) (st' := []) (S1 := S) (nL := 3) (cd := cd_211) mx_211 rfl rfl 1 rfl ?_
  rcases ifE h with ⟨c, h⟩ | ⟨c, h⟩
  · refine RR.sw 52 rfl (fun _ => ?_) (fun q => absurd c q)
    refine RR.runs (pc' := 55) (lc' := [(0, .ref v0), (1, .int v1), (2, .int v2)]) (st' := [.int (v1 + v2)]) (S1 := S) (nL := 3) (cd := cd_211) mx_211 rfl rfl 3 rfl ?_
    cases h
    exact RR.reti mx_211 rfl rfl rfl
  refine RR.sw 52 rfl (fun q => absurd q c) (fun _ => ?_)
  rcases ifE h with ⟨c, h⟩ | ⟨c, h⟩
  · refine RR.sw 56 rfl (fun _ => ?_) (fun q => absurd c q)
    refine RR.runs (pc' := 59) (lc' := [(0, .ref v0), (1, .int v1), (2, .int v2)]) (st' := [.int (v1 - v2)]) (S1 := S) (nL := 3) (cd := cd_211) mx_211 rfl rfl 3 rfl ?_
    cases h
    exact RR.reti mx_211 rfl rfl rfl
  refine RR.sw 56 rfl (fun q => absurd q c) (fun _ => ?_)
  rcases ifE h with ⟨c, h⟩ | ⟨c, h⟩
  · refine RR.sw 60 rfl (fun _ => ?_) (fun q => absurd c q)
    refine RR.runs (pc' := 63) (lc' := [(0, .ref v0), (1, .int v1), (2, .int v2)]) (st' := [.int (v1 * v2)]) (S1 := S) (nL := 3) (cd := cd_211) mx_211 rfl rfl 3 rfl ?_
    cases h
    exact RR.reti mx_211 rfl rfl rfl
  refine RR.sw 60 rfl (fun q => absurd q c) (fun _ => ?_)
  rcases ifE h with ⟨c, h⟩ | ⟨c, h⟩
  · refine RR.sw 64 rfl (fun _ => ?_) (fun q => absurd c q)
    refine RR.runs (pc' := icm .ge v1 v2 73 69) (lc' := [(0, .ref v0), (1, .int v1), (2, .int v2)]) (st' := []) (S1 := S) (nL := 3) (cd := cd_211) mx_211 rfl rfl 3 rfl ?_
    rcases ifE h with ⟨c, h⟩ | ⟨c, h⟩
    · refine RR.c_ge (fun _ => ?_) (fun q => absurd c q)
      refine RR.runs (pc' := 74) (lc' := [(0, .ref v0), (1, .int v1), (2, .int v2)]) (st' := [.int (1 : Int32)]) (S1 := S) (nL := 3) (cd := cd_211) mx_211 rfl rfl 2 rfl ?_
      refine RR.weak [] trivial ?_
      exact s_o_fo_joined_74 _ _ h
    · refine RR.c_ge (fun q => absurd q c) (fun _ => ?_)
      refine RR.runs (pc' := 74) (lc' := [(0, .ref v0), (1, .int v1), (2, .int v2)]) (st' := [.int (0 : Int32)]) (S1 := S) (nL := 3) (cd := cd_211) mx_211 rfl rfl 1 rfl ?_
      refine RR.weak [] trivial ?_
      exact s_o_fo_joined_74 _ _ h
  refine RR.sw 64 rfl (fun q => absurd q c) (fun _ => ?_)
  rcases ifE h with ⟨c, h⟩ | ⟨c, h⟩
  · refine RR.sw 75 rfl (fun _ => ?_) (fun q => absurd c q)
    refine RR.runs (pc' := icm .ne v1 v2 84 80) (lc' := [(0, .ref v0), (1, .int v1), (2, .int v2)]) (st' := []) (S1 := S) (nL := 3) (cd := cd_211) mx_211 rfl rfl 3 rfl ?_
    rcases ifE h with ⟨c, h⟩ | ⟨c, h⟩
    · refine RR.c_ne (fun _ => ?_) (fun q => absurd c q)
      refine RR.runs (pc' := 85) (lc' := [(0, .ref v0), (1, .int v1), (2, .int v2)]) (st' := [.int (1 : Int32)]) (S1 := S) (nL := 3) (cd := cd_211) mx_211 rfl rfl 2 rfl ?_
      refine RR.weak [] trivial ?_
      exact s_o_fo_joined_85 _ _ h
    · refine RR.c_ne (fun q => absurd q c) (fun _ => ?_)
      refine RR.runs (pc' := 85) (lc' := [(0, .ref v0), (1, .int v1), (2, .int v2)]) (st' := [.int (0 : Int32)]) (S1 := S) (nL := 3) (cd := cd_211) mx_211 rfl rfl 1 rfl ?_
      refine RR.weak [] trivial ?_
      exact s_o_fo_joined_85 _ _ h
  refine RR.sw 75 rfl (fun q => absurd q c) (fun _ => ?_)
  rcases ifE h with ⟨c, h⟩ | ⟨c, h⟩
  · refine RR.sw 86 rfl (fun _ => ?_) (fun q => absurd c q)
    refine RR.runs (pc' := icm .eq v1 0 98 90) (lc' := [(0, .ref v0), (1, .int v1), (2, .int v2)]) (st' := []) (S1 := S) (nL := 3) (cd := cd_211) mx_211 rfl rfl 2 rfl ?_
    rcases ifE h with ⟨c, h⟩ | ⟨c, h⟩
    · refine RR.c_eq (fun _ => ?_) (fun q => absurd c q)
      refine RR.weak [] trivial ?_
      exact s_o_fo_joined_98 _ h
    · refine RR.c_eq (fun q => absurd q c) (fun _ => ?_)
      refine RR.runs (pc' := icm .eq v2 0 98 94) (lc' := [(0, .ref v0), (1, .int v1), (2, .int v2)]) (st' := []) (S1 := S) (nL := 3) (cd := cd_211) mx_211 rfl rfl 2 rfl ?_
      rcases ifE h with ⟨c, h⟩ | ⟨c, h⟩
      · refine RR.c_eq (fun _ => ?_) (fun q => absurd c q)
        refine RR.weak [] trivial ?_
        exact s_o_fo_joined_98 _ h
      · refine RR.c_eq (fun q => absurd q c) (fun _ => ?_)
        refine RR.runs (pc' := 99) (lc' := [(0, .ref v0), (1, .int v1), (2, .int v2)]) (st' := [.int (1 : Int32)]) (S1 := S) (nL := 3) (cd := cd_211) mx_211 rfl rfl 2 rfl ?_
        refine RR.weak [] trivial ?_
        exact s_o_fo_joined_99 _ _ h
  refine RR.sw 86 rfl (fun q => absurd q c) (fun _ => ?_)
  rcases ifE h with ⟨c, h⟩ | ⟨c, h⟩
  · refine RR.sw 100 rfl (fun _ => ?_) (fun q => absurd c q)
    refine RR.runs (pc' := icm .ne v1 0 108 104) (lc' := [(0, .ref v0), (1, .int v1), (2, .int v2)]) (st' := []) (S1 := S) (nL := 3) (cd := cd_211) mx_211 rfl rfl 2 rfl ?_
    rcases ifE h with ⟨c, h⟩ | ⟨c, h⟩
    · refine RR.c_ne (fun _ => ?_) (fun q => absurd c q)
      refine RR.runs (pc' := icm .eq v2 0 112 108) (lc' := [(0, .ref v0), (1, .int v1), (2, .int v2)]) (st' := []) (S1 := S) (nL := 3) (cd := cd_211) mx_211 rfl rfl 2 rfl ?_
      rcases ifE h with ⟨c, h⟩ | ⟨c, h⟩
      · refine RR.c_eq (fun _ => ?_) (fun q => absurd c q)
        refine RR.runs (pc' := 113) (lc' := [(0, .ref v0), (1, .int v1), (2, .int v2)]) (st' := [.int (0 : Int32)]) (S1 := S) (nL := 3) (cd := cd_211) mx_211 rfl rfl 1 rfl ?_
        refine RR.weak [] trivial ?_
        exact s_o_fo_joined_113 _ _ h
      · refine RR.c_eq (fun q => absurd q c) (fun _ => ?_)
        refine RR.weak [] trivial ?_
        exact s_o_fo_joined_108 _ h
    · refine RR.c_ne (fun q => absurd q c) (fun _ => ?_)
      refine RR.weak [] trivial ?_
      exact s_o_fo_joined_108 _ h
  refine RR.sw 100 rfl (fun q => absurd q c) (fun _ => ?_)
  refine RR.sw0 114 rfl ?_
  refine RR.runs (pc' := 115) (lc' := [(0, .ref v0), (1, .int v1), (2, .int v2)]) (st' := [.int (0 : Int32)]) (S1 := S) (nL := 3) (cd := cd_211) mx_211 rfl rfl 1 rfl ?_
  cases h
  exact RR.reti mx_211 rfl rfl rfl
theorem s_o_fo_joined {d : Nat} {S' : St} {r : Int32} (v0 : Nat) (v1 : Int32) (v2 : Int32) (S : St) (h : o_fo_joined v0 v1 v2 S = some (r, S')) : RC KO (d + 1) 211 [.ref v0, .int v1, .int v2] S (some (.int r)) S' := RC.of rfl (s0_o_fo_joined v0 v1 v2 S h)
-- NameOrchard$Formula answer (IIII)I
def o_fo_answer_275 (k35 : Nat → Int32 → Int32 → St → Re Int32) (v0 : Nat) (v5 : Int32) (v6 : Int32) (S : St) : Re Int32 :=
  lt' ((v6 + (1 : Int32)) : Int32) fun x1 =>
  k35 v0 v5 x1 S
set_option maxRecDepth 100000 in
theorem s_o_fo_answer_275 {d : Nat} (k35 : Nat → Int32 → Int32 → St → Re Int32) {S' : St} {r : Int32} (b35 : ∀ (v0 : Nat) (v5 : Int32) (v6 : Int32) (S : St), k35 v0 v5 v6 S = some (r, S') → RR KO (d + 2) 210 35 [(0, .ref v0), (5, .int v5), (6, .int v6)] [] S (some (.int r)) S') (v0 : Nat) (v5 : Int32) (v6 : Int32) (S : St) (h : o_fo_answer_275 k35 v0 v5 v6 S = some (r, S')) : RR KO (d + 2) 210 275 [(0, .ref v0), (5, .int v5), (6, .int v6)] [] S (some (.int r)) S' := by
  unfold o_fo_answer_275 at h
  refine RR.runs (pc' := 278) (lc' := [(6, .int ((v6 + (1 : Int32)))), (0, .ref v0), (5, .int v5)]) (st' := []) (S1 := S) (nL := 10) (cd := cd_210) mx_210 rfl rfl 1 rfl ?_
  obtain ⟨x1, ex1, h⟩ := ltE h
  rw [← ex1]
  refine RR.runs (pc' := 35) (lc' := [(6, .int x1), (0, .ref v0), (5, .int v5)]) (st' := []) (S1 := S) (nL := 10) (cd := cd_210) mx_210 rfl rfl 1 rfl ?_
  refine RR.weak [(0, .ref v0), (5, .int v5), (6, .int x1)] ⟨rfl, rfl, rfl, trivial⟩ ?_
  exact b35 _ _ _ _ h
def o_fo_answer_271 (k35 : Nat → Int32 → Int32 → St → Re Int32) (v0 : Nat) (v5 : Int32) (v6 : Int32) (p0 : Int32) (p1 : Int32) (p2 : Nat) (S : St) : Re Int32 :=
  if (KO.1 p2).1 = 1 then (
  if p1 < 0 ∨ (KO.1 p2).2 ≤ p1.toNatClampNeg then none else
  lt' (wI S p2 p1.toNatClampNeg p0) fun S1 =>
  lt' ((v5 + (1 : Int32)) : Int32) fun x2 =>
  o_fo_answer_275 k35 v0 x2 v6 S1) else none
set_option maxRecDepth 100000 in
theorem s_o_fo_answer_271 {d : Nat} (k35 : Nat → Int32 → Int32 → St → Re Int32) {S' : St} {r : Int32} (b35 : ∀ (v0 : Nat) (v5 : Int32) (v6 : Int32) (S : St), k35 v0 v5 v6 S = some (r, S') → RR KO (d + 2) 210 35 [(0, .ref v0), (5, .int v5), (6, .int v6)] [] S (some (.int r)) S') (v0 : Nat) (v5 : Int32) (v6 : Int32) (p0 : Int32) (p1 : Int32) (p2 : Nat) (S : St) (h : o_fo_answer_271 k35 v0 v5 v6 p0 p1 p2 S = some (r, S')) : RR KO (d + 2) 210 271 [(0, .ref v0), (5, .int v5), (6, .int v6)] [.int p0, .int p1, .ref p2] S (some (.int r)) S' := by
  unfold o_fo_answer_271 at h
  obtain ⟨gq, h⟩ := gpE h
  obtain ⟨g, h⟩ := gnE h
  refine RR.gPNo (c2 := (KO.1 p2).1 = 1) (pc' := 272) (lc' := [(0, .ref v0), (5, .int v5), (6, .int v6)]) (st' := []) (S1 := (wI S p2 p1.toNatClampNeg p0)) (nL := 10) (cd := cd_210) mx_210 rfl rfl rfl gq g ?_
  obtain ⟨S1, eS1, h⟩ := ltE h
  rw [← eS1]
  refine RR.runs (pc' := 275) (lc' := [(5, .int ((v5 + (1 : Int32)))), (0, .ref v0), (6, .int v6)]) (st' := []) (S1 := S1) (nL := 10) (cd := cd_210) mx_210 rfl rfl 1 rfl ?_
  obtain ⟨x2, ex2, h⟩ := ltE h
  rw [← ex2]
  refine RR.weak [(0, .ref v0), (5, .int x2), (6, .int v6)] ⟨rfl, rfl, rfl, trivial⟩ ?_
  exact s_o_fo_answer_275 _ b35 _ _ _ _ h
def o_fo_answer_238 (k35 : Nat → Int32 → Int32 → St → Re Int32) (v0 : Nat) (v5 : Int32) (v6 : Int32) (v7 : Nat) (p0 : Int32) (S : St) : Re Int32 :=
  if KO.1 v0 = (0, 1) then (
  if p0 = 0 then (
        if (KO.1 (v0 + 8)).1 = 1 then (
    if v6 < 0 ∨ (KO.1 (v0 + 8)).2 ≤ v6.toNatClampNeg then none else
    o_fo_answer_271 k35 v0 v5 v6 ((rI S (v0 + 8) v6.toNatClampNeg)) v5 (v0 + 16) S) else none)
  else (
        if (KO.1 v7).1 = 20 then (
    if (KO.1 (v0 + 20)).1 = 1 then (
    if (tokFL.getD (KO.1 v7).2 0) < 0 ∨ (KO.1 (v0 + 20)).2 ≤ ((tokFL.getD (KO.1 v7).2 0)).toNatClampNeg then none else
    o_fo_answer_271 k35 v0 v5 v6 ((rI S (v0 + 20) ((tokFL.getD (KO.1 v7).2 0)).toNatClampNeg)) v5 (v0 + 16) S) else none) else none)) else none
set_option maxRecDepth 100000 in
theorem s_o_fo_answer_238 {d : Nat} (k35 : Nat → Int32 → Int32 → St → Re Int32) {S' : St} {r : Int32} (b35 : ∀ (v0 : Nat) (v5 : Int32) (v6 : Int32) (S : St), k35 v0 v5 v6 S = some (r, S') → RR KO (d + 2) 210 35 [(0, .ref v0), (5, .int v5), (6, .int v6)] [] S (some (.int r)) S') (v0 : Nat) (v5 : Int32) (v6 : Int32) (v7 : Nat) (p0 : Int32) (S : St) (h : o_fo_answer_238 k35 v0 v5 v6 v7 p0 S = some (r, S')) : RR KO (d + 2) 210 238 [(0, .ref v0), (5, .int v5), (6, .int v6), (7, .ref v7)] [.int p0] S (some (.int r)) S' := by
  unfold o_fo_answer_238 at h
  refine RR.runs (pc' := 241) (lc' := [(9, .int p0), (0, .ref v0), (5, .int v5), (6, .int v6), (7, .ref v7)]) (st' := [.ref v0]) (S1 := S) (nL := 10) (cd := cd_210) mx_210 rfl rfl 2 rfl ?_
  obtain ⟨g1, h⟩ := gpE h
  refine RR.gPo (pc' := 244) (lc' := [(9, .int p0), (0, .ref v0), (5, .int v5), (6, .int v6), (7, .ref v7)]) (st' := [.ref (v0 + 16)]) (S1 := S) (nL := 10) (cd := cd_210) mx_210 rfl rfl rfl ⟨g1, by decide, by decide⟩ ?_
  refine RR.runs (pc' := icm .eq p0 0 264 251) (lc' := [(9, .int p0), (0, .ref v0), (5, .int v5), (6, .int v6), (7, .ref v7)]) (st' := [.int v5, .ref (v0 + 16)]) (S1 := S) (nL := 10) (cd := cd_210) mx_210 rfl rfl 3 rfl ?_
  rcases ifE h with ⟨c, h⟩ | ⟨c, h⟩
  · refine RR.c_eq (fun _ => ?_) (fun q => absurd c q)
    refine RR.runs (pc' := 265) (lc' := [(9, .int p0), (0, .ref v0), (5, .int v5), (6, .int v6), (7, .ref v7)]) (st' := [.ref v0, .int v5, .ref (v0 + 16)]) (S1 := S) (nL := 10) (cd := cd_210) mx_210 rfl rfl 1 rfl ?_
    refine RR.gPo (pc' := 268) (lc' := [(9, .int p0), (0, .ref v0), (5, .int v5), (6, .int v6), (7, .ref v7)]) (st' := [.ref (v0 + 8), .int v5, .ref (v0 + 16)]) (S1 := S) (nL := 10) (cd := cd_210) mx_210 rfl rfl rfl ⟨g1, by decide, by decide⟩ ?_
    refine RR.runs (pc' := 270) (lc' := [(9, .int p0), (0, .ref v0), (5, .int v5), (6, .int v6), (7, .ref v7)]) (st' := [.int v6, .ref (v0 + 8), .int v5, .ref (v0 + 16)]) (S1 := S) (nL := 10) (cd := cd_210) mx_210 rfl rfl 1 rfl ?_
    obtain ⟨gq, h⟩ := gpE h
    obtain ⟨g, h⟩ := gnE h
    refine RR.gPNo (c2 := (KO.1 (v0 + 8)).1 = 1) (pc' := 271) (lc' := [(9, .int p0), (0, .ref v0), (5, .int v5), (6, .int v6), (7, .ref v7)]) (st' := [.int ((rI S (v0 + 8) v6.toNatClampNeg)), .int v5, .ref (v0 + 16)]) (S1 := S) (nL := 10) (cd := cd_210) mx_210 rfl rfl rfl gq g ?_
    refine RR.weak [(0, .ref v0), (5, .int v5), (6, .int v6)] ⟨rfl, rfl, rfl, trivial⟩ ?_
    exact s_o_fo_answer_271 _ b35 _ _ _ _ _ _ _ h
  · refine RR.c_eq (fun q => absurd q c) (fun _ => ?_)
    refine RR.runs (pc' := 252) (lc' := [(9, .int p0), (0, .ref v0), (5, .int v5), (6, .int v6), (7, .ref v7)]) (st' := [.ref v0, .int v5, .ref (v0 + 16)]) (S1 := S) (nL := 10) (cd := cd_210) mx_210 rfl rfl 1 rfl ?_
    refine RR.gPo (pc' := 255) (lc' := [(9, .int p0), (0, .ref v0), (5, .int v5), (6, .int v6), (7, .ref v7)]) (st' := [.ref (v0 + 20), .int v5, .ref (v0 + 16)]) (S1 := S) (nL := 10) (cd := cd_210) mx_210 rfl rfl rfl ⟨g1, by decide, by decide⟩ ?_
    refine RR.runs (pc' := 257) (lc' := [(9, .int p0), (0, .ref v0), (5, .int v5), (6, .int v6), (7, .ref v7)]) (st' := [.ref v7, .ref (v0 + 20), .int v5, .ref (v0 + 16)]) (S1 := S) (nL := 10) (cd := cd_210) mx_210 rfl rfl 1 rfl ?_
    obtain ⟨g2, h⟩ := gpE h
    refine RR.gNP (pc' := 260) (lc' := [(9, .int p0), (0, .ref v0), (5, .int v5), (6, .int v6), (7, .ref v7)]) (st' := [.int ((tokFL.getD (KO.1 v7).2 0)), .ref (v0 + 20), .int v5, .ref (v0 + 16)]) (S1 := S) (nL := 10) (cd := cd_210) mx_210 rfl rfl rfl (fun q => absurd (q.1 ▸ g2 : ((0, 9) : Nat × Nat).1 = 20) (by decide)) ⟨g2, by decide, rfl, by decide, by decide⟩ ?_
    obtain ⟨gq, h⟩ := gpE h
    obtain ⟨g, h⟩ := gnE h
    refine RR.gPNo (c2 := (KO.1 (v0 + 20)).1 = 1) (pc' := 261) (lc' := [(9, .int p0), (0, .ref v0), (5, .int v5), (6, .int v6), (7, .ref v7)]) (st' := [.int ((rI S (v0 + 20) ((tokFL.getD (KO.1 v7).2 0)).toNatClampNeg)), .int v5, .ref (v0 + 16)]) (S1 := S) (nL := 10) (cd := cd_210) mx_210 rfl rfl rfl gq g ?_
    refine RR.runs (pc' := 271) (lc' := [(9, .int p0), (0, .ref v0), (5, .int v5), (6, .int v6), (7, .ref v7)]) (st' := [.int ((rI S (v0 + 20) ((tokFL.getD (KO.1 v7).2 0)).toNatClampNeg)), .int v5, .ref (v0 + 16)]) (S1 := S) (nL := 10) (cd := cd_210) mx_210 rfl rfl 1 rfl ?_
    refine RR.weak [(0, .ref v0), (5, .int v5), (6, .int v6)] ⟨rfl, rfl, rfl, trivial⟩ ?_
    exact s_o_fo_answer_271 _ b35 _ _ _ _ _ _ _ h
def o_fo_answer_237 (k35 : Nat → Int32 → Int32 → St → Re Int32) (v0 : Nat) (v5 : Int32) (v6 : Int32) (v7 : Nat) (S : St) : Re Int32 :=
  o_fo_answer_238 k35 v0 v5 v6 v7 (0 : Int32) S
set_option maxRecDepth 100000 in
theorem s_o_fo_answer_237 {d : Nat} (k35 : Nat → Int32 → Int32 → St → Re Int32) {S' : St} {r : Int32} (b35 : ∀ (v0 : Nat) (v5 : Int32) (v6 : Int32) (S : St), k35 v0 v5 v6 S = some (r, S') → RR KO (d + 2) 210 35 [(0, .ref v0), (5, .int v5), (6, .int v6)] [] S (some (.int r)) S') (v0 : Nat) (v5 : Int32) (v6 : Int32) (v7 : Nat) (S : St) (h : o_fo_answer_237 k35 v0 v5 v6 v7 S = some (r, S')) : RR KO (d + 2) 210 237 [(0, .ref v0), (5, .int v5), (6, .int v6), (7, .ref v7)] [] S (some (.int r)) S' := by
  unfold o_fo_answer_237 at h
  refine RR.runs (pc' := 238) (lc' := [(0, .ref v0), (5, .int v5), (6, .int v6), (7, .ref v7)]) (st' := [.int (0 : Int32)]) (S1 := S) (nL := 10) (cd := cd_210) mx_210 rfl rfl 1 rfl ?_
  refine RR.weak [(0, .ref v0), (5, .int v5), (6, .int v6), (7, .ref v7)] ⟨rfl, rfl, rfl, rfl, trivial⟩ ?_
  exact s_o_fo_answer_238 _ b35 _ _ _ _ _ _ h
def o_fo_answer_197 (k35 : Nat → Int32 → Int32 → St → Re Int32) (v0 : Nat) (v5 : Int32) (v6 : Int32) (v7 : Nat) (S : St) : Re Int32 :=
  if KO.1 v0 = (0, 1) then (
  if 1 ≤ (KO.1 (v0 + 16)).1 ∧ (KO.1 (v0 + 16)).1 < 8 then (
  if v5 < (Int32.ofNat (KO.1 (v0 + 16)).2) then (
    if (KO.1 v7).1 = 20 then (
    if (tokFL.getD (KO.1 v7).2 0) < 0 then (
      o_fo_answer_237 k35 v0 v5 v6 v7 S)
    else (
                  if 1 ≤ (KO.1 (v0 + 20)).1 ∧ (KO.1 (v0 + 20)).1 < 8 then (
      if (tokFL.getD (KO.1 v7).2 0) < (Int32.ofNat (KO.1 (v0 + 20)).2) then (
        o_fo_answer_238 k35 v0 v5 v6 v7 (1 : Int32) S)
      else (
        o_fo_answer_237 k35 v0 v5 v6 v7 S)) else none)) else none)
  else (
    o_fo_answer_275 k35 v0 v5 v6 S)) else none) else none
set_option maxRecDepth 100000 in
theorem s_o_fo_answer_197 {d : Nat} (k35 : Nat → Int32 → Int32 → St → Re Int32) {S' : St} {r : Int32} (b35 : ∀ (v0 : Nat) (v5 : Int32) (v6 : Int32) (S : St), k35 v0 v5 v6 S = some (r, S') → RR KO (d + 2) 210 35 [(0, .ref v0), (5, .int v5), (6, .int v6)] [] S (some (.int r)) S') (v0 : Nat) (v5 : Int32) (v6 : Int32) (v7 : Nat) (S : St) (h : o_fo_answer_197 k35 v0 v5 v6 v7 S = some (r, S')) : RR KO (d + 2) 210 197 [(0, .ref v0), (5, .int v5), (6, .int v6), (7, .ref v7)] [] S (some (.int r)) S' := by
  unfold o_fo_answer_197 at h
  refine RR.runs (pc' := 205) (lc' := [(0, .ref v0), (5, .int v5), (6, .int v6), (7, .ref v7)]) (st' := [.ref v0, .int v5]) (S1 := S) (nL := 10) (cd := cd_210) mx_210 rfl rfl 4 rfl ?_
  obtain ⟨g1, h⟩ := gpE h
  refine RR.gPo (pc' := 208) (lc' := [(0, .ref v0), (5, .int v5), (6, .int v6), (7, .ref v7)]) (st' := [.ref (v0 + 16), .int v5]) (S1 := S) (nL := 10) (cd := cd_210) mx_210 rfl rfl rfl ⟨g1, by decide, by decide⟩ ?_
  obtain ⟨g, h⟩ := gpE h
  refine RR.gP (pc' := 209) (lc' := [(0, .ref v0), (5, .int v5), (6, .int v6), (7, .ref v7)]) (st' := [.int ((Int32.ofNat (KO.1 (v0 + 16)).2)), .int v5]) (S1 := S) (nL := 10) (cd := cd_210) mx_210 rfl rfl rfl g ?_
  refine RR.runs (pc' := icm .ge v5 ((Int32.ofNat (KO.1 (v0 + 16)).2)) 275 212) (lc' := [(0, .ref v0), (5, .int v5), (6, .int v6), (7, .ref v7)]) (st' := []) (S1 := S) (nL := 10) (cd := cd_210) mx_210 rfl rfl 1 rfl ?_
  rcases ifE h with ⟨c, h⟩ | ⟨c, h⟩
  · refine RR.c_ge (fun _ => ?_) (fun q => absurd c q)
    refine RR.runs (pc' := 214) (lc' := [(0, .ref v0), (5, .int v5), (6, .int v6), (7, .ref v7)]) (st' := [.ref v7]) (S1 := S) (nL := 10) (cd := cd_210) mx_210 rfl rfl 1 rfl ?_
    obtain ⟨g2, h⟩ := gpE h
    refine RR.gNP (pc' := 217) (lc' := [(0, .ref v0), (5, .int v5), (6, .int v6), (7, .ref v7)]) (st' := [.int ((tokFL.getD (KO.1 v7).2 0))]) (S1 := S) (nL := 10) (cd := cd_210) mx_210 rfl rfl rfl (fun q => absurd (q.1 ▸ g2 : ((0, 9) : Nat × Nat).1 = 20) (by decide)) ⟨g2, by decide, rfl, by decide, by decide⟩ ?_
    refine RR.runs (pc' := icm .lt ((tokFL.getD (KO.1 v7).2 0)) 0 237 220) (lc' := [(0, .ref v0), (5, .int v5), (6, .int v6), (7, .ref v7)]) (st' := []) (S1 := S) (nL := 10) (cd := cd_210) mx_210 rfl rfl 1 rfl ?_
    rcases ifE h with ⟨c, h⟩ | ⟨c, h⟩
    · refine RR.c_lt (fun _ => ?_) (fun q => absurd c q)
      refine RR.weak [(0, .ref v0), (5, .int v5), (6, .int v6), (7, .ref v7)] ⟨rfl, rfl, rfl, rfl, trivial⟩ ?_
      exact s_o_fo_answer_237 _ b35 _ _ _ _ _ h
    · refine RR.c_lt (fun q => absurd q c) (fun _ => ?_)
      refine RR.runs (pc' := 222) (lc' := [(0, .ref v0), (5, .int v5), (6, .int v6), (7, .ref v7)]) (st' := [.ref v7]) (S1 := S) (nL := 10) (cd := cd_210) mx_210 rfl rfl 1 rfl ?_
      refine RR.gNP (pc' := 225) (lc' := [(0, .ref v0), (5, .int v5), (6, .int v6), (7, .ref v7)]) (st' := [.int ((tokFL.getD (KO.1 v7).2 0))]) (S1 := S) (nL := 10) (cd := cd_210) mx_210 rfl rfl rfl (fun q => absurd (q.1 ▸ g2 : ((0, 9) : Nat × Nat).1 = 20) (by decide)) ⟨g2, by decide, rfl, by decide, by decide⟩ ?_
      refine RR.runs (pc' := 226) (lc' := [(0, .ref v0), (5, .int v5), (6, .int v6), (7, .ref v7)]) (st' := [.ref v0, .int ((tokFL.getD (KO.1 v7).2 0))]) (S1 := S) (nL := 10) (cd := cd_210) mx_210 rfl rfl 1 rfl ?_
      refine RR.gPo (pc' := 229) (lc' := [(0, .ref v0), (5, .int v5), (6, .int v6), (7, .ref v7)]) (st' := [.ref (v0 + 20), .int ((tokFL.getD (KO.1 v7).2 0))]) (S1 := S) (nL := 10) (cd := cd_210) mx_210 rfl rfl rfl ⟨g1, by decide, by decide⟩ ?_
      obtain ⟨g, h⟩ := gpE h
      refine RR.gP (pc' := 230) (lc' := [(0, .ref v0), (5, .int v5), (6, .int v6), (7, .ref v7)]) (st' := [.int ((Int32.ofNat (KO.1 (v0 + 20)).2)), .int ((tokFL.getD (KO.1 v7).2 0))]) (S1 := S) (nL := 10) (cd := cd_210) mx_210 rfl rfl rfl g ?_
      refine RR.runs (pc' := icm .ge ((tokFL.getD (KO.1 v7).2 0)) ((Int32.ofNat (KO.1 (v0 + 20)).2)) 237 233) (lc' := [(0, .ref v0), (5, .int v5), (6, .int v6), (7, .ref v7)]) (st' := []) (S1 := S) (nL := 10) (cd := cd_210) mx_210 rfl rfl 1 rfl ?_
      rcases ifE h with ⟨c, h⟩ | ⟨c, h⟩
      · refine RR.c_ge (fun _ => ?_) (fun q => absurd c q)
        refine RR.runs (pc' := 238) (lc' := [(0, .ref v0), (5, .int v5), (6, .int v6), (7, .ref v7)]) (st' := [.int (1 : Int32)]) (S1 := S) (nL := 10) (cd := cd_210) mx_210 rfl rfl 2 rfl ?_
        refine RR.weak [(0, .ref v0), (5, .int v5), (6, .int v6), (7, .ref v7)] ⟨rfl, rfl, rfl, rfl, trivial⟩ ?_
        exact s_o_fo_answer_238 _ b35 _ _ _ _ _ _ h
      · refine RR.c_ge (fun q => absurd q c) (fun _ => ?_)
        refine RR.weak [(0, .ref v0), (5, .int v5), (6, .int v6), (7, .ref v7)] ⟨rfl, rfl, rfl, rfl, trivial⟩ ?_
        exact s_o_fo_answer_237 _ b35 _ _ _ _ _ h
  · refine RR.c_ge (fun q => absurd q c) (fun _ => ?_)
    refine RR.weak [(0, .ref v0), (5, .int v5), (6, .int v6)] ⟨rfl, rfl, rfl, trivial⟩ ?_
    exact s_o_fo_answer_275 _ b35 _ _ _ _ h
def o_fo_answer_137 (k35 : Nat → Int32 → Int32 → St → Re Int32) (v0 : Nat) (v5 : Int32) (v6 : Int32) (v7 : Nat) (v8 : Int32) (S : St) : Re Int32 :=
  if (KO.1 v7).1 = 20 then (
  if 0 < (tokIL.getD (KO.1 v7).2 0) then (
    if v8 = 0 then (
      o_fo_answer_197 k35 v0 v5 v6 v7 S)
    else (
      if (1 : Int32) < v5 then (
        lt' ((v5 + (-1 : Int32)) : Int32) fun x2 =>
        if KO.1 v0 = (0, 1) then (
                if (KO.1 (v0 + 16)).1 = 1 then (
        if (x2 - (1 : Int32)) < 0 ∨ (KO.1 (v0 + 16)).2 ≤ ((x2 - (1 : Int32))).toNatClampNeg then none else
                if (KO.1 (v0 + 16)).1 = 1 then (
        if x2 < 0 ∨ (KO.1 (v0 + 16)).2 ≤ x2.toNatClampNeg then none else
        bn (o_fo_joined v7 ((rI S (v0 + 16) ((x2 - (1 : Int32))).toNatClampNeg)) ((rI S (v0 + 16) x2.toNatClampNeg)) S) fun r4 S5 =>
        if (KO.1 (v0 + 16)).1 = 1 then (
        if (x2 - (1 : Int32)) < 0 ∨ (KO.1 (v0 + 16)).2 ≤ ((x2 - (1 : Int32))).toNatClampNeg then none else
        lt' (wI S5 (v0 + 16) ((x2 - (1 : Int32))).toNatClampNeg r4) fun S6 =>
        o_fo_answer_275 k35 v0 x2 v6 S6) else none) else none) else none) else none)
      else (
        o_fo_answer_197 k35 v0 v5 v6 v7 S)))
  else (
    o_fo_answer_197 k35 v0 v5 v6 v7 S)) else none
set_option maxRecDepth 100000 in
theorem s_o_fo_answer_137 {d : Nat} (k35 : Nat → Int32 → Int32 → St → Re Int32) {S' : St} {r : Int32} (b35 : ∀ (v0 : Nat) (v5 : Int32) (v6 : Int32) (S : St), k35 v0 v5 v6 S = some (r, S') → RR KO (d + 2) 210 35 [(0, .ref v0), (5, .int v5), (6, .int v6)] [] S (some (.int r)) S') (v0 : Nat) (v5 : Int32) (v6 : Int32) (v7 : Nat) (v8 : Int32) (S : St) (h : o_fo_answer_137 k35 v0 v5 v6 v7 v8 S = some (r, S')) : RR KO (d + 2) 210 137 [(0, .ref v0), (5, .int v5), (6, .int v6), (7, .ref v7), (8, .int v8)] [] S (some (.int r)) S' := by
  unfold o_fo_answer_137 at h
  refine RR.runs (pc' := 144) (lc' := [(0, .ref v0), (5, .int v5), (6, .int v6), (7, .ref v7), (8, .int v8)]) (st' := [.ref v7]) (S1 := S) (nL := 10) (cd := cd_210) mx_210 rfl rfl 3 rfl ?_
  obtain ⟨g1, h⟩ := gpE h
  refine RR.gNP (pc' := 147) (lc' := [(0, .ref v0), (5, .int v5), (6, .int v6), (7, .ref v7), (8, .int v8)]) (st' := [.int ((tokIL.getD (KO.1 v7).2 0))]) (S1 := S) (nL := 10) (cd := cd_210) mx_210 rfl rfl rfl (fun q => absurd (q.1 ▸ g1 : ((0, 9) : Nat × Nat).1 = 20) (by decide)) ⟨g1, by decide, rfl, by decide, by decide⟩ ?_
  refine RR.runs (pc' := icm .le ((tokIL.getD (KO.1 v7).2 0)) 0 197 150) (lc' := [(0, .ref v0), (5, .int v5), (6, .int v6), (7, .ref v7), (8, .int v8)]) (st' := []) (S1 := S) (nL := 10) (cd := cd_210) mx_210 rfl rfl 1 rfl ?_
  rcases ifE h with ⟨c, h⟩ | ⟨c, h⟩
  · refine RR.c_le (fun _ => ?_) (fun q => absurd c q)
    refine RR.runs (pc' := icm .eq v8 0 197 155) (lc' := [(0, .ref v0), (5, .int v5), (6, .int v6), (7, .ref v7), (8, .int v8)]) (st' := []) (S1 := S) (nL := 10) (cd := cd_210) mx_210 rfl rfl 2 rfl ?_
    rcases ifE h with ⟨c, h⟩ | ⟨c, h⟩
    · refine RR.c_eq (fun _ => ?_) (fun q => absurd c q)
      refine RR.weak [(0, .ref v0), (5, .int v5), (6, .int v6), (7, .ref v7)] ⟨rfl, rfl, rfl, rfl, trivial⟩ ?_
      exact s_o_fo_answer_197 _ b35 _ _ _ _ _ h
    · refine RR.c_eq (fun q => absurd q c) (fun _ => ?_)
      refine RR.runs (pc' := icm .le v5 (1 : Int32) 197 161) (lc' := [(0, .ref v0), (5, .int v5), (6, .int v6), (7, .ref v7), (8, .int v8)]) (st' := []) (S1 := S) (nL := 10) (cd := cd_210) mx_210 rfl rfl 3 rfl ?_
      rcases ifE h with ⟨c, h⟩ | ⟨c, h⟩
      · refine RR.c_le (fun _ => ?_) (fun q => absurd c q)
        refine RR.runs (pc' := 164) (lc' := [(5, .int ((v5 + (-1 : Int32)))), (0, .ref v0), (6, .int v6), (7, .ref v7), (8, .int v8)]) (st' := []) (S1 := S) (nL := 10) (cd := cd_210) mx_210 rfl rfl 1 rfl ?_
        obtain ⟨x2, ex2, h⟩ := ltE h
        rw [← ex2]
        refine RR.runs (pc' := 165) (lc' := [(5, .int x2), (0, .ref v0), (6, .int v6), (7, .ref v7), (8, .int v8)]) (st' := [.ref v0]) (S1 := S) (nL := 10) (cd := cd_210) mx_210 rfl rfl 1 rfl ?_
        obtain ⟨g3, h⟩ := gpE h
        refine RR.gPo (pc' := 168) (lc' := [(5, .int x2), (0, .ref v0), (6, .int v6), (7, .ref v7), (8, .int v8)]) (st' := [.ref (v0 + 16)]) (S1 := S) (nL := 10) (cd := cd_210) mx_210 rfl rfl rfl ⟨g3, by decide, by decide⟩ ?_
        refine RR.runs (pc' := 175) (lc' := [(5, .int x2), (0, .ref v0), (6, .int v6), (7, .ref v7), (8, .int v8)]) (st' := [.ref v0, .ref v7, .int ((x2 - (1 : Int32))), .ref (v0 + 16)]) (S1 := S) (nL := 10) (cd := cd_210) mx_210 rfl rfl 5 rfl ?_
        refine RR.gPo (pc' := 178) (lc' := [(5, .int x2), (0, .ref v0), (6, .int v6), (7, .ref v7), (8, .int v8)]) (st' := [.ref (v0 + 16), .ref v7, .int ((x2 - (1 : Int32))), .ref (v0 + 16)]) (S1 := S) (nL := 10) (cd := cd_210) mx_210 rfl rfl rfl ⟨g3, by decide, by decide⟩ ?_
        refine RR.runs (pc' := 182) (lc' := [(5, .int x2), (0, .ref v0), (6, .int v6), (7, .ref v7), (8, .int v8)]) (st' := [.int ((x2 - (1 : Int32))), .ref (v0 + 16), .ref v7, .int ((x2 - (1 : Int32))), .ref (v0 + 16)]) (S1 := S) (nL := 10) (cd := cd_210) mx_210 rfl rfl 3 rfl ?_
        obtain ⟨gq, h⟩ := gpE h
        obtain ⟨g, h⟩ := gnE h
        refine RR.gPNo (c2 := (KO.1 (v0 + 16)).1 = 1) (pc' := 183) (lc' := [(5, .int x2), (0, .ref v0), (6, .int v6), (7, .ref v7), (8, .int v8)]) (st' := [.int ((rI S (v0 + 16) ((x2 - (1 : Int32))).toNatClampNeg)), .ref v7, .int ((x2 - (1 : Int32))), .ref (v0 + 16)]) (S1 := S) (nL := 10) (cd := cd_210) mx_210 rfl rfl rfl gq g ?_
        refine RR.runs (pc' := 184) (lc' := [(5, .int x2), (0, .ref v0), (6, .int v6), (7, .ref v7), (8, .int v8)]) (st' := [.ref v0, .int ((rI S (v0 + 16) ((x2 - (1 : Int32))).toNatClampNeg)), .ref v7, .int ((x2 - (1 : Int32))), .ref (v0 + 16)]) (S1 := S) (nL := 10) (cd := cd_210) mx_210 rfl rfl 1 rfl ?_
        refine RR.gPo (pc' := 187) (lc' := [(5, .int x2), (0, .ref v0), (6, .int v6), (7, .ref v7), (8, .int v8)]) (st' := [.ref (v0 + 16), .int ((rI S (v0 + 16) ((x2 - (1 : Int32))).toNatClampNeg)), .ref v7, .int ((x2 - (1 : Int32))), .ref (v0 + 16)]) (S1 := S) (nL := 10) (cd := cd_210) mx_210 rfl rfl rfl ⟨g3, by decide, by decide⟩ ?_
        refine RR.runs (pc' := 189) (lc' := [(5, .int x2), (0, .ref v0), (6, .int v6), (7, .ref v7), (8, .int v8)]) (st' := [.int x2, .ref (v0 + 16), .int ((rI S (v0 + 16) ((x2 - (1 : Int32))).toNatClampNeg)), .ref v7, .int ((x2 - (1 : Int32))), .ref (v0 + 16)]) (S1 := S) (nL := 10) (cd := cd_210) mx_210 rfl rfl 1 rfl ?_
        obtain ⟨gq, h⟩ := gpE h
        obtain ⟨g, h⟩ := gnE h
        refine RR.gPNo (c2 := (KO.1 (v0 + 16)).1 = 1) (pc' := 190) (lc' := [(5, .int x2), (0, .ref v0), (6, .int v6), (7, .ref v7), (8, .int v8)]) (st' := [.int ((rI S (v0 + 16) x2.toNatClampNeg)), .int ((rI S (v0 + 16) ((x2 - (1 : Int32))).toNatClampNeg)), .ref v7, .int ((x2 - (1 : Int32))), .ref (v0 + 16)]) (S1 := S) (nL := 10) (cd := cd_210) mx_210 rfl rfl rfl gq g ?_
        obtain ⟨r4, S5, h1, h⟩ := bnE h
        refine RR.callS (as := [.ref v7, .int ((rI S (v0 + 16) ((x2 - (1 : Int32))).toNatClampNeg)), .int ((rI S (v0 + 16) x2.toNatClampNeg))]) (rest := [.int ((x2 - (1 : Int32))), .ref (v0 + 16)]) (r1 := (some (.int r4))) (S1 := S5) mx_210 rfl rfl mx_211 rfl rfl (by decide) (Nat.le_of_ble_eq_true rfl) (Nat.le_of_ble_eq_true rfl) (Nat.le_of_ble_eq_true rfl) (RC.deep (by omega) (s_o_fo_joined (d := d) _ _ _ _ h1)) ?_
        show RR KO _ 210 193 [(5, .int x2), (0, .ref v0), (6, .int v6), (7, .ref v7), (8, .int v8)] [.int r4, .int ((x2 - (1 : Int32))), .ref (v0 + 16)] S5 _ _
        obtain ⟨gq, h⟩ := gpE h
        obtain ⟨g, h⟩ := gnE h
        refine RR.gPNo (c2 := (KO.1 (v0 + 16)).1 = 1) (pc' := 194) (lc' := [(5, .int x2), (0, .ref v0), (6, .int v6), (7, .ref v7), (8, .int v8)]) (st' := []) (S1 := (wI S5 (v0 + 16) ((x2 - (1 : Int32))).toNatClampNeg r4)) (nL := 10) (cd := cd_210) mx_210 rfl rfl rfl gq g ?_
        obtain ⟨S6, eS6, h⟩ := ltE h
        rw [← eS6]
        refine RR.runs (pc' := 275) (lc' := [(5, .int x2), (0, .ref v0), (6, .int v6), (7, .ref v7), (8, .int v8)]) (st' := []) (S1 := S6) (nL := 10) (cd := cd_210) mx_210 rfl rfl 1 rfl ?_
        refine RR.weak [(0, .ref v0), (5, .int x2), (6, .int v6)] ⟨rfl, rfl, rfl, trivial⟩ ?_
        exact s_o_fo_answer_275 _ b35 _ _ _ _ h
      · refine RR.c_le (fun q => absurd q c) (fun _ => ?_)
        refine RR.weak [(0, .ref v0), (5, .int v5), (6, .int v6), (7, .ref v7)] ⟨rfl, rfl, rfl, rfl, trivial⟩ ?_
        exact s_o_fo_answer_197 _ b35 _ _ _ _ _ h
  · refine RR.c_le (fun q => absurd q c) (fun _ => ?_)
    refine RR.weak [(0, .ref v0), (5, .int v5), (6, .int v6), (7, .ref v7)] ⟨rfl, rfl, rfl, rfl, trivial⟩ ?_
    exact s_o_fo_answer_197 _ b35 _ _ _ _ _ h
def o_fo_answer_133 (k35 : Nat → Int32 → Int32 → St → Re Int32) (v0 : Nat) (v5 : Int32) (v6 : Int32) (p0 : Int32) (p1 : Int32) (p2 : Nat) (S : St) : Re Int32 :=
  if (KO.1 p2).1 = 1 then (
  if p1 < 0 ∨ (KO.1 p2).2 ≤ p1.toNatClampNeg then none else
  lt' (wI S p2 p1.toNatClampNeg p0) fun S1 =>
  o_fo_answer_275 k35 v0 v5 v6 S1) else none
set_option maxRecDepth 100000 in
theorem s_o_fo_answer_133 {d : Nat} (k35 : Nat → Int32 → Int32 → St → Re Int32) {S' : St} {r : Int32} (b35 : ∀ (v0 : Nat) (v5 : Int32) (v6 : Int32) (S : St), k35 v0 v5 v6 S = some (r, S') → RR KO (d + 2) 210 35 [(0, .ref v0), (5, .int v5), (6, .int v6)] [] S (some (.int r)) S') (v0 : Nat) (v5 : Int32) (v6 : Int32) (p0 : Int32) (p1 : Int32) (p2 : Nat) (S : St) (h : o_fo_answer_133 k35 v0 v5 v6 p0 p1 p2 S = some (r, S')) : RR KO (d + 2) 210 133 [(0, .ref v0), (5, .int v5), (6, .int v6)] [.int p0, .int p1, .ref p2] S (some (.int r)) S' := by
  unfold o_fo_answer_133 at h
  obtain ⟨gq, h⟩ := gpE h
  obtain ⟨g, h⟩ := gnE h
  refine RR.gPNo (c2 := (KO.1 p2).1 = 1) (pc' := 134) (lc' := [(0, .ref v0), (5, .int v5), (6, .int v6)]) (st' := []) (S1 := (wI S p2 p1.toNatClampNeg p0)) (nL := 10) (cd := cd_210) mx_210 rfl rfl rfl gq g ?_
  obtain ⟨S1, eS1, h⟩ := ltE h
  rw [← eS1]
  refine RR.runs (pc' := 275) (lc' := [(0, .ref v0), (5, .int v5), (6, .int v6)]) (st' := []) (S1 := S1) (nL := 10) (cd := cd_210) mx_210 rfl rfl 1 rfl ?_
  refine RR.weak [(0, .ref v0), (5, .int v5), (6, .int v6)] ⟨rfl, rfl, rfl, trivial⟩ ?_
  exact s_o_fo_answer_275 _ b35 _ _ _ _ h
def o_fo_answer_93 (k35 : Nat → Int32 → Int32 → St → Re Int32) (v0 : Nat) (v5 : Int32) (v6 : Int32) (v7 : Nat) (p0 : Int32) (S : St) : Re Int32 :=
  if ((KO.1 v7).1 < 8 ∨ (KO.1 v7).1 = 20) ∧ ((KO.1 1007).1 < 8 ∨ (KO.1 1007).1 = 20) then (
if v7 = 1007 then (
    if p0 = 0 then (
      o_fo_answer_137 k35 v0 v5 v6 v7 p0 S)
    else (
      if KO.1 v0 = (0, 1) then (
            if (KO.1 (v0 + 16)).1 = 1 then (
      if (v5 - (1 : Int32)) < 0 ∨ (KO.1 (v0 + 16)).2 ≤ ((v5 - (1 : Int32))).toNatClampNeg then none else
      if (rI S (v0 + 16) ((v5 - (1 : Int32))).toNatClampNeg) = 0 then (
        o_fo_answer_133 k35 v0 v5 v6 (1 : Int32) ((v5 - (1 : Int32))) (v0 + 16) S)
      else (
        o_fo_answer_133 k35 v0 v5 v6 (0 : Int32) ((v5 - (1 : Int32))) (v0 + 16) S)) else none) else none))
  else (
    o_fo_answer_137 k35 v0 v5 v6 v7 p0 S)) else none
set_option maxRecDepth 100000 in
theorem s_o_fo_answer_93 {d : Nat} (k35 : Nat → Int32 → Int32 → St → Re Int32) {S' : St} {r : Int32} (b35 : ∀ (v0 : Nat) (v5 : Int32) (v6 : Int32) (S : St), k35 v0 v5 v6 S = some (r, S') → RR KO (d + 2) 210 35 [(0, .ref v0), (5, .int v5), (6, .int v6)] [] S (some (.int r)) S') (v0 : Nat) (v5 : Int32) (v6 : Int32) (v7 : Nat) (p0 : Int32) (S : St) (h : o_fo_answer_93 k35 v0 v5 v6 v7 p0 S = some (r, S')) : RR KO (d + 2) 210 93 [(0, .ref v0), (5, .int v5), (6, .int v6), (7, .ref v7)] [.int p0] S (some (.int r)) S' := by
  unfold o_fo_answer_93 at h
  refine RR.runs (pc' := 100) (lc' := [(8, .int p0), (0, .ref v0), (5, .int v5), (6, .int v6), (7, .ref v7)]) (st' := [.ref 1007, .ref v7]) (S1 := S) (nL := 10) (cd := cd_210) mx_210 rfl rfl 3 rfl ?_
  obtain ⟨g1, h⟩ := gpE h
  refine RR.gP (pc' := acm .ne v7 1007 137 103) (lc' := [(8, .int p0), (0, .ref v0), (5, .int v5), (6, .int v6), (7, .ref v7)]) (st' := []) (S1 := S) (nL := 10) (cd := cd_210) mx_210 rfl rfl rfl g1 ?_
  rcases ifE h with ⟨c, h⟩ | ⟨c, h⟩
  · refine RR.a_ne (fun _ => ?_) (fun q => absurd c q)
    refine RR.runs (pc' := icm .eq p0 0 137 108) (lc' := [(8, .int p0), (0, .ref v0), (5, .int v5), (6, .int v6), (7, .ref v7)]) (st' := []) (S1 := S) (nL := 10) (cd := cd_210) mx_210 rfl rfl 2 rfl ?_
    rcases ifE h with ⟨c, h⟩ | ⟨c, h⟩
    · refine RR.c_eq (fun _ => ?_) (fun q => absurd c q)
      refine RR.weak [(0, .ref v0), (5, .int v5), (6, .int v6), (7, .ref v7), (8, .int p0)] ⟨rfl, rfl, rfl, rfl, rfl, trivial⟩ ?_
      exact s_o_fo_answer_137 _ b35 _ _ _ _ _ _ h
    · refine RR.c_eq (fun q => absurd q c) (fun _ => ?_)
      refine RR.runs (pc' := 109) (lc' := [(8, .int p0), (0, .ref v0), (5, .int v5), (6, .int v6), (7, .ref v7)]) (st' := [.ref v0]) (S1 := S) (nL := 10) (cd := cd_210) mx_210 rfl rfl 1 rfl ?_
      obtain ⟨g2, h⟩ := gpE h
      refine RR.gPo (pc' := 112) (lc' := [(8, .int p0), (0, .ref v0), (5, .int v5), (6, .int v6), (7, .ref v7)]) (st' := [.ref (v0 + 16)]) (S1 := S) (nL := 10) (cd := cd_210) mx_210 rfl rfl rfl ⟨g2, by decide, by decide⟩ ?_
      refine RR.runs (pc' := 117) (lc' := [(8, .int p0), (0, .ref v0), (5, .int v5), (6, .int v6), (7, .ref v7)]) (st' := [.ref v0, .int ((v5 - (1 : Int32))), .ref (v0 + 16)]) (S1 := S) (nL := 10) (cd := cd_210) mx_210 rfl rfl 4 rfl ?_
      refine RR.gPo (pc' := 120) (lc' := [(8, .int p0), (0, .ref v0), (5, .int v5), (6, .int v6), (7, .ref v7)]) (st' := [.ref (v0 + 16), .int ((v5 - (1 : Int32))), .ref (v0 + 16)]) (S1 := S) (nL := 10) (cd := cd_210) mx_210 rfl rfl rfl ⟨g2, by decide, by decide⟩ ?_
      refine RR.runs (pc' := 124) (lc' := [(8, .int p0), (0, .ref v0), (5, .int v5), (6, .int v6), (7, .ref v7)]) (st' := [.int ((v5 - (1 : Int32))), .ref (v0 + 16), .int ((v5 - (1 : Int32))), .ref (v0 + 16)]) (S1 := S) (nL := 10) (cd := cd_210) mx_210 rfl rfl 3 rfl ?_
      obtain ⟨gq, h⟩ := gpE h
      obtain ⟨g, h⟩ := gnE h
      refine RR.gPNo (c2 := (KO.1 (v0 + 16)).1 = 1) (pc' := 125) (lc' := [(8, .int p0), (0, .ref v0), (5, .int v5), (6, .int v6), (7, .ref v7)]) (st' := [.int ((rI S (v0 + 16) ((v5 - (1 : Int32))).toNatClampNeg)), .int ((v5 - (1 : Int32))), .ref (v0 + 16)]) (S1 := S) (nL := 10) (cd := cd_210) mx_210 rfl rfl rfl gq g ?_
      refine RR.runs (pc' := icm .ne ((rI S (v0 + 16) ((v5 - (1 : Int32))).toNatClampNeg)) 0 132 128) (lc' := [(8, .int p0), (0, .ref v0), (5, .int v5), (6, .int v6), (7, .ref v7)]) (st' := [.int ((v5 - (1 : Int32))), .ref (v0 + 16)]) (S1 := S) (nL := 10) (cd := cd_210) mx_210 rfl rfl 1 rfl ?_
      rcases ifE h with ⟨c, h⟩ | ⟨c, h⟩
      · refine RR.c_ne (fun _ => ?_) (fun q => absurd c q)
        refine RR.runs (pc' := 133) (lc' := [(8, .int p0), (0, .ref v0), (5, .int v5), (6, .int v6), (7, .ref v7)]) (st' := [.int (1 : Int32), .int ((v5 - (1 : Int32))), .ref (v0 + 16)]) (S1 := S) (nL := 10) (cd := cd_210) mx_210 rfl rfl 2 rfl ?_
        refine RR.weak [(0, .ref v0), (5, .int v5), (6, .int v6)] ⟨rfl, rfl, rfl, trivial⟩ ?_
        exact s_o_fo_answer_133 _ b35 _ _ _ _ _ _ _ h
      · refine RR.c_ne (fun q => absurd q c) (fun _ => ?_)
        refine RR.runs (pc' := 133) (lc' := [(8, .int p0), (0, .ref v0), (5, .int v5), (6, .int v6), (7, .ref v7)]) (st' := [.int (0 : Int32), .int ((v5 - (1 : Int32))), .ref (v0 + 16)]) (S1 := S) (nL := 10) (cd := cd_210) mx_210 rfl rfl 1 rfl ?_
        refine RR.weak [(0, .ref v0), (5, .int v5), (6, .int v6)] ⟨rfl, rfl, rfl, trivial⟩ ?_
        exact s_o_fo_answer_133 _ b35 _ _ _ _ _ _ _ h
  · refine RR.a_ne (fun q => absurd q c) (fun _ => ?_)
    refine RR.weak [(0, .ref v0), (5, .int v5), (6, .int v6), (7, .ref v7), (8, .int p0)] ⟨rfl, rfl, rfl, rfl, rfl, trivial⟩ ?_
    exact s_o_fo_answer_137 _ b35 _ _ _ _ _ _ h
def o_fo_answer_92 (k35 : Nat → Int32 → Int32 → St → Re Int32) (v0 : Nat) (v5 : Int32) (v6 : Int32) (v7 : Nat) (S : St) : Re Int32 :=
  o_fo_answer_93 k35 v0 v5 v6 v7 (0 : Int32) S
set_option maxRecDepth 100000 in
theorem s_o_fo_answer_92 {d : Nat} (k35 : Nat → Int32 → Int32 → St → Re Int32) {S' : St} {r : Int32} (b35 : ∀ (v0 : Nat) (v5 : Int32) (v6 : Int32) (S : St), k35 v0 v5 v6 S = some (r, S') → RR KO (d + 2) 210 35 [(0, .ref v0), (5, .int v5), (6, .int v6)] [] S (some (.int r)) S') (v0 : Nat) (v5 : Int32) (v6 : Int32) (v7 : Nat) (S : St) (h : o_fo_answer_92 k35 v0 v5 v6 v7 S = some (r, S')) : RR KO (d + 2) 210 92 [(0, .ref v0), (5, .int v5), (6, .int v6), (7, .ref v7)] [] S (some (.int r)) S' := by
  unfold o_fo_answer_92 at h
  refine RR.runs (pc' := 93) (lc' := [(0, .ref v0), (5, .int v5), (6, .int v6), (7, .ref v7)]) (st' := [.int (0 : Int32)]) (S1 := S) (nL := 10) (cd := cd_210) mx_210 rfl rfl 1 rfl ?_
  refine RR.weak [(0, .ref v0), (5, .int v5), (6, .int v6), (7, .ref v7)] ⟨rfl, rfl, rfl, rfl, trivial⟩ ?_
  exact s_o_fo_answer_93 _ b35 _ _ _ _ _ _ h
def o_fo_answer_296 (p0 : Int32) (S : St) : Re Int32 :=
  some (p0, S)
set_option maxRecDepth 100000 in
theorem s_o_fo_answer_296 {d : Nat} {S' : St} {r : Int32} (p0 : Int32) (S : St) (h : o_fo_answer_296 p0 S = some (r, S')) : RR KO (d + 2) 210 296 [] [.int p0] S (some (.int r)) S' := by
  unfold o_fo_answer_296 at h
  cases h
  exact RR.reti mx_210 rfl rfl rfl
def o_fo_answer_281 (v0 : Nat) (v5 : Int32) (S : St) : Re Int32 :=
  if 0 < v5 then (
    if KO.1 v0 = (0, 1) then (
    if (KO.1 (v0 + 16)).1 = 1 then (
    if (0 : Int32) < 0 ∨ (KO.1 (v0 + 16)).2 ≤ (0 : Int32).toNatClampNeg then none else
    o_fo_answer_296 ((rI S (v0 + 16) (0 : Int32).toNatClampNeg)) S) else none) else none)
  else (
    o_fo_answer_296 (0 : Int32) S)
set_option maxRecDepth 100000 in
theorem s_o_fo_answer_281 {d : Nat} {S' : St} {r : Int32} (v0 : Nat) (v5 : Int32) (S : St) (h : o_fo_answer_281 v0 v5 S = some (r, S')) : RR KO (d + 2) 210 281 [(0, .ref v0), (5, .int v5)] [] S (some (.int r)) S' := by
  unfold o_fo_answer_281 at h
  refine RR.runs (pc' := icm .le v5 0 295 286) (lc' := [(0, .ref v0), (5, .int v5)]) (st' := []) (S1 := S) (nL := 10) (cd := cd_210) mx_210 rfl rfl 2 rfl ?_
  rcases ifE h with ⟨c, h⟩ | ⟨c, h⟩
  · refine RR.c_le (fun _ => ?_) (fun q => absurd c q)
    refine RR.runs (pc' := 287) (lc' := [(0, .ref v0), (5, .int v5)]) (st' := [.ref v0]) (S1 := S) (nL := 10) (cd := cd_210) mx_210 rfl rfl 1 rfl ?_
    obtain ⟨g1, h⟩ := gpE h
    refine RR.gPo (pc' := 290) (lc' := [(0, .ref v0), (5, .int v5)]) (st' := [.ref (v0 + 16)]) (S1 := S) (nL := 10) (cd := cd_210) mx_210 rfl rfl rfl ⟨g1, by decide, by decide⟩ ?_
    refine RR.runs (pc' := 291) (lc' := [(0, .ref v0), (5, .int v5)]) (st' := [.int (0 : Int32), .ref (v0 + 16)]) (S1 := S) (nL := 10) (cd := cd_210) mx_210 rfl rfl 1 rfl ?_
    obtain ⟨gq, h⟩ := gpE h
    obtain ⟨g, h⟩ := gnE h
    refine RR.gPNo (c2 := (KO.1 (v0 + 16)).1 = 1) (pc' := 292) (lc' := [(0, .ref v0), (5, .int v5)]) (st' := [.int ((rI S (v0 + 16) (0 : Int32).toNatClampNeg))]) (S1 := S) (nL := 10) (cd := cd_210) mx_210 rfl rfl rfl gq g ?_
    refine RR.runs (pc' := 296) (lc' := [(0, .ref v0), (5, .int v5)]) (st' := [.int ((rI S (v0 + 16) (0 : Int32).toNatClampNeg))]) (S1 := S) (nL := 10) (cd := cd_210) mx_210 rfl rfl 1 rfl ?_
    refine RR.weak [] trivial ?_
    exact s_o_fo_answer_296 _ _ h
  · refine RR.c_le (fun q => absurd q c) (fun _ => ?_)
    refine RR.runs (pc' := 296) (lc' := [(0, .ref v0), (5, .int v5)]) (st' := [.int (0 : Int32)]) (S1 := S) (nL := 10) (cd := cd_210) mx_210 rfl rfl 1 rfl ?_
    refine RR.weak [] trivial ?_
    exact s_o_fo_answer_296 _ _ h
def o_fo_answer_35 : Nat → Nat → Int32 → Int32 → St → Re Int32
  | 0, _, _, _, _ => none
  | n + 1, v0, v5, v6, S =>
  if KO.1 v0 = (0, 1) then (
  if v6 < (rI S v0 5) then (
        if 1 ≤ (KO.1 (v0 + 4)).1 ∧ (KO.1 (v0 + 4)).1 < 8 then (
    if v6 < (Int32.ofNat (KO.1 (v0 + 4)).2) then (
            if 1 ≤ (KO.1 (v0 + 8)).1 ∧ (KO.1 (v0 + 8)).1 < 8 then (
      if v6 < (Int32.ofNat (KO.1 (v0 + 8)).2) then (
                if 5 ≤ (KO.1 (v0 + 4)).1 ∧ (KO.1 (v0 + 4)).1 < 8 then (
if v6 < 0 ∨ (KO.1 (v0 + 4)).2 ≤ v6.toNatClampNeg then none else
        oq (rQ S (v0 + 4) v6.toNatClampNeg) none fun o3 =>
        if 0 < v5 then (
                    if 1 ≤ (KO.1 (v0 + 16)).1 ∧ (KO.1 (v0 + 16)).1 < 8 then (
          if (Int32.ofNat (KO.1 (v0 + 16)).2) < v5 then (
            o_fo_answer_92 (o_fo_answer_35 n) v0 v5 v6 o3 S)
          else (
            o_fo_answer_93 (o_fo_answer_35 n) v0 v5 v6 o3 (1 : Int32) S)) else none)
        else (
          o_fo_answer_92 (o_fo_answer_35 n) v0 v5 v6 o3 S)) else none)
      else (
        o_fo_answer_281 v0 v5 S)) else none)
    else (
      o_fo_answer_281 v0 v5 S)) else none)
  else (
    o_fo_answer_281 v0 v5 S)) else none
set_option maxRecDepth 100000 in
theorem s_o_fo_answer_35 {d : Nat} {S' : St} {r : Int32} : ∀ (n : Nat) (v0 : Nat) (v5 : Int32) (v6 : Int32) (S : St), o_fo_answer_35 n v0 v5 v6 S = some (r, S') → RR KO (d + 2) 210 35 [(0, .ref v0), (5, .int v5), (6, .int v6)] [] S (some (.int r)) S' := by
  intro n
  induction n with
  | zero => intro v0 v5 v6 S h; simp only [o_fo_answer_35] at h; cases h
  | succ n ih =>
    intro v0 v5 v6 S h
    simp only [o_fo_answer_35] at h
    refine RR.runs (pc' := 38) (lc' := [(0, .ref v0), (5, .int v5), (6, .int v6)]) (st' := [.ref v0, .int v6]) (S1 := S) (nL := 10) (cd := cd_210) mx_210 rfl rfl 2 rfl ?_
    obtain ⟨g1, h⟩ := gpE h
    refine RR.gPo (pc' := 41) (lc' := [(0, .ref v0), (5, .int v5), (6, .int v6)]) (st' := [.int (rI S v0 5), .int v6]) (S1 := S) (nL := 10) (cd := cd_210) mx_210 rfl rfl rfl ⟨g1, by decide, by decide⟩ ?_
    refine RR.runs (pc' := icm .ge v6 (rI S v0 5) 281 44) (lc' := [(0, .ref v0), (5, .int v5), (6, .int v6)]) (st' := []) (S1 := S) (nL := 10) (cd := cd_210) mx_210 rfl rfl 1 rfl ?_
    rcases ifE h with ⟨c, h⟩ | ⟨c, h⟩
    · refine RR.c_ge (fun _ => ?_) (fun q => absurd c q)
      refine RR.runs (pc' := 47) (lc' := [(0, .ref v0), (5, .int v5), (6, .int v6)]) (st' := [.ref v0, .int v6]) (S1 := S) (nL := 10) (cd := cd_210) mx_210 rfl rfl 2 rfl ?_
      refine RR.gPo (pc' := 50) (lc' := [(0, .ref v0), (5, .int v5), (6, .int v6)]) (st' := [.ref (v0 + 4), .int v6]) (S1 := S) (nL := 10) (cd := cd_210) mx_210 rfl rfl rfl ⟨g1, by decide, by decide⟩ ?_
      obtain ⟨g, h⟩ := gpE h
      refine RR.gP (pc' := 51) (lc' := [(0, .ref v0), (5, .int v5), (6, .int v6)]) (st' := [.int ((Int32.ofNat (KO.1 (v0 + 4)).2)), .int v6]) (S1 := S) (nL := 10) (cd := cd_210) mx_210 rfl rfl rfl g ?_
      refine RR.runs (pc' := icm .ge v6 ((Int32.ofNat (KO.1 (v0 + 4)).2)) 281 54) (lc' := [(0, .ref v0), (5, .int v5), (6, .int v6)]) (st' := []) (S1 := S) (nL := 10) (cd := cd_210) mx_210 rfl rfl 1 rfl ?_
      rcases ifE h with ⟨c, h⟩ | ⟨c, h⟩
      · refine RR.c_ge (fun _ => ?_) (fun q => absurd c q)
        refine RR.runs (pc' := 57) (lc' := [(0, .ref v0), (5, .int v5), (6, .int v6)]) (st' := [.ref v0, .int v6]) (S1 := S) (nL := 10) (cd := cd_210) mx_210 rfl rfl 2 rfl ?_
        refine RR.gPo (pc' := 60) (lc' := [(0, .ref v0), (5, .int v5), (6, .int v6)]) (st' := [.ref (v0 + 8), .int v6]) (S1 := S) (nL := 10) (cd := cd_210) mx_210 rfl rfl rfl ⟨g1, by decide, by decide⟩ ?_
        obtain ⟨g, h⟩ := gpE h
        refine RR.gP (pc' := 61) (lc' := [(0, .ref v0), (5, .int v5), (6, .int v6)]) (st' := [.int ((Int32.ofNat (KO.1 (v0 + 8)).2)), .int v6]) (S1 := S) (nL := 10) (cd := cd_210) mx_210 rfl rfl rfl g ?_
        refine RR.runs (pc' := icm .ge v6 ((Int32.ofNat (KO.1 (v0 + 8)).2)) 281 64) (lc' := [(0, .ref v0), (5, .int v5), (6, .int v6)]) (st' := []) (S1 := S) (nL := 10) (cd := cd_210) mx_210 rfl rfl 1 rfl ?_
        rcases ifE h with ⟨c, h⟩ | ⟨c, h⟩
        · refine RR.c_ge (fun _ => ?_) (fun q => absurd c q)
          refine RR.runs (pc' := 65) (lc' := [(0, .ref v0), (5, .int v5), (6, .int v6)]) (st' := [.ref v0]) (S1 := S) (nL := 10) (cd := cd_210) mx_210 rfl rfl 1 rfl ?_
          refine RR.gPo (pc' := 68) (lc' := [(0, .ref v0), (5, .int v5), (6, .int v6)]) (st' := [.ref (v0 + 4)]) (S1 := S) (nL := 10) (cd := cd_210) mx_210 rfl rfl rfl ⟨g1, by decide, by decide⟩ ?_
          refine RR.runs (pc' := 70) (lc' := [(0, .ref v0), (5, .int v5), (6, .int v6)]) (st' := [.int v6, .ref (v0 + 4)]) (S1 := S) (nL := 10) (cd := cd_210) mx_210 rfl rfl 1 rfl ?_
          obtain ⟨g2, h⟩ := gpE h
          obtain ⟨g, h⟩ := gnE h
          refine RR.gPN (pc' := 71) (lc' := [(0, .ref v0), (5, .int v5), (6, .int v6)]) (st' := [qv (rQ S (v0 + 4) v6.toNatClampNeg)]) (S1 := S) (nL := 10) (cd := cd_210) mx_210 rfl rfl rfl g2 g ?_
          rcases oqE h with ⟨e1, h⟩ | ⟨o3, eo3, h⟩
          · cases h
          rw [eo3]
          refine RR.runs (pc' := icm .le v5 0 92 78) (lc' := [(7, .ref o3), (0, .ref v0), (5, .int v5), (6, .int v6)]) (st' := []) (S1 := S) (nL := 10) (cd := cd_210) mx_210 rfl rfl 3 rfl ?_
          rcases ifE h with ⟨c, h⟩ | ⟨c, h⟩
          · refine RR.c_le (fun _ => ?_) (fun q => absurd c q)
            refine RR.runs (pc' := 81) (lc' := [(7, .ref o3), (0, .ref v0), (5, .int v5), (6, .int v6)]) (st' := [.ref v0, .int v5]) (S1 := S) (nL := 10) (cd := cd_210) mx_210 rfl rfl 2 rfl ?_
            refine RR.gPo (pc' := 84) (lc' := [(7, .ref o3), (0, .ref v0), (5, .int v5), (6, .int v6)]) (st' := [.ref (v0 + 16), .int v5]) (S1 := S) (nL := 10) (cd := cd_210) mx_210 rfl rfl rfl ⟨g1, by decide, by decide⟩ ?_
            obtain ⟨g, h⟩ := gpE h
            refine RR.gP (pc' := 85) (lc' := [(7, .ref o3), (0, .ref v0), (5, .int v5), (6, .int v6)]) (st' := [.int ((Int32.ofNat (KO.1 (v0 + 16)).2)), .int v5]) (S1 := S) (nL := 10) (cd := cd_210) mx_210 rfl rfl rfl g ?_
            refine RR.runs (pc' := icm .gt v5 ((Int32.ofNat (KO.1 (v0 + 16)).2)) 92 88) (lc' := [(7, .ref o3), (0, .ref v0), (5, .int v5), (6, .int v6)]) (st' := []) (S1 := S) (nL := 10) (cd := cd_210) mx_210 rfl rfl 1 rfl ?_
            rcases ifE h with ⟨c, h⟩ | ⟨c, h⟩
            · refine RR.c_gt (fun _ => ?_) (fun q => absurd c q)
              refine RR.weak [(0, .ref v0), (5, .int v5), (6, .int v6), (7, .ref o3)] ⟨rfl, rfl, rfl, rfl, trivial⟩ ?_
              exact s_o_fo_answer_92 _ (fun _ _ _ S h => ih _ _ _ S h) _ _ _ _ _ h
            · refine RR.c_gt (fun q => absurd q c) (fun _ => ?_)
              refine RR.runs (pc' := 93) (lc' := [(7, .ref o3), (0, .ref v0), (5, .int v5), (6, .int v6)]) (st' := [.int (1 : Int32)]) (S1 := S) (nL := 10) (cd := cd_210) mx_210 rfl rfl 2 rfl ?_
              refine RR.weak [(0, .ref v0), (5, .int v5), (6, .int v6), (7, .ref o3)] ⟨rfl, rfl, rfl, rfl, trivial⟩ ?_
              exact s_o_fo_answer_93 _ (fun _ _ _ S h => ih _ _ _ S h) _ _ _ _ _ _ h
          · refine RR.c_le (fun q => absurd q c) (fun _ => ?_)
            refine RR.weak [(0, .ref v0), (5, .int v5), (6, .int v6), (7, .ref o3)] ⟨rfl, rfl, rfl, rfl, trivial⟩ ?_
            exact s_o_fo_answer_92 _ (fun _ _ _ S h => ih _ _ _ S h) _ _ _ _ _ h
        · refine RR.c_ge (fun q => absurd q c) (fun _ => ?_)
          refine RR.weak [(0, .ref v0), (5, .int v5)] ⟨rfl, rfl, trivial⟩ ?_
          exact s_o_fo_answer_281 _ _ _ h
      · refine RR.c_ge (fun q => absurd q c) (fun _ => ?_)
        refine RR.weak [(0, .ref v0), (5, .int v5)] ⟨rfl, rfl, trivial⟩ ?_
        exact s_o_fo_answer_281 _ _ _ h
    · refine RR.c_ge (fun q => absurd q c) (fun _ => ?_)
      refine RR.weak [(0, .ref v0), (5, .int v5)] ⟨rfl, rfl, trivial⟩ ?_
      exact s_o_fo_answer_281 _ _ _ h
def o_fo_answer (v0 : Nat) (v1 : Int32) (v2 : Int32) (v3 : Int32) (v4 : Int32) (S : St) : Re Int32 :=
  if KO.1 v0 = (0, 1) then (
  if (KO.1 (v0 + 20)).1 = 1 then (
  if (0 : Int32) < 0 ∨ (KO.1 (v0 + 20)).2 ≤ (0 : Int32).toNatClampNeg then none else
  lt' (wI S (v0 + 20) (0 : Int32).toNatClampNeg v1) fun S2 =>
    if (KO.1 (v0 + 20)).1 = 1 then (
  if (1 : Int32) < 0 ∨ (KO.1 (v0 + 20)).2 ≤ (1 : Int32).toNatClampNeg then none else
  lt' (wI S2 (v0 + 20) (1 : Int32).toNatClampNeg v2) fun S3 =>
    if (KO.1 (v0 + 20)).1 = 1 then (
  if (2 : Int32) < 0 ∨ (KO.1 (v0 + 20)).2 ≤ (2 : Int32).toNatClampNeg then none else
  lt' (wI S3 (v0 + 20) (2 : Int32).toNatClampNeg v3) fun S4 =>
    if (KO.1 (v0 + 20)).1 = 1 then (
  if (3 : Int32) < 0 ∨ (KO.1 (v0 + 20)).2 ≤ (3 : Int32).toNatClampNeg then none else
  lt' (wI S4 (v0 + 20) (3 : Int32).toNatClampNeg v4) fun S5 =>
  o_fo_answer_35 FU v0 (0 : Int32) (0 : Int32) S5) else none) else none) else none) else none) else none
set_option maxRecDepth 100000 in
theorem s0_o_fo_answer {d : Nat} {S' : St} {r : Int32} (v0 : Nat) (v1 : Int32) (v2 : Int32) (v3 : Int32) (v4 : Int32) (S : St) (h : o_fo_answer v0 v1 v2 v3 v4 S = some (r, S')) : RR KO (d + 2) 210 0 [(0, .ref v0), (1, .int v1), (2, .int v2), (3, .int v3), (4, .int v4)] [] S (some (.int r)) S' := by
  unfold o_fo_answer at h
  refine RR.runs (pc' := 1) (lc' := [(0, .ref v0), (1, .int v1), (2, .int v2), (3, .int v3), (4, .int v4)]) (st' := [.ref v0]) (S1 := S) (nL := 10) (cd := cd_210) mx_210 rfl rfl 1 rfl ?_
  obtain ⟨g1, h⟩ := gpE h
  refine RR.gPo (pc' := 4) (lc' := [(0, .ref v0), (1, .int v1), (2, .int v2), (3, .int v3), (4, .int v4)]) (st' := [.ref (v0 + 20)]) (S1 := S) (nL := 10) (cd := cd_210) mx_210 rfl rfl rfl ⟨g1, by decide, by decide⟩ ?_
  refine RR.runs (pc' := 6) (lc' := [(0, .ref v0), (1, .int v1), (2, .int v2), (3, .int v3), (4, .int v4)]) (st' := [.int v1, .int (0 : Int32), .ref (v0 + 20)]) (S1 := S) (nL := 10) (cd := cd_210) mx_210 rfl rfl 2 rfl ?_
  obtain ⟨gq, h⟩ := gpE h
  obtain ⟨g, h⟩ := gnE h
  refine RR.gPNo (c2 := (KO.1 (v0 + 20)).1 = 1) (pc' := 7) (lc' := [(0, .ref v0), (1, .int v1), (2, .int v2), (3, .int v3), (4, .int v4)]) (st' := []) (S1 := (wI S (v0 + 20) (0 : Int32).toNatClampNeg v1)) (nL := 10) (cd := cd_210) mx_210 rfl rfl rfl gq g ?_
  obtain ⟨S2, eS2, h⟩ := ltE h
  rw [← eS2]
  refine RR.runs (pc' := 8) (lc' := [(0, .ref v0), (1, .int v1), (2, .int v2), (3, .int v3), (4, .int v4)]) (st' := [.ref v0]) (S1 := S2) (nL := 10) (cd := cd_210) mx_210 rfl rfl 1 rfl ?_
  refine RR.gPo (pc' := 11) (lc' := [(0, .ref v0), (1, .int v1), (2, .int v2), (3, .int v3), (4, .int v4)]) (st' := [.ref (v0 + 20)]) (S1 := S2) (nL := 10) (cd := cd_210) mx_210 rfl rfl rfl ⟨g1, by decide, by decide⟩ ?_
  refine RR.runs (pc' := 13) (lc' := [(0, .ref v0), (1, .int v1), (2, .int v2), (3, .int v3), (4, .int v4)]) (st' := [.int v2, .int (1 : Int32), .ref (v0 + 20)]) (S1 := S2) (nL := 10) (cd := cd_210) mx_210 rfl rfl 2 rfl ?_
  obtain ⟨gq, h⟩ := gpE h
  obtain ⟨g, h⟩ := gnE h
  refine RR.gPNo (c2 := (KO.1 (v0 + 20)).1 = 1) (pc' := 14) (lc' := [(0, .ref v0), (1, .int v1), (2, .int v2), (3, .int v3), (4, .int v4)]) (st' := []) (S1 := (wI S2 (v0 + 20) (1 : Int32).toNatClampNeg v2)) (nL := 10) (cd := cd_210) mx_210 rfl rfl rfl gq g ?_
  obtain ⟨S3, eS3, h⟩ := ltE h
  rw [← eS3]
  refine RR.runs (pc' := 15) (lc' := [(0, .ref v0), (1, .int v1), (2, .int v2), (3, .int v3), (4, .int v4)]) (st' := [.ref v0]) (S1 := S3) (nL := 10) (cd := cd_210) mx_210 rfl rfl 1 rfl ?_
  refine RR.gPo (pc' := 18) (lc' := [(0, .ref v0), (1, .int v1), (2, .int v2), (3, .int v3), (4, .int v4)]) (st' := [.ref (v0 + 20)]) (S1 := S3) (nL := 10) (cd := cd_210) mx_210 rfl rfl rfl ⟨g1, by decide, by decide⟩ ?_
  refine RR.runs (pc' := 20) (lc' := [(0, .ref v0), (1, .int v1), (2, .int v2), (3, .int v3), (4, .int v4)]) (st' := [.int v3, .int (2 : Int32), .ref (v0 + 20)]) (S1 := S3) (nL := 10) (cd := cd_210) mx_210 rfl rfl 2 rfl ?_
  obtain ⟨gq, h⟩ := gpE h
  obtain ⟨g, h⟩ := gnE h
  refine RR.gPNo (c2 := (KO.1 (v0 + 20)).1 = 1) (pc' := 21) (lc' := [(0, .ref v0), (1, .int v1), (2, .int v2), (3, .int v3), (4, .int v4)]) (st' := []) (S1 := (wI S3 (v0 + 20) (2 : Int32).toNatClampNeg v3)) (nL := 10) (cd := cd_210) mx_210 rfl rfl rfl gq g ?_
  obtain ⟨S4, eS4, h⟩ := ltE h
  rw [← eS4]
  refine RR.runs (pc' := 22) (lc' := [(0, .ref v0), (1, .int v1), (2, .int v2), (3, .int v3), (4, .int v4)]) (st' := [.ref v0]) (S1 := S4) (nL := 10) (cd := cd_210) mx_210 rfl rfl 1 rfl ?_
  refine RR.gPo (pc' := 25) (lc' := [(0, .ref v0), (1, .int v1), (2, .int v2), (3, .int v3), (4, .int v4)]) (st' := [.ref (v0 + 20)]) (S1 := S4) (nL := 10) (cd := cd_210) mx_210 rfl rfl rfl ⟨g1, by decide, by decide⟩ ?_
  refine RR.runs (pc' := 28) (lc' := [(0, .ref v0), (1, .int v1), (2, .int v2), (3, .int v3), (4, .int v4)]) (st' := [.int v4, .int (3 : Int32), .ref (v0 + 20)]) (S1 := S4) (nL := 10) (cd := cd_210) mx_210 rfl rfl 2 rfl ?_
  obtain ⟨gq, h⟩ := gpE h
  obtain ⟨g, h⟩ := gnE h
  refine RR.gPNo (c2 := (KO.1 (v0 + 20)).1 = 1) (pc' := 29) (lc' := [(0, .ref v0), (1, .int v1), (2, .int v2), (3, .int v3), (4, .int v4)]) (st' := []) (S1 := (wI S4 (v0 + 20) (3 : Int32).toNatClampNeg v4)) (nL := 10) (cd := cd_210) mx_210 rfl rfl rfl gq g ?_
  obtain ⟨S5, eS5, h⟩ := ltE h
  rw [← eS5]
  refine RR.runs (pc' := 35) (lc' := [(6, .int (0 : Int32)), (5, .int (0 : Int32)), (0, .ref v0), (1, .int v1), (2, .int v2), (3, .int v3), (4, .int v4)]) (st' := []) (S1 := S5) (nL := 10) (cd := cd_210) mx_210 rfl rfl 4 rfl ?_
  refine RR.weak [(0, .ref v0), (5, .int (0 : Int32)), (6, .int (0 : Int32))] ⟨rfl, rfl, rfl, trivial⟩ ?_
  exact s_o_fo_answer_35 _ _ _ _ _ h
theorem s_o_fo_answer {d : Nat} {S' : St} {r : Int32} (v0 : Nat) (v1 : Int32) (v2 : Int32) (v3 : Int32) (v4 : Int32) (S : St) (h : o_fo_answer v0 v1 v2 v3 v4 S = some (r, S')) : RC KO (d + 2) 210 [.ref v0, .int v1, .int v2, .int v3, .int v4] S (some (.int r)) S' := RC.of rfl (s0_o_fo_answer v0 v1 v2 v3 v4 S h)
-- NameOrchard$Names clear ()V
def o_na_clear (v0 : Nat) (S : St) : Re Unit :=
  if KO.1 v0 = (0, 2) then (
lt' (wI S v0 2 (0 : Int32)) fun S1 =>
  some ((), S1)) else none
set_option maxRecDepth 100000 in
theorem s0_o_na_clear {d : Nat} {S' : St} {r : Unit} (v0 : Nat) (S : St) (h : o_na_clear v0 S = some (r, S')) : RR KO (d + 0) 402 0 [(0, .ref v0)] [] S none S' := by
  unfold o_na_clear at h
  refine RR.runs (pc' := 2) (lc' := [(0, .ref v0)]) (st' := [.int (0 : Int32), .ref v0]) (S1 := S) (nL := 1) (cd := cd_402) mx_402 rfl rfl 2 rfl ?_
  obtain ⟨g2, h⟩ := gpE h
  refine RR.gP (pc' := 5) (lc' := [(0, .ref v0)]) (st' := []) (S1 := (wI S v0 2 (0 : Int32))) (nL := 1) (cd := cd_402) mx_402 rfl rfl rfl ⟨g2, by decide, rfl, by decide⟩ ?_
  obtain ⟨S1, eS1, h⟩ := ltE h
  rw [← eS1]
  cases h
  exact RR.retv mx_402 rfl rfl rfl
theorem s_o_na_clear {d : Nat} {S' : St} {r : Unit} (v0 : Nat) (S : St) (h : o_na_clear v0 S = some (r, S')) : RC KO (d + 0) 402 [.ref v0] S none S' := RC.of rfl (s0_o_na_clear v0 S h)
-- NameOrchard$Names size ()I
def o_na_size (v0 : Nat) (S : St) : Re Int32 :=
  if KO.1 v0 = (0, 2) then (
  some ((rI S v0 2), S)) else none
set_option maxRecDepth 100000 in
theorem s0_o_na_size {d : Nat} {S' : St} {r : Int32} (v0 : Nat) (S : St) (h : o_na_size v0 S = some (r, S')) : RR KO (d + 0) 403 0 [(0, .ref v0)] [] S (some (.int r)) S' := by
  unfold o_na_size at h
  refine RR.runs (pc' := 1) (lc' := [(0, .ref v0)]) (st' := [.ref v0]) (S1 := S) (nL := 1) (cd := cd_403) mx_403 rfl rfl 1 rfl ?_
  obtain ⟨g1, h⟩ := gpE h
  refine RR.gPo (pc' := 4) (lc' := [(0, .ref v0)]) (st' := [.int (rI S v0 2)]) (S1 := S) (nL := 1) (cd := cd_403) mx_403 rfl rfl rfl ⟨g1, by decide, by decide⟩ ?_
  cases h
  exact RR.reti mx_403 rfl rfl rfl
theorem s_o_na_size {d : Nat} {S' : St} {r : Int32} (v0 : Nat) (S : St) (h : o_na_size v0 S = some (r, S')) : RC KO (d + 0) 403 [.ref v0] S (some (.int r)) S' := RC.of rfl (s0_o_na_size v0 S h)
-- NameOrchard$Names at (I)J
def o_na_at_31 (p0 : Int64) (S : St) : Re Int64 :=
  some (p0, S)
set_option maxRecDepth 100000 in
theorem s_o_na_at_31 {d : Nat} {S' : St} {r : Int64} (p0 : Int64) (S : St) (h : o_na_at_31 p0 S = some (r, S')) : RR KO (d + 0) 404 31 [] [.long p0] S (some (.long r)) S' := by
  unfold o_na_at_31 at h
  cases h
  exact RR.retl mx_404 rfl rfl rfl
def o_na_at_30 (S : St) : Re Int64 :=
  o_na_at_31 (0 : Int64) S
set_option maxRecDepth 100000 in
theorem s_o_na_at_30 {d : Nat} {S' : St} {r : Int64} (S : St) (h : o_na_at_30 S = some (r, S')) : RR KO (d + 0) 404 30 [] [] S (some (.long r)) S' := by
  unfold o_na_at_30 at h
  refine RR.runs (pc' := 31) (lc' := []) (st' := [.long (0 : Int64)]) (S1 := S) (nL := 2) (cd := cd_404) mx_404 rfl rfl 1 rfl ?_
  refine RR.weak [] trivial ?_
  exact s_o_na_at_31 _ _ h
def o_na_at (v0 : Nat) (v1 : Int32) (S : St) : Re Int64 :=
  if v1 < 0 then (
    o_na_at_30 S)
  else (
    if KO.1 v0 = (0, 2) then (
    if v1 < (rI S v0 2) then (
            if 1 ≤ (KO.1 (v0 + 4)).1 ∧ (KO.1 (v0 + 4)).1 < 8 then (
      if v1 < (Int32.ofNat (KO.1 (v0 + 4)).2) then (
                if (KO.1 (v0 + 4)).1 = 4 then (
        if v1 < 0 ∨ (KO.1 (v0 + 4)).2 ≤ v1.toNatClampNeg then none else
        o_na_at_31 ((rJ S (v0 + 4) v1.toNatClampNeg)) S) else none)
      else (
        o_na_at_30 S)) else none)
    else (
      o_na_at_30 S)) else none)
set_option maxRecDepth 100000 in
theorem s0_o_na_at {d : Nat} {S' : St} {r : Int64} (v0 : Nat) (v1 : Int32) (S : St) (h : o_na_at v0 v1 S = some (r, S')) : RR KO (d + 0) 404 0 [(0, .ref v0), (1, .int v1)] [] S (some (.long r)) S' := by
  unfold o_na_at at h
  refine RR.runs (pc' := icm .lt v1 0 30 4) (lc' := [(0, .ref v0), (1, .int v1)]) (st' := []) (S1 := S) (nL := 2) (cd := cd_404) mx_404 rfl rfl 2 rfl ?_
  rcases ifE h with ⟨c, h⟩ | ⟨c, h⟩
  · refine RR.c_lt (fun _ => ?_) (fun q => absurd c q)
    refine RR.weak [] trivial ?_
    exact s_o_na_at_30 _ h
  · refine RR.c_lt (fun q => absurd q c) (fun _ => ?_)
    refine RR.runs (pc' := 6) (lc' := [(0, .ref v0), (1, .int v1)]) (st' := [.ref v0, .int v1]) (S1 := S) (nL := 2) (cd := cd_404) mx_404 rfl rfl 2 rfl ?_
    obtain ⟨g1, h⟩ := gpE h
    refine RR.gPo (pc' := 9) (lc' := [(0, .ref v0), (1, .int v1)]) (st' := [.int (rI S v0 2), .int v1]) (S1 := S) (nL := 2) (cd := cd_404) mx_404 rfl rfl rfl ⟨g1, by decide, by decide⟩ ?_
    refine RR.runs (pc' := icm .ge v1 (rI S v0 2) 30 12) (lc' := [(0, .ref v0), (1, .int v1)]) (st' := []) (S1 := S) (nL := 2) (cd := cd_404) mx_404 rfl rfl 1 rfl ?_
    rcases ifE h with ⟨c, h⟩ | ⟨c, h⟩
    · refine RR.c_ge (fun _ => ?_) (fun q => absurd c q)
      refine RR.runs (pc' := 14) (lc' := [(0, .ref v0), (1, .int v1)]) (st' := [.ref v0, .int v1]) (S1 := S) (nL := 2) (cd := cd_404) mx_404 rfl rfl 2 rfl ?_
      refine RR.gPo (pc' := 17) (lc' := [(0, .ref v0), (1, .int v1)]) (st' := [.ref (v0 + 4), .int v1]) (S1 := S) (nL := 2) (cd := cd_404) mx_404 rfl rfl rfl ⟨g1, by decide, by decide⟩ ?_
      obtain ⟨g, h⟩ := gpE h
      refine RR.gP (pc' := 18) (lc' := [(0, .ref v0), (1, .int v1)]) (st' := [.int ((Int32.ofNat (KO.1 (v0 + 4)).2)), .int v1]) (S1 := S) (nL := 2) (cd := cd_404) mx_404 rfl rfl rfl g ?_
      refine RR.runs (pc' := icm .ge v1 ((Int32.ofNat (KO.1 (v0 + 4)).2)) 30 21) (lc' := [(0, .ref v0), (1, .int v1)]) (st' := []) (S1 := S) (nL := 2) (cd := cd_404) mx_404 rfl rfl 1 rfl ?_
      rcases ifE h with ⟨c, h⟩ | ⟨c, h⟩
      · refine RR.c_ge (fun _ => ?_) (fun q => absurd c q)
        refine RR.runs (pc' := 22) (lc' := [(0, .ref v0), (1, .int v1)]) (st' := [.ref v0]) (S1 := S) (nL := 2) (cd := cd_404) mx_404 rfl rfl 1 rfl ?_
        refine RR.gPo (pc' := 25) (lc' := [(0, .ref v0), (1, .int v1)]) (st' := [.ref (v0 + 4)]) (S1 := S) (nL := 2) (cd := cd_404) mx_404 rfl rfl rfl ⟨g1, by decide, by decide⟩ ?_
        refine RR.runs (pc' := 26) (lc' := [(0, .ref v0), (1, .int v1)]) (st' := [.int v1, .ref (v0 + 4)]) (S1 := S) (nL := 2) (cd := cd_404) mx_404 rfl rfl 1 rfl ?_
        obtain ⟨gq, h⟩ := gpE h
        obtain ⟨g, h⟩ := gnE h
        refine RR.gPN (c2 := (KO.1 (v0 + 4)).1 = 4) (pc' := 27) (lc' := [(0, .ref v0), (1, .int v1)]) (st' := [.long ((rJ S (v0 + 4) v1.toNatClampNeg))]) (S1 := S) (nL := 2) (cd := cd_404) mx_404 rfl rfl rfl gq g ?_
        refine RR.runs (pc' := 31) (lc' := [(0, .ref v0), (1, .int v1)]) (st' := [.long ((rJ S (v0 + 4) v1.toNatClampNeg))]) (S1 := S) (nL := 2) (cd := cd_404) mx_404 rfl rfl 1 rfl ?_
        refine RR.weak [] trivial ?_
        exact s_o_na_at_31 _ _ h
      · refine RR.c_ge (fun q => absurd q c) (fun _ => ?_)
        refine RR.weak [] trivial ?_
        exact s_o_na_at_30 _ h
    · refine RR.c_ge (fun q => absurd q c) (fun _ => ?_)
      refine RR.weak [] trivial ?_
      exact s_o_na_at_30 _ h
theorem s_o_na_at {d : Nat} {S' : St} {r : Int64} (v0 : Nat) (v1 : Int32) (S : St) (h : o_na_at v0 v1 S = some (r, S')) : RC KO (d + 0) 404 [.ref v0, .int v1] S (some (.long r)) S' := RC.of rfl (s0_o_na_at v0 v1 S h)
