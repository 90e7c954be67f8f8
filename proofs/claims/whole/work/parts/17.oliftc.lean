/-! Methods of the class, lifted (laid by wip/whole/gen/klass.py) -/
-- NameOrchard$Reader readOther (LNameOrchard$Told;)V
def o_rd_readOther_60 (S : St) : Re Unit :=
  some ((), S)
set_option maxRecDepth 100000 in
theorem s_o_rd_readOther_60 {d : Nat} {S' : St} {r : Unit} (S : St) (h : o_rd_readOther_60 S = some (r, S')) : RR KO (d + 4) 617 60 [] [] S none S' := by
  unfold o_rd_readOther_60 at h
  cases h
  exact RR.retv mx_617 rfl rfl rfl
def o_rd_readOther_26 (v1 : Nat) (p0 : Int32) (S : St) : Re Unit :=
  bn (o_rd_open p0 S) fun r1 S2 =>
  bn (o_rd_newName v1 S2) fun r3 S4 =>
  bn (o_rd_take 1006 S4) fun r5 S6 =>
  if (rI S6 3 7) = 0 then (
    if KO.1 v1 = (0, 10) then (
    if KO.1 (v1 + 2) = (0, 2) then (
bn (o_na_add (v1 + 2) r3 S6) fun r9 S10 =>
    o_rd_readOther_60 S10) else none) else none)
  else (
    o_rd_readOther_60 S6)
set_option maxRecDepth 100000 in
theorem s_o_rd_readOther_26 {d : Nat} {S' : St} {r : Unit} (v1 : Nat) (p0 : Int32) (S : St) (h : o_rd_readOther_26 v1 p0 S = some (r, S')) : RR KO (d + 4) 617 26 [(0, .ref 2), (1, .ref v1)] [.int p0, .ref 2] S none S' := by
  unfold o_rd_readOther_26 at h
  obtain ⟨r1, S2, h1, h⟩ := bnE h
  refine RR.callV (b := 2) (as := [.int p0]) (rest := []) (r1 := none) (S1 := S2) mx_617 rfl rfl mx_606 rfl rfl (by decide) (Or.inl rfl) (Nat.le_of_ble_eq_true rfl) (Nat.le_of_ble_eq_true rfl) (RC.deep (by omega) (s_o_rd_open (d := d) _ _ h1)) ?_
  show RR KO _ 617 29 [(0, .ref 2), (1, .ref v1)] [] S2 _ _
  refine RR.runs (pc' := 31) (lc' := [(0, .ref 2), (1, .ref v1)]) (st' := [.ref v1, .ref 2]) (S1 := S2) (nL := 4) (cd := cd_617) mx_617 rfl rfl 2 rfl ?_
  obtain ⟨r3, S4, h1, h⟩ := bnE h
  refine RR.callV (b := 2) (as := [.ref v1]) (rest := []) (r1 := (some (.long r3))) (S1 := S4) mx_617 rfl rfl mx_609 rfl rfl (by decide) (Or.inl rfl) (Nat.le_of_ble_eq_true rfl) (Nat.le_of_ble_eq_true rfl) (RC.deep (by omega) (s_o_rd_newName (d := d) _ _ h1)) ?_
  show RR KO _ 617 34 [(0, .ref 2), (1, .ref v1)] [.long r3] S4 _ _
  refine RR.runs (pc' := 39) (lc' := [(2, .long r3), (0, .ref 2), (1, .ref v1)]) (st' := [.ref 1006, .ref 2]) (S1 := S4) (nL := 4) (cd := cd_617) mx_617 rfl rfl 3 rfl ?_
  obtain ⟨r5, S6, h1, h⟩ := bnE h
  refine RR.callV (b := 2) (as := [.ref 1006]) (rest := []) (r1 := none) (S1 := S6) mx_617 rfl rfl mx_604 rfl rfl (by decide) (Or.inl rfl) (Nat.le_of_ble_eq_true rfl) (Nat.le_of_ble_eq_true rfl) (RC.deep (by omega) (s_o_rd_take (d := d) _ _ h1)) ?_
  show RR KO _ 617 42 [(2, .long r3), (0, .ref 2), (1, .ref v1)] [] S6 _ _
  refine RR.runs (pc' := icm .ne (rI S6 3 7) 0 60 52) (lc' := [(2, .long r3), (0, .ref 2), (1, .ref v1)]) (st' := []) (S1 := S6) (nL := 4) (cd := cd_617) mx_617 rfl rfl 4 rfl ?_
  rcases ifE h with ⟨c, h⟩ | ⟨c, h⟩
  · refine RR.c_ne (fun _ => ?_) (fun q => absurd c q)
    refine RR.runs (pc' := 53) (lc' := [(2, .long r3), (0, .ref 2), (1, .ref v1)]) (st' := [.ref v1]) (S1 := S6) (nL := 4) (cd := cd_617) mx_617 rfl rfl 1 rfl ?_
    obtain ⟨g7, h⟩ := gpE h
    refine RR.gPo (pc' := 56) (lc' := [(2, .long r3), (0, .ref 2), (1, .ref v1)]) (st' := [.ref (v1 + 2)]) (S1 := S6) (nL := 4) (cd := cd_617) mx_617 rfl rfl rfl ⟨g7, by decide, by decide⟩ ?_
    refine RR.runs (pc' := 57) (lc' := [(2, .long r3), (0, .ref 2), (1, .ref v1)]) (st' := [.long r3, .ref (v1 + 2)]) (S1 := S6) (nL := 4) (cd := cd_617) mx_617 rfl rfl 1 rfl ?_
    obtain ⟨g8, h⟩ := gpE h
    obtain ⟨r9, S10, h1, h⟩ := bnE h
    refine RR.callV (b := (v1 + 2)) (as := [.long r3]) (rest := []) (r1 := none) (S1 := S10) mx_617 rfl rfl mx_405 rfl rfl (by decide) (Or.inl g8) (Nat.le_of_ble_eq_true rfl) (Nat.le_of_ble_eq_true rfl) (RC.deep (by omega) (s_o_na_add (d := d) _ _ _ h1)) ?_
    show RR KO _ 617 60 [(2, .long r3), (0, .ref 2), (1, .ref v1)] [] S10 _ _
    refine RR.weak [] trivial ?_
    exact s_o_rd_readOther_60 _ h
  · refine RR.c_ne (fun q => absurd q c) (fun _ => ?_)
    refine RR.weak [] trivial ?_
    exact s_o_rd_readOther_60 _ h
def o_rd_readOther (v1 : Nat) (S : St) : Re Unit :=
  if KO.1 v1 = (0, 10) then (
  if KO.1 (v1 + 2) = (0, 2) then (
bn (o_na_size (v1 + 2) S) fun r3 S4 =>
    if KO.1 (v1 + 80) = (0, 7) then (
bn (o_tb_size (v1 + 80) S4) fun r6 S7 =>
  if (r3 - r6) < (6 : Int32) then (
    o_rd_readOther_26 v1 (0 : Int32) S7)
  else (
    o_rd_readOther_26 v1 (1 : Int32) S7)) else none) else none) else none
set_option maxRecDepth 100000 in
theorem s0_o_rd_readOther {d : Nat} {S' : St} {r : Unit} (v1 : Nat) (S : St) (h : o_rd_readOther v1 S = some (r, S')) : RR KO (d + 4) 617 0 [(0, .ref 2), (1, .ref v1)] [] S none S' := by
  unfold o_rd_readOther at h
  refine RR.runs (pc' := 2) (lc' := [(0, .ref 2), (1, .ref v1)]) (st' := [.ref v1, .ref 2]) (S1 := S) (nL := 4) (cd := cd_617) mx_617 rfl rfl 2 rfl ?_
  obtain ⟨g1, h⟩ := gpE h
  refine RR.gPo (pc' := 5) (lc' := [(0, .ref 2), (1, .ref v1)]) (st' := [.ref (v1 + 2), .ref 2]) (S1 := S) (nL := 4) (cd := cd_617) mx_617 rfl rfl rfl ⟨g1, by decide, by decide⟩ ?_
  obtain ⟨g2, h⟩ := gpE h
  obtain ⟨r3, S4, h1, h⟩ := bnE h
  refine RR.callV (b := (v1 + 2)) (as := []) (rest := [.ref 2]) (r1 := (some (.int r3))) (S1 := S4) mx_617 rfl rfl mx_403 rfl rfl (by decide) (Or.inl g2) (Nat.le_of_ble_eq_true rfl) (Nat.le_of_ble_eq_true rfl) (RC.deep (by omega) (s_o_na_size (d := d) _ _ h1)) ?_
  show RR KO _ 617 8 [(0, .ref 2), (1, .ref v1)] [.int r3, .ref 2] S4 _ _
  refine RR.runs (pc' := 9) (lc' := [(0, .ref 2), (1, .ref v1)]) (st' := [.ref v1, .int r3, .ref 2]) (S1 := S4) (nL := 4) (cd := cd_617) mx_617 rfl rfl 1 rfl ?_
  refine RR.gPo (pc' := 12) (lc' := [(0, .ref 2), (1, .ref v1)]) (st' := [.ref (v1 + 80), .int r3, .ref 2]) (S1 := S4) (nL := 4) (cd := cd_617) mx_617 rfl rfl rfl ⟨g1, by decide, by decide⟩ ?_
  obtain ⟨g5, h⟩ := gpE h
  obtain ⟨r6, S7, h1, h⟩ := bnE h
  refine RR.callV (b := (v1 + 80)) (as := []) (rest := [.int r3, .ref 2]) (r1 := (some (.int r6))) (S1 := S7) mx_617 rfl rfl mx_1402 rfl rfl (by decide) (Or.inl g5) (Nat.le_of_ble_eq_true rfl) (Nat.le_of_ble_eq_true rfl) (RC.deep (by omega) (s_o_tb_size (d := d) _ _ h1)) ?_
  show RR KO _ 617 15 [(0, .ref 2), (1, .ref v1)] [.int r6, .int r3, .ref 2] S7 _ _
  refine RR.runs (pc' := icm .lt (r3 - r6) (6 : Int32) 25 21) (lc' := [(0, .ref 2), (1, .ref v1)]) (st' := [.ref 2]) (S1 := S7) (nL := 4) (cd := cd_617) mx_617 rfl rfl 3 rfl ?_
  rcases ifE h with ⟨c, h⟩ | ⟨c, h⟩
  · refine RR.c_lt (fun _ => ?_) (fun q => absurd c q)
    refine RR.runs (pc' := 26) (lc' := [(0, .ref 2), (1, .ref v1)]) (st' := [.int (0 : Int32), .ref 2]) (S1 := S7) (nL := 4) (cd := cd_617) mx_617 rfl rfl 1 rfl ?_
    refine RR.weak [(0, .ref 2), (1, .ref v1)] ⟨rfl, rfl, trivial⟩ ?_
    exact s_o_rd_readOther_26 _ _ _ h
  · refine RR.c_lt (fun q => absurd q c) (fun _ => ?_)
    refine RR.runs (pc' := 26) (lc' := [(0, .ref 2), (1, .ref v1)]) (st' := [.int (1 : Int32), .ref 2]) (S1 := S7) (nL := 4) (cd := cd_617) mx_617 rfl rfl 2 rfl ?_
    refine RR.weak [(0, .ref 2), (1, .ref v1)] ⟨rfl, rfl, trivial⟩ ?_
    exact s_o_rd_readOther_26 _ _ _ h
theorem s_o_rd_readOther {d : Nat} {S' : St} {r : Unit} (v1 : Nat) (S : St) (h : o_rd_readOther v1 S = some (r, S')) : RC KO (d + 4) 617 [.ref 2, .ref v1] S none S' := RC.of rfl (s0_o_rd_readOther v1 S h)
-- NameOrchard$Reader soundHere (LNameOrchard$Told;)I
def o_rd_soundHere_39 (v2 : Int32) (S : St) : Re Int32 :=
  some (v2, S)
set_option maxRecDepth 100000 in
theorem s_o_rd_soundHere_39 {d : Nat} {S' : St} {r : Int32} (v2 : Int32) (S : St) (h : o_rd_soundHere_39 v2 S = some (r, S')) : RR KO (d + 2) 610 39 [(2, .int v2)] [] S (some (.int r)) S' := by
  unfold o_rd_soundHere_39 at h
  refine RR.runs (pc' := 40) (lc' := [(2, .int v2)]) (st' := [.int v2]) (S1 := S) (nL := 3) (cd := cd_610) mx_610 rfl rfl 1 rfl ?_
  cases h
  exact RR.reti mx_610 rfl rfl rfl
def o_rd_soundHere_25 (p0 : Int32) (S : St) : Re Int32 :=
  if p0 = (-1 : Int32) then (
    bn (o_tp_wrong (2 : Int32) S) fun r1 S2 =>
    o_rd_soundHere_39 p0 S2)
  else (
    o_rd_soundHere_39 p0 S)
set_option maxRecDepth 100000 in
theorem s_o_rd_soundHere_25 {d : Nat} {S' : St} {r : Int32} (p0 : Int32) (S : St) (h : o_rd_soundHere_25 p0 S = some (r, S')) : RR KO (d + 2) 610 25 [(0, .ref 2)] [.int p0] S (some (.int r)) S' := by
  unfold o_rd_soundHere_25 at h
  refine RR.runs (pc' := icm .ne p0 (-1 : Int32) 39 31) (lc' := [(2, .int p0), (0, .ref 2)]) (st' := []) (S1 := S) (nL := 3) (cd := cd_610) mx_610 rfl rfl 4 rfl ?_
  rcases ifE h with ⟨c, h⟩ | ⟨c, h⟩
  · refine RR.c_ne (fun _ => ?_) (fun q => absurd c q)
    refine RR.runs (pc' := 36) (lc' := [(2, .int p0), (0, .ref 2)]) (st' := [.int (2 : Int32), .ref 3]) (S1 := S) (nL := 3) (cd := cd_610) mx_610 rfl rfl 3 rfl ?_
    obtain ⟨r1, S2, h1, h⟩ := bnE h
    refine RR.callV (b := 3) (as := [.int (2 : Int32)]) (rest := []) (r1 := none) (S1 := S2) mx_610 rfl rfl mx_1603 rfl rfl (by decide) (Or.inl rfl) (Nat.le_of_ble_eq_true rfl) (Nat.le_of_ble_eq_true rfl) (RC.deep (by omega) (s_o_tp_wrong (d := d) _ _ h1)) ?_
    show RR KO _ 610 39 [(2, .int p0), (0, .ref 2)] [] S2 _ _
    refine RR.weak [(2, .int p0)] ⟨rfl, trivial⟩ ?_
    exact s_o_rd_soundHere_39 _ _ h
  · refine RR.c_ne (fun q => absurd q c) (fun _ => ?_)
    refine RR.weak [(2, .int p0)] ⟨rfl, trivial⟩ ?_
    exact s_o_rd_soundHere_39 _ _ h
def o_rd_soundHere (v1 : Nat) (S : St) : Re Int32 :=
  bn (o_rd_isName S) fun r1 S2 =>
  if r1 = 0 then (
    o_rd_soundHere_25 (-1 : Int32) S2)
  else (
    if KO.1 v1 = (0, 10) then (
    if KO.1 (v1 + 2) = (0, 2) then (
bn (o_na_find (v1 + 2) (rJ S2 3 5) S2) fun r5 S6 =>
    o_rd_soundHere_25 r5 S6) else none) else none)
set_option maxRecDepth 100000 in
theorem s0_o_rd_soundHere {d : Nat} {S' : St} {r : Int32} (v1 : Nat) (S : St) (h : o_rd_soundHere v1 S = some (r, S')) : RR KO (d + 2) 610 0 [(0, .ref 2), (1, .ref v1)] [] S (some (.int r)) S' := by
  unfold o_rd_soundHere at h
  refine RR.runs (pc' := 1) (lc' := [(0, .ref 2), (1, .ref v1)]) (st' := [.ref 2]) (S1 := S) (nL := 3) (cd := cd_610) mx_610 rfl rfl 1 rfl ?_
  obtain ⟨r1, S2, h1, h⟩ := bnE h
  refine RR.callV (b := 2) (as := []) (rest := []) (r1 := (some (.int r1))) (S1 := S2) mx_610 rfl rfl mx_608 rfl rfl (by decide) (Or.inl rfl) (Nat.le_of_ble_eq_true rfl) (Nat.le_of_ble_eq_true rfl) (RC.deep (by omega) (s_o_rd_isName (d := d) _ h1)) ?_
  show RR KO _ 610 4 [(0, .ref 2), (1, .ref v1)] [.int r1] S2 _ _
  refine RR.runs (pc' := icm .eq r1 0 24 7) (lc' := [(0, .ref 2), (1, .ref v1)]) (st' := []) (S1 := S2) (nL := 3) (cd := cd_610) mx_610 rfl rfl 1 rfl ?_
  rcases ifE h with ⟨c, h⟩ | ⟨c, h⟩
  · refine RR.c_eq (fun _ => ?_) (fun q => absurd c q)
    refine RR.runs (pc' := 25) (lc' := [(0, .ref 2), (1, .ref v1)]) (st' := [.int (-1 : Int32)]) (S1 := S2) (nL := 3) (cd := cd_610) mx_610 rfl rfl 1 rfl ?_
    refine RR.weak [(0, .ref 2)] ⟨rfl, trivial⟩ ?_
    exact s_o_rd_soundHere_25 _ _ h
  · refine RR.c_eq (fun q => absurd q c) (fun _ => ?_)
    refine RR.runs (pc' := 8) (lc' := [(0, .ref 2), (1, .ref v1)]) (st' := [.ref v1]) (S1 := S2) (nL := 3) (cd := cd_610) mx_610 rfl rfl 1 rfl ?_
    obtain ⟨g3, h⟩ := gpE h
    refine RR.gPo (pc' := 11) (lc' := [(0, .ref 2), (1, .ref v1)]) (st' := [.ref (v1 + 2)]) (S1 := S2) (nL := 3) (cd := cd_610) mx_610 rfl rfl rfl ⟨g3, by decide, by decide⟩ ?_
    refine RR.runs (pc' := 18) (lc' := [(0, .ref 2), (1, .ref v1)]) (st' := [.long (rJ S2 3 5), .ref (v1 + 2)]) (S1 := S2) (nL := 3) (cd := cd_610) mx_610 rfl rfl 3 rfl ?_
    obtain ⟨g4, h⟩ := gpE h
    obtain ⟨r5, S6, h1, h⟩ := bnE h
    refine RR.callV (b := (v1 + 2)) (as := [.long (rJ S2 3 5)]) (rest := []) (r1 := (some (.int r5))) (S1 := S6) mx_610 rfl rfl mx_406 rfl rfl (by decide) (Or.inl g4) (Nat.le_of_ble_eq_true rfl) (Nat.le_of_ble_eq_true rfl) (RC.deep (by omega) (s_o_na_find (d := d) _ _ _ h1)) ?_
    show RR KO _ 610 21 [(0, .ref 2), (1, .ref v1)] [.int r5] S6 _ _
    refine RR.runs (pc' := 25) (lc' := [(0, .ref 2), (1, .ref v1)]) (st' := [.int r5]) (S1 := S6) (nL := 3) (cd := cd_610) mx_610 rfl rfl 1 rfl ?_
    refine RR.weak [(0, .ref 2)] ⟨rfl, trivial⟩ ?_
    exact s_o_rd_soundHere_25 _ _ h
theorem s_o_rd_soundHere {d : Nat} {S' : St} {r : Int32} (v1 : Nat) (S : St) (h : o_rd_soundHere v1 S = some (r, S')) : RC KO (d + 2) 610 [.ref 2, .ref v1] S (some (.int r)) S' := RC.of rfl (s0_o_rd_soundHere v1 S h)
-- NameOrchard$Reader readPerson (LNameOrchard$Told;)V
def o_rd_readPerson_162 (S : St) : Re Unit :=
  some ((), S)
set_option maxRecDepth 100000 in
theorem s_o_rd_readPerson_162 {d : Nat} {S' : St} {r : Unit} (S : St) (h : o_rd_readPerson_162 S = some (r, S')) : RR KO (d + 4) 618 162 [] [] S none S' := by
  unfold o_rd_readPerson_162 at h
  cases h
  exact RR.retv mx_618 rfl rfl rfl
def o_rd_readPerson_92 (v1 : Nat) (v2 : Int64) (v4 : Int32) (v5 : Int32) (v6 : Int32) (S : St) : Re Unit :=
  bn (o_rd_take 1006 S) fun r1 S2 =>
  if (rI S2 3 7) = 0 then (
    if KO.1 v1 = (0, 10) then (
    if KO.1 (v1 + 82) = (0, 7) then (
bn (o_tb_add (v1 + 82) S2) fun r5 S6 =>
        bn (o_tb_put (v1 + 82) r5 (0 : Int32) v4 S6) fun r7 S8 =>
        bn (o_tb_put (v1 + 82) r5 (1 : Int32) v5 S8) fun r9 S10 =>
        bn (o_tb_put (v1 + 82) r5 (2 : Int32) v6 S10) fun r11 S12 =>
        if KO.1 (v1 + 4) = (0, 2) then (
bn (o_na_add (v1 + 4) v2 S12) fun r14 S15 =>
    o_rd_readPerson_162 S15) else none) else none) else none)
  else (
    o_rd_readPerson_162 S2)
set_option maxRecDepth 100000 in
theorem s_o_rd_readPerson_92 {d : Nat} {S' : St} {r : Unit} (v1 : Nat) (v2 : Int64) (v4 : Int32) (v5 : Int32) (v6 : Int32) (S : St) (h : o_rd_readPerson_92 v1 v2 v4 v5 v6 S = some (r, S')) : RR KO (d + 4) 618 92 [(0, .ref 2), (1, .ref v1), (2, .long v2), (4, .int v4), (5, .int v5), (6, .int v6)] [] S none S' := by
  unfold o_rd_readPerson_92 at h
  refine RR.runs (pc' := 96) (lc' := [(0, .ref 2), (1, .ref v1), (2, .long v2), (4, .int v4), (5, .int v5), (6, .int v6)]) (st' := [.ref 1006, .ref 2]) (S1 := S) (nL := 8) (cd := cd_618) mx_618 rfl rfl 2 rfl ?_
  obtain ⟨r1, S2, h1, h⟩ := bnE h
  refine RR.callV (b := 2) (as := [.ref 1006]) (rest := []) (r1 := none) (S1 := S2) mx_618 rfl rfl mx_604 rfl rfl (by decide) (Or.inl rfl) (Nat.le_of_ble_eq_true rfl) (Nat.le_of_ble_eq_true rfl) (RC.deep (by omega) (s_o_rd_take (d := d) _ _ h1)) ?_
  show RR KO _ 618 99 [(0, .ref 2), (1, .ref v1), (2, .long v2), (4, .int v4), (5, .int v5), (6, .int v6)] [] S2 _ _
  refine RR.runs (pc' := icm .ne (rI S2 3 7) 0 162 109) (lc' := [(0, .ref 2), (1, .ref v1), (2, .long v2), (4, .int v4), (5, .int v5), (6, .int v6)]) (st' := []) (S1 := S2) (nL := 8) (cd := cd_618) mx_618 rfl rfl 4 rfl ?_
  rcases ifE h with ⟨c, h⟩ | ⟨c, h⟩
  · refine RR.c_ne (fun _ => ?_) (fun q => absurd c q)
    refine RR.runs (pc' := 110) (lc' := [(0, .ref 2), (1, .ref v1), (2, .long v2), (4, .int v4), (5, .int v5), (6, .int v6)]) (st' := [.ref v1]) (S1 := S2) (nL := 8) (cd := cd_618) mx_618 rfl rfl 1 rfl ?_
    obtain ⟨g3, h⟩ := gpE h
    refine RR.gPo (pc' := 113) (lc' := [(0, .ref 2), (1, .ref v1), (2, .long v2), (4, .int v4), (5, .int v5), (6, .int v6)]) (st' := [.ref (v1 + 82)]) (S1 := S2) (nL := 8) (cd := cd_618) mx_618 rfl rfl rfl ⟨g3, by decide, by decide⟩ ?_
    obtain ⟨g4, h⟩ := gpE h
    obtain ⟨r5, S6, h1, h⟩ := bnE h
    refine RR.callV (b := (v1 + 82)) (as := []) (rest := []) (r1 := (some (.int r5))) (S1 := S6) mx_618 rfl rfl mx_1407 rfl rfl (by decide) (Or.inl g4) (Nat.le_of_ble_eq_true rfl) (Nat.le_of_ble_eq_true rfl) (RC.deep (by omega) (s_o_tb_add (d := d) _ _ h1)) ?_
    show RR KO _ 618 116 [(0, .ref 2), (1, .ref v1), (2, .long v2), (4, .int v4), (5, .int v5), (6, .int v6)] [.int r5] S6 _ _
    refine RR.runs (pc' := 119) (lc' := [(7, .int r5), (0, .ref 2), (1, .ref v1), (2, .long v2), (4, .int v4), (5, .int v5), (6, .int v6)]) (st' := [.ref v1]) (S1 := S6) (nL := 8) (cd := cd_618) mx_618 rfl rfl 2 rfl ?_
    refine RR.gPo (pc' := 122) (lc' := [(7, .int r5), (0, .ref 2), (1, .ref v1), (2, .long v2), (4, .int v4), (5, .int v5), (6, .int v6)]) (st' := [.ref (v1 + 82)]) (S1 := S6) (nL := 8) (cd := cd_618) mx_618 rfl rfl rfl ⟨g3, by decide, by decide⟩ ?_
    refine RR.runs (pc' := 127) (lc' := [(7, .int r5), (0, .ref 2), (1, .ref v1), (2, .long v2), (4, .int v4), (5, .int v5), (6, .int v6)]) (st' := [.int v4, .int (0 : Int32), .int r5, .ref (v1 + 82)]) (S1 := S6) (nL := 8) (cd := cd_618) mx_618 rfl rfl 3 rfl ?_
    obtain ⟨r7, S8, h1, h⟩ := bnE h
    refine RR.callV (b := (v1 + 82)) (as := [.int r5, .int (0 : Int32), .int v4]) (rest := []) (r1 := none) (S1 := S8) mx_618 rfl rfl mx_1406 rfl rfl (by decide) (Or.inl g4) (Nat.le_of_ble_eq_true rfl) (Nat.le_of_ble_eq_true rfl) (RC.deep (by omega) (s_o_tb_put (d := d) _ _ _ _ _ h1)) ?_
    show RR KO _ 618 130 [(7, .int r5), (0, .ref 2), (1, .ref v1), (2, .long v2), (4, .int v4), (5, .int v5), (6, .int v6)] [] S8 _ _
    refine RR.runs (pc' := 131) (lc' := [(7, .int r5), (0, .ref 2), (1, .ref v1), (2, .long v2), (4, .int v4), (5, .int v5), (6, .int v6)]) (st' := [.ref v1]) (S1 := S8) (nL := 8) (cd := cd_618) mx_618 rfl rfl 1 rfl ?_
    refine RR.gPo (pc' := 134) (lc' := [(7, .int r5), (0, .ref 2), (1, .ref v1), (2, .long v2), (4, .int v4), (5, .int v5), (6, .int v6)]) (st' := [.ref (v1 + 82)]) (S1 := S8) (nL := 8) (cd := cd_618) mx_618 rfl rfl rfl ⟨g3, by decide, by decide⟩ ?_
    refine RR.runs (pc' := 139) (lc' := [(7, .int r5), (0, .ref 2), (1, .ref v1), (2, .long v2), (4, .int v4), (5, .int v5), (6, .int v6)]) (st' := [.int v5, .int (1 : Int32), .int r5, .ref (v1 + 82)]) (S1 := S8) (nL := 8) (cd := cd_618) mx_618 rfl rfl 3 rfl ?_
    obtain ⟨r9, S10, h1, h⟩ := bnE h
    refine RR.callV (b := (v1 + 82)) (as := [.int r5, .int (1 : Int32), .int v5]) (rest := []) (r1 := none) (S1 := S10) mx_618 rfl rfl mx_1406 rfl rfl (by decide) (Or.inl g4) (Nat.le_of_ble_eq_true rfl) (Nat.le_of_ble_eq_true rfl) (RC.deep (by omega) (s_o_tb_put (d := d) _ _ _ _ _ h1)) ?_
    show RR KO _ 618 142 [(7, .int r5), (0, .ref 2), (1, .ref v1), (2, .long v2), (4, .int v4), (5, .int v5), (6, .int v6)] [] S10 _ _
    refine RR.runs (pc' := 143) (lc' := [(7, .int r5), (0, .ref 2), (1, .ref v1), (2, .long v2), (4, .int v4), (5, .int v5), (6, .int v6)]) (st' := [.ref v1]) (S1 := S10) (nL := 8) (cd := cd_618) mx_618 rfl rfl 1 rfl ?_
    refine RR.gPo (pc' := 146) (lc' := [(7, .int r5), (0, .ref 2), (1, .ref v1), (2, .long v2), (4, .int v4), (5, .int v5), (6, .int v6)]) (st' := [.ref (v1 + 82)]) (S1 := S10) (nL := 8) (cd := cd_618) mx_618 rfl rfl rfl ⟨g3, by decide, by decide⟩ ?_
    refine RR.runs (pc' := 151) (lc' := [(7, .int r5), (0, .ref 2), (1, .ref v1), (2, .long v2), (4, .int v4), (5, .int v5), (6, .int v6)]) (st' := [.int v6, .int (2 : Int32), .int r5, .ref (v1 + 82)]) (S1 := S10) (nL := 8) (cd := cd_618) mx_618 rfl rfl 3 rfl ?_
    obtain ⟨r11, S12, h1, h⟩ := bnE h
    refine RR.callV (b := (v1 + 82)) (as := [.int r5, .int (2 : Int32), .int v6]) (rest := []) (r1 := none) (S1 := S12) mx_618 rfl rfl mx_1406 rfl rfl (by decide) (Or.inl g4) (Nat.le_of_ble_eq_true rfl) (Nat.le_of_ble_eq_true rfl) (RC.deep (by omega) (s_o_tb_put (d := d) _ _ _ _ _ h1)) ?_
    show RR KO _ 618 154 [(7, .int r5), (0, .ref 2), (1, .ref v1), (2, .long v2), (4, .int v4), (5, .int v5), (6, .int v6)] [] S12 _ _
    refine RR.runs (pc' := 155) (lc' := [(7, .int r5), (0, .ref 2), (1, .ref v1), (2, .long v2), (4, .int v4), (5, .int v5), (6, .int v6)]) (st' := [.ref v1]) (S1 := S12) (nL := 8) (cd := cd_618) mx_618 rfl rfl 1 rfl ?_
    refine RR.gPo (pc' := 158) (lc' := [(7, .int r5), (0, .ref 2), (1, .ref v1), (2, .long v2), (4, .int v4), (5, .int v5), (6, .int v6)]) (st' := [.ref (v1 + 4)]) (S1 := S12) (nL := 8) (cd := cd_618) mx_618 rfl rfl rfl ⟨g3, by decide, by decide⟩ ?_
    refine RR.runs (pc' := 159) (lc' := [(7, .int r5), (0, .ref 2), (1, .ref v1), (2, .long v2), (4, .int v4), (5, .int v5), (6, .int v6)]) (st' := [.long v2, .ref (v1 + 4)]) (S1 := S12) (nL := 8) (cd := cd_618) mx_618 rfl rfl 1 rfl ?_
    obtain ⟨g13, h⟩ := gpE h
    obtain ⟨r14, S15, h1, h⟩ := bnE h
    refine RR.callV (b := (v1 + 4)) (as := [.long v2]) (rest := []) (r1 := none) (S1 := S15) mx_618 rfl rfl mx_405 rfl rfl (by decide) (Or.inl g13) (Nat.le_of_ble_eq_true rfl) (Nat.le_of_ble_eq_true rfl) (RC.deep (by omega) (s_o_na_add (d := d) _ _ _ h1)) ?_
    show RR KO _ 618 162 [(7, .int r5), (0, .ref 2), (1, .ref v1), (2, .long v2), (4, .int v4), (5, .int v5), (6, .int v6)] [] S15 _ _
    refine RR.weak [] trivial ?_
    exact s_o_rd_readPerson_162 _ h
  · refine RR.c_ne (fun q => absurd q c) (fun _ => ?_)
    refine RR.weak [] trivial ?_
    exact s_o_rd_readPerson_162 _ h
def o_rd_readPerson (v1 : Nat) (S : St) : Re Unit :=
  if KO.1 v1 = (0, 10) then (
  if KO.1 (v1 + 82) = (0, 7) then (
bn (o_tb_full (v1 + 82) S) fun r3 S4 =>
  bn (o_rd_open r3 S4) fun r5 S6 =>
  bn (o_rd_newName v1 S6) fun r7 S8 =>
  bn (o_rd_take 1022 S8) fun r9 S10 =>
  bn (o_rd_number (11 : Int32) S10) fun r11 S12 =>
  bn (o_rd_take 1023 S12) fun r13 S14 =>
  bn (o_rd_number (6 : Int32) S14) fun r15 S16 =>
  oq (rQ S16 3 6) none fun o17 =>
  if ((KO.1 o17).1 < 8 ∨ (KO.1 o17).1 = 20) ∧ ((KO.1 1007).1 < 8 ∨ (KO.1 1007).1 = 20) then (
if o17 = 1007 then (
    bn (o_tp_step S16) fun r19 S20 =>
        bn (o_rd_soundHere v1 S20) fun r21 S22 =>
    if KO.1 (v1 + 2) = (0, 2) then (
bn (o_na_letter (v1 + 2) r21 (0 : Int32) S22) fun r24 S25 =>
    bn (o_tp_step S25) fun r26 S27 =>
    o_rd_readPerson_92 v1 r7 r11 r15 r24 S27) else none)
  else (
    o_rd_readPerson_92 v1 r7 r11 r15 (0 : Int32) S16)) else none) else none) else none
set_option maxRecDepth 100000 in
theorem s0_o_rd_readPerson {d : Nat} {S' : St} {r : Unit} (v1 : Nat) (S : St) (h : o_rd_readPerson v1 S = some (r, S')) : RR KO (d + 4) 618 0 [(0, .ref 2), (1, .ref v1)] [] S none S' := by
  unfold o_rd_readPerson at h
  refine RR.runs (pc' := 2) (lc' := [(0, .ref 2), (1, .ref v1)]) (st' := [.ref v1, .ref 2]) (S1 := S) (nL := 8) (cd := cd_618) mx_618 rfl rfl 2 rfl ?_
  obtain ⟨g1, h⟩ := gpE h
  refine RR.gPo (pc' := 5) (lc' := [(0, .ref 2), (1, .ref v1)]) (st' := [.ref (v1 + 82), .ref 2]) (S1 := S) (nL := 8) (cd := cd_618) mx_618 rfl rfl rfl ⟨g1, by decide, by decide⟩ ?_
  obtain ⟨g2, h⟩ := gpE h
  obtain ⟨r3, S4, h1, h⟩ := bnE h
  refine RR.callV (b := (v1 + 82)) (as := []) (rest := [.ref 2]) (r1 := (some (.int r3))) (S1 := S4) mx_618 rfl rfl mx_1403 rfl rfl (by decide) (Or.inl g2) (Nat.le_of_ble_eq_true rfl) (Nat.le_of_ble_eq_true rfl) (RC.deep (by omega) (s_o_tb_full (d := d) _ _ h1)) ?_
  show RR KO _ 618 8 [(0, .ref 2), (1, .ref v1)] [.int r3, .ref 2] S4 _ _
  obtain ⟨r5, S6, h1, h⟩ := bnE h
  refine RR.callV (b := 2) (as := [.int r3]) (rest := []) (r1 := none) (S1 := S6) mx_618 rfl rfl mx_606 rfl rfl (by decide) (Or.inl rfl) (Nat.le_of_ble_eq_true rfl) (Nat.le_of_ble_eq_true rfl) (RC.deep (by omega) (s_o_rd_open (d := d) _ _ h1)) ?_
  show RR KO _ 618 11 [(0, .ref 2), (1, .ref v1)] [] S6 _ _
  refine RR.runs (pc' := 13) (lc' := [(0, .ref 2), (1, .ref v1)]) (st' := [.ref v1, .ref 2]) (S1 := S6) (nL := 8) (cd := cd_618) mx_618 rfl rfl 2 rfl ?_
  obtain ⟨r7, S8, h1, h⟩ := bnE h
  refine RR.callV (b := 2) (as := [.ref v1]) (rest := []) (r1 := (some (.long r7))) (S1 := S8) mx_618 rfl rfl mx_609 rfl rfl (by decide) (Or.inl rfl) (Nat.le_of_ble_eq_true rfl) (Nat.le_of_ble_eq_true rfl) (RC.deep (by omega) (s_o_rd_newName (d := d) _ _ h1)) ?_
  show RR KO _ 618 16 [(0, .ref 2), (1, .ref v1)] [.long r7] S8 _ _
  refine RR.runs (pc' := 21) (lc' := [(2, .long r7), (0, .ref 2), (1, .ref v1)]) (st' := [.ref 1022, .ref 2]) (S1 := S8) (nL := 8) (cd := cd_618) mx_618 rfl rfl 3 rfl ?_
  obtain ⟨r9, S10, h1, h⟩ := bnE h
  refine RR.callV (b := 2) (as := [.ref 1022]) (rest := []) (r1 := none) (S1 := S10) mx_618 rfl rfl mx_604 rfl rfl (by decide) (Or.inl rfl) (Nat.le_of_ble_eq_true rfl) (Nat.le_of_ble_eq_true rfl) (RC.deep (by omega) (s_o_rd_take (d := d) _ _ h1)) ?_
  show RR KO _ 618 24 [(2, .long r7), (0, .ref 2), (1, .ref v1)] [] S10 _ _
  refine RR.runs (pc' := 27) (lc' := [(2, .long r7), (0, .ref 2), (1, .ref v1)]) (st' := [.int (11 : Int32), .ref 2]) (S1 := S10) (nL := 8) (cd := cd_618) mx_618 rfl rfl 2 rfl ?_
  obtain ⟨r11, S12, h1, h⟩ := bnE h
  refine RR.callV (b := 2) (as := [.int (11 : Int32)]) (rest := []) (r1 := (some (.int r11))) (S1 := S12) mx_618 rfl rfl mx_605 rfl rfl (by decide) (Or.inl rfl) (Nat.le_of_ble_eq_true rfl) (Nat.le_of_ble_eq_true rfl) (RC.deep (by omega) (s_o_rd_number (d := d) _ _ h1)) ?_
  show RR KO _ 618 30 [(2, .long r7), (0, .ref 2), (1, .ref v1)] [.int r11] S12 _ _
  refine RR.runs (pc' := 36) (lc' := [(4, .int r11), (2, .long r7), (0, .ref 2), (1, .ref v1)]) (st' := [.ref 1023, .ref 2]) (S1 := S12) (nL := 8) (cd := cd_618) mx_618 rfl rfl 3 rfl ?_
  obtain ⟨r13, S14, h1, h⟩ := bnE h
  refine RR.callV (b := 2) (as := [.ref 1023]) (rest := []) (r1 := none) (S1 := S14) mx_618 rfl rfl mx_604 rfl rfl (by decide) (Or.inl rfl) (Nat.le_of_ble_eq_true rfl) (Nat.le_of_ble_eq_true rfl) (RC.deep (by omega) (s_o_rd_take (d := d) _ _ h1)) ?_
  show RR KO _ 618 39 [(4, .int r11), (2, .long r7), (0, .ref 2), (1, .ref v1)] [] S14 _ _
  refine RR.runs (pc' := 42) (lc' := [(4, .int r11), (2, .long r7), (0, .ref 2), (1, .ref v1)]) (st' := [.int (6 : Int32), .ref 2]) (S1 := S14) (nL := 8) (cd := cd_618) mx_618 rfl rfl 2 rfl ?_
  obtain ⟨r15, S16, h1, h⟩ := bnE h
  refine RR.callV (b := 2) (as := [.int (6 : Int32)]) (rest := []) (r1 := (some (.int r15))) (S1 := S16) mx_618 rfl rfl mx_605 rfl rfl (by decide) (Or.inl rfl) (Nat.le_of_ble_eq_true rfl) (Nat.le_of_ble_eq_true rfl) (RC.deep (by omega) (s_o_rd_number (d := d) _ _ h1)) ?_
  show RR KO _ 618 45 [(4, .int r11), (2, .long r7), (0, .ref 2), (1, .ref v1)] [.int r15] S16 _ _
  refine RR.runs (pc' := 57) (lc' := [(6, .int (0 : Int32)), (5, .int r15), (4, .int r11), (2, .long r7), (0, .ref 2), (1, .ref v1)]) (st' := [qv (rQ S16 3 6)]) (S1 := S16) (nL := 8) (cd := cd_618) mx_618 rfl rfl 6 rfl ?_
  rcases oqE h with ⟨e1, h⟩ | ⟨o17, eo17, h⟩
  · cases h
  rw [eo17]
  refine RR.runs (pc' := 60) (lc' := [(6, .int (0 : Int32)), (5, .int r15), (4, .int r11), (2, .long r7), (0, .ref 2), (1, .ref v1)]) (st' := [.ref 1007, .ref o17]) (S1 := S16) (nL := 8) (cd := cd_618) mx_618 rfl rfl 1 rfl ?_
  obtain ⟨g18, h⟩ := gpE h
  refine RR.gP (pc' := acm .ne o17 1007 92 63) (lc' := [(6, .int (0 : Int32)), (5, .int r15), (4, .int r11), (2, .long r7), (0, .ref 2), (1, .ref v1)]) (st' := []) (S1 := S16) (nL := 8) (cd := cd_618) mx_618 rfl rfl rfl g18 ?_
  rcases ifE h with ⟨c, h⟩ | ⟨c, h⟩
  · refine RR.a_ne (fun _ => ?_) (fun q => absurd c q)
    refine RR.runs (pc' := 67) (lc' := [(6, .int (0 : Int32)), (5, .int r15), (4, .int r11), (2, .long r7), (0, .ref 2), (1, .ref v1)]) (st' := [.ref 3]) (S1 := S16) (nL := 8) (cd := cd_618) mx_618 rfl rfl 2 rfl ?_
    obtain ⟨r19, S20, h1, h⟩ := bnE h
    refine RR.callV (b := 3) (as := []) (rest := []) (r1 := none) (S1 := S20) mx_618 rfl rfl mx_1605 rfl rfl (by decide) (Or.inl rfl) (Nat.le_of_ble_eq_true rfl) (Nat.le_of_ble_eq_true rfl) (RC.deep (by omega) (s_o_tp_step (d := d) _ h1)) ?_
    show RR KO _ 618 70 [(6, .int (0 : Int32)), (5, .int r15), (4, .int r11), (2, .long r7), (0, .ref 2), (1, .ref v1)] [] S20 _ _
    refine RR.runs (pc' := 71) (lc' := [(6, .int (0 : Int32)), (5, .int r15), (4, .int r11), (2, .long r7), (0, .ref 2), (1, .ref v1)]) (st' := [.ref v1]) (S1 := S20) (nL := 8) (cd := cd_618) mx_618 rfl rfl 1 rfl ?_
    refine RR.gPo (pc' := 74) (lc' := [(6, .int (0 : Int32)), (5, .int r15), (4, .int r11), (2, .long r7), (0, .ref 2), (1, .ref v1)]) (st' := [.ref (v1 + 2)]) (S1 := S20) (nL := 8) (cd := cd_618) mx_618 rfl rfl rfl ⟨g1, by decide, by decide⟩ ?_
    refine RR.runs (pc' := 76) (lc' := [(6, .int (0 : Int32)), (5, .int r15), (4, .int r11), (2, .long r7), (0, .ref 2), (1, .ref v1)]) (st' := [.ref v1, .ref 2, .ref (v1 + 2)]) (S1 := S20) (nL := 8) (cd := cd_618) mx_618 rfl rfl 2 rfl ?_
    obtain ⟨r21, S22, h1, h⟩ := bnE h
    refine RR.callV (b := 2) (as := [.ref v1]) (rest := [.ref (v1 + 2)]) (r1 := (some (.int r21))) (S1 := S22) mx_618 rfl rfl mx_610 rfl rfl (by decide) (Or.inl rfl) (Nat.le_of_ble_eq_true rfl) (Nat.le_of_ble_eq_true rfl) (RC.deep (by omega) (s_o_rd_soundHere (d := d) _ _ h1)) ?_
    show RR KO _ 618 79 [(6, .int (0 : Int32)), (5, .int r15), (4, .int r11), (2, .long r7), (0, .ref 2), (1, .ref v1)] [.int r21, .ref (v1 + 2)] S22 _ _
    refine RR.runs (pc' := 80) (lc' := [(6, .int (0 : Int32)), (5, .int r15), (4, .int r11), (2, .long r7), (0, .ref 2), (1, .ref v1)]) (st' := [.int (0 : Int32), .int r21, .ref (v1 + 2)]) (S1 := S22) (nL := 8) (cd := cd_618) mx_618 rfl rfl 1 rfl ?_
    obtain ⟨g23, h⟩ := gpE h
    obtain ⟨r24, S25, h1, h⟩ := bnE h
    refine RR.callV (b := (v1 + 2)) (as := [.int r21, .int (0 : Int32)]) (rest := []) (r1 := (some (.int r24))) (S1 := S25) mx_618 rfl rfl mx_407 rfl rfl (by decide) (Or.inl g23) (Nat.le_of_ble_eq_true rfl) (Nat.le_of_ble_eq_true rfl) (RC.deep (by omega) (s_o_na_letter (d := d) _ _ _ _ h1)) ?_
    show RR KO _ 618 83 [(6, .int (0 : Int32)), (5, .int r15), (4, .int r11), (2, .long r7), (0, .ref 2), (1, .ref v1)] [.int r24] S25 _ _
    refine RR.runs (pc' := 89) (lc' := [(6, .int r24), (5, .int r15), (4, .int r11), (2, .long r7), (0, .ref 2), (1, .ref v1)]) (st' := [.ref 3]) (S1 := S25) (nL := 8) (cd := cd_618) mx_618 rfl rfl 3 rfl ?_
    obtain ⟨r26, S27, h1, h⟩ := bnE h
    refine RR.callV (b := 3) (as := []) (rest := []) (r1 := none) (S1 := S27) mx_618 rfl rfl mx_1605 rfl rfl (by decide) (Or.inl rfl) (Nat.le_of_ble_eq_true rfl) (Nat.le_of_ble_eq_true rfl) (RC.deep (by omega) (s_o_tp_step (d := d) _ h1)) ?_
    show RR KO _ 618 92 [(6, .int r24), (5, .int r15), (4, .int r11), (2, .long r7), (0, .ref 2), (1, .ref v1)] [] S27 _ _
    refine RR.weak [(0, .ref 2), (1, .ref v1), (2, .long r7), (4, .int r11), (5, .int r15), (6, .int r24)] ⟨rfl, rfl, rfl, rfl, rfl, rfl, trivial⟩ ?_
    exact s_o_rd_readPerson_92 _ _ _ _ _ _ h
  · refine RR.a_ne (fun q => absurd q c) (fun _ => ?_)
    refine RR.weak [(0, .ref 2), (1, .ref v1), (2, .long r7), (4, .int r11), (5, .int r15), (6, .int (0 : Int32))] ⟨rfl, rfl, rfl, rfl, rfl, rfl, trivial⟩ ?_
    exact s_o_rd_readPerson_92 _ _ _ _ _ _ h
theorem s_o_rd_readPerson {d : Nat} {S' : St} {r : Unit} (v1 : Nat) (S : St) (h : o_rd_readPerson v1 S = some (r, S')) : RC KO (d + 4) 618 [.ref 2, .ref v1] S none S' := RC.of rfl (s0_o_rd_readPerson v1 S h)
-- NameOrchard$Reader readStranger (LNameOrchard$Told;)V
def o_rd_readStranger_51 (k19 : Nat → Int32 → Int32 → St → Re Unit) (v1 : Nat) (v2 : Int32) (v3 : Int32) (S : St) : Re Unit :=
  lt' ((v3 + (1 : Int32)) : Int32) fun x1 =>
  k19 v1 v2 x1 S
set_option maxRecDepth 100000 in
theorem s_o_rd_readStranger_51 {d : Nat} (k19 : Nat → Int32 → Int32 → St → Re Unit) {S' : St} {r : Unit} (b19 : ∀ (v1 : Nat) (v2 : Int32) (v3 : Int32) (S : St), k19 v1 v2 v3 S = some (r, S') → RR KO (d + 4) 619 19 [(0, .ref 2), (1, .ref v1), (2, .int v2), (3, .int v3)] [] S none S') (v1 : Nat) (v2 : Int32) (v3 : Int32) (S : St) (h : o_rd_readStranger_51 k19 v1 v2 v3 S = some (r, S')) : RR KO (d + 4) 619 51 [(0, .ref 2), (1, .ref v1), (2, .int v2), (3, .int v3)] [] S none S' := by
  unfold o_rd_readStranger_51 at h
  refine RR.runs (pc' := 54) (lc' := [(3, .int ((v3 + (1 : Int32)))), (0, .ref 2), (1, .ref v1), (2, .int v2)]) (st' := []) (S1 := S) (nL := 5) (cd := cd_619) mx_619 rfl rfl 1 rfl ?_
  obtain ⟨x1, ex1, h⟩ := ltE h
  rw [← ex1]
  refine RR.runs (pc' := 19) (lc' := [(3, .int x1), (0, .ref 2), (1, .ref v1), (2, .int v2)]) (st' := []) (S1 := S) (nL := 5) (cd := cd_619) mx_619 rfl rfl 1 rfl ?_
  refine RR.weak [(0, .ref 2), (1, .ref v1), (2, .int v2), (3, .int x1)] ⟨rfl, rfl, rfl, rfl, trivial⟩ ?_
  exact b19 _ _ _ _ h
def o_rd_readStranger_119 (S : St) : Re Unit :=
  some ((), S)
set_option maxRecDepth 100000 in
theorem s_o_rd_readStranger_119 {d : Nat} {S' : St} {r : Unit} (S : St) (h : o_rd_readStranger_119 S = some (r, S')) : RR KO (d + 4) 619 119 [] [] S none S' := by
  unfold o_rd_readStranger_119 at h
  cases h
  exact RR.retv mx_619 rfl rfl rfl
def o_rd_readStranger_57 (v1 : Nat) (v2 : Int32) (S : St) : Re Unit :=
  bn (o_tp_step S) fun r1 S2 =>
  bn (o_rd_number (10 : Int32) S2) fun r3 S4 =>
  bn (o_rd_take 1006 S4) fun r5 S6 =>
  if (rI S6 3 7) = 0 then (
    if KO.1 v1 = (0, 10) then (
    if KO.1 (v1 + 84) = (0, 7) then (
bn (o_tb_add (v1 + 84) S6) fun r9 S10 =>
        bn (o_tb_put (v1 + 84) r9 (0 : Int32) v2 S10) fun r11 S12 =>
        bn (o_tb_put (v1 + 84) r9 (1 : Int32) r3 S12) fun r13 S14 =>
    o_rd_readStranger_119 S14) else none) else none)
  else (
    o_rd_readStranger_119 S6)
set_option maxRecDepth 100000 in
theorem s_o_rd_readStranger_57 {d : Nat} {S' : St} {r : Unit} (v1 : Nat) (v2 : Int32) (S : St) (h : o_rd_readStranger_57 v1 v2 S = some (r, S')) : RR KO (d + 4) 619 57 [(0, .ref 2), (1, .ref v1), (2, .int v2)] [] S none S' := by
  unfold o_rd_readStranger_57 at h
  refine RR.runs (pc' := 61) (lc' := [(0, .ref 2), (1, .ref v1), (2, .int v2)]) (st' := [.ref 3]) (S1 := S) (nL := 5) (cd := cd_619) mx_619 rfl rfl 2 rfl ?_
  obtain ⟨r1, S2, h1, h⟩ := bnE h
  refine RR.callV (b := 3) (as := []) (rest := []) (r1 := none) (S1 := S2) mx_619 rfl rfl mx_1605 rfl rfl (by decide) (Or.inl rfl) (Nat.le_of_ble_eq_true rfl) (Nat.le_of_ble_eq_true rfl) (RC.deep (by omega) (s_o_tp_step (d := d) _ h1)) ?_
  show RR KO _ 619 64 [(0, .ref 2), (1, .ref v1), (2, .int v2)] [] S2 _ _
  refine RR.runs (pc' := 67) (lc' := [(0, .ref 2), (1, .ref v1), (2, .int v2)]) (st' := [.int (10 : Int32), .ref 2]) (S1 := S2) (nL := 5) (cd := cd_619) mx_619 rfl rfl 2 rfl ?_
  obtain ⟨r3, S4, h1, h⟩ := bnE h
  refine RR.callV (b := 2) (as := [.int (10 : Int32)]) (rest := []) (r1 := (some (.int r3))) (S1 := S4) mx_619 rfl rfl mx_605 rfl rfl (by decide) (Or.inl rfl) (Nat.le_of_ble_eq_true rfl) (Nat.le_of_ble_eq_true rfl) (RC.deep (by omega) (s_o_rd_number (d := d) _ _ h1)) ?_
  show RR KO _ 619 70 [(0, .ref 2), (1, .ref v1), (2, .int v2)] [.int r3] S4 _ _
  refine RR.runs (pc' := 75) (lc' := [(3, .int r3), (0, .ref 2), (1, .ref v1), (2, .int v2)]) (st' := [.ref 1006, .ref 2]) (S1 := S4) (nL := 5) (cd := cd_619) mx_619 rfl rfl 3 rfl ?_
  obtain ⟨r5, S6, h1, h⟩ := bnE h
  refine RR.callV (b := 2) (as := [.ref 1006]) (rest := []) (r1 := none) (S1 := S6) mx_619 rfl rfl mx_604 rfl rfl (by decide) (Or.inl rfl) (Nat.le_of_ble_eq_true rfl) (Nat.le_of_ble_eq_true rfl) (RC.deep (by omega) (s_o_rd_take (d := d) _ _ h1)) ?_
  show RR KO _ 619 78 [(3, .int r3), (0, .ref 2), (1, .ref v1), (2, .int v2)] [] S6 _ _
  refine RR.runs (pc' := icm .ne (rI S6 3 7) 0 119 88) (lc' := [(3, .int r3), (0, .ref 2), (1, .ref v1), (2, .int v2)]) (st' := []) (S1 := S6) (nL := 5) (cd := cd_619) mx_619 rfl rfl 4 rfl ?_
  rcases ifE h with ⟨c, h⟩ | ⟨c, h⟩
  · refine RR.c_ne (fun _ => ?_) (fun q => absurd c q)
    refine RR.runs (pc' := 89) (lc' := [(3, .int r3), (0, .ref 2), (1, .ref v1), (2, .int v2)]) (st' := [.ref v1]) (S1 := S6) (nL := 5) (cd := cd_619) mx_619 rfl rfl 1 rfl ?_
    obtain ⟨g7, h⟩ := gpE h
    refine RR.gPo (pc' := 92) (lc' := [(3, .int r3), (0, .ref 2), (1, .ref v1), (2, .int v2)]) (st' := [.ref (v1 + 84)]) (S1 := S6) (nL := 5) (cd := cd_619) mx_619 rfl rfl rfl ⟨g7, by decide, by decide⟩ ?_
    obtain ⟨g8, h⟩ := gpE h
    obtain ⟨r9, S10, h1, h⟩ := bnE h
    refine RR.callV (b := (v1 + 84)) (as := []) (rest := []) (r1 := (some (.int r9))) (S1 := S10) mx_619 rfl rfl mx_1407 rfl rfl (by decide) (Or.inl g8) (Nat.le_of_ble_eq_true rfl) (Nat.le_of_ble_eq_true rfl) (RC.deep (by omega) (s_o_tb_add (d := d) _ _ h1)) ?_
    show RR KO _ 619 95 [(3, .int r3), (0, .ref 2), (1, .ref v1), (2, .int v2)] [.int r9] S10 _ _
    refine RR.runs (pc' := 98) (lc' := [(4, .int r9), (3, .int r3), (0, .ref 2), (1, .ref v1), (2, .int v2)]) (st' := [.ref v1]) (S1 := S10) (nL := 5) (cd := cd_619) mx_619 rfl rfl 2 rfl ?_
    refine RR.gPo (pc' := 101) (lc' := [(4, .int r9), (3, .int r3), (0, .ref 2), (1, .ref v1), (2, .int v2)]) (st' := [.ref (v1 + 84)]) (S1 := S10) (nL := 5) (cd := cd_619) mx_619 rfl rfl rfl ⟨g7, by decide, by decide⟩ ?_
    refine RR.runs (pc' := 105) (lc' := [(4, .int r9), (3, .int r3), (0, .ref 2), (1, .ref v1), (2, .int v2)]) (st' := [.int v2, .int (0 : Int32), .int r9, .ref (v1 + 84)]) (S1 := S10) (nL := 5) (cd := cd_619) mx_619 rfl rfl 3 rfl ?_
    obtain ⟨r11, S12, h1, h⟩ := bnE h
    refine RR.callV (b := (v1 + 84)) (as := [.int r9, .int (0 : Int32), .int v2]) (rest := []) (r1 := none) (S1 := S12) mx_619 rfl rfl mx_1406 rfl rfl (by decide) (Or.inl g8) (Nat.le_of_ble_eq_true rfl) (Nat.le_of_ble_eq_true rfl) (RC.deep (by omega) (s_o_tb_put (d := d) _ _ _ _ _ h1)) ?_
    show RR KO _ 619 108 [(4, .int r9), (3, .int r3), (0, .ref 2), (1, .ref v1), (2, .int v2)] [] S12 _ _
    refine RR.runs (pc' := 109) (lc' := [(4, .int r9), (3, .int r3), (0, .ref 2), (1, .ref v1), (2, .int v2)]) (st' := [.ref v1]) (S1 := S12) (nL := 5) (cd := cd_619) mx_619 rfl rfl 1 rfl ?_
    refine RR.gPo (pc' := 112) (lc' := [(4, .int r9), (3, .int r3), (0, .ref 2), (1, .ref v1), (2, .int v2)]) (st' := [.ref (v1 + 84)]) (S1 := S12) (nL := 5) (cd := cd_619) mx_619 rfl rfl rfl ⟨g7, by decide, by decide⟩ ?_
    refine RR.runs (pc' := 116) (lc' := [(4, .int r9), (3, .int r3), (0, .ref 2), (1, .ref v1), (2, .int v2)]) (st' := [.int r3, .int (1 : Int32), .int r9, .ref (v1 + 84)]) (S1 := S12) (nL := 5) (cd := cd_619) mx_619 rfl rfl 3 rfl ?_
    obtain ⟨r13, S14, h1, h⟩ := bnE h
    refine RR.callV (b := (v1 + 84)) (as := [.int r9, .int (1 : Int32), .int r3]) (rest := []) (r1 := none) (S1 := S14) mx_619 rfl rfl mx_1406 rfl rfl (by decide) (Or.inl g8) (Nat.le_of_ble_eq_true rfl) (Nat.le_of_ble_eq_true rfl) (RC.deep (by omega) (s_o_tb_put (d := d) _ _ _ _ _ h1)) ?_
    show RR KO _ 619 119 [(4, .int r9), (3, .int r3), (0, .ref 2), (1, .ref v1), (2, .int v2)] [] S14 _ _
    refine RR.weak [] trivial ?_
    exact s_o_rd_readStranger_119 _ h
  · refine RR.c_ne (fun q => absurd q c) (fun _ => ?_)
    refine RR.weak [] trivial ?_
    exact s_o_rd_readStranger_119 _ h
def o_rd_readStranger_19 : Nat → Nat → Int32 → Int32 → St → Re Unit
  | 0, _, _, _, _ => none
  | n + 1, v1, v2, v3, S =>
  if KO.1 v1 = (0, 10) then (
  if KO.1 (v1 + 84) = (0, 7) then (
bn (o_tb_size (v1 + 84) S) fun r3 S4 =>
  if v3 < r3 then (
        bn (o_tb_at (v1 + 84) v3 (0 : Int32) S4) fun r5 S6 =>
    if r5 = v2 then (
      bn (o_tp_wrong (3 : Int32) S6) fun r7 S8 =>
      o_rd_readStranger_51 (o_rd_readStranger_19 n) v1 v2 v3 S8)
    else (
      o_rd_readStranger_51 (o_rd_readStranger_19 n) v1 v2 v3 S6))
  else (
    o_rd_readStranger_57 v1 v2 S4)) else none) else none
set_option maxRecDepth 100000 in
theorem s_o_rd_readStranger_19 {d : Nat} {S' : St} {r : Unit} : ∀ (n : Nat) (v1 : Nat) (v2 : Int32) (v3 : Int32) (S : St), o_rd_readStranger_19 n v1 v2 v3 S = some (r, S') → RR KO (d + 4) 619 19 [(0, .ref 2), (1, .ref v1), (2, .int v2), (3, .int v3)] [] S none S' := by
  intro n
  induction n with
  | zero => intro v1 v2 v3 S h; simp only [o_rd_readStranger_19] at h; cases h
  | succ n ih =>
    intro v1 v2 v3 S h
    simp only [o_rd_readStranger_19] at h
    refine RR.runs (pc' := 21) (lc' := [(0, .ref 2), (1, .ref v1), (2, .int v2), (3, .int v3)]) (st' := [.ref v1, .int v3]) (S1 := S) (nL := 5) (cd := cd_619) mx_619 rfl rfl 2 rfl ?_
    obtain ⟨g1, h⟩ := gpE h
    refine RR.gPo (pc' := 24) (lc' := [(0, .ref 2), (1, .ref v1), (2, .int v2), (3, .int v3)]) (st' := [.ref (v1 + 84), .int v3]) (S1 := S) (nL := 5) (cd := cd_619) mx_619 rfl rfl rfl ⟨g1, by decide, by decide⟩ ?_
    obtain ⟨g2, h⟩ := gpE h
    obtain ⟨r3, S4, h1, h⟩ := bnE h
    refine RR.callV (b := (v1 + 84)) (as := []) (rest := [.int v3]) (r1 := (some (.int r3))) (S1 := S4) mx_619 rfl rfl mx_1402 rfl rfl (by decide) (Or.inl g2) (Nat.le_of_ble_eq_true rfl) (Nat.le_of_ble_eq_true rfl) (RC.deep (by omega) (s_o_tb_size (d := d) _ _ h1)) ?_
    show RR KO _ 619 27 [(0, .ref 2), (1, .ref v1), (2, .int v2), (3, .int v3)] [.int r3, .int v3] S4 _ _
    refine RR.runs (pc' := icm .ge v3 r3 57 30) (lc' := [(0, .ref 2), (1, .ref v1), (2, .int v2), (3, .int v3)]) (st' := []) (S1 := S4) (nL := 5) (cd := cd_619) mx_619 rfl rfl 1 rfl ?_
    rcases ifE h with ⟨c, h⟩ | ⟨c, h⟩
    · refine RR.c_ge (fun _ => ?_) (fun q => absurd c q)
      refine RR.runs (pc' := 31) (lc' := [(0, .ref 2), (1, .ref v1), (2, .int v2), (3, .int v3)]) (st' := [.ref v1]) (S1 := S4) (nL := 5) (cd := cd_619) mx_619 rfl rfl 1 rfl ?_
      refine RR.gPo (pc' := 34) (lc' := [(0, .ref 2), (1, .ref v1), (2, .int v2), (3, .int v3)]) (st' := [.ref (v1 + 84)]) (S1 := S4) (nL := 5) (cd := cd_619) mx_619 rfl rfl rfl ⟨g1, by decide, by decide⟩ ?_
      refine RR.runs (pc' := 36) (lc' := [(0, .ref 2), (1, .ref v1), (2, .int v2), (3, .int v3)]) (st' := [.int (0 : Int32), .int v3, .ref (v1 + 84)]) (S1 := S4) (nL := 5) (cd := cd_619) mx_619 rfl rfl 2 rfl ?_
      obtain ⟨r5, S6, h1, h⟩ := bnE h
      refine RR.callV (b := (v1 + 84)) (as := [.int v3, .int (0 : Int32)]) (rest := []) (r1 := (some (.int r5))) (S1 := S6) mx_619 rfl rfl mx_1405 rfl rfl (by decide) (Or.inl g2) (Nat.le_of_ble_eq_true rfl) (Nat.le_of_ble_eq_true rfl) (RC.deep (by omega) (s_o_tb_at (d := d) _ _ _ _ h1)) ?_
      show RR KO _ 619 39 [(0, .ref 2), (1, .ref v1), (2, .int v2), (3, .int v3)] [.int r5] S6 _ _
      refine RR.runs (pc' := icm .ne r5 v2 51 43) (lc' := [(0, .ref 2), (1, .ref v1), (2, .int v2), (3, .int v3)]) (st' := []) (S1 := S6) (nL := 5) (cd := cd_619) mx_619 rfl rfl 2 rfl ?_
      rcases ifE h with ⟨c, h⟩ | ⟨c, h⟩
      · refine RR.c_ne (fun _ => ?_) (fun q => absurd c q)
        refine RR.runs (pc' := 48) (lc' := [(0, .ref 2), (1, .ref v1), (2, .int v2), (3, .int v3)]) (st' := [.int (3 : Int32), .ref 3]) (S1 := S6) (nL := 5) (cd := cd_619) mx_619 rfl rfl 3 rfl ?_
        obtain ⟨r7, S8, h1, h⟩ := bnE h
        refine RR.callV (b := 3) (as := [.int (3 : Int32)]) (rest := []) (r1 := none) (S1 := S8) mx_619 rfl rfl mx_1603 rfl rfl (by decide) (Or.inl rfl) (Nat.le_of_ble_eq_true rfl) (Nat.le_of_ble_eq_true rfl) (RC.deep (by omega) (s_o_tp_wrong (d := d) _ _ h1)) ?_
        show RR KO _ 619 51 [(0, .ref 2), (1, .ref v1), (2, .int v2), (3, .int v3)] [] S8 _ _
        refine RR.weak [(0, .ref 2), (1, .ref v1), (2, .int v2), (3, .int v3)] ⟨rfl, rfl, rfl, rfl, trivial⟩ ?_
        exact s_o_rd_readStranger_51 _ (fun _ _ _ S h => ih _ _ _ S h) _ _ _ _ h
      · refine RR.c_ne (fun q => absurd q c) (fun _ => ?_)
        refine RR.weak [(0, .ref 2), (1, .ref v1), (2, .int v2), (3, .int v3)] ⟨rfl, rfl, rfl, rfl, trivial⟩ ?_
        exact s_o_rd_readStranger_51 _ (fun _ _ _ S h => ih _ _ _ S h) _ _ _ _ h
    · refine RR.c_ge (fun q => absurd q c) (fun _ => ?_)
      refine RR.weak [(0, .ref 2), (1, .ref v1), (2, .int v2)] ⟨rfl, rfl, rfl, trivial⟩ ?_
      exact s_o_rd_readStranger_57 _ _ _ h
def o_rd_readStranger (v1 : Nat) (S : St) : Re Unit :=
  if KO.1 v1 = (0, 10) then (
  if KO.1 (v1 + 84) = (0, 7) then (
bn (o_tb_full (v1 + 84) S) fun r3 S4 =>
  bn (o_rd_open r3 S4) fun r5 S6 =>
  bn (o_rd_soundHere v1 S6) fun r7 S8 =>
  o_rd_readStranger_19 FU v1 r7 (0 : Int32) S8) else none) else none
set_option maxRecDepth 100000 in
theorem s0_o_rd_readStranger {d : Nat} {S' : St} {r : Unit} (v1 : Nat) (S : St) (h : o_rd_readStranger v1 S = some (r, S')) : RR KO (d + 4) 619 0 [(0, .ref 2), (1, .ref v1)] [] S none S' := by
  unfold o_rd_readStranger at h
  refine RR.runs (pc' := 2) (lc' := [(0, .ref 2), (1, .ref v1)]) (st' := [.ref v1, .ref 2]) (S1 := S) (nL := 5) (cd := cd_619) mx_619 rfl rfl 2 rfl ?_
  obtain ⟨g1, h⟩ := gpE h
  refine RR.gPo (pc' := 5) (lc' := [(0, .ref 2), (1, .ref v1)]) (st' := [.ref (v1 + 84), .ref 2]) (S1 := S) (nL := 5) (cd := cd_619) mx_619 rfl rfl rfl ⟨g1, by decide, by decide⟩ ?_
  obtain ⟨g2, h⟩ := gpE h
  obtain ⟨r3, S4, h1, h⟩ := bnE h
  refine RR.callV (b := (v1 + 84)) (as := []) (rest := [.ref 2]) (r1 := (some (.int r3))) (S1 := S4) mx_619 rfl rfl mx_1403 rfl rfl (by decide) (Or.inl g2) (Nat.le_of_ble_eq_true rfl) (Nat.le_of_ble_eq_true rfl) (RC.deep (by omega) (s_o_tb_full (d := d) _ _ h1)) ?_
  show RR KO _ 619 8 [(0, .ref 2), (1, .ref v1)] [.int r3, .ref 2] S4 _ _
  obtain ⟨r5, S6, h1, h⟩ := bnE h
  refine RR.callV (b := 2) (as := [.int r3]) (rest := []) (r1 := none) (S1 := S6) mx_619 rfl rfl mx_606 rfl rfl (by decide) (Or.inl rfl) (Nat.le_of_ble_eq_true rfl) (Nat.le_of_ble_eq_true rfl) (RC.deep (by omega) (s_o_rd_open (d := d) _ _ h1)) ?_
  show RR KO _ 619 11 [(0, .ref 2), (1, .ref v1)] [] S6 _ _
  refine RR.runs (pc' := 13) (lc' := [(0, .ref 2), (1, .ref v1)]) (st' := [.ref v1, .ref 2]) (S1 := S6) (nL := 5) (cd := cd_619) mx_619 rfl rfl 2 rfl ?_
  obtain ⟨r7, S8, h1, h⟩ := bnE h
  refine RR.callV (b := 2) (as := [.ref v1]) (rest := []) (r1 := (some (.int r7))) (S1 := S8) mx_619 rfl rfl mx_610 rfl rfl (by decide) (Or.inl rfl) (Nat.le_of_ble_eq_true rfl) (Nat.le_of_ble_eq_true rfl) (RC.deep (by omega) (s_o_rd_soundHere (d := d) _ _ h1)) ?_
  show RR KO _ 619 16 [(0, .ref 2), (1, .ref v1)] [.int r7] S8 _ _
  refine RR.runs (pc' := 19) (lc' := [(3, .int (0 : Int32)), (2, .int r7), (0, .ref 2), (1, .ref v1)]) (st' := []) (S1 := S8) (nL := 5) (cd := cd_619) mx_619 rfl rfl 3 rfl ?_
  refine RR.weak [(0, .ref 2), (1, .ref v1), (2, .int r7), (3, .int (0 : Int32))] ⟨rfl, rfl, rfl, rfl, trivial⟩ ?_
  exact s_o_rd_readStranger_19 _ _ _ _ _ h
theorem s_o_rd_readStranger {d : Nat} {S' : St} {r : Unit} (v1 : Nat) (S : St) (h : o_rd_readStranger v1 S = some (r, S')) : RC KO (d + 4) 619 [.ref 2, .ref v1] S none S' := RC.of rfl (s0_o_rd_readStranger v1 S h)
-- NameOrchard$Told hasApple (I)Z
def o_to_hasApple_20 (p0 : Int32) (S : St) : Re Int32 :=
  if isBo p0 = true then some (p0, S) else none
set_option maxRecDepth 100000 in
theorem s_o_to_hasApple_20 {d : Nat} {S' : St} {r : Int32} (p0 : Int32) (S : St) (h : o_to_hasApple_20 p0 S = some (r, S')) : RR KO (d + 1) 2005 20 [] [.int p0] S (some (.int r)) S' := by
  unfold o_to_hasApple_20 at h
  obtain ⟨g, h⟩ := gpE h
  cases h
  exact RR.retz mx_2005 rfl rfl rfl g
def o_to_hasApple_19 (S : St) : Re Int32 :=
  o_to_hasApple_20 (0 : Int32) S
set_option maxRecDepth 100000 in
theorem s_o_to_hasApple_19 {d : Nat} {S' : St} {r : Int32} (S : St) (h : o_to_hasApple_19 S = some (r, S')) : RR KO (d + 1) 2005 19 [] [] S (some (.int r)) S' := by
  unfold o_to_hasApple_19 at h
  refine RR.runs (pc' := 20) (lc' := []) (st' := [.int (0 : Int32)]) (S1 := S) (nL := 2) (cd := cd_2005) mx_2005 rfl rfl 1 rfl ?_
  refine RR.weak [] trivial ?_
  exact s_o_to_hasApple_20 _ _ h
def o_to_hasApple (v0 : Nat) (v1 : Int32) (S : St) : Re Int32 :=
  if v1 < 0 then (
    o_to_hasApple_19 S)
  else (
    if KO.1 v0 = (0, 10) then (
    if KO.1 (v0 + 80) = (0, 7) then (
bn (o_tb_size (v0 + 80) S) fun r3 S4 =>
    if v1 < r3 then (
      o_to_hasApple_20 (1 : Int32) S4)
    else (
      o_to_hasApple_19 S4)) else none) else none)
set_option maxRecDepth 100000 in
theorem s0_o_to_hasApple {d : Nat} {S' : St} {r : Int32} (v0 : Nat) (v1 : Int32) (S : St) (h : o_to_hasApple v0 v1 S = some (r, S')) : RR KO (d + 1) 2005 0 [(0, .ref v0), (1, .int v1)] [] S (some (.int r)) S' := by
  unfold o_to_hasApple at h
  refine RR.runs (pc' := icm .lt v1 0 19 4) (lc' := [(0, .ref v0), (1, .int v1)]) (st' := []) (S1 := S) (nL := 2) (cd := cd_2005) mx_2005 rfl rfl 2 rfl ?_
  rcases ifE h with ⟨c, h⟩ | ⟨c, h⟩
  · refine RR.c_lt (fun _ => ?_) (fun q => absurd c q)
    refine RR.weak [] trivial ?_
    exact s_o_to_hasApple_19 _ h
  · refine RR.c_lt (fun q => absurd q c) (fun _ => ?_)
    refine RR.runs (pc' := 6) (lc' := [(0, .ref v0), (1, .int v1)]) (st' := [.ref v0, .int v1]) (S1 := S) (nL := 2) (cd := cd_2005) mx_2005 rfl rfl 2 rfl ?_
    obtain ⟨g1, h⟩ := gpE h
    refine RR.gPo (pc' := 9) (lc' := [(0, .ref v0), (1, .int v1)]) (st' := [.ref (v0 + 80), .int v1]) (S1 := S) (nL := 2) (cd := cd_2005) mx_2005 rfl rfl rfl ⟨g1, by decide, by decide⟩ ?_
    obtain ⟨g2, h⟩ := gpE h
    obtain ⟨r3, S4, h1, h⟩ := bnE h
    refine RR.callV (b := (v0 + 80)) (as := []) (rest := [.int v1]) (r1 := (some (.int r3))) (S1 := S4) mx_2005 rfl rfl mx_1402 rfl rfl (by decide) (Or.inl g2) (Nat.le_of_ble_eq_true rfl) (Nat.le_of_ble_eq_true rfl) (RC.deep (by omega) (s_o_tb_size (d := d) _ _ h1)) ?_
    show RR KO _ 2005 12 [(0, .ref v0), (1, .int v1)] [.int r3, .int v1] S4 _ _
    refine RR.runs (pc' := icm .ge v1 r3 19 15) (lc' := [(0, .ref v0), (1, .int v1)]) (st' := []) (S1 := S4) (nL := 2) (cd := cd_2005) mx_2005 rfl rfl 1 rfl ?_
    rcases ifE h with ⟨c, h⟩ | ⟨c, h⟩
    · refine RR.c_ge (fun _ => ?_) (fun q => absurd c q)
      refine RR.runs (pc' := 20) (lc' := [(0, .ref v0), (1, .int v1)]) (st' := [.int (1 : Int32)]) (S1 := S4) (nL := 2) (cd := cd_2005) mx_2005 rfl rfl 2 rfl ?_
      refine RR.weak [] trivial ?_
      exact s_o_to_hasApple_20 _ _ h
    · refine RR.c_ge (fun q => absurd q c) (fun _ => ?_)
      refine RR.weak [] trivial ?_
      exact s_o_to_hasApple_19 _ h
theorem s_o_to_hasApple {d : Nat} {S' : St} {r : Int32} (v0 : Nat) (v1 : Int32) (S : St) (h : o_to_hasApple v0 v1 S = some (r, S')) : RC KO (d + 1) 2005 [.ref v0, .int v1] S (some (.int r)) S' := RC.of rfl (s0_o_to_hasApple v0 v1 S h)
-- NameOrchard$Reader readPage (LNameOrchard$Told;)V
def o_rd_readPage_149 (S : St) : Re Unit :=
  bn (o_rd_take 1006 S) fun r1 S2 =>
  some ((), S2)
set_option maxRecDepth 100000 in
theorem s_o_rd_readPage_149 {d : Nat} {S' : St} {r : Unit} (S : St) (h : o_rd_readPage_149 S = some (r, S')) : RR KO (d + 4) 620 149 [(0, .ref 2)] [] S none S' := by
  unfold o_rd_readPage_149 at h
  refine RR.runs (pc' := 153) (lc' := [(0, .ref 2)]) (st' := [.ref 1006, .ref 2]) (S1 := S) (nL := 6) (cd := cd_620) mx_620 rfl rfl 2 rfl ?_
  obtain ⟨r1, S2, h1, h⟩ := bnE h
  refine RR.callV (b := 2) (as := [.ref 1006]) (rest := []) (r1 := none) (S1 := S2) mx_620 rfl rfl mx_604 rfl rfl (by decide) (Or.inl rfl) (Nat.le_of_ble_eq_true rfl) (Nat.le_of_ble_eq_true rfl) (RC.deep (by omega) (s_o_rd_take (d := d) _ _ h1)) ?_
  show RR KO _ 620 156 [(0, .ref 2)] [] S2 _ _
  cases h
  exact RR.retv mx_620 rfl rfl rfl
def o_rd_readPage_111 (k24 : Nat → Int32 → Int32 → Int32 → St → Re Unit) (v1 : Nat) (v2 : Int32) (v4 : Int32) (v5 : Int32) (p0 : Int32) (p1 : Int32) (S : St) : Re Unit :=
  lt' ((p1 ||| p0) : Int32) fun x1 =>
  if KO.1 v1 = (0, 10) then (
  if KO.1 (v1 + 86) = (0, 7) then (
bn (o_tb_put (v1 + 86) v2 (0 : Int32) v4 S) fun r4 S5 =>
    bn (o_tb_put (v1 + 86) v2 v4 v5 S5) fun r6 S7 =>
  bn (o_tp_step S7) fun r8 S9 =>
  lt' ((v4 + (1 : Int32)) : Int32) fun x10 =>
  k24 v1 v2 x1 x10 S9) else none) else none
set_option maxRecDepth 100000 in
theorem s_o_rd_readPage_111 {d : Nat} (k24 : Nat → Int32 → Int32 → Int32 → St → Re Unit) {S' : St} {r : Unit} (b24 : ∀ (v1 : Nat) (v2 : Int32) (v3 : Int32) (v4 : Int32) (S : St), k24 v1 v2 v3 v4 S = some (r, S') → RR KO (d + 4) 620 24 [(0, .ref 2), (1, .ref v1), (2, .int v2), (3, .int v3), (4, .int v4)] [] S none S') (v1 : Nat) (v2 : Int32) (v4 : Int32) (v5 : Int32) (p0 : Int32) (p1 : Int32) (S : St) (h : o_rd_readPage_111 k24 v1 v2 v4 v5 p0 p1 S = some (r, S')) : RR KO (d + 4) 620 111 [(0, .ref 2), (1, .ref v1), (2, .int v2), (4, .int v4), (5, .int v5)] [.int p0, .int p1] S none S' := by
  unfold o_rd_readPage_111 at h
  refine RR.runs (pc' := 113) (lc' := [(3, .int (p1 ||| p0)), (0, .ref 2), (1, .ref v1), (2, .int v2), (4, .int v4), (5, .int v5)]) (st' := []) (S1 := S) (nL := 6) (cd := cd_620) mx_620 rfl rfl 2 rfl ?_
  obtain ⟨x1, ex1, h⟩ := ltE h
  rw [← ex1]
  refine RR.runs (pc' := 114) (lc' := [(3, .int x1), (0, .ref 2), (1, .ref v1), (2, .int v2), (4, .int v4), (5, .int v5)]) (st' := [.ref v1]) (S1 := S) (nL := 6) (cd := cd_620) mx_620 rfl rfl 1 rfl ?_
  obtain ⟨g2, h⟩ := gpE h
  refine RR.gPo (pc' := 117) (lc' := [(3, .int x1), (0, .ref 2), (1, .ref v1), (2, .int v2), (4, .int v4), (5, .int v5)]) (st' := [.ref (v1 + 86)]) (S1 := S) (nL := 6) (cd := cd_620) mx_620 rfl rfl rfl ⟨g2, by decide, by decide⟩ ?_
  refine RR.runs (pc' := 121) (lc' := [(3, .int x1), (0, .ref 2), (1, .ref v1), (2, .int v2), (4, .int v4), (5, .int v5)]) (st' := [.int v4, .int (0 : Int32), .int v2, .ref (v1 + 86)]) (S1 := S) (nL := 6) (cd := cd_620) mx_620 rfl rfl 3 rfl ?_
  obtain ⟨g3, h⟩ := gpE h
  obtain ⟨r4, S5, h1, h⟩ := bnE h
  refine RR.callV (b := (v1 + 86)) (as := [.int v2, .int (0 : Int32), .int v4]) (rest := []) (r1 := none) (S1 := S5) mx_620 rfl rfl mx_1406 rfl rfl (by decide) (Or.inl g3) (Nat.le_of_ble_eq_true rfl) (Nat.le_of_ble_eq_true rfl) (RC.deep (by omega) (s_o_tb_put (d := d) _ _ _ _ _ h1)) ?_
  show RR KO _ 620 124 [(3, .int x1), (0, .ref 2), (1, .ref v1), (2, .int v2), (4, .int v4), (5, .int v5)] [] S5 _ _
  refine RR.runs (pc' := 125) (lc' := [(3, .int x1), (0, .ref 2), (1, .ref v1), (2, .int v2), (4, .int v4), (5, .int v5)]) (st' := [.ref v1]) (S1 := S5) (nL := 6) (cd := cd_620) mx_620 rfl rfl 1 rfl ?_
  refine RR.gPo (pc' := 128) (lc' := [(3, .int x1), (0, .ref 2), (1, .ref v1), (2, .int v2), (4, .int v4), (5, .int v5)]) (st' := [.ref (v1 + 86)]) (S1 := S5) (nL := 6) (cd := cd_620) mx_620 rfl rfl rfl ⟨g2, by decide, by decide⟩ ?_
  refine RR.runs (pc' := 133) (lc' := [(3, .int x1), (0, .ref 2), (1, .ref v1), (2, .int v2), (4, .int v4), (5, .int v5)]) (st' := [.int v5, .int v4, .int v2, .ref (v1 + 86)]) (S1 := S5) (nL := 6) (cd := cd_620) mx_620 rfl rfl 3 rfl ?_
  obtain ⟨r6, S7, h1, h⟩ := bnE h
  refine RR.callV (b := (v1 + 86)) (as := [.int v2, .int v4, .int v5]) (rest := []) (r1 := none) (S1 := S7) mx_620 rfl rfl mx_1406 rfl rfl (by decide) (Or.inl g3) (Nat.le_of_ble_eq_true rfl) (Nat.le_of_ble_eq_true rfl) (RC.deep (by omega) (s_o_tb_put (d := d) _ _ _ _ _ h1)) ?_
  show RR KO _ 620 136 [(3, .int x1), (0, .ref 2), (1, .ref v1), (2, .int v2), (4, .int v4), (5, .int v5)] [] S7 _ _
  refine RR.runs (pc' := 140) (lc' := [(3, .int x1), (0, .ref 2), (1, .ref v1), (2, .int v2), (4, .int v4), (5, .int v5)]) (st' := [.ref 3]) (S1 := S7) (nL := 6) (cd := cd_620) mx_620 rfl rfl 2 rfl ?_
  obtain ⟨r8, S9, h1, h⟩ := bnE h
  refine RR.callV (b := 3) (as := []) (rest := []) (r1 := none) (S1 := S9) mx_620 rfl rfl mx_1605 rfl rfl (by decide) (Or.inl rfl) (Nat.le_of_ble_eq_true rfl) (Nat.le_of_ble_eq_true rfl) (RC.deep (by omega) (s_o_tp_step (d := d) _ h1)) ?_
  show RR KO _ 620 143 [(3, .int x1), (0, .ref 2), (1, .ref v1), (2, .int v2), (4, .int v4), (5, .int v5)] [] S9 _ _
  refine RR.runs (pc' := 146) (lc' := [(4, .int ((v4 + (1 : Int32)))), (3, .int x1), (0, .ref 2), (1, .ref v1), (2, .int v2), (5, .int v5)]) (st' := []) (S1 := S9) (nL := 6) (cd := cd_620) mx_620 rfl rfl 1 rfl ?_
  obtain ⟨x10, ex10, h⟩ := ltE h
  rw [← ex10]
  refine RR.runs (pc' := 24) (lc' := [(4, .int x10), (3, .int x1), (0, .ref 2), (1, .ref v1), (2, .int v2), (5, .int v5)]) (st' := []) (S1 := S9) (nL := 6) (cd := cd_620) mx_620 rfl rfl 1 rfl ?_
  refine RR.weak [(0, .ref 2), (1, .ref v1), (2, .int v2), (3, .int x1), (4, .int x10)] ⟨rfl, rfl, rfl, rfl, rfl, trivial⟩ ?_
  exact b24 _ _ _ _ _ h
def o_rd_readPage_93 (k24 : Nat → Int32 → Int32 → Int32 → St → Re Unit) (v1 : Nat) (v2 : Int32) (v3 : Int32) (v4 : Int32) (v5 : Int32) (S : St) : Re Unit :=
  if KO.1 v1 = (0, 10) then (
bn (o_to_hasApple v1 v5 S) fun r2 S3 =>
  if r2 = 0 then (
    o_rd_readPage_111 k24 v1 v2 v4 v5 (0 : Int32) v3 S3)
  else (
    o_rd_readPage_111 k24 v1 v2 v4 v5 (((1 : Int32) <<< (v5 &&& 31))) v3 S3)) else none
set_option maxRecDepth 100000 in
theorem s_o_rd_readPage_93 {d : Nat} (k24 : Nat → Int32 → Int32 → Int32 → St → Re Unit) {S' : St} {r : Unit} (b24 : ∀ (v1 : Nat) (v2 : Int32) (v3 : Int32) (v4 : Int32) (S : St), k24 v1 v2 v3 v4 S = some (r, S') → RR KO (d + 4) 620 24 [(0, .ref 2), (1, .ref v1), (2, .int v2), (3, .int v3), (4, .int v4)] [] S none S') (v1 : Nat) (v2 : Int32) (v3 : Int32) (v4 : Int32) (v5 : Int32) (S : St) (h : o_rd_readPage_93 k24 v1 v2 v3 v4 v5 S = some (r, S')) : RR KO (d + 4) 620 93 [(0, .ref 2), (1, .ref v1), (2, .int v2), (3, .int v3), (4, .int v4), (5, .int v5)] [] S none S' := by
  unfold o_rd_readPage_93 at h
  refine RR.runs (pc' := 97) (lc' := [(0, .ref 2), (1, .ref v1), (2, .int v2), (3, .int v3), (4, .int v4), (5, .int v5)]) (st' := [.int v5, .ref v1, .int v3]) (S1 := S) (nL := 6) (cd := cd_620) mx_620 rfl rfl 3 rfl ?_
  obtain ⟨g1, h⟩ := gpE h
  obtain ⟨r2, S3, h1, h⟩ := bnE h
  refine RR.callV (b := v1) (as := [.int v5]) (rest := [.int v3]) (r1 := (some (.int r2))) (S1 := S3) mx_620 rfl rfl mx_2005 rfl rfl (by decide) (Or.inl g1) (Nat.le_of_ble_eq_true rfl) (Nat.le_of_ble_eq_true rfl) (RC.deep (by omega) (s_o_to_hasApple (d := d) _ _ _ h1)) ?_
  show RR KO _ 620 100 [(0, .ref 2), (1, .ref v1), (2, .int v2), (3, .int v3), (4, .int v4), (5, .int v5)] [.int r2, .int v3] S3 _ _
  refine RR.runs (pc' := icm .eq r2 0 110 103) (lc' := [(0, .ref 2), (1, .ref v1), (2, .int v2), (3, .int v3), (4, .int v4), (5, .int v5)]) (st' := [.int v3]) (S1 := S3) (nL := 6) (cd := cd_620) mx_620 rfl rfl 1 rfl ?_
  rcases ifE h with ⟨c, h⟩ | ⟨c, h⟩
  · refine RR.c_eq (fun _ => ?_) (fun q => absurd c q)
    refine RR.runs (pc' := 111) (lc' := [(0, .ref 2), (1, .ref v1), (2, .int v2), (3, .int v3), (4, .int v4), (5, .int v5)]) (st' := [.int (0 : Int32), .int v3]) (S1 := S3) (nL := 6) (cd := cd_620) mx_620 rfl rfl 1 rfl ?_
    refine RR.weak [(0, .ref 2), (1, .ref v1), (2, .int v2), (4, .int v4), (5, .int v5)] ⟨rfl, rfl, rfl, rfl, rfl, trivial⟩ ?_
    exact s_o_rd_readPage_111 _ b24 _ _ _ _ _ _ _ h
  · refine RR.c_eq (fun q => absurd q c) (fun _ => ?_)
    refine RR.runs (pc' := 111) (lc' := [(0, .ref 2), (1, .ref v1), (2, .int v2), (3, .int v3), (4, .int v4), (5, .int v5)]) (st' := [.int (((1 : Int32) <<< (v5 &&& 31))), .int v3]) (S1 := S3) (nL := 6) (cd := cd_620) mx_620 rfl rfl 4 rfl ?_
    refine RR.weak [(0, .ref 2), (1, .ref v1), (2, .int v2), (4, .int v4), (5, .int v5)] ⟨rfl, rfl, rfl, rfl, rfl, trivial⟩ ?_
    exact s_o_rd_readPage_111 _ b24 _ _ _ _ _ _ _ h
def o_rd_readPage_60 (k24 : Nat → Int32 → Int32 → Int32 → St → Re Unit) (v1 : Nat) (v2 : Int32) (v3 : Int32) (v4 : Int32) (S : St) : Re Unit :=
  bn (o_rd_appleHere v1 S) fun r1 S2 =>
  if KO.1 v1 = (0, 10) then (
bn (o_to_hasApple v1 r1 S2) fun r4 S5 =>
  if r4 = 0 then (
    o_rd_readPage_93 k24 v1 v2 v3 v4 r1 S5)
  else (
    if ((v3 >>> (r1 &&& 31)) &&& (1 : Int32)) = 0 then (
      o_rd_readPage_93 k24 v1 v2 v3 v4 r1 S5)
    else (
      bn (o_tp_wrong (3 : Int32) S5) fun r6 S7 =>
      o_rd_readPage_93 k24 v1 v2 v3 v4 r1 S7))) else none
set_option maxRecDepth 100000 in
theorem s_o_rd_readPage_60 {d : Nat} (k24 : Nat → Int32 → Int32 → Int32 → St → Re Unit) {S' : St} {r : Unit} (b24 : ∀ (v1 : Nat) (v2 : Int32) (v3 : Int32) (v4 : Int32) (S : St), k24 v1 v2 v3 v4 S = some (r, S') → RR KO (d + 4) 620 24 [(0, .ref 2), (1, .ref v1), (2, .int v2), (3, .int v3), (4, .int v4)] [] S none S') (v1 : Nat) (v2 : Int32) (v3 : Int32) (v4 : Int32) (S : St) (h : o_rd_readPage_60 k24 v1 v2 v3 v4 S = some (r, S')) : RR KO (d + 4) 620 60 [(0, .ref 2), (1, .ref v1), (2, .int v2), (3, .int v3), (4, .int v4)] [] S none S' := by
  unfold o_rd_readPage_60 at h
  refine RR.runs (pc' := 62) (lc' := [(0, .ref 2), (1, .ref v1), (2, .int v2), (3, .int v3), (4, .int v4)]) (st' := [.ref v1, .ref 2]) (S1 := S) (nL := 6) (cd := cd_620) mx_620 rfl rfl 2 rfl ?_
  obtain ⟨r1, S2, h1, h⟩ := bnE h
  refine RR.callV (b := 2) (as := [.ref v1]) (rest := []) (r1 := (some (.int r1))) (S1 := S2) mx_620 rfl rfl mx_611 rfl rfl (by decide) (Or.inl rfl) (Nat.le_of_ble_eq_true rfl) (Nat.le_of_ble_eq_true rfl) (RC.deep (by omega) (s_o_rd_appleHere (d := d) _ _ h1)) ?_
  show RR KO _ 620 65 [(0, .ref 2), (1, .ref v1), (2, .int v2), (3, .int v3), (4, .int v4)] [.int r1] S2 _ _
  refine RR.runs (pc' := 70) (lc' := [(5, .int r1), (0, .ref 2), (1, .ref v1), (2, .int v2), (3, .int v3), (4, .int v4)]) (st' := [.int r1, .ref v1]) (S1 := S2) (nL := 6) (cd := cd_620) mx_620 rfl rfl 3 rfl ?_
  obtain ⟨g3, h⟩ := gpE h
  obtain ⟨r4, S5, h1, h⟩ := bnE h
  refine RR.callV (b := v1) (as := [.int r1]) (rest := []) (r1 := (some (.int r4))) (S1 := S5) mx_620 rfl rfl mx_2005 rfl rfl (by decide) (Or.inl g3) (Nat.le_of_ble_eq_true rfl) (Nat.le_of_ble_eq_true rfl) (RC.deep (by omega) (s_o_to_hasApple (d := d) _ _ _ h1)) ?_
  show RR KO _ 620 73 [(5, .int r1), (0, .ref 2), (1, .ref v1), (2, .int v2), (3, .int v3), (4, .int v4)] [.int r4] S5 _ _
  refine RR.runs (pc' := icm .eq r4 0 93 76) (lc' := [(5, .int r1), (0, .ref 2), (1, .ref v1), (2, .int v2), (3, .int v3), (4, .int v4)]) (st' := []) (S1 := S5) (nL := 6) (cd := cd_620) mx_620 rfl rfl 1 rfl ?_
  rcases ifE h with ⟨c, h⟩ | ⟨c, h⟩
  · refine RR.c_eq (fun _ => ?_) (fun q => absurd c q)
    refine RR.weak [(0, .ref 2), (1, .ref v1), (2, .int v2), (3, .int v3), (4, .int v4), (5, .int r1)] ⟨rfl, rfl, rfl, rfl, rfl, rfl, trivial⟩ ?_
    exact s_o_rd_readPage_93 _ b24 _ _ _ _ _ _ h
  · refine RR.c_eq (fun q => absurd q c) (fun _ => ?_)
    refine RR.runs (pc' := icm .eq (((v3 >>> (r1 &&& 31)) &&& (1 : Int32))) 0 93 85) (lc' := [(5, .int r1), (0, .ref 2), (1, .ref v1), (2, .int v2), (3, .int v3), (4, .int v4)]) (st' := []) (S1 := S5) (nL := 6) (cd := cd_620) mx_620 rfl rfl 6 rfl ?_
    rcases ifE h with ⟨c, h⟩ | ⟨c, h⟩
    · refine RR.c_eq (fun _ => ?_) (fun q => absurd c q)
      refine RR.weak [(0, .ref 2), (1, .ref v1), (2, .int v2), (3, .int v3), (4, .int v4), (5, .int r1)] ⟨rfl, rfl, rfl, rfl, rfl, rfl, trivial⟩ ?_
      exact s_o_rd_readPage_93 _ b24 _ _ _ _ _ _ h
    · refine RR.c_eq (fun q => absurd q c) (fun _ => ?_)
      refine RR.runs (pc' := 90) (lc' := [(5, .int r1), (0, .ref 2), (1, .ref v1), (2, .int v2), (3, .int v3), (4, .int v4)]) (st' := [.int (3 : Int32), .ref 3]) (S1 := S5) (nL := 6) (cd := cd_620) mx_620 rfl rfl 3 rfl ?_
      obtain ⟨r6, S7, h1, h⟩ := bnE h
      refine RR.callV (b := 3) (as := [.int (3 : Int32)]) (rest := []) (r1 := none) (S1 := S7) mx_620 rfl rfl mx_1603 rfl rfl (by decide) (Or.inl rfl) (Nat.le_of_ble_eq_true rfl) (Nat.le_of_ble_eq_true rfl) (RC.deep (by omega) (s_o_tp_wrong (d := d) _ _ h1)) ?_
      show RR KO _ 620 93 [(5, .int r1), (0, .ref 2), (1, .ref v1), (2, .int v2), (3, .int v3), (4, .int v4)] [] S7 _ _
      refine RR.weak [(0, .ref 2), (1, .ref v1), (2, .int v2), (3, .int v3), (4, .int v4), (5, .int r1)] ⟨rfl, rfl, rfl, rfl, rfl, rfl, trivial⟩ ?_
      exact s_o_rd_readPage_93 _ b24 _ _ _ _ _ _ h
def o_rd_readPage_24 : Nat → Nat → Int32 → Int32 → Int32 → St → Re Unit
  | 0, _, _, _, _, _ => none
  | n + 1, v1, v2, v3, v4, S =>
  if (11 : Int32) < v4 then (
    o_rd_readPage_149 S)
  else (
    if (rI S 3 7) = 0 then (
      if v4 = (1 : Int32) then (
        o_rd_readPage_60 (o_rd_readPage_24 n) v1 v2 v3 v4 S)
      else (
        oq (rQ S 3 6) none fun o1 =>
        if ((KO.1 o1).1 < 8 ∨ (KO.1 o1).1 = 20) ∧ ((KO.1 1006).1 < 8 ∨ (KO.1 1006).1 = 20) then (
if o1 = 1006 then (
          o_rd_readPage_149 S)
        else (
          o_rd_readPage_60 (o_rd_readPage_24 n) v1 v2 v3 v4 S)) else none))
    else (
      o_rd_readPage_149 S))
set_option maxRecDepth 100000 in
theorem s_o_rd_readPage_24 {d : Nat} {S' : St} {r : Unit} : ∀ (n : Nat) (v1 : Nat) (v2 : Int32) (v3 : Int32) (v4 : Int32) (S : St), o_rd_readPage_24 n v1 v2 v3 v4 S = some (r, S') → RR KO (d + 4) 620 24 [(0, .ref 2), (1, .ref v1), (2, .int v2), (3, .int v3), (4, .int v4)] [] S none S' := by
  intro n
  induction n with
  | zero => intro v1 v2 v3 v4 S h; simp only [o_rd_readPage_24] at h; cases h
  | succ n ih =>
    intro v1 v2 v3 v4 S h
    simp only [o_rd_readPage_24] at h
    refine RR.runs (pc' := icm .gt v4 (11 : Int32) 149 31) (lc' := [(0, .ref 2), (1, .ref v1), (2, .int v2), (3, .int v3), (4, .int v4)]) (st' := []) (S1 := S) (nL := 6) (cd := cd_620) mx_620 rfl rfl 3 rfl ?_
    rcases ifE h with ⟨c, h⟩ | ⟨c, h⟩
    · refine RR.c_gt (fun _ => ?_) (fun q => absurd c q)
      refine RR.weak [(0, .ref 2)] ⟨rfl, trivial⟩ ?_
      exact s_o_rd_readPage_149 _ h
    · refine RR.c_gt (fun q => absurd q c) (fun _ => ?_)
      refine RR.runs (pc' := icm .ne (rI S 3 7) 0 149 41) (lc' := [(0, .ref 2), (1, .ref v1), (2, .int v2), (3, .int v3), (4, .int v4)]) (st' := []) (S1 := S) (nL := 6) (cd := cd_620) mx_620 rfl rfl 4 rfl ?_
      rcases ifE h with ⟨c, h⟩ | ⟨c, h⟩
      · refine RR.c_ne (fun _ => ?_) (fun q => absurd c q)
        refine RR.runs (pc' := icm .eq v4 (1 : Int32) 60 47) (lc' := [(0, .ref 2), (1, .ref v1), (2, .int v2), (3, .int v3), (4, .int v4)]) (st' := []) (S1 := S) (nL := 6) (cd := cd_620) mx_620 rfl rfl 3 rfl ?_
        rcases ifE h with ⟨c, h⟩ | ⟨c, h⟩
        · refine RR.c_eq (fun _ => ?_) (fun q => absurd c q)
          refine RR.weak [(0, .ref 2), (1, .ref v1), (2, .int v2), (3, .int v3), (4, .int v4)] ⟨rfl, rfl, rfl, rfl, rfl, trivial⟩ ?_
          exact s_o_rd_readPage_60 _ (fun _ _ _ _ S h => ih _ _ _ _ S h) _ _ _ _ _ h
        · refine RR.c_eq (fun q => absurd q c) (fun _ => ?_)
          refine RR.runs (pc' := 54) (lc' := [(0, .ref 2), (1, .ref v1), (2, .int v2), (3, .int v3), (4, .int v4)]) (st' := [qv (rQ S 3 6)]) (S1 := S) (nL := 6) (cd := cd_620) mx_620 rfl rfl 3 rfl ?_
          rcases oqE h with ⟨e1, h⟩ | ⟨o1, eo1, h⟩
          · cases h
          rw [eo1]
          refine RR.runs (pc' := 57) (lc' := [(0, .ref 2), (1, .ref v1), (2, .int v2), (3, .int v3), (4, .int v4)]) (st' := [.ref 1006, .ref o1]) (S1 := S) (nL := 6) (cd := cd_620) mx_620 rfl rfl 1 rfl ?_
          obtain ⟨g2, h⟩ := gpE h
          refine RR.gP (pc' := acm .eq o1 1006 149 60) (lc' := [(0, .ref 2), (1, .ref v1), (2, .int v2), (3, .int v3), (4, .int v4)]) (st' := []) (S1 := S) (nL := 6) (cd := cd_620) mx_620 rfl rfl rfl g2 ?_
          rcases ifE h with ⟨c, h⟩ | ⟨c, h⟩
          · refine RR.a_eq (fun _ => ?_) (fun q => absurd c q)
            refine RR.weak [(0, .ref 2)] ⟨rfl, trivial⟩ ?_
            exact s_o_rd_readPage_149 _ h
          · refine RR.a_eq (fun q => absurd q c) (fun _ => ?_)
            refine RR.weak [(0, .ref 2), (1, .ref v1), (2, .int v2), (3, .int v3), (4, .int v4)] ⟨rfl, rfl, rfl, rfl, rfl, trivial⟩ ?_
            exact s_o_rd_readPage_60 _ (fun _ _ _ _ S h => ih _ _ _ _ S h) _ _ _ _ _ h
      · refine RR.c_ne (fun q => absurd q c) (fun _ => ?_)
        refine RR.weak [(0, .ref 2)] ⟨rfl, trivial⟩ ?_
        exact s_o_rd_readPage_149 _ h
def o_rd_readPage (v1 : Nat) (S : St) : Re Unit :=
  if KO.1 v1 = (0, 10) then (
  if KO.1 (v1 + 86) = (0, 7) then (
bn (o_tb_full (v1 + 86) S) fun r3 S4 =>
  bn (o_rd_open r3 S4) fun r5 S6 =>
    bn (o_tb_add (v1 + 86) S6) fun r7 S8 =>
  o_rd_readPage_24 FU v1 r7 (0 : Int32) (1 : Int32) S8) else none) else none
set_option maxRecDepth 100000 in
theorem s0_o_rd_readPage {d : Nat} {S' : St} {r : Unit} (v1 : Nat) (S : St) (h : o_rd_readPage v1 S = some (r, S')) : RR KO (d + 4) 620 0 [(0, .ref 2), (1, .ref v1)] [] S none S' := by
  unfold o_rd_readPage at h
  refine RR.runs (pc' := 2) (lc' := [(0, .ref 2), (1, .ref v1)]) (st' := [.ref v1, .ref 2]) (S1 := S) (nL := 6) (cd := cd_620) mx_620 rfl rfl 2 rfl ?_
  obtain ⟨g1, h⟩ := gpE h
  refine RR.gPo (pc' := 5) (lc' := [(0, .ref 2), (1, .ref v1)]) (st' := [.ref (v1 + 86), .ref 2]) (S1 := S) (nL := 6) (cd := cd_620) mx_620 rfl rfl rfl ⟨g1, by decide, by decide⟩ ?_
  obtain ⟨g2, h⟩ := gpE h
  obtain ⟨r3, S4, h1, h⟩ := bnE h
  refine RR.callV (b := (v1 + 86)) (as := []) (rest := [.ref 2]) (r1 := (some (.int r3))) (S1 := S4) mx_620 rfl rfl mx_1403 rfl rfl (by decide) (Or.inl g2) (Nat.le_of_ble_eq_true rfl) (Nat.le_of_ble_eq_true rfl) (RC.deep (by omega) (s_o_tb_full (d := d) _ _ h1)) ?_
  show RR KO _ 620 8 [(0, .ref 2), (1, .ref v1)] [.int r3, .ref 2] S4 _ _
  obtain ⟨r5, S6, h1, h⟩ := bnE h
  refine RR.callV (b := 2) (as := [.int r3]) (rest := []) (r1 := none) (S1 := S6) mx_620 rfl rfl mx_606 rfl rfl (by decide) (Or.inl rfl) (Nat.le_of_ble_eq_true rfl) (Nat.le_of_ble_eq_true rfl) (RC.deep (by omega) (s_o_rd_open (d := d) _ _ h1)) ?_
  show RR KO _ 620 11 [(0, .ref 2), (1, .ref v1)] [] S6 _ _
  refine RR.runs (pc' := 12) (lc' := [(0, .ref 2), (1, .ref v1)]) (st' := [.ref v1]) (S1 := S6) (nL := 6) (cd := cd_620) mx_620 rfl rfl 1 rfl ?_
  refine RR.gPo (pc' := 15) (lc' := [(0, .ref 2), (1, .ref v1)]) (st' := [.ref (v1 + 86)]) (S1 := S6) (nL := 6) (cd := cd_620) mx_620 rfl rfl rfl ⟨g1, by decide, by decide⟩ ?_
  obtain ⟨r7, S8, h1, h⟩ := bnE h
  refine RR.callV (b := (v1 + 86)) (as := []) (rest := []) (r1 := (some (.int r7))) (S1 := S8) mx_620 rfl rfl mx_1407 rfl rfl (by decide) (Or.inl g2) (Nat.le_of_ble_eq_true rfl) (Nat.le_of_ble_eq_true rfl) (RC.deep (by omega) (s_o_tb_add (d := d) _ _ h1)) ?_
  show RR KO _ 620 18 [(0, .ref 2), (1, .ref v1)] [.int r7] S8 _ _
  refine RR.runs (pc' := 24) (lc' := [(4, .int (1 : Int32)), (3, .int (0 : Int32)), (2, .int r7), (0, .ref 2), (1, .ref v1)]) (st' := []) (S1 := S8) (nL := 6) (cd := cd_620) mx_620 rfl rfl 5 rfl ?_
  refine RR.weak [(0, .ref 2), (1, .ref v1), (2, .int r7), (3, .int (0 : Int32)), (4, .int (1 : Int32))] ⟨rfl, rfl, rfl, rfl, rfl, trivial⟩ ?_
  exact s_o_rd_readPage_24 _ _ _ _ _ _ h
theorem s_o_rd_readPage {d : Nat} {S' : St} {r : Unit} (v1 : Nat) (S : St) (h : o_rd_readPage v1 S = some (r, S')) : RC KO (d + 4) 620 [.ref 2, .ref v1] S none S' := RC.of rfl (s0_o_rd_readPage v1 S h)
-- NameOrchard$Reader readBann (LNameOrchard$Told;)V
def o_rd_readBann_98 (S : St) : Re Unit :=
  some ((), S)
set_option maxRecDepth 100000 in
theorem s_o_rd_readBann_98 {d : Nat} {S' : St} {r : Unit} (S : St) (h : o_rd_readBann_98 S = some (r, S')) : RR KO (d + 4) 621 98 [] [] S none S' := by
  unfold o_rd_readBann_98 at h
  cases h
  exact RR.retv mx_621 rfl rfl rfl
def o_rd_readBann_43 (v1 : Nat) (v2 : Int32) (v3 : Int32) (S : St) : Re Unit :=
  bn (o_tp_step S) fun r1 S2 =>
  bn (o_rd_take 1006 S2) fun r3 S4 =>
  if (rI S4 3 7) = 0 then (
    if KO.1 v1 = (0, 10) then (
    if KO.1 (v1 + 88) = (0, 7) then (
bn (o_tb_add (v1 + 88) S4) fun r7 S8 =>
        bn (o_tb_put (v1 + 88) r7 (0 : Int32) v2 S8) fun r9 S10 =>
        bn (o_tb_put (v1 + 88) r7 (1 : Int32) v3 S10) fun r11 S12 =>
    o_rd_readBann_98 S12) else none) else none)
  else (
    o_rd_readBann_98 S4)
set_option maxRecDepth 100000 in
theorem s_o_rd_readBann_43 {d : Nat} {S' : St} {r : Unit} (v1 : Nat) (v2 : Int32) (v3 : Int32) (S : St) (h : o_rd_readBann_43 v1 v2 v3 S = some (r, S')) : RR KO (d + 4) 621 43 [(0, .ref 2), (1, .ref v1), (2, .int v2), (3, .int v3)] [] S none S' := by
  unfold o_rd_readBann_43 at h
  refine RR.runs (pc' := 47) (lc' := [(0, .ref 2), (1, .ref v1), (2, .int v2), (3, .int v3)]) (st' := [.ref 3]) (S1 := S) (nL := 5) (cd := cd_621) mx_621 rfl rfl 2 rfl ?_
  obtain ⟨r1, S2, h1, h⟩ := bnE h
  refine RR.callV (b := 3) (as := []) (rest := []) (r1 := none) (S1 := S2) mx_621 rfl rfl mx_1605 rfl rfl (by decide) (Or.inl rfl) (Nat.le_of_ble_eq_true rfl) (Nat.le_of_ble_eq_true rfl) (RC.deep (by omega) (s_o_tp_step (d := d) _ h1)) ?_
  show RR KO _ 621 50 [(0, .ref 2), (1, .ref v1), (2, .int v2), (3, .int v3)] [] S2 _ _
  refine RR.runs (pc' := 54) (lc' := [(0, .ref 2), (1, .ref v1), (2, .int v2), (3, .int v3)]) (st' := [.ref 1006, .ref 2]) (S1 := S2) (nL := 5) (cd := cd_621) mx_621 rfl rfl 2 rfl ?_
  obtain ⟨r3, S4, h1, h⟩ := bnE h
  refine RR.callV (b := 2) (as := [.ref 1006]) (rest := []) (r1 := none) (S1 := S4) mx_621 rfl rfl mx_604 rfl rfl (by decide) (Or.inl rfl) (Nat.le_of_ble_eq_true rfl) (Nat.le_of_ble_eq_true rfl) (RC.deep (by omega) (s_o_rd_take (d := d) _ _ h1)) ?_
  show RR KO _ 621 57 [(0, .ref 2), (1, .ref v1), (2, .int v2), (3, .int v3)] [] S4 _ _
  refine RR.runs (pc' := icm .ne (rI S4 3 7) 0 98 67) (lc' := [(0, .ref 2), (1, .ref v1), (2, .int v2), (3, .int v3)]) (st' := []) (S1 := S4) (nL := 5) (cd := cd_621) mx_621 rfl rfl 4 rfl ?_
  rcases ifE h with ⟨c, h⟩ | ⟨c, h⟩
  · refine RR.c_ne (fun _ => ?_) (fun q => absurd c q)
    refine RR.runs (pc' := 68) (lc' := [(0, .ref 2), (1, .ref v1), (2, .int v2), (3, .int v3)]) (st' := [.ref v1]) (S1 := S4) (nL := 5) (cd := cd_621) mx_621 rfl rfl 1 rfl ?_
    obtain ⟨g5, h⟩ := gpE h
    refine RR.gPo (pc' := 71) (lc' := [(0, .ref 2), (1, .ref v1), (2, .int v2), (3, .int v3)]) (st' := [.ref (v1 + 88)]) (S1 := S4) (nL := 5) (cd := cd_621) mx_621 rfl rfl rfl ⟨g5, by decide, by decide⟩ ?_
    obtain ⟨g6, h⟩ := gpE h
    obtain ⟨r7, S8, h1, h⟩ := bnE h
    refine RR.callV (b := (v1 + 88)) (as := []) (rest := []) (r1 := (some (.int r7))) (S1 := S8) mx_621 rfl rfl mx_1407 rfl rfl (by decide) (Or.inl g6) (Nat.le_of_ble_eq_true rfl) (Nat.le_of_ble_eq_true rfl) (RC.deep (by omega) (s_o_tb_add (d := d) _ _ h1)) ?_
    show RR KO _ 621 74 [(0, .ref 2), (1, .ref v1), (2, .int v2), (3, .int v3)] [.int r7] S8 _ _
    refine RR.runs (pc' := 77) (lc' := [(4, .int r7), (0, .ref 2), (1, .ref v1), (2, .int v2), (3, .int v3)]) (st' := [.ref v1]) (S1 := S8) (nL := 5) (cd := cd_621) mx_621 rfl rfl 2 rfl ?_
    refine RR.gPo (pc' := 80) (lc' := [(4, .int r7), (0, .ref 2), (1, .ref v1), (2, .int v2), (3, .int v3)]) (st' := [.ref (v1 + 88)]) (S1 := S8) (nL := 5) (cd := cd_621) mx_621 rfl rfl rfl ⟨g5, by decide, by decide⟩ ?_
    refine RR.runs (pc' := 84) (lc' := [(4, .int r7), (0, .ref 2), (1, .ref v1), (2, .int v2), (3, .int v3)]) (st' := [.int v2, .int (0 : Int32), .int r7, .ref (v1 + 88)]) (S1 := S8) (nL := 5) (cd := cd_621) mx_621 rfl rfl 3 rfl ?_
    obtain ⟨r9, S10, h1, h⟩ := bnE h
    refine RR.callV (b := (v1 + 88)) (as := [.int r7, .int (0 : Int32), .int v2]) (rest := []) (r1 := none) (S1 := S10) mx_621 rfl rfl mx_1406 rfl rfl (by decide) (Or.inl g6) (Nat.le_of_ble_eq_true rfl) (Nat.le_of_ble_eq_true rfl) (RC.deep (by omega) (s_o_tb_put (d := d) _ _ _ _ _ h1)) ?_
    show RR KO _ 621 87 [(4, .int r7), (0, .ref 2), (1, .ref v1), (2, .int v2), (3, .int v3)] [] S10 _ _
    refine RR.runs (pc' := 88) (lc' := [(4, .int r7), (0, .ref 2), (1, .ref v1), (2, .int v2), (3, .int v3)]) (st' := [.ref v1]) (S1 := S10) (nL := 5) (cd := cd_621) mx_621 rfl rfl 1 rfl ?_
    refine RR.gPo (pc' := 91) (lc' := [(4, .int r7), (0, .ref 2), (1, .ref v1), (2, .int v2), (3, .int v3)]) (st' := [.ref (v1 + 88)]) (S1 := S10) (nL := 5) (cd := cd_621) mx_621 rfl rfl rfl ⟨g5, by decide, by decide⟩ ?_
    refine RR.runs (pc' := 95) (lc' := [(4, .int r7), (0, .ref 2), (1, .ref v1), (2, .int v2), (3, .int v3)]) (st' := [.int v3, .int (1 : Int32), .int r7, .ref (v1 + 88)]) (S1 := S10) (nL := 5) (cd := cd_621) mx_621 rfl rfl 3 rfl ?_
    obtain ⟨r11, S12, h1, h⟩ := bnE h
    refine RR.callV (b := (v1 + 88)) (as := [.int r7, .int (1 : Int32), .int v3]) (rest := []) (r1 := none) (S1 := S12) mx_621 rfl rfl mx_1406 rfl rfl (by decide) (Or.inl g6) (Nat.le_of_ble_eq_true rfl) (Nat.le_of_ble_eq_true rfl) (RC.deep (by omega) (s_o_tb_put (d := d) _ _ _ _ _ h1)) ?_
    show RR KO _ 621 98 [(4, .int r7), (0, .ref 2), (1, .ref v1), (2, .int v2), (3, .int v3)] [] S12 _ _
    refine RR.weak [] trivial ?_
    exact s_o_rd_readBann_98 _ h
  · refine RR.c_ne (fun q => absurd q c) (fun _ => ?_)
    refine RR.weak [] trivial ?_
    exact s_o_rd_readBann_98 _ h
def o_rd_readBann (v1 : Nat) (S : St) : Re Unit :=
  if KO.1 v1 = (0, 10) then (
  if KO.1 (v1 + 88) = (0, 7) then (
bn (o_tb_full (v1 + 88) S) fun r3 S4 =>
  bn (o_rd_open r3 S4) fun r5 S6 =>
  bn (o_rd_soundHere v1 S6) fun r7 S8 =>
  bn (o_tp_step S8) fun r9 S10 =>
  bn (o_rd_soundHere v1 S10) fun r11 S12 =>
  if r7 = r11 then (
    bn (o_tp_wrong (3 : Int32) S12) fun r13 S14 =>
    o_rd_readBann_43 v1 r7 r11 S14)
  else (
    o_rd_readBann_43 v1 r7 r11 S12)) else none) else none
set_option maxRecDepth 100000 in
theorem s0_o_rd_readBann {d : Nat} {S' : St} {r : Unit} (v1 : Nat) (S : St) (h : o_rd_readBann v1 S = some (r, S')) : RR KO (d + 4) 621 0 [(0, .ref 2), (1, .ref v1)] [] S none S' := by
  unfold o_rd_readBann at h
  refine RR.runs (pc' := 2) (lc' := [(0, .ref 2), (1, .ref v1)]) (st' := [.ref v1, .ref 2]) (S1 := S) (nL := 5) (cd := cd_621) mx_621 rfl rfl 2 rfl ?_
  obtain ⟨g1, h⟩ := gpE h
  refine RR.gPo (pc' := 5) (lc' := [(0, .ref 2), (1, .ref v1)]) (st' := [.ref (v1 + 88), .ref 2]) (S1 := S) (nL := 5) (cd := cd_621) mx_621 rfl rfl rfl ⟨g1, by decide, by decide⟩ ?_
  obtain ⟨g2, h⟩ := gpE h
  obtain ⟨r3, S4, h1, h⟩ := bnE h
  refine RR.callV (b := (v1 + 88)) (as := []) (rest := [.ref 2]) (r1 := (some (.int r3))) (S1 := S4) mx_621 rfl rfl mx_1403 rfl rfl (by decide) (Or.inl g2) (Nat.le_of_ble_eq_true rfl) (Nat.le_of_ble_eq_true rfl) (RC.deep (by omega) (s_o_tb_full (d := d) _ _ h1)) ?_
  show RR KO _ 621 8 [(0, .ref 2), (1, .ref v1)] [.int r3, .ref 2] S4 _ _
  obtain ⟨r5, S6, h1, h⟩ := bnE h
  refine RR.callV (b := 2) (as := [.int r3]) (rest := []) (r1 := none) (S1 := S6) mx_621 rfl rfl mx_606 rfl rfl (by decide) (Or.inl rfl) (Nat.le_of_ble_eq_true rfl) (Nat.le_of_ble_eq_true rfl) (RC.deep (by omega) (s_o_rd_open (d := d) _ _ h1)) ?_
  show RR KO _ 621 11 [(0, .ref 2), (1, .ref v1)] [] S6 _ _
  refine RR.runs (pc' := 13) (lc' := [(0, .ref 2), (1, .ref v1)]) (st' := [.ref v1, .ref 2]) (S1 := S6) (nL := 5) (cd := cd_621) mx_621 rfl rfl 2 rfl ?_
  obtain ⟨r7, S8, h1, h⟩ := bnE h
  refine RR.callV (b := 2) (as := [.ref v1]) (rest := []) (r1 := (some (.int r7))) (S1 := S8) mx_621 rfl rfl mx_610 rfl rfl (by decide) (Or.inl rfl) (Nat.le_of_ble_eq_true rfl) (Nat.le_of_ble_eq_true rfl) (RC.deep (by omega) (s_o_rd_soundHere (d := d) _ _ h1)) ?_
  show RR KO _ 621 16 [(0, .ref 2), (1, .ref v1)] [.int r7] S8 _ _
  refine RR.runs (pc' := 21) (lc' := [(2, .int r7), (0, .ref 2), (1, .ref v1)]) (st' := [.ref 3]) (S1 := S8) (nL := 5) (cd := cd_621) mx_621 rfl rfl 3 rfl ?_
  obtain ⟨r9, S10, h1, h⟩ := bnE h
  refine RR.callV (b := 3) (as := []) (rest := []) (r1 := none) (S1 := S10) mx_621 rfl rfl mx_1605 rfl rfl (by decide) (Or.inl rfl) (Nat.le_of_ble_eq_true rfl) (Nat.le_of_ble_eq_true rfl) (RC.deep (by omega) (s_o_tp_step (d := d) _ h1)) ?_
  show RR KO _ 621 24 [(2, .int r7), (0, .ref 2), (1, .ref v1)] [] S10 _ _
  refine RR.runs (pc' := 26) (lc' := [(2, .int r7), (0, .ref 2), (1, .ref v1)]) (st' := [.ref v1, .ref 2]) (S1 := S10) (nL := 5) (cd := cd_621) mx_621 rfl rfl 2 rfl ?_
  obtain ⟨r11, S12, h1, h⟩ := bnE h
  refine RR.callV (b := 2) (as := [.ref v1]) (rest := []) (r1 := (some (.int r11))) (S1 := S12) mx_621 rfl rfl mx_610 rfl rfl (by decide) (Or.inl rfl) (Nat.le_of_ble_eq_true rfl) (Nat.le_of_ble_eq_true rfl) (RC.deep (by omega) (s_o_rd_soundHere (d := d) _ _ h1)) ?_
  show RR KO _ 621 29 [(2, .int r7), (0, .ref 2), (1, .ref v1)] [.int r11] S12 _ _
  refine RR.runs (pc' := icm .ne r7 r11 43 35) (lc' := [(3, .int r11), (2, .int r7), (0, .ref 2), (1, .ref v1)]) (st' := []) (S1 := S12) (nL := 5) (cd := cd_621) mx_621 rfl rfl 4 rfl ?_
  rcases ifE h with ⟨c, h⟩ | ⟨c, h⟩
  · refine RR.c_ne (fun _ => ?_) (fun q => absurd c q)
    refine RR.runs (pc' := 40) (lc' := [(3, .int r11), (2, .int r7), (0, .ref 2), (1, .ref v1)]) (st' := [.int (3 : Int32), .ref 3]) (S1 := S12) (nL := 5) (cd := cd_621) mx_621 rfl rfl 3 rfl ?_
    obtain ⟨r13, S14, h1, h⟩ := bnE h
    refine RR.callV (b := 3) (as := [.int (3 : Int32)]) (rest := []) (r1 := none) (S1 := S14) mx_621 rfl rfl mx_1603 rfl rfl (by decide) (Or.inl rfl) (Nat.le_of_ble_eq_true rfl) (Nat.le_of_ble_eq_true rfl) (RC.deep (by omega) (s_o_tp_wrong (d := d) _ _ h1)) ?_
    show RR KO _ 621 43 [(3, .int r11), (2, .int r7), (0, .ref 2), (1, .ref v1)] [] S14 _ _
    refine RR.weak [(0, .ref 2), (1, .ref v1), (2, .int r7), (3, .int r11)] ⟨rfl, rfl, rfl, rfl, trivial⟩ ?_
    exact s_o_rd_readBann_43 _ _ _ _ h
  · refine RR.c_ne (fun q => absurd q c) (fun _ => ?_)
    refine RR.weak [(0, .ref 2), (1, .ref v1), (2, .int r7), (3, .int r11)] ⟨rfl, rfl, rfl, rfl, trivial⟩ ?_
    exact s_o_rd_readBann_43 _ _ _ _ h
theorem s_o_rd_readBann {d : Nat} {S' : St} {r : Unit} (v1 : Nat) (S : St) (h : o_rd_readBann v1 S = some (r, S')) : RC KO (d + 4) 621 [.ref 2, .ref v1] S none S' := RC.of rfl (s0_o_rd_readBann v1 S h)
-- NameOrchard$Reader openLaw (Z)V
def o_rd_openLaw_12 (S : St) : Re Unit :=
  bn (o_tp_step S) fun r1 S2 =>
  some ((), S2)
set_option maxRecDepth 100000 in
theorem s_o_rd_openLaw_12 {d : Nat} {S' : St} {r : Unit} (S : St) (h : o_rd_openLaw_12 S = some (r, S')) : RR KO (d + 3) 607 12 [(0, .ref 2)] [] S none S' := by
  unfold o_rd_openLaw_12 at h
  refine RR.runs (pc' := 16) (lc' := [(0, .ref 2)]) (st' := [.ref 3]) (S1 := S) (nL := 2) (cd := cd_607) mx_607 rfl rfl 2 rfl ?_
  obtain ⟨r1, S2, h1, h⟩ := bnE h
  refine RR.callV (b := 3) (as := []) (rest := []) (r1 := none) (S1 := S2) mx_607 rfl rfl mx_1605 rfl rfl (by decide) (Or.inl rfl) (Nat.le_of_ble_eq_true rfl) (Nat.le_of_ble_eq_true rfl) (RC.deep (by omega) (s_o_tp_step (d := d) _ h1)) ?_
  show RR KO _ 607 19 [(0, .ref 2)] [] S2 _ _
  cases h
  exact RR.retv mx_607 rfl rfl rfl
def o_rd_openLaw (v1 : Int32) (S : St) : Re Unit :=
  if v1 = 0 then (
    o_rd_openLaw_12 S)
  else (
    bn (o_tp_wrong (3 : Int32) S) fun r1 S2 =>
    o_rd_openLaw_12 S2)
set_option maxRecDepth 100000 in
theorem s0_o_rd_openLaw {d : Nat} {S' : St} {r : Unit} (v1 : Int32) (S : St) (h : o_rd_openLaw v1 S = some (r, S')) : RR KO (d + 3) 607 0 [(0, .ref 2), (1, .int v1)] [] S none S' := by
  unfold o_rd_openLaw at h
  refine RR.runs (pc' := icm .eq v1 0 12 4) (lc' := [(0, .ref 2), (1, .int v1)]) (st' := []) (S1 := S) (nL := 2) (cd := cd_607) mx_607 rfl rfl 2 rfl ?_
  rcases ifE h with ⟨c, h⟩ | ⟨c, h⟩
  · refine RR.c_eq (fun _ => ?_) (fun q => absurd c q)
    refine RR.weak [(0, .ref 2)] ⟨rfl, trivial⟩ ?_
    exact s_o_rd_openLaw_12 _ h
  · refine RR.c_eq (fun q => absurd q c) (fun _ => ?_)
    refine RR.runs (pc' := 9) (lc' := [(0, .ref 2), (1, .int v1)]) (st' := [.int (3 : Int32), .ref 3]) (S1 := S) (nL := 2) (cd := cd_607) mx_607 rfl rfl 3 rfl ?_
    obtain ⟨r1, S2, h1, h⟩ := bnE h
    refine RR.callV (b := 3) (as := [.int (3 : Int32)]) (rest := []) (r1 := none) (S1 := S2) mx_607 rfl rfl mx_1603 rfl rfl (by decide) (Or.inl rfl) (Nat.le_of_ble_eq_true rfl) (Nat.le_of_ble_eq_true rfl) (RC.deep (by omega) (s_o_tp_wrong (d := d) _ _ h1)) ?_
    show RR KO _ 607 12 [(0, .ref 2), (1, .int v1)] [] S2 _ _
    refine RR.weak [(0, .ref 2)] ⟨rfl, trivial⟩ ?_
    exact s_o_rd_openLaw_12 _ h
theorem s_o_rd_openLaw {d : Nat} {S' : St} {r : Unit} (v1 : Int32) (S : St) (h : o_rd_openLaw v1 S = some (r, S')) : RC KO (d + 3) 607 [.ref 2, .int v1] S none S' := RC.of rfl (s0_o_rd_openLaw v1 S h)
-- NameOrchard$Reader readLaw (LNameOrchard$Formula;Z)V
def o_rd_readLaw_36 (S : St) : Re Unit :=
  bn (o_rd_take 1006 S) fun r1 S2 =>
  some ((), S2)
set_option maxRecDepth 100000 in
theorem s_o_rd_readLaw_36 {d : Nat} {S' : St} {r : Unit} (S : St) (h : o_rd_readLaw_36 S = some (r, S')) : RR KO (d + 4) 624 36 [(0, .ref 2)] [] S none S' := by
  unfold o_rd_readLaw_36 at h
  refine RR.runs (pc' := 40) (lc' := [(0, .ref 2)]) (st' := [.ref 1006, .ref 2]) (S1 := S) (nL := 4) (cd := cd_624) mx_624 rfl rfl 2 rfl ?_
  obtain ⟨r1, S2, h1, h⟩ := bnE h
  refine RR.callV (b := 2) (as := [.ref 1006]) (rest := []) (r1 := none) (S1 := S2) mx_624 rfl rfl mx_604 rfl rfl (by decide) (Or.inl rfl) (Nat.le_of_ble_eq_true rfl) (Nat.le_of_ble_eq_true rfl) (RC.deep (by omega) (s_o_rd_take (d := d) _ _ h1)) ?_
  show RR KO _ 624 43 [(0, .ref 2)] [] S2 _ _
  cases h
  exact RR.retv mx_624 rfl rfl rfl
def o_rd_readLaw_23 (p0 : Int32) (S : St) : Re Unit :=
  if p0 = 0 then (
    o_rd_readLaw_36 S)
  else (
    bn (o_tp_wrong p0 S) fun r1 S2 =>
    o_rd_readLaw_36 S2)
set_option maxRecDepth 100000 in
theorem s_o_rd_readLaw_23 {d : Nat} {S' : St} {r : Unit} (p0 : Int32) (S : St) (h : o_rd_readLaw_23 p0 S = some (r, S')) : RR KO (d + 4) 624 23 [(0, .ref 2)] [.int p0] S none S' := by
  unfold o_rd_readLaw_23 at h
  refine RR.runs (pc' := icm .eq p0 0 36 28) (lc' := [(3, .int p0), (0, .ref 2)]) (st' := []) (S1 := S) (nL := 4) (cd := cd_624) mx_624 rfl rfl 3 rfl ?_
  rcases ifE h with ⟨c, h⟩ | ⟨c, h⟩
  · refine RR.c_eq (fun _ => ?_) (fun q => absurd c q)
    refine RR.weak [(0, .ref 2)] ⟨rfl, trivial⟩ ?_
    exact s_o_rd_readLaw_36 _ h
  · refine RR.c_eq (fun q => absurd q c) (fun _ => ?_)
    refine RR.runs (pc' := 33) (lc' := [(3, .int p0), (0, .ref 2)]) (st' := [.int p0, .ref 3]) (S1 := S) (nL := 4) (cd := cd_624) mx_624 rfl rfl 3 rfl ?_
    obtain ⟨r1, S2, h1, h⟩ := bnE h
    refine RR.callV (b := 3) (as := [.int p0]) (rest := []) (r1 := none) (S1 := S2) mx_624 rfl rfl mx_1603 rfl rfl (by decide) (Or.inl rfl) (Nat.le_of_ble_eq_true rfl) (Nat.le_of_ble_eq_true rfl) (RC.deep (by omega) (s_o_tp_wrong (d := d) _ _ h1)) ?_
    show RR KO _ 624 36 [(3, .int p0), (0, .ref 2)] [] S2 _ _
    refine RR.weak [(0, .ref 2)] ⟨rfl, trivial⟩ ?_
    exact s_o_rd_readLaw_36 _ h
def o_rd_readLaw (v1 : Nat) (v2 : Int32) (S : St) : Re Unit :=
  if (rI S 3 7) = 0 then (
    if KO.1 v1 = (0, 1) then (
bn (o_fo_read v1 v2 S) fun r2 S3 =>
    o_rd_readLaw_23 r2 S3) else none)
  else (
    o_rd_readLaw_23 (0 : Int32) S)
set_option maxRecDepth 100000 in
theorem s0_o_rd_readLaw {d : Nat} {S' : St} {r : Unit} (v1 : Nat) (v2 : Int32) (S : St) (h : o_rd_readLaw v1 v2 S = some (r, S')) : RR KO (d + 4) 624 0 [(0, .ref 2), (1, .ref v1), (2, .int v2)] [] S none S' := by
  unfold o_rd_readLaw at h
  refine RR.runs (pc' := icm .ne (rI S 3 7) 0 22 10) (lc' := [(0, .ref 2), (1, .ref v1), (2, .int v2)]) (st' := []) (S1 := S) (nL := 4) (cd := cd_624) mx_624 rfl rfl 4 rfl ?_
  rcases ifE h with ⟨c, h⟩ | ⟨c, h⟩
  · refine RR.c_ne (fun _ => ?_) (fun q => absurd c q)
    refine RR.runs (pc' := 16) (lc' := [(0, .ref 2), (1, .ref v1), (2, .int v2)]) (st' := [.int v2, .ref 3, .ref v1]) (S1 := S) (nL := 4) (cd := cd_624) mx_624 rfl rfl 4 rfl ?_
    obtain ⟨g1, h⟩ := gpE h
    obtain ⟨r2, S3, h1, h⟩ := bnE h
    refine RR.callV (b := v1) (as := [.ref 3, .int v2]) (rest := []) (r1 := (some (.int r2))) (S1 := S3) mx_624 rfl rfl mx_203 rfl rfl (by decide) (Or.inl g1) (Nat.le_of_ble_eq_true rfl) (Nat.le_of_ble_eq_true rfl) (RC.deep (by omega) (s_o_fo_read (d := d) _ _ _ h1)) ?_
    show RR KO _ 624 19 [(0, .ref 2), (1, .ref v1), (2, .int v2)] [.int r2] S3 _ _
    refine RR.runs (pc' := 23) (lc' := [(0, .ref 2), (1, .ref v1), (2, .int v2)]) (st' := [.int r2]) (S1 := S3) (nL := 4) (cd := cd_624) mx_624 rfl rfl 1 rfl ?_
    refine RR.weak [(0, .ref 2)] ⟨rfl, trivial⟩ ?_
    exact s_o_rd_readLaw_23 _ _ h
  · refine RR.c_ne (fun q => absurd q c) (fun _ => ?_)
    refine RR.runs (pc' := 23) (lc' := [(0, .ref 2), (1, .ref v1), (2, .int v2)]) (st' := [.int (0 : Int32)]) (S1 := S) (nL := 4) (cd := cd_624) mx_624 rfl rfl 1 rfl ?_
    refine RR.weak [(0, .ref 2)] ⟨rfl, trivial⟩ ?_
    exact s_o_rd_readLaw_23 _ _ h
theorem s_o_rd_readLaw {d : Nat} {S' : St} {r : Unit} (v1 : Nat) (v2 : Int32) (S : St) (h : o_rd_readLaw v1 v2 S = some (r, S')) : RC KO (d + 4) 624 [.ref 2, .ref v1, .int v2] S none S' := RC.of rfl (s0_o_rd_readLaw v1 v2 S h)
-- NameOrchard$Reader readNear (LNameOrchard$Told;)V
def o_rd_readNear (v1 : Nat) (S : St) : Re Unit :=
  if KO.1 v1 = (0, 10) then (
  bn (o_rd_openLaw (rI S v1 12) S) fun r2 S3 =>
    bn (o_rd_readLaw (v1 + 14) (1 : Int32) S3) fun r4 S5 =>
  lt' (wI S5 v1 12 (1 : Int32)) fun S6 =>
  some ((), S6)) else none
set_option maxRecDepth 100000 in
theorem s0_o_rd_readNear {d : Nat} {S' : St} {r : Unit} (v1 : Nat) (S : St) (h : o_rd_readNear v1 S = some (r, S')) : RR KO (d + 5) 622 0 [(0, .ref 2), (1, .ref v1)] [] S none S' := by
  unfold o_rd_readNear at h
  refine RR.runs (pc' := 2) (lc' := [(0, .ref 2), (1, .ref v1)]) (st' := [.ref v1, .ref 2]) (S1 := S) (nL := 2) (cd := cd_622) mx_622 rfl rfl 2 rfl ?_
  obtain ⟨g1, h⟩ := gpE h
  refine RR.gPo (pc' := 5) (lc' := [(0, .ref 2), (1, .ref v1)]) (st' := [.int (rI S v1 12), .ref 2]) (S1 := S) (nL := 2) (cd := cd_622) mx_622 rfl rfl rfl ⟨g1, by decide, by decide⟩ ?_
  obtain ⟨r2, S3, h1, h⟩ := bnE h
  refine RR.callV (b := 2) (as := [.int (rI S v1 12)]) (rest := []) (r1 := none) (S1 := S3) mx_622 rfl rfl mx_607 rfl rfl (by decide) (Or.inl rfl) (Nat.le_of_ble_eq_true rfl) (Nat.le_of_ble_eq_true rfl) (RC.deep (by omega) (s_o_rd_openLaw (d := d) _ _ h1)) ?_
  show RR KO _ 622 8 [(0, .ref 2), (1, .ref v1)] [] S3 _ _
  refine RR.runs (pc' := 10) (lc' := [(0, .ref 2), (1, .ref v1)]) (st' := [.ref v1, .ref 2]) (S1 := S3) (nL := 2) (cd := cd_622) mx_622 rfl rfl 2 rfl ?_
  refine RR.gPo (pc' := 13) (lc' := [(0, .ref 2), (1, .ref v1)]) (st' := [.ref (v1 + 14), .ref 2]) (S1 := S3) (nL := 2) (cd := cd_622) mx_622 rfl rfl rfl ⟨g1, by decide, by decide⟩ ?_
  refine RR.runs (pc' := 14) (lc' := [(0, .ref 2), (1, .ref v1)]) (st' := [.int (1 : Int32), .ref (v1 + 14), .ref 2]) (S1 := S3) (nL := 2) (cd := cd_622) mx_622 rfl rfl 1 rfl ?_
  obtain ⟨r4, S5, h1, h⟩ := bnE h
  refine RR.callV (b := 2) (as := [.ref (v1 + 14), .int (1 : Int32)]) (rest := []) (r1 := none) (S1 := S5) mx_622 rfl rfl mx_624 rfl rfl (by decide) (Or.inl rfl) (Nat.le_of_ble_eq_true rfl) (Nat.le_of_ble_eq_true rfl) (RC.deep (by omega) (s_o_rd_readLaw (d := d) _ _ _ h1)) ?_
  show RR KO _ 622 17 [(0, .ref 2), (1, .ref v1)] [] S5 _ _
  refine RR.runs (pc' := 19) (lc' := [(0, .ref 2), (1, .ref v1)]) (st' := [.int (1 : Int32), .ref v1]) (S1 := S5) (nL := 2) (cd := cd_622) mx_622 rfl rfl 2 rfl ?_
  refine RR.gPP (pc' := 22) (lc' := [(0, .ref 2), (1, .ref v1)]) (st' := []) (S1 := (wI S5 v1 12 (1 : Int32))) (nL := 2) (cd := cd_622) mx_622 rfl rfl rfl ⟨g1, by decide, rfl, by decide⟩ rfl ?_
  obtain ⟨S6, eS6, h⟩ := ltE h
  rw [← eS6]
  cases h
  exact RR.retv mx_622 rfl rfl rfl
theorem s_o_rd_readNear {d : Nat} {S' : St} {r : Unit} (v1 : Nat) (S : St) (h : o_rd_readNear v1 S = some (r, S')) : RC KO (d + 5) 622 [.ref 2, .ref v1] S none S' := RC.of rfl (s0_o_rd_readNear v1 S h)
-- NameOrchard$Reader readValue (LNameOrchard$Told;)V
def o_rd_readValue (v1 : Nat) (S : St) : Re Unit :=
  if KO.1 v1 = (0, 10) then (
  bn (o_rd_openLaw (rI S v1 13) S) fun r2 S3 =>
    bn (o_rd_readLaw (v1 + 16) (0 : Int32) S3) fun r4 S5 =>
  lt' (wI S5 v1 13 (1 : Int32)) fun S6 =>
  some ((), S6)) else none
set_option maxRecDepth 100000 in
theorem s0_o_rd_readValue {d : Nat} {S' : St} {r : Unit} (v1 : Nat) (S : St) (h : o_rd_readValue v1 S = some (r, S')) : RR KO (d + 5) 623 0 [(0, .ref 2), (1, .ref v1)] [] S none S' := by
  unfold o_rd_readValue at h
  refine RR.runs (pc' := 2) (lc' := [(0, .ref 2), (1, .ref v1)]) (st' := [.ref v1, .ref 2]) (S1 := S) (nL := 2) (cd := cd_623) mx_623 rfl rfl 2 rfl ?_
  obtain ⟨g1, h⟩ := gpE h
  refine RR.gPo (pc' := 5) (lc' := [(0, .ref 2), (1, .ref v1)]) (st' := [.int (rI S v1 13), .ref 2]) (S1 := S) (nL := 2) (cd := cd_623) mx_623 rfl rfl rfl ⟨g1, by decide, by decide⟩ ?_
  obtain ⟨r2, S3, h1, h⟩ := bnE h
  refine RR.callV (b := 2) (as := [.int (rI S v1 13)]) (rest := []) (r1 := none) (S1 := S3) mx_623 rfl rfl mx_607 rfl rfl (by decide) (Or.inl rfl) (Nat.le_of_ble_eq_true rfl) (Nat.le_of_ble_eq_true rfl) (RC.deep (by omega) (s_o_rd_openLaw (d := d) _ _ h1)) ?_
  show RR KO _ 623 8 [(0, .ref 2), (1, .ref v1)] [] S3 _ _
  refine RR.runs (pc' := 10) (lc' := [(0, .ref 2), (1, .ref v1)]) (st' := [.ref v1, .ref 2]) (S1 := S3) (nL := 2) (cd := cd_623) mx_623 rfl rfl 2 rfl ?_
  refine RR.gPo (pc' := 13) (lc' := [(0, .ref 2), (1, .ref v1)]) (st' := [.ref (v1 + 16), .ref 2]) (S1 := S3) (nL := 2) (cd := cd_623) mx_623 rfl rfl rfl ⟨g1, by decide, by decide⟩ ?_
  refine RR.runs (pc' := 14) (lc' := [(0, .ref 2), (1, .ref v1)]) (st' := [.int (0 : Int32), .ref (v1 + 16), .ref 2]) (S1 := S3) (nL := 2) (cd := cd_623) mx_623 rfl rfl 1 rfl ?_
  obtain ⟨r4, S5, h1, h⟩ := bnE h
  refine RR.callV (b := 2) (as := [.ref (v1 + 16), .int (0 : Int32)]) (rest := []) (r1 := none) (S1 := S5) mx_623 rfl rfl mx_624 rfl rfl (by decide) (Or.inl rfl) (Nat.le_of_ble_eq_true rfl) (Nat.le_of_ble_eq_true rfl) (RC.deep (by omega) (s_o_rd_readLaw (d := d) _ _ _ h1)) ?_
  show RR KO _ 623 17 [(0, .ref 2), (1, .ref v1)] [] S5 _ _
  refine RR.runs (pc' := 19) (lc' := [(0, .ref 2), (1, .ref v1)]) (st' := [.int (1 : Int32), .ref v1]) (S1 := S5) (nL := 2) (cd := cd_623) mx_623 rfl rfl 2 rfl ?_
  refine RR.gPP (pc' := 22) (lc' := [(0, .ref 2), (1, .ref v1)]) (st' := []) (S1 := (wI S5 v1 13 (1 : Int32))) (nL := 2) (cd := cd_623) mx_623 rfl rfl rfl ⟨g1, by decide, rfl, by decide⟩ rfl ?_
  obtain ⟨S6, eS6, h⟩ := ltE h
  rw [← eS6]
  cases h
  exact RR.retv mx_623 rfl rfl rfl
theorem s_o_rd_readValue {d : Nat} {S' : St} {r : Unit} (v1 : Nat) (S : St) (h : o_rd_readValue v1 S = some (r, S')) : RC KO (d + 5) 623 [.ref 2, .ref v1] S none S' := RC.of rfl (s0_o_rd_readValue v1 S h)
-- NameOrchard$Told nearOnes (I)I
def o_to_nearOnes_83 (k4 : Nat → Int32 → Int32 → Int32 → St → Re Int32) (v0 : Nat) (v1 : Int32) (v3 : Int32) (p0 : Int32) (p1 : Int32) (S : St) : Re Int32 :=
  lt' ((p1 ||| p0) : Int32) fun x1 =>
  lt' ((v3 + (1 : Int32)) : Int32) fun x2 =>
  k4 v0 v1 x1 x2 S
set_option maxRecDepth 100000 in
theorem s_o_to_nearOnes_83 {d : Nat} (k4 : Nat → Int32 → Int32 → Int32 → St → Re Int32) {S' : St} {r : Int32} (b4 : ∀ (v0 : Nat) (v1 : Int32) (v2 : Int32) (v3 : Int32) (S : St), k4 v0 v1 v2 v3 S = some (r, S') → RR KO (d + 3) 2003 4 [(0, .ref v0), (1, .int v1), (2, .int v2), (3, .int v3)] [] S (some (.int r)) S') (v0 : Nat) (v1 : Int32) (v3 : Int32) (p0 : Int32) (p1 : Int32) (S : St) (h : o_to_nearOnes_83 k4 v0 v1 v3 p0 p1 S = some (r, S')) : RR KO (d + 3) 2003 83 [(0, .ref v0), (1, .int v1), (3, .int v3)] [.int p0, .int p1] S (some (.int r)) S' := by
  unfold o_to_nearOnes_83 at h
  refine RR.runs (pc' := 85) (lc' := [(2, .int (p1 ||| p0)), (0, .ref v0), (1, .int v1), (3, .int v3)]) (st' := []) (S1 := S) (nL := 5) (cd := cd_2003) mx_2003 rfl rfl 2 rfl ?_
  obtain ⟨x1, ex1, h⟩ := ltE h
  rw [← ex1]
  refine RR.runs (pc' := 88) (lc' := [(3, .int ((v3 + (1 : Int32)))), (2, .int x1), (0, .ref v0), (1, .int v1)]) (st' := []) (S1 := S) (nL := 5) (cd := cd_2003) mx_2003 rfl rfl 1 rfl ?_
  obtain ⟨x2, ex2, h⟩ := ltE h
  rw [← ex2]
  refine RR.runs (pc' := 4) (lc' := [(3, .int x2), (2, .int x1), (0, .ref v0), (1, .int v1)]) (st' := []) (S1 := S) (nL := 5) (cd := cd_2003) mx_2003 rfl rfl 1 rfl ?_
  refine RR.weak [(0, .ref v0), (1, .int v1), (2, .int x1), (3, .int x2)] ⟨rfl, rfl, rfl, rfl, trivial⟩ ?_
  exact b4 _ _ _ _ _ h
def o_to_nearOnes_91 (v2 : Int32) (S : St) : Re Int32 :=
  some (v2, S)
set_option maxRecDepth 100000 in
theorem s_o_to_nearOnes_91 {d : Nat} {S' : St} {r : Int32} (v2 : Int32) (S : St) (h : o_to_nearOnes_91 v2 S = some (r, S')) : RR KO (d + 3) 2003 91 [(2, .int v2)] [] S (some (.int r)) S' := by
  unfold o_to_nearOnes_91 at h
  refine RR.runs (pc' := 92) (lc' := [(2, .int v2)]) (st' := [.int v2]) (S1 := S) (nL := 5) (cd := cd_2003) mx_2003 rfl rfl 1 rfl ?_
  cases h
  exact RR.reti mx_2003 rfl rfl rfl
def o_to_nearOnes_4 : Nat → Nat → Int32 → Int32 → Int32 → St → Re Int32
  | 0, _, _, _, _, _ => none
  | n + 1, v0, v1, v2, v3, S =>
  if KO.1 v0 = (0, 10) then (
  if KO.1 (v0 + 2) = (0, 2) then (
bn (o_na_size (v0 + 2) S) fun r3 S4 =>
  if v3 < r3 then (
        bn (o_na_size (v0 + 2) S4) fun r5 S6 =>
    if v1 < r5 then (
                  bn (o_na_edits (v0 + 2) v1 v3 S6) fun r7 S8 =>
            bn (o_na_start (v0 + 2) v1 v3 S8) fun r9 S10 =>
            bn (o_na_rhyme (v0 + 2) v1 v3 S10) fun r11 S12 =>
            bn (o_na_letters (v0 + 2) v1 S12) fun r13 S14 =>
      if KO.1 (v0 + 14) = (0, 1) then (
bn (o_fo_answer (v0 + 14) r7 r9 r11 r13 S14) fun r16 S17 =>
      if r16 = 0 then (
        o_to_nearOnes_83 (o_to_nearOnes_4 n) v0 v1 v3 (0 : Int32) v2 S17)
      else (
        o_to_nearOnes_83 (o_to_nearOnes_4 n) v0 v1 v3 (((1 : Int32) <<< (v3 &&& 31))) v2 S17)) else none)
    else (
      o_to_nearOnes_91 v2 S6))
  else (
    o_to_nearOnes_91 v2 S4)) else none) else none
set_option maxRecDepth 100000 in
theorem s_o_to_nearOnes_4 {d : Nat} {S' : St} {r : Int32} : ∀ (n : Nat) (v0 : Nat) (v1 : Int32) (v2 : Int32) (v3 : Int32) (S : St), o_to_nearOnes_4 n v0 v1 v2 v3 S = some (r, S') → RR KO (d + 3) 2003 4 [(0, .ref v0), (1, .int v1), (2, .int v2), (3, .int v3)] [] S (some (.int r)) S' := by
  intro n
  induction n with
  | zero => intro v0 v1 v2 v3 S h; simp only [o_to_nearOnes_4] at h; cases h
  | succ n ih =>
    intro v0 v1 v2 v3 S h
    simp only [o_to_nearOnes_4] at h
    refine RR.runs (pc' := 6) (lc' := [(0, .ref v0), (1, .int v1), (2, .int v2), (3, .int v3)]) (st' := [.ref v0, .int v3]) (S1 := S) (nL := 5) (cd := cd_2003) mx_2003 rfl rfl 2 rfl ?_
    obtain ⟨g1, h⟩ := gpE h
    refine RR.gPo (pc' := 9) (lc' := [(0, .ref v0), (1, .int v1), (2, .int v2), (3, .int v3)]) (st' := [.ref (v0 + 2), .int v3]) (S1 := S) (nL := 5) (cd := cd_2003) mx_2003 rfl rfl rfl ⟨g1, by decide, by decide⟩ ?_
    obtain ⟨g2, h⟩ := gpE h
    obtain ⟨r3, S4, h1, h⟩ := bnE h
    refine RR.callV (b := (v0 + 2)) (as := []) (rest := [.int v3]) (r1 := (some (.int r3))) (S1 := S4) mx_2003 rfl rfl mx_403 rfl rfl (by decide) (Or.inl g2) (Nat.le_of_ble_eq_true rfl) (Nat.le_of_ble_eq_true rfl) (RC.deep (by omega) (s_o_na_size (d := d) _ _ h1)) ?_
    show RR KO _ 2003 12 [(0, .ref v0), (1, .int v1), (2, .int v2), (3, .int v3)] [.int r3, .int v3] S4 _ _
    refine RR.runs (pc' := icm .ge v3 r3 91 15) (lc' := [(0, .ref v0), (1, .int v1), (2, .int v2), (3, .int v3)]) (st' := []) (S1 := S4) (nL := 5) (cd := cd_2003) mx_2003 rfl rfl 1 rfl ?_
    rcases ifE h with ⟨c, h⟩ | ⟨c, h⟩
    · refine RR.c_ge (fun _ => ?_) (fun q => absurd c q)
      refine RR.runs (pc' := 17) (lc' := [(0, .ref v0), (1, .int v1), (2, .int v2), (3, .int v3)]) (st' := [.ref v0, .int v1]) (S1 := S4) (nL := 5) (cd := cd_2003) mx_2003 rfl rfl 2 rfl ?_
      refine RR.gPo (pc' := 20) (lc' := [(0, .ref v0), (1, .int v1), (2, .int v2), (3, .int v3)]) (st' := [.ref (v0 + 2), .int v1]) (S1 := S4) (nL := 5) (cd := cd_2003) mx_2003 rfl rfl rfl ⟨g1, by decide, by decide⟩ ?_
      obtain ⟨r5, S6, h1, h⟩ := bnE h
      refine RR.callV (b := (v0 + 2)) (as := []) (rest := [.int v1]) (r1 := (some (.int r5))) (S1 := S6) mx_2003 rfl rfl mx_403 rfl rfl (by decide) (Or.inl g2) (Nat.le_of_ble_eq_true rfl) (Nat.le_of_ble_eq_true rfl) (RC.deep (by omega) (s_o_na_size (d := d) _ _ h1)) ?_
      show RR KO _ 2003 23 [(0, .ref v0), (1, .int v1), (2, .int v2), (3, .int v3)] [.int r5, .int v1] S6 _ _
      refine RR.runs (pc' := icm .ge v1 r5 91 26) (lc' := [(0, .ref v0), (1, .int v1), (2, .int v2), (3, .int v3)]) (st' := []) (S1 := S6) (nL := 5) (cd := cd_2003) mx_2003 rfl rfl 1 rfl ?_
      rcases ifE h with ⟨c, h⟩ | ⟨c, h⟩
      · refine RR.c_ge (fun _ => ?_) (fun q => absurd c q)
        refine RR.runs (pc' := 27) (lc' := [(0, .ref v0), (1, .int v1), (2, .int v2), (3, .int v3)]) (st' := [.ref v0]) (S1 := S6) (nL := 5) (cd := cd_2003) mx_2003 rfl rfl 1 rfl ?_
        refine RR.gPo (pc' := 30) (lc' := [(0, .ref v0), (1, .int v1), (2, .int v2), (3, .int v3)]) (st' := [.ref (v0 + 14)]) (S1 := S6) (nL := 5) (cd := cd_2003) mx_2003 rfl rfl rfl ⟨g1, by decide, by decide⟩ ?_
        refine RR.runs (pc' := 31) (lc' := [(0, .ref v0), (1, .int v1), (2, .int v2), (3, .int v3)]) (st' := [.ref v0, .ref (v0 + 14)]) (S1 := S6) (nL := 5) (cd := cd_2003) mx_2003 rfl rfl 1 rfl ?_
        refine RR.gPo (pc' := 34) (lc' := [(0, .ref v0), (1, .int v1), (2, .int v2), (3, .int v3)]) (st' := [.ref (v0 + 2), .ref (v0 + 14)]) (S1 := S6) (nL := 5) (cd := cd_2003) mx_2003 rfl rfl rfl ⟨g1, by decide, by decide⟩ ?_
        refine RR.runs (pc' := 36) (lc' := [(0, .ref v0), (1, .int v1), (2, .int v2), (3, .int v3)]) (st' := [.int v3, .int v1, .ref (v0 + 2), .ref (v0 + 14)]) (S1 := S6) (nL := 5) (cd := cd_2003) mx_2003 rfl rfl 2 rfl ?_
        obtain ⟨r7, S8, h1, h⟩ := bnE h
        refine RR.callV (b := (v0 + 2)) (as := [.int v1, .int v3]) (rest := [.ref (v0 + 14)]) (r1 := (some (.int r7))) (S1 := S8) mx_2003 rfl rfl mx_412 rfl rfl (by decide) (Or.inl g2) (Nat.le_of_ble_eq_true rfl) (Nat.le_of_ble_eq_true rfl) (RC.deep (by omega) (s_o_na_edits (d := d) _ _ _ _ h1)) ?_
        show RR KO _ 2003 39 [(0, .ref v0), (1, .int v1), (2, .int v2), (3, .int v3)] [.int r7, .ref (v0 + 14)] S8 _ _
        refine RR.runs (pc' := 40) (lc' := [(0, .ref v0), (1, .int v1), (2, .int v2), (3, .int v3)]) (st' := [.ref v0, .int r7, .ref (v0 + 14)]) (S1 := S8) (nL := 5) (cd := cd_2003) mx_2003 rfl rfl 1 rfl ?_
        refine RR.gPo (pc' := 43) (lc' := [(0, .ref v0), (1, .int v1), (2, .int v2), (3, .int v3)]) (st' := [.ref (v0 + 2), .int r7, .ref (v0 + 14)]) (S1 := S8) (nL := 5) (cd := cd_2003) mx_2003 rfl rfl rfl ⟨g1, by decide, by decide⟩ ?_
        refine RR.runs (pc' := 45) (lc' := [(0, .ref v0), (1, .int v1), (2, .int v2), (3, .int v3)]) (st' := [.int v3, .int v1, .ref (v0 + 2), .int r7, .ref (v0 + 14)]) (S1 := S8) (nL := 5) (cd := cd_2003) mx_2003 rfl rfl 2 rfl ?_
        obtain ⟨r9, S10, h1, h⟩ := bnE h
        refine RR.callV (b := (v0 + 2)) (as := [.int v1, .int v3]) (rest := [.int r7, .ref (v0 + 14)]) (r1 := (some (.int r9))) (S1 := S10) mx_2003 rfl rfl mx_410 rfl rfl (by decide) (Or.inl g2) (Nat.le_of_ble_eq_true rfl) (Nat.le_of_ble_eq_true rfl) (RC.deep (by omega) (s_o_na_start (d := d) _ _ _ _ h1)) ?_
        show RR KO _ 2003 48 [(0, .ref v0), (1, .int v1), (2, .int v2), (3, .int v3)] [.int r9, .int r7, .ref (v0 + 14)] S10 _ _
        refine RR.runs (pc' := 49) (lc' := [(0, .ref v0), (1, .int v1), (2, .int v2), (3, .int v3)]) (st' := [.ref v0, .int r9, .int r7, .ref (v0 + 14)]) (S1 := S10) (nL := 5) (cd := cd_2003) mx_2003 rfl rfl 1 rfl ?_
        refine RR.gPo (pc' := 52) (lc' := [(0, .ref v0), (1, .int v1), (2, .int v2), (3, .int v3)]) (st' := [.ref (v0 + 2), .int r9, .int r7, .ref (v0 + 14)]) (S1 := S10) (nL := 5) (cd := cd_2003) mx_2003 rfl rfl rfl ⟨g1, by decide, by decide⟩ ?_
        refine RR.runs (pc' := 54) (lc' := [(0, .ref v0), (1, .int v1), (2, .int v2), (3, .int v3)]) (st' := [.int v3, .int v1, .ref (v0 + 2), .int r9, .int r7, .ref (v0 + 14)]) (S1 := S10) (nL := 5) (cd := cd_2003) mx_2003 rfl rfl 2 rfl ?_
        obtain ⟨r11, S12, h1, h⟩ := bnE h
        refine RR.callV (b := (v0 + 2)) (as := [.int v1, .int v3]) (rest := [.int r9, .int r7, .ref (v0 + 14)]) (r1 := (some (.int r11))) (S1 := S12) mx_2003 rfl rfl mx_411 rfl rfl (by decide) (Or.inl g2) (Nat.le_of_ble_eq_true rfl) (Nat.le_of_ble_eq_true rfl) (RC.deep (by omega) (s_o_na_rhyme (d := d) _ _ _ _ h1)) ?_
        show RR KO _ 2003 57 [(0, .ref v0), (1, .int v1), (2, .int v2), (3, .int v3)] [.int r11, .int r9, .int r7, .ref (v0 + 14)] S12 _ _
        refine RR.runs (pc' := 58) (lc' := [(0, .ref v0), (1, .int v1), (2, .int v2), (3, .int v3)]) (st' := [.ref v0, .int r11, .int r9, .int r7, .ref (v0 + 14)]) (S1 := S12) (nL := 5) (cd := cd_2003) mx_2003 rfl rfl 1 rfl ?_
        refine RR.gPo (pc' := 61) (lc' := [(0, .ref v0), (1, .int v1), (2, .int v2), (3, .int v3)]) (st' := [.ref (v0 + 2), .int r11, .int r9, .int r7, .ref (v0 + 14)]) (S1 := S12) (nL := 5) (cd := cd_2003) mx_2003 rfl rfl rfl ⟨g1, by decide, by decide⟩ ?_
        refine RR.runs (pc' := 62) (lc' := [(0, .ref v0), (1, .int v1), (2, .int v2), (3, .int v3)]) (st' := [.int v1, .ref (v0 + 2), .int r11, .int r9, .int r7, .ref (v0 + 14)]) (S1 := S12) (nL := 5) (cd := cd_2003) mx_2003 rfl rfl 1 rfl ?_
        obtain ⟨r13, S14, h1, h⟩ := bnE h
        refine RR.callV (b := (v0 + 2)) (as := [.int v1]) (rest := [.int r11, .int r9, .int r7, .ref (v0 + 14)]) (r1 := (some (.int r13))) (S1 := S14) mx_2003 rfl rfl mx_408 rfl rfl (by decide) (Or.inl g2) (Nat.le_of_ble_eq_true rfl) (Nat.le_of_ble_eq_true rfl) (RC.deep (by omega) (s_o_na_letters (d := d) _ _ _ h1)) ?_
        show RR KO _ 2003 65 [(0, .ref v0), (1, .int v1), (2, .int v2), (3, .int v3)] [.int r13, .int r11, .int r9, .int r7, .ref (v0 + 14)] S14 _ _
        obtain ⟨g15, h⟩ := gpE h
        obtain ⟨r16, S17, h1, h⟩ := bnE h
        refine RR.callV (b := (v0 + 14)) (as := [.int r7, .int r9, .int r11, .int r13]) (rest := []) (r1 := (some (.int r16))) (S1 := S17) mx_2003 rfl rfl mx_210 rfl rfl (by decide) (Or.inl g15) (Nat.le_of_ble_eq_true rfl) (Nat.le_of_ble_eq_true rfl) (RC.deep (by omega) (s_o_fo_answer (d := d) _ _ _ _ _ _ h1)) ?_
        show RR KO _ 2003 68 [(0, .ref v0), (1, .int v1), (2, .int v2), (3, .int v3)] [.int r16] S17 _ _
        refine RR.runs (pc' := icm .eq r16 0 82 76) (lc' := [(4, .int r16), (0, .ref v0), (1, .int v1), (2, .int v2), (3, .int v3)]) (st' := [.int v2]) (S1 := S17) (nL := 5) (cd := cd_2003) mx_2003 rfl rfl 4 rfl ?_
        rcases ifE h with ⟨c, h⟩ | ⟨c, h⟩
        · refine RR.c_eq (fun _ => ?_) (fun q => absurd c q)
          refine RR.runs (pc' := 83) (lc' := [(4, .int r16), (0, .ref v0), (1, .int v1), (2, .int v2), (3, .int v3)]) (st' := [.int (0 : Int32), .int v2]) (S1 := S17) (nL := 5) (cd := cd_2003) mx_2003 rfl rfl 1 rfl ?_
          refine RR.weak [(0, .ref v0), (1, .int v1), (3, .int v3)] ⟨rfl, rfl, rfl, trivial⟩ ?_
          exact s_o_to_nearOnes_83 _ (fun _ _ _ _ S h => ih _ _ _ _ S h) _ _ _ _ _ _ h
        · refine RR.c_eq (fun q => absurd q c) (fun _ => ?_)
          refine RR.runs (pc' := 83) (lc' := [(4, .int r16), (0, .ref v0), (1, .int v1), (2, .int v2), (3, .int v3)]) (st' := [.int (((1 : Int32) <<< (v3 &&& 31))), .int v2]) (S1 := S17) (nL := 5) (cd := cd_2003) mx_2003 rfl rfl 4 rfl ?_
          refine RR.weak [(0, .ref v0), (1, .int v1), (3, .int v3)] ⟨rfl, rfl, rfl, trivial⟩ ?_
          exact s_o_to_nearOnes_83 _ (fun _ _ _ _ S h => ih _ _ _ _ S h) _ _ _ _ _ _ h
      · refine RR.c_ge (fun q => absurd q c) (fun _ => ?_)
        refine RR.weak [(2, .int v2)] ⟨rfl, trivial⟩ ?_
        exact s_o_to_nearOnes_91 _ _ h
    · refine RR.c_ge (fun q => absurd q c) (fun _ => ?_)
      refine RR.weak [(2, .int v2)] ⟨rfl, trivial⟩ ?_
      exact s_o_to_nearOnes_91 _ _ h
def o_to_nearOnes (v0 : Nat) (v1 : Int32) (S : St) : Re Int32 :=
  o_to_nearOnes_4 FU v0 v1 (0 : Int32) (0 : Int32) S
set_option maxRecDepth 100000 in
theorem s0_o_to_nearOnes {d : Nat} {S' : St} {r : Int32} (v0 : Nat) (v1 : Int32) (S : St) (h : o_to_nearOnes v0 v1 S = some (r, S')) : RR KO (d + 3) 2003 0 [(0, .ref v0), (1, .int v1)] [] S (some (.int r)) S' := by
  unfold o_to_nearOnes at h
  refine RR.runs (pc' := 4) (lc' := [(3, .int (0 : Int32)), (2, .int (0 : Int32)), (0, .ref v0), (1, .int v1)]) (st' := []) (S1 := S) (nL := 5) (cd := cd_2003) mx_2003 rfl rfl 4 rfl ?_
  refine RR.weak [(0, .ref v0), (1, .int v1), (2, .int (0 : Int32)), (3, .int (0 : Int32))] ⟨rfl, rfl, rfl, rfl, trivial⟩ ?_
  exact s_o_to_nearOnes_4 _ _ _ _ _ _ h
theorem s_o_to_nearOnes {d : Nat} {S' : St} {r : Int32} (v0 : Nat) (v1 : Int32) (S : St) (h : o_to_nearOnes v0 v1 S = some (r, S')) : RC KO (d + 3) 2003 [.ref v0, .int v1] S (some (.int r)) S' := RC.of rfl (s0_o_to_nearOnes v0 v1 S h)
-- NameOrchard$Told having (II)I
def o_to_having_40 (k5 : Nat → Int32 → Int32 → Int32 → Int32 → St → Re Int32) (v0 : Nat) (v1 : Int32) (v2 : Int32) (v4 : Int32) (p0 : Int32) (p1 : Int32) (S : St) : Re Int32 :=
  lt' ((p1 ||| p0) : Int32) fun x1 =>
  lt' ((v4 + (1 : Int32)) : Int32) fun x2 =>
  k5 v0 v1 v2 x1 x2 S
set_option maxRecDepth 100000 in
theorem s_o_to_having_40 {d : Nat} (k5 : Nat → Int32 → Int32 → Int32 → Int32 → St → Re Int32) {S' : St} {r : Int32} (b5 : ∀ (v0 : Nat) (v1 : Int32) (v2 : Int32) (v3 : Int32) (v4 : Int32) (S : St), k5 v0 v1 v2 v3 v4 S = some (r, S') → RR KO (d + 2) 2004 5 [(0, .ref v0), (1, .int v1), (2, .int v2), (3, .int v3), (4, .int v4)] [] S (some (.int r)) S') (v0 : Nat) (v1 : Int32) (v2 : Int32) (v4 : Int32) (p0 : Int32) (p1 : Int32) (S : St) (h : o_to_having_40 k5 v0 v1 v2 v4 p0 p1 S = some (r, S')) : RR KO (d + 2) 2004 40 [(0, .ref v0), (1, .int v1), (2, .int v2), (4, .int v4)] [.int p0, .int p1] S (some (.int r)) S' := by
  unfold o_to_having_40 at h
  refine RR.runs (pc' := 42) (lc' := [(3, .int (p1 ||| p0)), (0, .ref v0), (1, .int v1), (2, .int v2), (4, .int v4)]) (st' := []) (S1 := S) (nL := 5) (cd := cd_2004) mx_2004 rfl rfl 2 rfl ?_
  obtain ⟨x1, ex1, h⟩ := ltE h
  rw [← ex1]
  refine RR.runs (pc' := 45) (lc' := [(4, .int ((v4 + (1 : Int32)))), (3, .int x1), (0, .ref v0), (1, .int v1), (2, .int v2)]) (st' := []) (S1 := S) (nL := 5) (cd := cd_2004) mx_2004 rfl rfl 1 rfl ?_
  obtain ⟨x2, ex2, h⟩ := ltE h
  rw [← ex2]
  refine RR.runs (pc' := 5) (lc' := [(4, .int x2), (3, .int x1), (0, .ref v0), (1, .int v1), (2, .int v2)]) (st' := []) (S1 := S) (nL := 5) (cd := cd_2004) mx_2004 rfl rfl 1 rfl ?_
  refine RR.weak [(0, .ref v0), (1, .int v1), (2, .int v2), (3, .int x1), (4, .int x2)] ⟨rfl, rfl, rfl, rfl, rfl, trivial⟩ ?_
  exact b5 _ _ _ _ _ _ h
def o_to_having_48 (v3 : Int32) (S : St) : Re Int32 :=
  some (v3, S)
set_option maxRecDepth 100000 in
theorem s_o_to_having_48 {d : Nat} {S' : St} {r : Int32} (v3 : Int32) (S : St) (h : o_to_having_48 v3 S = some (r, S')) : RR KO (d + 2) 2004 48 [(3, .int v3)] [] S (some (.int r)) S' := by
  unfold o_to_having_48 at h
  refine RR.runs (pc' := 49) (lc' := [(3, .int v3)]) (st' := [.int v3]) (S1 := S) (nL := 5) (cd := cd_2004) mx_2004 rfl rfl 1 rfl ?_
  cases h
  exact RR.reti mx_2004 rfl rfl rfl
def o_to_having_5 : Nat → Nat → Int32 → Int32 → Int32 → Int32 → St → Re Int32
  | 0, _, _, _, _, _, _ => none
  | n + 1, v0, v1, v2, v3, v4, S =>
  if KO.1 v0 = (0, 10) then (
  if KO.1 (v0 + 80) = (0, 7) then (
bn (o_tb_size (v0 + 80) S) fun r3 S4 =>
  if v4 < r3 then (
        bn (o_tb_at (v0 + 80) v4 v1 S4) fun r5 S6 =>
    if r5 = v2 then (
      o_to_having_40 (o_to_having_5 n) v0 v1 v2 v4 (((1 : Int32) <<< (v4 &&& 31))) v3 S6)
    else (
      o_to_having_40 (o_to_having_5 n) v0 v1 v2 v4 (0 : Int32) v3 S6))
  else (
    o_to_having_48 v3 S4)) else none) else none
set_option maxRecDepth 100000 in
theorem s_o_to_having_5 {d : Nat} {S' : St} {r : Int32} : ∀ (n : Nat) (v0 : Nat) (v1 : Int32) (v2 : Int32) (v3 : Int32) (v4 : Int32) (S : St), o_to_having_5 n v0 v1 v2 v3 v4 S = some (r, S') → RR KO (d + 2) 2004 5 [(0, .ref v0), (1, .int v1), (2, .int v2), (3, .int v3), (4, .int v4)] [] S (some (.int r)) S' := by
  intro n
  induction n with
  | zero => intro v0 v1 v2 v3 v4 S h; simp only [o_to_having_5] at h; cases h
  | succ n ih =>
    intro v0 v1 v2 v3 v4 S h
    simp only [o_to_having_5] at h
    refine RR.runs (pc' := 8) (lc' := [(0, .ref v0), (1, .int v1), (2, .int v2), (3, .int v3), (4, .int v4)]) (st' := [.ref v0, .int v4]) (S1 := S) (nL := 5) (cd := cd_2004) mx_2004 rfl rfl 2 rfl ?_
    obtain ⟨g1, h⟩ := gpE h
    refine RR.gPo (pc' := 11) (lc' := [(0, .ref v0), (1, .int v1), (2, .int v2), (3, .int v3), (4, .int v4)]) (st' := [.ref (v0 + 80), .int v4]) (S1 := S) (nL := 5) (cd := cd_2004) mx_2004 rfl rfl rfl ⟨g1, by decide, by decide⟩ ?_
    obtain ⟨g2, h⟩ := gpE h
    obtain ⟨r3, S4, h1, h⟩ := bnE h
    refine RR.callV (b := (v0 + 80)) (as := []) (rest := [.int v4]) (r1 := (some (.int r3))) (S1 := S4) mx_2004 rfl rfl mx_1402 rfl rfl (by decide) (Or.inl g2) (Nat.le_of_ble_eq_true rfl) (Nat.le_of_ble_eq_true rfl) (RC.deep (by omega) (s_o_tb_size (d := d) _ _ h1)) ?_
    show RR KO _ 2004 14 [(0, .ref v0), (1, .int v1), (2, .int v2), (3, .int v3), (4, .int v4)] [.int r3, .int v4] S4 _ _
    refine RR.runs (pc' := icm .ge v4 r3 48 17) (lc' := [(0, .ref v0), (1, .int v1), (2, .int v2), (3, .int v3), (4, .int v4)]) (st' := []) (S1 := S4) (nL := 5) (cd := cd_2004) mx_2004 rfl rfl 1 rfl ?_
    rcases ifE h with ⟨c, h⟩ | ⟨c, h⟩
    · refine RR.c_ge (fun _ => ?_) (fun q => absurd c q)
      refine RR.runs (pc' := 19) (lc' := [(0, .ref v0), (1, .int v1), (2, .int v2), (3, .int v3), (4, .int v4)]) (st' := [.ref v0, .int v3]) (S1 := S4) (nL := 5) (cd := cd_2004) mx_2004 rfl rfl 2 rfl ?_
      refine RR.gPo (pc' := 22) (lc' := [(0, .ref v0), (1, .int v1), (2, .int v2), (3, .int v3), (4, .int v4)]) (st' := [.ref (v0 + 80), .int v3]) (S1 := S4) (nL := 5) (cd := cd_2004) mx_2004 rfl rfl rfl ⟨g1, by decide, by decide⟩ ?_
      refine RR.runs (pc' := 25) (lc' := [(0, .ref v0), (1, .int v1), (2, .int v2), (3, .int v3), (4, .int v4)]) (st' := [.int v1, .int v4, .ref (v0 + 80), .int v3]) (S1 := S4) (nL := 5) (cd := cd_2004) mx_2004 rfl rfl 2 rfl ?_
      obtain ⟨r5, S6, h1, h⟩ := bnE h
      refine RR.callV (b := (v0 + 80)) (as := [.int v4, .int v1]) (rest := [.int v3]) (r1 := (some (.int r5))) (S1 := S6) mx_2004 rfl rfl mx_1405 rfl rfl (by decide) (Or.inl g2) (Nat.le_of_ble_eq_true rfl) (Nat.le_of_ble_eq_true rfl) (RC.deep (by omega) (s_o_tb_at (d := d) _ _ _ _ h1)) ?_
      show RR KO _ 2004 28 [(0, .ref v0), (1, .int v1), (2, .int v2), (3, .int v3), (4, .int v4)] [.int r5, .int v3] S6 _ _
      refine RR.runs (pc' := icm .ne r5 v2 39 32) (lc' := [(0, .ref v0), (1, .int v1), (2, .int v2), (3, .int v3), (4, .int v4)]) (st' := [.int v3]) (S1 := S6) (nL := 5) (cd := cd_2004) mx_2004 rfl rfl 2 rfl ?_
      rcases ifE h with ⟨c, h⟩ | ⟨c, h⟩
      · refine RR.c_ne (fun _ => ?_) (fun q => absurd c q)
        refine RR.runs (pc' := 40) (lc' := [(0, .ref v0), (1, .int v1), (2, .int v2), (3, .int v3), (4, .int v4)]) (st' := [.int (((1 : Int32) <<< (v4 &&& 31))), .int v3]) (S1 := S6) (nL := 5) (cd := cd_2004) mx_2004 rfl rfl 4 rfl ?_
        refine RR.weak [(0, .ref v0), (1, .int v1), (2, .int v2), (4, .int v4)] ⟨rfl, rfl, rfl, rfl, trivial⟩ ?_
        exact s_o_to_having_40 _ (fun _ _ _ _ _ S h => ih _ _ _ _ _ S h) _ _ _ _ _ _ _ h
      · refine RR.c_ne (fun q => absurd q c) (fun _ => ?_)
        refine RR.runs (pc' := 40) (lc' := [(0, .ref v0), (1, .int v1), (2, .int v2), (3, .int v3), (4, .int v4)]) (st' := [.int (0 : Int32), .int v3]) (S1 := S6) (nL := 5) (cd := cd_2004) mx_2004 rfl rfl 1 rfl ?_
        refine RR.weak [(0, .ref v0), (1, .int v1), (2, .int v2), (4, .int v4)] ⟨rfl, rfl, rfl, rfl, trivial⟩ ?_
        exact s_o_to_having_40 _ (fun _ _ _ _ _ S h => ih _ _ _ _ _ S h) _ _ _ _ _ _ _ h
    · refine RR.c_ge (fun q => absurd q c) (fun _ => ?_)
      refine RR.weak [(3, .int v3)] ⟨rfl, trivial⟩ ?_
      exact s_o_to_having_48 _ _ h
def o_to_having (v0 : Nat) (v1 : Int32) (v2 : Int32) (S : St) : Re Int32 :=
  o_to_having_5 FU v0 v1 v2 (0 : Int32) (0 : Int32) S
set_option maxRecDepth 100000 in
theorem s0_o_to_having {d : Nat} {S' : St} {r : Int32} (v0 : Nat) (v1 : Int32) (v2 : Int32) (S : St) (h : o_to_having v0 v1 v2 S = some (r, S')) : RR KO (d + 2) 2004 0 [(0, .ref v0), (1, .int v1), (2, .int v2)] [] S (some (.int r)) S' := by
  unfold o_to_having at h
  refine RR.runs (pc' := 5) (lc' := [(4, .int (0 : Int32)), (3, .int (0 : Int32)), (0, .ref v0), (1, .int v1), (2, .int v2)]) (st' := []) (S1 := S) (nL := 5) (cd := cd_2004) mx_2004 rfl rfl 4 rfl ?_
  refine RR.weak [(0, .ref v0), (1, .int v1), (2, .int v2), (3, .int (0 : Int32)), (4, .int (0 : Int32))] ⟨rfl, rfl, rfl, rfl, rfl, trivial⟩ ?_
  exact s_o_to_having_5 _ _ _ _ _ _ _ h
theorem s_o_to_having {d : Nat} {S' : St} {r : Int32} (v0 : Nat) (v1 : Int32) (v2 : Int32) (S : St) (h : o_to_having v0 v1 v2 S = some (r, S')) : RC KO (d + 2) 2004 [.ref v0, .int v1, .int v2] S (some (.int r)) S' := RC.of rfl (s0_o_to_having v0 v1 v2 S h)
-- NameOrchard$Told settle ()V
def o_to_settle_244 (S : St) : Re Unit :=
  some ((), S)
set_option maxRecDepth 100000 in
theorem s_o_to_settle_244 {d : Nat} {S' : St} {r : Unit} (S : St) (h : o_to_settle_244 S = some (r, S')) : RR KO (d + 4) 2002 244 [] [] S none S' := by
  unfold o_to_settle_244 at h
  cases h
  exact RR.retv mx_2002 rfl rfl rfl
def o_to_settle_216 : Nat → Nat → Int32 → St → Re Unit
  | 0, _, _, _ => none
  | n + 1, v0, v1, S =>
  if KO.1 v0 = (0, 10) then (
  if 1 ≤ (KO.1 (v0 + 42)).1 ∧ (KO.1 (v0 + 42)).1 < 8 then (
  if v1 < (Int32.ofNat (KO.1 (v0 + 42)).2) then (
        bn (o_to_having v0 (6 : Int32) v1 S) fun r2 S3 =>
    if (KO.1 (v0 + 42)).1 = 1 then (
    if v1 < 0 ∨ (KO.1 (v0 + 42)).2 ≤ v1.toNatClampNeg then none else
    lt' (wI S3 (v0 + 42) v1.toNatClampNeg r2) fun S4 =>
    lt' ((v1 + (1 : Int32)) : Int32) fun x5 =>
    o_to_settle_216 n v0 x5 S4) else none)
  else (
    o_to_settle_244 S)) else none) else none
set_option maxRecDepth 100000 in
theorem s_o_to_settle_216 {d : Nat} {S' : St} {r : Unit} : ∀ (n : Nat) (v0 : Nat) (v1 : Int32) (S : St), o_to_settle_216 n v0 v1 S = some (r, S') → RR KO (d + 4) 2002 216 [(0, .ref v0), (1, .int v1)] [] S none S' := by
  intro n
  induction n with
  | zero => intro v0 v1 S h; simp only [o_to_settle_216] at h; cases h
  | succ n ih =>
    intro v0 v1 S h
    simp only [o_to_settle_216] at h
    refine RR.runs (pc' := 218) (lc' := [(0, .ref v0), (1, .int v1)]) (st' := [.ref v0, .int v1]) (S1 := S) (nL := 2) (cd := cd_2002) mx_2002 rfl rfl 2 rfl ?_
    obtain ⟨g1, h⟩ := gpE h
    refine RR.gPo (pc' := 221) (lc' := [(0, .ref v0), (1, .int v1)]) (st' := [.ref (v0 + 42), .int v1]) (S1 := S) (nL := 2) (cd := cd_2002) mx_2002 rfl rfl rfl ⟨g1, by decide, by decide⟩ ?_
    obtain ⟨g, h⟩ := gpE h
    refine RR.gP (pc' := 222) (lc' := [(0, .ref v0), (1, .int v1)]) (st' := [.int ((Int32.ofNat (KO.1 (v0 + 42)).2)), .int v1]) (S1 := S) (nL := 2) (cd := cd_2002) mx_2002 rfl rfl rfl g ?_
    refine RR.runs (pc' := icm .ge v1 ((Int32.ofNat (KO.1 (v0 + 42)).2)) 244 225) (lc' := [(0, .ref v0), (1, .int v1)]) (st' := []) (S1 := S) (nL := 2) (cd := cd_2002) mx_2002 rfl rfl 1 rfl ?_
    rcases ifE h with ⟨c, h⟩ | ⟨c, h⟩
    · refine RR.c_ge (fun _ => ?_) (fun q => absurd c q)
      refine RR.runs (pc' := 226) (lc' := [(0, .ref v0), (1, .int v1)]) (st' := [.ref v0]) (S1 := S) (nL := 2) (cd := cd_2002) mx_2002 rfl rfl 1 rfl ?_
      refine RR.gPo (pc' := 229) (lc' := [(0, .ref v0), (1, .int v1)]) (st' := [.ref (v0 + 42)]) (S1 := S) (nL := 2) (cd := cd_2002) mx_2002 rfl rfl rfl ⟨g1, by decide, by decide⟩ ?_
      refine RR.runs (pc' := 234) (lc' := [(0, .ref v0), (1, .int v1)]) (st' := [.int v1, .int (6 : Int32), .ref v0, .int v1, .ref (v0 + 42)]) (S1 := S) (nL := 2) (cd := cd_2002) mx_2002 rfl rfl 4 rfl ?_
      obtain ⟨r2, S3, h1, h⟩ := bnE h
      refine RR.callV (b := v0) (as := [.int (6 : Int32), .int v1]) (rest := [.int v1, .ref (v0 + 42)]) (r1 := (some (.int r2))) (S1 := S3) mx_2002 rfl rfl mx_2004 rfl rfl (by decide) (Or.inl g1) (Nat.le_of_ble_eq_true rfl) (Nat.le_of_ble_eq_true rfl) (RC.deep (by omega) (s_o_to_having (d := d) _ _ _ _ h1)) ?_
      show RR KO _ 2002 237 [(0, .ref v0), (1, .int v1)] [.int r2, .int v1, .ref (v0 + 42)] S3 _ _
      obtain ⟨gq, h⟩ := gpE h
      obtain ⟨g, h⟩ := gnE h
      refine RR.gPNo (c2 := (KO.1 (v0 + 42)).1 = 1) (pc' := 238) (lc' := [(0, .ref v0), (1, .int v1)]) (st' := []) (S1 := (wI S3 (v0 + 42) v1.toNatClampNeg r2)) (nL := 2) (cd := cd_2002) mx_2002 rfl rfl rfl gq g ?_
      obtain ⟨S4, eS4, h⟩ := ltE h
      rw [← eS4]
      refine RR.runs (pc' := 241) (lc' := [(1, .int ((v1 + (1 : Int32)))), (0, .ref v0)]) (st' := []) (S1 := S4) (nL := 2) (cd := cd_2002) mx_2002 rfl rfl 1 rfl ?_
      obtain ⟨x5, ex5, h⟩ := ltE h
      rw [← ex5]
      refine RR.runs (pc' := 216) (lc' := [(1, .int x5), (0, .ref v0)]) (st' := []) (S1 := S4) (nL := 2) (cd := cd_2002) mx_2002 rfl rfl 1 rfl ?_
      refine RR.weak [(0, .ref v0), (1, .int x5)] ⟨rfl, rfl, trivial⟩ ?_
      exact ih _ _ _ h
    · refine RR.c_ge (fun q => absurd q c) (fun _ => ?_)
      refine RR.weak [] trivial ?_
      exact s_o_to_settle_244 _ h
def o_to_settle_214 (v0 : Nat) (S : St) : Re Unit :=
  o_to_settle_216 FU v0 (0 : Int32) S
set_option maxRecDepth 100000 in
theorem s_o_to_settle_214 {d : Nat} {S' : St} {r : Unit} (v0 : Nat) (S : St) (h : o_to_settle_214 v0 S = some (r, S')) : RR KO (d + 4) 2002 214 [(0, .ref v0)] [] S none S' := by
  unfold o_to_settle_214 at h
  refine RR.runs (pc' := 216) (lc' := [(1, .int (0 : Int32)), (0, .ref v0)]) (st' := []) (S1 := S) (nL := 2) (cd := cd_2002) mx_2002 rfl rfl 2 rfl ?_
  refine RR.weak [(0, .ref v0), (1, .int (0 : Int32))] ⟨rfl, rfl, trivial⟩ ?_
  exact s_o_to_settle_216 _ _ _ _ h
def o_to_settle_187 : Nat → Nat → Int32 → St → Re Unit
  | 0, _, _, _ => none
  | n + 1, v0, v1, S =>
  if KO.1 v0 = (0, 10) then (
  if 1 ≤ (KO.1 (v0 + 40)).1 ∧ (KO.1 (v0 + 40)).1 < 8 then (
  if v1 < (Int32.ofNat (KO.1 (v0 + 40)).2) then (
        bn (o_to_having v0 (2 : Int32) v1 S) fun r2 S3 =>
    if (KO.1 (v0 + 40)).1 = 1 then (
    if v1 < 0 ∨ (KO.1 (v0 + 40)).2 ≤ v1.toNatClampNeg then none else
    lt' (wI S3 (v0 + 40) v1.toNatClampNeg r2) fun S4 =>
    lt' ((v1 + (1 : Int32)) : Int32) fun x5 =>
    o_to_settle_187 n v0 x5 S4) else none)
  else (
    o_to_settle_214 v0 S)) else none) else none
set_option maxRecDepth 100000 in
theorem s_o_to_settle_187 {d : Nat} {S' : St} {r : Unit} : ∀ (n : Nat) (v0 : Nat) (v1 : Int32) (S : St), o_to_settle_187 n v0 v1 S = some (r, S') → RR KO (d + 4) 2002 187 [(0, .ref v0), (1, .int v1)] [] S none S' := by
  intro n
  induction n with
  | zero => intro v0 v1 S h; simp only [o_to_settle_187] at h; cases h
  | succ n ih =>
    intro v0 v1 S h
    simp only [o_to_settle_187] at h
    refine RR.runs (pc' := 189) (lc' := [(0, .ref v0), (1, .int v1)]) (st' := [.ref v0, .int v1]) (S1 := S) (nL := 2) (cd := cd_2002) mx_2002 rfl rfl 2 rfl ?_
    obtain ⟨g1, h⟩ := gpE h
    refine RR.gPo (pc' := 192) (lc' := [(0, .ref v0), (1, .int v1)]) (st' := [.ref (v0 + 40), .int v1]) (S1 := S) (nL := 2) (cd := cd_2002) mx_2002 rfl rfl rfl ⟨g1, by decide, by decide⟩ ?_
    obtain ⟨g, h⟩ := gpE h
    refine RR.gP (pc' := 193) (lc' := [(0, .ref v0), (1, .int v1)]) (st' := [.int ((Int32.ofNat (KO.1 (v0 + 40)).2)), .int v1]) (S1 := S) (nL := 2) (cd := cd_2002) mx_2002 rfl rfl rfl g ?_
    refine RR.runs (pc' := icm .ge v1 ((Int32.ofNat (KO.1 (v0 + 40)).2)) 214 196) (lc' := [(0, .ref v0), (1, .int v1)]) (st' := []) (S1 := S) (nL := 2) (cd := cd_2002) mx_2002 rfl rfl 1 rfl ?_
    rcases ifE h with ⟨c, h⟩ | ⟨c, h⟩
    · refine RR.c_ge (fun _ => ?_) (fun q => absurd c q)
      refine RR.runs (pc' := 197) (lc' := [(0, .ref v0), (1, .int v1)]) (st' := [.ref v0]) (S1 := S) (nL := 2) (cd := cd_2002) mx_2002 rfl rfl 1 rfl ?_
      refine RR.gPo (pc' := 200) (lc' := [(0, .ref v0), (1, .int v1)]) (st' := [.ref (v0 + 40)]) (S1 := S) (nL := 2) (cd := cd_2002) mx_2002 rfl rfl rfl ⟨g1, by decide, by decide⟩ ?_
      refine RR.runs (pc' := 204) (lc' := [(0, .ref v0), (1, .int v1)]) (st' := [.int v1, .int (2 : Int32), .ref v0, .int v1, .ref (v0 + 40)]) (S1 := S) (nL := 2) (cd := cd_2002) mx_2002 rfl rfl 4 rfl ?_
      obtain ⟨r2, S3, h1, h⟩ := bnE h
      refine RR.callV (b := v0) (as := [.int (2 : Int32), .int v1]) (rest := [.int v1, .ref (v0 + 40)]) (r1 := (some (.int r2))) (S1 := S3) mx_2002 rfl rfl mx_2004 rfl rfl (by decide) (Or.inl g1) (Nat.le_of_ble_eq_true rfl) (Nat.le_of_ble_eq_true rfl) (RC.deep (by omega) (s_o_to_having (d := d) _ _ _ _ h1)) ?_
      show RR KO _ 2002 207 [(0, .ref v0), (1, .int v1)] [.int r2, .int v1, .ref (v0 + 40)] S3 _ _
      obtain ⟨gq, h⟩ := gpE h
      obtain ⟨g, h⟩ := gnE h
      refine RR.gPNo (c2 := (KO.1 (v0 + 40)).1 = 1) (pc' := 208) (lc' := [(0, .ref v0), (1, .int v1)]) (st' := []) (S1 := (wI S3 (v0 + 40) v1.toNatClampNeg r2)) (nL := 2) (cd := cd_2002) mx_2002 rfl rfl rfl gq g ?_
      obtain ⟨S4, eS4, h⟩ := ltE h
      rw [← eS4]
      refine RR.runs (pc' := 211) (lc' := [(1, .int ((v1 + (1 : Int32)))), (0, .ref v0)]) (st' := []) (S1 := S4) (nL := 2) (cd := cd_2002) mx_2002 rfl rfl 1 rfl ?_
      obtain ⟨x5, ex5, h⟩ := ltE h
      rw [← ex5]
      refine RR.runs (pc' := 187) (lc' := [(1, .int x5), (0, .ref v0)]) (st' := []) (S1 := S4) (nL := 2) (cd := cd_2002) mx_2002 rfl rfl 1 rfl ?_
      refine RR.weak [(0, .ref v0), (1, .int x5)] ⟨rfl, rfl, trivial⟩ ?_
      exact ih _ _ _ h
    · refine RR.c_ge (fun q => absurd q c) (fun _ => ?_)
      refine RR.weak [(0, .ref v0)] ⟨rfl, trivial⟩ ?_
      exact s_o_to_settle_214 _ _ h
def o_to_settle_155 (v0 : Nat) (S : St) : Re Unit :=
  if KO.1 v0 = (0, 10) then (
bn (o_to_having v0 (0 : Int32) (1 : Int32) S) fun r2 S3 =>
  lt' (wI S3 v0 14 r2) fun S4 =>
  bn (o_to_having v0 (0 : Int32) (2 : Int32) S4) fun r5 S6 =>
  lt' (wI S6 v0 15 r5) fun S7 =>
  bn (o_to_having v0 (0 : Int32) (3 : Int32) S7) fun r8 S9 =>
  lt' (wI S9 v0 16 r8) fun S10 =>
  o_to_settle_187 FU v0 (0 : Int32) S10) else none
set_option maxRecDepth 100000 in
theorem s_o_to_settle_155 {d : Nat} {S' : St} {r : Unit} (v0 : Nat) (S : St) (h : o_to_settle_155 v0 S = some (r, S')) : RR KO (d + 4) 2002 155 [(0, .ref v0)] [] S none S' := by
  unfold o_to_settle_155 at h
  refine RR.runs (pc' := 159) (lc' := [(0, .ref v0)]) (st' := [.int (1 : Int32), .int (0 : Int32), .ref v0, .ref v0]) (S1 := S) (nL := 2) (cd := cd_2002) mx_2002 rfl rfl 4 rfl ?_
  obtain ⟨g1, h⟩ := gpE h
  obtain ⟨r2, S3, h1, h⟩ := bnE h
  refine RR.callV (b := v0) (as := [.int (0 : Int32), .int (1 : Int32)]) (rest := [.ref v0]) (r1 := (some (.int r2))) (S1 := S3) mx_2002 rfl rfl mx_2004 rfl rfl (by decide) (Or.inl g1) (Nat.le_of_ble_eq_true rfl) (Nat.le_of_ble_eq_true rfl) (RC.deep (by omega) (s_o_to_having (d := d) _ _ _ _ h1)) ?_
  show RR KO _ 2002 162 [(0, .ref v0)] [.int r2, .ref v0] S3 _ _
  refine RR.gP (pc' := 165) (lc' := [(0, .ref v0)]) (st' := []) (S1 := (wI S3 v0 14 r2)) (nL := 2) (cd := cd_2002) mx_2002 rfl rfl rfl ⟨g1, by decide, rfl, by decide⟩ ?_
  obtain ⟨S4, eS4, h⟩ := ltE h
  rw [← eS4]
  refine RR.runs (pc' := 169) (lc' := [(0, .ref v0)]) (st' := [.int (2 : Int32), .int (0 : Int32), .ref v0, .ref v0]) (S1 := S4) (nL := 2) (cd := cd_2002) mx_2002 rfl rfl 4 rfl ?_
  obtain ⟨r5, S6, h1, h⟩ := bnE h
  refine RR.callV (b := v0) (as := [.int (0 : Int32), .int (2 : Int32)]) (rest := [.ref v0]) (r1 := (some (.int r5))) (S1 := S6) mx_2002 rfl rfl mx_2004 rfl rfl (by decide) (Or.inl g1) (Nat.le_of_ble_eq_true rfl) (Nat.le_of_ble_eq_true rfl) (RC.deep (by omega) (s_o_to_having (d := d) _ _ _ _ h1)) ?_
  show RR KO _ 2002 172 [(0, .ref v0)] [.int r5, .ref v0] S6 _ _
  refine RR.gP (pc' := 175) (lc' := [(0, .ref v0)]) (st' := []) (S1 := (wI S6 v0 15 r5)) (nL := 2) (cd := cd_2002) mx_2002 rfl rfl rfl ⟨g1, by decide, rfl, by decide⟩ ?_
  obtain ⟨S7, eS7, h⟩ := ltE h
  rw [← eS7]
  refine RR.runs (pc' := 179) (lc' := [(0, .ref v0)]) (st' := [.int (3 : Int32), .int (0 : Int32), .ref v0, .ref v0]) (S1 := S7) (nL := 2) (cd := cd_2002) mx_2002 rfl rfl 4 rfl ?_
  obtain ⟨r8, S9, h1, h⟩ := bnE h
  refine RR.callV (b := v0) (as := [.int (0 : Int32), .int (3 : Int32)]) (rest := [.ref v0]) (r1 := (some (.int r8))) (S1 := S9) mx_2002 rfl rfl mx_2004 rfl rfl (by decide) (Or.inl g1) (Nat.le_of_ble_eq_true rfl) (Nat.le_of_ble_eq_true rfl) (RC.deep (by omega) (s_o_to_having (d := d) _ _ _ _ h1)) ?_
  show RR KO _ 2002 182 [(0, .ref v0)] [.int r8, .ref v0] S9 _ _
  refine RR.gP (pc' := 185) (lc' := [(0, .ref v0)]) (st' := []) (S1 := (wI S9 v0 16 r8)) (nL := 2) (cd := cd_2002) mx_2002 rfl rfl rfl ⟨g1, by decide, rfl, by decide⟩ ?_
  obtain ⟨S10, eS10, h⟩ := ltE h
  rw [← eS10]
  refine RR.runs (pc' := 187) (lc' := [(1, .int (0 : Int32)), (0, .ref v0)]) (st' := []) (S1 := S10) (nL := 2) (cd := cd_2002) mx_2002 rfl rfl 2 rfl ?_
  refine RR.weak [(0, .ref v0), (1, .int (0 : Int32))] ⟨rfl, rfl, trivial⟩ ?_
  exact s_o_to_settle_187 _ _ _ _ h
def o_to_settle_129 : Nat → Nat → Int32 → St → Re Unit
  | 0, _, _, _ => none
  | n + 1, v0, v1, S =>
  if KO.1 v0 = (0, 10) then (
  if 1 ≤ (KO.1 (v0 + 38)).1 ∧ (KO.1 (v0 + 38)).1 < 8 then (
  if v1 < (Int32.ofNat (KO.1 (v0 + 38)).2) then (
        bn (o_to_nearOnes v0 v1 S) fun r2 S3 =>
    if (KO.1 (v0 + 38)).1 = 1 then (
    if v1 < 0 ∨ (KO.1 (v0 + 38)).2 ≤ v1.toNatClampNeg then none else
    lt' (wI S3 (v0 + 38) v1.toNatClampNeg r2) fun S4 =>
    lt' ((v1 + (1 : Int32)) : Int32) fun x5 =>
    o_to_settle_129 n v0 x5 S4) else none)
  else (
    o_to_settle_155 v0 S)) else none) else none
set_option maxRecDepth 100000 in
theorem s_o_to_settle_129 {d : Nat} {S' : St} {r : Unit} : ∀ (n : Nat) (v0 : Nat) (v1 : Int32) (S : St), o_to_settle_129 n v0 v1 S = some (r, S') → RR KO (d + 4) 2002 129 [(0, .ref v0), (1, .int v1)] [] S none S' := by
  intro n
  induction n with
  | zero => intro v0 v1 S h; simp only [o_to_settle_129] at h; cases h
  | succ n ih =>
    intro v0 v1 S h
    simp only [o_to_settle_129] at h
    refine RR.runs (pc' := 131) (lc' := [(0, .ref v0), (1, .int v1)]) (st' := [.ref v0, .int v1]) (S1 := S) (nL := 2) (cd := cd_2002) mx_2002 rfl rfl 2 rfl ?_
    obtain ⟨g1, h⟩ := gpE h
    refine RR.gPo (pc' := 134) (lc' := [(0, .ref v0), (1, .int v1)]) (st' := [.ref (v0 + 38), .int v1]) (S1 := S) (nL := 2) (cd := cd_2002) mx_2002 rfl rfl rfl ⟨g1, by decide, by decide⟩ ?_
    obtain ⟨g, h⟩ := gpE h
    refine RR.gP (pc' := 135) (lc' := [(0, .ref v0), (1, .int v1)]) (st' := [.int ((Int32.ofNat (KO.1 (v0 + 38)).2)), .int v1]) (S1 := S) (nL := 2) (cd := cd_2002) mx_2002 rfl rfl rfl g ?_
    refine RR.runs (pc' := icm .ge v1 ((Int32.ofNat (KO.1 (v0 + 38)).2)) 155 138) (lc' := [(0, .ref v0), (1, .int v1)]) (st' := []) (S1 := S) (nL := 2) (cd := cd_2002) mx_2002 rfl rfl 1 rfl ?_
    rcases ifE h with ⟨c, h⟩ | ⟨c, h⟩
    · refine RR.c_ge (fun _ => ?_) (fun q => absurd c q)
      refine RR.runs (pc' := 139) (lc' := [(0, .ref v0), (1, .int v1)]) (st' := [.ref v0]) (S1 := S) (nL := 2) (cd := cd_2002) mx_2002 rfl rfl 1 rfl ?_
      refine RR.gPo (pc' := 142) (lc' := [(0, .ref v0), (1, .int v1)]) (st' := [.ref (v0 + 38)]) (S1 := S) (nL := 2) (cd := cd_2002) mx_2002 rfl rfl rfl ⟨g1, by decide, by decide⟩ ?_
      refine RR.runs (pc' := 145) (lc' := [(0, .ref v0), (1, .int v1)]) (st' := [.int v1, .ref v0, .int v1, .ref (v0 + 38)]) (S1 := S) (nL := 2) (cd := cd_2002) mx_2002 rfl rfl 3 rfl ?_
      obtain ⟨r2, S3, h1, h⟩ := bnE h
      refine RR.callV (b := v0) (as := [.int v1]) (rest := [.int v1, .ref (v0 + 38)]) (r1 := (some (.int r2))) (S1 := S3) mx_2002 rfl rfl mx_2003 rfl rfl (by decide) (Or.inl g1) (Nat.le_of_ble_eq_true rfl) (Nat.le_of_ble_eq_true rfl) (RC.deep (by omega) (s_o_to_nearOnes (d := d) _ _ _ h1)) ?_
      show RR KO _ 2002 148 [(0, .ref v0), (1, .int v1)] [.int r2, .int v1, .ref (v0 + 38)] S3 _ _
      obtain ⟨gq, h⟩ := gpE h
      obtain ⟨g, h⟩ := gnE h
      refine RR.gPNo (c2 := (KO.1 (v0 + 38)).1 = 1) (pc' := 149) (lc' := [(0, .ref v0), (1, .int v1)]) (st' := []) (S1 := (wI S3 (v0 + 38) v1.toNatClampNeg r2)) (nL := 2) (cd := cd_2002) mx_2002 rfl rfl rfl gq g ?_
      obtain ⟨S4, eS4, h⟩ := ltE h
      rw [← eS4]
      refine RR.runs (pc' := 152) (lc' := [(1, .int ((v1 + (1 : Int32)))), (0, .ref v0)]) (st' := []) (S1 := S4) (nL := 2) (cd := cd_2002) mx_2002 rfl rfl 1 rfl ?_
      obtain ⟨x5, ex5, h⟩ := ltE h
      rw [← ex5]
      refine RR.runs (pc' := 129) (lc' := [(1, .int x5), (0, .ref v0)]) (st' := []) (S1 := S4) (nL := 2) (cd := cd_2002) mx_2002 rfl rfl 1 rfl ?_
      refine RR.weak [(0, .ref v0), (1, .int x5)] ⟨rfl, rfl, trivial⟩ ?_
      exact ih _ _ _ h
    · refine RR.c_ge (fun q => absurd q c) (fun _ => ?_)
      refine RR.weak [(0, .ref v0)] ⟨rfl, trivial⟩ ?_
      exact s_o_to_settle_155 _ _ h
def o_to_settle_127 (v0 : Nat) (S : St) : Re Unit :=
  o_to_settle_129 FU v0 (0 : Int32) S
set_option maxRecDepth 100000 in
theorem s_o_to_settle_127 {d : Nat} {S' : St} {r : Unit} (v0 : Nat) (S : St) (h : o_to_settle_127 v0 S = some (r, S')) : RR KO (d + 4) 2002 127 [(0, .ref v0)] [] S none S' := by
  unfold o_to_settle_127 at h
  refine RR.runs (pc' := 129) (lc' := [(1, .int (0 : Int32)), (0, .ref v0)]) (st' := []) (S1 := S) (nL := 2) (cd := cd_2002) mx_2002 rfl rfl 2 rfl ?_
  refine RR.weak [(0, .ref v0), (1, .int (0 : Int32))] ⟨rfl, rfl, trivial⟩ ?_
  exact s_o_to_settle_129 _ _ _ _ h
def o_to_settle_47 (v0 : Nat) (S : St) : Re Unit :=
  if KO.1 v0 = (0, 10) then (
  if (rI S v0 13) = 0 then (
        if KO.1 (v0 + 16) = (0, 1) then (
bn (o_fo_clear (v0 + 16) S) fun r3 S4 =>
        bn (o_fo_add (v0 + 16) 1040 (0 : Int32) S4) fun r5 S6 =>
        bn (o_fo_add (v0 + 16) 1041 (0 : Int32) S6) fun r7 S8 =>
        bn (o_fo_add (v0 + 16) 1002 (0 : Int32) S8) fun r9 S10 =>
        bn (o_fo_add (v0 + 16) 1010 (0 : Int32) S10) fun r11 S12 =>
        bn (o_fo_add (v0 + 16) 1007 (0 : Int32) S12) fun r13 S14 =>
        bn (o_fo_add (v0 + 16) 1014 (0 : Int32) S14) fun r15 S16 =>
    o_to_settle_127 v0 S16) else none)
  else (
    o_to_settle_127 v0 S)) else none
set_option maxRecDepth 100000 in
theorem s_o_to_settle_47 {d : Nat} {S' : St} {r : Unit} (v0 : Nat) (S : St) (h : o_to_settle_47 v0 S = some (r, S')) : RR KO (d + 4) 2002 47 [(0, .ref v0)] [] S none S' := by
  unfold o_to_settle_47 at h
  refine RR.runs (pc' := 48) (lc' := [(0, .ref v0)]) (st' := [.ref v0]) (S1 := S) (nL := 2) (cd := cd_2002) mx_2002 rfl rfl 1 rfl ?_
  obtain ⟨g1, h⟩ := gpE h
  refine RR.gPo (pc' := 51) (lc' := [(0, .ref v0)]) (st' := [.int (rI S v0 13)]) (S1 := S) (nL := 2) (cd := cd_2002) mx_2002 rfl rfl rfl ⟨g1, by decide, by decide⟩ ?_
  refine RR.runs (pc' := icm .ne (rI S v0 13) 0 127 54) (lc' := [(0, .ref v0)]) (st' := []) (S1 := S) (nL := 2) (cd := cd_2002) mx_2002 rfl rfl 1 rfl ?_
  rcases ifE h with ⟨c, h⟩ | ⟨c, h⟩
  · refine RR.c_ne (fun _ => ?_) (fun q => absurd c q)
    refine RR.runs (pc' := 55) (lc' := [(0, .ref v0)]) (st' := [.ref v0]) (S1 := S) (nL := 2) (cd := cd_2002) mx_2002 rfl rfl 1 rfl ?_
    refine RR.gPo (pc' := 58) (lc' := [(0, .ref v0)]) (st' := [.ref (v0 + 16)]) (S1 := S) (nL := 2) (cd := cd_2002) mx_2002 rfl rfl rfl ⟨g1, by decide, by decide⟩ ?_
    obtain ⟨g2, h⟩ := gpE h
    obtain ⟨r3, S4, h1, h⟩ := bnE h
    refine RR.callV (b := (v0 + 16)) (as := []) (rest := []) (r1 := none) (S1 := S4) mx_2002 rfl rfl mx_201 rfl rfl (by decide) (Or.inl g2) (Nat.le_of_ble_eq_true rfl) (Nat.le_of_ble_eq_true rfl) (RC.deep (by omega) (s_o_fo_clear (d := d) _ _ h1)) ?_
    show RR KO _ 2002 61 [(0, .ref v0)] [] S4 _ _
    refine RR.runs (pc' := 62) (lc' := [(0, .ref v0)]) (st' := [.ref v0]) (S1 := S4) (nL := 2) (cd := cd_2002) mx_2002 rfl rfl 1 rfl ?_
    refine RR.gPo (pc' := 65) (lc' := [(0, .ref v0)]) (st' := [.ref (v0 + 16)]) (S1 := S4) (nL := 2) (cd := cd_2002) mx_2002 rfl rfl rfl ⟨g1, by decide, by decide⟩ ?_
    refine RR.runs (pc' := 69) (lc' := [(0, .ref v0)]) (st' := [.int (0 : Int32), .ref 1040, .ref (v0 + 16)]) (S1 := S4) (nL := 2) (cd := cd_2002) mx_2002 rfl rfl 2 rfl ?_
    obtain ⟨r5, S6, h1, h⟩ := bnE h
    refine RR.callV (b := (v0 + 16)) (as := [.ref 1040, .int (0 : Int32)]) (rest := []) (r1 := none) (S1 := S6) mx_2002 rfl rfl mx_202 rfl rfl (by decide) (Or.inl g2) (Nat.le_of_ble_eq_true rfl) (Nat.le_of_ble_eq_true rfl) (RC.deep (by omega) (s_o_fo_add (d := d) _ _ _ _ h1)) ?_
    show RR KO _ 2002 72 [(0, .ref v0)] [] S6 _ _
    refine RR.runs (pc' := 73) (lc' := [(0, .ref v0)]) (st' := [.ref v0]) (S1 := S6) (nL := 2) (cd := cd_2002) mx_2002 rfl rfl 1 rfl ?_
    refine RR.gPo (pc' := 76) (lc' := [(0, .ref v0)]) (st' := [.ref (v0 + 16)]) (S1 := S6) (nL := 2) (cd := cd_2002) mx_2002 rfl rfl rfl ⟨g1, by decide, by decide⟩ ?_
    refine RR.runs (pc' := 80) (lc' := [(0, .ref v0)]) (st' := [.int (0 : Int32), .ref 1041, .ref (v0 + 16)]) (S1 := S6) (nL := 2) (cd := cd_2002) mx_2002 rfl rfl 2 rfl ?_
    obtain ⟨r7, S8, h1, h⟩ := bnE h
    refine RR.callV (b := (v0 + 16)) (as := [.ref 1041, .int (0 : Int32)]) (rest := []) (r1 := none) (S1 := S8) mx_2002 rfl rfl mx_202 rfl rfl (by decide) (Or.inl g2) (Nat.le_of_ble_eq_true rfl) (Nat.le_of_ble_eq_true rfl) (RC.deep (by omega) (s_o_fo_add (d := d) _ _ _ _ h1)) ?_
    show RR KO _ 2002 83 [(0, .ref v0)] [] S8 _ _
    refine RR.runs (pc' := 84) (lc' := [(0, .ref v0)]) (st' := [.ref v0]) (S1 := S8) (nL := 2) (cd := cd_2002) mx_2002 rfl rfl 1 rfl ?_
    refine RR.gPo (pc' := 87) (lc' := [(0, .ref v0)]) (st' := [.ref (v0 + 16)]) (S1 := S8) (nL := 2) (cd := cd_2002) mx_2002 rfl rfl rfl ⟨g1, by decide, by decide⟩ ?_
    refine RR.runs (pc' := 91) (lc' := [(0, .ref v0)]) (st' := [.int (0 : Int32), .ref 1002, .ref (v0 + 16)]) (S1 := S8) (nL := 2) (cd := cd_2002) mx_2002 rfl rfl 2 rfl ?_
    obtain ⟨r9, S10, h1, h⟩ := bnE h
    refine RR.callV (b := (v0 + 16)) (as := [.ref 1002, .int (0 : Int32)]) (rest := []) (r1 := none) (S1 := S10) mx_2002 rfl rfl mx_202 rfl rfl (by decide) (Or.inl g2) (Nat.le_of_ble_eq_true rfl) (Nat.le_of_ble_eq_true rfl) (RC.deep (by omega) (s_o_fo_add (d := d) _ _ _ _ h1)) ?_
    show RR KO _ 2002 94 [(0, .ref v0)] [] S10 _ _
    refine RR.runs (pc' := 95) (lc' := [(0, .ref v0)]) (st' := [.ref v0]) (S1 := S10) (nL := 2) (cd := cd_2002) mx_2002 rfl rfl 1 rfl ?_
    refine RR.gPo (pc' := 98) (lc' := [(0, .ref v0)]) (st' := [.ref (v0 + 16)]) (S1 := S10) (nL := 2) (cd := cd_2002) mx_2002 rfl rfl rfl ⟨g1, by decide, by decide⟩ ?_
    refine RR.runs (pc' := 102) (lc' := [(0, .ref v0)]) (st' := [.int (0 : Int32), .ref 1010, .ref (v0 + 16)]) (S1 := S10) (nL := 2) (cd := cd_2002) mx_2002 rfl rfl 2 rfl ?_
    obtain ⟨r11, S12, h1, h⟩ := bnE h
    refine RR.callV (b := (v0 + 16)) (as := [.ref 1010, .int (0 : Int32)]) (rest := []) (r1 := none) (S1 := S12) mx_2002 rfl rfl mx_202 rfl rfl (by decide) (Or.inl g2) (Nat.le_of_ble_eq_true rfl) (Nat.le_of_ble_eq_true rfl) (RC.deep (by omega) (s_o_fo_add (d := d) _ _ _ _ h1)) ?_
    show RR KO _ 2002 105 [(0, .ref v0)] [] S12 _ _
    refine RR.runs (pc' := 106) (lc' := [(0, .ref v0)]) (st' := [.ref v0]) (S1 := S12) (nL := 2) (cd := cd_2002) mx_2002 rfl rfl 1 rfl ?_
    refine RR.gPo (pc' := 109) (lc' := [(0, .ref v0)]) (st' := [.ref (v0 + 16)]) (S1 := S12) (nL := 2) (cd := cd_2002) mx_2002 rfl rfl rfl ⟨g1, by decide, by decide⟩ ?_
    refine RR.runs (pc' := 113) (lc' := [(0, .ref v0)]) (st' := [.int (0 : Int32), .ref 1007, .ref (v0 + 16)]) (S1 := S12) (nL := 2) (cd := cd_2002) mx_2002 rfl rfl 2 rfl ?_
    obtain ⟨r13, S14, h1, h⟩ := bnE h
    refine RR.callV (b := (v0 + 16)) (as := [.ref 1007, .int (0 : Int32)]) (rest := []) (r1 := none) (S1 := S14) mx_2002 rfl rfl mx_202 rfl rfl (by decide) (Or.inl g2) (Nat.le_of_ble_eq_true rfl) (Nat.le_of_ble_eq_true rfl) (RC.deep (by omega) (s_o_fo_add (d := d) _ _ _ _ h1)) ?_
    show RR KO _ 2002 116 [(0, .ref v0)] [] S14 _ _
    refine RR.runs (pc' := 117) (lc' := [(0, .ref v0)]) (st' := [.ref v0]) (S1 := S14) (nL := 2) (cd := cd_2002) mx_2002 rfl rfl 1 rfl ?_
    refine RR.gPo (pc' := 120) (lc' := [(0, .ref v0)]) (st' := [.ref (v0 + 16)]) (S1 := S14) (nL := 2) (cd := cd_2002) mx_2002 rfl rfl rfl ⟨g1, by decide, by decide⟩ ?_
    refine RR.runs (pc' := 124) (lc' := [(0, .ref v0)]) (st' := [.int (0 : Int32), .ref 1014, .ref (v0 + 16)]) (S1 := S14) (nL := 2) (cd := cd_2002) mx_2002 rfl rfl 2 rfl ?_
    obtain ⟨r15, S16, h1, h⟩ := bnE h
    refine RR.callV (b := (v0 + 16)) (as := [.ref 1014, .int (0 : Int32)]) (rest := []) (r1 := none) (S1 := S16) mx_2002 rfl rfl mx_202 rfl rfl (by decide) (Or.inl g2) (Nat.le_of_ble_eq_true rfl) (Nat.le_of_ble_eq_true rfl) (RC.deep (by omega) (s_o_fo_add (d := d) _ _ _ _ h1)) ?_
    show RR KO _ 2002 127 [(0, .ref v0)] [] S16 _ _
    refine RR.weak [(0, .ref v0)] ⟨rfl, trivial⟩ ?_
    exact s_o_to_settle_127 _ _ h
  · refine RR.c_ne (fun q => absurd q c) (fun _ => ?_)
    refine RR.weak [(0, .ref v0)] ⟨rfl, trivial⟩ ?_
    exact s_o_to_settle_127 _ _ h
def o_to_settle (v0 : Nat) (S : St) : Re Unit :=
  if KO.1 v0 = (0, 10) then (
  if (rI S v0 12) = 0 then (
        if KO.1 (v0 + 14) = (0, 1) then (
bn (o_fo_clear (v0 + 14) S) fun r3 S4 =>
        bn (o_fo_add (v0 + 14) 1036 (0 : Int32) S4) fun r5 S6 =>
        bn (o_fo_add (v0 + 14) 1002 (0 : Int32) S6) fun r7 S8 =>
        bn (o_fo_add (v0 + 14) 1011 (0 : Int32) S8) fun r9 S10 =>
    o_to_settle_47 v0 S10) else none)
  else (
    o_to_settle_47 v0 S)) else none
set_option maxRecDepth 100000 in
theorem s0_o_to_settle {d : Nat} {S' : St} {r : Unit} (v0 : Nat) (S : St) (h : o_to_settle v0 S = some (r, S')) : RR KO (d + 4) 2002 0 [(0, .ref v0)] [] S none S' := by
  unfold o_to_settle at h
  refine RR.runs (pc' := 1) (lc' := [(0, .ref v0)]) (st' := [.ref v0]) (S1 := S) (nL := 2) (cd := cd_2002) mx_2002 rfl rfl 1 rfl ?_
  obtain ⟨g1, h⟩ := gpE h
  refine RR.gPo (pc' := 4) (lc' := [(0, .ref v0)]) (st' := [.int (rI S v0 12)]) (S1 := S) (nL := 2) (cd := cd_2002) mx_2002 rfl rfl rfl ⟨g1, by decide, by decide⟩ ?_
  refine RR.runs (pc' := icm .ne (rI S v0 12) 0 47 7) (lc' := [(0, .ref v0)]) (st' := []) (S1 := S) (nL := 2) (cd := cd_2002) mx_2002 rfl rfl 1 rfl ?_
  rcases ifE h with ⟨c, h⟩ | ⟨c, h⟩
  · refine RR.c_ne (fun _ => ?_) (fun q => absurd c q)
    refine RR.runs (pc' := 8) (lc' := [(0, .ref v0)]) (st' := [.ref v0]) (S1 := S) (nL := 2) (cd := cd_2002) mx_2002 rfl rfl 1 rfl ?_
    refine RR.gPo (pc' := 11) (lc' := [(0, .ref v0)]) (st' := [.ref (v0 + 14)]) (S1 := S) (nL := 2) (cd := cd_2002) mx_2002 rfl rfl rfl ⟨g1, by decide, by decide⟩ ?_
    obtain ⟨g2, h⟩ := gpE h
    obtain ⟨r3, S4, h1, h⟩ := bnE h
    refine RR.callV (b := (v0 + 14)) (as := []) (rest := []) (r1 := none) (S1 := S4) mx_2002 rfl rfl mx_201 rfl rfl (by decide) (Or.inl g2) (Nat.le_of_ble_eq_true rfl) (Nat.le_of_ble_eq_true rfl) (RC.deep (by omega) (s_o_fo_clear (d := d) _ _ h1)) ?_
    show RR KO _ 2002 14 [(0, .ref v0)] [] S4 _ _
    refine RR.runs (pc' := 15) (lc' := [(0, .ref v0)]) (st' := [.ref v0]) (S1 := S4) (nL := 2) (cd := cd_2002) mx_2002 rfl rfl 1 rfl ?_
    refine RR.gPo (pc' := 18) (lc' := [(0, .ref v0)]) (st' := [.ref (v0 + 14)]) (S1 := S4) (nL := 2) (cd := cd_2002) mx_2002 rfl rfl rfl ⟨g1, by decide, by decide⟩ ?_
    refine RR.runs (pc' := 22) (lc' := [(0, .ref v0)]) (st' := [.int (0 : Int32), .ref 1036, .ref (v0 + 14)]) (S1 := S4) (nL := 2) (cd := cd_2002) mx_2002 rfl rfl 2 rfl ?_
    obtain ⟨r5, S6, h1, h⟩ := bnE h
    refine RR.callV (b := (v0 + 14)) (as := [.ref 1036, .int (0 : Int32)]) (rest := []) (r1 := none) (S1 := S6) mx_2002 rfl rfl mx_202 rfl rfl (by decide) (Or.inl g2) (Nat.le_of_ble_eq_true rfl) (Nat.le_of_ble_eq_true rfl) (RC.deep (by omega) (s_o_fo_add (d := d) _ _ _ _ h1)) ?_
    show RR KO _ 2002 25 [(0, .ref v0)] [] S6 _ _
    refine RR.runs (pc' := 26) (lc' := [(0, .ref v0)]) (st' := [.ref v0]) (S1 := S6) (nL := 2) (cd := cd_2002) mx_2002 rfl rfl 1 rfl ?_
    refine RR.gPo (pc' := 29) (lc' := [(0, .ref v0)]) (st' := [.ref (v0 + 14)]) (S1 := S6) (nL := 2) (cd := cd_2002) mx_2002 rfl rfl rfl ⟨g1, by decide, by decide⟩ ?_
    refine RR.runs (pc' := 33) (lc' := [(0, .ref v0)]) (st' := [.int (0 : Int32), .ref 1002, .ref (v0 + 14)]) (S1 := S6) (nL := 2) (cd := cd_2002) mx_2002 rfl rfl 2 rfl ?_
    obtain ⟨r7, S8, h1, h⟩ := bnE h
    refine RR.callV (b := (v0 + 14)) (as := [.ref 1002, .int (0 : Int32)]) (rest := []) (r1 := none) (S1 := S8) mx_2002 rfl rfl mx_202 rfl rfl (by decide) (Or.inl g2) (Nat.le_of_ble_eq_true rfl) (Nat.le_of_ble_eq_true rfl) (RC.deep (by omega) (s_o_fo_add (d := d) _ _ _ _ h1)) ?_
    show RR KO _ 2002 36 [(0, .ref v0)] [] S8 _ _
    refine RR.runs (pc' := 37) (lc' := [(0, .ref v0)]) (st' := [.ref v0]) (S1 := S8) (nL := 2) (cd := cd_2002) mx_2002 rfl rfl 1 rfl ?_
    refine RR.gPo (pc' := 40) (lc' := [(0, .ref v0)]) (st' := [.ref (v0 + 14)]) (S1 := S8) (nL := 2) (cd := cd_2002) mx_2002 rfl rfl rfl ⟨g1, by decide, by decide⟩ ?_
    refine RR.runs (pc' := 44) (lc' := [(0, .ref v0)]) (st' := [.int (0 : Int32), .ref 1011, .ref (v0 + 14)]) (S1 := S8) (nL := 2) (cd := cd_2002) mx_2002 rfl rfl 2 rfl ?_
    obtain ⟨r9, S10, h1, h⟩ := bnE h
    refine RR.callV (b := (v0 + 14)) (as := [.ref 1011, .int (0 : Int32)]) (rest := []) (r1 := none) (S1 := S10) mx_2002 rfl rfl mx_202 rfl rfl (by decide) (Or.inl g2) (Nat.le_of_ble_eq_true rfl) (Nat.le_of_ble_eq_true rfl) (RC.deep (by omega) (s_o_fo_add (d := d) _ _ _ _ h1)) ?_
    show RR KO _ 2002 47 [(0, .ref v0)] [] S10 _ _
    refine RR.weak [(0, .ref v0)] ⟨rfl, trivial⟩ ?_
    exact s_o_to_settle_47 _ _ h
  · refine RR.c_ne (fun q => absurd q c) (fun _ => ?_)
    refine RR.weak [(0, .ref v0)] ⟨rfl, trivial⟩ ?_
    exact s_o_to_settle_47 _ _ h
theorem s_o_to_settle {d : Nat} {S' : St} {r : Unit} (v0 : Nat) (S : St) (h : o_to_settle v0 S = some (r, S')) : RC KO (d + 4) 2002 [.ref v0] S none S' := RC.of rfl (s0_o_to_settle v0 S h)
-- NameOrchard$Tape clear ()V
def o_tp_clear (S : St) : Re Unit :=
  lt' (wI S 3 1 (0 : Int32)) fun S1 =>
  some ((), S1)
set_option maxRecDepth 100000 in
theorem s0_o_tp_clear {d : Nat} {S' : St} {r : Unit} (S : St) (h : o_tp_clear S = some (r, S')) : RR KO (d + 0) 1604 0 [(0, .ref 3)] [] S none S' := by
  unfold o_tp_clear at h
  refine RR.runs (pc' := 5) (lc' := [(0, .ref 3)]) (st' := []) (S1 := (wI S 3 1 (0 : Int32))) (nL := 1) (cd := cd_1604) mx_1604 rfl rfl 3 rfl ?_
  obtain ⟨S1, eS1, h⟩ := ltE h
  rw [← eS1]
  cases h
  exact RR.retv mx_1604 rfl rfl rfl
theorem s_o_tp_clear {d : Nat} {S' : St} {r : Unit} (S : St) (h : o_tp_clear S = some (r, S')) : RC KO (d + 0) 1604 [.ref 3] S none S' := RC.of rfl (s0_o_tp_clear S h)
-- NameOrchard$Reader readOrchard (LNameOrchard$Told;)I
def o_rd_readOrchard_192 (S : St) : Re Int32 :=
  bn (o_tp_clear S) fun r1 S2 =>
  some ((rI S2 3 7), S2)
set_option maxRecDepth 100000 in
theorem s_o_rd_readOrchard_192 {d : Nat} {S' : St} {r : Int32} (S : St) (h : o_rd_readOrchard_192 S = some (r, S')) : RR KO (d + 6) 601 192 [(0, .ref 2)] [] S (some (.int r)) S' := by
  unfold o_rd_readOrchard_192 at h
  refine RR.runs (pc' := 196) (lc' := [(0, .ref 2)]) (st' := [.ref 3]) (S1 := S) (nL := 3) (cd := cd_601) mx_601 rfl rfl 2 rfl ?_
  obtain ⟨r1, S2, h1, h⟩ := bnE h
  refine RR.callV (b := 3) (as := []) (rest := []) (r1 := none) (S1 := S2) mx_601 rfl rfl mx_1604 rfl rfl (by decide) (Or.inl rfl) (Nat.le_of_ble_eq_true rfl) (Nat.le_of_ble_eq_true rfl) (RC.deep (by omega) (s_o_tp_clear (d := d) _ h1)) ?_
  show RR KO _ 601 199 [(0, .ref 2)] [] S2 _ _
  refine RR.runs (pc' := 206) (lc' := [(0, .ref 2)]) (st' := [.int (rI S2 3 7)]) (S1 := S2) (nL := 3) (cd := cd_601) mx_601 rfl rfl 3 rfl ?_
  cases h
  exact RR.reti mx_601 rfl rfl rfl
def o_rd_readOrchard_178 (v1 : Nat) (S : St) : Re Int32 :=
  if (rI S 3 7) = 0 then (
    if KO.1 v1 = (0, 10) then (
bn (o_to_settle v1 S) fun r2 S3 =>
    o_rd_readOrchard_192 S3) else none)
  else (
    o_rd_readOrchard_192 S)
set_option maxRecDepth 100000 in
theorem s_o_rd_readOrchard_178 {d : Nat} {S' : St} {r : Int32} (v1 : Nat) (S : St) (h : o_rd_readOrchard_178 v1 S = some (r, S')) : RR KO (d + 6) 601 178 [(0, .ref 2), (1, .ref v1)] [] S (some (.int r)) S' := by
  unfold o_rd_readOrchard_178 at h
  refine RR.runs (pc' := icm .ne (rI S 3 7) 0 192 188) (lc' := [(0, .ref 2), (1, .ref v1)]) (st' := []) (S1 := S) (nL := 3) (cd := cd_601) mx_601 rfl rfl 4 rfl ?_
  rcases ifE h with ⟨c, h⟩ | ⟨c, h⟩
  · refine RR.c_ne (fun _ => ?_) (fun q => absurd c q)
    refine RR.runs (pc' := 189) (lc' := [(0, .ref 2), (1, .ref v1)]) (st' := [.ref v1]) (S1 := S) (nL := 3) (cd := cd_601) mx_601 rfl rfl 1 rfl ?_
    obtain ⟨g1, h⟩ := gpE h
    obtain ⟨r2, S3, h1, h⟩ := bnE h
    refine RR.callV (b := v1) (as := []) (rest := []) (r1 := none) (S1 := S3) mx_601 rfl rfl mx_2002 rfl rfl (by decide) (Or.inl g1) (Nat.le_of_ble_eq_true rfl) (Nat.le_of_ble_eq_true rfl) (RC.deep (by omega) (s_o_to_settle (d := d) _ _ h1)) ?_
    show RR KO _ 601 192 [(0, .ref 2), (1, .ref v1)] [] S3 _ _
    refine RR.weak [(0, .ref 2)] ⟨rfl, trivial⟩ ?_
    exact s_o_rd_readOrchard_192 _ h
  · refine RR.c_ne (fun q => absurd q c) (fun _ => ?_)
    refine RR.weak [(0, .ref 2)] ⟨rfl, trivial⟩ ?_
    exact s_o_rd_readOrchard_192 _ h
def o_rd_readOrchard_172 (k13 : Nat → Int32 → St → Re Int32) (v1 : Nat) (v2 : Int32) (S : St) : Re Int32 :=
  lt' ((v2 + (1 : Int32)) : Int32) fun x1 =>
  k13 v1 x1 S
set_option maxRecDepth 100000 in
theorem s_o_rd_readOrchard_172 {d : Nat} (k13 : Nat → Int32 → St → Re Int32) {S' : St} {r : Int32} (b13 : ∀ (v1 : Nat) (v2 : Int32) (S : St), k13 v1 v2 S = some (r, S') → RR KO (d + 6) 601 13 [(0, .ref 2), (1, .ref v1), (2, .int v2)] [] S (some (.int r)) S') (v1 : Nat) (v2 : Int32) (S : St) (h : o_rd_readOrchard_172 k13 v1 v2 S = some (r, S')) : RR KO (d + 6) 601 172 [(0, .ref 2), (1, .ref v1), (2, .int v2)] [] S (some (.int r)) S' := by
  unfold o_rd_readOrchard_172 at h
  refine RR.runs (pc' := 175) (lc' := [(2, .int ((v2 + (1 : Int32)))), (0, .ref 2), (1, .ref v1)]) (st' := []) (S1 := S) (nL := 3) (cd := cd_601) mx_601 rfl rfl 1 rfl ?_
  obtain ⟨x1, ex1, h⟩ := ltE h
  rw [← ex1]
  refine RR.runs (pc' := 13) (lc' := [(2, .int x1), (0, .ref 2), (1, .ref v1)]) (st' := []) (S1 := S) (nL := 3) (cd := cd_601) mx_601 rfl rfl 1 rfl ?_
  refine RR.weak [(0, .ref 2), (1, .ref v1), (2, .int x1)] ⟨rfl, rfl, rfl, trivial⟩ ?_
  exact b13 _ _ _ h
def o_rd_readOrchard_13 : Nat → Nat → Int32 → St → Re Int32
  | 0, _, _, _ => none
  | n + 1, v1, v2, S =>
  if (1000 : Int32) < v2 then (
    o_rd_readOrchard_178 v1 S)
  else (
    bn (o_rd_goesOn S) fun r1 S2 =>
    if r1 = 0 then (
      o_rd_readOrchard_178 v1 S2)
    else (
      oq (rQ S2 3 6) none fun o3 =>
      if (KO.1 o3).1 = 20 then (
      if (Int32.ofNat (KO.1 o3).2) < 0 ∨ 42 ≤ ((Int32.ofNat (KO.1 o3).2)).toNatClampNeg then none else
      if ((smL.getD ((Int32.ofNat (KO.1 o3).2)).toNatClampNeg 0)).toInt = 8 then (
        bn (o_rd_readApple v1 S2) fun r5 S6 =>
        o_rd_readOrchard_172 (o_rd_readOrchard_13 n) v1 v2 S6) else (
      if ((smL.getD ((Int32.ofNat (KO.1 o3).2)).toNatClampNeg 0)).toInt = 9 then (
        bn (o_rd_readTwin v1 S2) fun r7 S8 =>
        o_rd_readOrchard_172 (o_rd_readOrchard_13 n) v1 v2 S8) else (
      if ((smL.getD ((Int32.ofNat (KO.1 o3).2)).toNatClampNeg 0)).toInt = 10 then (
        bn (o_rd_readOther v1 S2) fun r9 S10 =>
        o_rd_readOrchard_172 (o_rd_readOrchard_13 n) v1 v2 S10) else (
      if ((smL.getD ((Int32.ofNat (KO.1 o3).2)).toNatClampNeg 0)).toInt = 11 then (
        bn (o_rd_readPerson v1 S2) fun r11 S12 =>
        o_rd_readOrchard_172 (o_rd_readOrchard_13 n) v1 v2 S12) else (
      if ((smL.getD ((Int32.ofNat (KO.1 o3).2)).toNatClampNeg 0)).toInt = 12 then (
        bn (o_rd_readStranger v1 S2) fun r13 S14 =>
        o_rd_readOrchard_172 (o_rd_readOrchard_13 n) v1 v2 S14) else (
      if ((smL.getD ((Int32.ofNat (KO.1 o3).2)).toNatClampNeg 0)).toInt = 13 then (
        bn (o_rd_readPage v1 S2) fun r15 S16 =>
        o_rd_readOrchard_172 (o_rd_readOrchard_13 n) v1 v2 S16) else (
      if ((smL.getD ((Int32.ofNat (KO.1 o3).2)).toNatClampNeg 0)).toInt = 14 then (
        bn (o_rd_readBann v1 S2) fun r17 S18 =>
        o_rd_readOrchard_172 (o_rd_readOrchard_13 n) v1 v2 S18) else (
      if ((smL.getD ((Int32.ofNat (KO.1 o3).2)).toNatClampNeg 0)).toInt = 15 then (
        bn (o_rd_readNear v1 S2) fun r19 S20 =>
        o_rd_readOrchard_172 (o_rd_readOrchard_13 n) v1 v2 S20) else (
      if ((smL.getD ((Int32.ofNat (KO.1 o3).2)).toNatClampNeg 0)).toInt = 16 then (
        bn (o_rd_readValue v1 S2) fun r21 S22 =>
        o_rd_readOrchard_172 (o_rd_readOrchard_13 n) v1 v2 S22) else (
        bn (o_tp_wrong (1 : Int32) S2) fun r23 S24 =>
        o_rd_readOrchard_172 (o_rd_readOrchard_13 n) v1 v2 S24)))))))))) else none))
set_option maxRecDepth 100000 in
theorem s_o_rd_readOrchard_13 {d : Nat} {S' : St} {r : Int32} : ∀ (n : Nat) (v1 : Nat) (v2 : Int32) (S : St), o_rd_readOrchard_13 n v1 v2 S = some (r, S') → RR KO (d + 6) 601 13 [(0, .ref 2), (1, .ref v1), (2, .int v2)] [] S (some (.int r)) S' := by
  intro n
  induction n with
  | zero => intro v1 v2 S h; simp only [o_rd_readOrchard_13] at h; cases h
  | succ n ih =>
    intro v1 v2 S h
    simp only [o_rd_readOrchard_13] at h
    refine RR.runs (pc' := icm .gt v2 (1000 : Int32) 178 20) (lc' := [(0, .ref 2), (1, .ref v1), (2, .int v2)]) (st' := []) (S1 := S) (nL := 3) (cd := cd_601) mx_601 rfl rfl 3 rfl ?_
    rcases ifE h with ⟨c, h⟩ | ⟨c, h⟩
    · refine RR.c_gt (fun _ => ?_) (fun q => absurd c q)
      refine RR.weak [(0, .ref 2), (1, .ref v1)] ⟨rfl, rfl, trivial⟩ ?_
      exact s_o_rd_readOrchard_178 _ _ h
    · refine RR.c_gt (fun q => absurd q c) (fun _ => ?_)
      refine RR.runs (pc' := 21) (lc' := [(0, .ref 2), (1, .ref v1), (2, .int v2)]) (st' := [.ref 2]) (S1 := S) (nL := 3) (cd := cd_601) mx_601 rfl rfl 1 rfl ?_
      obtain ⟨r1, S2, h1, h⟩ := bnE h
      refine RR.callV (b := 2) (as := []) (rest := []) (r1 := (some (.int r1))) (S1 := S2) mx_601 rfl rfl mx_603 rfl rfl (by decide) (Or.inl rfl) (Nat.le_of_ble_eq_true rfl) (Nat.le_of_ble_eq_true rfl) (RC.deep (by omega) (s_o_rd_goesOn (d := d) _ h1)) ?_
      show RR KO _ 601 24 [(0, .ref 2), (1, .ref v1), (2, .int v2)] [.int r1] S2 _ _
      refine RR.runs (pc' := icm .eq r1 0 178 27) (lc' := [(0, .ref 2), (1, .ref v1), (2, .int v2)]) (st' := []) (S1 := S2) (nL := 3) (cd := cd_601) mx_601 rfl rfl 1 rfl ?_
      rcases ifE h with ⟨c, h⟩ | ⟨c, h⟩
      · refine RR.c_eq (fun _ => ?_) (fun q => absurd c q)
        refine RR.weak [(0, .ref 2), (1, .ref v1)] ⟨rfl, rfl, trivial⟩ ?_
        exact s_o_rd_readOrchard_178 _ _ h
      · refine RR.c_eq (fun q => absurd q c) (fun _ => ?_)
        refine RR.runs (pc' := 37) (lc' := [(0, .ref 2), (1, .ref v1), (2, .int v2)]) (st' := [qv (rQ S2 3 6), .ref 1100]) (S1 := S2) (nL := 3) (cd := cd_601) mx_601 rfl rfl 4 rfl ?_
        rcases oqE h with ⟨e1, h⟩ | ⟨o3, eo3, h⟩
        · cases h
        rw [eo3]
        obtain ⟨g4, h⟩ := gpE h
        refine RR.ord mx_601 rfl rfl (by decide) g4 (Nat.le_of_ble_eq_true rfl) ?_
        show RR KO _ 601 40 [(0, .ref 2), (1, .ref v1), (2, .int v2)] [.int ((Int32.ofNat (KO.1 o3).2)), .ref 1100] S2 _ _
        obtain ⟨g, h⟩ := gnE h
        refine RR.g30 (c1 := (KO.1 1100).1 = 1) (c2 := (KO.1 1100).1 = 30) (o := none) (pc' := 41) (lc' := [(0, .ref 2), (1, .ref v1), (2, .int v2)]) (st' := [.int ((smL.getD ((Int32.ofNat (KO.1 o3).2)).toNatClampNeg 0))]) (S1 := S2) (nL := 3) (cd := cd_601) mx_601 rfl rfl rfl (by decide) rfl g ?_
        refine RR.runs (pc' := swt ((smL.getD ((Int32.ofNat (KO.1 o3).2)).toNatClampNeg 0)) 41 123 8 [51, 59, 67, 75, 83, 91, 99, 107, 115]) (lc' := [(0, .ref 2), (1, .ref v1), (2, .int v2)]) (st' := []) (S1 := S2) (nL := 3) (cd := cd_601) mx_601 rfl rfl 1 rfl ?_
        rcases ifE h with ⟨c, h⟩ | ⟨c, h⟩
        · refine RR.sw 92 rfl (fun _ => ?_) (fun q => absurd c q)
          refine RR.runs (pc' := 94) (lc' := [(0, .ref 2), (1, .ref v1), (2, .int v2)]) (st' := [.ref v1, .ref 2]) (S1 := S2) (nL := 3) (cd := cd_601) mx_601 rfl rfl 2 rfl ?_
          obtain ⟨r5, S6, h1, h⟩ := bnE h
          refine RR.callV (b := 2) (as := [.ref v1]) (rest := []) (r1 := none) (S1 := S6) mx_601 rfl rfl mx_613 rfl rfl (by decide) (Or.inl rfl) (Nat.le_of_ble_eq_true rfl) (Nat.le_of_ble_eq_true rfl) (RC.deep (by omega) (s_o_rd_readApple (d := d) _ _ h1)) ?_
          show RR KO _ 601 97 [(0, .ref 2), (1, .ref v1), (2, .int v2)] [] S6 _ _
          refine RR.runs (pc' := 172) (lc' := [(0, .ref 2), (1, .ref v1), (2, .int v2)]) (st' := []) (S1 := S6) (nL := 3) (cd := cd_601) mx_601 rfl rfl 1 rfl ?_
          refine RR.weak [(0, .ref 2), (1, .ref v1), (2, .int v2)] ⟨rfl, rfl, rfl, trivial⟩ ?_
          exact s_o_rd_readOrchard_172 _ (fun _ _ S h => ih _ _ S h) _ _ _ h
        refine RR.sw 92 rfl (fun q => absurd q c) (fun _ => ?_)
        rcases ifE h with ⟨c, h⟩ | ⟨c, h⟩
        · refine RR.sw 100 rfl (fun _ => ?_) (fun q => absurd c q)
          refine RR.runs (pc' := 102) (lc' := [(0, .ref 2), (1, .ref v1), (2, .int v2)]) (st' := [.ref v1, .ref 2]) (S1 := S2) (nL := 3) (cd := cd_601) mx_601 rfl rfl 2 rfl ?_
          obtain ⟨r7, S8, h1, h⟩ := bnE h
          refine RR.callV (b := 2) (as := [.ref v1]) (rest := []) (r1 := none) (S1 := S8) mx_601 rfl rfl mx_615 rfl rfl (by decide) (Or.inl rfl) (Nat.le_of_ble_eq_true rfl) (Nat.le_of_ble_eq_true rfl) (RC.deep (by omega) (s_o_rd_readTwin (d := d) _ _ h1)) ?_
          show RR KO _ 601 105 [(0, .ref 2), (1, .ref v1), (2, .int v2)] [] S8 _ _
          refine RR.runs (pc' := 172) (lc' := [(0, .ref 2), (1, .ref v1), (2, .int v2)]) (st' := []) (S1 := S8) (nL := 3) (cd := cd_601) mx_601 rfl rfl 1 rfl ?_
          refine RR.weak [(0, .ref 2), (1, .ref v1), (2, .int v2)] ⟨rfl, rfl, rfl, trivial⟩ ?_
          exact s_o_rd_readOrchard_172 _ (fun _ _ S h => ih _ _ S h) _ _ _ h
        refine RR.sw 100 rfl (fun q => absurd q c) (fun _ => ?_)
        rcases ifE h with ⟨c, h⟩ | ⟨c, h⟩
        · refine RR.sw 108 rfl (fun _ => ?_) (fun q => absurd c q)
          refine RR.runs (pc' := 110) (lc' := [(0, .ref 2), (1, .ref v1), (2, .int v2)]) (st' := [.ref v1, .ref 2]) (S1 := S2) (nL := 3) (cd := cd_601) mx_601 rfl rfl 2 rfl ?_
          obtain ⟨r9, S10, h1, h⟩ := bnE h
          refine RR.callV (b := 2) (as := [.ref v1]) (rest := []) (r1 := none) (S1 := S10) mx_601 rfl rfl mx_617 rfl rfl (by decide) (Or.inl rfl) (Nat.le_of_ble_eq_true rfl) (Nat.le_of_ble_eq_true rfl) (RC.deep (by omega) (s_o_rd_readOther (d := d) _ _ h1)) ?_
          show RR KO _ 601 113 [(0, .ref 2), (1, .ref v1), (2, .int v2)] [] S10 _ _
          refine RR.runs (pc' := 172) (lc' := [(0, .ref 2), (1, .ref v1), (2, .int v2)]) (st' := []) (S1 := S10) (nL := 3) (cd := cd_601) mx_601 rfl rfl 1 rfl ?_
          refine RR.weak [(0, .ref 2), (1, .ref v1), (2, .int v2)] ⟨rfl, rfl, rfl, trivial⟩ ?_
          exact s_o_rd_readOrchard_172 _ (fun _ _ S h => ih _ _ S h) _ _ _ h
        refine RR.sw 108 rfl (fun q => absurd q c) (fun _ => ?_)
        rcases ifE h with ⟨c, h⟩ | ⟨c, h⟩
        · refine RR.sw 116 rfl (fun _ => ?_) (fun q => absurd c q)
          refine RR.runs (pc' := 118) (lc' := [(0, .ref 2), (1, .ref v1), (2, .int v2)]) (st' := [.ref v1, .ref 2]) (S1 := S2) (nL := 3) (cd := cd_601) mx_601 rfl rfl 2 rfl ?_
          obtain ⟨r11, S12, h1, h⟩ := bnE h
          refine RR.callV (b := 2) (as := [.ref v1]) (rest := []) (r1 := none) (S1 := S12) mx_601 rfl rfl mx_618 rfl rfl (by decide) (Or.inl rfl) (Nat.le_of_ble_eq_true rfl) (Nat.le_of_ble_eq_true rfl) (RC.deep (by omega) (s_o_rd_readPerson (d := d) _ _ h1)) ?_
          show RR KO _ 601 121 [(0, .ref 2), (1, .ref v1), (2, .int v2)] [] S12 _ _
          refine RR.runs (pc' := 172) (lc' := [(0, .ref 2), (1, .ref v1), (2, .int v2)]) (st' := []) (S1 := S12) (nL := 3) (cd := cd_601) mx_601 rfl rfl 1 rfl ?_
          refine RR.weak [(0, .ref 2), (1, .ref v1), (2, .int v2)] ⟨rfl, rfl, rfl, trivial⟩ ?_
          exact s_o_rd_readOrchard_172 _ (fun _ _ S h => ih _ _ S h) _ _ _ h
        refine RR.sw 116 rfl (fun q => absurd q c) (fun _ => ?_)
        rcases ifE h with ⟨c, h⟩ | ⟨c, h⟩
        · refine RR.sw 124 rfl (fun _ => ?_) (fun q => absurd c q)
          refine RR.runs (pc' := 126) (lc' := [(0, .ref 2), (1, .ref v1), (2, .int v2)]) (st' := [.ref v1, .ref 2]) (S1 := S2) (nL := 3) (cd := cd_601) mx_601 rfl rfl 2 rfl ?_
          obtain ⟨r13, S14, h1, h⟩ := bnE h
          refine RR.callV (b := 2) (as := [.ref v1]) (rest := []) (r1 := none) (S1 := S14) mx_601 rfl rfl mx_619 rfl rfl (by decide) (Or.inl rfl) (Nat.le_of_ble_eq_true rfl) (Nat.le_of_ble_eq_true rfl) (RC.deep (by omega) (s_o_rd_readStranger (d := d) _ _ h1)) ?_
          show RR KO _ 601 129 [(0, .ref 2), (1, .ref v1), (2, .int v2)] [] S14 _ _
          refine RR.runs (pc' := 172) (lc' := [(0, .ref 2), (1, .ref v1), (2, .int v2)]) (st' := []) (S1 := S14) (nL := 3) (cd := cd_601) mx_601 rfl rfl 1 rfl ?_
          refine RR.weak [(0, .ref 2), (1, .ref v1), (2, .int v2)] ⟨rfl, rfl, rfl, trivial⟩ ?_
          exact s_o_rd_readOrchard_172 _ (fun _ _ S h => ih _ _ S h) _ _ _ h
        refine RR.sw 124 rfl (fun q => absurd q c) (fun _ => ?_)
        rcases ifE h with ⟨c, h⟩ | ⟨c, h⟩
        · refine RR.sw 132 rfl (fun _ => ?_) (fun q => absurd c q)
          refine RR.runs (pc' := 134) (lc' := [(0, .ref 2), (1, .ref v1), (2, .int v2)]) (st' := [.ref v1, .ref 2]) (S1 := S2) (nL := 3) (cd := cd_601) mx_601 rfl rfl 2 rfl ?_
          obtain ⟨r15, S16, h1, h⟩ := bnE h
          refine RR.callV (b := 2) (as := [.ref v1]) (rest := []) (r1 := none) (S1 := S16) mx_601 rfl rfl mx_620 rfl rfl (by decide) (Or.inl rfl) (Nat.le_of_ble_eq_true rfl) (Nat.le_of_ble_eq_true rfl) (RC.deep (by omega) (s_o_rd_readPage (d := d) _ _ h1)) ?_
          show RR KO _ 601 137 [(0, .ref 2), (1, .ref v1), (2, .int v2)] [] S16 _ _
          refine RR.runs (pc' := 172) (lc' := [(0, .ref 2), (1, .ref v1), (2, .int v2)]) (st' := []) (S1 := S16) (nL := 3) (cd := cd_601) mx_601 rfl rfl 1 rfl ?_
          refine RR.weak [(0, .ref 2), (1, .ref v1), (2, .int v2)] ⟨rfl, rfl, rfl, trivial⟩ ?_
          exact s_o_rd_readOrchard_172 _ (fun _ _ S h => ih _ _ S h) _ _ _ h
        refine RR.sw 132 rfl (fun q => absurd q c) (fun _ => ?_)
        rcases ifE h with ⟨c, h⟩ | ⟨c, h⟩
        · refine RR.sw 140 rfl (fun _ => ?_) (fun q => absurd c q)
          refine RR.runs (pc' := 142) (lc' := [(0, .ref 2), (1, .ref v1), (2, .int v2)]) (st' := [.ref v1, .ref 2]) (S1 := S2) (nL := 3) (cd := cd_601) mx_601 rfl rfl 2 rfl ?_
          obtain ⟨r17, S18, h1, h⟩ := bnE h
          refine RR.callV (b := 2) (as := [.ref v1]) (rest := []) (r1 := none) (S1 := S18) mx_601 rfl rfl mx_621 rfl rfl (by decide) (Or.inl rfl) (Nat.le_of_ble_eq_true rfl) (Nat.le_of_ble_eq_true rfl) (RC.deep (by omega) (s_o_rd_readBann (d := d) _ _ h1)) ?_
          show RR KO _ 601 145 [(0, .ref 2), (1, .ref v1), (2, .int v2)] [] S18 _ _
          refine RR.runs (pc' := 172) (lc' := [(0, .ref 2), (1, .ref v1), (2, .int v2)]) (st' := []) (S1 := S18) (nL := 3) (cd := cd_601) mx_601 rfl rfl 1 rfl ?_
          refine RR.weak [(0, .ref 2), (1, .ref v1), (2, .int v2)] ⟨rfl, rfl, rfl, trivial⟩ ?_
          exact s_o_rd_readOrchard_172 _ (fun _ _ S h => ih _ _ S h) _ _ _ h
        refine RR.sw 140 rfl (fun q => absurd q c) (fun _ => ?_)
        rcases ifE h with ⟨c, h⟩ | ⟨c, h⟩
        · refine RR.sw 148 rfl (fun _ => ?_) (fun q => absurd c q)
          refine RR.runs (pc' := 150) (lc' := [(0, .ref 2), (1, .ref v1), (2, .int v2)]) (st' := [.ref v1, .ref 2]) (S1 := S2) (nL := 3) (cd := cd_601) mx_601 rfl rfl 2 rfl ?_
          obtain ⟨r19, S20, h1, h⟩ := bnE h
          refine RR.callV (b := 2) (as := [.ref v1]) (rest := []) (r1 := none) (S1 := S20) mx_601 rfl rfl mx_622 rfl rfl (by decide) (Or.inl rfl) (Nat.le_of_ble_eq_true rfl) (Nat.le_of_ble_eq_true rfl) (RC.deep (by omega) (s_o_rd_readNear (d := d) _ _ h1)) ?_
          show RR KO _ 601 153 [(0, .ref 2), (1, .ref v1), (2, .int v2)] [] S20 _ _
          refine RR.runs (pc' := 172) (lc' := [(0, .ref 2), (1, .ref v1), (2, .int v2)]) (st' := []) (S1 := S20) (nL := 3) (cd := cd_601) mx_601 rfl rfl 1 rfl ?_
          refine RR.weak [(0, .ref 2), (1, .ref v1), (2, .int v2)] ⟨rfl, rfl, rfl, trivial⟩ ?_
          exact s_o_rd_readOrchard_172 _ (fun _ _ S h => ih _ _ S h) _ _ _ h
        refine RR.sw 148 rfl (fun q => absurd q c) (fun _ => ?_)
        rcases ifE h with ⟨c, h⟩ | ⟨c, h⟩
        · refine RR.sw 156 rfl (fun _ => ?_) (fun q => absurd c q)
          refine RR.runs (pc' := 158) (lc' := [(0, .ref 2), (1, .ref v1), (2, .int v2)]) (st' := [.ref v1, .ref 2]) (S1 := S2) (nL := 3) (cd := cd_601) mx_601 rfl rfl 2 rfl ?_
          obtain ⟨r21, S22, h1, h⟩ := bnE h
          refine RR.callV (b := 2) (as := [.ref v1]) (rest := []) (r1 := none) (S1 := S22) mx_601 rfl rfl mx_623 rfl rfl (by decide) (Or.inl rfl) (Nat.le_of_ble_eq_true rfl) (Nat.le_of_ble_eq_true rfl) (RC.deep (by omega) (s_o_rd_readValue (d := d) _ _ h1)) ?_
          show RR KO _ 601 161 [(0, .ref 2), (1, .ref v1), (2, .int v2)] [] S22 _ _
          refine RR.runs (pc' := 172) (lc' := [(0, .ref 2), (1, .ref v1), (2, .int v2)]) (st' := []) (S1 := S22) (nL := 3) (cd := cd_601) mx_601 rfl rfl 1 rfl ?_
          refine RR.weak [(0, .ref 2), (1, .ref v1), (2, .int v2)] ⟨rfl, rfl, rfl, trivial⟩ ?_
          exact s_o_rd_readOrchard_172 _ (fun _ _ S h => ih _ _ S h) _ _ _ h
        refine RR.sw 156 rfl (fun q => absurd q c) (fun _ => ?_)
        refine RR.sw0 164 rfl ?_
        refine RR.runs (pc' := 169) (lc' := [(0, .ref 2), (1, .ref v1), (2, .int v2)]) (st' := [.int (1 : Int32), .ref 3]) (S1 := S2) (nL := 3) (cd := cd_601) mx_601 rfl rfl 3 rfl ?_
        obtain ⟨r23, S24, h1, h⟩ := bnE h
        refine RR.callV (b := 3) (as := [.int (1 : Int32)]) (rest := []) (r1 := none) (S1 := S24) mx_601 rfl rfl mx_1603 rfl rfl (by decide) (Or.inl rfl) (Nat.le_of_ble_eq_true rfl) (Nat.le_of_ble_eq_true rfl) (RC.deep (by omega) (s_o_tp_wrong (d := d) _ _ h1)) ?_
        show RR KO _ 601 172 [(0, .ref 2), (1, .ref v1), (2, .int v2)] [] S24 _ _
        refine RR.weak [(0, .ref 2), (1, .ref v1), (2, .int v2)] ⟨rfl, rfl, rfl, trivial⟩ ?_
        exact s_o_rd_readOrchard_172 _ (fun _ _ S h => ih _ _ S h) _ _ _ h
def o_rd_readOrchard (v1 : Nat) (S : St) : Re Int32 :=
  if KO.1 v1 = (0, 10) then (
bn (o_to_clear v1 S) fun r2 S3 =>
  bn (o_tp_open S3) fun r4 S5 =>
  o_rd_readOrchard_13 FU v1 (0 : Int32) S5) else none
set_option maxRecDepth 100000 in
theorem s0_o_rd_readOrchard {d : Nat} {S' : St} {r : Int32} (v1 : Nat) (S : St) (h : o_rd_readOrchard v1 S = some (r, S')) : RR KO (d + 6) 601 0 [(0, .ref 2), (1, .ref v1)] [] S (some (.int r)) S' := by
  unfold o_rd_readOrchard at h
  refine RR.runs (pc' := 1) (lc' := [(0, .ref 2), (1, .ref v1)]) (st' := [.ref v1]) (S1 := S) (nL := 3) (cd := cd_601) mx_601 rfl rfl 1 rfl ?_
  obtain ⟨g1, h⟩ := gpE h
  obtain ⟨r2, S3, h1, h⟩ := bnE h
  refine RR.callV (b := v1) (as := []) (rest := []) (r1 := none) (S1 := S3) mx_601 rfl rfl mx_2001 rfl rfl (by decide) (Or.inl g1) (Nat.le_of_ble_eq_true rfl) (Nat.le_of_ble_eq_true rfl) (RC.deep (by omega) (s_o_to_clear (d := d) _ _ h1)) ?_
  show RR KO _ 601 4 [(0, .ref 2), (1, .ref v1)] [] S3 _ _
  refine RR.runs (pc' := 8) (lc' := [(0, .ref 2), (1, .ref v1)]) (st' := [.ref 3]) (S1 := S3) (nL := 3) (cd := cd_601) mx_601 rfl rfl 2 rfl ?_
  obtain ⟨r4, S5, h1, h⟩ := bnE h
  refine RR.callV (b := 3) (as := []) (rest := []) (r1 := none) (S1 := S5) mx_601 rfl rfl mx_1602 rfl rfl (by decide) (Or.inl rfl) (Nat.le_of_ble_eq_true rfl) (Nat.le_of_ble_eq_true rfl) (RC.deep (by omega) (s_o_tp_open (d := d) _ h1)) ?_
  show RR KO _ 601 11 [(0, .ref 2), (1, .ref v1)] [] S5 _ _
  refine RR.runs (pc' := 13) (lc' := [(2, .int (0 : Int32)), (0, .ref 2), (1, .ref v1)]) (st' := []) (S1 := S5) (nL := 3) (cd := cd_601) mx_601 rfl rfl 2 rfl ?_
  refine RR.weak [(0, .ref 2), (1, .ref v1), (2, .int (0 : Int32))] ⟨rfl, rfl, rfl, trivial⟩ ?_
  exact s_o_rd_readOrchard_13 _ _ _ _ h
theorem s_o_rd_readOrchard {d : Nat} {S' : St} {r : Int32} (v1 : Nat) (S : St) (h : o_rd_readOrchard v1 S = some (r, S')) : RC KO (d + 6) 601 [.ref 2, .ref v1] S (some (.int r)) S' := RC.of rfl (s0_o_rd_readOrchard v1 S h)
-- NameOrchard$Reader personHere (LNameOrchard$Told;)I
def o_rd_personHere_39 (v2 : Int32) (S : St) : Re Int32 :=
  some (v2, S)
set_option maxRecDepth 100000 in
theorem s_o_rd_personHere_39 {d : Nat} {S' : St} {r : Int32} (v2 : Int32) (S : St) (h : o_rd_personHere_39 v2 S = some (r, S')) : RR KO (d + 2) 612 39 [(2, .int v2)] [] S (some (.int r)) S' := by
  unfold o_rd_personHere_39 at h
  refine RR.runs (pc' := 40) (lc' := [(2, .int v2)]) (st' := [.int v2]) (S1 := S) (nL := 3) (cd := cd_612) mx_612 rfl rfl 1 rfl ?_
  cases h
  exact RR.reti mx_612 rfl rfl rfl
def o_rd_personHere_25 (p0 : Int32) (S : St) : Re Int32 :=
  if p0 = (-1 : Int32) then (
    bn (o_tp_wrong (2 : Int32) S) fun r1 S2 =>
    o_rd_personHere_39 p0 S2)
  else (
    o_rd_personHere_39 p0 S)
set_option maxRecDepth 100000 in
theorem s_o_rd_personHere_25 {d : Nat} {S' : St} {r : Int32} (p0 : Int32) (S : St) (h : o_rd_personHere_25 p0 S = some (r, S')) : RR KO (d + 2) 612 25 [(0, .ref 2)] [.int p0] S (some (.int r)) S' := by
  unfold o_rd_personHere_25 at h
  refine RR.runs (pc' := icm .ne p0 (-1 : Int32) 39 31) (lc' := [(2, .int p0), (0, .ref 2)]) (st' := []) (S1 := S) (nL := 3) (cd := cd_612) mx_612 rfl rfl 4 rfl ?_
  rcases ifE h with ⟨c, h⟩ | ⟨c, h⟩
  · refine RR.c_ne (fun _ => ?_) (fun q => absurd c q)
    refine RR.runs (pc' := 36) (lc' := [(2, .int p0), (0, .ref 2)]) (st' := [.int (2 : Int32), .ref 3]) (S1 := S) (nL := 3) (cd := cd_612) mx_612 rfl rfl 3 rfl ?_
    obtain ⟨r1, S2, h1, h⟩ := bnE h
    refine RR.callV (b := 3) (as := [.int (2 : Int32)]) (rest := []) (r1 := none) (S1 := S2) mx_612 rfl rfl mx_1603 rfl rfl (by decide) (Or.inl rfl) (Nat.le_of_ble_eq_true rfl) (Nat.le_of_ble_eq_true rfl) (RC.deep (by omega) (s_o_tp_wrong (d := d) _ _ h1)) ?_
    show RR KO _ 612 39 [(2, .int p0), (0, .ref 2)] [] S2 _ _
    refine RR.weak [(2, .int p0)] ⟨rfl, trivial⟩ ?_
    exact s_o_rd_personHere_39 _ _ h
  · refine RR.c_ne (fun q => absurd q c) (fun _ => ?_)
    refine RR.weak [(2, .int p0)] ⟨rfl, trivial⟩ ?_
    exact s_o_rd_personHere_39 _ _ h
def o_rd_personHere (v1 : Nat) (S : St) : Re Int32 :=
  bn (o_rd_isName S) fun r1 S2 =>
  if r1 = 0 then (
    o_rd_personHere_25 (-1 : Int32) S2)
  else (
    if KO.1 v1 = (0, 10) then (
    if KO.1 (v1 + 4) = (0, 2) then (
bn (o_na_find (v1 + 4) (rJ S2 3 5) S2) fun r5 S6 =>
    o_rd_personHere_25 r5 S6) else none) else none)
set_option maxRecDepth 100000 in
theorem s0_o_rd_personHere {d : Nat} {S' : St} {r : Int32} (v1 : Nat) (S : St) (h : o_rd_personHere v1 S = some (r, S')) : RR KO (d + 2) 612 0 [(0, .ref 2), (1, .ref v1)] [] S (some (.int r)) S' := by
  unfold o_rd_personHere at h
  refine RR.runs (pc' := 1) (lc' := [(0, .ref 2), (1, .ref v1)]) (st' := [.ref 2]) (S1 := S) (nL := 3) (cd := cd_612) mx_612 rfl rfl 1 rfl ?_
  obtain ⟨r1, S2, h1, h⟩ := bnE h
  refine RR.callV (b := 2) (as := []) (rest := []) (r1 := (some (.int r1))) (S1 := S2) mx_612 rfl rfl mx_608 rfl rfl (by decide) (Or.inl rfl) (Nat.le_of_ble_eq_true rfl) (Nat.le_of_ble_eq_true rfl) (RC.deep (by omega) (s_o_rd_isName (d := d) _ h1)) ?_
  show RR KO _ 612 4 [(0, .ref 2), (1, .ref v1)] [.int r1] S2 _ _
  refine RR.runs (pc' := icm .eq r1 0 24 7) (lc' := [(0, .ref 2), (1, .ref v1)]) (st' := []) (S1 := S2) (nL := 3) (cd := cd_612) mx_612 rfl rfl 1 rfl ?_
  rcases ifE h with ⟨c, h⟩ | ⟨c, h⟩
  · refine RR.c_eq (fun _ => ?_) (fun q => absurd c q)
    refine RR.runs (pc' := 25) (lc' := [(0, .ref 2), (1, .ref v1)]) (st' := [.int (-1 : Int32)]) (S1 := S2) (nL := 3) (cd := cd_612) mx_612 rfl rfl 1 rfl ?_
    refine RR.weak [(0, .ref 2)] ⟨rfl, trivial⟩ ?_
    exact s_o_rd_personHere_25 _ _ h
  · refine RR.c_eq (fun q => absurd q c) (fun _ => ?_)
    refine RR.runs (pc' := 8) (lc' := [(0, .ref 2), (1, .ref v1)]) (st' := [.ref v1]) (S1 := S2) (nL := 3) (cd := cd_612) mx_612 rfl rfl 1 rfl ?_
    obtain ⟨g3, h⟩ := gpE h
    refine RR.gPo (pc' := 11) (lc' := [(0, .ref 2), (1, .ref v1)]) (st' := [.ref (v1 + 4)]) (S1 := S2) (nL := 3) (cd := cd_612) mx_612 rfl rfl rfl ⟨g3, by decide, by decide⟩ ?_
    refine RR.runs (pc' := 18) (lc' := [(0, .ref 2), (1, .ref v1)]) (st' := [.long (rJ S2 3 5), .ref (v1 + 4)]) (S1 := S2) (nL := 3) (cd := cd_612) mx_612 rfl rfl 3 rfl ?_
    obtain ⟨g4, h⟩ := gpE h
    obtain ⟨r5, S6, h1, h⟩ := bnE h
    refine RR.callV (b := (v1 + 4)) (as := [.long (rJ S2 3 5)]) (rest := []) (r1 := (some (.int r5))) (S1 := S6) mx_612 rfl rfl mx_406 rfl rfl (by decide) (Or.inl g4) (Nat.le_of_ble_eq_true rfl) (Nat.le_of_ble_eq_true rfl) (RC.deep (by omega) (s_o_na_find (d := d) _ _ _ h1)) ?_
    show RR KO _ 612 21 [(0, .ref 2), (1, .ref v1)] [.int r5] S6 _ _
    refine RR.runs (pc' := 25) (lc' := [(0, .ref 2), (1, .ref v1)]) (st' := [.int r5]) (S1 := S6) (nL := 3) (cd := cd_612) mx_612 rfl rfl 1 rfl ?_
    refine RR.weak [(0, .ref 2)] ⟨rfl, trivial⟩ ?_
    exact s_o_rd_personHere_25 _ _ h
theorem s_o_rd_personHere {d : Nat} {S' : St} {r : Int32} (v1 : Nat) (S : St) (h : o_rd_personHere v1 S = some (r, S')) : RC KO (d + 2) 612 [.ref 2, .ref v1] S (some (.int r)) S' := RC.of rfl (s0_o_rd_personHere v1 S h)
-- NameOrchard$Reader readLine (LNameOrchard$Told;)V
def o_rd_readLine_181 (S : St) : Re Unit :=
  some ((), S)
set_option maxRecDepth 100000 in
theorem s_o_rd_readLine_181 {d : Nat} {S' : St} {r : Unit} (S : St) (h : o_rd_readLine_181 S = some (r, S')) : RR KO (d + 4) 625 181 [] [] S none S' := by
  unfold o_rd_readLine_181 at h
  cases h
  exact RR.retv mx_625 rfl rfl rfl
def o_rd_readLine_120 (v3 : Int32) (v4 : Int32) (v5 : Int32) (S : St) : Re Unit :=
  bn (o_rd_take 1006 S) fun r1 S2 =>
  if (rI S2 3 7) = 0 then (
    bn (o_tb_add 110 S2) fun r3 S4 =>
    bn (o_tb_put 110 r3 (0 : Int32) v3 S4) fun r5 S6 =>
    bn (o_tb_put 110 r3 (1 : Int32) v4 S6) fun r7 S8 =>
    bn (o_tb_put 110 r3 (2 : Int32) v5 S8) fun r9 S10 =>
    o_rd_readLine_181 S10)
  else (
    o_rd_readLine_181 S2)
set_option maxRecDepth 100000 in
theorem s_o_rd_readLine_120 {d : Nat} {S' : St} {r : Unit} (v3 : Int32) (v4 : Int32) (v5 : Int32) (S : St) (h : o_rd_readLine_120 v3 v4 v5 S = some (r, S')) : RR KO (d + 4) 625 120 [(0, .ref 2), (3, .int v3), (4, .int v4), (5, .int v5)] [] S none S' := by
  unfold o_rd_readLine_120 at h
  refine RR.runs (pc' := 124) (lc' := [(0, .ref 2), (3, .int v3), (4, .int v4), (5, .int v5)]) (st' := [.ref 1006, .ref 2]) (S1 := S) (nL := 7) (cd := cd_625) mx_625 rfl rfl 2 rfl ?_
  obtain ⟨r1, S2, h1, h⟩ := bnE h
  refine RR.callV (b := 2) (as := [.ref 1006]) (rest := []) (r1 := none) (S1 := S2) mx_625 rfl rfl mx_604 rfl rfl (by decide) (Or.inl rfl) (Nat.le_of_ble_eq_true rfl) (Nat.le_of_ble_eq_true rfl) (RC.deep (by omega) (s_o_rd_take (d := d) _ _ h1)) ?_
  show RR KO _ 625 127 [(0, .ref 2), (3, .int v3), (4, .int v4), (5, .int v5)] [] S2 _ _
  refine RR.runs (pc' := icm .ne (rI S2 3 7) 0 181 137) (lc' := [(0, .ref 2), (3, .int v3), (4, .int v4), (5, .int v5)]) (st' := []) (S1 := S2) (nL := 7) (cd := cd_625) mx_625 rfl rfl 4 rfl ?_
  rcases ifE h with ⟨c, h⟩ | ⟨c, h⟩
  · refine RR.c_ne (fun _ => ?_) (fun q => absurd c q)
    refine RR.runs (pc' := 141) (lc' := [(0, .ref 2), (3, .int v3), (4, .int v4), (5, .int v5)]) (st' := [.ref 110]) (S1 := S2) (nL := 7) (cd := cd_625) mx_625 rfl rfl 2 rfl ?_
    obtain ⟨r3, S4, h1, h⟩ := bnE h
    refine RR.callV (b := 110) (as := []) (rest := []) (r1 := (some (.int r3))) (S1 := S4) mx_625 rfl rfl mx_1407 rfl rfl (by decide) (Or.inl rfl) (Nat.le_of_ble_eq_true rfl) (Nat.le_of_ble_eq_true rfl) (RC.deep (by omega) (s_o_tb_add (d := d) _ _ h1)) ?_
    show RR KO _ 625 144 [(0, .ref 2), (3, .int v3), (4, .int v4), (5, .int v5)] [.int r3] S4 _ _
    refine RR.runs (pc' := 154) (lc' := [(6, .int r3), (0, .ref 2), (3, .int v3), (4, .int v4), (5, .int v5)]) (st' := [.int v3, .int (0 : Int32), .int r3, .ref 110]) (S1 := S4) (nL := 7) (cd := cd_625) mx_625 rfl rfl 6 rfl ?_
    obtain ⟨r5, S6, h1, h⟩ := bnE h
    refine RR.callV (b := 110) (as := [.int r3, .int (0 : Int32), .int v3]) (rest := []) (r1 := none) (S1 := S6) mx_625 rfl rfl mx_1406 rfl rfl (by decide) (Or.inl rfl) (Nat.le_of_ble_eq_true rfl) (Nat.le_of_ble_eq_true rfl) (RC.deep (by omega) (s_o_tb_put (d := d) _ _ _ _ _ h1)) ?_
    show RR KO _ 625 157 [(6, .int r3), (0, .ref 2), (3, .int v3), (4, .int v4), (5, .int v5)] [] S6 _ _
    refine RR.runs (pc' := 166) (lc' := [(6, .int r3), (0, .ref 2), (3, .int v3), (4, .int v4), (5, .int v5)]) (st' := [.int v4, .int (1 : Int32), .int r3, .ref 110]) (S1 := S6) (nL := 7) (cd := cd_625) mx_625 rfl rfl 5 rfl ?_
    obtain ⟨r7, S8, h1, h⟩ := bnE h
    refine RR.callV (b := 110) (as := [.int r3, .int (1 : Int32), .int v4]) (rest := []) (r1 := none) (S1 := S8) mx_625 rfl rfl mx_1406 rfl rfl (by decide) (Or.inl rfl) (Nat.le_of_ble_eq_true rfl) (Nat.le_of_ble_eq_true rfl) (RC.deep (by omega) (s_o_tb_put (d := d) _ _ _ _ _ h1)) ?_
    show RR KO _ 625 169 [(6, .int r3), (0, .ref 2), (3, .int v3), (4, .int v4), (5, .int v5)] [] S8 _ _
    refine RR.runs (pc' := 178) (lc' := [(6, .int r3), (0, .ref 2), (3, .int v3), (4, .int v4), (5, .int v5)]) (st' := [.int v5, .int (2 : Int32), .int r3, .ref 110]) (S1 := S8) (nL := 7) (cd := cd_625) mx_625 rfl rfl 5 rfl ?_
    obtain ⟨r9, S10, h1, h⟩ := bnE h
    refine RR.callV (b := 110) (as := [.int r3, .int (2 : Int32), .int v5]) (rest := []) (r1 := none) (S1 := S10) mx_625 rfl rfl mx_1406 rfl rfl (by decide) (Or.inl rfl) (Nat.le_of_ble_eq_true rfl) (Nat.le_of_ble_eq_true rfl) (RC.deep (by omega) (s_o_tb_put (d := d) _ _ _ _ _ h1)) ?_
    show RR KO _ 625 181 [(6, .int r3), (0, .ref 2), (3, .int v3), (4, .int v4), (5, .int v5)] [] S10 _ _
    refine RR.weak [] trivial ?_
    exact s_o_rd_readLine_181 _ h
  · refine RR.c_ne (fun q => absurd q c) (fun _ => ?_)
    refine RR.weak [] trivial ?_
    exact s_o_rd_readLine_181 _ h
def o_rd_readLine_38 (v1 : Nat) (v2 : Nat) (S : St) : Re Unit :=
  bn (o_tb_full 110 S) fun r1 S2 =>
  bn (o_rd_open r1 S2) fun r3 S4 =>
  if ((KO.1 v2).1 < 8 ∨ (KO.1 v2).1 = 20) ∧ ((KO.1 1029).1 < 8 ∨ (KO.1 1029).1 = 20) then (
if v2 = 1029 then (
    bn (o_rd_personHere v1 S4) fun r6 S7 =>
    bn (o_tp_step S7) fun r8 S9 =>
    bn (o_rd_soundHere v1 S9) fun r10 S11 =>
    bn (o_tp_step S11) fun r12 S13 =>
    o_rd_readLine_120 (1 : Int32) r6 r10 S13)
  else (
    if ((KO.1 v2).1 < 8 ∨ (KO.1 v2).1 = 20) ∧ ((KO.1 1030).1 < 8 ∨ (KO.1 1030).1 = 20) then (
if v2 = 1030 then (
      bn (o_rd_appleHere v1 S4) fun r15 S16 =>
      bn (o_tp_step S16) fun r17 S18 =>
      o_rd_readLine_120 (2 : Int32) r15 (0 : Int32) S18)
    else (
      o_rd_readLine_120 (0 : Int32) (0 : Int32) (0 : Int32) S4)) else none)) else none
set_option maxRecDepth 100000 in
theorem s_o_rd_readLine_38 {d : Nat} {S' : St} {r : Unit} (v1 : Nat) (v2 : Nat) (S : St) (h : o_rd_readLine_38 v1 v2 S = some (r, S')) : RR KO (d + 4) 625 38 [(0, .ref 2), (1, .ref v1), (2, .ref v2)] [] S none S' := by
  unfold o_rd_readLine_38 at h
  refine RR.runs (pc' := 43) (lc' := [(0, .ref 2), (1, .ref v1), (2, .ref v2)]) (st' := [.ref 110, .ref 2]) (S1 := S) (nL := 7) (cd := cd_625) mx_625 rfl rfl 3 rfl ?_
  obtain ⟨r1, S2, h1, h⟩ := bnE h
  refine RR.callV (b := 110) (as := []) (rest := [.ref 2]) (r1 := (some (.int r1))) (S1 := S2) mx_625 rfl rfl mx_1403 rfl rfl (by decide) (Or.inl rfl) (Nat.le_of_ble_eq_true rfl) (Nat.le_of_ble_eq_true rfl) (RC.deep (by omega) (s_o_tb_full (d := d) _ _ h1)) ?_
  show RR KO _ 625 46 [(0, .ref 2), (1, .ref v1), (2, .ref v2)] [.int r1, .ref 2] S2 _ _
  obtain ⟨r3, S4, h1, h⟩ := bnE h
  refine RR.callV (b := 2) (as := [.int r1]) (rest := []) (r1 := none) (S1 := S4) mx_625 rfl rfl mx_606 rfl rfl (by decide) (Or.inl rfl) (Nat.le_of_ble_eq_true rfl) (Nat.le_of_ble_eq_true rfl) (RC.deep (by omega) (s_o_rd_open (d := d) _ _ h1)) ?_
  show RR KO _ 625 49 [(0, .ref 2), (1, .ref v1), (2, .ref v2)] [] S4 _ _
  refine RR.runs (pc' := 61) (lc' := [(5, .int (0 : Int32)), (4, .int (0 : Int32)), (3, .int (0 : Int32)), (0, .ref 2), (1, .ref v1), (2, .ref v2)]) (st' := [.ref 1029, .ref v2]) (S1 := S4) (nL := 7) (cd := cd_625) mx_625 rfl rfl 8 rfl ?_
  obtain ⟨g5, h⟩ := gpE h
  refine RR.gP (pc' := acm .ne v2 1029 97 64) (lc' := [(5, .int (0 : Int32)), (4, .int (0 : Int32)), (3, .int (0 : Int32)), (0, .ref 2), (1, .ref v1), (2, .ref v2)]) (st' := []) (S1 := S4) (nL := 7) (cd := cd_625) mx_625 rfl rfl rfl g5 ?_
  rcases ifE h with ⟨c, h⟩ | ⟨c, h⟩
  · refine RR.a_ne (fun _ => ?_) (fun q => absurd c q)
    refine RR.runs (pc' := 68) (lc' := [(3, .int (1 : Int32)), (5, .int (0 : Int32)), (4, .int (0 : Int32)), (0, .ref 2), (1, .ref v1), (2, .ref v2)]) (st' := [.ref v1, .ref 2]) (S1 := S4) (nL := 7) (cd := cd_625) mx_625 rfl rfl 4 rfl ?_
    obtain ⟨r6, S7, h1, h⟩ := bnE h
    refine RR.callV (b := 2) (as := [.ref v1]) (rest := []) (r1 := (some (.int r6))) (S1 := S7) mx_625 rfl rfl mx_612 rfl rfl (by decide) (Or.inl rfl) (Nat.le_of_ble_eq_true rfl) (Nat.le_of_ble_eq_true rfl) (RC.deep (by omega) (s_o_rd_personHere (d := d) _ _ h1)) ?_
    show RR KO _ 625 71 [(3, .int (1 : Int32)), (5, .int (0 : Int32)), (4, .int (0 : Int32)), (0, .ref 2), (1, .ref v1), (2, .ref v2)] [.int r6] S7 _ _
    refine RR.runs (pc' := 77) (lc' := [(4, .int r6), (3, .int (1 : Int32)), (5, .int (0 : Int32)), (0, .ref 2), (1, .ref v1), (2, .ref v2)]) (st' := [.ref 3]) (S1 := S7) (nL := 7) (cd := cd_625) mx_625 rfl rfl 3 rfl ?_
    obtain ⟨r8, S9, h1, h⟩ := bnE h
    refine RR.callV (b := 3) (as := []) (rest := []) (r1 := none) (S1 := S9) mx_625 rfl rfl mx_1605 rfl rfl (by decide) (Or.inl rfl) (Nat.le_of_ble_eq_true rfl) (Nat.le_of_ble_eq_true rfl) (RC.deep (by omega) (s_o_tp_step (d := d) _ h1)) ?_
    show RR KO _ 625 80 [(4, .int r6), (3, .int (1 : Int32)), (5, .int (0 : Int32)), (0, .ref 2), (1, .ref v1), (2, .ref v2)] [] S9 _ _
    refine RR.runs (pc' := 82) (lc' := [(4, .int r6), (3, .int (1 : Int32)), (5, .int (0 : Int32)), (0, .ref 2), (1, .ref v1), (2, .ref v2)]) (st' := [.ref v1, .ref 2]) (S1 := S9) (nL := 7) (cd := cd_625) mx_625 rfl rfl 2 rfl ?_
    obtain ⟨r10, S11, h1, h⟩ := bnE h
    refine RR.callV (b := 2) (as := [.ref v1]) (rest := []) (r1 := (some (.int r10))) (S1 := S11) mx_625 rfl rfl mx_610 rfl rfl (by decide) (Or.inl rfl) (Nat.le_of_ble_eq_true rfl) (Nat.le_of_ble_eq_true rfl) (RC.deep (by omega) (s_o_rd_soundHere (d := d) _ _ h1)) ?_
    show RR KO _ 625 85 [(4, .int r6), (3, .int (1 : Int32)), (5, .int (0 : Int32)), (0, .ref 2), (1, .ref v1), (2, .ref v2)] [.int r10] S11 _ _
    refine RR.runs (pc' := 91) (lc' := [(5, .int r10), (4, .int r6), (3, .int (1 : Int32)), (0, .ref 2), (1, .ref v1), (2, .ref v2)]) (st' := [.ref 3]) (S1 := S11) (nL := 7) (cd := cd_625) mx_625 rfl rfl 3 rfl ?_
    obtain ⟨r12, S13, h1, h⟩ := bnE h
    refine RR.callV (b := 3) (as := []) (rest := []) (r1 := none) (S1 := S13) mx_625 rfl rfl mx_1605 rfl rfl (by decide) (Or.inl rfl) (Nat.le_of_ble_eq_true rfl) (Nat.le_of_ble_eq_true rfl) (RC.deep (by omega) (s_o_tp_step (d := d) _ h1)) ?_
    show RR KO _ 625 94 [(5, .int r10), (4, .int r6), (3, .int (1 : Int32)), (0, .ref 2), (1, .ref v1), (2, .ref v2)] [] S13 _ _
    refine RR.runs (pc' := 120) (lc' := [(5, .int r10), (4, .int r6), (3, .int (1 : Int32)), (0, .ref 2), (1, .ref v1), (2, .ref v2)]) (st' := []) (S1 := S13) (nL := 7) (cd := cd_625) mx_625 rfl rfl 1 rfl ?_
    refine RR.weak [(0, .ref 2), (3, .int (1 : Int32)), (4, .int r6), (5, .int r10)] ⟨rfl, rfl, rfl, rfl, trivial⟩ ?_
    exact s_o_rd_readLine_120 _ _ _ _ h
  · refine RR.a_ne (fun q => absurd q c) (fun _ => ?_)
    refine RR.runs (pc' := 101) (lc' := [(5, .int (0 : Int32)), (4, .int (0 : Int32)), (3, .int (0 : Int32)), (0, .ref 2), (1, .ref v1), (2, .ref v2)]) (st' := [.ref 1030, .ref v2]) (S1 := S4) (nL := 7) (cd := cd_625) mx_625 rfl rfl 2 rfl ?_
    obtain ⟨g14, h⟩ := gpE h
    refine RR.gP (pc' := acm .ne v2 1030 120 104) (lc' := [(5, .int (0 : Int32)), (4, .int (0 : Int32)), (3, .int (0 : Int32)), (0, .ref 2), (1, .ref v1), (2, .ref v2)]) (st' := []) (S1 := S4) (nL := 7) (cd := cd_625) mx_625 rfl rfl rfl g14 ?_
    rcases ifE h with ⟨c, h⟩ | ⟨c, h⟩
    · refine RR.a_ne (fun _ => ?_) (fun q => absurd c q)
      refine RR.runs (pc' := 108) (lc' := [(3, .int (2 : Int32)), (5, .int (0 : Int32)), (4, .int (0 : Int32)), (0, .ref 2), (1, .ref v1), (2, .ref v2)]) (st' := [.ref v1, .ref 2]) (S1 := S4) (nL := 7) (cd := cd_625) mx_625 rfl rfl 4 rfl ?_
      obtain ⟨r15, S16, h1, h⟩ := bnE h
      refine RR.callV (b := 2) (as := [.ref v1]) (rest := []) (r1 := (some (.int r15))) (S1 := S16) mx_625 rfl rfl mx_611 rfl rfl (by decide) (Or.inl rfl) (Nat.le_of_ble_eq_true rfl) (Nat.le_of_ble_eq_true rfl) (RC.deep (by omega) (s_o_rd_appleHere (d := d) _ _ h1)) ?_
      show RR KO _ 625 111 [(3, .int (2 : Int32)), (5, .int (0 : Int32)), (4, .int (0 : Int32)), (0, .ref 2), (1, .ref v1), (2, .ref v2)] [.int r15] S16 _ _
      refine RR.runs (pc' := 117) (lc' := [(4, .int r15), (3, .int (2 : Int32)), (5, .int (0 : Int32)), (0, .ref 2), (1, .ref v1), (2, .ref v2)]) (st' := [.ref 3]) (S1 := S16) (nL := 7) (cd := cd_625) mx_625 rfl rfl 3 rfl ?_
      obtain ⟨r17, S18, h1, h⟩ := bnE h
      refine RR.callV (b := 3) (as := []) (rest := []) (r1 := none) (S1 := S18) mx_625 rfl rfl mx_1605 rfl rfl (by decide) (Or.inl rfl) (Nat.le_of_ble_eq_true rfl) (Nat.le_of_ble_eq_true rfl) (RC.deep (by omega) (s_o_tp_step (d := d) _ h1)) ?_
      show RR KO _ 625 120 [(4, .int r15), (3, .int (2 : Int32)), (5, .int (0 : Int32)), (0, .ref 2), (1, .ref v1), (2, .ref v2)] [] S18 _ _
      refine RR.weak [(0, .ref 2), (3, .int (2 : Int32)), (4, .int r15), (5, .int (0 : Int32))] ⟨rfl, rfl, rfl, rfl, trivial⟩ ?_
      exact s_o_rd_readLine_120 _ _ _ _ h
    · refine RR.a_ne (fun q => absurd q c) (fun _ => ?_)
      refine RR.weak [(0, .ref 2), (3, .int (0 : Int32)), (4, .int (0 : Int32)), (5, .int (0 : Int32))] ⟨rfl, rfl, rfl, rfl, trivial⟩ ?_
      exact s_o_rd_readLine_120 _ _ _ _ h
def o_rd_readLine (v1 : Nat) (S : St) : Re Unit :=
  oq (rQ S 3 6) none fun o1 =>
  if ((KO.1 o1).1 < 8 ∨ (KO.1 o1).1 = 20) ∧ ((KO.1 1029).1 < 8 ∨ (KO.1 1029).1 = 20) then (
if o1 = 1029 then (
    o_rd_readLine_38 v1 o1 S)
  else (
    if ((KO.1 o1).1 < 8 ∨ (KO.1 o1).1 = 20) ∧ ((KO.1 1030).1 < 8 ∨ (KO.1 1030).1 = 20) then (
if o1 = 1030 then (
      o_rd_readLine_38 v1 o1 S)
    else (
      if ((KO.1 o1).1 < 8 ∨ (KO.1 o1).1 = 20) ∧ ((KO.1 1031).1 < 8 ∨ (KO.1 1031).1 = 20) then (
if o1 = 1031 then (
        o_rd_readLine_38 v1 o1 S)
      else (
        bn (o_tp_wrong (1 : Int32) S) fun r5 S6 =>
        some ((), S6))) else none)) else none)) else none
set_option maxRecDepth 100000 in
theorem s0_o_rd_readLine {d : Nat} {S' : St} {r : Unit} (v1 : Nat) (S : St) (h : o_rd_readLine v1 S = some (r, S')) : RR KO (d + 4) 625 0 [(0, .ref 2), (1, .ref v1)] [] S none S' := by
  unfold o_rd_readLine at h
  refine RR.runs (pc' := 7) (lc' := [(0, .ref 2), (1, .ref v1)]) (st' := [qv (rQ S 3 6)]) (S1 := S) (nL := 7) (cd := cd_625) mx_625 rfl rfl 3 rfl ?_
  rcases oqE h with ⟨e1, h⟩ | ⟨o1, eo1, h⟩
  · cases h
  rw [eo1]
  refine RR.runs (pc' := 12) (lc' := [(2, .ref o1), (0, .ref 2), (1, .ref v1)]) (st' := [.ref 1029, .ref o1]) (S1 := S) (nL := 7) (cd := cd_625) mx_625 rfl rfl 3 rfl ?_
  obtain ⟨g2, h⟩ := gpE h
  refine RR.gP (pc' := acm .eq o1 1029 38 15) (lc' := [(2, .ref o1), (0, .ref 2), (1, .ref v1)]) (st' := []) (S1 := S) (nL := 7) (cd := cd_625) mx_625 rfl rfl rfl g2 ?_
  rcases ifE h with ⟨c, h⟩ | ⟨c, h⟩
  · refine RR.a_eq (fun _ => ?_) (fun q => absurd c q)
    refine RR.weak [(0, .ref 2), (1, .ref v1), (2, .ref o1)] ⟨rfl, rfl, rfl, trivial⟩ ?_
    exact s_o_rd_readLine_38 _ _ _ h
  · refine RR.a_eq (fun q => absurd q c) (fun _ => ?_)
    refine RR.runs (pc' := 19) (lc' := [(2, .ref o1), (0, .ref 2), (1, .ref v1)]) (st' := [.ref 1030, .ref o1]) (S1 := S) (nL := 7) (cd := cd_625) mx_625 rfl rfl 2 rfl ?_
    obtain ⟨g3, h⟩ := gpE h
    refine RR.gP (pc' := acm .eq o1 1030 38 22) (lc' := [(2, .ref o1), (0, .ref 2), (1, .ref v1)]) (st' := []) (S1 := S) (nL := 7) (cd := cd_625) mx_625 rfl rfl rfl g3 ?_
    rcases ifE h with ⟨c, h⟩ | ⟨c, h⟩
    · refine RR.a_eq (fun _ => ?_) (fun q => absurd c q)
      refine RR.weak [(0, .ref 2), (1, .ref v1), (2, .ref o1)] ⟨rfl, rfl, rfl, trivial⟩ ?_
      exact s_o_rd_readLine_38 _ _ _ h
    · refine RR.a_eq (fun q => absurd q c) (fun _ => ?_)
      refine RR.runs (pc' := 26) (lc' := [(2, .ref o1), (0, .ref 2), (1, .ref v1)]) (st' := [.ref 1031, .ref o1]) (S1 := S) (nL := 7) (cd := cd_625) mx_625 rfl rfl 2 rfl ?_
      obtain ⟨g4, h⟩ := gpE h
      refine RR.gP (pc' := acm .eq o1 1031 38 29) (lc' := [(2, .ref o1), (0, .ref 2), (1, .ref v1)]) (st' := []) (S1 := S) (nL := 7) (cd := cd_625) mx_625 rfl rfl rfl g4 ?_
      rcases ifE h with ⟨c, h⟩ | ⟨c, h⟩
      · refine RR.a_eq (fun _ => ?_) (fun q => absurd c q)
        refine RR.weak [(0, .ref 2), (1, .ref v1), (2, .ref o1)] ⟨rfl, rfl, rfl, trivial⟩ ?_
        exact s_o_rd_readLine_38 _ _ _ h
      · refine RR.a_eq (fun q => absurd q c) (fun _ => ?_)
        refine RR.runs (pc' := 34) (lc' := [(2, .ref o1), (0, .ref 2), (1, .ref v1)]) (st' := [.int (1 : Int32), .ref 3]) (S1 := S) (nL := 7) (cd := cd_625) mx_625 rfl rfl 3 rfl ?_
        obtain ⟨r5, S6, h1, h⟩ := bnE h
        refine RR.callV (b := 3) (as := [.int (1 : Int32)]) (rest := []) (r1 := none) (S1 := S6) mx_625 rfl rfl mx_1603 rfl rfl (by decide) (Or.inl rfl) (Nat.le_of_ble_eq_true rfl) (Nat.le_of_ble_eq_true rfl) (RC.deep (by omega) (s_o_tp_wrong (d := d) _ _ h1)) ?_
        show RR KO _ 625 37 [(2, .ref o1), (0, .ref 2), (1, .ref v1)] [] S6 _ _
        cases h
        exact RR.retv mx_625 rfl rfl rfl
theorem s_o_rd_readLine {d : Nat} {S' : St} {r : Unit} (v1 : Nat) (S : St) (h : o_rd_readLine v1 S = some (r, S')) : RC KO (d + 4) 625 [.ref 2, .ref v1] S none S' := RC.of rfl (s0_o_rd_readLine v1 S h)
-- NameOrchard$Reader readDays (LNameOrchard$Told;)I
def o_rd_readDays_41 (S : St) : Re Int32 :=
  bn (o_tp_clear S) fun r1 S2 =>
  some ((rI S2 3 7), S2)
set_option maxRecDepth 100000 in
theorem s_o_rd_readDays_41 {d : Nat} {S' : St} {r : Int32} (S : St) (h : o_rd_readDays_41 S = some (r, S')) : RR KO (d + 5) 602 41 [(0, .ref 2)] [] S (some (.int r)) S' := by
  unfold o_rd_readDays_41 at h
  refine RR.runs (pc' := 45) (lc' := [(0, .ref 2)]) (st' := [.ref 3]) (S1 := S) (nL := 3) (cd := cd_602) mx_602 rfl rfl 2 rfl ?_
  obtain ⟨r1, S2, h1, h⟩ := bnE h
  refine RR.callV (b := 3) (as := []) (rest := []) (r1 := none) (S1 := S2) mx_602 rfl rfl mx_1604 rfl rfl (by decide) (Or.inl rfl) (Nat.le_of_ble_eq_true rfl) (Nat.le_of_ble_eq_true rfl) (RC.deep (by omega) (s_o_tp_clear (d := d) _ h1)) ?_
  show RR KO _ 602 48 [(0, .ref 2)] [] S2 _ _
  refine RR.runs (pc' := 55) (lc' := [(0, .ref 2)]) (st' := [.int (rI S2 3 7)]) (S1 := S2) (nL := 3) (cd := cd_602) mx_602 rfl rfl 3 rfl ?_
  cases h
  exact RR.reti mx_602 rfl rfl rfl
def o_rd_readDays_16 : Nat → Nat → Int32 → St → Re Int32
  | 0, _, _, _ => none
  | n + 1, v1, v2, S =>
  if (1000 : Int32) < v2 then (
    o_rd_readDays_41 S)
  else (
    bn (o_rd_goesOn S) fun r1 S2 =>
    if r1 = 0 then (
      o_rd_readDays_41 S2)
    else (
      bn (o_rd_readLine v1 S2) fun r3 S4 =>
      lt' ((v2 + (1 : Int32)) : Int32) fun x5 =>
      o_rd_readDays_16 n v1 x5 S4))
set_option maxRecDepth 100000 in
theorem s_o_rd_readDays_16 {d : Nat} {S' : St} {r : Int32} : ∀ (n : Nat) (v1 : Nat) (v2 : Int32) (S : St), o_rd_readDays_16 n v1 v2 S = some (r, S') → RR KO (d + 5) 602 16 [(0, .ref 2), (1, .ref v1), (2, .int v2)] [] S (some (.int r)) S' := by
  intro n
  induction n with
  | zero => intro v1 v2 S h; simp only [o_rd_readDays_16] at h; cases h
  | succ n ih =>
    intro v1 v2 S h
    simp only [o_rd_readDays_16] at h
    refine RR.runs (pc' := icm .gt v2 (1000 : Int32) 41 23) (lc' := [(0, .ref 2), (1, .ref v1), (2, .int v2)]) (st' := []) (S1 := S) (nL := 3) (cd := cd_602) mx_602 rfl rfl 3 rfl ?_
    rcases ifE h with ⟨c, h⟩ | ⟨c, h⟩
    · refine RR.c_gt (fun _ => ?_) (fun q => absurd c q)
      refine RR.weak [(0, .ref 2)] ⟨rfl, trivial⟩ ?_
      exact s_o_rd_readDays_41 _ h
    · refine RR.c_gt (fun q => absurd q c) (fun _ => ?_)
      refine RR.runs (pc' := 24) (lc' := [(0, .ref 2), (1, .ref v1), (2, .int v2)]) (st' := [.ref 2]) (S1 := S) (nL := 3) (cd := cd_602) mx_602 rfl rfl 1 rfl ?_
      obtain ⟨r1, S2, h1, h⟩ := bnE h
      refine RR.callV (b := 2) (as := []) (rest := []) (r1 := (some (.int r1))) (S1 := S2) mx_602 rfl rfl mx_603 rfl rfl (by decide) (Or.inl rfl) (Nat.le_of_ble_eq_true rfl) (Nat.le_of_ble_eq_true rfl) (RC.deep (by omega) (s_o_rd_goesOn (d := d) _ h1)) ?_
      show RR KO _ 602 27 [(0, .ref 2), (1, .ref v1), (2, .int v2)] [.int r1] S2 _ _
      refine RR.runs (pc' := icm .eq r1 0 41 30) (lc' := [(0, .ref 2), (1, .ref v1), (2, .int v2)]) (st' := []) (S1 := S2) (nL := 3) (cd := cd_602) mx_602 rfl rfl 1 rfl ?_
      rcases ifE h with ⟨c, h⟩ | ⟨c, h⟩
      · refine RR.c_eq (fun _ => ?_) (fun q => absurd c q)
        refine RR.weak [(0, .ref 2)] ⟨rfl, trivial⟩ ?_
        exact s_o_rd_readDays_41 _ h
      · refine RR.c_eq (fun q => absurd q c) (fun _ => ?_)
        refine RR.runs (pc' := 32) (lc' := [(0, .ref 2), (1, .ref v1), (2, .int v2)]) (st' := [.ref v1, .ref 2]) (S1 := S2) (nL := 3) (cd := cd_602) mx_602 rfl rfl 2 rfl ?_
        obtain ⟨r3, S4, h1, h⟩ := bnE h
        refine RR.callV (b := 2) (as := [.ref v1]) (rest := []) (r1 := none) (S1 := S4) mx_602 rfl rfl mx_625 rfl rfl (by decide) (Or.inl rfl) (Nat.le_of_ble_eq_true rfl) (Nat.le_of_ble_eq_true rfl) (RC.deep (by omega) (s_o_rd_readLine (d := d) _ _ h1)) ?_
        show RR KO _ 602 35 [(0, .ref 2), (1, .ref v1), (2, .int v2)] [] S4 _ _
        refine RR.runs (pc' := 38) (lc' := [(2, .int ((v2 + (1 : Int32)))), (0, .ref 2), (1, .ref v1)]) (st' := []) (S1 := S4) (nL := 3) (cd := cd_602) mx_602 rfl rfl 1 rfl ?_
        obtain ⟨x5, ex5, h⟩ := ltE h
        rw [← ex5]
        refine RR.runs (pc' := 16) (lc' := [(2, .int x5), (0, .ref 2), (1, .ref v1)]) (st' := []) (S1 := S4) (nL := 3) (cd := cd_602) mx_602 rfl rfl 1 rfl ?_
        refine RR.weak [(0, .ref 2), (1, .ref v1), (2, .int x5)] ⟨rfl, rfl, rfl, trivial⟩ ?_
        exact ih _ _ _ h
def o_rd_readDays (v1 : Nat) (S : St) : Re Int32 :=
  bn (o_tb_clear 110 S) fun r1 S2 =>
  bn (o_tp_open S2) fun r3 S4 =>
  o_rd_readDays_16 FU v1 (0 : Int32) S4
set_option maxRecDepth 100000 in
theorem s0_o_rd_readDays {d : Nat} {S' : St} {r : Int32} (v1 : Nat) (S : St) (h : o_rd_readDays v1 S = some (r, S')) : RR KO (d + 5) 602 0 [(0, .ref 2), (1, .ref v1)] [] S (some (.int r)) S' := by
  unfold o_rd_readDays at h
  refine RR.runs (pc' := 4) (lc' := [(0, .ref 2), (1, .ref v1)]) (st' := [.ref 110]) (S1 := S) (nL := 3) (cd := cd_602) mx_602 rfl rfl 2 rfl ?_
  obtain ⟨r1, S2, h1, h⟩ := bnE h
  refine RR.callV (b := 110) (as := []) (rest := []) (r1 := none) (S1 := S2) mx_602 rfl rfl mx_1401 rfl rfl (by decide) (Or.inl rfl) (Nat.le_of_ble_eq_true rfl) (Nat.le_of_ble_eq_true rfl) (RC.deep (by omega) (s_o_tb_clear (d := d) _ _ h1)) ?_
  show RR KO _ 602 7 [(0, .ref 2), (1, .ref v1)] [] S2 _ _
  refine RR.runs (pc' := 11) (lc' := [(0, .ref 2), (1, .ref v1)]) (st' := [.ref 3]) (S1 := S2) (nL := 3) (cd := cd_602) mx_602 rfl rfl 2 rfl ?_
  obtain ⟨r3, S4, h1, h⟩ := bnE h
  refine RR.callV (b := 3) (as := []) (rest := []) (r1 := none) (S1 := S4) mx_602 rfl rfl mx_1602 rfl rfl (by decide) (Or.inl rfl) (Nat.le_of_ble_eq_true rfl) (Nat.le_of_ble_eq_true rfl) (RC.deep (by omega) (s_o_tp_open (d := d) _ h1)) ?_
  show RR KO _ 602 14 [(0, .ref 2), (1, .ref v1)] [] S4 _ _
  refine RR.runs (pc' := 16) (lc' := [(2, .int (0 : Int32)), (0, .ref 2), (1, .ref v1)]) (st' := []) (S1 := S4) (nL := 3) (cd := cd_602) mx_602 rfl rfl 2 rfl ?_
  refine RR.weak [(0, .ref 2), (1, .ref v1), (2, .int (0 : Int32))] ⟨rfl, rfl, rfl, trivial⟩ ?_
  exact s_o_rd_readDays_16 _ _ _ _ h
theorem s_o_rd_readDays {d : Nat} {S' : St} {r : Int32} (v1 : Nat) (S : St) (h : o_rd_readDays v1 S = some (r, S')) : RC KO (d + 5) 602 [.ref 2, .ref v1] S (some (.int r)) S' := RC.of rfl (s0_o_rd_readDays v1 S h)
