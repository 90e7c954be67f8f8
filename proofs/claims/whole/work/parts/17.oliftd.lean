/-! Methods of the class, lifted (laid by wip/whole/gen/klass.py) -/
-- NameOrchard$Told laneOf (I)I
def o_to_laneOf (v0 : Nat) (v1 : Int32) (S : St) : Re Int32 :=
  if KO.1 v0 = (0, 10) then (
  if KO.1 (v0 + 82) = (0, 7) then (
bn (o_tb_at (v0 + 82) v1 (0 : Int32) S) fun r3 S4 =>
  some (r3, S4)) else none) else none
set_option maxRecDepth 100000 in
theorem s0_o_to_laneOf {d : Nat} {S' : St} {r : Int32} (v0 : Nat) (v1 : Int32) (S : St) (h : o_to_laneOf v0 v1 S = some (r, S')) : RR KO (d + 2) 2011 0 [(0, .ref v0), (1, .int v1)] [] S (some (.int r)) S' := by
  unfold o_to_laneOf at h
  refine RR.runs (pc' := 1) (lc' := [(0, .ref v0), (1, .int v1)]) (st' := [.ref v0]) (S1 := S) (nL := 2) (cd := cd_2011) mx_2011 rfl rfl 1 rfl ?_
  obtain ⟨g1, h⟩ := gpE h
  refine RR.gPo (pc' := 4) (lc' := [(0, .ref v0), (1, .int v1)]) (st' := [.ref (v0 + 82)]) (S1 := S) (nL := 2) (cd := cd_2011) mx_2011 rfl rfl rfl ⟨g1, by decide, by decide⟩ ?_
  refine RR.runs (pc' := 6) (lc' := [(0, .ref v0), (1, .int v1)]) (st' := [.int (0 : Int32), .int v1, .ref (v0 + 82)]) (S1 := S) (nL := 2) (cd := cd_2011) mx_2011 rfl rfl 2 rfl ?_
  obtain ⟨g2, h⟩ := gpE h
  obtain ⟨r3, S4, h1, h⟩ := bnE h
  refine RR.callV (b := (v0 + 82)) (as := [.int v1, .int (0 : Int32)]) (rest := []) (r1 := (some (.int r3))) (S1 := S4) mx_2011 rfl rfl mx_1405 rfl rfl (by decide) (Or.inl g2) (Nat.le_of_ble_eq_true rfl) (Nat.le_of_ble_eq_true rfl) (RC.deep (by omega) (s_o_tb_at (d := d) _ _ _ _ h1)) ?_
  show RR KO _ 2011 9 [(0, .ref v0), (1, .int v1)] [.int r3] S4 _ _
  cases h
  exact RR.reti mx_2011 rfl rfl rfl
theorem s_o_to_laneOf {d : Nat} {S' : St} {r : Int32} (v0 : Nat) (v1 : Int32) (S : St) (h : o_to_laneOf v0 v1 S = some (r, S')) : RC KO (d + 2) 2011 [.ref v0, .int v1] S (some (.int r)) S' := RC.of rfl (s0_o_to_laneOf v0 v1 S h)
-- NameOrchard$Told loudOf (I)I
def o_to_loudOf (v0 : Nat) (v1 : Int32) (S : St) : Re Int32 :=
  if KO.1 v0 = (0, 10) then (
  if KO.1 (v0 + 82) = (0, 7) then (
bn (o_tb_at (v0 + 82) v1 (1 : Int32) S) fun r3 S4 =>
  some (r3, S4)) else none) else none
set_option maxRecDepth 100000 in
theorem s0_o_to_loudOf {d : Nat} {S' : St} {r : Int32} (v0 : Nat) (v1 : Int32) (S : St) (h : o_to_loudOf v0 v1 S = some (r, S')) : RR KO (d + 2) 2012 0 [(0, .ref v0), (1, .int v1)] [] S (some (.int r)) S' := by
  unfold o_to_loudOf at h
  refine RR.runs (pc' := 1) (lc' := [(0, .ref v0), (1, .int v1)]) (st' := [.ref v0]) (S1 := S) (nL := 2) (cd := cd_2012) mx_2012 rfl rfl 1 rfl ?_
  obtain ⟨g1, h⟩ := gpE h
  refine RR.gPo (pc' := 4) (lc' := [(0, .ref v0), (1, .int v1)]) (st' := [.ref (v0 + 82)]) (S1 := S) (nL := 2) (cd := cd_2012) mx_2012 rfl rfl rfl ⟨g1, by decide, by decide⟩ ?_
  refine RR.runs (pc' := 6) (lc' := [(0, .ref v0), (1, .int v1)]) (st' := [.int (1 : Int32), .int v1, .ref (v0 + 82)]) (S1 := S) (nL := 2) (cd := cd_2012) mx_2012 rfl rfl 2 rfl ?_
  obtain ⟨g2, h⟩ := gpE h
  obtain ⟨r3, S4, h1, h⟩ := bnE h
  refine RR.callV (b := (v0 + 82)) (as := [.int v1, .int (1 : Int32)]) (rest := []) (r1 := (some (.int r3))) (S1 := S4) mx_2012 rfl rfl mx_1405 rfl rfl (by decide) (Or.inl g2) (Nat.le_of_ble_eq_true rfl) (Nat.le_of_ble_eq_true rfl) (RC.deep (by omega) (s_o_tb_at (d := d) _ _ _ _ h1)) ?_
  show RR KO _ 2012 9 [(0, .ref v0), (1, .int v1)] [.int r3] S4 _ _
  cases h
  exact RR.reti mx_2012 rfl rfl rfl
theorem s_o_to_loudOf {d : Nat} {S' : St} {r : Int32} (v0 : Nat) (v1 : Int32) (S : St) (h : o_to_loudOf v0 v1 S = some (r, S')) : RC KO (d + 2) 2012 [.ref v0, .int v1] S (some (.int r)) S' := RC.of rfl (s0_o_to_loudOf v0 v1 S h)
-- java/lang/Math max (II)I
def o_j_max_10 (p0 : Int32) (S : St) : Re Int32 :=
  some (p0, S)
set_option maxRecDepth 100000 in
theorem s_o_j_max_10 {d : Nat} {S' : St} {r : Int32} (p0 : Int32) (S : St) (h : o_j_max_10 p0 S = some (r, S')) : RR KO (d + 0) 2601 10 [] [.int p0] S (some (.int r)) S' := by
  unfold o_j_max_10 at h
  cases h
  exact RR.reti mx_2601 rfl rfl rfl
def o_j_max (v0 : Int32) (v1 : Int32) (S : St) : Re Int32 :=
  if v0 < v1 then (
    o_j_max_10 v1 S)
  else (
    o_j_max_10 v0 S)
set_option maxRecDepth 100000 in
theorem s0_o_j_max {d : Nat} {S' : St} {r : Int32} (v0 : Int32) (v1 : Int32) (S : St) (h : o_j_max v0 v1 S = some (r, S')) : RR KO (d + 0) 2601 0 [(0, .int v0), (1, .int v1)] [] S (some (.int r)) S' := by
  unfold o_j_max at h
  refine RR.runs (pc' := icm .lt v0 v1 9 5) (lc' := [(0, .int v0), (1, .int v1)]) (st' := []) (S1 := S) (nL := 2) (cd := cd_2601) mx_2601 rfl rfl 3 rfl ?_
  rcases ifE h with ⟨c, h⟩ | ⟨c, h⟩
  · refine RR.c_lt (fun _ => ?_) (fun q => absurd c q)
    refine RR.runs (pc' := 10) (lc' := [(0, .int v0), (1, .int v1)]) (st' := [.int v1]) (S1 := S) (nL := 2) (cd := cd_2601) mx_2601 rfl rfl 1 rfl ?_
    refine RR.weak [] trivial ?_
    exact s_o_j_max_10 _ _ h
  · refine RR.c_lt (fun q => absurd q c) (fun _ => ?_)
    refine RR.runs (pc' := 10) (lc' := [(0, .int v0), (1, .int v1)]) (st' := [.int v0]) (S1 := S) (nL := 2) (cd := cd_2601) mx_2601 rfl rfl 2 rfl ?_
    refine RR.weak [] trivial ?_
    exact s_o_j_max_10 _ _ h
theorem s_o_j_max {d : Nat} {S' : St} {r : Int32} (v0 : Int32) (v1 : Int32) (S : St) (h : o_j_max v0 v1 S = some (r, S')) : RC KO (d + 0) 2601 [.int v0, .int v1] S (some (.int r)) S' := RC.of rfl (s0_o_j_max v0 v1 S h)
-- NameOrchard$Told within (II)I
def o_to_within_45 (v3 : Int32) (S : St) : Re Int32 :=
  some (v3, S)
set_option maxRecDepth 100000 in
theorem s_o_to_within_45 {d : Nat} {S' : St} {r : Int32} (v3 : Int32) (S : St) (h : o_to_within_45 v3 S = some (r, S')) : RR KO (d + 1) 2018 45 [(3, .int v3)] [] S (some (.int r)) S' := by
  unfold o_to_within_45 at h
  refine RR.runs (pc' := 46) (lc' := [(3, .int v3)]) (st' := [.int v3]) (S1 := S) (nL := 5) (cd := cd_2018) mx_2018 rfl rfl 1 rfl ?_
  cases h
  exact RR.reti mx_2018 rfl rfl rfl
def o_to_within_11 : Nat → Nat → Int32 → Int32 → Int32 → Int32 → St → Re Int32
  | 0, _, _, _, _, _, _ => none
  | n + 1, v0, v1, v2, v3, v4, S =>
  if (v1 + v2) < v4 then (
    o_to_within_45 v3 S)
  else (
    if KO.1 v0 = (0, 10) then (
    if 1 ≤ (KO.1 (v0 + 40)).1 ∧ (KO.1 (v0 + 40)).1 < 8 then (
    if v4 < (Int32.ofNat (KO.1 (v0 + 40)).2) then (
            if (KO.1 (v0 + 40)).1 = 1 then (
      if v4 < 0 ∨ (KO.1 (v0 + 40)).2 ≤ v4.toNatClampNeg then none else
      lt' ((v3 ||| (rI S (v0 + 40) v4.toNatClampNeg)) : Int32) fun x2 =>
      lt' ((v4 + (1 : Int32)) : Int32) fun x3 =>
      o_to_within_11 n v0 v1 v2 x2 x3 S) else none)
    else (
      o_to_within_45 v3 S)) else none) else none)
set_option maxRecDepth 100000 in
theorem s_o_to_within_11 {d : Nat} {S' : St} {r : Int32} : ∀ (n : Nat) (v0 : Nat) (v1 : Int32) (v2 : Int32) (v3 : Int32) (v4 : Int32) (S : St), o_to_within_11 n v0 v1 v2 v3 v4 S = some (r, S') → RR KO (d + 1) 2018 11 [(0, .ref v0), (1, .int v1), (2, .int v2), (3, .int v3), (4, .int v4)] [] S (some (.int r)) S' := by
  intro n
  induction n with
  | zero => intro v0 v1 v2 v3 v4 S h; simp only [o_to_within_11] at h; cases h
  | succ n ih =>
    intro v0 v1 v2 v3 v4 S h
    simp only [o_to_within_11] at h
    refine RR.runs (pc' := icm .gt v4 (v1 + v2) 45 19) (lc' := [(0, .ref v0), (1, .int v1), (2, .int v2), (3, .int v3), (4, .int v4)]) (st' := []) (S1 := S) (nL := 5) (cd := cd_2018) mx_2018 rfl rfl 5 rfl ?_
    rcases ifE h with ⟨c, h⟩ | ⟨c, h⟩
    · refine RR.c_gt (fun _ => ?_) (fun q => absurd c q)
      refine RR.weak [(3, .int v3)] ⟨rfl, trivial⟩ ?_
      exact s_o_to_within_45 _ _ h
    · refine RR.c_gt (fun q => absurd q c) (fun _ => ?_)
      refine RR.runs (pc' := 22) (lc' := [(0, .ref v0), (1, .int v1), (2, .int v2), (3, .int v3), (4, .int v4)]) (st' := [.ref v0, .int v4]) (S1 := S) (nL := 5) (cd := cd_2018) mx_2018 rfl rfl 2 rfl ?_
      obtain ⟨g1, h⟩ := gpE h
      refine RR.gPo (pc' := 25) (lc' := [(0, .ref v0), (1, .int v1), (2, .int v2), (3, .int v3), (4, .int v4)]) (st' := [.ref (v0 + 40), .int v4]) (S1 := S) (nL := 5) (cd := cd_2018) mx_2018 rfl rfl rfl ⟨g1, by decide, by decide⟩ ?_
      obtain ⟨g, h⟩ := gpE h
      refine RR.gP (pc' := 26) (lc' := [(0, .ref v0), (1, .int v1), (2, .int v2), (3, .int v3), (4, .int v4)]) (st' := [.int ((Int32.ofNat (KO.1 (v0 + 40)).2)), .int v4]) (S1 := S) (nL := 5) (cd := cd_2018) mx_2018 rfl rfl rfl g ?_
      refine RR.runs (pc' := icm .ge v4 ((Int32.ofNat (KO.1 (v0 + 40)).2)) 45 29) (lc' := [(0, .ref v0), (1, .int v1), (2, .int v2), (3, .int v3), (4, .int v4)]) (st' := []) (S1 := S) (nL := 5) (cd := cd_2018) mx_2018 rfl rfl 1 rfl ?_
      rcases ifE h with ⟨c, h⟩ | ⟨c, h⟩
      · refine RR.c_ge (fun _ => ?_) (fun q => absurd c q)
        refine RR.runs (pc' := 31) (lc' := [(0, .ref v0), (1, .int v1), (2, .int v2), (3, .int v3), (4, .int v4)]) (st' := [.ref v0, .int v3]) (S1 := S) (nL := 5) (cd := cd_2018) mx_2018 rfl rfl 2 rfl ?_
        refine RR.gPo (pc' := 34) (lc' := [(0, .ref v0), (1, .int v1), (2, .int v2), (3, .int v3), (4, .int v4)]) (st' := [.ref (v0 + 40), .int v3]) (S1 := S) (nL := 5) (cd := cd_2018) mx_2018 rfl rfl rfl ⟨g1, by decide, by decide⟩ ?_
        refine RR.runs (pc' := 36) (lc' := [(0, .ref v0), (1, .int v1), (2, .int v2), (3, .int v3), (4, .int v4)]) (st' := [.int v4, .ref (v0 + 40), .int v3]) (S1 := S) (nL := 5) (cd := cd_2018) mx_2018 rfl rfl 1 rfl ?_
        obtain ⟨gq, h⟩ := gpE h
        obtain ⟨g, h⟩ := gnE h
        refine RR.gPNo (c2 := (KO.1 (v0 + 40)).1 = 1) (pc' := 37) (lc' := [(0, .ref v0), (1, .int v1), (2, .int v2), (3, .int v3), (4, .int v4)]) (st' := [.int ((rI S (v0 + 40) v4.toNatClampNeg)), .int v3]) (S1 := S) (nL := 5) (cd := cd_2018) mx_2018 rfl rfl rfl gq g ?_
        refine RR.runs (pc' := 39) (lc' := [(3, .int ((v3 ||| (rI S (v0 + 40) v4.toNatClampNeg)))), (0, .ref v0), (1, .int v1), (2, .int v2), (4, .int v4)]) (st' := []) (S1 := S) (nL := 5) (cd := cd_2018) mx_2018 rfl rfl 2 rfl ?_
        obtain ⟨x2, ex2, h⟩ := ltE h
        rw [← ex2]
        refine RR.runs (pc' := 42) (lc' := [(4, .int ((v4 + (1 : Int32)))), (3, .int x2), (0, .ref v0), (1, .int v1), (2, .int v2)]) (st' := []) (S1 := S) (nL := 5) (cd := cd_2018) mx_2018 rfl rfl 1 rfl ?_
        obtain ⟨x3, ex3, h⟩ := ltE h
        rw [← ex3]
        refine RR.runs (pc' := 11) (lc' := [(4, .int x3), (3, .int x2), (0, .ref v0), (1, .int v1), (2, .int v2)]) (st' := []) (S1 := S) (nL := 5) (cd := cd_2018) mx_2018 rfl rfl 1 rfl ?_
        refine RR.weak [(0, .ref v0), (1, .int v1), (2, .int v2), (3, .int x2), (4, .int x3)] ⟨rfl, rfl, rfl, rfl, rfl, trivial⟩ ?_
        exact ih _ _ _ _ _ _ h
      · refine RR.c_ge (fun q => absurd q c) (fun _ => ?_)
        refine RR.weak [(3, .int v3)] ⟨rfl, trivial⟩ ?_
        exact s_o_to_within_45 _ _ h
def o_to_within (v0 : Nat) (v1 : Int32) (v2 : Int32) (S : St) : Re Int32 :=
  bn (o_j_max (0 : Int32) (v1 - v2) S) fun r1 S2 =>
  o_to_within_11 FU v0 v1 v2 (0 : Int32) r1 S2
set_option maxRecDepth 100000 in
theorem s0_o_to_within {d : Nat} {S' : St} {r : Int32} (v0 : Nat) (v1 : Int32) (v2 : Int32) (S : St) (h : o_to_within v0 v1 v2 S = some (r, S')) : RR KO (d + 1) 2018 0 [(0, .ref v0), (1, .int v1), (2, .int v2)] [] S (some (.int r)) S' := by
  unfold o_to_within at h
  refine RR.runs (pc' := 6) (lc' := [(3, .int (0 : Int32)), (0, .ref v0), (1, .int v1), (2, .int v2)]) (st' := [.int (v1 - v2), .int (0 : Int32)]) (S1 := S) (nL := 5) (cd := cd_2018) mx_2018 rfl rfl 6 rfl ?_
  obtain ⟨r1, S2, h1, h⟩ := bnE h
  refine RR.callS (as := [.int (0 : Int32), .int (v1 - v2)]) (rest := []) (r1 := (some (.int r1))) (S1 := S2) mx_2018 rfl rfl mx_2601 rfl rfl (by decide) (Nat.le_of_ble_eq_true rfl) (Nat.le_of_ble_eq_true rfl) (Nat.le_of_ble_eq_true rfl) (RC.deep (by omega) (s_o_j_max (d := d) _ _ _ h1)) ?_
  show RR KO _ 2018 9 [(3, .int (0 : Int32)), (0, .ref v0), (1, .int v1), (2, .int v2)] [.int r1] S2 _ _
  refine RR.runs (pc' := 11) (lc' := [(4, .int r1), (3, .int (0 : Int32)), (0, .ref v0), (1, .int v1), (2, .int v2)]) (st' := []) (S1 := S2) (nL := 5) (cd := cd_2018) mx_2018 rfl rfl 1 rfl ?_
  refine RR.weak [(0, .ref v0), (1, .int v1), (2, .int v2), (3, .int (0 : Int32)), (4, .int r1)] ⟨rfl, rfl, rfl, rfl, rfl, trivial⟩ ?_
  exact s_o_to_within_11 _ _ _ _ _ _ _ h
theorem s_o_to_within {d : Nat} {S' : St} {r : Int32} (v0 : Nat) (v1 : Int32) (v2 : Int32) (S : St) (h : o_to_within v0 v1 v2 S = some (r, S')) : RC KO (d + 1) 2018 [.ref v0, .int v1, .int v2] S (some (.int r)) S' := RC.of rfl (s0_o_to_within v0 v1 v2 S h)
-- NameOrchard$Told hasPerson (I)Z
def o_to_hasPerson_20 (p0 : Int32) (S : St) : Re Int32 :=
  if isBo p0 = true then some (p0, S) else none
set_option maxRecDepth 100000 in
theorem s_o_to_hasPerson_20 {d : Nat} {S' : St} {r : Int32} (p0 : Int32) (S : St) (h : o_to_hasPerson_20 p0 S = some (r, S')) : RR KO (d + 1) 2007 20 [] [.int p0] S (some (.int r)) S' := by
  unfold o_to_hasPerson_20 at h
  obtain ⟨g, h⟩ := gpE h
  cases h
  exact RR.retz mx_2007 rfl rfl rfl g
def o_to_hasPerson_19 (S : St) : Re Int32 :=
  o_to_hasPerson_20 (0 : Int32) S
set_option maxRecDepth 100000 in
theorem s_o_to_hasPerson_19 {d : Nat} {S' : St} {r : Int32} (S : St) (h : o_to_hasPerson_19 S = some (r, S')) : RR KO (d + 1) 2007 19 [] [] S (some (.int r)) S' := by
  unfold o_to_hasPerson_19 at h
  refine RR.runs (pc' := 20) (lc' := []) (st' := [.int (0 : Int32)]) (S1 := S) (nL := 2) (cd := cd_2007) mx_2007 rfl rfl 1 rfl ?_
  refine RR.weak [] trivial ?_
  exact s_o_to_hasPerson_20 _ _ h
def o_to_hasPerson (v0 : Nat) (v1 : Int32) (S : St) : Re Int32 :=
  if v1 < 0 then (
    o_to_hasPerson_19 S)
  else (
    if KO.1 v0 = (0, 10) then (
    if KO.1 (v0 + 82) = (0, 7) then (
bn (o_tb_size (v0 + 82) S) fun r3 S4 =>
    if v1 < r3 then (
      o_to_hasPerson_20 (1 : Int32) S4)
    else (
      o_to_hasPerson_19 S4)) else none) else none)
set_option maxRecDepth 100000 in
theorem s0_o_to_hasPerson {d : Nat} {S' : St} {r : Int32} (v0 : Nat) (v1 : Int32) (S : St) (h : o_to_hasPerson v0 v1 S = some (r, S')) : RR KO (d + 1) 2007 0 [(0, .ref v0), (1, .int v1)] [] S (some (.int r)) S' := by
  unfold o_to_hasPerson at h
  refine RR.runs (pc' := icm .lt v1 0 19 4) (lc' := [(0, .ref v0), (1, .int v1)]) (st' := []) (S1 := S) (nL := 2) (cd := cd_2007) mx_2007 rfl rfl 2 rfl ?_
  rcases ifE h with ⟨c, h⟩ | ⟨c, h⟩
  · refine RR.c_lt (fun _ => ?_) (fun q => absurd c q)
    refine RR.weak [] trivial ?_
    exact s_o_to_hasPerson_19 _ h
  · refine RR.c_lt (fun q => absurd q c) (fun _ => ?_)
    refine RR.runs (pc' := 6) (lc' := [(0, .ref v0), (1, .int v1)]) (st' := [.ref v0, .int v1]) (S1 := S) (nL := 2) (cd := cd_2007) mx_2007 rfl rfl 2 rfl ?_
    obtain ⟨g1, h⟩ := gpE h
    refine RR.gPo (pc' := 9) (lc' := [(0, .ref v0), (1, .int v1)]) (st' := [.ref (v0 + 82), .int v1]) (S1 := S) (nL := 2) (cd := cd_2007) mx_2007 rfl rfl rfl ⟨g1, by decide, by decide⟩ ?_
    obtain ⟨g2, h⟩ := gpE h
    obtain ⟨r3, S4, h1, h⟩ := bnE h
    refine RR.callV (b := (v0 + 82)) (as := []) (rest := [.int v1]) (r1 := (some (.int r3))) (S1 := S4) mx_2007 rfl rfl mx_1402 rfl rfl (by decide) (Or.inl g2) (Nat.le_of_ble_eq_true rfl) (Nat.le_of_ble_eq_true rfl) (RC.deep (by omega) (s_o_tb_size (d := d) _ _ h1)) ?_
    show RR KO _ 2007 12 [(0, .ref v0), (1, .int v1)] [.int r3, .int v1] S4 _ _
    refine RR.runs (pc' := icm .ge v1 r3 19 15) (lc' := [(0, .ref v0), (1, .int v1)]) (st' := []) (S1 := S4) (nL := 2) (cd := cd_2007) mx_2007 rfl rfl 1 rfl ?_
    rcases ifE h with ⟨c, h⟩ | ⟨c, h⟩
    · refine RR.c_ge (fun _ => ?_) (fun q => absurd c q)
      refine RR.runs (pc' := 20) (lc' := [(0, .ref v0), (1, .int v1)]) (st' := [.int (1 : Int32)]) (S1 := S4) (nL := 2) (cd := cd_2007) mx_2007 rfl rfl 2 rfl ?_
      refine RR.weak [] trivial ?_
      exact s_o_to_hasPerson_20 _ _ h
    · refine RR.c_ge (fun q => absurd q c) (fun _ => ?_)
      refine RR.weak [] trivial ?_
      exact s_o_to_hasPerson_19 _ h
theorem s_o_to_hasPerson {d : Nat} {S' : St} {r : Int32} (v0 : Nat) (v1 : Int32) (S : St) (h : o_to_hasPerson v0 v1 S = some (r, S')) : RC KO (d + 1) 2007 [.ref v0, .int v1] S (some (.int r)) S' := RC.of rfl (s0_o_to_hasPerson v0 v1 S h)
-- NameOrchard$Told hasSound (I)Z
def o_to_hasSound_20 (p0 : Int32) (S : St) : Re Int32 :=
  if isBo p0 = true then some (p0, S) else none
set_option maxRecDepth 100000 in
theorem s_o_to_hasSound_20 {d : Nat} {S' : St} {r : Int32} (p0 : Int32) (S : St) (h : o_to_hasSound_20 p0 S = some (r, S')) : RR KO (d + 1) 2006 20 [] [.int p0] S (some (.int r)) S' := by
  unfold o_to_hasSound_20 at h
  obtain ⟨g, h⟩ := gpE h
  cases h
  exact RR.retz mx_2006 rfl rfl rfl g
def o_to_hasSound_19 (S : St) : Re Int32 :=
  o_to_hasSound_20 (0 : Int32) S
set_option maxRecDepth 100000 in
theorem s_o_to_hasSound_19 {d : Nat} {S' : St} {r : Int32} (S : St) (h : o_to_hasSound_19 S = some (r, S')) : RR KO (d + 1) 2006 19 [] [] S (some (.int r)) S' := by
  unfold o_to_hasSound_19 at h
  refine RR.runs (pc' := 20) (lc' := []) (st' := [.int (0 : Int32)]) (S1 := S) (nL := 2) (cd := cd_2006) mx_2006 rfl rfl 1 rfl ?_
  refine RR.weak [] trivial ?_
  exact s_o_to_hasSound_20 _ _ h
def o_to_hasSound (v0 : Nat) (v1 : Int32) (S : St) : Re Int32 :=
  if v1 < 0 then (
    o_to_hasSound_19 S)
  else (
    if KO.1 v0 = (0, 10) then (
    if KO.1 (v0 + 2) = (0, 2) then (
bn (o_na_size (v0 + 2) S) fun r3 S4 =>
    if v1 < r3 then (
      o_to_hasSound_20 (1 : Int32) S4)
    else (
      o_to_hasSound_19 S4)) else none) else none)
set_option maxRecDepth 100000 in
theorem s0_o_to_hasSound {d : Nat} {S' : St} {r : Int32} (v0 : Nat) (v1 : Int32) (S : St) (h : o_to_hasSound v0 v1 S = some (r, S')) : RR KO (d + 1) 2006 0 [(0, .ref v0), (1, .int v1)] [] S (some (.int r)) S' := by
  unfold o_to_hasSound at h
  refine RR.runs (pc' := icm .lt v1 0 19 4) (lc' := [(0, .ref v0), (1, .int v1)]) (st' := []) (S1 := S) (nL := 2) (cd := cd_2006) mx_2006 rfl rfl 2 rfl ?_
  rcases ifE h with ⟨c, h⟩ | ⟨c, h⟩
  · refine RR.c_lt (fun _ => ?_) (fun q => absurd c q)
    refine RR.weak [] trivial ?_
    exact s_o_to_hasSound_19 _ h
  · refine RR.c_lt (fun q => absurd q c) (fun _ => ?_)
    refine RR.runs (pc' := 6) (lc' := [(0, .ref v0), (1, .int v1)]) (st' := [.ref v0, .int v1]) (S1 := S) (nL := 2) (cd := cd_2006) mx_2006 rfl rfl 2 rfl ?_
    obtain ⟨g1, h⟩ := gpE h
    refine RR.gPo (pc' := 9) (lc' := [(0, .ref v0), (1, .int v1)]) (st' := [.ref (v0 + 2), .int v1]) (S1 := S) (nL := 2) (cd := cd_2006) mx_2006 rfl rfl rfl ⟨g1, by decide, by decide⟩ ?_
    obtain ⟨g2, h⟩ := gpE h
    obtain ⟨r3, S4, h1, h⟩ := bnE h
    refine RR.callV (b := (v0 + 2)) (as := []) (rest := [.int v1]) (r1 := (some (.int r3))) (S1 := S4) mx_2006 rfl rfl mx_403 rfl rfl (by decide) (Or.inl g2) (Nat.le_of_ble_eq_true rfl) (Nat.le_of_ble_eq_true rfl) (RC.deep (by omega) (s_o_na_size (d := d) _ _ h1)) ?_
    show RR KO _ 2006 12 [(0, .ref v0), (1, .int v1)] [.int r3, .int v1] S4 _ _
    refine RR.runs (pc' := icm .ge v1 r3 19 15) (lc' := [(0, .ref v0), (1, .int v1)]) (st' := []) (S1 := S4) (nL := 2) (cd := cd_2006) mx_2006 rfl rfl 1 rfl ?_
    rcases ifE h with ⟨c, h⟩ | ⟨c, h⟩
    · refine RR.c_ge (fun _ => ?_) (fun q => absurd c q)
      refine RR.runs (pc' := 20) (lc' := [(0, .ref v0), (1, .int v1)]) (st' := [.int (1 : Int32)]) (S1 := S4) (nL := 2) (cd := cd_2006) mx_2006 rfl rfl 2 rfl ?_
      refine RR.weak [] trivial ?_
      exact s_o_to_hasSound_20 _ _ h
    · refine RR.c_ge (fun q => absurd q c) (fun _ => ?_)
      refine RR.weak [] trivial ?_
      exact s_o_to_hasSound_19 _ h
theorem s_o_to_hasSound {d : Nat} {S' : St} {r : Int32} (v0 : Nat) (v1 : Int32) (S : St) (h : o_to_hasSound v0 v1 S = some (r, S')) : RC KO (d + 1) 2006 [.ref v0, .int v1] S (some (.int r)) S' := RC.of rfl (s0_o_to_hasSound v0 v1 S h)
-- NameOrchard$Told canSay (II)Z
def o_to_canSay_41 (p0 : Int32) (S : St) : Re Int32 :=
  if isBo p0 = true then some (p0, S) else none
set_option maxRecDepth 100000 in
theorem s_o_to_canSay_41 {d : Nat} {S' : St} {r : Int32} (p0 : Int32) (S : St) (h : o_to_canSay_41 p0 S = some (r, S')) : RR KO (d + 2) 2010 41 [] [.int p0] S (some (.int r)) S' := by
  unfold o_to_canSay_41 at h
  obtain ⟨g, h⟩ := gpE h
  cases h
  exact RR.retz mx_2010 rfl rfl rfl g
def o_to_canSay_40 (S : St) : Re Int32 :=
  o_to_canSay_41 (0 : Int32) S
set_option maxRecDepth 100000 in
theorem s_o_to_canSay_40 {d : Nat} {S' : St} {r : Int32} (S : St) (h : o_to_canSay_40 S = some (r, S')) : RR KO (d + 2) 2010 40 [] [] S (some (.int r)) S' := by
  unfold o_to_canSay_40 at h
  refine RR.runs (pc' := 41) (lc' := []) (st' := [.int (0 : Int32)]) (S1 := S) (nL := 3) (cd := cd_2010) mx_2010 rfl rfl 1 rfl ?_
  refine RR.weak [] trivial ?_
  exact s_o_to_canSay_41 _ _ h
def o_to_canSay (v0 : Nat) (v1 : Int32) (v2 : Int32) (S : St) : Re Int32 :=
  if KO.1 v0 = (0, 10) then (
bn (o_to_hasPerson v0 v1 S) fun r2 S3 =>
  if r2 = 0 then (
    o_to_canSay_40 S3)
  else (
    bn (o_to_hasSound v0 v2 S3) fun r4 S5 =>
    if r4 = 0 then (
      o_to_canSay_40 S5)
    else (
                  if KO.1 (v0 + 82) = (0, 7) then (
bn (o_tb_at (v0 + 82) v1 (2 : Int32) S5) fun r7 S8 =>
      if KO.1 (v0 + 2) = (0, 2) then (
bn (o_na_holds (v0 + 2) v2 r7 S8) fun r10 S11 =>
      if r10 = 0 then (
        o_to_canSay_41 (1 : Int32) S11)
      else (
        o_to_canSay_40 S11)) else none) else none))) else none
set_option maxRecDepth 100000 in
theorem s0_o_to_canSay {d : Nat} {S' : St} {r : Int32} (v0 : Nat) (v1 : Int32) (v2 : Int32) (S : St) (h : o_to_canSay v0 v1 v2 S = some (r, S')) : RR KO (d + 2) 2010 0 [(0, .ref v0), (1, .int v1), (2, .int v2)] [] S (some (.int r)) S' := by
  unfold o_to_canSay at h
  refine RR.runs (pc' := 2) (lc' := [(0, .ref v0), (1, .int v1), (2, .int v2)]) (st' := [.int v1, .ref v0]) (S1 := S) (nL := 3) (cd := cd_2010) mx_2010 rfl rfl 2 rfl ?_
  obtain ⟨g1, h⟩ := gpE h
  obtain ⟨r2, S3, h1, h⟩ := bnE h
  refine RR.callV (b := v0) (as := [.int v1]) (rest := []) (r1 := (some (.int r2))) (S1 := S3) mx_2010 rfl rfl mx_2007 rfl rfl (by decide) (Or.inl g1) (Nat.le_of_ble_eq_true rfl) (Nat.le_of_ble_eq_true rfl) (RC.deep (by omega) (s_o_to_hasPerson (d := d) _ _ _ h1)) ?_
  show RR KO _ 2010 5 [(0, .ref v0), (1, .int v1), (2, .int v2)] [.int r2] S3 _ _
  refine RR.runs (pc' := icm .eq r2 0 40 8) (lc' := [(0, .ref v0), (1, .int v1), (2, .int v2)]) (st' := []) (S1 := S3) (nL := 3) (cd := cd_2010) mx_2010 rfl rfl 1 rfl ?_
  rcases ifE h with ⟨c, h⟩ | ⟨c, h⟩
  · refine RR.c_eq (fun _ => ?_) (fun q => absurd c q)
    refine RR.weak [] trivial ?_
    exact s_o_to_canSay_40 _ h
  · refine RR.c_eq (fun q => absurd q c) (fun _ => ?_)
    refine RR.runs (pc' := 10) (lc' := [(0, .ref v0), (1, .int v1), (2, .int v2)]) (st' := [.int v2, .ref v0]) (S1 := S3) (nL := 3) (cd := cd_2010) mx_2010 rfl rfl 2 rfl ?_
    obtain ⟨r4, S5, h1, h⟩ := bnE h
    refine RR.callV (b := v0) (as := [.int v2]) (rest := []) (r1 := (some (.int r4))) (S1 := S5) mx_2010 rfl rfl mx_2006 rfl rfl (by decide) (Or.inl g1) (Nat.le_of_ble_eq_true rfl) (Nat.le_of_ble_eq_true rfl) (RC.deep (by omega) (s_o_to_hasSound (d := d) _ _ _ h1)) ?_
    show RR KO _ 2010 13 [(0, .ref v0), (1, .int v1), (2, .int v2)] [.int r4] S5 _ _
    refine RR.runs (pc' := icm .eq r4 0 40 16) (lc' := [(0, .ref v0), (1, .int v1), (2, .int v2)]) (st' := []) (S1 := S5) (nL := 3) (cd := cd_2010) mx_2010 rfl rfl 1 rfl ?_
    rcases ifE h with ⟨c, h⟩ | ⟨c, h⟩
    · refine RR.c_eq (fun _ => ?_) (fun q => absurd c q)
      refine RR.weak [] trivial ?_
      exact s_o_to_canSay_40 _ h
    · refine RR.c_eq (fun q => absurd q c) (fun _ => ?_)
      refine RR.runs (pc' := 17) (lc' := [(0, .ref v0), (1, .int v1), (2, .int v2)]) (st' := [.ref v0]) (S1 := S5) (nL := 3) (cd := cd_2010) mx_2010 rfl rfl 1 rfl ?_
      refine RR.gPo (pc' := 20) (lc' := [(0, .ref v0), (1, .int v1), (2, .int v2)]) (st' := [.ref (v0 + 2)]) (S1 := S5) (nL := 3) (cd := cd_2010) mx_2010 rfl rfl rfl ⟨g1, by decide, by decide⟩ ?_
      refine RR.runs (pc' := 22) (lc' := [(0, .ref v0), (1, .int v1), (2, .int v2)]) (st' := [.ref v0, .int v2, .ref (v0 + 2)]) (S1 := S5) (nL := 3) (cd := cd_2010) mx_2010 rfl rfl 2 rfl ?_
      refine RR.gPo (pc' := 25) (lc' := [(0, .ref v0), (1, .int v1), (2, .int v2)]) (st' := [.ref (v0 + 82), .int v2, .ref (v0 + 2)]) (S1 := S5) (nL := 3) (cd := cd_2010) mx_2010 rfl rfl rfl ⟨g1, by decide, by decide⟩ ?_
      refine RR.runs (pc' := 27) (lc' := [(0, .ref v0), (1, .int v1), (2, .int v2)]) (st' := [.int (2 : Int32), .int v1, .ref (v0 + 82), .int v2, .ref (v0 + 2)]) (S1 := S5) (nL := 3) (cd := cd_2010) mx_2010 rfl rfl 2 rfl ?_
      obtain ⟨g6, h⟩ := gpE h
      obtain ⟨r7, S8, h1, h⟩ := bnE h
      refine RR.callV (b := (v0 + 82)) (as := [.int v1, .int (2 : Int32)]) (rest := [.int v2, .ref (v0 + 2)]) (r1 := (some (.int r7))) (S1 := S8) mx_2010 rfl rfl mx_1405 rfl rfl (by decide) (Or.inl g6) (Nat.le_of_ble_eq_true rfl) (Nat.le_of_ble_eq_true rfl) (RC.deep (by omega) (s_o_tb_at (d := d) _ _ _ _ h1)) ?_
      show RR KO _ 2010 30 [(0, .ref v0), (1, .int v1), (2, .int v2)] [.int r7, .int v2, .ref (v0 + 2)] S8 _ _
      obtain ⟨g9, h⟩ := gpE h
      obtain ⟨r10, S11, h1, h⟩ := bnE h
      refine RR.callV (b := (v0 + 2)) (as := [.int v2, .int r7]) (rest := []) (r1 := (some (.int r10))) (S1 := S11) mx_2010 rfl rfl mx_409 rfl rfl (by decide) (Or.inl g9) (Nat.le_of_ble_eq_true rfl) (Nat.le_of_ble_eq_true rfl) (RC.deep (by omega) (s_o_na_holds (d := d) _ _ _ _ h1)) ?_
      show RR KO _ 2010 33 [(0, .ref v0), (1, .int v1), (2, .int v2)] [.int r10] S11 _ _
      refine RR.runs (pc' := icm .ne r10 0 40 36) (lc' := [(0, .ref v0), (1, .int v1), (2, .int v2)]) (st' := []) (S1 := S11) (nL := 3) (cd := cd_2010) mx_2010 rfl rfl 1 rfl ?_
      rcases ifE h with ⟨c, h⟩ | ⟨c, h⟩
      · refine RR.c_ne (fun _ => ?_) (fun q => absurd c q)
        refine RR.runs (pc' := 41) (lc' := [(0, .ref v0), (1, .int v1), (2, .int v2)]) (st' := [.int (1 : Int32)]) (S1 := S11) (nL := 3) (cd := cd_2010) mx_2010 rfl rfl 2 rfl ?_
        refine RR.weak [] trivial ?_
        exact s_o_to_canSay_41 _ _ h
      · refine RR.c_ne (fun q => absurd q c) (fun _ => ?_)
        refine RR.weak [] trivial ?_
        exact s_o_to_canSay_40 _ h
theorem s_o_to_canSay {d : Nat} {S' : St} {r : Int32} (v0 : Nat) (v1 : Int32) (v2 : Int32) (S : St) (h : o_to_canSay v0 v1 v2 S = some (r, S')) : RC KO (d + 2) 2010 [.ref v0, .int v1, .int v2] S (some (.int r)) S' := RC.of rfl (s0_o_to_canSay v0 v1 v2 S h)
-- NameOrchard$Standing soundOf (I)I
def o_sd_soundOf_23 (p0 : Int32) (S : St) : Re Int32 :=
  some (p0, S)
set_option maxRecDepth 100000 in
theorem s_o_sd_soundOf_23 {d : Nat} {S' : St} {r : Int32} (p0 : Int32) (S : St) (h : o_sd_soundOf_23 p0 S = some (r, S')) : RR KO (d + 0) 1005 23 [] [.int p0] S (some (.int r)) S' := by
  unfold o_sd_soundOf_23 at h
  cases h
  exact RR.reti mx_1005 rfl rfl rfl
def o_sd_soundOf_22 (S : St) : Re Int32 :=
  o_sd_soundOf_23 (-1 : Int32) S
set_option maxRecDepth 100000 in
theorem s_o_sd_soundOf_22 {d : Nat} {S' : St} {r : Int32} (S : St) (h : o_sd_soundOf_22 S = some (r, S')) : RR KO (d + 0) 1005 22 [] [] S (some (.int r)) S' := by
  unfold o_sd_soundOf_22 at h
  refine RR.runs (pc' := 23) (lc' := []) (st' := [.int (-1 : Int32)]) (S1 := S) (nL := 2) (cd := cd_1005) mx_1005 rfl rfl 1 rfl ?_
  refine RR.weak [] trivial ?_
  exact s_o_sd_soundOf_23 _ _ h
def o_sd_soundOf (v0 : Nat) (v1 : Int32) (S : St) : Re Int32 :=
  if v1 < 0 then (
    o_sd_soundOf_22 S)
  else (
    if KO.1 v0 = (0, 5) then (
    if 1 ≤ (KO.1 (v0 + 30)).1 ∧ (KO.1 (v0 + 30)).1 < 8 then (
    if v1 < (Int32.ofNat (KO.1 (v0 + 30)).2) then (
            if (KO.1 (v0 + 30)).1 = 1 then (
      if v1 < 0 ∨ (KO.1 (v0 + 30)).2 ≤ v1.toNatClampNeg then none else
      o_sd_soundOf_23 ((rI S (v0 + 30) v1.toNatClampNeg)) S) else none)
    else (
      o_sd_soundOf_22 S)) else none) else none)
set_option maxRecDepth 100000 in
theorem s0_o_sd_soundOf {d : Nat} {S' : St} {r : Int32} (v0 : Nat) (v1 : Int32) (S : St) (h : o_sd_soundOf v0 v1 S = some (r, S')) : RR KO (d + 0) 1005 0 [(0, .ref v0), (1, .int v1)] [] S (some (.int r)) S' := by
  unfold o_sd_soundOf at h
  refine RR.runs (pc' := icm .lt v1 0 22 4) (lc' := [(0, .ref v0), (1, .int v1)]) (st' := []) (S1 := S) (nL := 2) (cd := cd_1005) mx_1005 rfl rfl 2 rfl ?_
  rcases ifE h with ⟨c, h⟩ | ⟨c, h⟩
  · refine RR.c_lt (fun _ => ?_) (fun q => absurd c q)
    refine RR.weak [] trivial ?_
    exact s_o_sd_soundOf_22 _ h
  · refine RR.c_lt (fun q => absurd q c) (fun _ => ?_)
    refine RR.runs (pc' := 6) (lc' := [(0, .ref v0), (1, .int v1)]) (st' := [.ref v0, .int v1]) (S1 := S) (nL := 2) (cd := cd_1005) mx_1005 rfl rfl 2 rfl ?_
    obtain ⟨g1, h⟩ := gpE h
    refine RR.gPo (pc' := 9) (lc' := [(0, .ref v0), (1, .int v1)]) (st' := [.ref (v0 + 30), .int v1]) (S1 := S) (nL := 2) (cd := cd_1005) mx_1005 rfl rfl rfl ⟨g1, by decide, by decide⟩ ?_
    obtain ⟨g, h⟩ := gpE h
    refine RR.gP (pc' := 10) (lc' := [(0, .ref v0), (1, .int v1)]) (st' := [.int ((Int32.ofNat (KO.1 (v0 + 30)).2)), .int v1]) (S1 := S) (nL := 2) (cd := cd_1005) mx_1005 rfl rfl rfl g ?_
    refine RR.runs (pc' := icm .ge v1 ((Int32.ofNat (KO.1 (v0 + 30)).2)) 22 13) (lc' := [(0, .ref v0), (1, .int v1)]) (st' := []) (S1 := S) (nL := 2) (cd := cd_1005) mx_1005 rfl rfl 1 rfl ?_
    rcases ifE h with ⟨c, h⟩ | ⟨c, h⟩
    · refine RR.c_ge (fun _ => ?_) (fun q => absurd c q)
      refine RR.runs (pc' := 14) (lc' := [(0, .ref v0), (1, .int v1)]) (st' := [.ref v0]) (S1 := S) (nL := 2) (cd := cd_1005) mx_1005 rfl rfl 1 rfl ?_
      refine RR.gPo (pc' := 17) (lc' := [(0, .ref v0), (1, .int v1)]) (st' := [.ref (v0 + 30)]) (S1 := S) (nL := 2) (cd := cd_1005) mx_1005 rfl rfl rfl ⟨g1, by decide, by decide⟩ ?_
      refine RR.runs (pc' := 18) (lc' := [(0, .ref v0), (1, .int v1)]) (st' := [.int v1, .ref (v0 + 30)]) (S1 := S) (nL := 2) (cd := cd_1005) mx_1005 rfl rfl 1 rfl ?_
      obtain ⟨gq, h⟩ := gpE h
      obtain ⟨g, h⟩ := gnE h
      refine RR.gPNo (c2 := (KO.1 (v0 + 30)).1 = 1) (pc' := 19) (lc' := [(0, .ref v0), (1, .int v1)]) (st' := [.int ((rI S (v0 + 30) v1.toNatClampNeg))]) (S1 := S) (nL := 2) (cd := cd_1005) mx_1005 rfl rfl rfl gq g ?_
      refine RR.runs (pc' := 23) (lc' := [(0, .ref v0), (1, .int v1)]) (st' := [.int ((rI S (v0 + 30) v1.toNatClampNeg))]) (S1 := S) (nL := 2) (cd := cd_1005) mx_1005 rfl rfl 1 rfl ?_
      refine RR.weak [] trivial ?_
      exact s_o_sd_soundOf_23 _ _ h
    · refine RR.c_ge (fun q => absurd q c) (fun _ => ?_)
      refine RR.weak [] trivial ?_
      exact s_o_sd_soundOf_22 _ h
theorem s_o_sd_soundOf {d : Nat} {S' : St} {r : Int32} (v0 : Nat) (v1 : Int32) (S : St) (h : o_sd_soundOf v0 v1 S = some (r, S')) : RC KO (d + 0) 1005 [.ref v0, .int v1] S (some (.int r)) S' := RC.of rfl (s0_o_sd_soundOf v0 v1 S h)
-- NameOrchard$Told nearTo (I)I
def o_to_nearTo_23 (p0 : Int32) (S : St) : Re Int32 :=
  some (p0, S)
set_option maxRecDepth 100000 in
theorem s_o_to_nearTo_23 {d : Nat} {S' : St} {r : Int32} (p0 : Int32) (S : St) (h : o_to_nearTo_23 p0 S = some (r, S')) : RR KO (d + 0) 2009 23 [] [.int p0] S (some (.int r)) S' := by
  unfold o_to_nearTo_23 at h
  cases h
  exact RR.reti mx_2009 rfl rfl rfl
def o_to_nearTo_22 (S : St) : Re Int32 :=
  o_to_nearTo_23 (0 : Int32) S
set_option maxRecDepth 100000 in
theorem s_o_to_nearTo_22 {d : Nat} {S' : St} {r : Int32} (S : St) (h : o_to_nearTo_22 S = some (r, S')) : RR KO (d + 0) 2009 22 [] [] S (some (.int r)) S' := by
  unfold o_to_nearTo_22 at h
  refine RR.runs (pc' := 23) (lc' := []) (st' := [.int (0 : Int32)]) (S1 := S) (nL := 2) (cd := cd_2009) mx_2009 rfl rfl 1 rfl ?_
  refine RR.weak [] trivial ?_
  exact s_o_to_nearTo_23 _ _ h
def o_to_nearTo (v0 : Nat) (v1 : Int32) (S : St) : Re Int32 :=
  if v1 < 0 then (
    o_to_nearTo_22 S)
  else (
    if KO.1 v0 = (0, 10) then (
    if 1 ≤ (KO.1 (v0 + 38)).1 ∧ (KO.1 (v0 + 38)).1 < 8 then (
    if v1 < (Int32.ofNat (KO.1 (v0 + 38)).2) then (
            if (KO.1 (v0 + 38)).1 = 1 then (
      if v1 < 0 ∨ (KO.1 (v0 + 38)).2 ≤ v1.toNatClampNeg then none else
      o_to_nearTo_23 ((rI S (v0 + 38) v1.toNatClampNeg)) S) else none)
    else (
      o_to_nearTo_22 S)) else none) else none)
set_option maxRecDepth 100000 in
theorem s0_o_to_nearTo {d : Nat} {S' : St} {r : Int32} (v0 : Nat) (v1 : Int32) (S : St) (h : o_to_nearTo v0 v1 S = some (r, S')) : RR KO (d + 0) 2009 0 [(0, .ref v0), (1, .int v1)] [] S (some (.int r)) S' := by
  unfold o_to_nearTo at h
  refine RR.runs (pc' := icm .lt v1 0 22 4) (lc' := [(0, .ref v0), (1, .int v1)]) (st' := []) (S1 := S) (nL := 2) (cd := cd_2009) mx_2009 rfl rfl 2 rfl ?_
  rcases ifE h with ⟨c, h⟩ | ⟨c, h⟩
  · refine RR.c_lt (fun _ => ?_) (fun q => absurd c q)
    refine RR.weak [] trivial ?_
    exact s_o_to_nearTo_22 _ h
  · refine RR.c_lt (fun q => absurd q c) (fun _ => ?_)
    refine RR.runs (pc' := 6) (lc' := [(0, .ref v0), (1, .int v1)]) (st' := [.ref v0, .int v1]) (S1 := S) (nL := 2) (cd := cd_2009) mx_2009 rfl rfl 2 rfl ?_
    obtain ⟨g1, h⟩ := gpE h
    refine RR.gPo (pc' := 9) (lc' := [(0, .ref v0), (1, .int v1)]) (st' := [.ref (v0 + 38), .int v1]) (S1 := S) (nL := 2) (cd := cd_2009) mx_2009 rfl rfl rfl ⟨g1, by decide, by decide⟩ ?_
    obtain ⟨g, h⟩ := gpE h
    refine RR.gP (pc' := 10) (lc' := [(0, .ref v0), (1, .int v1)]) (st' := [.int ((Int32.ofNat (KO.1 (v0 + 38)).2)), .int v1]) (S1 := S) (nL := 2) (cd := cd_2009) mx_2009 rfl rfl rfl g ?_
    refine RR.runs (pc' := icm .ge v1 ((Int32.ofNat (KO.1 (v0 + 38)).2)) 22 13) (lc' := [(0, .ref v0), (1, .int v1)]) (st' := []) (S1 := S) (nL := 2) (cd := cd_2009) mx_2009 rfl rfl 1 rfl ?_
    rcases ifE h with ⟨c, h⟩ | ⟨c, h⟩
    · refine RR.c_ge (fun _ => ?_) (fun q => absurd c q)
      refine RR.runs (pc' := 14) (lc' := [(0, .ref v0), (1, .int v1)]) (st' := [.ref v0]) (S1 := S) (nL := 2) (cd := cd_2009) mx_2009 rfl rfl 1 rfl ?_
      refine RR.gPo (pc' := 17) (lc' := [(0, .ref v0), (1, .int v1)]) (st' := [.ref (v0 + 38)]) (S1 := S) (nL := 2) (cd := cd_2009) mx_2009 rfl rfl rfl ⟨g1, by decide, by decide⟩ ?_
      refine RR.runs (pc' := 18) (lc' := [(0, .ref v0), (1, .int v1)]) (st' := [.int v1, .ref (v0 + 38)]) (S1 := S) (nL := 2) (cd := cd_2009) mx_2009 rfl rfl 1 rfl ?_
      obtain ⟨gq, h⟩ := gpE h
      obtain ⟨g, h⟩ := gnE h
      refine RR.gPNo (c2 := (KO.1 (v0 + 38)).1 = 1) (pc' := 19) (lc' := [(0, .ref v0), (1, .int v1)]) (st' := [.int ((rI S (v0 + 38) v1.toNatClampNeg))]) (S1 := S) (nL := 2) (cd := cd_2009) mx_2009 rfl rfl rfl gq g ?_
      refine RR.runs (pc' := 23) (lc' := [(0, .ref v0), (1, .int v1)]) (st' := [.int ((rI S (v0 + 38) v1.toNatClampNeg))]) (S1 := S) (nL := 2) (cd := cd_2009) mx_2009 rfl rfl 1 rfl ?_
      refine RR.weak [] trivial ?_
      exact s_o_to_nearTo_23 _ _ h
    · refine RR.c_ge (fun q => absurd q c) (fun _ => ?_)
      refine RR.weak [] trivial ?_
      exact s_o_to_nearTo_22 _ h
theorem s_o_to_nearTo {d : Nat} {S' : St} {r : Int32} (v0 : Nat) (v1 : Int32) (S : St) (h : o_to_nearTo v0 v1 S = some (r, S')) : RC KO (d + 0) 2009 [.ref v0, .int v1] S (some (.int r)) S' := RC.of rfl (s0_o_to_nearTo v0 v1 S h)
-- NameOrchard$Standing isMeant (LNameOrchard$Told;II)Z
def o_sd_isMeant_53 (p0 : Int32) (S : St) : Re Int32 :=
  if isBo p0 = true then some (p0, S) else none
set_option maxRecDepth 100000 in
theorem s_o_sd_isMeant_53 {d : Nat} {S' : St} {r : Int32} (p0 : Int32) (S : St) (h : o_sd_isMeant_53 p0 S = some (r, S')) : RR KO (d + 1) 1008 53 [] [.int p0] S (some (.int r)) S' := by
  unfold o_sd_isMeant_53 at h
  obtain ⟨g, h⟩ := gpE h
  cases h
  exact RR.retz mx_1008 rfl rfl rfl g
def o_sd_isMeant_52 (S : St) : Re Int32 :=
  o_sd_isMeant_53 (0 : Int32) S
set_option maxRecDepth 100000 in
theorem s_o_sd_isMeant_52 {d : Nat} {S' : St} {r : Int32} (S : St) (h : o_sd_isMeant_52 S = some (r, S')) : RR KO (d + 1) 1008 52 [] [] S (some (.int r)) S' := by
  unfold o_sd_isMeant_52 at h
  refine RR.runs (pc' := 53) (lc' := []) (st' := [.int (0 : Int32)]) (S1 := S) (nL := 5) (cd := cd_1008) mx_1008 rfl rfl 1 rfl ?_
  refine RR.weak [] trivial ?_
  exact s_o_sd_isMeant_53 _ _ h
def o_sd_isMeant_29 (p0 : Int32) (S : St) : Re Int32 :=
  if isBo p0 = true then some (p0, S) else none
set_option maxRecDepth 100000 in
theorem s_o_sd_isMeant_29 {d : Nat} {S' : St} {r : Int32} (p0 : Int32) (S : St) (h : o_sd_isMeant_29 p0 S = some (r, S')) : RR KO (d + 1) 1008 29 [] [.int p0] S (some (.int r)) S' := by
  unfold o_sd_isMeant_29 at h
  obtain ⟨g, h⟩ := gpE h
  cases h
  exact RR.retz mx_1008 rfl rfl rfl g
def o_sd_isMeant (v0 : Nat) (v1 : Nat) (v2 : Int32) (v3 : Int32) (S : St) : Re Int32 :=
  if KO.1 v0 = (0, 5) then (
bn (o_sd_soundOf v0 v2 S) fun r2 S3 =>
  if KO.1 v1 = (0, 10) then (
  if (((rI S3 v1 14) >>> (v2 &&& 31)) &&& (1 : Int32)) = 0 then (
    if r2 < 0 then (
      o_sd_isMeant_52 S3)
    else (
      bn (o_to_nearTo v1 v3 S3) fun r5 S6 =>
      if ((r5 >>> (r2 &&& 31)) &&& (1 : Int32)) = 0 then (
        o_sd_isMeant_52 S6)
      else (
        o_sd_isMeant_53 (1 : Int32) S6)))
  else (
    if r2 = v3 then (
      o_sd_isMeant_29 (1 : Int32) S3)
    else (
      o_sd_isMeant_29 (0 : Int32) S3))) else none) else none
set_option maxRecDepth 100000 in
theorem s0_o_sd_isMeant {d : Nat} {S' : St} {r : Int32} (v0 : Nat) (v1 : Nat) (v2 : Int32) (v3 : Int32) (S : St) (h : o_sd_isMeant v0 v1 v2 v3 S = some (r, S')) : RR KO (d + 1) 1008 0 [(0, .ref v0), (1, .ref v1), (2, .int v2), (3, .int v3)] [] S (some (.int r)) S' := by
  unfold o_sd_isMeant at h
  refine RR.runs (pc' := 2) (lc' := [(0, .ref v0), (1, .ref v1), (2, .int v2), (3, .int v3)]) (st' := [.int v2, .ref v0]) (S1 := S) (nL := 5) (cd := cd_1008) mx_1008 rfl rfl 2 rfl ?_
  obtain ⟨g1, h⟩ := gpE h
  obtain ⟨r2, S3, h1, h⟩ := bnE h
  refine RR.callV (b := v0) (as := [.int v2]) (rest := []) (r1 := (some (.int r2))) (S1 := S3) mx_1008 rfl rfl mx_1005 rfl rfl (by decide) (Or.inl g1) (Nat.le_of_ble_eq_true rfl) (Nat.le_of_ble_eq_true rfl) (RC.deep (by omega) (s_o_sd_soundOf (d := d) _ _ _ h1)) ?_
  show RR KO _ 1008 5 [(0, .ref v0), (1, .ref v1), (2, .int v2), (3, .int v3)] [.int r2] S3 _ _
  refine RR.runs (pc' := 8) (lc' := [(4, .int r2), (0, .ref v0), (1, .ref v1), (2, .int v2), (3, .int v3)]) (st' := [.ref v1]) (S1 := S3) (nL := 5) (cd := cd_1008) mx_1008 rfl rfl 2 rfl ?_
  obtain ⟨g4, h⟩ := gpE h
  refine RR.gPo (pc' := 11) (lc' := [(4, .int r2), (0, .ref v0), (1, .ref v1), (2, .int v2), (3, .int v3)]) (st' := [.int (rI S3 v1 14)]) (S1 := S3) (nL := 5) (cd := cd_1008) mx_1008 rfl rfl rfl ⟨g4, by decide, by decide⟩ ?_
  refine RR.runs (pc' := icm .eq ((((rI S3 v1 14) >>> (v2 &&& 31)) &&& (1 : Int32))) 0 30 18) (lc' := [(4, .int r2), (0, .ref v0), (1, .ref v1), (2, .int v2), (3, .int v3)]) (st' := []) (S1 := S3) (nL := 5) (cd := cd_1008) mx_1008 rfl rfl 5 rfl ?_
  rcases ifE h with ⟨c, h⟩ | ⟨c, h⟩
  · refine RR.c_eq (fun _ => ?_) (fun q => absurd c q)
    refine RR.runs (pc' := icm .lt r2 0 52 35) (lc' := [(4, .int r2), (0, .ref v0), (1, .ref v1), (2, .int v2), (3, .int v3)]) (st' := []) (S1 := S3) (nL := 5) (cd := cd_1008) mx_1008 rfl rfl 2 rfl ?_
    rcases ifE h with ⟨c, h⟩ | ⟨c, h⟩
    · refine RR.c_lt (fun _ => ?_) (fun q => absurd c q)
      refine RR.weak [] trivial ?_
      exact s_o_sd_isMeant_52 _ h
    · refine RR.c_lt (fun q => absurd q c) (fun _ => ?_)
      refine RR.runs (pc' := 37) (lc' := [(4, .int r2), (0, .ref v0), (1, .ref v1), (2, .int v2), (3, .int v3)]) (st' := [.int v3, .ref v1]) (S1 := S3) (nL := 5) (cd := cd_1008) mx_1008 rfl rfl 2 rfl ?_
      obtain ⟨r5, S6, h1, h⟩ := bnE h
      refine RR.callV (b := v1) (as := [.int v3]) (rest := []) (r1 := (some (.int r5))) (S1 := S6) mx_1008 rfl rfl mx_2009 rfl rfl (by decide) (Or.inl g4) (Nat.le_of_ble_eq_true rfl) (Nat.le_of_ble_eq_true rfl) (RC.deep (by omega) (s_o_to_nearTo (d := d) _ _ _ h1)) ?_
      show RR KO _ 1008 40 [(4, .int r2), (0, .ref v0), (1, .ref v1), (2, .int v2), (3, .int v3)] [.int r5] S6 _ _
      refine RR.runs (pc' := icm .eq (((r5 >>> (r2 &&& 31)) &&& (1 : Int32))) 0 52 48) (lc' := [(4, .int r2), (0, .ref v0), (1, .ref v1), (2, .int v2), (3, .int v3)]) (st' := []) (S1 := S6) (nL := 5) (cd := cd_1008) mx_1008 rfl rfl 5 rfl ?_
      rcases ifE h with ⟨c, h⟩ | ⟨c, h⟩
      · refine RR.c_eq (fun _ => ?_) (fun q => absurd c q)
        refine RR.weak [] trivial ?_
        exact s_o_sd_isMeant_52 _ h
      · refine RR.c_eq (fun q => absurd q c) (fun _ => ?_)
        refine RR.runs (pc' := 53) (lc' := [(4, .int r2), (0, .ref v0), (1, .ref v1), (2, .int v2), (3, .int v3)]) (st' := [.int (1 : Int32)]) (S1 := S6) (nL := 5) (cd := cd_1008) mx_1008 rfl rfl 2 rfl ?_
        refine RR.weak [] trivial ?_
        exact s_o_sd_isMeant_53 _ _ h
  · refine RR.c_eq (fun q => absurd q c) (fun _ => ?_)
    refine RR.runs (pc' := icm .ne r2 v3 28 24) (lc' := [(4, .int r2), (0, .ref v0), (1, .ref v1), (2, .int v2), (3, .int v3)]) (st' := []) (S1 := S3) (nL := 5) (cd := cd_1008) mx_1008 rfl rfl 3 rfl ?_
    rcases ifE h with ⟨c, h⟩ | ⟨c, h⟩
    · refine RR.c_ne (fun _ => ?_) (fun q => absurd c q)
      refine RR.runs (pc' := 29) (lc' := [(4, .int r2), (0, .ref v0), (1, .ref v1), (2, .int v2), (3, .int v3)]) (st' := [.int (1 : Int32)]) (S1 := S3) (nL := 5) (cd := cd_1008) mx_1008 rfl rfl 2 rfl ?_
      refine RR.weak [] trivial ?_
      exact s_o_sd_isMeant_29 _ _ h
    · refine RR.c_ne (fun q => absurd q c) (fun _ => ?_)
      refine RR.runs (pc' := 29) (lc' := [(4, .int r2), (0, .ref v0), (1, .ref v1), (2, .int v2), (3, .int v3)]) (st' := [.int (0 : Int32)]) (S1 := S3) (nL := 5) (cd := cd_1008) mx_1008 rfl rfl 1 rfl ?_
      refine RR.weak [] trivial ?_
      exact s_o_sd_isMeant_29 _ _ h
theorem s_o_sd_isMeant {d : Nat} {S' : St} {r : Int32} (v0 : Nat) (v1 : Nat) (v2 : Int32) (v3 : Int32) (S : St) (h : o_sd_isMeant v0 v1 v2 v3 S = some (r, S')) : RC KO (d + 1) 1008 [.ref v0, .ref v1, .int v2, .int v3] S (some (.int r)) S' := RC.of rfl (s0_o_sd_isMeant v0 v1 v2 v3 S h)
-- NameOrchard$Standing meant (LNameOrchard$Told;I)I
def o_sd_meant_74 (v4 : Int32) (S : St) : Re Int32 :=
  some (v4, S)
set_option maxRecDepth 100000 in
theorem s_o_sd_meant_74 {d : Nat} {S' : St} {r : Int32} (v4 : Int32) (S : St) (h : o_sd_meant_74 v4 S = some (r, S')) : RR KO (d + 2) 1009 74 [(4, .int v4)] [] S (some (.int r)) S' := by
  unfold o_sd_meant_74 at h
  refine RR.runs (pc' := 76) (lc' := [(4, .int v4)]) (st' := [.int v4]) (S1 := S) (nL := 6) (cd := cd_1009) mx_1009 rfl rfl 1 rfl ?_
  cases h
  exact RR.reti mx_1009 rfl rfl rfl
def o_sd_meant_65 (k18 : Nat → Nat → Int32 → Int32 → Int32 → Int32 → St → Re Int32) (v0 : Nat) (v1 : Nat) (v2 : Int32) (v3 : Int32) (v5 : Int32) (p0 : Int32) (p1 : Int32) (S : St) : Re Int32 :=
  lt' ((p1 ||| p0) : Int32) fun x1 =>
  lt' ((v5 + (1 : Int32)) : Int32) fun x2 =>
  k18 v0 v1 v2 v3 x1 x2 S
set_option maxRecDepth 100000 in
theorem s_o_sd_meant_65 {d : Nat} (k18 : Nat → Nat → Int32 → Int32 → Int32 → Int32 → St → Re Int32) {S' : St} {r : Int32} (b18 : ∀ (v0 : Nat) (v1 : Nat) (v2 : Int32) (v3 : Int32) (v4 : Int32) (v5 : Int32) (S : St), k18 v0 v1 v2 v3 v4 v5 S = some (r, S') → RR KO (d + 2) 1009 18 [(0, .ref v0), (1, .ref v1), (2, .int v2), (3, .int v3), (4, .int v4), (5, .int v5)] [] S (some (.int r)) S') (v0 : Nat) (v1 : Nat) (v2 : Int32) (v3 : Int32) (v5 : Int32) (p0 : Int32) (p1 : Int32) (S : St) (h : o_sd_meant_65 k18 v0 v1 v2 v3 v5 p0 p1 S = some (r, S')) : RR KO (d + 2) 1009 65 [(0, .ref v0), (1, .ref v1), (2, .int v2), (3, .int v3), (5, .int v5)] [.int p0, .int p1] S (some (.int r)) S' := by
  unfold o_sd_meant_65 at h
  refine RR.runs (pc' := 68) (lc' := [(4, .int (p1 ||| p0)), (0, .ref v0), (1, .ref v1), (2, .int v2), (3, .int v3), (5, .int v5)]) (st' := []) (S1 := S) (nL := 6) (cd := cd_1009) mx_1009 rfl rfl 2 rfl ?_
  obtain ⟨x1, ex1, h⟩ := ltE h
  rw [← ex1]
  refine RR.runs (pc' := 71) (lc' := [(5, .int ((v5 + (1 : Int32)))), (4, .int x1), (0, .ref v0), (1, .ref v1), (2, .int v2), (3, .int v3)]) (st' := []) (S1 := S) (nL := 6) (cd := cd_1009) mx_1009 rfl rfl 1 rfl ?_
  obtain ⟨x2, ex2, h⟩ := ltE h
  rw [← ex2]
  refine RR.runs (pc' := 18) (lc' := [(5, .int x2), (4, .int x1), (0, .ref v0), (1, .ref v1), (2, .int v2), (3, .int v3)]) (st' := []) (S1 := S) (nL := 6) (cd := cd_1009) mx_1009 rfl rfl 1 rfl ?_
  refine RR.weak [(0, .ref v0), (1, .ref v1), (2, .int v2), (3, .int v3), (4, .int x1), (5, .int x2)] ⟨rfl, rfl, rfl, rfl, rfl, rfl, trivial⟩ ?_
  exact b18 _ _ _ _ _ _ _ h
def o_sd_meant_64 (k18 : Nat → Nat → Int32 → Int32 → Int32 → Int32 → St → Re Int32) (v0 : Nat) (v1 : Nat) (v2 : Int32) (v3 : Int32) (v5 : Int32) (p0 : Int32) (S : St) : Re Int32 :=
  o_sd_meant_65 k18 v0 v1 v2 v3 v5 (0 : Int32) p0 S
set_option maxRecDepth 100000 in
theorem s_o_sd_meant_64 {d : Nat} (k18 : Nat → Nat → Int32 → Int32 → Int32 → Int32 → St → Re Int32) {S' : St} {r : Int32} (b18 : ∀ (v0 : Nat) (v1 : Nat) (v2 : Int32) (v3 : Int32) (v4 : Int32) (v5 : Int32) (S : St), k18 v0 v1 v2 v3 v4 v5 S = some (r, S') → RR KO (d + 2) 1009 18 [(0, .ref v0), (1, .ref v1), (2, .int v2), (3, .int v3), (4, .int v4), (5, .int v5)] [] S (some (.int r)) S') (v0 : Nat) (v1 : Nat) (v2 : Int32) (v3 : Int32) (v5 : Int32) (p0 : Int32) (S : St) (h : o_sd_meant_64 k18 v0 v1 v2 v3 v5 p0 S = some (r, S')) : RR KO (d + 2) 1009 64 [(0, .ref v0), (1, .ref v1), (2, .int v2), (3, .int v3), (5, .int v5)] [.int p0] S (some (.int r)) S' := by
  unfold o_sd_meant_64 at h
  refine RR.runs (pc' := 65) (lc' := [(0, .ref v0), (1, .ref v1), (2, .int v2), (3, .int v3), (5, .int v5)]) (st' := [.int (0 : Int32), .int p0]) (S1 := S) (nL := 6) (cd := cd_1009) mx_1009 rfl rfl 1 rfl ?_
  refine RR.weak [(0, .ref v0), (1, .ref v1), (2, .int v2), (3, .int v3), (5, .int v5)] ⟨rfl, rfl, rfl, rfl, rfl, trivial⟩ ?_
  exact s_o_sd_meant_65 _ b18 _ _ _ _ _ _ _ _ h
def o_sd_meant_18 : Nat → Nat → Nat → Int32 → Int32 → Int32 → Int32 → St → Re Int32
  | 0, _, _, _, _, _, _, _ => none
  | n + 1, v0, v1, v2, v3, v4, v5, S =>
  if KO.1 v0 = (0, 5) then (
  if 1 ≤ (KO.1 (v0 + 30)).1 ∧ (KO.1 (v0 + 30)).1 < 8 then (
  if v5 < (Int32.ofNat (KO.1 (v0 + 30)).2) then (
    if (v3 >>> (v5 &&& 31)) = 0 then (
      o_sd_meant_74 v4 S)
    else (
      if ((v3 >>> (v5 &&& 31)) &&& (1 : Int32)) = 0 then (
        o_sd_meant_64 (o_sd_meant_18 n) v0 v1 v2 v3 v5 v4 S)
      else (
        bn (o_sd_isMeant v0 v1 v5 v2 S) fun r2 S3 =>
        if r2 = 0 then (
          o_sd_meant_64 (o_sd_meant_18 n) v0 v1 v2 v3 v5 v4 S3)
        else (
          o_sd_meant_65 (o_sd_meant_18 n) v0 v1 v2 v3 v5 (((1 : Int32) <<< (v5 &&& 31))) v4 S3))))
  else (
    o_sd_meant_74 v4 S)) else none) else none
set_option maxRecDepth 100000 in
theorem s_o_sd_meant_18 {d : Nat} {S' : St} {r : Int32} : ∀ (n : Nat) (v0 : Nat) (v1 : Nat) (v2 : Int32) (v3 : Int32) (v4 : Int32) (v5 : Int32) (S : St), o_sd_meant_18 n v0 v1 v2 v3 v4 v5 S = some (r, S') → RR KO (d + 2) 1009 18 [(0, .ref v0), (1, .ref v1), (2, .int v2), (3, .int v3), (4, .int v4), (5, .int v5)] [] S (some (.int r)) S' := by
  intro n
  induction n with
  | zero => intro v0 v1 v2 v3 v4 v5 S h; simp only [o_sd_meant_18] at h; cases h
  | succ n ih =>
    intro v0 v1 v2 v3 v4 v5 S h
    simp only [o_sd_meant_18] at h
    refine RR.runs (pc' := 21) (lc' := [(0, .ref v0), (1, .ref v1), (2, .int v2), (3, .int v3), (4, .int v4), (5, .int v5)]) (st' := [.ref v0, .int v5]) (S1 := S) (nL := 6) (cd := cd_1009) mx_1009 rfl rfl 2 rfl ?_
    obtain ⟨g1, h⟩ := gpE h
    refine RR.gPo (pc' := 24) (lc' := [(0, .ref v0), (1, .ref v1), (2, .int v2), (3, .int v3), (4, .int v4), (5, .int v5)]) (st' := [.ref (v0 + 30), .int v5]) (S1 := S) (nL := 6) (cd := cd_1009) mx_1009 rfl rfl rfl ⟨g1, by decide, by decide⟩ ?_
    obtain ⟨g, h⟩ := gpE h
    refine RR.gP (pc' := 25) (lc' := [(0, .ref v0), (1, .ref v1), (2, .int v2), (3, .int v3), (4, .int v4), (5, .int v5)]) (st' := [.int ((Int32.ofNat (KO.1 (v0 + 30)).2)), .int v5]) (S1 := S) (nL := 6) (cd := cd_1009) mx_1009 rfl rfl rfl g ?_
    refine RR.runs (pc' := icm .ge v5 ((Int32.ofNat (KO.1 (v0 + 30)).2)) 74 28) (lc' := [(0, .ref v0), (1, .ref v1), (2, .int v2), (3, .int v3), (4, .int v4), (5, .int v5)]) (st' := []) (S1 := S) (nL := 6) (cd := cd_1009) mx_1009 rfl rfl 1 rfl ?_
    rcases ifE h with ⟨c, h⟩ | ⟨c, h⟩
    · refine RR.c_ge (fun _ => ?_) (fun q => absurd c q)
      refine RR.runs (pc' := icm .eq ((v3 >>> (v5 &&& 31))) 0 74 35) (lc' := [(0, .ref v0), (1, .ref v1), (2, .int v2), (3, .int v3), (4, .int v4), (5, .int v5)]) (st' := []) (S1 := S) (nL := 6) (cd := cd_1009) mx_1009 rfl rfl 4 rfl ?_
      rcases ifE h with ⟨c, h⟩ | ⟨c, h⟩
      · refine RR.c_eq (fun _ => ?_) (fun q => absurd c q)
        refine RR.weak [(4, .int v4)] ⟨rfl, trivial⟩ ?_
        exact s_o_sd_meant_74 _ _ h
      · refine RR.c_eq (fun q => absurd q c) (fun _ => ?_)
        refine RR.runs (pc' := icm .eq (((v3 >>> (v5 &&& 31)) &&& (1 : Int32))) 0 64 46) (lc' := [(0, .ref v0), (1, .ref v1), (2, .int v2), (3, .int v3), (4, .int v4), (5, .int v5)]) (st' := [.int v4]) (S1 := S) (nL := 6) (cd := cd_1009) mx_1009 rfl rfl 7 rfl ?_
        rcases ifE h with ⟨c, h⟩ | ⟨c, h⟩
        · refine RR.c_eq (fun _ => ?_) (fun q => absurd c q)
          refine RR.weak [(0, .ref v0), (1, .ref v1), (2, .int v2), (3, .int v3), (5, .int v5)] ⟨rfl, rfl, rfl, rfl, rfl, trivial⟩ ?_
          exact s_o_sd_meant_64 _ (fun _ _ _ _ _ _ S h => ih _ _ _ _ _ _ S h) _ _ _ _ _ _ _ h
        · refine RR.c_eq (fun q => absurd q c) (fun _ => ?_)
          refine RR.runs (pc' := 51) (lc' := [(0, .ref v0), (1, .ref v1), (2, .int v2), (3, .int v3), (4, .int v4), (5, .int v5)]) (st' := [.int v2, .int v5, .ref v1, .ref v0, .int v4]) (S1 := S) (nL := 6) (cd := cd_1009) mx_1009 rfl rfl 4 rfl ?_
          obtain ⟨r2, S3, h1, h⟩ := bnE h
          refine RR.callV (b := v0) (as := [.ref v1, .int v5, .int v2]) (rest := [.int v4]) (r1 := (some (.int r2))) (S1 := S3) mx_1009 rfl rfl mx_1008 rfl rfl (by decide) (Or.inl g1) (Nat.le_of_ble_eq_true rfl) (Nat.le_of_ble_eq_true rfl) (RC.deep (by omega) (s_o_sd_isMeant (d := d) _ _ _ _ _ h1)) ?_
          show RR KO _ 1009 54 [(0, .ref v0), (1, .ref v1), (2, .int v2), (3, .int v3), (4, .int v4), (5, .int v5)] [.int r2, .int v4] S3 _ _
          refine RR.runs (pc' := icm .eq r2 0 64 57) (lc' := [(0, .ref v0), (1, .ref v1), (2, .int v2), (3, .int v3), (4, .int v4), (5, .int v5)]) (st' := [.int v4]) (S1 := S3) (nL := 6) (cd := cd_1009) mx_1009 rfl rfl 1 rfl ?_
          rcases ifE h with ⟨c, h⟩ | ⟨c, h⟩
          · refine RR.c_eq (fun _ => ?_) (fun q => absurd c q)
            refine RR.weak [(0, .ref v0), (1, .ref v1), (2, .int v2), (3, .int v3), (5, .int v5)] ⟨rfl, rfl, rfl, rfl, rfl, trivial⟩ ?_
            exact s_o_sd_meant_64 _ (fun _ _ _ _ _ _ S h => ih _ _ _ _ _ _ S h) _ _ _ _ _ _ _ h
          · refine RR.c_eq (fun q => absurd q c) (fun _ => ?_)
            refine RR.runs (pc' := 65) (lc' := [(0, .ref v0), (1, .ref v1), (2, .int v2), (3, .int v3), (4, .int v4), (5, .int v5)]) (st' := [.int (((1 : Int32) <<< (v5 &&& 31))), .int v4]) (S1 := S3) (nL := 6) (cd := cd_1009) mx_1009 rfl rfl 4 rfl ?_
            refine RR.weak [(0, .ref v0), (1, .ref v1), (2, .int v2), (3, .int v3), (5, .int v5)] ⟨rfl, rfl, rfl, rfl, rfl, trivial⟩ ?_
            exact s_o_sd_meant_65 _ (fun _ _ _ _ _ _ S h => ih _ _ _ _ _ _ S h) _ _ _ _ _ _ _ _ h
    · refine RR.c_ge (fun q => absurd q c) (fun _ => ?_)
      refine RR.weak [(4, .int v4)] ⟨rfl, trivial⟩ ?_
      exact s_o_sd_meant_74 _ _ h
def o_sd_meant (v0 : Nat) (v1 : Nat) (v2 : Int32) (S : St) : Re Int32 :=
  if KO.1 v0 = (0, 5) then (
  if KO.1 v1 = (0, 10) then (
  lt' (((rI S v0 1) &&& ((rI S v1 16) ^^^ (-1 : Int32))) : Int32) fun x3 =>
  o_sd_meant_18 FU v0 v1 v2 x3 (0 : Int32) (0 : Int32) S) else none) else none
set_option maxRecDepth 100000 in
theorem s0_o_sd_meant {d : Nat} {S' : St} {r : Int32} (v0 : Nat) (v1 : Nat) (v2 : Int32) (S : St) (h : o_sd_meant v0 v1 v2 S = some (r, S')) : RR KO (d + 2) 1009 0 [(0, .ref v0), (1, .ref v1), (2, .int v2)] [] S (some (.int r)) S' := by
  unfold o_sd_meant at h
  refine RR.runs (pc' := 1) (lc' := [(0, .ref v0), (1, .ref v1), (2, .int v2)]) (st' := [.ref v0]) (S1 := S) (nL := 6) (cd := cd_1009) mx_1009 rfl rfl 1 rfl ?_
  obtain ⟨g1, h⟩ := gpE h
  refine RR.gPo (pc' := 4) (lc' := [(0, .ref v0), (1, .ref v1), (2, .int v2)]) (st' := [.int (rI S v0 1)]) (S1 := S) (nL := 6) (cd := cd_1009) mx_1009 rfl rfl rfl ⟨g1, by decide, by decide⟩ ?_
  refine RR.runs (pc' := 5) (lc' := [(0, .ref v0), (1, .ref v1), (2, .int v2)]) (st' := [.ref v1, .int (rI S v0 1)]) (S1 := S) (nL := 6) (cd := cd_1009) mx_1009 rfl rfl 1 rfl ?_
  obtain ⟨g2, h⟩ := gpE h
  refine RR.gPo (pc' := 8) (lc' := [(0, .ref v0), (1, .ref v1), (2, .int v2)]) (st' := [.int (rI S v1 16), .int (rI S v0 1)]) (S1 := S) (nL := 6) (cd := cd_1009) mx_1009 rfl rfl rfl ⟨g2, by decide, by decide⟩ ?_
  refine RR.runs (pc' := 12) (lc' := [(3, .int (((rI S v0 1) &&& ((rI S v1 16) ^^^ (-1 : Int32))))), (0, .ref v0), (1, .ref v1), (2, .int v2)]) (st' := []) (S1 := S) (nL := 6) (cd := cd_1009) mx_1009 rfl rfl 4 rfl ?_
  obtain ⟨x3, ex3, h⟩ := ltE h
  rw [← ex3]
  refine RR.runs (pc' := 18) (lc' := [(5, .int (0 : Int32)), (4, .int (0 : Int32)), (3, .int x3), (0, .ref v0), (1, .ref v1), (2, .int v2)]) (st' := []) (S1 := S) (nL := 6) (cd := cd_1009) mx_1009 rfl rfl 4 rfl ?_
  refine RR.weak [(0, .ref v0), (1, .ref v1), (2, .int v2), (3, .int x3), (4, .int (0 : Int32)), (5, .int (0 : Int32))] ⟨rfl, rfl, rfl, rfl, rfl, rfl, trivial⟩ ?_
  exact s_o_sd_meant_18 _ _ _ _ _ _ _ _ h
theorem s_o_sd_meant {d : Nat} {S' : St} {r : Int32} (v0 : Nat) (v1 : Nat) (v2 : Int32) (S : St) (h : o_sd_meant v0 v1 v2 S = some (r, S')) : RC KO (d + 2) 1009 [.ref v0, .ref v1, .int v2] S (some (.int r)) S' := RC.of rfl (s0_o_sd_meant v0 v1 v2 S h)
-- NameOrchard$Search add (III)V
def o_se_add_13 (S : St) : Re Unit :=
  some ((), S)
set_option maxRecDepth 100000 in
theorem s_o_se_add_13 {d : Nat} {S' : St} {r : Unit} (S : St) (h : o_se_add_13 S = some (r, S')) : RR KO (d + 0) 802 13 [] [] S none S' := by
  unfold o_se_add_13 at h
  cases h
  exact RR.retv mx_802 rfl rfl rfl
def o_se_add_48 (S : St) : Re Unit :=
  some ((), S)
set_option maxRecDepth 100000 in
theorem s_o_se_add_48 {d : Nat} {S' : St} {r : Unit} (S : St) (h : o_se_add_48 S = some (r, S')) : RR KO (d + 0) 802 48 [] [] S none S' := by
  unfold o_se_add_48 at h
  cases h
  exact RR.retv mx_802 rfl rfl rfl
def o_se_add_49 (k17 : Int32 → Int32 → Int32 → Int32 → St → Re Unit) (v1 : Int32) (v2 : Int32) (v3 : Int32) (v4 : Int32) (S : St) : Re Unit :=
  lt' ((v4 + (1 : Int32)) : Int32) fun x1 =>
  k17 v1 v2 v3 x1 S
set_option maxRecDepth 100000 in
theorem s_o_se_add_49 {d : Nat} (k17 : Int32 → Int32 → Int32 → Int32 → St → Re Unit) {S' : St} {r : Unit} (b17 : ∀ (v1 : Int32) (v2 : Int32) (v3 : Int32) (v4 : Int32) (S : St), k17 v1 v2 v3 v4 S = some (r, S') → RR KO (d + 0) 802 17 [(0, .ref 5), (1, .int v1), (2, .int v2), (3, .int v3), (4, .int v4)] [] S none S') (v1 : Int32) (v2 : Int32) (v3 : Int32) (v4 : Int32) (S : St) (h : o_se_add_49 k17 v1 v2 v3 v4 S = some (r, S')) : RR KO (d + 0) 802 49 [(0, .ref 5), (1, .int v1), (2, .int v2), (3, .int v3), (4, .int v4)] [] S none S' := by
  unfold o_se_add_49 at h
  refine RR.runs (pc' := 52) (lc' := [(4, .int ((v4 + (1 : Int32)))), (0, .ref 5), (1, .int v1), (2, .int v2), (3, .int v3)]) (st' := []) (S1 := S) (nL := 5) (cd := cd_802) mx_802 rfl rfl 1 rfl ?_
  obtain ⟨x1, ex1, h⟩ := ltE h
  rw [← ex1]
  refine RR.runs (pc' := 17) (lc' := [(4, .int x1), (0, .ref 5), (1, .int v1), (2, .int v2), (3, .int v3)]) (st' := []) (S1 := S) (nL := 5) (cd := cd_802) mx_802 rfl rfl 1 rfl ?_
  refine RR.weak [(0, .ref 5), (1, .int v1), (2, .int v2), (3, .int v3), (4, .int x1)] ⟨rfl, rfl, rfl, rfl, rfl, trivial⟩ ?_
  exact b17 _ _ _ _ _ h
def o_se_add_55 (v1 : Int32) (v2 : Int32) (v3 : Int32) (S : St) : Re Unit :=
  if (rI S 5 9) < 0 ∨ 80 ≤ (rI S 5 9).toNatClampNeg then none else
  lt' (wI S 6 (rI S 5 9).toNatClampNeg v1) fun S1 =>
  if (rI S1 5 9) < 0 ∨ 80 ≤ (rI S1 5 9).toNatClampNeg then none else
  lt' (wI S1 7 (rI S1 5 9).toNatClampNeg v2) fun S2 =>
  if (rI S2 5 9) < 0 ∨ 80 ≤ (rI S2 5 9).toNatClampNeg then none else
  lt' (wI S2 8 (rI S2 5 9).toNatClampNeg v3) fun S3 =>
  lt' (wI S3 5 9 (((rI S3 5 9) + (1 : Int32)))) fun S4 =>
  some ((), S4)
set_option maxRecDepth 100000 in
theorem s_o_se_add_55 {d : Nat} {S' : St} {r : Unit} (v1 : Int32) (v2 : Int32) (v3 : Int32) (S : St) (h : o_se_add_55 v1 v2 v3 S = some (r, S')) : RR KO (d + 0) 802 55 [(0, .ref 5), (1, .int v1), (2, .int v2), (3, .int v3)] [] S none S' := by
  unfold o_se_add_55 at h
  refine RR.runs (pc' := 64) (lc' := [(0, .ref 5), (1, .int v1), (2, .int v2), (3, .int v3)]) (st' := [.int v1, .int (rI S 5 9), .ref 6]) (S1 := S) (nL := 5) (cd := cd_802) mx_802 rfl rfl 5 rfl ?_
  obtain ⟨g, h⟩ := gnE h
  refine RR.gPN (c2 := (KO.1 6).1 = 1) (pc' := 65) (lc' := [(0, .ref 5), (1, .int v1), (2, .int v2), (3, .int v3)]) (st' := []) (S1 := (wI S 6 (rI S 5 9).toNatClampNeg v1)) (nL := 5) (cd := cd_802) mx_802 rfl rfl rfl rfl g ?_
  obtain ⟨S1, eS1, h⟩ := ltE h
  rw [← eS1]
  refine RR.runs (pc' := 74) (lc' := [(0, .ref 5), (1, .int v1), (2, .int v2), (3, .int v3)]) (st' := [.int v2, .int (rI S1 5 9), .ref 7]) (S1 := S1) (nL := 5) (cd := cd_802) mx_802 rfl rfl 5 rfl ?_
  obtain ⟨g, h⟩ := gnE h
  refine RR.gPN (c2 := (KO.1 7).1 = 1) (pc' := 75) (lc' := [(0, .ref 5), (1, .int v1), (2, .int v2), (3, .int v3)]) (st' := []) (S1 := (wI S1 7 (rI S1 5 9).toNatClampNeg v2)) (nL := 5) (cd := cd_802) mx_802 rfl rfl rfl rfl g ?_
  obtain ⟨S2, eS2, h⟩ := ltE h
  rw [← eS2]
  refine RR.runs (pc' := 84) (lc' := [(0, .ref 5), (1, .int v1), (2, .int v2), (3, .int v3)]) (st' := [.int v3, .int (rI S2 5 9), .ref 8]) (S1 := S2) (nL := 5) (cd := cd_802) mx_802 rfl rfl 5 rfl ?_
  obtain ⟨g, h⟩ := gnE h
  refine RR.gPN (c2 := (KO.1 8).1 = 1) (pc' := 85) (lc' := [(0, .ref 5), (1, .int v1), (2, .int v2), (3, .int v3)]) (st' := []) (S1 := (wI S2 8 (rI S2 5 9).toNatClampNeg v3)) (nL := 5) (cd := cd_802) mx_802 rfl rfl rfl rfl g ?_
  obtain ⟨S3, eS3, h⟩ := ltE h
  rw [← eS3]
  refine RR.runs (pc' := 95) (lc' := [(0, .ref 5), (1, .int v1), (2, .int v2), (3, .int v3)]) (st' := []) (S1 := (wI S3 5 9 (((rI S3 5 9) + (1 : Int32))))) (nL := 5) (cd := cd_802) mx_802 rfl rfl 6 rfl ?_
  obtain ⟨S4, eS4, h⟩ := ltE h
  rw [← eS4]
  cases h
  exact RR.retv mx_802 rfl rfl rfl
def o_se_add_17 : Nat → Int32 → Int32 → Int32 → Int32 → St → Re Unit
  | 0, _, _, _, _, _ => none
  | n + 1, v1, v2, v3, v4, S =>
  if v4 < (rI S 5 9) then (
    if v4 < 0 ∨ 80 ≤ v4.toNatClampNeg then none else
    if (rI S 6 v4.toNatClampNeg) = v1 then (
      if v4 < 0 ∨ 80 ≤ v4.toNatClampNeg then none else
      if (rI S 7 v4.toNatClampNeg) = v2 then (
        o_se_add_48 S)
      else (
        o_se_add_49 (o_se_add_17 n) v1 v2 v3 v4 S))
    else (
      o_se_add_49 (o_se_add_17 n) v1 v2 v3 v4 S))
  else (
    o_se_add_55 v1 v2 v3 S)
set_option maxRecDepth 100000 in
theorem s_o_se_add_17 {d : Nat} {S' : St} {r : Unit} : ∀ (n : Nat) (v1 : Int32) (v2 : Int32) (v3 : Int32) (v4 : Int32) (S : St), o_se_add_17 n v1 v2 v3 v4 S = some (r, S') → RR KO (d + 0) 802 17 [(0, .ref 5), (1, .int v1), (2, .int v2), (3, .int v3), (4, .int v4)] [] S none S' := by
  intro n
  induction n with
  | zero => intro v1 v2 v3 v4 S h; simp only [o_se_add_17] at h; cases h
  | succ n ih =>
    intro v1 v2 v3 v4 S h
    simp only [o_se_add_17] at h
    refine RR.runs (pc' := icm .ge v4 (rI S 5 9) 55 26) (lc' := [(0, .ref 5), (1, .int v1), (2, .int v2), (3, .int v3), (4, .int v4)]) (st' := []) (S1 := S) (nL := 5) (cd := cd_802) mx_802 rfl rfl 4 rfl ?_
    rcases ifE h with ⟨c, h⟩ | ⟨c, h⟩
    · refine RR.c_ge (fun _ => ?_) (fun q => absurd c q)
      refine RR.runs (pc' := 32) (lc' := [(0, .ref 5), (1, .int v1), (2, .int v2), (3, .int v3), (4, .int v4)]) (st' := [.int v4, .ref 6]) (S1 := S) (nL := 5) (cd := cd_802) mx_802 rfl rfl 3 rfl ?_
      obtain ⟨g, h⟩ := gnE h
      refine RR.gPN (c2 := (KO.1 6).1 = 1) (pc' := 33) (lc' := [(0, .ref 5), (1, .int v1), (2, .int v2), (3, .int v3), (4, .int v4)]) (st' := [.int (rI S 6 v4.toNatClampNeg)]) (S1 := S) (nL := 5) (cd := cd_802) mx_802 rfl rfl rfl rfl g ?_
      refine RR.runs (pc' := icm .ne (rI S 6 v4.toNatClampNeg) v1 49 37) (lc' := [(0, .ref 5), (1, .int v1), (2, .int v2), (3, .int v3), (4, .int v4)]) (st' := []) (S1 := S) (nL := 5) (cd := cd_802) mx_802 rfl rfl 2 rfl ?_
      rcases ifE h with ⟨c, h⟩ | ⟨c, h⟩
      · refine RR.c_ne (fun _ => ?_) (fun q => absurd c q)
        refine RR.runs (pc' := 43) (lc' := [(0, .ref 5), (1, .int v1), (2, .int v2), (3, .int v3), (4, .int v4)]) (st' := [.int v4, .ref 7]) (S1 := S) (nL := 5) (cd := cd_802) mx_802 rfl rfl 3 rfl ?_
        obtain ⟨g, h⟩ := gnE h
        refine RR.gPN (c2 := (KO.1 7).1 = 1) (pc' := 44) (lc' := [(0, .ref 5), (1, .int v1), (2, .int v2), (3, .int v3), (4, .int v4)]) (st' := [.int (rI S 7 v4.toNatClampNeg)]) (S1 := S) (nL := 5) (cd := cd_802) mx_802 rfl rfl rfl rfl g ?_
        refine RR.runs (pc' := icm .ne (rI S 7 v4.toNatClampNeg) v2 49 48) (lc' := [(0, .ref 5), (1, .int v1), (2, .int v2), (3, .int v3), (4, .int v4)]) (st' := []) (S1 := S) (nL := 5) (cd := cd_802) mx_802 rfl rfl 2 rfl ?_
        rcases ifE h with ⟨c, h⟩ | ⟨c, h⟩
        · refine RR.c_ne (fun _ => ?_) (fun q => absurd c q)
          refine RR.weak [] trivial ?_
          exact s_o_se_add_48 _ h
        · refine RR.c_ne (fun q => absurd q c) (fun _ => ?_)
          refine RR.weak [(0, .ref 5), (1, .int v1), (2, .int v2), (3, .int v3), (4, .int v4)] ⟨rfl, rfl, rfl, rfl, rfl, trivial⟩ ?_
          exact s_o_se_add_49 _ (fun _ _ _ _ S h => ih _ _ _ _ S h) _ _ _ _ _ h
      · refine RR.c_ne (fun q => absurd q c) (fun _ => ?_)
        refine RR.weak [(0, .ref 5), (1, .int v1), (2, .int v2), (3, .int v3), (4, .int v4)] ⟨rfl, rfl, rfl, rfl, rfl, trivial⟩ ?_
        exact s_o_se_add_49 _ (fun _ _ _ _ S h => ih _ _ _ _ S h) _ _ _ _ _ h
    · refine RR.c_ge (fun q => absurd q c) (fun _ => ?_)
      refine RR.weak [(0, .ref 5), (1, .int v1), (2, .int v2), (3, .int v3)] ⟨rfl, rfl, rfl, rfl, trivial⟩ ?_
      exact s_o_se_add_55 _ _ _ _ h
def o_se_add (v1 : Int32) (v2 : Int32) (v3 : Int32) (S : St) : Re Unit :=
  if v2 = 0 then (
    o_se_add_13 S)
  else (
    if (rI S 5 9) < (80 : Int32) then (
      o_se_add_17 FU v1 v2 v3 (0 : Int32) S)
    else (
      o_se_add_13 S))
set_option maxRecDepth 100000 in
theorem s0_o_se_add {d : Nat} {S' : St} {r : Unit} (v1 : Int32) (v2 : Int32) (v3 : Int32) (S : St) (h : o_se_add v1 v2 v3 S = some (r, S')) : RR KO (d + 0) 802 0 [(0, .ref 5), (1, .int v1), (2, .int v2), (3, .int v3)] [] S none S' := by
  unfold o_se_add at h
  refine RR.runs (pc' := icm .eq v2 0 13 4) (lc' := [(0, .ref 5), (1, .int v1), (2, .int v2), (3, .int v3)]) (st' := []) (S1 := S) (nL := 5) (cd := cd_802) mx_802 rfl rfl 2 rfl ?_
  rcases ifE h with ⟨c, h⟩ | ⟨c, h⟩
  · refine RR.c_eq (fun _ => ?_) (fun q => absurd c q)
    refine RR.weak [] trivial ?_
    exact s_o_se_add_13 _ h
  · refine RR.c_eq (fun q => absurd q c) (fun _ => ?_)
    refine RR.runs (pc' := icm .lt (rI S 5 9) (80 : Int32) 14 13) (lc' := [(0, .ref 5), (1, .int v1), (2, .int v2), (3, .int v3)]) (st' := []) (S1 := S) (nL := 5) (cd := cd_802) mx_802 rfl rfl 4 rfl ?_
    rcases ifE h with ⟨c, h⟩ | ⟨c, h⟩
    · refine RR.c_lt (fun _ => ?_) (fun q => absurd c q)
      refine RR.runs (pc' := 17) (lc' := [(4, .int (0 : Int32)), (0, .ref 5), (1, .int v1), (2, .int v2), (3, .int v3)]) (st' := []) (S1 := S) (nL := 5) (cd := cd_802) mx_802 rfl rfl 2 rfl ?_
      refine RR.weak [(0, .ref 5), (1, .int v1), (2, .int v2), (3, .int v3), (4, .int (0 : Int32))] ⟨rfl, rfl, rfl, rfl, rfl, trivial⟩ ?_
      exact s_o_se_add_17 _ _ _ _ _ _ h
    · refine RR.c_lt (fun q => absurd q c) (fun _ => ?_)
      refine RR.weak [] trivial ?_
      exact s_o_se_add_13 _ h
theorem s_o_se_add {d : Nat} {S' : St} {r : Unit} (v1 : Int32) (v2 : Int32) (v3 : Int32) (S : St) (h : o_se_add v1 v2 v3 S = some (r, S')) : RC KO (d + 0) 802 [.ref 5, .int v1, .int v2, .int v3] S none S' := RC.of rfl (s0_o_se_add v1 v2 v3 S h)
-- NameOrchard$Search gather (LNameOrchard$Told;LNameOrchard$Standing;)V
def o_se_gather_88 (k55 : Nat → Nat → Int32 → Int32 → Int32 → Int32 → St → Re Unit) (v1 : Nat) (v2 : Nat) (v3 : Int32) (v4 : Int32) (v5 : Int32) (v6 : Int32) (p0 : Int32) (S : St) : Re Unit :=
  bn (o_se_add (p0 &&& v4) (p0 &&& v5) ((((16 : Int32) * v3) + v6)) S) fun r1 S2 =>
  lt' ((v6 + (1 : Int32)) : Int32) fun x3 =>
  k55 v1 v2 v3 v4 v5 x3 S2
set_option maxRecDepth 100000 in
theorem s_o_se_gather_88 {d : Nat} (k55 : Nat → Nat → Int32 → Int32 → Int32 → Int32 → St → Re Unit) {S' : St} {r : Unit} (b55 : ∀ (v1 : Nat) (v2 : Nat) (v3 : Int32) (v4 : Int32) (v5 : Int32) (v6 : Int32) (S : St), k55 v1 v2 v3 v4 v5 v6 S = some (r, S') → RR KO (d + 3) 801 55 [(0, .ref 5), (1, .ref v1), (2, .ref v2), (3, .int v3), (4, .int v4), (5, .int v5), (6, .int v6)] [] S none S') (v1 : Nat) (v2 : Nat) (v3 : Int32) (v4 : Int32) (v5 : Int32) (v6 : Int32) (p0 : Int32) (S : St) (h : o_se_gather_88 k55 v1 v2 v3 v4 v5 v6 p0 S = some (r, S')) : RR KO (d + 3) 801 88 [(0, .ref 5), (1, .ref v1), (2, .ref v2), (3, .int v3), (4, .int v4), (5, .int v5), (6, .int v6)] [.int p0] S none S' := by
  unfold o_se_gather_88 at h
  refine RR.runs (pc' := 108) (lc' := [(7, .int p0), (0, .ref 5), (1, .ref v1), (2, .ref v2), (3, .int v3), (4, .int v4), (5, .int v5), (6, .int v6)]) (st' := [.int ((((16 : Int32) * v3) + v6)), .int (p0 &&& v5), .int (p0 &&& v4), .ref 5]) (S1 := S) (nL := 8) (cd := cd_801) mx_801 rfl rfl 13 rfl ?_
  obtain ⟨r1, S2, h1, h⟩ := bnE h
  refine RR.callV (b := 5) (as := [.int (p0 &&& v4), .int (p0 &&& v5), .int ((((16 : Int32) * v3) + v6))]) (rest := []) (r1 := none) (S1 := S2) mx_801 rfl rfl mx_802 rfl rfl (by decide) (Or.inl rfl) (Nat.le_of_ble_eq_true rfl) (Nat.le_of_ble_eq_true rfl) (RC.deep (by omega) (s_o_se_add (d := d) _ _ _ _ h1)) ?_
  show RR KO _ 801 111 [(7, .int p0), (0, .ref 5), (1, .ref v1), (2, .ref v2), (3, .int v3), (4, .int v4), (5, .int v5), (6, .int v6)] [] S2 _ _
  refine RR.runs (pc' := 114) (lc' := [(6, .int ((v6 + (1 : Int32)))), (7, .int p0), (0, .ref 5), (1, .ref v1), (2, .ref v2), (3, .int v3), (4, .int v4), (5, .int v5)]) (st' := []) (S1 := S2) (nL := 8) (cd := cd_801) mx_801 rfl rfl 1 rfl ?_
  obtain ⟨x3, ex3, h⟩ := ltE h
  rw [← ex3]
  refine RR.runs (pc' := 55) (lc' := [(6, .int x3), (7, .int p0), (0, .ref 5), (1, .ref v1), (2, .ref v2), (3, .int v3), (4, .int v4), (5, .int v5)]) (st' := []) (S1 := S2) (nL := 8) (cd := cd_801) mx_801 rfl rfl 1 rfl ?_
  refine RR.weak [(0, .ref 5), (1, .ref v1), (2, .ref v2), (3, .int v3), (4, .int v4), (5, .int v5), (6, .int x3)] ⟨rfl, rfl, rfl, rfl, rfl, rfl, rfl, trivial⟩ ?_
  exact b55 _ _ _ _ _ _ _ h
def o_se_gather_117 (k7 : Nat → Nat → Int32 → St → Re Unit) (v1 : Nat) (v2 : Nat) (v3 : Int32) (S : St) : Re Unit :=
  lt' ((v3 + (1 : Int32)) : Int32) fun x1 =>
  k7 v1 v2 x1 S
set_option maxRecDepth 100000 in
theorem s_o_se_gather_117 {d : Nat} (k7 : Nat → Nat → Int32 → St → Re Unit) {S' : St} {r : Unit} (b7 : ∀ (v1 : Nat) (v2 : Nat) (v3 : Int32) (S : St), k7 v1 v2 v3 S = some (r, S') → RR KO (d + 3) 801 7 [(0, .ref 5), (1, .ref v1), (2, .ref v2), (3, .int v3)] [] S none S') (v1 : Nat) (v2 : Nat) (v3 : Int32) (S : St) (h : o_se_gather_117 k7 v1 v2 v3 S = some (r, S')) : RR KO (d + 3) 801 117 [(0, .ref 5), (1, .ref v1), (2, .ref v2), (3, .int v3)] [] S none S' := by
  unfold o_se_gather_117 at h
  refine RR.runs (pc' := 120) (lc' := [(3, .int ((v3 + (1 : Int32)))), (0, .ref 5), (1, .ref v1), (2, .ref v2)]) (st' := []) (S1 := S) (nL := 8) (cd := cd_801) mx_801 rfl rfl 1 rfl ?_
  obtain ⟨x1, ex1, h⟩ := ltE h
  rw [← ex1]
  refine RR.runs (pc' := 7) (lc' := [(3, .int x1), (0, .ref 5), (1, .ref v1), (2, .ref v2)]) (st' := []) (S1 := S) (nL := 8) (cd := cd_801) mx_801 rfl rfl 1 rfl ?_
  refine RR.weak [(0, .ref 5), (1, .ref v1), (2, .ref v2), (3, .int x1)] ⟨rfl, rfl, rfl, rfl, trivial⟩ ?_
  exact b7 _ _ _ _ h
def o_se_gather_55 (k7 : Nat → Nat → Int32 → St → Re Unit) : Nat → Nat → Nat → Int32 → Int32 → Int32 → Int32 → St → Re Unit
  | 0, _, _, _, _, _, _, _ => none
  | n + 1, v1, v2, v3, v4, v5, v6, S =>
  if KO.1 v1 = (0, 10) then (
  if KO.1 (v1 + 2) = (0, 2) then (
bn (o_na_size (v1 + 2) S) fun r3 S4 =>
  if v6 < r3 then (
    bn (o_to_canSay v1 v3 v6 S4) fun r5 S6 =>
    if r5 = 0 then (
      o_se_gather_88 (o_se_gather_55 k7 n) v1 v2 v3 v4 v5 v6 (0 : Int32) S6)
    else (
      if KO.1 v2 = (0, 5) then (
bn (o_sd_meant v2 v1 v6 S6) fun r8 S9 =>
      o_se_gather_88 (o_se_gather_55 k7 n) v1 v2 v3 v4 v5 v6 r8 S9) else none))
  else (
    o_se_gather_117 k7 v1 v2 v3 S4)) else none) else none
set_option maxRecDepth 100000 in
theorem s_o_se_gather_55 {d : Nat} (k7 : Nat → Nat → Int32 → St → Re Unit) {S' : St} {r : Unit} (b7 : ∀ (v1 : Nat) (v2 : Nat) (v3 : Int32) (S : St), k7 v1 v2 v3 S = some (r, S') → RR KO (d + 3) 801 7 [(0, .ref 5), (1, .ref v1), (2, .ref v2), (3, .int v3)] [] S none S') : ∀ (n : Nat) (v1 : Nat) (v2 : Nat) (v3 : Int32) (v4 : Int32) (v5 : Int32) (v6 : Int32) (S : St), o_se_gather_55 k7 n v1 v2 v3 v4 v5 v6 S = some (r, S') → RR KO (d + 3) 801 55 [(0, .ref 5), (1, .ref v1), (2, .ref v2), (3, .int v3), (4, .int v4), (5, .int v5), (6, .int v6)] [] S none S' := by
  intro n
  induction n with
  | zero => intro v1 v2 v3 v4 v5 v6 S h; simp only [o_se_gather_55] at h; cases h
  | succ n ih =>
    intro v1 v2 v3 v4 v5 v6 S h
    simp only [o_se_gather_55] at h
    refine RR.runs (pc' := 58) (lc' := [(0, .ref 5), (1, .ref v1), (2, .ref v2), (3, .int v3), (4, .int v4), (5, .int v5), (6, .int v6)]) (st' := [.ref v1, .int v6]) (S1 := S) (nL := 8) (cd := cd_801) mx_801 rfl rfl 2 rfl ?_
    obtain ⟨g1, h⟩ := gpE h
    refine RR.gPo (pc' := 61) (lc' := [(0, .ref 5), (1, .ref v1), (2, .ref v2), (3, .int v3), (4, .int v4), (5, .int v5), (6, .int v6)]) (st' := [.ref (v1 + 2), .int v6]) (S1 := S) (nL := 8) (cd := cd_801) mx_801 rfl rfl rfl ⟨g1, by decide, by decide⟩ ?_
    obtain ⟨g2, h⟩ := gpE h
    obtain ⟨r3, S4, h1, h⟩ := bnE h
    refine RR.callV (b := (v1 + 2)) (as := []) (rest := [.int v6]) (r1 := (some (.int r3))) (S1 := S4) mx_801 rfl rfl mx_403 rfl rfl (by decide) (Or.inl g2) (Nat.le_of_ble_eq_true rfl) (Nat.le_of_ble_eq_true rfl) (RC.deep (by omega) (s_o_na_size (d := d) _ _ h1)) ?_
    show RR KO _ 801 64 [(0, .ref 5), (1, .ref v1), (2, .ref v2), (3, .int v3), (4, .int v4), (5, .int v5), (6, .int v6)] [.int r3, .int v6] S4 _ _
    refine RR.runs (pc' := icm .ge v6 r3 117 67) (lc' := [(0, .ref 5), (1, .ref v1), (2, .ref v2), (3, .int v3), (4, .int v4), (5, .int v5), (6, .int v6)]) (st' := []) (S1 := S4) (nL := 8) (cd := cd_801) mx_801 rfl rfl 1 rfl ?_
    rcases ifE h with ⟨c, h⟩ | ⟨c, h⟩
    · refine RR.c_ge (fun _ => ?_) (fun q => absurd c q)
      refine RR.runs (pc' := 71) (lc' := [(0, .ref 5), (1, .ref v1), (2, .ref v2), (3, .int v3), (4, .int v4), (5, .int v5), (6, .int v6)]) (st' := [.int v6, .int v3, .ref v1]) (S1 := S4) (nL := 8) (cd := cd_801) mx_801 rfl rfl 3 rfl ?_
      obtain ⟨r5, S6, h1, h⟩ := bnE h
      refine RR.callV (b := v1) (as := [.int v3, .int v6]) (rest := []) (r1 := (some (.int r5))) (S1 := S6) mx_801 rfl rfl mx_2010 rfl rfl (by decide) (Or.inl g1) (Nat.le_of_ble_eq_true rfl) (Nat.le_of_ble_eq_true rfl) (RC.deep (by omega) (s_o_to_canSay (d := d) _ _ _ _ h1)) ?_
      show RR KO _ 801 74 [(0, .ref 5), (1, .ref v1), (2, .ref v2), (3, .int v3), (4, .int v4), (5, .int v5), (6, .int v6)] [.int r5] S6 _ _
      refine RR.runs (pc' := icm .eq r5 0 87 77) (lc' := [(0, .ref 5), (1, .ref v1), (2, .ref v2), (3, .int v3), (4, .int v4), (5, .int v5), (6, .int v6)]) (st' := []) (S1 := S6) (nL := 8) (cd := cd_801) mx_801 rfl rfl 1 rfl ?_
      rcases ifE h with ⟨c, h⟩ | ⟨c, h⟩
      · refine RR.c_eq (fun _ => ?_) (fun q => absurd c q)
        refine RR.runs (pc' := 88) (lc' := [(0, .ref 5), (1, .ref v1), (2, .ref v2), (3, .int v3), (4, .int v4), (5, .int v5), (6, .int v6)]) (st' := [.int (0 : Int32)]) (S1 := S6) (nL := 8) (cd := cd_801) mx_801 rfl rfl 1 rfl ?_
        refine RR.weak [(0, .ref 5), (1, .ref v1), (2, .ref v2), (3, .int v3), (4, .int v4), (5, .int v5), (6, .int v6)] ⟨rfl, rfl, rfl, rfl, rfl, rfl, rfl, trivial⟩ ?_
        exact s_o_se_gather_88 _ (fun _ _ _ _ _ _ S h => ih _ _ _ _ _ _ S h) _ _ _ _ _ _ _ _ h
      · refine RR.c_eq (fun q => absurd q c) (fun _ => ?_)
        refine RR.runs (pc' := 81) (lc' := [(0, .ref 5), (1, .ref v1), (2, .ref v2), (3, .int v3), (4, .int v4), (5, .int v5), (6, .int v6)]) (st' := [.int v6, .ref v1, .ref v2]) (S1 := S6) (nL := 8) (cd := cd_801) mx_801 rfl rfl 3 rfl ?_
        obtain ⟨g7, h⟩ := gpE h
        obtain ⟨r8, S9, h1, h⟩ := bnE h
        refine RR.callV (b := v2) (as := [.ref v1, .int v6]) (rest := []) (r1 := (some (.int r8))) (S1 := S9) mx_801 rfl rfl mx_1009 rfl rfl (by decide) (Or.inl g7) (Nat.le_of_ble_eq_true rfl) (Nat.le_of_ble_eq_true rfl) (RC.deep (by omega) (s_o_sd_meant (d := d) _ _ _ _ h1)) ?_
        show RR KO _ 801 84 [(0, .ref 5), (1, .ref v1), (2, .ref v2), (3, .int v3), (4, .int v4), (5, .int v5), (6, .int v6)] [.int r8] S9 _ _
        refine RR.runs (pc' := 88) (lc' := [(0, .ref 5), (1, .ref v1), (2, .ref v2), (3, .int v3), (4, .int v4), (5, .int v5), (6, .int v6)]) (st' := [.int r8]) (S1 := S9) (nL := 8) (cd := cd_801) mx_801 rfl rfl 1 rfl ?_
        refine RR.weak [(0, .ref 5), (1, .ref v1), (2, .ref v2), (3, .int v3), (4, .int v4), (5, .int v5), (6, .int v6)] ⟨rfl, rfl, rfl, rfl, rfl, rfl, rfl, trivial⟩ ?_
        exact s_o_se_gather_88 _ (fun _ _ _ _ _ _ S h => ih _ _ _ _ _ _ S h) _ _ _ _ _ _ _ _ h
    · refine RR.c_ge (fun q => absurd q c) (fun _ => ?_)
      refine RR.weak [(0, .ref 5), (1, .ref v1), (2, .ref v2), (3, .int v3)] ⟨rfl, rfl, rfl, rfl, trivial⟩ ?_
      exact s_o_se_gather_117 _ b7 _ _ _ _ h
def o_se_gather_123 (S : St) : Re Unit :=
  some ((), S)
set_option maxRecDepth 100000 in
theorem s_o_se_gather_123 {d : Nat} {S' : St} {r : Unit} (S : St) (h : o_se_gather_123 S = some (r, S')) : RR KO (d + 3) 801 123 [] [] S none S' := by
  unfold o_se_gather_123 at h
  cases h
  exact RR.retv mx_801 rfl rfl rfl
def o_se_gather_7 : Nat → Nat → Nat → Int32 → St → Re Unit
  | 0, _, _, _, _ => none
  | n + 1, v1, v2, v3, S =>
  if KO.1 v1 = (0, 10) then (
  if KO.1 (v1 + 82) = (0, 7) then (
bn (o_tb_size (v1 + 82) S) fun r3 S4 =>
  if v3 < r3 then (
    bn (o_to_laneOf v1 v3 S4) fun r5 S6 =>
    bn (o_to_loudOf v1 v3 S6) fun r7 S8 =>
    bn (o_to_within v1 r5 r7 S8) fun r9 S10 =>
    bn (o_to_laneOf v1 v3 S10) fun r11 S12 =>
    bn (o_to_loudOf v1 v3 S12) fun r13 S14 =>
    bn (o_to_within v1 r11 (((2 : Int32) * r13)) S14) fun r15 S16 =>
    o_se_gather_55 (o_se_gather_7 n) FU v1 v2 v3 r9 r15 (0 : Int32) S16)
  else (
    o_se_gather_123 S4)) else none) else none
set_option maxRecDepth 100000 in
theorem s_o_se_gather_7 {d : Nat} {S' : St} {r : Unit} : ∀ (n : Nat) (v1 : Nat) (v2 : Nat) (v3 : Int32) (S : St), o_se_gather_7 n v1 v2 v3 S = some (r, S') → RR KO (d + 3) 801 7 [(0, .ref 5), (1, .ref v1), (2, .ref v2), (3, .int v3)] [] S none S' := by
  intro n
  induction n with
  | zero => intro v1 v2 v3 S h; simp only [o_se_gather_7] at h; cases h
  | succ n ih =>
    intro v1 v2 v3 S h
    simp only [o_se_gather_7] at h
    refine RR.runs (pc' := 9) (lc' := [(0, .ref 5), (1, .ref v1), (2, .ref v2), (3, .int v3)]) (st' := [.ref v1, .int v3]) (S1 := S) (nL := 8) (cd := cd_801) mx_801 rfl rfl 2 rfl ?_
    obtain ⟨g1, h⟩ := gpE h
    refine RR.gPo (pc' := 12) (lc' := [(0, .ref 5), (1, .ref v1), (2, .ref v2), (3, .int v3)]) (st' := [.ref (v1 + 82), .int v3]) (S1 := S) (nL := 8) (cd := cd_801) mx_801 rfl rfl rfl ⟨g1, by decide, by decide⟩ ?_
    obtain ⟨g2, h⟩ := gpE h
    obtain ⟨r3, S4, h1, h⟩ := bnE h
    refine RR.callV (b := (v1 + 82)) (as := []) (rest := [.int v3]) (r1 := (some (.int r3))) (S1 := S4) mx_801 rfl rfl mx_1402 rfl rfl (by decide) (Or.inl g2) (Nat.le_of_ble_eq_true rfl) (Nat.le_of_ble_eq_true rfl) (RC.deep (by omega) (s_o_tb_size (d := d) _ _ h1)) ?_
    show RR KO _ 801 15 [(0, .ref 5), (1, .ref v1), (2, .ref v2), (3, .int v3)] [.int r3, .int v3] S4 _ _
    refine RR.runs (pc' := icm .ge v3 r3 123 18) (lc' := [(0, .ref 5), (1, .ref v1), (2, .ref v2), (3, .int v3)]) (st' := []) (S1 := S4) (nL := 8) (cd := cd_801) mx_801 rfl rfl 1 rfl ?_
    rcases ifE h with ⟨c, h⟩ | ⟨c, h⟩
    · refine RR.c_ge (fun _ => ?_) (fun q => absurd c q)
      refine RR.runs (pc' := 21) (lc' := [(0, .ref 5), (1, .ref v1), (2, .ref v2), (3, .int v3)]) (st' := [.int v3, .ref v1, .ref v1]) (S1 := S4) (nL := 8) (cd := cd_801) mx_801 rfl rfl 3 rfl ?_
      obtain ⟨r5, S6, h1, h⟩ := bnE h
      refine RR.callV (b := v1) (as := [.int v3]) (rest := [.ref v1]) (r1 := (some (.int r5))) (S1 := S6) mx_801 rfl rfl mx_2011 rfl rfl (by decide) (Or.inl g1) (Nat.le_of_ble_eq_true rfl) (Nat.le_of_ble_eq_true rfl) (RC.deep (by omega) (s_o_to_laneOf (d := d) _ _ _ h1)) ?_
      show RR KO _ 801 24 [(0, .ref 5), (1, .ref v1), (2, .ref v2), (3, .int v3)] [.int r5, .ref v1] S6 _ _
      refine RR.runs (pc' := 26) (lc' := [(0, .ref 5), (1, .ref v1), (2, .ref v2), (3, .int v3)]) (st' := [.int v3, .ref v1, .int r5, .ref v1]) (S1 := S6) (nL := 8) (cd := cd_801) mx_801 rfl rfl 2 rfl ?_
      obtain ⟨r7, S8, h1, h⟩ := bnE h
      refine RR.callV (b := v1) (as := [.int v3]) (rest := [.int r5, .ref v1]) (r1 := (some (.int r7))) (S1 := S8) mx_801 rfl rfl mx_2012 rfl rfl (by decide) (Or.inl g1) (Nat.le_of_ble_eq_true rfl) (Nat.le_of_ble_eq_true rfl) (RC.deep (by omega) (s_o_to_loudOf (d := d) _ _ _ h1)) ?_
      show RR KO _ 801 29 [(0, .ref 5), (1, .ref v1), (2, .ref v2), (3, .int v3)] [.int r7, .int r5, .ref v1] S8 _ _
      obtain ⟨r9, S10, h1, h⟩ := bnE h
      refine RR.callV (b := v1) (as := [.int r5, .int r7]) (rest := []) (r1 := (some (.int r9))) (S1 := S10) mx_801 rfl rfl mx_2018 rfl rfl (by decide) (Or.inl g1) (Nat.le_of_ble_eq_true rfl) (Nat.le_of_ble_eq_true rfl) (RC.deep (by omega) (s_o_to_within (d := d) _ _ _ _ h1)) ?_
      show RR KO _ 801 32 [(0, .ref 5), (1, .ref v1), (2, .ref v2), (3, .int v3)] [.int r9] S10 _ _
      refine RR.runs (pc' := 37) (lc' := [(4, .int r9), (0, .ref 5), (1, .ref v1), (2, .ref v2), (3, .int v3)]) (st' := [.int v3, .ref v1, .ref v1]) (S1 := S10) (nL := 8) (cd := cd_801) mx_801 rfl rfl 4 rfl ?_
      obtain ⟨r11, S12, h1, h⟩ := bnE h
      refine RR.callV (b := v1) (as := [.int v3]) (rest := [.ref v1]) (r1 := (some (.int r11))) (S1 := S12) mx_801 rfl rfl mx_2011 rfl rfl (by decide) (Or.inl g1) (Nat.le_of_ble_eq_true rfl) (Nat.le_of_ble_eq_true rfl) (RC.deep (by omega) (s_o_to_laneOf (d := d) _ _ _ h1)) ?_
      show RR KO _ 801 40 [(4, .int r9), (0, .ref 5), (1, .ref v1), (2, .ref v2), (3, .int v3)] [.int r11, .ref v1] S12 _ _
      refine RR.runs (pc' := 43) (lc' := [(4, .int r9), (0, .ref 5), (1, .ref v1), (2, .ref v2), (3, .int v3)]) (st' := [.int v3, .ref v1, .int (2 : Int32), .int r11, .ref v1]) (S1 := S12) (nL := 8) (cd := cd_801) mx_801 rfl rfl 3 rfl ?_
      obtain ⟨r13, S14, h1, h⟩ := bnE h
      refine RR.callV (b := v1) (as := [.int v3]) (rest := [.int (2 : Int32), .int r11, .ref v1]) (r1 := (some (.int r13))) (S1 := S14) mx_801 rfl rfl mx_2012 rfl rfl (by decide) (Or.inl g1) (Nat.le_of_ble_eq_true rfl) (Nat.le_of_ble_eq_true rfl) (RC.deep (by omega) (s_o_to_loudOf (d := d) _ _ _ h1)) ?_
      show RR KO _ 801 46 [(4, .int r9), (0, .ref 5), (1, .ref v1), (2, .ref v2), (3, .int v3)] [.int r13, .int (2 : Int32), .int r11, .ref v1] S14 _ _
      refine RR.runs (pc' := 47) (lc' := [(4, .int r9), (0, .ref 5), (1, .ref v1), (2, .ref v2), (3, .int v3)]) (st' := [.int (((2 : Int32) * r13)), .int r11, .ref v1]) (S1 := S14) (nL := 8) (cd := cd_801) mx_801 rfl rfl 1 rfl ?_
      obtain ⟨r15, S16, h1, h⟩ := bnE h
      refine RR.callV (b := v1) (as := [.int r11, .int (((2 : Int32) * r13))]) (rest := []) (r1 := (some (.int r15))) (S1 := S16) mx_801 rfl rfl mx_2018 rfl rfl (by decide) (Or.inl g1) (Nat.le_of_ble_eq_true rfl) (Nat.le_of_ble_eq_true rfl) (RC.deep (by omega) (s_o_to_within (d := d) _ _ _ _ h1)) ?_
      show RR KO _ 801 50 [(4, .int r9), (0, .ref 5), (1, .ref v1), (2, .ref v2), (3, .int v3)] [.int r15] S16 _ _
      refine RR.runs (pc' := 55) (lc' := [(6, .int (0 : Int32)), (5, .int r15), (4, .int r9), (0, .ref 5), (1, .ref v1), (2, .ref v2), (3, .int v3)]) (st' := []) (S1 := S16) (nL := 8) (cd := cd_801) mx_801 rfl rfl 3 rfl ?_
      refine RR.weak [(0, .ref 5), (1, .ref v1), (2, .ref v2), (3, .int v3), (4, .int r9), (5, .int r15), (6, .int (0 : Int32))] ⟨rfl, rfl, rfl, rfl, rfl, rfl, rfl, trivial⟩ ?_
      exact s_o_se_gather_55 _ (fun _ _ _ S h => ih _ _ _ S h) _ _ _ _ _ _ _ _ h
    · refine RR.c_ge (fun q => absurd q c) (fun _ => ?_)
      refine RR.weak [] trivial ?_
      exact s_o_se_gather_123 _ h
def o_se_gather (v1 : Nat) (v2 : Nat) (S : St) : Re Unit :=
  lt' (wI S 5 9 (0 : Int32)) fun S1 =>
  o_se_gather_7 FU v1 v2 (0 : Int32) S1
set_option maxRecDepth 100000 in
theorem s0_o_se_gather {d : Nat} {S' : St} {r : Unit} (v1 : Nat) (v2 : Nat) (S : St) (h : o_se_gather v1 v2 S = some (r, S')) : RR KO (d + 3) 801 0 [(0, .ref 5), (1, .ref v1), (2, .ref v2)] [] S none S' := by
  unfold o_se_gather at h
  refine RR.runs (pc' := 5) (lc' := [(0, .ref 5), (1, .ref v1), (2, .ref v2)]) (st' := []) (S1 := (wI S 5 9 (0 : Int32))) (nL := 8) (cd := cd_801) mx_801 rfl rfl 3 rfl ?_
  obtain ⟨S1, eS1, h⟩ := ltE h
  rw [← eS1]
  refine RR.runs (pc' := 7) (lc' := [(3, .int (0 : Int32)), (0, .ref 5), (1, .ref v1), (2, .ref v2)]) (st' := []) (S1 := S1) (nL := 8) (cd := cd_801) mx_801 rfl rfl 2 rfl ?_
  refine RR.weak [(0, .ref 5), (1, .ref v1), (2, .ref v2), (3, .int (0 : Int32))] ⟨rfl, rfl, rfl, rfl, trivial⟩ ?_
  exact s_o_se_gather_7 _ _ _ _ _ h
theorem s_o_se_gather {d : Nat} {S' : St} {r : Unit} (v1 : Nat) (v2 : Nat) (S : St) (h : o_se_gather v1 v2 S = some (r, S')) : RC KO (d + 3) 801 [.ref 5, .ref v1, .ref v2] S none S' := RC.of rfl (s0_o_se_gather v1 v2 S h)
-- NameOrchard$Told valueOf (II)I
def o_to_valueOf (v0 : Nat) (v1 : Int32) (v2 : Int32) (S : St) : Re Int32 :=
  if KO.1 v0 = (0, 10) then (
  if KO.1 (v0 + 80) = (0, 7) then (
bn (o_tb_at (v0 + 80) v1 (3 : Int32) S) fun r3 S4 =>
  lt' ((v2 - r3) : Int32) fun x5 =>
      bn (o_tb_at (v0 + 80) v1 (4 : Int32) S4) fun r6 S7 =>
  if KO.1 (v0 + 16) = (0, 1) then (
bn (o_fo_answer (v0 + 16) r6 x5 (0 : Int32) (0 : Int32) S7) fun r9 S10 =>
  bn (o_j_min (999 : Int32) r9 S10) fun r11 S12 =>
  bn (o_j_max (0 : Int32) r11 S12) fun r13 S14 =>
  some (r13, S14)) else none) else none) else none
set_option maxRecDepth 100000 in
theorem s0_o_to_valueOf {d : Nat} {S' : St} {r : Int32} (v0 : Nat) (v1 : Int32) (v2 : Int32) (S : St) (h : o_to_valueOf v0 v1 v2 S = some (r, S')) : RR KO (d + 3) 2014 0 [(0, .ref v0), (1, .int v1), (2, .int v2)] [] S (some (.int r)) S' := by
  unfold o_to_valueOf at h
  refine RR.runs (pc' := 2) (lc' := [(0, .ref v0), (1, .int v1), (2, .int v2)]) (st' := [.ref v0, .int v2]) (S1 := S) (nL := 4) (cd := cd_2014) mx_2014 rfl rfl 2 rfl ?_
  obtain ⟨g1, h⟩ := gpE h
  refine RR.gPo (pc' := 5) (lc' := [(0, .ref v0), (1, .int v1), (2, .int v2)]) (st' := [.ref (v0 + 80), .int v2]) (S1 := S) (nL := 4) (cd := cd_2014) mx_2014 rfl rfl rfl ⟨g1, by decide, by decide⟩ ?_
  refine RR.runs (pc' := 7) (lc' := [(0, .ref v0), (1, .int v1), (2, .int v2)]) (st' := [.int (3 : Int32), .int v1, .ref (v0 + 80), .int v2]) (S1 := S) (nL := 4) (cd := cd_2014) mx_2014 rfl rfl 2 rfl ?_
  obtain ⟨g2, h⟩ := gpE h
  obtain ⟨r3, S4, h1, h⟩ := bnE h
  refine RR.callV (b := (v0 + 80)) (as := [.int v1, .int (3 : Int32)]) (rest := [.int v2]) (r1 := (some (.int r3))) (S1 := S4) mx_2014 rfl rfl mx_1405 rfl rfl (by decide) (Or.inl g2) (Nat.le_of_ble_eq_true rfl) (Nat.le_of_ble_eq_true rfl) (RC.deep (by omega) (s_o_tb_at (d := d) _ _ _ _ h1)) ?_
  show RR KO _ 2014 10 [(0, .ref v0), (1, .int v1), (2, .int v2)] [.int r3, .int v2] S4 _ _
  refine RR.runs (pc' := 12) (lc' := [(3, .int (v2 - r3)), (0, .ref v0), (1, .int v1), (2, .int v2)]) (st' := []) (S1 := S4) (nL := 4) (cd := cd_2014) mx_2014 rfl rfl 2 rfl ?_
  obtain ⟨x5, ex5, h⟩ := ltE h
  rw [← ex5]
  refine RR.runs (pc' := 17) (lc' := [(3, .int x5), (0, .ref v0), (1, .int v1), (2, .int v2)]) (st' := [.ref v0, .int (999 : Int32), .int (0 : Int32)]) (S1 := S4) (nL := 4) (cd := cd_2014) mx_2014 rfl rfl 3 rfl ?_
  refine RR.gPo (pc' := 20) (lc' := [(3, .int x5), (0, .ref v0), (1, .int v1), (2, .int v2)]) (st' := [.ref (v0 + 16), .int (999 : Int32), .int (0 : Int32)]) (S1 := S4) (nL := 4) (cd := cd_2014) mx_2014 rfl rfl rfl ⟨g1, by decide, by decide⟩ ?_
  refine RR.runs (pc' := 21) (lc' := [(3, .int x5), (0, .ref v0), (1, .int v1), (2, .int v2)]) (st' := [.ref v0, .ref (v0 + 16), .int (999 : Int32), .int (0 : Int32)]) (S1 := S4) (nL := 4) (cd := cd_2014) mx_2014 rfl rfl 1 rfl ?_
  refine RR.gPo (pc' := 24) (lc' := [(3, .int x5), (0, .ref v0), (1, .int v1), (2, .int v2)]) (st' := [.ref (v0 + 80), .ref (v0 + 16), .int (999 : Int32), .int (0 : Int32)]) (S1 := S4) (nL := 4) (cd := cd_2014) mx_2014 rfl rfl rfl ⟨g1, by decide, by decide⟩ ?_
  refine RR.runs (pc' := 26) (lc' := [(3, .int x5), (0, .ref v0), (1, .int v1), (2, .int v2)]) (st' := [.int (4 : Int32), .int v1, .ref (v0 + 80), .ref (v0 + 16), .int (999 : Int32), .int (0 : Int32)]) (S1 := S4) (nL := 4) (cd := cd_2014) mx_2014 rfl rfl 2 rfl ?_
  obtain ⟨r6, S7, h1, h⟩ := bnE h
  refine RR.callV (b := (v0 + 80)) (as := [.int v1, .int (4 : Int32)]) (rest := [.ref (v0 + 16), .int (999 : Int32), .int (0 : Int32)]) (r1 := (some (.int r6))) (S1 := S7) mx_2014 rfl rfl mx_1405 rfl rfl (by decide) (Or.inl g2) (Nat.le_of_ble_eq_true rfl) (Nat.le_of_ble_eq_true rfl) (RC.deep (by omega) (s_o_tb_at (d := d) _ _ _ _ h1)) ?_
  show RR KO _ 2014 29 [(3, .int x5), (0, .ref v0), (1, .int v1), (2, .int v2)] [.int r6, .ref (v0 + 16), .int (999 : Int32), .int (0 : Int32)] S7 _ _
  refine RR.runs (pc' := 32) (lc' := [(3, .int x5), (0, .ref v0), (1, .int v1), (2, .int v2)]) (st' := [.int (0 : Int32), .int (0 : Int32), .int x5, .int r6, .ref (v0 + 16), .int (999 : Int32), .int (0 : Int32)]) (S1 := S7) (nL := 4) (cd := cd_2014) mx_2014 rfl rfl 3 rfl ?_
  obtain ⟨g8, h⟩ := gpE h
  obtain ⟨r9, S10, h1, h⟩ := bnE h
  refine RR.callV (b := (v0 + 16)) (as := [.int r6, .int x5, .int (0 : Int32), .int (0 : Int32)]) (rest := [.int (999 : Int32), .int (0 : Int32)]) (r1 := (some (.int r9))) (S1 := S10) mx_2014 rfl rfl mx_210 rfl rfl (by decide) (Or.inl g8) (Nat.le_of_ble_eq_true rfl) (Nat.le_of_ble_eq_true rfl) (RC.deep (by omega) (s_o_fo_answer (d := d) _ _ _ _ _ _ h1)) ?_
  show RR KO _ 2014 35 [(3, .int x5), (0, .ref v0), (1, .int v1), (2, .int v2)] [.int r9, .int (999 : Int32), .int (0 : Int32)] S10 _ _
  obtain ⟨r11, S12, h1, h⟩ := bnE h
  refine RR.callS (as := [.int (999 : Int32), .int r9]) (rest := [.int (0 : Int32)]) (r1 := (some (.int r11))) (S1 := S12) mx_2014 rfl rfl mx_2600 rfl rfl (by decide) (Nat.le_of_ble_eq_true rfl) (Nat.le_of_ble_eq_true rfl) (Nat.le_of_ble_eq_true rfl) (RC.deep (by omega) (s_o_j_min (d := d) _ _ _ h1)) ?_
  show RR KO _ 2014 38 [(3, .int x5), (0, .ref v0), (1, .int v1), (2, .int v2)] [.int r11, .int (0 : Int32)] S12 _ _
  obtain ⟨r13, S14, h1, h⟩ := bnE h
  refine RR.callS (as := [.int (0 : Int32), .int r11]) (rest := []) (r1 := (some (.int r13))) (S1 := S14) mx_2014 rfl rfl mx_2601 rfl rfl (by decide) (Nat.le_of_ble_eq_true rfl) (Nat.le_of_ble_eq_true rfl) (Nat.le_of_ble_eq_true rfl) (RC.deep (by omega) (s_o_j_max (d := d) _ _ _ h1)) ?_
  show RR KO _ 2014 41 [(3, .int x5), (0, .ref v0), (1, .int v1), (2, .int v2)] [.int r13] S14 _ _
  cases h
  exact RR.reti mx_2014 rfl rfl rfl
theorem s_o_to_valueOf {d : Nat} {S' : St} {r : Int32} (v0 : Nat) (v1 : Int32) (v2 : Int32) (S : St) (h : o_to_valueOf v0 v1 v2 S = some (r, S')) : RC KO (d + 3) 2014 [.ref v0, .int v1, .int v2] S (some (.int r)) S' := RC.of rfl (s0_o_to_valueOf v0 v1 v2 S h)
-- NameOrchard$Search appraise (LNameOrchard$Told;I)V
def o_se_appraise_149 (S : St) : Re Unit :=
  some ((), S)
set_option maxRecDepth 100000 in
theorem s_o_se_appraise_149 {d : Nat} {S' : St} {r : Unit} (S : St) (h : o_se_appraise_149 S = some (r, S')) : RR KO (d + 4) 804 149 [] [] S none S' := by
  unfold o_se_appraise_149 at h
  cases h
  exact RR.retv mx_804 rfl rfl rfl
def o_se_appraise_137 (k14 : Nat → Int32 → Int32 → Int32 → St → Re Unit) (v1 : Nat) (v2 : Int32) (v3 : Int32) (v4 : Int32) (S : St) : Re Unit :=
  lt' ((v4 + (1 : Int32)) : Int32) fun x1 =>
  k14 v1 v2 v3 x1 S
set_option maxRecDepth 100000 in
theorem s_o_se_appraise_137 {d : Nat} (k14 : Nat → Int32 → Int32 → Int32 → St → Re Unit) {S' : St} {r : Unit} (b14 : ∀ (v1 : Nat) (v2 : Int32) (v3 : Int32) (v4 : Int32) (S : St), k14 v1 v2 v3 v4 S = some (r, S') → RR KO (d + 4) 804 14 [(0, .ref 5), (1, .ref v1), (2, .int v2), (3, .int v3), (4, .int v4)] [] S none S') (v1 : Nat) (v2 : Int32) (v3 : Int32) (v4 : Int32) (S : St) (h : o_se_appraise_137 k14 v1 v2 v3 v4 S = some (r, S')) : RR KO (d + 4) 804 137 [(0, .ref 5), (1, .ref v1), (2, .int v2), (3, .int v3), (4, .int v4)] [] S none S' := by
  unfold o_se_appraise_137 at h
  refine RR.runs (pc' := 140) (lc' := [(4, .int ((v4 + (1 : Int32)))), (0, .ref 5), (1, .ref v1), (2, .int v2), (3, .int v3)]) (st' := []) (S1 := S) (nL := 9) (cd := cd_804) mx_804 rfl rfl 1 rfl ?_
  obtain ⟨x1, ex1, h⟩ := ltE h
  rw [← ex1]
  refine RR.runs (pc' := 14) (lc' := [(4, .int x1), (0, .ref 5), (1, .ref v1), (2, .int v2), (3, .int v3)]) (st' := []) (S1 := S) (nL := 9) (cd := cd_804) mx_804 rfl rfl 1 rfl ?_
  refine RR.weak [(0, .ref 5), (1, .ref v1), (2, .int v2), (3, .int v3), (4, .int x1)] ⟨rfl, rfl, rfl, rfl, rfl, trivial⟩ ?_
  exact b14 _ _ _ _ _ h
def o_se_appraise_92 (k14 : Nat → Int32 → Int32 → Int32 → St → Re Unit) (v1 : Nat) (v2 : Int32) (v3 : Int32) (v4 : Int32) (v5 : Int32) (v7 : Int32) (p0 : Int32) (S : St) : Re Unit :=
  if v5 < (30 : Int32) then (
    if v5 < (30 : Int32) then (
      if v5 < 0 ∨ 30 ≤ v5.toNatClampNeg then none else
      lt' (wI S 9 v5.toNatClampNeg v7) fun S1 =>
      bn (o_j_max v7 p0 S1) fun r2 S3 =>
      if v5 < 0 ∨ 30 ≤ v5.toNatClampNeg then none else
      lt' (wI S3 10 v5.toNatClampNeg r2) fun S4 =>
      o_se_appraise_137 k14 v1 v2 v3 v4 S4)
    else (
      o_se_appraise_137 k14 v1 v2 v3 v4 S))
  else (
    o_se_appraise_137 k14 v1 v2 v3 v4 S)
set_option maxRecDepth 100000 in
theorem s_o_se_appraise_92 {d : Nat} (k14 : Nat → Int32 → Int32 → Int32 → St → Re Unit) {S' : St} {r : Unit} (b14 : ∀ (v1 : Nat) (v2 : Int32) (v3 : Int32) (v4 : Int32) (S : St), k14 v1 v2 v3 v4 S = some (r, S') → RR KO (d + 4) 804 14 [(0, .ref 5), (1, .ref v1), (2, .int v2), (3, .int v3), (4, .int v4)] [] S none S') (v1 : Nat) (v2 : Int32) (v3 : Int32) (v4 : Int32) (v5 : Int32) (v7 : Int32) (p0 : Int32) (S : St) (h : o_se_appraise_92 k14 v1 v2 v3 v4 v5 v7 p0 S = some (r, S')) : RR KO (d + 4) 804 92 [(0, .ref 5), (1, .ref v1), (2, .int v2), (3, .int v3), (4, .int v4), (5, .int v5), (7, .int v7)] [.int p0] S none S' := by
  unfold o_se_appraise_92 at h
  refine RR.runs (pc' := icm .ge v5 (30 : Int32) 137 104) (lc' := [(8, .int p0), (0, .ref 5), (1, .ref v1), (2, .int v2), (3, .int v3), (4, .int v4), (5, .int v5), (7, .int v7)]) (st' := []) (S1 := S) (nL := 9) (cd := cd_804) mx_804 rfl rfl 6 rfl ?_
  rcases ifE h with ⟨c, h⟩ | ⟨c, h⟩
  · refine RR.c_ge (fun _ => ?_) (fun q => absurd c q)
    refine RR.runs (pc' := icm .ge v5 (30 : Int32) 137 114) (lc' := [(8, .int p0), (0, .ref 5), (1, .ref v1), (2, .int v2), (3, .int v3), (4, .int v4), (5, .int v5), (7, .int v7)]) (st' := []) (S1 := S) (nL := 9) (cd := cd_804) mx_804 rfl rfl 5 rfl ?_
    rcases ifE h with ⟨c, h⟩ | ⟨c, h⟩
    · refine RR.c_ge (fun _ => ?_) (fun q => absurd c q)
      refine RR.runs (pc' := 122) (lc' := [(8, .int p0), (0, .ref 5), (1, .ref v1), (2, .int v2), (3, .int v3), (4, .int v4), (5, .int v5), (7, .int v7)]) (st' := [.int v7, .int v5, .ref 9]) (S1 := S) (nL := 9) (cd := cd_804) mx_804 rfl rfl 4 rfl ?_
      obtain ⟨g, h⟩ := gnE h
      refine RR.gPN (c2 := (KO.1 9).1 = 1) (pc' := 123) (lc' := [(8, .int p0), (0, .ref 5), (1, .ref v1), (2, .int v2), (3, .int v3), (4, .int v4), (5, .int v5), (7, .int v7)]) (st' := []) (S1 := (wI S 9 v5.toNatClampNeg v7)) (nL := 9) (cd := cd_804) mx_804 rfl rfl rfl rfl g ?_
      obtain ⟨S1, eS1, h⟩ := ltE h
      rw [← eS1]
      refine RR.runs (pc' := 133) (lc' := [(8, .int p0), (0, .ref 5), (1, .ref v1), (2, .int v2), (3, .int v3), (4, .int v4), (5, .int v5), (7, .int v7)]) (st' := [.int p0, .int v7, .int v5, .ref 10]) (S1 := S1) (nL := 9) (cd := cd_804) mx_804 rfl rfl 5 rfl ?_
      obtain ⟨r2, S3, h1, h⟩ := bnE h
      refine RR.callS (as := [.int v7, .int p0]) (rest := [.int v5, .ref 10]) (r1 := (some (.int r2))) (S1 := S3) mx_804 rfl rfl mx_2601 rfl rfl (by decide) (Nat.le_of_ble_eq_true rfl) (Nat.le_of_ble_eq_true rfl) (Nat.le_of_ble_eq_true rfl) (RC.deep (by omega) (s_o_j_max (d := d) _ _ _ h1)) ?_
      show RR KO _ 804 136 [(8, .int p0), (0, .ref 5), (1, .ref v1), (2, .int v2), (3, .int v3), (4, .int v4), (5, .int v5), (7, .int v7)] [.int r2, .int v5, .ref 10] S3 _ _
      obtain ⟨g, h⟩ := gnE h
      refine RR.gPN (c2 := (KO.1 10).1 = 1) (pc' := 137) (lc' := [(8, .int p0), (0, .ref 5), (1, .ref v1), (2, .int v2), (3, .int v3), (4, .int v4), (5, .int v5), (7, .int v7)]) (st' := []) (S1 := (wI S3 10 v5.toNatClampNeg r2)) (nL := 9) (cd := cd_804) mx_804 rfl rfl rfl rfl g ?_
      obtain ⟨S4, eS4, h⟩ := ltE h
      rw [← eS4]
      refine RR.weak [(0, .ref 5), (1, .ref v1), (2, .int v2), (3, .int v3), (4, .int v4)] ⟨rfl, rfl, rfl, rfl, rfl, trivial⟩ ?_
      exact s_o_se_appraise_137 _ b14 _ _ _ _ _ h
    · refine RR.c_ge (fun q => absurd q c) (fun _ => ?_)
      refine RR.weak [(0, .ref 5), (1, .ref v1), (2, .int v2), (3, .int v3), (4, .int v4)] ⟨rfl, rfl, rfl, rfl, rfl, trivial⟩ ?_
      exact s_o_se_appraise_137 _ b14 _ _ _ _ _ h
  · refine RR.c_ge (fun q => absurd q c) (fun _ => ?_)
    refine RR.weak [(0, .ref 5), (1, .ref v1), (2, .int v2), (3, .int v3), (4, .int v4)] ⟨rfl, rfl, rfl, rfl, rfl, trivial⟩ ?_
    exact s_o_se_appraise_137 _ b14 _ _ _ _ _ h
def o_se_appraise_91 (k14 : Nat → Int32 → Int32 → Int32 → St → Re Unit) (v1 : Nat) (v2 : Int32) (v3 : Int32) (v4 : Int32) (v5 : Int32) (v7 : Int32) (S : St) : Re Unit :=
  o_se_appraise_92 k14 v1 v2 v3 v4 v5 v7 (0 : Int32) S
set_option maxRecDepth 100000 in
theorem s_o_se_appraise_91 {d : Nat} (k14 : Nat → Int32 → Int32 → Int32 → St → Re Unit) {S' : St} {r : Unit} (b14 : ∀ (v1 : Nat) (v2 : Int32) (v3 : Int32) (v4 : Int32) (S : St), k14 v1 v2 v3 v4 S = some (r, S') → RR KO (d + 4) 804 14 [(0, .ref 5), (1, .ref v1), (2, .int v2), (3, .int v3), (4, .int v4)] [] S none S') (v1 : Nat) (v2 : Int32) (v3 : Int32) (v4 : Int32) (v5 : Int32) (v7 : Int32) (S : St) (h : o_se_appraise_91 k14 v1 v2 v3 v4 v5 v7 S = some (r, S')) : RR KO (d + 4) 804 91 [(0, .ref 5), (1, .ref v1), (2, .int v2), (3, .int v3), (4, .int v4), (5, .int v5), (7, .int v7)] [] S none S' := by
  unfold o_se_appraise_91 at h
  refine RR.runs (pc' := 92) (lc' := [(0, .ref 5), (1, .ref v1), (2, .int v2), (3, .int v3), (4, .int v4), (5, .int v5), (7, .int v7)]) (st' := [.int (0 : Int32)]) (S1 := S) (nL := 9) (cd := cd_804) mx_804 rfl rfl 1 rfl ?_
  refine RR.weak [(0, .ref 5), (1, .ref v1), (2, .int v2), (3, .int v3), (4, .int v4), (5, .int v5), (7, .int v7)] ⟨rfl, rfl, rfl, rfl, rfl, rfl, rfl, trivial⟩ ?_
  exact s_o_se_appraise_92 _ b14 _ _ _ _ _ _ _ _ h
def o_se_appraise_59 (k14 : Nat → Int32 → Int32 → Int32 → St → Re Unit) (v1 : Nat) (v2 : Int32) (v3 : Int32) (v4 : Int32) (v5 : Int32) (v6 : Int32) (p0 : Int32) (S : St) : Re Unit :=
  if (v3 + (1 : Int32)) < (rI S 5 10) then (
    if v6 < (30 : Int32) then (
      if v6 < 0 ∨ 30 ≤ v6.toNatClampNeg then none else
      o_se_appraise_92 k14 v1 v2 v3 v4 v5 p0 (rI S 10 v6.toNatClampNeg) S)
    else (
      o_se_appraise_91 k14 v1 v2 v3 v4 v5 p0 S))
  else (
    o_se_appraise_91 k14 v1 v2 v3 v4 v5 p0 S)
set_option maxRecDepth 100000 in
theorem s_o_se_appraise_59 {d : Nat} (k14 : Nat → Int32 → Int32 → Int32 → St → Re Unit) {S' : St} {r : Unit} (b14 : ∀ (v1 : Nat) (v2 : Int32) (v3 : Int32) (v4 : Int32) (S : St), k14 v1 v2 v3 v4 S = some (r, S') → RR KO (d + 4) 804 14 [(0, .ref 5), (1, .ref v1), (2, .int v2), (3, .int v3), (4, .int v4)] [] S none S') (v1 : Nat) (v2 : Int32) (v3 : Int32) (v4 : Int32) (v5 : Int32) (v6 : Int32) (p0 : Int32) (S : St) (h : o_se_appraise_59 k14 v1 v2 v3 v4 v5 v6 p0 S = some (r, S')) : RR KO (d + 4) 804 59 [(0, .ref 5), (1, .ref v1), (2, .int v2), (3, .int v3), (4, .int v4), (5, .int v5), (6, .int v6)] [.int p0] S none S' := by
  unfold o_se_appraise_59 at h
  refine RR.runs (pc' := icm .ge ((v3 + (1 : Int32))) (rI S 5 10) 91 71) (lc' := [(7, .int p0), (0, .ref 5), (1, .ref v1), (2, .int v2), (3, .int v3), (4, .int v4), (5, .int v5), (6, .int v6)]) (st' := []) (S1 := S) (nL := 9) (cd := cd_804) mx_804 rfl rfl 7 rfl ?_
  rcases ifE h with ⟨c, h⟩ | ⟨c, h⟩
  · refine RR.c_ge (fun _ => ?_) (fun q => absurd c q)
    refine RR.runs (pc' := icm .ge v6 (30 : Int32) 91 81) (lc' := [(7, .int p0), (0, .ref 5), (1, .ref v1), (2, .int v2), (3, .int v3), (4, .int v4), (5, .int v5), (6, .int v6)]) (st' := []) (S1 := S) (nL := 9) (cd := cd_804) mx_804 rfl rfl 5 rfl ?_
    rcases ifE h with ⟨c, h⟩ | ⟨c, h⟩
    · refine RR.c_ge (fun _ => ?_) (fun q => absurd c q)
      refine RR.runs (pc' := 87) (lc' := [(7, .int p0), (0, .ref 5), (1, .ref v1), (2, .int v2), (3, .int v3), (4, .int v4), (5, .int v5), (6, .int v6)]) (st' := [.int v6, .ref 10]) (S1 := S) (nL := 9) (cd := cd_804) mx_804 rfl rfl 3 rfl ?_
      obtain ⟨g, h⟩ := gnE h
      refine RR.gPN (c2 := (KO.1 10).1 = 1) (pc' := 88) (lc' := [(7, .int p0), (0, .ref 5), (1, .ref v1), (2, .int v2), (3, .int v3), (4, .int v4), (5, .int v5), (6, .int v6)]) (st' := [.int (rI S 10 v6.toNatClampNeg)]) (S1 := S) (nL := 9) (cd := cd_804) mx_804 rfl rfl rfl rfl g ?_
      refine RR.runs (pc' := 92) (lc' := [(7, .int p0), (0, .ref 5), (1, .ref v1), (2, .int v2), (3, .int v3), (4, .int v4), (5, .int v5), (6, .int v6)]) (st' := [.int (rI S 10 v6.toNatClampNeg)]) (S1 := S) (nL := 9) (cd := cd_804) mx_804 rfl rfl 1 rfl ?_
      refine RR.weak [(0, .ref 5), (1, .ref v1), (2, .int v2), (3, .int v3), (4, .int v4), (5, .int v5), (7, .int p0)] ⟨rfl, rfl, rfl, rfl, rfl, rfl, rfl, trivial⟩ ?_
      exact s_o_se_appraise_92 _ b14 _ _ _ _ _ _ _ _ h
    · refine RR.c_ge (fun q => absurd q c) (fun _ => ?_)
      refine RR.weak [(0, .ref 5), (1, .ref v1), (2, .int v2), (3, .int v3), (4, .int v4), (5, .int v5), (7, .int p0)] ⟨rfl, rfl, rfl, rfl, rfl, rfl, rfl, trivial⟩ ?_
      exact s_o_se_appraise_91 _ b14 _ _ _ _ _ _ _ h
  · refine RR.c_ge (fun q => absurd q c) (fun _ => ?_)
    refine RR.weak [(0, .ref 5), (1, .ref v1), (2, .int v2), (3, .int v3), (4, .int v4), (5, .int v5), (7, .int p0)] ⟨rfl, rfl, rfl, rfl, rfl, rfl, rfl, trivial⟩ ?_
    exact s_o_se_appraise_91 _ b14 _ _ _ _ _ _ _ h
def o_se_appraise_143 (k7 : Nat → Int32 → Int32 → St → Re Unit) (v1 : Nat) (v2 : Int32) (v3 : Int32) (S : St) : Re Unit :=
  lt' ((v3 + (-1 : Int32)) : Int32) fun x1 =>
  k7 v1 v2 x1 S
set_option maxRecDepth 100000 in
theorem s_o_se_appraise_143 {d : Nat} (k7 : Nat → Int32 → Int32 → St → Re Unit) {S' : St} {r : Unit} (b7 : ∀ (v1 : Nat) (v2 : Int32) (v3 : Int32) (S : St), k7 v1 v2 v3 S = some (r, S') → RR KO (d + 4) 804 7 [(0, .ref 5), (1, .ref v1), (2, .int v2), (3, .int v3)] [] S none S') (v1 : Nat) (v2 : Int32) (v3 : Int32) (S : St) (h : o_se_appraise_143 k7 v1 v2 v3 S = some (r, S')) : RR KO (d + 4) 804 143 [(0, .ref 5), (1, .ref v1), (2, .int v2), (3, .int v3)] [] S none S' := by
  unfold o_se_appraise_143 at h
  refine RR.runs (pc' := 146) (lc' := [(3, .int ((v3 + (-1 : Int32)))), (0, .ref 5), (1, .ref v1), (2, .int v2)]) (st' := []) (S1 := S) (nL := 9) (cd := cd_804) mx_804 rfl rfl 1 rfl ?_
  obtain ⟨x1, ex1, h⟩ := ltE h
  rw [← ex1]
  refine RR.runs (pc' := 7) (lc' := [(3, .int x1), (0, .ref 5), (1, .ref v1), (2, .int v2)]) (st' := []) (S1 := S) (nL := 9) (cd := cd_804) mx_804 rfl rfl 1 rfl ?_
  refine RR.weak [(0, .ref 5), (1, .ref v1), (2, .int v2), (3, .int x1)] ⟨rfl, rfl, rfl, rfl, trivial⟩ ?_
  exact b7 _ _ _ _ h
def o_se_appraise_14 (k7 : Nat → Int32 → Int32 → St → Re Unit) : Nat → Nat → Int32 → Int32 → Int32 → St → Re Unit
  | 0, _, _, _, _, _ => none
  | n + 1, v1, v2, v3, v4, S =>
  if v4 < (10 : Int32) then (
    lt' (((v3 * (10 : Int32)) + v4) : Int32) fun x1 =>
    lt' ((x1 + (10 : Int32)) : Int32) fun x2 =>
    if KO.1 v1 = (0, 10) then (
bn (o_to_hasApple v1 v4 S) fun r4 S5 =>
    if r4 = 0 then (
      o_se_appraise_59 (o_se_appraise_14 k7 n) v1 v2 v3 v4 x1 x2 (0 : Int32) S5)
    else (
      bn (o_to_valueOf v1 v4 (v2 + v3) S5) fun r6 S7 =>
      o_se_appraise_59 (o_se_appraise_14 k7 n) v1 v2 v3 v4 x1 x2 r6 S7)) else none)
  else (
    o_se_appraise_143 k7 v1 v2 v3 S)
set_option maxRecDepth 100000 in
theorem s_o_se_appraise_14 {d : Nat} (k7 : Nat → Int32 → Int32 → St → Re Unit) {S' : St} {r : Unit} (b7 : ∀ (v1 : Nat) (v2 : Int32) (v3 : Int32) (S : St), k7 v1 v2 v3 S = some (r, S') → RR KO (d + 4) 804 7 [(0, .ref 5), (1, .ref v1), (2, .int v2), (3, .int v3)] [] S none S') : ∀ (n : Nat) (v1 : Nat) (v2 : Int32) (v3 : Int32) (v4 : Int32) (S : St), o_se_appraise_14 k7 n v1 v2 v3 v4 S = some (r, S') → RR KO (d + 4) 804 14 [(0, .ref 5), (1, .ref v1), (2, .int v2), (3, .int v3), (4, .int v4)] [] S none S' := by
  intro n
  induction n with
  | zero => intro v1 v2 v3 v4 S h; simp only [o_se_appraise_14] at h; cases h
  | succ n ih =>
    intro v1 v2 v3 v4 S h
    simp only [o_se_appraise_14] at h
    refine RR.runs (pc' := icm .ge v4 (10 : Int32) 143 21) (lc' := [(0, .ref 5), (1, .ref v1), (2, .int v2), (3, .int v3), (4, .int v4)]) (st' := []) (S1 := S) (nL := 9) (cd := cd_804) mx_804 rfl rfl 3 rfl ?_
    rcases ifE h with ⟨c, h⟩ | ⟨c, h⟩
    · refine RR.c_ge (fun _ => ?_) (fun q => absurd c q)
      refine RR.runs (pc' := 30) (lc' := [(5, .int (((v3 * (10 : Int32)) + v4))), (0, .ref 5), (1, .ref v1), (2, .int v2), (3, .int v3), (4, .int v4)]) (st' := []) (S1 := S) (nL := 9) (cd := cd_804) mx_804 rfl rfl 6 rfl ?_
      obtain ⟨x1, ex1, h⟩ := ltE h
      rw [← ex1]
      refine RR.runs (pc' := 37) (lc' := [(6, .int ((x1 + (10 : Int32)))), (5, .int x1), (0, .ref 5), (1, .ref v1), (2, .int v2), (3, .int v3), (4, .int v4)]) (st' := []) (S1 := S) (nL := 9) (cd := cd_804) mx_804 rfl rfl 4 rfl ?_
      obtain ⟨x2, ex2, h⟩ := ltE h
      rw [← ex2]
      refine RR.runs (pc' := 40) (lc' := [(6, .int x2), (5, .int x1), (0, .ref 5), (1, .ref v1), (2, .int v2), (3, .int v3), (4, .int v4)]) (st' := [.int v4, .ref v1]) (S1 := S) (nL := 9) (cd := cd_804) mx_804 rfl rfl 2 rfl ?_
      obtain ⟨g3, h⟩ := gpE h
      obtain ⟨r4, S5, h1, h⟩ := bnE h
      refine RR.callV (b := v1) (as := [.int v4]) (rest := []) (r1 := (some (.int r4))) (S1 := S5) mx_804 rfl rfl mx_2005 rfl rfl (by decide) (Or.inl g3) (Nat.le_of_ble_eq_true rfl) (Nat.le_of_ble_eq_true rfl) (RC.deep (by omega) (s_o_to_hasApple (d := d) _ _ _ h1)) ?_
      show RR KO _ 804 43 [(6, .int x2), (5, .int x1), (0, .ref 5), (1, .ref v1), (2, .int v2), (3, .int v3), (4, .int v4)] [.int r4] S5 _ _
      refine RR.runs (pc' := icm .eq r4 0 58 46) (lc' := [(6, .int x2), (5, .int x1), (0, .ref 5), (1, .ref v1), (2, .int v2), (3, .int v3), (4, .int v4)]) (st' := []) (S1 := S5) (nL := 9) (cd := cd_804) mx_804 rfl rfl 1 rfl ?_
      rcases ifE h with ⟨c, h⟩ | ⟨c, h⟩
      · refine RR.c_eq (fun _ => ?_) (fun q => absurd c q)
        refine RR.runs (pc' := 59) (lc' := [(6, .int x2), (5, .int x1), (0, .ref 5), (1, .ref v1), (2, .int v2), (3, .int v3), (4, .int v4)]) (st' := [.int (0 : Int32)]) (S1 := S5) (nL := 9) (cd := cd_804) mx_804 rfl rfl 1 rfl ?_
        refine RR.weak [(0, .ref 5), (1, .ref v1), (2, .int v2), (3, .int v3), (4, .int v4), (5, .int x1), (6, .int x2)] ⟨rfl, rfl, rfl, rfl, rfl, rfl, rfl, trivial⟩ ?_
        exact s_o_se_appraise_59 _ (fun _ _ _ _ S h => ih _ _ _ _ S h) _ _ _ _ _ _ _ _ h
      · refine RR.c_eq (fun q => absurd q c) (fun _ => ?_)
        refine RR.runs (pc' := 52) (lc' := [(6, .int x2), (5, .int x1), (0, .ref 5), (1, .ref v1), (2, .int v2), (3, .int v3), (4, .int v4)]) (st' := [.int (v2 + v3), .int v4, .ref v1]) (S1 := S5) (nL := 9) (cd := cd_804) mx_804 rfl rfl 5 rfl ?_
        obtain ⟨r6, S7, h1, h⟩ := bnE h
        refine RR.callV (b := v1) (as := [.int v4, .int (v2 + v3)]) (rest := []) (r1 := (some (.int r6))) (S1 := S7) mx_804 rfl rfl mx_2014 rfl rfl (by decide) (Or.inl g3) (Nat.le_of_ble_eq_true rfl) (Nat.le_of_ble_eq_true rfl) (RC.deep (by omega) (s_o_to_valueOf (d := d) _ _ _ _ h1)) ?_
        show RR KO _ 804 55 [(6, .int x2), (5, .int x1), (0, .ref 5), (1, .ref v1), (2, .int v2), (3, .int v3), (4, .int v4)] [.int r6] S7 _ _
        refine RR.runs (pc' := 59) (lc' := [(6, .int x2), (5, .int x1), (0, .ref 5), (1, .ref v1), (2, .int v2), (3, .int v3), (4, .int v4)]) (st' := [.int r6]) (S1 := S7) (nL := 9) (cd := cd_804) mx_804 rfl rfl 1 rfl ?_
        refine RR.weak [(0, .ref 5), (1, .ref v1), (2, .int v2), (3, .int v3), (4, .int v4), (5, .int x1), (6, .int x2)] ⟨rfl, rfl, rfl, rfl, rfl, rfl, rfl, trivial⟩ ?_
        exact s_o_se_appraise_59 _ (fun _ _ _ _ S h => ih _ _ _ _ S h) _ _ _ _ _ _ _ _ h
    · refine RR.c_ge (fun q => absurd q c) (fun _ => ?_)
      refine RR.weak [(0, .ref 5), (1, .ref v1), (2, .int v2), (3, .int v3)] ⟨rfl, rfl, rfl, rfl, trivial⟩ ?_
      exact s_o_se_appraise_143 _ b7 _ _ _ _ h
def o_se_appraise_7 : Nat → Nat → Int32 → Int32 → St → Re Unit
  | 0, _, _, _, _ => none
  | n + 1, v1, v2, v3, S =>
  if v3 < 0 then (
    o_se_appraise_149 S)
  else (
    o_se_appraise_14 (o_se_appraise_7 n) FU v1 v2 v3 (0 : Int32) S)
set_option maxRecDepth 100000 in
theorem s_o_se_appraise_7 {d : Nat} {S' : St} {r : Unit} : ∀ (n : Nat) (v1 : Nat) (v2 : Int32) (v3 : Int32) (S : St), o_se_appraise_7 n v1 v2 v3 S = some (r, S') → RR KO (d + 4) 804 7 [(0, .ref 5), (1, .ref v1), (2, .int v2), (3, .int v3)] [] S none S' := by
  intro n
  induction n with
  | zero => intro v1 v2 v3 S h; simp only [o_se_appraise_7] at h; cases h
  | succ n ih =>
    intro v1 v2 v3 S h
    simp only [o_se_appraise_7] at h
    refine RR.runs (pc' := icm .lt v3 0 149 11) (lc' := [(0, .ref 5), (1, .ref v1), (2, .int v2), (3, .int v3)]) (st' := []) (S1 := S) (nL := 9) (cd := cd_804) mx_804 rfl rfl 2 rfl ?_
    rcases ifE h with ⟨c, h⟩ | ⟨c, h⟩
    · refine RR.c_lt (fun _ => ?_) (fun q => absurd c q)
      refine RR.weak [] trivial ?_
      exact s_o_se_appraise_149 _ h
    · refine RR.c_lt (fun q => absurd q c) (fun _ => ?_)
      refine RR.runs (pc' := 14) (lc' := [(4, .int (0 : Int32)), (0, .ref 5), (1, .ref v1), (2, .int v2), (3, .int v3)]) (st' := []) (S1 := S) (nL := 9) (cd := cd_804) mx_804 rfl rfl 2 rfl ?_
      refine RR.weak [(0, .ref 5), (1, .ref v1), (2, .int v2), (3, .int v3), (4, .int (0 : Int32))] ⟨rfl, rfl, rfl, rfl, rfl, trivial⟩ ?_
      exact s_o_se_appraise_14 _ (fun _ _ _ S h => ih _ _ _ S h) _ _ _ _ _ _ h
def o_se_appraise (v1 : Nat) (v2 : Int32) (S : St) : Re Unit :=
  lt' (((rI S 5 10) - (1 : Int32)) : Int32) fun x1 =>
  o_se_appraise_7 FU v1 v2 x1 S
set_option maxRecDepth 100000 in
theorem s0_o_se_appraise {d : Nat} {S' : St} {r : Unit} (v1 : Nat) (v2 : Int32) (S : St) (h : o_se_appraise v1 v2 S = some (r, S')) : RR KO (d + 4) 804 0 [(0, .ref 5), (1, .ref v1), (2, .int v2)] [] S none S' := by
  unfold o_se_appraise at h
  refine RR.runs (pc' := 7) (lc' := [(3, .int (((rI S 5 10) - (1 : Int32)))), (0, .ref 5), (1, .ref v1), (2, .int v2)]) (st' := []) (S1 := S) (nL := 9) (cd := cd_804) mx_804 rfl rfl 5 rfl ?_
  obtain ⟨x1, ex1, h⟩ := ltE h
  rw [← ex1]
  refine RR.weak [(0, .ref 5), (1, .ref v1), (2, .int v2), (3, .int x1)] ⟨rfl, rfl, rfl, rfl, trivial⟩ ?_
  exact s_o_se_appraise_7 _ _ _ _ _ h
theorem s_o_se_appraise {d : Nat} {S' : St} {r : Unit} (v1 : Nat) (v2 : Int32) (S : St) (h : o_se_appraise v1 v2 S = some (r, S')) : RC KO (d + 4) 804 [.ref 5, .ref v1, .int v2] S none S' := RC.of rfl (s0_o_se_appraise v1 v2 S h)
-- NameOrchard$Search sum ([III)I
def o_se_sum_58 (v3 : Int32) (S : St) : Re Int32 :=
  some (v3, S)
set_option maxRecDepth 100000 in
theorem s_o_se_sum_58 {d : Nat} {S' : St} {r : Int32} (v3 : Int32) (S : St) (h : o_se_sum_58 v3 S = some (r, S')) : RR KO (d + 0) 805 58 [(3, .int v3)] [] S (some (.int r)) S' := by
  unfold o_se_sum_58 at h
  refine RR.runs (pc' := 59) (lc' := [(3, .int v3)]) (st' := [.int v3]) (S1 := S) (nL := 6) (cd := cd_805) mx_805 rfl rfl 1 rfl ?_
  cases h
  exact RR.reti mx_805 rfl rfl rfl
def o_se_sum_44 (k11 : Nat → Int32 → Int32 → Int32 → St → Re Int32) (v0 : Nat) (v4 : Int32) (v5 : Int32) (p0 : Int32) (p1 : Int32) (S : St) : Re Int32 :=
  lt' ((p1 + p0) : Int32) fun x1 =>
  lt' ((v4 >>> ((1 : Int32) &&& 31)) : Int32) fun x2 =>
  lt' ((v5 + (1 : Int32)) : Int32) fun x3 =>
  k11 v0 x1 x2 x3 S
set_option maxRecDepth 100000 in
theorem s_o_se_sum_44 {d : Nat} (k11 : Nat → Int32 → Int32 → Int32 → St → Re Int32) {S' : St} {r : Int32} (b11 : ∀ (v0 : Nat) (v3 : Int32) (v4 : Int32) (v5 : Int32) (S : St), k11 v0 v3 v4 v5 S = some (r, S') → RR KO (d + 0) 805 11 [(0, .ref v0), (3, .int v3), (4, .int v4), (5, .int v5)] [] S (some (.int r)) S') (v0 : Nat) (v4 : Int32) (v5 : Int32) (p0 : Int32) (p1 : Int32) (S : St) (h : o_se_sum_44 k11 v0 v4 v5 p0 p1 S = some (r, S')) : RR KO (d + 0) 805 44 [(0, .ref v0), (4, .int v4), (5, .int v5)] [.int p0, .int p1] S (some (.int r)) S' := by
  unfold o_se_sum_44 at h
  refine RR.runs (pc' := 46) (lc' := [(3, .int (p1 + p0)), (0, .ref v0), (4, .int v4), (5, .int v5)]) (st' := []) (S1 := S) (nL := 6) (cd := cd_805) mx_805 rfl rfl 2 rfl ?_
  obtain ⟨x1, ex1, h⟩ := ltE h
  rw [← ex1]
  refine RR.runs (pc' := 52) (lc' := [(4, .int ((v4 >>> ((1 : Int32) &&& 31)))), (3, .int x1), (0, .ref v0), (5, .int v5)]) (st' := []) (S1 := S) (nL := 6) (cd := cd_805) mx_805 rfl rfl 4 rfl ?_
  obtain ⟨x2, ex2, h⟩ := ltE h
  rw [← ex2]
  refine RR.runs (pc' := 55) (lc' := [(5, .int ((v5 + (1 : Int32)))), (4, .int x2), (3, .int x1), (0, .ref v0)]) (st' := []) (S1 := S) (nL := 6) (cd := cd_805) mx_805 rfl rfl 1 rfl ?_
  obtain ⟨x3, ex3, h⟩ := ltE h
  rw [← ex3]
  refine RR.runs (pc' := 11) (lc' := [(5, .int x3), (4, .int x2), (3, .int x1), (0, .ref v0)]) (st' := []) (S1 := S) (nL := 6) (cd := cd_805) mx_805 rfl rfl 1 rfl ?_
  refine RR.weak [(0, .ref v0), (3, .int x1), (4, .int x2), (5, .int x3)] ⟨rfl, rfl, rfl, rfl, trivial⟩ ?_
  exact b11 _ _ _ _ _ h
def o_se_sum_11 : Nat → Nat → Int32 → Int32 → Int32 → St → Re Int32
  | 0, _, _, _, _, _ => none
  | n + 1, v0, v3, v4, v5, S =>
  if v5 < 0 then (
    o_se_sum_58 v3 S)
  else (
    if 1 ≤ (KO.1 v0).1 ∧ (KO.1 v0).1 < 8 then (
    if v5 < (Int32.ofNat (KO.1 v0).2) then (
      if v4 = 0 then (
        o_se_sum_58 v3 S)
      else (
        if (v4 &&& (1 : Int32)) = 0 then (
          o_se_sum_44 (o_se_sum_11 n) v0 v4 v5 (0 : Int32) v3 S)
        else (
          if (KO.1 v0).1 = 1 then (
          if v5 < 0 ∨ (KO.1 v0).2 ≤ v5.toNatClampNeg then none else
          o_se_sum_44 (o_se_sum_11 n) v0 v4 v5 (rI S v0 v5.toNatClampNeg) v3 S) else none)))
    else (
      o_se_sum_58 v3 S)) else none)
set_option maxRecDepth 100000 in
theorem s_o_se_sum_11 {d : Nat} {S' : St} {r : Int32} : ∀ (n : Nat) (v0 : Nat) (v3 : Int32) (v4 : Int32) (v5 : Int32) (S : St), o_se_sum_11 n v0 v3 v4 v5 S = some (r, S') → RR KO (d + 0) 805 11 [(0, .ref v0), (3, .int v3), (4, .int v4), (5, .int v5)] [] S (some (.int r)) S' := by
  intro n
  induction n with
  | zero => intro v0 v3 v4 v5 S h; simp only [o_se_sum_11] at h; cases h
  | succ n ih =>
    intro v0 v3 v4 v5 S h
    simp only [o_se_sum_11] at h
    refine RR.runs (pc' := icm .lt v5 0 58 16) (lc' := [(0, .ref v0), (3, .int v3), (4, .int v4), (5, .int v5)]) (st' := []) (S1 := S) (nL := 6) (cd := cd_805) mx_805 rfl rfl 2 rfl ?_
    rcases ifE h with ⟨c, h⟩ | ⟨c, h⟩
    · refine RR.c_lt (fun _ => ?_) (fun q => absurd c q)
      refine RR.weak [(3, .int v3)] ⟨rfl, trivial⟩ ?_
      exact s_o_se_sum_58 _ _ h
    · refine RR.c_lt (fun q => absurd q c) (fun _ => ?_)
      refine RR.runs (pc' := 19) (lc' := [(0, .ref v0), (3, .int v3), (4, .int v4), (5, .int v5)]) (st' := [.ref v0, .int v5]) (S1 := S) (nL := 6) (cd := cd_805) mx_805 rfl rfl 2 rfl ?_
      obtain ⟨g, h⟩ := gpE h
      refine RR.gP (pc' := 20) (lc' := [(0, .ref v0), (3, .int v3), (4, .int v4), (5, .int v5)]) (st' := [.int ((Int32.ofNat (KO.1 v0).2)), .int v5]) (S1 := S) (nL := 6) (cd := cd_805) mx_805 rfl rfl rfl g ?_
      refine RR.runs (pc' := icm .ge v5 ((Int32.ofNat (KO.1 v0).2)) 58 23) (lc' := [(0, .ref v0), (3, .int v3), (4, .int v4), (5, .int v5)]) (st' := []) (S1 := S) (nL := 6) (cd := cd_805) mx_805 rfl rfl 1 rfl ?_
      rcases ifE h with ⟨c, h⟩ | ⟨c, h⟩
      · refine RR.c_ge (fun _ => ?_) (fun q => absurd c q)
        refine RR.runs (pc' := icm .eq v4 0 58 28) (lc' := [(0, .ref v0), (3, .int v3), (4, .int v4), (5, .int v5)]) (st' := []) (S1 := S) (nL := 6) (cd := cd_805) mx_805 rfl rfl 2 rfl ?_
        rcases ifE h with ⟨c, h⟩ | ⟨c, h⟩
        · refine RR.c_eq (fun _ => ?_) (fun q => absurd c q)
          refine RR.weak [(3, .int v3)] ⟨rfl, trivial⟩ ?_
          exact s_o_se_sum_58 _ _ h
        · refine RR.c_eq (fun q => absurd q c) (fun _ => ?_)
          refine RR.runs (pc' := icm .eq ((v4 &&& (1 : Int32))) 0 43 36) (lc' := [(0, .ref v0), (3, .int v3), (4, .int v4), (5, .int v5)]) (st' := [.int v3]) (S1 := S) (nL := 6) (cd := cd_805) mx_805 rfl rfl 5 rfl ?_
          rcases ifE h with ⟨c, h⟩ | ⟨c, h⟩
          · refine RR.c_eq (fun _ => ?_) (fun q => absurd c q)
            refine RR.runs (pc' := 44) (lc' := [(0, .ref v0), (3, .int v3), (4, .int v4), (5, .int v5)]) (st' := [.int (0 : Int32), .int v3]) (S1 := S) (nL := 6) (cd := cd_805) mx_805 rfl rfl 1 rfl ?_
            refine RR.weak [(0, .ref v0), (4, .int v4), (5, .int v5)] ⟨rfl, rfl, rfl, trivial⟩ ?_
            exact s_o_se_sum_44 _ (fun _ _ _ _ S h => ih _ _ _ _ S h) _ _ _ _ _ _ h
          · refine RR.c_eq (fun q => absurd q c) (fun _ => ?_)
            refine RR.runs (pc' := 39) (lc' := [(0, .ref v0), (3, .int v3), (4, .int v4), (5, .int v5)]) (st' := [.int v5, .ref v0, .int v3]) (S1 := S) (nL := 6) (cd := cd_805) mx_805 rfl rfl 2 rfl ?_
            obtain ⟨gq, h⟩ := gpE h
            obtain ⟨g, h⟩ := gnE h
            refine RR.gPNo (c2 := (KO.1 v0).1 = 1) (pc' := 40) (lc' := [(0, .ref v0), (3, .int v3), (4, .int v4), (5, .int v5)]) (st' := [.int (rI S v0 v5.toNatClampNeg), .int v3]) (S1 := S) (nL := 6) (cd := cd_805) mx_805 rfl rfl rfl gq g ?_
            refine RR.runs (pc' := 44) (lc' := [(0, .ref v0), (3, .int v3), (4, .int v4), (5, .int v5)]) (st' := [.int (rI S v0 v5.toNatClampNeg), .int v3]) (S1 := S) (nL := 6) (cd := cd_805) mx_805 rfl rfl 1 rfl ?_
            refine RR.weak [(0, .ref v0), (4, .int v4), (5, .int v5)] ⟨rfl, rfl, rfl, trivial⟩ ?_
            exact s_o_se_sum_44 _ (fun _ _ _ _ S h => ih _ _ _ _ S h) _ _ _ _ _ _ h
      · refine RR.c_ge (fun q => absurd q c) (fun _ => ?_)
        refine RR.weak [(3, .int v3)] ⟨rfl, trivial⟩ ?_
        exact s_o_se_sum_58 _ _ h
def o_se_sum (v0 : Nat) (v1 : Int32) (v2 : Int32) (S : St) : Re Int32 :=
  lt' ((v1 * (10 : Int32)) : Int32) fun x1 =>
  o_se_sum_11 FU v0 (0 : Int32) v2 x1 S
set_option maxRecDepth 100000 in
theorem s0_o_se_sum {d : Nat} {S' : St} {r : Int32} (v0 : Nat) (v1 : Int32) (v2 : Int32) (S : St) (h : o_se_sum v0 v1 v2 S = some (r, S')) : RR KO (d + 0) 805 0 [(0, .ref v0), (1, .int v1), (2, .int v2)] [] S (some (.int r)) S' := by
  unfold o_se_sum at h
  refine RR.runs (pc' := 11) (lc' := [(5, .int ((v1 * (10 : Int32)))), (4, .int v2), (3, .int (0 : Int32)), (0, .ref v0), (1, .int v1), (2, .int v2)]) (st' := []) (S1 := S) (nL := 6) (cd := cd_805) mx_805 rfl rfl 8 rfl ?_
  obtain ⟨x1, ex1, h⟩ := ltE h
  rw [← ex1]
  refine RR.weak [(0, .ref v0), (3, .int (0 : Int32)), (4, .int v2), (5, .int x1)] ⟨rfl, rfl, rfl, rfl, trivial⟩ ?_
  exact s_o_se_sum_11 _ _ _ _ _ _ h
theorem s_o_se_sum {d : Nat} {S' : St} {r : Int32} (v0 : Nat) (v1 : Int32) (v2 : Int32) (S : St) (h : o_se_sum v0 v1 v2 S = some (r, S')) : RC KO (d + 0) 805 [.ref v0, .int v1, .int v2] S (some (.int r)) S' := RC.of rfl (s0_o_se_sum v0 v1 v2 S h)
-- NameOrchard$Told felled (IIII)I
def o_to_felled_78 (v1 : Int32) (v7 : Int32) (S : St) : Re Int32 :=
  some ((v7 &&& v1), S)
set_option maxRecDepth 100000 in
theorem s_o_to_felled_78 {d : Nat} {S' : St} {r : Int32} (v1 : Int32) (v7 : Int32) (S : St) (h : o_to_felled_78 v1 v7 S = some (r, S')) : RR KO (d + 0) 2019 78 [(1, .int v1), (7, .int v7)] [] S (some (.int r)) S' := by
  unfold o_to_felled_78 at h
  refine RR.runs (pc' := 82) (lc' := [(1, .int v1), (7, .int v7)]) (st' := [.int (v7 &&& v1)]) (S1 := S) (nL := 9) (cd := cd_2019) mx_2019 rfl rfl 3 rfl ?_
  cases h
  exact RR.reti mx_2019 rfl rfl rfl
def o_to_felled_63 (k28 : Nat → Int32 → Int32 → Int32 → Int32 → St → Re Int32) (v0 : Nat) (v1 : Int32) (v6 : Int32) (v8 : Int32) (p0 : Int32) (p1 : Int32) (S : St) : Re Int32 :=
  lt' ((p1 ||| p0) : Int32) fun x1 =>
  lt' ((v6 >>> ((1 : Int32) &&& 31)) : Int32) fun x2 =>
  lt' ((v8 + (1 : Int32)) : Int32) fun x3 =>
  k28 v0 v1 x2 x1 x3 S
set_option maxRecDepth 100000 in
theorem s_o_to_felled_63 {d : Nat} (k28 : Nat → Int32 → Int32 → Int32 → Int32 → St → Re Int32) {S' : St} {r : Int32} (b28 : ∀ (v0 : Nat) (v1 : Int32) (v6 : Int32) (v7 : Int32) (v8 : Int32) (S : St), k28 v0 v1 v6 v7 v8 S = some (r, S') → RR KO (d + 0) 2019 28 [(0, .ref v0), (1, .int v1), (6, .int v6), (7, .int v7), (8, .int v8)] [] S (some (.int r)) S') (v0 : Nat) (v1 : Int32) (v6 : Int32) (v8 : Int32) (p0 : Int32) (p1 : Int32) (S : St) (h : o_to_felled_63 k28 v0 v1 v6 v8 p0 p1 S = some (r, S')) : RR KO (d + 0) 2019 63 [(0, .ref v0), (1, .int v1), (6, .int v6), (8, .int v8)] [.int p0, .int p1] S (some (.int r)) S' := by
  unfold o_to_felled_63 at h
  refine RR.runs (pc' := 66) (lc' := [(7, .int (p1 ||| p0)), (0, .ref v0), (1, .int v1), (6, .int v6), (8, .int v8)]) (st' := []) (S1 := S) (nL := 9) (cd := cd_2019) mx_2019 rfl rfl 2 rfl ?_
  obtain ⟨x1, ex1, h⟩ := ltE h
  rw [← ex1]
  refine RR.runs (pc' := 72) (lc' := [(6, .int ((v6 >>> ((1 : Int32) &&& 31)))), (7, .int x1), (0, .ref v0), (1, .int v1), (8, .int v8)]) (st' := []) (S1 := S) (nL := 9) (cd := cd_2019) mx_2019 rfl rfl 4 rfl ?_
  obtain ⟨x2, ex2, h⟩ := ltE h
  rw [← ex2]
  refine RR.runs (pc' := 75) (lc' := [(8, .int ((v8 + (1 : Int32)))), (6, .int x2), (7, .int x1), (0, .ref v0), (1, .int v1)]) (st' := []) (S1 := S) (nL := 9) (cd := cd_2019) mx_2019 rfl rfl 1 rfl ?_
  obtain ⟨x3, ex3, h⟩ := ltE h
  rw [← ex3]
  refine RR.runs (pc' := 28) (lc' := [(8, .int x3), (6, .int x2), (7, .int x1), (0, .ref v0), (1, .int v1)]) (st' := []) (S1 := S) (nL := 9) (cd := cd_2019) mx_2019 rfl rfl 1 rfl ?_
  refine RR.weak [(0, .ref v0), (1, .int v1), (6, .int x2), (7, .int x1), (8, .int x3)] ⟨rfl, rfl, rfl, rfl, rfl, trivial⟩ ?_
  exact b28 _ _ _ _ _ _ h
def o_to_felled_28 : Nat → Nat → Int32 → Int32 → Int32 → Int32 → St → Re Int32
  | 0, _, _, _, _, _, _ => none
  | n + 1, v0, v1, v6, v7, v8, S =>
  if KO.1 v0 = (0, 10) then (
  if 1 ≤ (KO.1 (v0 + 42)).1 ∧ (KO.1 (v0 + 42)).1 < 8 then (
  if v8 < (Int32.ofNat (KO.1 (v0 + 42)).2) then (
    if v6 = 0 then (
      o_to_felled_78 v1 v7 S)
    else (
      if (v6 &&& (1 : Int32)) = 0 then (
        o_to_felled_63 (o_to_felled_28 n) v0 v1 v6 v8 (0 : Int32) v7 S)
      else (
                if (KO.1 (v0 + 42)).1 = 1 then (
        if v8 < 0 ∨ (KO.1 (v0 + 42)).2 ≤ v8.toNatClampNeg then none else
        o_to_felled_63 (o_to_felled_28 n) v0 v1 v6 v8 ((rI S (v0 + 42) v8.toNatClampNeg)) v7 S) else none)))
  else (
    o_to_felled_78 v1 v7 S)) else none) else none
set_option maxRecDepth 100000 in
theorem s_o_to_felled_28 {d : Nat} {S' : St} {r : Int32} : ∀ (n : Nat) (v0 : Nat) (v1 : Int32) (v6 : Int32) (v7 : Int32) (v8 : Int32) (S : St), o_to_felled_28 n v0 v1 v6 v7 v8 S = some (r, S') → RR KO (d + 0) 2019 28 [(0, .ref v0), (1, .int v1), (6, .int v6), (7, .int v7), (8, .int v8)] [] S (some (.int r)) S' := by
  intro n
  induction n with
  | zero => intro v0 v1 v6 v7 v8 S h; simp only [o_to_felled_28] at h; cases h
  | succ n ih =>
    intro v0 v1 v6 v7 v8 S h
    simp only [o_to_felled_28] at h
    refine RR.runs (pc' := 31) (lc' := [(0, .ref v0), (1, .int v1), (6, .int v6), (7, .int v7), (8, .int v8)]) (st' := [.ref v0, .int v8]) (S1 := S) (nL := 9) (cd := cd_2019) mx_2019 rfl rfl 2 rfl ?_
    obtain ⟨g1, h⟩ := gpE h
    refine RR.gPo (pc' := 34) (lc' := [(0, .ref v0), (1, .int v1), (6, .int v6), (7, .int v7), (8, .int v8)]) (st' := [.ref (v0 + 42), .int v8]) (S1 := S) (nL := 9) (cd := cd_2019) mx_2019 rfl rfl rfl ⟨g1, by decide, by decide⟩ ?_
    obtain ⟨g, h⟩ := gpE h
    refine RR.gP (pc' := 35) (lc' := [(0, .ref v0), (1, .int v1), (6, .int v6), (7, .int v7), (8, .int v8)]) (st' := [.int ((Int32.ofNat (KO.1 (v0 + 42)).2)), .int v8]) (S1 := S) (nL := 9) (cd := cd_2019) mx_2019 rfl rfl rfl g ?_
    refine RR.runs (pc' := icm .ge v8 ((Int32.ofNat (KO.1 (v0 + 42)).2)) 78 38) (lc' := [(0, .ref v0), (1, .int v1), (6, .int v6), (7, .int v7), (8, .int v8)]) (st' := []) (S1 := S) (nL := 9) (cd := cd_2019) mx_2019 rfl rfl 1 rfl ?_
    rcases ifE h with ⟨c, h⟩ | ⟨c, h⟩
    · refine RR.c_ge (fun _ => ?_) (fun q => absurd c q)
      refine RR.runs (pc' := icm .eq v6 0 78 43) (lc' := [(0, .ref v0), (1, .int v1), (6, .int v6), (7, .int v7), (8, .int v8)]) (st' := []) (S1 := S) (nL := 9) (cd := cd_2019) mx_2019 rfl rfl 2 rfl ?_
      rcases ifE h with ⟨c, h⟩ | ⟨c, h⟩
      · refine RR.c_eq (fun _ => ?_) (fun q => absurd c q)
        refine RR.weak [(1, .int v1), (7, .int v7)] ⟨rfl, rfl, trivial⟩ ?_
        exact s_o_to_felled_78 _ _ _ h
      · refine RR.c_eq (fun q => absurd q c) (fun _ => ?_)
        refine RR.runs (pc' := icm .eq ((v6 &&& (1 : Int32))) 0 62 52) (lc' := [(0, .ref v0), (1, .int v1), (6, .int v6), (7, .int v7), (8, .int v8)]) (st' := [.int v7]) (S1 := S) (nL := 9) (cd := cd_2019) mx_2019 rfl rfl 5 rfl ?_
        rcases ifE h with ⟨c, h⟩ | ⟨c, h⟩
        · refine RR.c_eq (fun _ => ?_) (fun q => absurd c q)
          refine RR.runs (pc' := 63) (lc' := [(0, .ref v0), (1, .int v1), (6, .int v6), (7, .int v7), (8, .int v8)]) (st' := [.int (0 : Int32), .int v7]) (S1 := S) (nL := 9) (cd := cd_2019) mx_2019 rfl rfl 1 rfl ?_
          refine RR.weak [(0, .ref v0), (1, .int v1), (6, .int v6), (8, .int v8)] ⟨rfl, rfl, rfl, rfl, trivial⟩ ?_
          exact s_o_to_felled_63 _ (fun _ _ _ _ _ S h => ih _ _ _ _ _ S h) _ _ _ _ _ _ _ h
        · refine RR.c_eq (fun q => absurd q c) (fun _ => ?_)
          refine RR.runs (pc' := 53) (lc' := [(0, .ref v0), (1, .int v1), (6, .int v6), (7, .int v7), (8, .int v8)]) (st' := [.ref v0, .int v7]) (S1 := S) (nL := 9) (cd := cd_2019) mx_2019 rfl rfl 1 rfl ?_
          refine RR.gPo (pc' := 56) (lc' := [(0, .ref v0), (1, .int v1), (6, .int v6), (7, .int v7), (8, .int v8)]) (st' := [.ref (v0 + 42), .int v7]) (S1 := S) (nL := 9) (cd := cd_2019) mx_2019 rfl rfl rfl ⟨g1, by decide, by decide⟩ ?_
          refine RR.runs (pc' := 58) (lc' := [(0, .ref v0), (1, .int v1), (6, .int v6), (7, .int v7), (8, .int v8)]) (st' := [.int v8, .ref (v0 + 42), .int v7]) (S1 := S) (nL := 9) (cd := cd_2019) mx_2019 rfl rfl 1 rfl ?_
          obtain ⟨gq, h⟩ := gpE h
          obtain ⟨g, h⟩ := gnE h
          refine RR.gPNo (c2 := (KO.1 (v0 + 42)).1 = 1) (pc' := 59) (lc' := [(0, .ref v0), (1, .int v1), (6, .int v6), (7, .int v7), (8, .int v8)]) (st' := [.int ((rI S (v0 + 42) v8.toNatClampNeg)), .int v7]) (S1 := S) (nL := 9) (cd := cd_2019) mx_2019 rfl rfl rfl gq g ?_
          refine RR.runs (pc' := 63) (lc' := [(0, .ref v0), (1, .int v1), (6, .int v6), (7, .int v7), (8, .int v8)]) (st' := [.int ((rI S (v0 + 42) v8.toNatClampNeg)), .int v7]) (S1 := S) (nL := 9) (cd := cd_2019) mx_2019 rfl rfl 1 rfl ?_
          refine RR.weak [(0, .ref v0), (1, .int v1), (6, .int v6), (8, .int v8)] ⟨rfl, rfl, rfl, rfl, trivial⟩ ?_
          exact s_o_to_felled_63 _ (fun _ _ _ _ _ S h => ih _ _ _ _ _ S h) _ _ _ _ _ _ _ h
    · refine RR.c_ge (fun q => absurd q c) (fun _ => ?_)
      refine RR.weak [(1, .int v1), (7, .int v7)] ⟨rfl, rfl, trivial⟩ ?_
      exact s_o_to_felled_78 _ _ _ h
def o_to_felled (v0 : Nat) (v1 : Int32) (v2 : Int32) (v3 : Int32) (v4 : Int32) (S : St) : Re Int32 :=
  if KO.1 v0 = (0, 10) then (
  lt' ((((v3 &&& ((rI S v0 15) ^^^ (-1 : Int32))) ||| (v4 &&& v2)) &&& v1) : Int32) fun x2 =>
  o_to_felled_28 FU v0 v1 x2 x2 (0 : Int32) S) else none
set_option maxRecDepth 100000 in
theorem s0_o_to_felled {d : Nat} {S' : St} {r : Int32} (v0 : Nat) (v1 : Int32) (v2 : Int32) (v3 : Int32) (v4 : Int32) (S : St) (h : o_to_felled v0 v1 v2 v3 v4 S = some (r, S')) : RR KO (d + 0) 2019 0 [(0, .ref v0), (1, .int v1), (2, .int v2), (3, .int v3), (4, .int v4)] [] S (some (.int r)) S' := by
  unfold o_to_felled at h
  refine RR.runs (pc' := 2) (lc' := [(0, .ref v0), (1, .int v1), (2, .int v2), (3, .int v3), (4, .int v4)]) (st' := [.ref v0, .int v3]) (S1 := S) (nL := 9) (cd := cd_2019) mx_2019 rfl rfl 2 rfl ?_
  obtain ⟨g1, h⟩ := gpE h
  refine RR.gPo (pc' := 5) (lc' := [(0, .ref v0), (1, .int v1), (2, .int v2), (3, .int v3), (4, .int v4)]) (st' := [.int (rI S v0 15), .int v3]) (S1 := S) (nL := 9) (cd := cd_2019) mx_2019 rfl rfl rfl ⟨g1, by decide, by decide⟩ ?_
  refine RR.runs (pc' := 17) (lc' := [(5, .int ((((v3 &&& ((rI S v0 15) ^^^ (-1 : Int32))) ||| (v4 &&& v2)) &&& v1))), (0, .ref v0), (1, .int v1), (2, .int v2), (3, .int v3), (4, .int v4)]) (st' := []) (S1 := S) (nL := 9) (cd := cd_2019) mx_2019 rfl rfl 10 rfl ?_
  obtain ⟨x2, ex2, h⟩ := ltE h
  rw [← ex2]
  refine RR.runs (pc' := 28) (lc' := [(8, .int (0 : Int32)), (7, .int x2), (6, .int x2), (5, .int x2), (0, .ref v0), (1, .int v1), (2, .int v2), (3, .int v3), (4, .int v4)]) (st' := []) (S1 := S) (nL := 9) (cd := cd_2019) mx_2019 rfl rfl 6 rfl ?_
  refine RR.weak [(0, .ref v0), (1, .int v1), (6, .int x2), (7, .int x2), (8, .int (0 : Int32))] ⟨rfl, rfl, rfl, rfl, rfl, trivial⟩ ?_
  exact s_o_to_felled_28 _ _ _ _ _ _ _ h
theorem s_o_to_felled {d : Nat} {S' : St} {r : Int32} (v0 : Nat) (v1 : Int32) (v2 : Int32) (v3 : Int32) (v4 : Int32) (S : St) (h : o_to_felled v0 v1 v2 v3 v4 S = some (r, S')) : RC KO (d + 0) 2019 [.ref v0, .int v1, .int v2, .int v3, .int v4] S (some (.int r)) S' := RC.of rfl (s0_o_to_felled v0 v1 v2 v3 v4 S h)
-- java/util/Arrays fill ([JJ)V
def o_j_fillJ_22 (S : St) : Re Unit :=
  some ((), S)
set_option maxRecDepth 100000 in
theorem s_o_j_fillJ_22 {d : Nat} {S' : St} {r : Unit} (S : St) (h : o_j_fillJ_22 S = some (r, S')) : RR KO (d + 0) 2800 22 [] [] S none S' := by
  unfold o_j_fillJ_22 at h
  cases h
  exact RR.retv mx_2800 rfl rfl rfl
def o_j_fillJ_6 : Nat → Nat → Int64 → Int32 → Int32 → St → Re Unit
  | 0, _, _, _, _, _ => none
  | n + 1, v0, v1, v3, v4, S =>
  if v3 < v4 then (
    if (KO.1 v0).1 = 4 then (
    if v3 < 0 ∨ (KO.1 v0).2 ≤ v3.toNatClampNeg then none else
    lt' (wJ S v0 v3.toNatClampNeg v1) fun S1 =>
    lt' ((v3 + (1 : Int32)) : Int32) fun x2 =>
    o_j_fillJ_6 n v0 v1 x2 v4 S1) else none)
  else (
    o_j_fillJ_22 S)
set_option maxRecDepth 100000 in
theorem s_o_j_fillJ_6 {d : Nat} {S' : St} {r : Unit} : ∀ (n : Nat) (v0 : Nat) (v1 : Int64) (v3 : Int32) (v4 : Int32) (S : St), o_j_fillJ_6 n v0 v1 v3 v4 S = some (r, S') → RR KO (d + 0) 2800 6 [(0, .ref v0), (1, .long v1), (3, .int v3), (4, .int v4)] [] S none S' := by
  intro n
  induction n with
  | zero => intro v0 v1 v3 v4 S h; simp only [o_j_fillJ_6] at h; cases h
  | succ n ih =>
    intro v0 v1 v3 v4 S h
    simp only [o_j_fillJ_6] at h
    refine RR.runs (pc' := icm .ge v3 v4 22 12) (lc' := [(0, .ref v0), (1, .long v1), (3, .int v3), (4, .int v4)]) (st' := []) (S1 := S) (nL := 5) (cd := cd_2800) mx_2800 rfl rfl 3 rfl ?_
    rcases ifE h with ⟨c, h⟩ | ⟨c, h⟩
    · refine RR.c_ge (fun _ => ?_) (fun q => absurd c q)
      refine RR.runs (pc' := 15) (lc' := [(0, .ref v0), (1, .long v1), (3, .int v3), (4, .int v4)]) (st' := [.long v1, .int v3, .ref v0]) (S1 := S) (nL := 5) (cd := cd_2800) mx_2800 rfl rfl 3 rfl ?_
      obtain ⟨gq, h⟩ := gpE h
      obtain ⟨g, h⟩ := gnE h
      refine RR.gPN (c2 := (KO.1 v0).1 = 4) (pc' := 16) (lc' := [(0, .ref v0), (1, .long v1), (3, .int v3), (4, .int v4)]) (st' := []) (S1 := (wJ S v0 v3.toNatClampNeg v1)) (nL := 5) (cd := cd_2800) mx_2800 rfl rfl rfl gq g ?_
      obtain ⟨S1, eS1, h⟩ := ltE h
      rw [← eS1]
      refine RR.runs (pc' := 19) (lc' := [(3, .int ((v3 + (1 : Int32)))), (0, .ref v0), (1, .long v1), (4, .int v4)]) (st' := []) (S1 := S1) (nL := 5) (cd := cd_2800) mx_2800 rfl rfl 1 rfl ?_
      obtain ⟨x2, ex2, h⟩ := ltE h
      rw [← ex2]
      refine RR.runs (pc' := 6) (lc' := [(3, .int x2), (0, .ref v0), (1, .long v1), (4, .int v4)]) (st' := []) (S1 := S1) (nL := 5) (cd := cd_2800) mx_2800 rfl rfl 1 rfl ?_
      refine RR.weak [(0, .ref v0), (1, .long v1), (3, .int x2), (4, .int v4)] ⟨rfl, rfl, rfl, rfl, trivial⟩ ?_
      exact ih _ _ _ _ _ h
    · refine RR.c_ge (fun q => absurd q c) (fun _ => ?_)
      refine RR.weak [] trivial ?_
      exact s_o_j_fillJ_22 _ h
def o_j_fillJ (v0 : Nat) (v1 : Int64) (S : St) : Re Unit :=
  if 1 ≤ (KO.1 v0).1 ∧ (KO.1 v0).1 < 8 then (
  lt' ((Int32.ofNat (KO.1 v0).2) : Int32) fun x1 =>
  o_j_fillJ_6 FU v0 v1 (0 : Int32) x1 S) else none
set_option maxRecDepth 100000 in
theorem s0_o_j_fillJ {d : Nat} {S' : St} {r : Unit} (v0 : Nat) (v1 : Int64) (S : St) (h : o_j_fillJ v0 v1 S = some (r, S')) : RR KO (d + 0) 2800 0 [(0, .ref v0), (1, .long v1)] [] S none S' := by
  unfold o_j_fillJ at h
  refine RR.runs (pc' := 3) (lc' := [(3, .int (0 : Int32)), (0, .ref v0), (1, .long v1)]) (st' := [.ref v0]) (S1 := S) (nL := 5) (cd := cd_2800) mx_2800 rfl rfl 3 rfl ?_
  obtain ⟨g, h⟩ := gpE h
  refine RR.gP (pc' := 4) (lc' := [(3, .int (0 : Int32)), (0, .ref v0), (1, .long v1)]) (st' := [.int ((Int32.ofNat (KO.1 v0).2))]) (S1 := S) (nL := 5) (cd := cd_2800) mx_2800 rfl rfl rfl g ?_
  refine RR.runs (pc' := 6) (lc' := [(4, .int ((Int32.ofNat (KO.1 v0).2))), (3, .int (0 : Int32)), (0, .ref v0), (1, .long v1)]) (st' := []) (S1 := S) (nL := 5) (cd := cd_2800) mx_2800 rfl rfl 1 rfl ?_
  obtain ⟨x1, ex1, h⟩ := ltE h
  rw [← ex1]
  refine RR.weak [(0, .ref v0), (1, .long v1), (3, .int (0 : Int32)), (4, .int x1)] ⟨rfl, rfl, rfl, rfl, trivial⟩ ?_
  exact s_o_j_fillJ_6 _ _ _ _ _ _ h
theorem s_o_j_fillJ {d : Nat} {S' : St} {r : Unit} (v0 : Nat) (v1 : Int64) (S : St) (h : o_j_fillJ v0 v1 S = some (r, S')) : RC KO (d + 0) 2800 [.ref v0, .long v1] S none S' := RC.of rfl (s0_o_j_fillJ v0 v1 S h)
-- NameOrchard$Search meet (II)V
def o_se_meet_26 (S : St) : Re Unit :=
  some ((), S)
set_option maxRecDepth 100000 in
theorem s_o_se_meet_26 {d : Nat} {S' : St} {r : Unit} (S : St) (h : o_se_meet_26 S = some (r, S')) : RR KO (d + 0) 810 26 [] [] S none S' := by
  unfold o_se_meet_26 at h
  cases h
  exact RR.retv mx_810 rfl rfl rfl
def o_se_meet_114 (S : St) : Re Unit :=
  some ((), S)
set_option maxRecDepth 100000 in
theorem s_o_se_meet_114 {d : Nat} {S' : St} {r : Unit} (S : St) (h : o_se_meet_114 S = some (r, S')) : RR KO (d + 0) 810 114 [] [] S none S' := by
  unfold o_se_meet_114 at h
  cases h
  exact RR.retv mx_810 rfl rfl rfl
def o_se_meet (v1 : Int32) (v2 : Int32) (S : St) : Re Unit :=
  if v1 < 0 then (
    o_se_meet_26 S)
  else (
    if v1 < (1024 : Int32) then (
      if v2 < 0 then (
        o_se_meet_26 S)
      else (
        if v2 < (1024 : Int32) then (
          if v1 < 0 ∨ 1024 ≤ v1.toNatClampNeg then none else
          if v2 < 0 ∨ 1024 ≤ v2.toNatClampNeg then none else
          lt' (((rI S 11 v1.toNatClampNeg) + (rI S 11 v2.toNatClampNeg)) : Int32) fun x1 =>
          lt' ((x1 / (64 : Int32)) : Int32) fun x2 =>
          lt' (((1 : Int64) <<< ((x1 - x1 / (64 : Int32) * (64 : Int32)).toInt64 &&& 63)) : Int64) fun x3 =>
          if x2 < (923 : Int32) then (
            oq (rQ S 5 8) none fun o4 =>
            if 1 ≤ (KO.1 o4).1 ∧ (KO.1 o4).1 < 8 then (
            if x2 < (Int32.ofNat (KO.1 o4).2) then (
              if x2 < 0 ∨ 923 ≤ x2.toNatClampNeg then none else
              if (lg_cmp (((rJ S 12 x2.toNatClampNeg) &&& x3)) (0 : Int64)) = 0 then (
                if x2 < 0 ∨ 923 ≤ x2.toNatClampNeg then none else
                if x2 < 0 ∨ 923 ≤ x2.toNatClampNeg then none else
                lt' (wJ S 12 x2.toNatClampNeg (((rJ S 12 x2.toNatClampNeg) ||| x3))) fun S5 =>
                oq (rQ S5 5 8) none fun o6 =>
                if (KO.1 o6).1 = 4 then (
                if x2 < 0 ∨ (KO.1 o6).2 ≤ x2.toNatClampNeg then none else
                if (KO.1 o6).1 = 4 then (
                if x2 < 0 ∨ (KO.1 o6).2 ≤ x2.toNatClampNeg then none else
                lt' (wJ S5 o6 x2.toNatClampNeg (((rJ S5 o6 x2.toNatClampNeg) ||| x3))) fun S7 =>
                o_se_meet_114 S7) else none) else none)
              else (
                o_se_meet_114 S))
            else (
              o_se_meet_114 S)) else none)
          else (
            o_se_meet_114 S))
        else (
          o_se_meet_26 S)))
    else (
      o_se_meet_26 S))
set_option maxRecDepth 100000 in
theorem s0_o_se_meet {d : Nat} {S' : St} {r : Unit} (v1 : Int32) (v2 : Int32) (S : St) (h : o_se_meet v1 v2 S = some (r, S')) : RR KO (d + 0) 810 0 [(0, .ref 5), (1, .int v1), (2, .int v2)] [] S none S' := by
  unfold o_se_meet at h
  refine RR.runs (pc' := icm .lt v1 0 26 4) (lc' := [(0, .ref 5), (1, .int v1), (2, .int v2)]) (st' := []) (S1 := S) (nL := 7) (cd := cd_810) mx_810 rfl rfl 2 rfl ?_
  rcases ifE h with ⟨c, h⟩ | ⟨c, h⟩
  · refine RR.c_lt (fun _ => ?_) (fun q => absurd c q)
    refine RR.weak [] trivial ?_
    exact s_o_se_meet_26 _ h
  · refine RR.c_lt (fun q => absurd q c) (fun _ => ?_)
    refine RR.runs (pc' := icm .ge v1 (1024 : Int32) 26 13) (lc' := [(0, .ref 5), (1, .int v1), (2, .int v2)]) (st' := []) (S1 := S) (nL := 7) (cd := cd_810) mx_810 rfl rfl 5 rfl ?_
    rcases ifE h with ⟨c, h⟩ | ⟨c, h⟩
    · refine RR.c_ge (fun _ => ?_) (fun q => absurd c q)
      refine RR.runs (pc' := icm .lt v2 0 26 17) (lc' := [(0, .ref 5), (1, .int v1), (2, .int v2)]) (st' := []) (S1 := S) (nL := 7) (cd := cd_810) mx_810 rfl rfl 2 rfl ?_
      rcases ifE h with ⟨c, h⟩ | ⟨c, h⟩
      · refine RR.c_lt (fun _ => ?_) (fun q => absurd c q)
        refine RR.weak [] trivial ?_
        exact s_o_se_meet_26 _ h
      · refine RR.c_lt (fun q => absurd q c) (fun _ => ?_)
        refine RR.runs (pc' := icm .lt v2 (1024 : Int32) 27 26) (lc' := [(0, .ref 5), (1, .int v1), (2, .int v2)]) (st' := []) (S1 := S) (nL := 7) (cd := cd_810) mx_810 rfl rfl 5 rfl ?_
        rcases ifE h with ⟨c, h⟩ | ⟨c, h⟩
        · refine RR.c_lt (fun _ => ?_) (fun q => absurd c q)
          refine RR.runs (pc' := 32) (lc' := [(0, .ref 5), (1, .int v1), (2, .int v2)]) (st' := [.int v1, .ref 11]) (S1 := S) (nL := 7) (cd := cd_810) mx_810 rfl rfl 3 rfl ?_
          obtain ⟨g, h⟩ := gnE h
          refine RR.gPN (c2 := (KO.1 11).1 = 1) (pc' := 33) (lc' := [(0, .ref 5), (1, .int v1), (2, .int v2)]) (st' := [.int (rI S 11 v1.toNatClampNeg)]) (S1 := S) (nL := 7) (cd := cd_810) mx_810 rfl rfl rfl rfl g ?_
          refine RR.runs (pc' := 38) (lc' := [(0, .ref 5), (1, .int v1), (2, .int v2)]) (st' := [.int v2, .ref 11, .int (rI S 11 v1.toNatClampNeg)]) (S1 := S) (nL := 7) (cd := cd_810) mx_810 rfl rfl 3 rfl ?_
          obtain ⟨g, h⟩ := gnE h
          refine RR.gPN (c2 := (KO.1 11).1 = 1) (pc' := 39) (lc' := [(0, .ref 5), (1, .int v1), (2, .int v2)]) (st' := [.int (rI S 11 v2.toNatClampNeg), .int (rI S 11 v1.toNatClampNeg)]) (S1 := S) (nL := 7) (cd := cd_810) mx_810 rfl rfl rfl rfl g ?_
          refine RR.runs (pc' := 41) (lc' := [(3, .int (((rI S 11 v1.toNatClampNeg) + (rI S 11 v2.toNatClampNeg)))), (0, .ref 5), (1, .int v1), (2, .int v2)]) (st' := []) (S1 := S) (nL := 7) (cd := cd_810) mx_810 rfl rfl 2 rfl ?_
          obtain ⟨x1, ex1, h⟩ := ltE h
          rw [← ex1]
          refine RR.runs (pc' := 47) (lc' := [(4, .int ((x1 / (64 : Int32)))), (3, .int x1), (0, .ref 5), (1, .int v1), (2, .int v2)]) (st' := []) (S1 := S) (nL := 7) (cd := cd_810) mx_810 rfl rfl 4 rfl ?_
          obtain ⟨x2, ex2, h⟩ := ltE h
          rw [← ex2]
          refine RR.runs (pc' := 55) (lc' := [(5, .long (((1 : Int64) <<< ((x1 - x1 / (64 : Int32) * (64 : Int32)).toInt64 &&& 63)))), (4, .int x2), (3, .int x1), (0, .ref 5), (1, .int v1), (2, .int v2)]) (st' := []) (S1 := S) (nL := 7) (cd := cd_810) mx_810 rfl rfl 6 rfl ?_
          obtain ⟨x3, ex3, h⟩ := ltE h
          rw [← ex3]
          refine RR.runs (pc' := icm .ge x2 (923 : Int32) 114 65) (lc' := [(5, .long x3), (4, .int x2), (3, .int x1), (0, .ref 5), (1, .int v1), (2, .int v2)]) (st' := []) (S1 := S) (nL := 7) (cd := cd_810) mx_810 rfl rfl 5 rfl ?_
          rcases ifE h with ⟨c, h⟩ | ⟨c, h⟩
          · refine RR.c_ge (fun _ => ?_) (fun q => absurd c q)
            refine RR.runs (pc' := 71) (lc' := [(5, .long x3), (4, .int x2), (3, .int x1), (0, .ref 5), (1, .int v1), (2, .int v2)]) (st' := [qv (rQ S 5 8), .int x2]) (S1 := S) (nL := 7) (cd := cd_810) mx_810 rfl rfl 3 rfl ?_
            rcases oqE h with ⟨e1, h⟩ | ⟨o4, eo4, h⟩
            · cases h
            rw [eo4]
            obtain ⟨g, h⟩ := gpE h
            refine RR.gP (pc' := 72) (lc' := [(5, .long x3), (4, .int x2), (3, .int x1), (0, .ref 5), (1, .int v1), (2, .int v2)]) (st' := [.int ((Int32.ofNat (KO.1 o4).2)), .int x2]) (S1 := S) (nL := 7) (cd := cd_810) mx_810 rfl rfl rfl g ?_
            refine RR.runs (pc' := icm .ge x2 ((Int32.ofNat (KO.1 o4).2)) 114 75) (lc' := [(5, .long x3), (4, .int x2), (3, .int x1), (0, .ref 5), (1, .int v1), (2, .int v2)]) (st' := []) (S1 := S) (nL := 7) (cd := cd_810) mx_810 rfl rfl 1 rfl ?_
            rcases ifE h with ⟨c, h⟩ | ⟨c, h⟩
            · refine RR.c_ge (fun _ => ?_) (fun q => absurd c q)
              refine RR.runs (pc' := 81) (lc' := [(5, .long x3), (4, .int x2), (3, .int x1), (0, .ref 5), (1, .int v1), (2, .int v2)]) (st' := [.int x2, .ref 12]) (S1 := S) (nL := 7) (cd := cd_810) mx_810 rfl rfl 3 rfl ?_
              obtain ⟨g, h⟩ := gnE h
              refine RR.gPN (c2 := (KO.1 12).1 = 4) (pc' := 82) (lc' := [(5, .long x3), (4, .int x2), (3, .int x1), (0, .ref 5), (1, .int v1), (2, .int v2)]) (st' := [.long (rJ S 12 x2.toNatClampNeg)]) (S1 := S) (nL := 7) (cd := cd_810) mx_810 rfl rfl rfl rfl g ?_
              refine RR.runs (pc' := icm .ne ((lg_cmp (((rJ S 12 x2.toNatClampNeg) &&& x3)) (0 : Int64))) 0 114 90) (lc' := [(5, .long x3), (4, .int x2), (3, .int x1), (0, .ref 5), (1, .int v1), (2, .int v2)]) (st' := []) (S1 := S) (nL := 7) (cd := cd_810) mx_810 rfl rfl 5 rfl ?_
              rcases ifE h with ⟨c, h⟩ | ⟨c, h⟩
              · refine RR.c_ne (fun _ => ?_) (fun q => absurd c q)
                refine RR.runs (pc' := 97) (lc' := [(5, .long x3), (4, .int x2), (3, .int x1), (0, .ref 5), (1, .int v1), (2, .int v2)]) (st' := [.int x2, .ref 12, .int x2, .ref 12]) (S1 := S) (nL := 7) (cd := cd_810) mx_810 rfl rfl 4 rfl ?_
                obtain ⟨g, h⟩ := gnE h
                refine RR.gPN (c2 := (KO.1 12).1 = 4) (pc' := 98) (lc' := [(5, .long x3), (4, .int x2), (3, .int x1), (0, .ref 5), (1, .int v1), (2, .int v2)]) (st' := [.long (rJ S 12 x2.toNatClampNeg), .int x2, .ref 12]) (S1 := S) (nL := 7) (cd := cd_810) mx_810 rfl rfl rfl rfl g ?_
                refine RR.runs (pc' := 101) (lc' := [(5, .long x3), (4, .int x2), (3, .int x1), (0, .ref 5), (1, .int v1), (2, .int v2)]) (st' := [.long (((rJ S 12 x2.toNatClampNeg) ||| x3)), .int x2, .ref 12]) (S1 := S) (nL := 7) (cd := cd_810) mx_810 rfl rfl 2 rfl ?_
                obtain ⟨g, h⟩ := gnE h
                refine RR.gPN (c2 := (KO.1 12).1 = 4) (pc' := 102) (lc' := [(5, .long x3), (4, .int x2), (3, .int x1), (0, .ref 5), (1, .int v1), (2, .int v2)]) (st' := []) (S1 := (wJ S 12 x2.toNatClampNeg (((rJ S 12 x2.toNatClampNeg) ||| x3)))) (nL := 7) (cd := cd_810) mx_810 rfl rfl rfl rfl g ?_
                obtain ⟨S5, eS5, h⟩ := ltE h
                rw [← eS5]
                refine RR.runs (pc' := 106) (lc' := [(5, .long x3), (4, .int x2), (3, .int x1), (0, .ref 5), (1, .int v1), (2, .int v2)]) (st' := [qv (rQ S5 5 8)]) (S1 := S5) (nL := 7) (cd := cd_810) mx_810 rfl rfl 2 rfl ?_
                rcases oqE h with ⟨e1, h⟩ | ⟨o6, eo6, h⟩
                · cases h
                rw [eo6]
                refine RR.runs (pc' := 109) (lc' := [(5, .long x3), (4, .int x2), (3, .int x1), (0, .ref 5), (1, .int v1), (2, .int v2)]) (st' := [.int x2, .ref o6, .int x2, .ref o6]) (S1 := S5) (nL := 7) (cd := cd_810) mx_810 rfl rfl 2 rfl ?_
                obtain ⟨gq, h⟩ := gpE h
                obtain ⟨g, h⟩ := gnE h
                refine RR.gPN (c2 := (KO.1 o6).1 = 4) (pc' := 110) (lc' := [(5, .long x3), (4, .int x2), (3, .int x1), (0, .ref 5), (1, .int v1), (2, .int v2)]) (st' := [.long (rJ S5 o6 x2.toNatClampNeg), .int x2, .ref o6]) (S1 := S5) (nL := 7) (cd := cd_810) mx_810 rfl rfl rfl gq g ?_
                refine RR.runs (pc' := 113) (lc' := [(5, .long x3), (4, .int x2), (3, .int x1), (0, .ref 5), (1, .int v1), (2, .int v2)]) (st' := [.long (((rJ S5 o6 x2.toNatClampNeg) ||| x3)), .int x2, .ref o6]) (S1 := S5) (nL := 7) (cd := cd_810) mx_810 rfl rfl 2 rfl ?_
                obtain ⟨gq, h⟩ := gpE h
                obtain ⟨g, h⟩ := gnE h
                refine RR.gPN (c2 := (KO.1 o6).1 = 4) (pc' := 114) (lc' := [(5, .long x3), (4, .int x2), (3, .int x1), (0, .ref 5), (1, .int v1), (2, .int v2)]) (st' := []) (S1 := (wJ S5 o6 x2.toNatClampNeg (((rJ S5 o6 x2.toNatClampNeg) ||| x3)))) (nL := 7) (cd := cd_810) mx_810 rfl rfl rfl gq g ?_
                obtain ⟨S7, eS7, h⟩ := ltE h
                rw [← eS7]
                refine RR.weak [] trivial ?_
                exact s_o_se_meet_114 _ h
              · refine RR.c_ne (fun q => absurd q c) (fun _ => ?_)
                refine RR.weak [] trivial ?_
                exact s_o_se_meet_114 _ h
            · refine RR.c_ge (fun q => absurd q c) (fun _ => ?_)
              refine RR.weak [] trivial ?_
              exact s_o_se_meet_114 _ h
          · refine RR.c_ge (fun q => absurd q c) (fun _ => ?_)
            refine RR.weak [] trivial ?_
            exact s_o_se_meet_114 _ h
        · refine RR.c_lt (fun q => absurd q c) (fun _ => ?_)
          refine RR.weak [] trivial ?_
          exact s_o_se_meet_26 _ h
    · refine RR.c_ge (fun q => absurd q c) (fun _ => ?_)
      refine RR.weak [] trivial ?_
      exact s_o_se_meet_26 _ h
theorem s_o_se_meet {d : Nat} {S' : St} {r : Unit} (v1 : Int32) (v2 : Int32) (S : St) (h : o_se_meet v1 v2 S = some (r, S')) : RC KO (d + 0) 810 [.ref 5, .int v1, .int v2] S none S' := RC.of rfl (s0_o_se_meet v1 v2 S h)
-- NameOrchard$Search digits (II)I
def o_se_digits_30 (k7 : Int32 → Int32 → Int32 → Int32 → St → Re Int32) (v1 : Int32) (v3 : Int32) (v4 : Int32) (p0 : Int32) (p1 : Int32) (S : St) : Re Int32 :=
  lt' ((p1 ||| p0) : Int32) fun x1 =>
  lt' ((v3 / (3 : Int32)) : Int32) fun x2 =>
  lt' ((v4 + (1 : Int32)) : Int32) fun x3 =>
  k7 v1 x1 x2 x3 S
set_option maxRecDepth 100000 in
theorem s_o_se_digits_30 {d : Nat} (k7 : Int32 → Int32 → Int32 → Int32 → St → Re Int32) {S' : St} {r : Int32} (b7 : ∀ (v1 : Int32) (v2 : Int32) (v3 : Int32) (v4 : Int32) (S : St), k7 v1 v2 v3 v4 S = some (r, S') → RR KO (d + 0) 811 7 [(1, .int v1), (2, .int v2), (3, .int v3), (4, .int v4)] [] S (some (.int r)) S') (v1 : Int32) (v3 : Int32) (v4 : Int32) (p0 : Int32) (p1 : Int32) (S : St) (h : o_se_digits_30 k7 v1 v3 v4 p0 p1 S = some (r, S')) : RR KO (d + 0) 811 30 [(1, .int v1), (3, .int v3), (4, .int v4)] [.int p0, .int p1] S (some (.int r)) S' := by
  unfold o_se_digits_30 at h
  refine RR.runs (pc' := 32) (lc' := [(2, .int (p1 ||| p0)), (1, .int v1), (3, .int v3), (4, .int v4)]) (st' := []) (S1 := S) (nL := 5) (cd := cd_811) mx_811 rfl rfl 2 rfl ?_
  obtain ⟨x1, ex1, h⟩ := ltE h
  rw [← ex1]
  refine RR.runs (pc' := 36) (lc' := [(3, .int ((v3 / (3 : Int32)))), (2, .int x1), (1, .int v1), (4, .int v4)]) (st' := []) (S1 := S) (nL := 5) (cd := cd_811) mx_811 rfl rfl 4 rfl ?_
  obtain ⟨x2, ex2, h⟩ := ltE h
  rw [← ex2]
  refine RR.runs (pc' := 39) (lc' := [(4, .int ((v4 + (1 : Int32)))), (3, .int x2), (2, .int x1), (1, .int v1)]) (st' := []) (S1 := S) (nL := 5) (cd := cd_811) mx_811 rfl rfl 1 rfl ?_
  obtain ⟨x3, ex3, h⟩ := ltE h
  rw [← ex3]
  refine RR.runs (pc' := 7) (lc' := [(4, .int x3), (3, .int x2), (2, .int x1), (1, .int v1)]) (st' := []) (S1 := S) (nL := 5) (cd := cd_811) mx_811 rfl rfl 1 rfl ?_
  refine RR.weak [(1, .int v1), (2, .int x1), (3, .int x2), (4, .int x3)] ⟨rfl, rfl, rfl, rfl, trivial⟩ ?_
  exact b7 _ _ _ _ _ h
def o_se_digits_42 (v2 : Int32) (S : St) : Re Int32 :=
  some (v2, S)
set_option maxRecDepth 100000 in
theorem s_o_se_digits_42 {d : Nat} {S' : St} {r : Int32} (v2 : Int32) (S : St) (h : o_se_digits_42 v2 S = some (r, S')) : RR KO (d + 0) 811 42 [(2, .int v2)] [] S (some (.int r)) S' := by
  unfold o_se_digits_42 at h
  refine RR.runs (pc' := 43) (lc' := [(2, .int v2)]) (st' := [.int v2]) (S1 := S) (nL := 5) (cd := cd_811) mx_811 rfl rfl 1 rfl ?_
  cases h
  exact RR.reti mx_811 rfl rfl rfl
def o_se_digits_7 : Nat → Int32 → Int32 → Int32 → Int32 → St → Re Int32
  | 0, _, _, _, _, _ => none
  | n + 1, v1, v2, v3, v4, S =>
  if v4 < (10 : Int32) then (
    if (v3 - v3 / (3 : Int32) * (3 : Int32)) = v1 then (
      o_se_digits_30 (o_se_digits_7 n) v1 v3 v4 (((1 : Int32) <<< (v4 &&& 31))) v2 S)
    else (
      o_se_digits_30 (o_se_digits_7 n) v1 v3 v4 (0 : Int32) v2 S))
  else (
    o_se_digits_42 v2 S)
set_option maxRecDepth 100000 in
theorem s_o_se_digits_7 {d : Nat} {S' : St} {r : Int32} : ∀ (n : Nat) (v1 : Int32) (v2 : Int32) (v3 : Int32) (v4 : Int32) (S : St), o_se_digits_7 n v1 v2 v3 v4 S = some (r, S') → RR KO (d + 0) 811 7 [(1, .int v1), (2, .int v2), (3, .int v3), (4, .int v4)] [] S (some (.int r)) S' := by
  intro n
  induction n with
  | zero => intro v1 v2 v3 v4 S h; simp only [o_se_digits_7] at h; cases h
  | succ n ih =>
    intro v1 v2 v3 v4 S h
    simp only [o_se_digits_7] at h
    refine RR.runs (pc' := icm .ge v4 (10 : Int32) 42 14) (lc' := [(1, .int v1), (2, .int v2), (3, .int v3), (4, .int v4)]) (st' := []) (S1 := S) (nL := 5) (cd := cd_811) mx_811 rfl rfl 3 rfl ?_
    rcases ifE h with ⟨c, h⟩ | ⟨c, h⟩
    · refine RR.c_ge (fun _ => ?_) (fun q => absurd c q)
      refine RR.runs (pc' := icm .ne ((v3 - v3 / (3 : Int32) * (3 : Int32))) v1 29 22) (lc' := [(1, .int v1), (2, .int v2), (3, .int v3), (4, .int v4)]) (st' := [.int v2]) (S1 := S) (nL := 5) (cd := cd_811) mx_811 rfl rfl 6 rfl ?_
      rcases ifE h with ⟨c, h⟩ | ⟨c, h⟩
      · refine RR.c_ne (fun _ => ?_) (fun q => absurd c q)
        refine RR.runs (pc' := 30) (lc' := [(1, .int v1), (2, .int v2), (3, .int v3), (4, .int v4)]) (st' := [.int (((1 : Int32) <<< (v4 &&& 31))), .int v2]) (S1 := S) (nL := 5) (cd := cd_811) mx_811 rfl rfl 4 rfl ?_
        refine RR.weak [(1, .int v1), (3, .int v3), (4, .int v4)] ⟨rfl, rfl, rfl, trivial⟩ ?_
        exact s_o_se_digits_30 _ (fun _ _ _ _ S h => ih _ _ _ _ S h) _ _ _ _ _ _ h
      · refine RR.c_ne (fun q => absurd q c) (fun _ => ?_)
        refine RR.runs (pc' := 30) (lc' := [(1, .int v1), (2, .int v2), (3, .int v3), (4, .int v4)]) (st' := [.int (0 : Int32), .int v2]) (S1 := S) (nL := 5) (cd := cd_811) mx_811 rfl rfl 1 rfl ?_
        refine RR.weak [(1, .int v1), (3, .int v3), (4, .int v4)] ⟨rfl, rfl, rfl, trivial⟩ ?_
        exact s_o_se_digits_30 _ (fun _ _ _ _ S h => ih _ _ _ _ S h) _ _ _ _ _ _ h
    · refine RR.c_ge (fun q => absurd q c) (fun _ => ?_)
      refine RR.weak [(2, .int v2)] ⟨rfl, trivial⟩ ?_
      exact s_o_se_digits_42 _ _ h
def o_se_digits (v0 : Int32) (v1 : Int32) (S : St) : Re Int32 :=
  o_se_digits_7 FU v1 (0 : Int32) v0 (0 : Int32) S
set_option maxRecDepth 100000 in
theorem s0_o_se_digits {d : Nat} {S' : St} {r : Int32} (v0 : Int32) (v1 : Int32) (S : St) (h : o_se_digits v0 v1 S = some (r, S')) : RR KO (d + 0) 811 0 [(0, .int v0), (1, .int v1)] [] S (some (.int r)) S' := by
  unfold o_se_digits at h
  refine RR.runs (pc' := 7) (lc' := [(4, .int (0 : Int32)), (3, .int v0), (2, .int (0 : Int32)), (0, .int v0), (1, .int v1)]) (st' := []) (S1 := S) (nL := 5) (cd := cd_811) mx_811 rfl rfl 6 rfl ?_
  refine RR.weak [(1, .int v1), (2, .int (0 : Int32)), (3, .int v0), (4, .int (0 : Int32))] ⟨rfl, rfl, rfl, rfl, trivial⟩ ?_
  exact s_o_se_digits_7 _ _ _ _ _ _ h
theorem s_o_se_digits {d : Nat} {S' : St} {r : Int32} (v0 : Int32) (v1 : Int32) (S : St) (h : o_se_digits v0 v1 S = some (r, S')) : RC KO (d + 0) 811 [.int v0, .int v1] S (some (.int r)) S' := RC.of rfl (s0_o_se_digits v0 v1 S h)
-- NameOrchard$Search fellsAll (LNameOrchard$Told;I)Z
def o_se_fellsAll_67 (S : St) : Re Int32 :=
  some ((1 : Int32), S)
set_option maxRecDepth 100000 in
theorem s_o_se_fellsAll_67 {d : Nat} {S' : St} {r : Int32} (S : St) (h : o_se_fellsAll_67 S = some (r, S')) : RR KO (d + 1) 809 67 [] [] S (some (.int r)) S' := by
  unfold o_se_fellsAll_67 at h
  refine RR.runs (pc' := 68) (lc' := []) (st' := [.int (1 : Int32)]) (S1 := S) (nL := 7) (cd := cd_809) mx_809 rfl rfl 1 rfl ?_
  cases h
  exact RR.retz mx_809 rfl rfl rfl rfl
def o_se_fellsAll_93 (S : St) : Re Int32 :=
  some ((0 : Int32), S)
set_option maxRecDepth 100000 in
theorem s_o_se_fellsAll_93 {d : Nat} {S' : St} {r : Int32} (S : St) (h : o_se_fellsAll_93 S = some (r, S')) : RR KO (d + 1) 809 93 [] [] S (some (.int r)) S' := by
  unfold o_se_fellsAll_93 at h
  refine RR.runs (pc' := 94) (lc' := []) (st' := [.int (0 : Int32)]) (S1 := S) (nL := 7) (cd := cd_809) mx_809 rfl rfl 1 rfl ?_
  cases h
  exact RR.retz mx_809 rfl rfl rfl rfl
def o_se_fellsAll_18 : Nat → Nat → Int32 → Int32 → Int32 → St → Re Int32
  | 0, _, _, _, _, _ => none
  | n + 1, v1, v3, v4, v5, S =>
  if v5 < (rI S 5 9) then (
    if v5 < (80 : Int32) then (
      if v5 < 0 ∨ 80 ≤ v5.toNatClampNeg then none else
      if v5 < 0 ∨ 80 ≤ v5.toNatClampNeg then none else
      if KO.1 v1 = (0, 10) then (
bn (o_to_felled v1 v4 v3 (rI S 6 v5.toNatClampNeg) (rI S 7 v5.toNatClampNeg) S) fun r2 S3 =>
      lt' ((v4 &&& (r2 ^^^ (-1 : Int32))) : Int32) fun x4 =>
      if x4 = 0 then (
        o_se_fellsAll_67 S3)
      else (
        if v5 < 0 ∨ 80 ≤ v5.toNatClampNeg then none else
        bn (o_se_meet x4 (((v3 ||| (rI S3 7 v5.toNatClampNeg)) &&& x4)) S3) fun r5 S6 =>
        lt' ((v5 + (1 : Int32)) : Int32) fun x7 =>
        o_se_fellsAll_18 n v1 v3 v4 x7 S6)) else none)
    else (
      o_se_fellsAll_93 S))
  else (
    o_se_fellsAll_93 S)
set_option maxRecDepth 100000 in
theorem s_o_se_fellsAll_18 {d : Nat} {S' : St} {r : Int32} : ∀ (n : Nat) (v1 : Nat) (v3 : Int32) (v4 : Int32) (v5 : Int32) (S : St), o_se_fellsAll_18 n v1 v3 v4 v5 S = some (r, S') → RR KO (d + 1) 809 18 [(0, .ref 5), (1, .ref v1), (3, .int v3), (4, .int v4), (5, .int v5)] [] S (some (.int r)) S' := by
  intro n
  induction n with
  | zero => intro v1 v3 v4 v5 S h; simp only [o_se_fellsAll_18] at h; cases h
  | succ n ih =>
    intro v1 v3 v4 v5 S h
    simp only [o_se_fellsAll_18] at h
    refine RR.runs (pc' := icm .ge v5 (rI S 5 9) 93 27) (lc' := [(0, .ref 5), (1, .ref v1), (3, .int v3), (4, .int v4), (5, .int v5)]) (st' := []) (S1 := S) (nL := 7) (cd := cd_809) mx_809 rfl rfl 4 rfl ?_
    rcases ifE h with ⟨c, h⟩ | ⟨c, h⟩
    · refine RR.c_ge (fun _ => ?_) (fun q => absurd c q)
      refine RR.runs (pc' := icm .ge v5 (80 : Int32) 93 34) (lc' := [(0, .ref 5), (1, .ref v1), (3, .int v3), (4, .int v4), (5, .int v5)]) (st' := []) (S1 := S) (nL := 7) (cd := cd_809) mx_809 rfl rfl 3 rfl ?_
      rcases ifE h with ⟨c, h⟩ | ⟨c, h⟩
      · refine RR.c_ge (fun _ => ?_) (fun q => absurd c q)
        refine RR.runs (pc' := 46) (lc' := [(0, .ref 5), (1, .ref v1), (3, .int v3), (4, .int v4), (5, .int v5)]) (st' := [.int v5, .ref 6, .int v3, .int v4, .ref v1, .int v4]) (S1 := S) (nL := 7) (cd := cd_809) mx_809 rfl rfl 7 rfl ?_
        obtain ⟨g, h⟩ := gnE h
        refine RR.gPN (c2 := (KO.1 6).1 = 1) (pc' := 47) (lc' := [(0, .ref 5), (1, .ref v1), (3, .int v3), (4, .int v4), (5, .int v5)]) (st' := [.int (rI S 6 v5.toNatClampNeg), .int v3, .int v4, .ref v1, .int v4]) (S1 := S) (nL := 7) (cd := cd_809) mx_809 rfl rfl rfl rfl g ?_
        refine RR.runs (pc' := 53) (lc' := [(0, .ref 5), (1, .ref v1), (3, .int v3), (4, .int v4), (5, .int v5)]) (st' := [.int v5, .ref 7, .int (rI S 6 v5.toNatClampNeg), .int v3, .int v4, .ref v1, .int v4]) (S1 := S) (nL := 7) (cd := cd_809) mx_809 rfl rfl 3 rfl ?_
        obtain ⟨g, h⟩ := gnE h
        refine RR.gPN (c2 := (KO.1 7).1 = 1) (pc' := 54) (lc' := [(0, .ref 5), (1, .ref v1), (3, .int v3), (4, .int v4), (5, .int v5)]) (st' := [.int (rI S 7 v5.toNatClampNeg), .int (rI S 6 v5.toNatClampNeg), .int v3, .int v4, .ref v1, .int v4]) (S1 := S) (nL := 7) (cd := cd_809) mx_809 rfl rfl rfl rfl g ?_
        obtain ⟨g1, h⟩ := gpE h
        obtain ⟨r2, S3, h1, h⟩ := bnE h
        refine RR.callV (b := v1) (as := [.int v4, .int v3, .int (rI S 6 v5.toNatClampNeg), .int (rI S 7 v5.toNatClampNeg)]) (rest := [.int v4]) (r1 := (some (.int r2))) (S1 := S3) mx_809 rfl rfl mx_2019 rfl rfl (by decide) (Or.inl g1) (Nat.le_of_ble_eq_true rfl) (Nat.le_of_ble_eq_true rfl) (RC.deep (by omega) (s_o_to_felled (d := d) _ _ _ _ _ _ h1)) ?_
        show RR KO _ 809 57 [(0, .ref 5), (1, .ref v1), (3, .int v3), (4, .int v4), (5, .int v5)] [.int r2, .int v4] S3 _ _
        refine RR.runs (pc' := 62) (lc' := [(6, .int ((v4 &&& (r2 ^^^ (-1 : Int32))))), (0, .ref 5), (1, .ref v1), (3, .int v3), (4, .int v4), (5, .int v5)]) (st' := []) (S1 := S3) (nL := 7) (cd := cd_809) mx_809 rfl rfl 4 rfl ?_
        obtain ⟨x4, ex4, h⟩ := ltE h
        rw [← ex4]
        refine RR.runs (pc' := icm .ne x4 0 69 67) (lc' := [(6, .int x4), (0, .ref 5), (1, .ref v1), (3, .int v3), (4, .int v4), (5, .int v5)]) (st' := []) (S1 := S3) (nL := 7) (cd := cd_809) mx_809 rfl rfl 2 rfl ?_
        rcases ifE h with ⟨c, h⟩ | ⟨c, h⟩
        · refine RR.c_ne (fun _ => ?_) (fun q => absurd c q)
          refine RR.weak [] trivial ?_
          exact s_o_se_fellsAll_67 _ h
        · refine RR.c_ne (fun q => absurd q c) (fun _ => ?_)
          refine RR.runs (pc' := 79) (lc' := [(6, .int x4), (0, .ref 5), (1, .ref v1), (3, .int v3), (4, .int v4), (5, .int v5)]) (st' := [.int v5, .ref 7, .int v3, .int x4, .ref 5]) (S1 := S3) (nL := 7) (cd := cd_809) mx_809 rfl rfl 6 rfl ?_
          obtain ⟨g, h⟩ := gnE h
          refine RR.gPN (c2 := (KO.1 7).1 = 1) (pc' := 80) (lc' := [(6, .int x4), (0, .ref 5), (1, .ref v1), (3, .int v3), (4, .int v4), (5, .int v5)]) (st' := [.int (rI S3 7 v5.toNatClampNeg), .int v3, .int x4, .ref 5]) (S1 := S3) (nL := 7) (cd := cd_809) mx_809 rfl rfl rfl rfl g ?_
          refine RR.runs (pc' := 84) (lc' := [(6, .int x4), (0, .ref 5), (1, .ref v1), (3, .int v3), (4, .int v4), (5, .int v5)]) (st' := [.int (((v3 ||| (rI S3 7 v5.toNatClampNeg)) &&& x4)), .int x4, .ref 5]) (S1 := S3) (nL := 7) (cd := cd_809) mx_809 rfl rfl 3 rfl ?_
          obtain ⟨r5, S6, h1, h⟩ := bnE h
          refine RR.callV (b := 5) (as := [.int x4, .int (((v3 ||| (rI S3 7 v5.toNatClampNeg)) &&& x4))]) (rest := []) (r1 := none) (S1 := S6) mx_809 rfl rfl mx_810 rfl rfl (by decide) (Or.inl rfl) (Nat.le_of_ble_eq_true rfl) (Nat.le_of_ble_eq_true rfl) (RC.deep (by omega) (s_o_se_meet (d := d) _ _ _ h1)) ?_
          show RR KO _ 809 87 [(6, .int x4), (0, .ref 5), (1, .ref v1), (3, .int v3), (4, .int v4), (5, .int v5)] [] S6 _ _
          refine RR.runs (pc' := 90) (lc' := [(5, .int ((v5 + (1 : Int32)))), (6, .int x4), (0, .ref 5), (1, .ref v1), (3, .int v3), (4, .int v4)]) (st' := []) (S1 := S6) (nL := 7) (cd := cd_809) mx_809 rfl rfl 1 rfl ?_
          obtain ⟨x7, ex7, h⟩ := ltE h
          rw [← ex7]
          refine RR.runs (pc' := 18) (lc' := [(5, .int x7), (6, .int x4), (0, .ref 5), (1, .ref v1), (3, .int v3), (4, .int v4)]) (st' := []) (S1 := S6) (nL := 7) (cd := cd_809) mx_809 rfl rfl 1 rfl ?_
          refine RR.weak [(0, .ref 5), (1, .ref v1), (3, .int v3), (4, .int v4), (5, .int x7)] ⟨rfl, rfl, rfl, rfl, rfl, trivial⟩ ?_
          exact ih _ _ _ _ _ h
      · refine RR.c_ge (fun q => absurd q c) (fun _ => ?_)
        refine RR.weak [] trivial ?_
        exact s_o_se_fellsAll_93 _ h
    · refine RR.c_ge (fun q => absurd q c) (fun _ => ?_)
      refine RR.weak [] trivial ?_
      exact s_o_se_fellsAll_93 _ h
def o_se_fellsAll (v1 : Nat) (v2 : Int32) (S : St) : Re Int32 :=
  bn (o_se_digits v2 (2 : Int32) S) fun r1 S2 =>
  bn (o_se_digits v2 (1 : Int32) S2) fun r3 S4 =>
  lt' ((r1 ||| r3) : Int32) fun x5 =>
  o_se_fellsAll_18 FU v1 r1 x5 (0 : Int32) S4
set_option maxRecDepth 100000 in
theorem s0_o_se_fellsAll {d : Nat} {S' : St} {r : Int32} (v1 : Nat) (v2 : Int32) (S : St) (h : o_se_fellsAll v1 v2 S = some (r, S')) : RR KO (d + 1) 809 0 [(0, .ref 5), (1, .ref v1), (2, .int v2)] [] S (some (.int r)) S' := by
  unfold o_se_fellsAll at h
  refine RR.runs (pc' := 2) (lc' := [(0, .ref 5), (1, .ref v1), (2, .int v2)]) (st' := [.int (2 : Int32), .int v2]) (S1 := S) (nL := 7) (cd := cd_809) mx_809 rfl rfl 2 rfl ?_
  obtain ⟨r1, S2, h1, h⟩ := bnE h
  refine RR.callS (as := [.int v2, .int (2 : Int32)]) (rest := []) (r1 := (some (.int r1))) (S1 := S2) mx_809 rfl rfl mx_811 rfl rfl (by decide) (Nat.le_of_ble_eq_true rfl) (Nat.le_of_ble_eq_true rfl) (Nat.le_of_ble_eq_true rfl) (RC.deep (by omega) (s_o_se_digits (d := d) _ _ _ h1)) ?_
  show RR KO _ 809 5 [(0, .ref 5), (1, .ref v1), (2, .int v2)] [.int r1] S2 _ _
  refine RR.runs (pc' := 9) (lc' := [(3, .int r1), (0, .ref 5), (1, .ref v1), (2, .int v2)]) (st' := [.int (1 : Int32), .int v2, .int r1]) (S1 := S2) (nL := 7) (cd := cd_809) mx_809 rfl rfl 4 rfl ?_
  obtain ⟨r3, S4, h1, h⟩ := bnE h
  refine RR.callS (as := [.int v2, .int (1 : Int32)]) (rest := [.int r1]) (r1 := (some (.int r3))) (S1 := S4) mx_809 rfl rfl mx_811 rfl rfl (by decide) (Nat.le_of_ble_eq_true rfl) (Nat.le_of_ble_eq_true rfl) (Nat.le_of_ble_eq_true rfl) (RC.deep (by omega) (s_o_se_digits (d := d) _ _ _ h1)) ?_
  show RR KO _ 809 12 [(3, .int r1), (0, .ref 5), (1, .ref v1), (2, .int v2)] [.int r3, .int r1] S4 _ _
  refine RR.runs (pc' := 15) (lc' := [(4, .int (r1 ||| r3)), (3, .int r1), (0, .ref 5), (1, .ref v1), (2, .int v2)]) (st' := []) (S1 := S4) (nL := 7) (cd := cd_809) mx_809 rfl rfl 2 rfl ?_
  obtain ⟨x5, ex5, h⟩ := ltE h
  rw [← ex5]
  refine RR.runs (pc' := 18) (lc' := [(5, .int (0 : Int32)), (4, .int x5), (3, .int r1), (0, .ref 5), (1, .ref v1), (2, .int v2)]) (st' := []) (S1 := S4) (nL := 7) (cd := cd_809) mx_809 rfl rfl 2 rfl ?_
  refine RR.weak [(0, .ref 5), (1, .ref v1), (3, .int r1), (4, .int x5), (5, .int (0 : Int32))] ⟨rfl, rfl, rfl, rfl, rfl, trivial⟩ ?_
  exact s_o_se_fellsAll_18 _ _ _ _ _ _ h
theorem s_o_se_fellsAll {d : Nat} {S' : St} {r : Int32} (v1 : Nat) (v2 : Int32) (S : St) (h : o_se_fellsAll v1 v2 S = some (r, S')) : RC KO (d + 1) 809 [.ref 5, .ref v1, .int v2] S (some (.int r)) S' := RC.of rfl (s0_o_se_fellsAll v1 v2 S h)
-- NameOrchard$Search spread (LNameOrchard$Told;)Z
def o_se_spread_69 (k2 : Nat → Int32 → St → Re Int32) (v1 : Nat) (v2 : Int32) (S : St) : Re Int32 :=
  lt' ((v2 + (1 : Int32)) : Int32) fun x1 =>
  k2 v1 x1 S
set_option maxRecDepth 100000 in
theorem s_o_se_spread_69 {d : Nat} (k2 : Nat → Int32 → St → Re Int32) {S' : St} {r : Int32} (b2 : ∀ (v1 : Nat) (v2 : Int32) (S : St), k2 v1 v2 S = some (r, S') → RR KO (d + 2) 808 2 [(0, .ref 5), (1, .ref v1), (2, .int v2)] [] S (some (.int r)) S') (v1 : Nat) (v2 : Int32) (S : St) (h : o_se_spread_69 k2 v1 v2 S = some (r, S')) : RR KO (d + 2) 808 69 [(0, .ref 5), (1, .ref v1), (2, .int v2)] [] S (some (.int r)) S' := by
  unfold o_se_spread_69 at h
  refine RR.runs (pc' := 72) (lc' := [(2, .int ((v2 + (1 : Int32)))), (0, .ref 5), (1, .ref v1)]) (st' := []) (S1 := S) (nL := 6) (cd := cd_808) mx_808 rfl rfl 1 rfl ?_
  obtain ⟨x1, ex1, h⟩ := ltE h
  rw [← ex1]
  refine RR.runs (pc' := 2) (lc' := [(2, .int x1), (0, .ref 5), (1, .ref v1)]) (st' := []) (S1 := S) (nL := 6) (cd := cd_808) mx_808 rfl rfl 1 rfl ?_
  refine RR.weak [(0, .ref 5), (1, .ref v1), (2, .int x1)] ⟨rfl, rfl, rfl, trivial⟩ ?_
  exact b2 _ _ _ h
def o_se_spread_59 (k21 : Nat → Int32 → Int64 → Int32 → St → Re Int32) (v1 : Nat) (v2 : Int32) (v3 : Int64) (v5 : Int32) (S : St) : Re Int32 :=
  lt' ((v3.toUInt64 >>> ((1 : Int32).toInt64.toUInt64 &&& Int64.toUInt64 63)).toInt64 : Int64) fun x1 =>
  lt' ((v5 + (1 : Int32)) : Int32) fun x2 =>
  k21 v1 v2 x1 x2 S
set_option maxRecDepth 100000 in
theorem s_o_se_spread_59 {d : Nat} (k21 : Nat → Int32 → Int64 → Int32 → St → Re Int32) {S' : St} {r : Int32} (b21 : ∀ (v1 : Nat) (v2 : Int32) (v3 : Int64) (v5 : Int32) (S : St), k21 v1 v2 v3 v5 S = some (r, S') → RR KO (d + 2) 808 21 [(0, .ref 5), (1, .ref v1), (2, .int v2), (3, .long v3), (5, .int v5)] [] S (some (.int r)) S') (v1 : Nat) (v2 : Int32) (v3 : Int64) (v5 : Int32) (S : St) (h : o_se_spread_59 k21 v1 v2 v3 v5 S = some (r, S')) : RR KO (d + 2) 808 59 [(0, .ref 5), (1, .ref v1), (2, .int v2), (3, .long v3), (5, .int v5)] [] S (some (.int r)) S' := by
  unfold o_se_spread_59 at h
  refine RR.runs (pc' := 63) (lc' := [(3, .long ((v3.toUInt64 >>> ((1 : Int32).toInt64.toUInt64 &&& Int64.toUInt64 63)).toInt64)), (0, .ref 5), (1, .ref v1), (2, .int v2), (5, .int v5)]) (st' := []) (S1 := S) (nL := 6) (cd := cd_808) mx_808 rfl rfl 4 rfl ?_
  obtain ⟨x1, ex1, h⟩ := ltE h
  rw [← ex1]
  refine RR.runs (pc' := 66) (lc' := [(5, .int ((v5 + (1 : Int32)))), (3, .long x1), (0, .ref 5), (1, .ref v1), (2, .int v2)]) (st' := []) (S1 := S) (nL := 6) (cd := cd_808) mx_808 rfl rfl 1 rfl ?_
  obtain ⟨x2, ex2, h⟩ := ltE h
  rw [← ex2]
  refine RR.runs (pc' := 21) (lc' := [(5, .int x2), (3, .long x1), (0, .ref 5), (1, .ref v1), (2, .int v2)]) (st' := []) (S1 := S) (nL := 6) (cd := cd_808) mx_808 rfl rfl 1 rfl ?_
  refine RR.weak [(0, .ref 5), (1, .ref v1), (2, .int v2), (3, .long x1), (5, .int x2)] ⟨rfl, rfl, rfl, rfl, rfl, trivial⟩ ?_
  exact b21 _ _ _ _ _ h
def o_se_spread_57 (S : St) : Re Int32 :=
  some ((1 : Int32), S)
set_option maxRecDepth 100000 in
theorem s_o_se_spread_57 {d : Nat} {S' : St} {r : Int32} (S : St) (h : o_se_spread_57 S = some (r, S')) : RR KO (d + 2) 808 57 [] [] S (some (.int r)) S' := by
  unfold o_se_spread_57 at h
  refine RR.runs (pc' := 58) (lc' := []) (st' := [.int (1 : Int32)]) (S1 := S) (nL := 6) (cd := cd_808) mx_808 rfl rfl 1 rfl ?_
  cases h
  exact RR.retz mx_808 rfl rfl rfl rfl
def o_se_spread_21 (k2 : Nat → Int32 → St → Re Int32) : Nat → Nat → Int32 → Int64 → Int32 → St → Re Int32
  | 0, _, _, _, _, _ => none
  | n + 1, v1, v2, v3, v5, S =>
  if v5 < (64 : Int32) then (
    if (lg_cmp v3 (0 : Int64)) = 0 then (
      o_se_spread_69 k2 v1 v2 S)
    else (
      if (lg_cmp ((v3 &&& (1 : Int64))) (0 : Int64)) = 0 then (
        o_se_spread_59 (o_se_spread_21 k2 n) v1 v2 v3 v5 S)
      else (
        bn (o_se_fellsAll v1 ((((64 : Int32) * v2) + v5)) S) fun r1 S2 =>
        if r1 = 0 then (
          o_se_spread_59 (o_se_spread_21 k2 n) v1 v2 v3 v5 S2)
        else (
          o_se_spread_57 S2))))
  else (
    o_se_spread_69 k2 v1 v2 S)
set_option maxRecDepth 100000 in
theorem s_o_se_spread_21 {d : Nat} (k2 : Nat → Int32 → St → Re Int32) {S' : St} {r : Int32} (b2 : ∀ (v1 : Nat) (v2 : Int32) (S : St), k2 v1 v2 S = some (r, S') → RR KO (d + 2) 808 2 [(0, .ref 5), (1, .ref v1), (2, .int v2)] [] S (some (.int r)) S') : ∀ (n : Nat) (v1 : Nat) (v2 : Int32) (v3 : Int64) (v5 : Int32) (S : St), o_se_spread_21 k2 n v1 v2 v3 v5 S = some (r, S') → RR KO (d + 2) 808 21 [(0, .ref 5), (1, .ref v1), (2, .int v2), (3, .long v3), (5, .int v5)] [] S (some (.int r)) S' := by
  intro n
  induction n with
  | zero => intro v1 v2 v3 v5 S h; simp only [o_se_spread_21] at h; cases h
  | succ n ih =>
    intro v1 v2 v3 v5 S h
    simp only [o_se_spread_21] at h
    refine RR.runs (pc' := icm .ge v5 (64 : Int32) 69 28) (lc' := [(0, .ref 5), (1, .ref v1), (2, .int v2), (3, .long v3), (5, .int v5)]) (st' := []) (S1 := S) (nL := 6) (cd := cd_808) mx_808 rfl rfl 3 rfl ?_
    rcases ifE h with ⟨c, h⟩ | ⟨c, h⟩
    · refine RR.c_ge (fun _ => ?_) (fun q => absurd c q)
      refine RR.runs (pc' := icm .eq ((lg_cmp v3 (0 : Int64))) 0 69 34) (lc' := [(0, .ref 5), (1, .ref v1), (2, .int v2), (3, .long v3), (5, .int v5)]) (st' := []) (S1 := S) (nL := 6) (cd := cd_808) mx_808 rfl rfl 4 rfl ?_
      rcases ifE h with ⟨c, h⟩ | ⟨c, h⟩
      · refine RR.c_eq (fun _ => ?_) (fun q => absurd c q)
        refine RR.weak [(0, .ref 5), (1, .ref v1), (2, .int v2)] ⟨rfl, rfl, rfl, trivial⟩ ?_
        exact s_o_se_spread_69 _ b2 _ _ _ h
      · refine RR.c_eq (fun q => absurd q c) (fun _ => ?_)
        refine RR.runs (pc' := icm .eq ((lg_cmp ((v3 &&& (1 : Int64))) (0 : Int64))) 0 59 42) (lc' := [(0, .ref 5), (1, .ref v1), (2, .int v2), (3, .long v3), (5, .int v5)]) (st' := []) (S1 := S) (nL := 6) (cd := cd_808) mx_808 rfl rfl 6 rfl ?_
        rcases ifE h with ⟨c, h⟩ | ⟨c, h⟩
        · refine RR.c_eq (fun _ => ?_) (fun q => absurd c q)
          refine RR.weak [(0, .ref 5), (1, .ref v1), (2, .int v2), (3, .long v3), (5, .int v5)] ⟨rfl, rfl, rfl, rfl, rfl, trivial⟩ ?_
          exact s_o_se_spread_59 _ (fun _ _ _ _ S h => ih _ _ _ _ S h) _ _ _ _ _ h
        · refine RR.c_eq (fun q => absurd q c) (fun _ => ?_)
          refine RR.runs (pc' := 51) (lc' := [(0, .ref 5), (1, .ref v1), (2, .int v2), (3, .long v3), (5, .int v5)]) (st' := [.int ((((64 : Int32) * v2) + v5)), .ref v1, .ref 5]) (S1 := S) (nL := 6) (cd := cd_808) mx_808 rfl rfl 7 rfl ?_
          obtain ⟨r1, S2, h1, h⟩ := bnE h
          refine RR.callV (b := 5) (as := [.ref v1, .int ((((64 : Int32) * v2) + v5))]) (rest := []) (r1 := (some (.int r1))) (S1 := S2) mx_808 rfl rfl mx_809 rfl rfl (by decide) (Or.inl rfl) (Nat.le_of_ble_eq_true rfl) (Nat.le_of_ble_eq_true rfl) (RC.deep (by omega) (s_o_se_fellsAll (d := d) _ _ _ h1)) ?_
          show RR KO _ 808 54 [(0, .ref 5), (1, .ref v1), (2, .int v2), (3, .long v3), (5, .int v5)] [.int r1] S2 _ _
          refine RR.runs (pc' := icm .eq r1 0 59 57) (lc' := [(0, .ref 5), (1, .ref v1), (2, .int v2), (3, .long v3), (5, .int v5)]) (st' := []) (S1 := S2) (nL := 6) (cd := cd_808) mx_808 rfl rfl 1 rfl ?_
          rcases ifE h with ⟨c, h⟩ | ⟨c, h⟩
          · refine RR.c_eq (fun _ => ?_) (fun q => absurd c q)
            refine RR.weak [(0, .ref 5), (1, .ref v1), (2, .int v2), (3, .long v3), (5, .int v5)] ⟨rfl, rfl, rfl, rfl, rfl, trivial⟩ ?_
            exact s_o_se_spread_59 _ (fun _ _ _ _ S h => ih _ _ _ _ S h) _ _ _ _ _ h
          · refine RR.c_eq (fun q => absurd q c) (fun _ => ?_)
            refine RR.weak [] trivial ?_
            exact s_o_se_spread_57 _ h
    · refine RR.c_ge (fun q => absurd q c) (fun _ => ?_)
      refine RR.weak [(0, .ref 5), (1, .ref v1), (2, .int v2)] ⟨rfl, rfl, rfl, trivial⟩ ?_
      exact s_o_se_spread_69 _ b2 _ _ _ h
def o_se_spread_75 (S : St) : Re Int32 :=
  some ((0 : Int32), S)
set_option maxRecDepth 100000 in
theorem s_o_se_spread_75 {d : Nat} {S' : St} {r : Int32} (S : St) (h : o_se_spread_75 S = some (r, S')) : RR KO (d + 2) 808 75 [] [] S (some (.int r)) S' := by
  unfold o_se_spread_75 at h
  refine RR.runs (pc' := 76) (lc' := []) (st' := [.int (0 : Int32)]) (S1 := S) (nL := 6) (cd := cd_808) mx_808 rfl rfl 1 rfl ?_
  cases h
  exact RR.retz mx_808 rfl rfl rfl rfl
def o_se_spread_2 : Nat → Nat → Int32 → St → Re Int32
  | 0, _, _, _ => none
  | n + 1, v1, v2, S =>
  oq (rQ S 5 7) none fun o1 =>
  if 1 ≤ (KO.1 o1).1 ∧ (KO.1 o1).1 < 8 then (
  if v2 < (Int32.ofNat (KO.1 o1).2) then (
    oq (rQ S 5 7) none fun o2 =>
    if (KO.1 o2).1 = 4 then (
    if v2 < 0 ∨ (KO.1 o2).2 ≤ v2.toNatClampNeg then none else
    lt' ((rJ S o2 v2.toNatClampNeg) : Int64) fun x3 =>
    o_se_spread_21 (o_se_spread_2 n) FU v1 v2 x3 (0 : Int32) S) else none)
  else (
    o_se_spread_75 S)) else none
set_option maxRecDepth 100000 in
theorem s_o_se_spread_2 {d : Nat} {S' : St} {r : Int32} : ∀ (n : Nat) (v1 : Nat) (v2 : Int32) (S : St), o_se_spread_2 n v1 v2 S = some (r, S') → RR KO (d + 2) 808 2 [(0, .ref 5), (1, .ref v1), (2, .int v2)] [] S (some (.int r)) S' := by
  intro n
  induction n with
  | zero => intro v1 v2 S h; simp only [o_se_spread_2] at h; cases h
  | succ n ih =>
    intro v1 v2 S h
    simp only [o_se_spread_2] at h
    refine RR.runs (pc' := 7) (lc' := [(0, .ref 5), (1, .ref v1), (2, .int v2)]) (st' := [qv (rQ S 5 7), .int v2]) (S1 := S) (nL := 6) (cd := cd_808) mx_808 rfl rfl 3 rfl ?_
    rcases oqE h with ⟨e1, h⟩ | ⟨o1, eo1, h⟩
    · cases h
    rw [eo1]
    obtain ⟨g, h⟩ := gpE h
    refine RR.gP (pc' := 8) (lc' := [(0, .ref 5), (1, .ref v1), (2, .int v2)]) (st' := [.int ((Int32.ofNat (KO.1 o1).2)), .int v2]) (S1 := S) (nL := 6) (cd := cd_808) mx_808 rfl rfl rfl g ?_
    refine RR.runs (pc' := icm .ge v2 ((Int32.ofNat (KO.1 o1).2)) 75 11) (lc' := [(0, .ref 5), (1, .ref v1), (2, .int v2)]) (st' := []) (S1 := S) (nL := 6) (cd := cd_808) mx_808 rfl rfl 1 rfl ?_
    rcases ifE h with ⟨c, h⟩ | ⟨c, h⟩
    · refine RR.c_ge (fun _ => ?_) (fun q => absurd c q)
      refine RR.runs (pc' := 15) (lc' := [(0, .ref 5), (1, .ref v1), (2, .int v2)]) (st' := [qv (rQ S 5 7)]) (S1 := S) (nL := 6) (cd := cd_808) mx_808 rfl rfl 2 rfl ?_
      rcases oqE h with ⟨e1, h⟩ | ⟨o2, eo2, h⟩
      · cases h
      rw [eo2]
      refine RR.runs (pc' := 16) (lc' := [(0, .ref 5), (1, .ref v1), (2, .int v2)]) (st' := [.int v2, .ref o2]) (S1 := S) (nL := 6) (cd := cd_808) mx_808 rfl rfl 1 rfl ?_
      obtain ⟨gq, h⟩ := gpE h
      obtain ⟨g, h⟩ := gnE h
      refine RR.gPN (c2 := (KO.1 o2).1 = 4) (pc' := 17) (lc' := [(0, .ref 5), (1, .ref v1), (2, .int v2)]) (st' := [.long (rJ S o2 v2.toNatClampNeg)]) (S1 := S) (nL := 6) (cd := cd_808) mx_808 rfl rfl rfl gq g ?_
      refine RR.runs (pc' := 18) (lc' := [(3, .long (rJ S o2 v2.toNatClampNeg)), (0, .ref 5), (1, .ref v1), (2, .int v2)]) (st' := []) (S1 := S) (nL := 6) (cd := cd_808) mx_808 rfl rfl 1 rfl ?_
      obtain ⟨x3, ex3, h⟩ := ltE h
      rw [← ex3]
      refine RR.runs (pc' := 21) (lc' := [(5, .int (0 : Int32)), (3, .long x3), (0, .ref 5), (1, .ref v1), (2, .int v2)]) (st' := []) (S1 := S) (nL := 6) (cd := cd_808) mx_808 rfl rfl 2 rfl ?_
      refine RR.weak [(0, .ref 5), (1, .ref v1), (2, .int v2), (3, .long x3), (5, .int (0 : Int32))] ⟨rfl, rfl, rfl, rfl, rfl, trivial⟩ ?_
      exact s_o_se_spread_21 _ (fun _ _ S h => ih _ _ S h) _ _ _ _ _ _ h
    · refine RR.c_ge (fun q => absurd q c) (fun _ => ?_)
      refine RR.weak [] trivial ?_
      exact s_o_se_spread_75 _ h
def o_se_spread (v1 : Nat) (S : St) : Re Int32 :=
  o_se_spread_2 FU v1 (0 : Int32) S
set_option maxRecDepth 100000 in
theorem s0_o_se_spread {d : Nat} {S' : St} {r : Int32} (v1 : Nat) (S : St) (h : o_se_spread v1 S = some (r, S')) : RR KO (d + 2) 808 0 [(0, .ref 5), (1, .ref v1)] [] S (some (.int r)) S' := by
  unfold o_se_spread at h
  refine RR.runs (pc' := 2) (lc' := [(2, .int (0 : Int32)), (0, .ref 5), (1, .ref v1)]) (st' := []) (S1 := S) (nL := 6) (cd := cd_808) mx_808 rfl rfl 2 rfl ?_
  refine RR.weak [(0, .ref 5), (1, .ref v1), (2, .int (0 : Int32))] ⟨rfl, rfl, rfl, trivial⟩ ?_
  exact s_o_se_spread_2 _ _ _ _ h
theorem s_o_se_spread {d : Nat} {S' : St} {r : Int32} (v1 : Nat) (S : St) (h : o_se_spread v1 S = some (r, S')) : RC KO (d + 2) 808 [.ref 5, .ref v1] S (some (.int r)) S' := RC.of rfl (s0_o_se_spread v1 S h)
-- NameOrchard$Search fewest (LNameOrchard$Told;LNameOrchard$Standing;)I
def o_se_fewest_105 (S : St) : Re Int32 :=
  some ((-1 : Int32), S)
set_option maxRecDepth 100000 in
theorem s_o_se_fewest_105 {d : Nat} {S' : St} {r : Int32} (S : St) (h : o_se_fewest_105 S = some (r, S')) : RR KO (d + 4) 807 105 [] [] S (some (.int r)) S' := by
  unfold o_se_fewest_105 at h
  refine RR.runs (pc' := 106) (lc' := []) (st' := [.int (-1 : Int32)]) (S1 := S) (nL := 6) (cd := cd_807) mx_807 rfl rfl 1 rfl ?_
  cases h
  exact RR.reti mx_807 rfl rfl rfl
def o_se_fewest_96 (v4 : Int32) (S : St) : Re Int32 :=
  some (v4, S)
set_option maxRecDepth 100000 in
theorem s_o_se_fewest_96 {d : Nat} {S' : St} {r : Int32} (v4 : Int32) (S : St) (h : o_se_fewest_96 v4 S = some (r, S')) : RR KO (d + 4) 807 96 [(4, .int v4)] [] S (some (.int r)) S' := by
  unfold o_se_fewest_96 at h
  refine RR.runs (pc' := 98) (lc' := [(4, .int v4)]) (st' := [.int v4]) (S1 := S) (nL := 6) (cd := cd_807) mx_807 rfl rfl 1 rfl ?_
  cases h
  exact RR.reti mx_807 rfl rfl rfl
def o_se_fewest_54 : Nat → Nat → Int32 → St → Re Int32
  | 0, _, _, _ => none
  | n + 1, v1, v4, S =>
  if (4 : Int32) < v4 then (
    o_se_fewest_105 S)
  else (
    oq (rQ S 5 7) none fun o1 =>
    oq (rQ S 5 8) none fun o2 =>
    lt' (wQ S 5 7 (some o2)) fun S3 =>
    lt' (wQ S3 5 8 (some o1)) fun S4 =>
    oq (rQ S4 5 8) none fun o5 =>
    bn (o_j_fillJ o5 (0 : Int64) S4) fun r6 S7 =>
    bn (o_se_spread v1 S7) fun r8 S9 =>
    if r8 = 0 then (
      lt' ((v4 + (1 : Int32)) : Int32) fun x10 =>
      o_se_fewest_54 n v1 x10 S9)
    else (
      o_se_fewest_96 v4 S9))
set_option maxRecDepth 100000 in
theorem s_o_se_fewest_54 {d : Nat} {S' : St} {r : Int32} : ∀ (n : Nat) (v1 : Nat) (v4 : Int32) (S : St), o_se_fewest_54 n v1 v4 S = some (r, S') → RR KO (d + 4) 807 54 [(0, .ref 5), (1, .ref v1), (4, .int v4)] [] S (some (.int r)) S' := by
  intro n
  induction n with
  | zero => intro v1 v4 S h; simp only [o_se_fewest_54] at h; cases h
  | succ n ih =>
    intro v1 v4 S h
    simp only [o_se_fewest_54] at h
    refine RR.runs (pc' := icm .gt v4 (4 : Int32) 105 60) (lc' := [(0, .ref 5), (1, .ref v1), (4, .int v4)]) (st' := []) (S1 := S) (nL := 6) (cd := cd_807) mx_807 rfl rfl 3 rfl ?_
    rcases ifE h with ⟨c, h⟩ | ⟨c, h⟩
    · refine RR.c_gt (fun _ => ?_) (fun q => absurd c q)
      refine RR.weak [] trivial ?_
      exact s_o_se_fewest_105 _ h
    · refine RR.c_gt (fun q => absurd q c) (fun _ => ?_)
      refine RR.runs (pc' := 64) (lc' := [(0, .ref 5), (1, .ref v1), (4, .int v4)]) (st' := [qv (rQ S 5 7)]) (S1 := S) (nL := 6) (cd := cd_807) mx_807 rfl rfl 2 rfl ?_
      rcases oqE h with ⟨e1, h⟩ | ⟨o1, eo1, h⟩
      · cases h
      rw [eo1]
      refine RR.runs (pc' := 71) (lc' := [(5, .ref o1), (0, .ref 5), (1, .ref v1), (4, .int v4)]) (st' := [qv (rQ S 5 8), .ref 5]) (S1 := S) (nL := 6) (cd := cd_807) mx_807 rfl rfl 4 rfl ?_
      rcases oqE h with ⟨e1, h⟩ | ⟨o2, eo2, h⟩
      · cases h
      rw [eo2]
      refine RR.runs (pc' := 74) (lc' := [(5, .ref o1), (0, .ref 5), (1, .ref v1), (4, .int v4)]) (st' := []) (S1 := (wQ S 5 7 (some o2))) (nL := 6) (cd := cd_807) mx_807 rfl rfl 1 rfl ?_
      obtain ⟨S3, eS3, h⟩ := ltE h
      rw [← eS3]
      refine RR.runs (pc' := 80) (lc' := [(5, .ref o1), (0, .ref 5), (1, .ref v1), (4, .int v4)]) (st' := []) (S1 := (wQ S3 5 8 (some o1))) (nL := 6) (cd := cd_807) mx_807 rfl rfl 3 rfl ?_
      obtain ⟨S4, eS4, h⟩ := ltE h
      rw [← eS4]
      refine RR.runs (pc' := 84) (lc' := [(5, .ref o1), (0, .ref 5), (1, .ref v1), (4, .int v4)]) (st' := [qv (rQ S4 5 8)]) (S1 := S4) (nL := 6) (cd := cd_807) mx_807 rfl rfl 2 rfl ?_
      rcases oqE h with ⟨e1, h⟩ | ⟨o5, eo5, h⟩
      · cases h
      rw [eo5]
      refine RR.runs (pc' := 85) (lc' := [(5, .ref o1), (0, .ref 5), (1, .ref v1), (4, .int v4)]) (st' := [.long (0 : Int64), .ref o5]) (S1 := S4) (nL := 6) (cd := cd_807) mx_807 rfl rfl 1 rfl ?_
      obtain ⟨r6, S7, h1, h⟩ := bnE h
      refine RR.callS (as := [.ref o5, .long (0 : Int64)]) (rest := []) (r1 := none) (S1 := S7) mx_807 rfl rfl mx_2800 rfl rfl (by decide) (Nat.le_of_ble_eq_true rfl) (Nat.le_of_ble_eq_true rfl) (Nat.le_of_ble_eq_true rfl) (RC.deep (by omega) (s_o_j_fillJ (d := d) _ _ _ h1)) ?_
      show RR KO _ 807 88 [(5, .ref o1), (0, .ref 5), (1, .ref v1), (4, .int v4)] [] S7 _ _
      refine RR.runs (pc' := 90) (lc' := [(5, .ref o1), (0, .ref 5), (1, .ref v1), (4, .int v4)]) (st' := [.ref v1, .ref 5]) (S1 := S7) (nL := 6) (cd := cd_807) mx_807 rfl rfl 2 rfl ?_
      obtain ⟨r8, S9, h1, h⟩ := bnE h
      refine RR.callV (b := 5) (as := [.ref v1]) (rest := []) (r1 := (some (.int r8))) (S1 := S9) mx_807 rfl rfl mx_808 rfl rfl (by decide) (Or.inl rfl) (Nat.le_of_ble_eq_true rfl) (Nat.le_of_ble_eq_true rfl) (RC.deep (by omega) (s_o_se_spread (d := d) _ _ h1)) ?_
      show RR KO _ 807 93 [(5, .ref o1), (0, .ref 5), (1, .ref v1), (4, .int v4)] [.int r8] S9 _ _
      refine RR.runs (pc' := icm .eq r8 0 99 96) (lc' := [(5, .ref o1), (0, .ref 5), (1, .ref v1), (4, .int v4)]) (st' := []) (S1 := S9) (nL := 6) (cd := cd_807) mx_807 rfl rfl 1 rfl ?_
      rcases ifE h with ⟨c, h⟩ | ⟨c, h⟩
      · refine RR.c_eq (fun _ => ?_) (fun q => absurd c q)
        refine RR.runs (pc' := 102) (lc' := [(4, .int ((v4 + (1 : Int32)))), (5, .ref o1), (0, .ref 5), (1, .ref v1)]) (st' := []) (S1 := S9) (nL := 6) (cd := cd_807) mx_807 rfl rfl 1 rfl ?_
        obtain ⟨x10, ex10, h⟩ := ltE h
        rw [← ex10]
        refine RR.runs (pc' := 54) (lc' := [(4, .int x10), (5, .ref o1), (0, .ref 5), (1, .ref v1)]) (st' := []) (S1 := S9) (nL := 6) (cd := cd_807) mx_807 rfl rfl 1 rfl ?_
        refine RR.weak [(0, .ref 5), (1, .ref v1), (4, .int x10)] ⟨rfl, rfl, rfl, trivial⟩ ?_
        exact ih _ _ _ h
      · refine RR.c_eq (fun q => absurd q c) (fun _ => ?_)
        refine RR.weak [(4, .int v4)] ⟨rfl, trivial⟩ ?_
        exact s_o_se_fewest_96 _ _ h
def o_se_fewest (v1 : Nat) (v2 : Nat) (S : St) : Re Int32 :=
  if KO.1 v2 = (0, 5) then (
  if KO.1 v1 = (0, 10) then (
  lt' (((rI S v2 1) &&& ((rI S v1 16) ^^^ (-1 : Int32))) : Int32) fun x3 =>
  if x3 = 0 then (
    some ((0 : Int32), S))
  else (
    bn (o_se_gather v1 v2 S) fun r4 S5 =>
    bn (o_j_fillJ 12 (0 : Int64) S5) fun r6 S7 =>
    oq (rQ S7 5 8) none fun o8 =>
    bn (o_j_fillJ o8 (0 : Int64) S7) fun r9 S10 =>
        bn (o_se_meet x3 (((rI S10 v2 2) &&& x3)) S10) fun r11 S12 =>
    o_se_fewest_54 FU v1 (1 : Int32) S12)) else none) else none
set_option maxRecDepth 100000 in
theorem s0_o_se_fewest {d : Nat} {S' : St} {r : Int32} (v1 : Nat) (v2 : Nat) (S : St) (h : o_se_fewest v1 v2 S = some (r, S')) : RR KO (d + 4) 807 0 [(0, .ref 5), (1, .ref v1), (2, .ref v2)] [] S (some (.int r)) S' := by
  unfold o_se_fewest at h
  refine RR.runs (pc' := 1) (lc' := [(0, .ref 5), (1, .ref v1), (2, .ref v2)]) (st' := [.ref v2]) (S1 := S) (nL := 6) (cd := cd_807) mx_807 rfl rfl 1 rfl ?_
  obtain ⟨g1, h⟩ := gpE h
  refine RR.gPo (pc' := 4) (lc' := [(0, .ref 5), (1, .ref v1), (2, .ref v2)]) (st' := [.int (rI S v2 1)]) (S1 := S) (nL := 6) (cd := cd_807) mx_807 rfl rfl rfl ⟨g1, by decide, by decide⟩ ?_
  refine RR.runs (pc' := 5) (lc' := [(0, .ref 5), (1, .ref v1), (2, .ref v2)]) (st' := [.ref v1, .int (rI S v2 1)]) (S1 := S) (nL := 6) (cd := cd_807) mx_807 rfl rfl 1 rfl ?_
  obtain ⟨g2, h⟩ := gpE h
  refine RR.gPo (pc' := 8) (lc' := [(0, .ref 5), (1, .ref v1), (2, .ref v2)]) (st' := [.int (rI S v1 16), .int (rI S v2 1)]) (S1 := S) (nL := 6) (cd := cd_807) mx_807 rfl rfl rfl ⟨g2, by decide, by decide⟩ ?_
  refine RR.runs (pc' := 12) (lc' := [(3, .int (((rI S v2 1) &&& ((rI S v1 16) ^^^ (-1 : Int32))))), (0, .ref 5), (1, .ref v1), (2, .ref v2)]) (st' := []) (S1 := S) (nL := 6) (cd := cd_807) mx_807 rfl rfl 4 rfl ?_
  obtain ⟨x3, ex3, h⟩ := ltE h
  rw [← ex3]
  refine RR.runs (pc' := icm .ne x3 0 18 16) (lc' := [(3, .int x3), (0, .ref 5), (1, .ref v1), (2, .ref v2)]) (st' := []) (S1 := S) (nL := 6) (cd := cd_807) mx_807 rfl rfl 2 rfl ?_
  rcases ifE h with ⟨c, h⟩ | ⟨c, h⟩
  · refine RR.c_ne (fun _ => ?_) (fun q => absurd c q)
    refine RR.runs (pc' := 17) (lc' := [(3, .int x3), (0, .ref 5), (1, .ref v1), (2, .ref v2)]) (st' := [.int (0 : Int32)]) (S1 := S) (nL := 6) (cd := cd_807) mx_807 rfl rfl 1 rfl ?_
    cases h
    exact RR.reti mx_807 rfl rfl rfl
  · refine RR.c_ne (fun q => absurd q c) (fun _ => ?_)
    refine RR.runs (pc' := 21) (lc' := [(3, .int x3), (0, .ref 5), (1, .ref v1), (2, .ref v2)]) (st' := [.ref v2, .ref v1, .ref 5]) (S1 := S) (nL := 6) (cd := cd_807) mx_807 rfl rfl 3 rfl ?_
    obtain ⟨r4, S5, h1, h⟩ := bnE h
    refine RR.callV (b := 5) (as := [.ref v1, .ref v2]) (rest := []) (r1 := none) (S1 := S5) mx_807 rfl rfl mx_801 rfl rfl (by decide) (Or.inl rfl) (Nat.le_of_ble_eq_true rfl) (Nat.le_of_ble_eq_true rfl) (RC.deep (by omega) (s_o_se_gather (d := d) _ _ _ h1)) ?_
    show RR KO _ 807 24 [(3, .int x3), (0, .ref 5), (1, .ref v1), (2, .ref v2)] [] S5 _ _
    refine RR.runs (pc' := 29) (lc' := [(3, .int x3), (0, .ref 5), (1, .ref v1), (2, .ref v2)]) (st' := [.long (0 : Int64), .ref 12]) (S1 := S5) (nL := 6) (cd := cd_807) mx_807 rfl rfl 3 rfl ?_
    obtain ⟨r6, S7, h1, h⟩ := bnE h
    refine RR.callS (as := [.ref 12, .long (0 : Int64)]) (rest := []) (r1 := none) (S1 := S7) mx_807 rfl rfl mx_2800 rfl rfl (by decide) (Nat.le_of_ble_eq_true rfl) (Nat.le_of_ble_eq_true rfl) (Nat.le_of_ble_eq_true rfl) (RC.deep (by omega) (s_o_j_fillJ (d := d) _ _ _ h1)) ?_
    show RR KO _ 807 32 [(3, .int x3), (0, .ref 5), (1, .ref v1), (2, .ref v2)] [] S7 _ _
    refine RR.runs (pc' := 36) (lc' := [(3, .int x3), (0, .ref 5), (1, .ref v1), (2, .ref v2)]) (st' := [qv (rQ S7 5 8)]) (S1 := S7) (nL := 6) (cd := cd_807) mx_807 rfl rfl 2 rfl ?_
    rcases oqE h with ⟨e1, h⟩ | ⟨o8, eo8, h⟩
    · cases h
    rw [eo8]
    refine RR.runs (pc' := 37) (lc' := [(3, .int x3), (0, .ref 5), (1, .ref v1), (2, .ref v2)]) (st' := [.long (0 : Int64), .ref o8]) (S1 := S7) (nL := 6) (cd := cd_807) mx_807 rfl rfl 1 rfl ?_
    obtain ⟨r9, S10, h1, h⟩ := bnE h
    refine RR.callS (as := [.ref o8, .long (0 : Int64)]) (rest := []) (r1 := none) (S1 := S10) mx_807 rfl rfl mx_2800 rfl rfl (by decide) (Nat.le_of_ble_eq_true rfl) (Nat.le_of_ble_eq_true rfl) (Nat.le_of_ble_eq_true rfl) (RC.deep (by omega) (s_o_j_fillJ (d := d) _ _ _ h1)) ?_
    show RR KO _ 807 40 [(3, .int x3), (0, .ref 5), (1, .ref v1), (2, .ref v2)] [] S10 _ _
    refine RR.runs (pc' := 43) (lc' := [(3, .int x3), (0, .ref 5), (1, .ref v1), (2, .ref v2)]) (st' := [.ref v2, .int x3, .ref 5]) (S1 := S10) (nL := 6) (cd := cd_807) mx_807 rfl rfl 3 rfl ?_
    refine RR.gPo (pc' := 46) (lc' := [(3, .int x3), (0, .ref 5), (1, .ref v1), (2, .ref v2)]) (st' := [.int (rI S10 v2 2), .int x3, .ref 5]) (S1 := S10) (nL := 6) (cd := cd_807) mx_807 rfl rfl rfl ⟨g1, by decide, by decide⟩ ?_
    refine RR.runs (pc' := 48) (lc' := [(3, .int x3), (0, .ref 5), (1, .ref v1), (2, .ref v2)]) (st' := [.int (((rI S10 v2 2) &&& x3)), .int x3, .ref 5]) (S1 := S10) (nL := 6) (cd := cd_807) mx_807 rfl rfl 2 rfl ?_
    obtain ⟨r11, S12, h1, h⟩ := bnE h
    refine RR.callV (b := 5) (as := [.int x3, .int (((rI S10 v2 2) &&& x3))]) (rest := []) (r1 := none) (S1 := S12) mx_807 rfl rfl mx_810 rfl rfl (by decide) (Or.inl rfl) (Nat.le_of_ble_eq_true rfl) (Nat.le_of_ble_eq_true rfl) (RC.deep (by omega) (s_o_se_meet (d := d) _ _ _ h1)) ?_
    show RR KO _ 807 51 [(3, .int x3), (0, .ref 5), (1, .ref v1), (2, .ref v2)] [] S12 _ _
    refine RR.runs (pc' := 54) (lc' := [(4, .int (1 : Int32)), (3, .int x3), (0, .ref 5), (1, .ref v1), (2, .ref v2)]) (st' := []) (S1 := S12) (nL := 6) (cd := cd_807) mx_807 rfl rfl 2 rfl ?_
    refine RR.weak [(0, .ref 5), (1, .ref v1), (4, .int (1 : Int32))] ⟨rfl, rfl, rfl, trivial⟩ ?_
    exact s_o_se_fewest_54 _ _ _ _ h
theorem s_o_se_fewest {d : Nat} {S' : St} {r : Int32} (v1 : Nat) (v2 : Nat) (S : St) (h : o_se_fewest v1 v2 S = some (r, S')) : RC KO (d + 4) 807 [.ref 5, .ref v1, .ref v2] S (some (.int r)) S' := RC.of rfl (s0_o_se_fewest v1 v2 S h)
-- NameOrchard$Standing begin (LNameOrchard$Told;)V
def o_sd_begin_67 (S : St) : Re Unit :=
  some ((), S)
set_option maxRecDepth 100000 in
theorem s_o_sd_begin_67 {d : Nat} {S' : St} {r : Unit} (S : St) (h : o_sd_begin_67 S = some (r, S')) : RR KO (d + 2) 1001 67 [] [] S none S' := by
  unfold o_sd_begin_67 at h
  cases h
  exact RR.retv mx_1001 rfl rfl rfl
def o_sd_begin_37 : Nat → Nat → Nat → Int32 → St → Re Unit
  | 0, _, _, _, _ => none
  | n + 1, v0, v1, v2, S =>
  if KO.1 v0 = (0, 5) then (
  if 1 ≤ (KO.1 (v0 + 30)).1 ∧ (KO.1 (v0 + 30)).1 < 8 then (
  if v2 < (Int32.ofNat (KO.1 (v0 + 30)).2) then (
        if KO.1 v1 = (0, 10) then (
    if KO.1 (v1 + 80) = (0, 7) then (
bn (o_tb_at (v1 + 80) v2 (5 : Int32) S) fun r4 S5 =>
    if (KO.1 (v0 + 30)).1 = 1 then (
    if v2 < 0 ∨ (KO.1 (v0 + 30)).2 ≤ v2.toNatClampNeg then none else
    lt' (wI S5 (v0 + 30) v2.toNatClampNeg r4) fun S6 =>
    lt' ((v2 + (1 : Int32)) : Int32) fun x7 =>
    o_sd_begin_37 n v0 v1 x7 S6) else none) else none) else none)
  else (
    o_sd_begin_67 S)) else none) else none
set_option maxRecDepth 100000 in
theorem s_o_sd_begin_37 {d : Nat} {S' : St} {r : Unit} : ∀ (n : Nat) (v0 : Nat) (v1 : Nat) (v2 : Int32) (S : St), o_sd_begin_37 n v0 v1 v2 S = some (r, S') → RR KO (d + 2) 1001 37 [(0, .ref v0), (1, .ref v1), (2, .int v2)] [] S none S' := by
  intro n
  induction n with
  | zero => intro v0 v1 v2 S h; simp only [o_sd_begin_37] at h; cases h
  | succ n ih =>
    intro v0 v1 v2 S h
    simp only [o_sd_begin_37] at h
    refine RR.runs (pc' := 39) (lc' := [(0, .ref v0), (1, .ref v1), (2, .int v2)]) (st' := [.ref v0, .int v2]) (S1 := S) (nL := 3) (cd := cd_1001) mx_1001 rfl rfl 2 rfl ?_
    obtain ⟨g1, h⟩ := gpE h
    refine RR.gPo (pc' := 42) (lc' := [(0, .ref v0), (1, .ref v1), (2, .int v2)]) (st' := [.ref (v0 + 30), .int v2]) (S1 := S) (nL := 3) (cd := cd_1001) mx_1001 rfl rfl rfl ⟨g1, by decide, by decide⟩ ?_
    obtain ⟨g, h⟩ := gpE h
    refine RR.gP (pc' := 43) (lc' := [(0, .ref v0), (1, .ref v1), (2, .int v2)]) (st' := [.int ((Int32.ofNat (KO.1 (v0 + 30)).2)), .int v2]) (S1 := S) (nL := 3) (cd := cd_1001) mx_1001 rfl rfl rfl g ?_
    refine RR.runs (pc' := icm .ge v2 ((Int32.ofNat (KO.1 (v0 + 30)).2)) 67 46) (lc' := [(0, .ref v0), (1, .ref v1), (2, .int v2)]) (st' := []) (S1 := S) (nL := 3) (cd := cd_1001) mx_1001 rfl rfl 1 rfl ?_
    rcases ifE h with ⟨c, h⟩ | ⟨c, h⟩
    · refine RR.c_ge (fun _ => ?_) (fun q => absurd c q)
      refine RR.runs (pc' := 47) (lc' := [(0, .ref v0), (1, .ref v1), (2, .int v2)]) (st' := [.ref v0]) (S1 := S) (nL := 3) (cd := cd_1001) mx_1001 rfl rfl 1 rfl ?_
      refine RR.gPo (pc' := 50) (lc' := [(0, .ref v0), (1, .ref v1), (2, .int v2)]) (st' := [.ref (v0 + 30)]) (S1 := S) (nL := 3) (cd := cd_1001) mx_1001 rfl rfl rfl ⟨g1, by decide, by decide⟩ ?_
      refine RR.runs (pc' := 52) (lc' := [(0, .ref v0), (1, .ref v1), (2, .int v2)]) (st' := [.ref v1, .int v2, .ref (v0 + 30)]) (S1 := S) (nL := 3) (cd := cd_1001) mx_1001 rfl rfl 2 rfl ?_
      obtain ⟨g2, h⟩ := gpE h
      refine RR.gPo (pc' := 55) (lc' := [(0, .ref v0), (1, .ref v1), (2, .int v2)]) (st' := [.ref (v1 + 80), .int v2, .ref (v0 + 30)]) (S1 := S) (nL := 3) (cd := cd_1001) mx_1001 rfl rfl rfl ⟨g2, by decide, by decide⟩ ?_
      refine RR.runs (pc' := 57) (lc' := [(0, .ref v0), (1, .ref v1), (2, .int v2)]) (st' := [.int (5 : Int32), .int v2, .ref (v1 + 80), .int v2, .ref (v0 + 30)]) (S1 := S) (nL := 3) (cd := cd_1001) mx_1001 rfl rfl 2 rfl ?_
      obtain ⟨g3, h⟩ := gpE h
      obtain ⟨r4, S5, h1, h⟩ := bnE h
      refine RR.callV (b := (v1 + 80)) (as := [.int v2, .int (5 : Int32)]) (rest := [.int v2, .ref (v0 + 30)]) (r1 := (some (.int r4))) (S1 := S5) mx_1001 rfl rfl mx_1405 rfl rfl (by decide) (Or.inl g3) (Nat.le_of_ble_eq_true rfl) (Nat.le_of_ble_eq_true rfl) (RC.deep (by omega) (s_o_tb_at (d := d) _ _ _ _ h1)) ?_
      show RR KO _ 1001 60 [(0, .ref v0), (1, .ref v1), (2, .int v2)] [.int r4, .int v2, .ref (v0 + 30)] S5 _ _
      obtain ⟨gq, h⟩ := gpE h
      obtain ⟨g, h⟩ := gnE h
      refine RR.gPNo (c2 := (KO.1 (v0 + 30)).1 = 1) (pc' := 61) (lc' := [(0, .ref v0), (1, .ref v1), (2, .int v2)]) (st' := []) (S1 := (wI S5 (v0 + 30) v2.toNatClampNeg r4)) (nL := 3) (cd := cd_1001) mx_1001 rfl rfl rfl gq g ?_
      obtain ⟨S6, eS6, h⟩ := ltE h
      rw [← eS6]
      refine RR.runs (pc' := 64) (lc' := [(2, .int ((v2 + (1 : Int32)))), (0, .ref v0), (1, .ref v1)]) (st' := []) (S1 := S6) (nL := 3) (cd := cd_1001) mx_1001 rfl rfl 1 rfl ?_
      obtain ⟨x7, ex7, h⟩ := ltE h
      rw [← ex7]
      refine RR.runs (pc' := 37) (lc' := [(2, .int x7), (0, .ref v0), (1, .ref v1)]) (st' := []) (S1 := S6) (nL := 3) (cd := cd_1001) mx_1001 rfl rfl 1 rfl ?_
      refine RR.weak [(0, .ref v0), (1, .ref v1), (2, .int x7)] ⟨rfl, rfl, rfl, trivial⟩ ?_
      exact ih _ _ _ _ h
    · refine RR.c_ge (fun q => absurd q c) (fun _ => ?_)
      refine RR.weak [] trivial ?_
      exact s_o_sd_begin_67 _ h
def o_sd_begin (v0 : Nat) (v1 : Nat) (S : St) : Re Unit :=
  if KO.1 v1 = (0, 10) then (
  if KO.1 (v1 + 80) = (0, 7) then (
bn (o_tb_size (v1 + 80) S) fun r3 S4 =>
  if KO.1 v0 = (0, 5) then (
lt' (wI S4 v0 1 ((((1 : Int32) <<< (r3 &&& 31)) - (1 : Int32)))) fun S5 =>
  lt' (wI S5 v0 2 (0 : Int32)) fun S7 =>
  lt' (wI S7 v0 3 (0 : Int32)) fun S8 =>
  lt' (wI S8 v0 4 (0 : Int32)) fun S9 =>
  lt' (wI S9 v0 5 (0 : Int32)) fun S10 =>
  o_sd_begin_37 FU v0 v1 (0 : Int32) S10) else none) else none) else none
set_option maxRecDepth 100000 in
theorem s0_o_sd_begin {d : Nat} {S' : St} {r : Unit} (v0 : Nat) (v1 : Nat) (S : St) (h : o_sd_begin v0 v1 S = some (r, S')) : RR KO (d + 2) 1001 0 [(0, .ref v0), (1, .ref v1)] [] S none S' := by
  unfold o_sd_begin at h
  refine RR.runs (pc' := 3) (lc' := [(0, .ref v0), (1, .ref v1)]) (st' := [.ref v1, .int (1 : Int32), .ref v0]) (S1 := S) (nL := 3) (cd := cd_1001) mx_1001 rfl rfl 3 rfl ?_
  obtain ⟨g1, h⟩ := gpE h
  refine RR.gPo (pc' := 6) (lc' := [(0, .ref v0), (1, .ref v1)]) (st' := [.ref (v1 + 80), .int (1 : Int32), .ref v0]) (S1 := S) (nL := 3) (cd := cd_1001) mx_1001 rfl rfl rfl ⟨g1, by decide, by decide⟩ ?_
  obtain ⟨g2, h⟩ := gpE h
  obtain ⟨r3, S4, h1, h⟩ := bnE h
  refine RR.callV (b := (v1 + 80)) (as := []) (rest := [.int (1 : Int32), .ref v0]) (r1 := (some (.int r3))) (S1 := S4) mx_1001 rfl rfl mx_1402 rfl rfl (by decide) (Or.inl g2) (Nat.le_of_ble_eq_true rfl) (Nat.le_of_ble_eq_true rfl) (RC.deep (by omega) (s_o_tb_size (d := d) _ _ h1)) ?_
  show RR KO _ 1001 9 [(0, .ref v0), (1, .ref v1)] [.int r3, .int (1 : Int32), .ref v0] S4 _ _
  refine RR.runs (pc' := 12) (lc' := [(0, .ref v0), (1, .ref v1)]) (st' := [.int ((((1 : Int32) <<< (r3 &&& 31)) - (1 : Int32))), .ref v0]) (S1 := S4) (nL := 3) (cd := cd_1001) mx_1001 rfl rfl 3 rfl ?_
  obtain ⟨g6, h⟩ := gpE h
  refine RR.gP (pc' := 15) (lc' := [(0, .ref v0), (1, .ref v1)]) (st' := []) (S1 := (wI S4 v0 1 ((((1 : Int32) <<< (r3 &&& 31)) - (1 : Int32))))) (nL := 3) (cd := cd_1001) mx_1001 rfl rfl rfl ⟨g6, by decide, rfl, by decide⟩ ?_
  obtain ⟨S5, eS5, h⟩ := ltE h
  rw [← eS5]
  refine RR.runs (pc' := 17) (lc' := [(0, .ref v0), (1, .ref v1)]) (st' := [.int (0 : Int32), .ref v0]) (S1 := S5) (nL := 3) (cd := cd_1001) mx_1001 rfl rfl 2 rfl ?_
  refine RR.gP (pc' := 20) (lc' := [(0, .ref v0), (1, .ref v1)]) (st' := []) (S1 := (wI S5 v0 2 (0 : Int32))) (nL := 3) (cd := cd_1001) mx_1001 rfl rfl rfl ⟨g6, by decide, rfl, by decide⟩ ?_
  obtain ⟨S7, eS7, h⟩ := ltE h
  rw [← eS7]
  refine RR.runs (pc' := 22) (lc' := [(0, .ref v0), (1, .ref v1)]) (st' := [.int (0 : Int32), .ref v0]) (S1 := S7) (nL := 3) (cd := cd_1001) mx_1001 rfl rfl 2 rfl ?_
  refine RR.gP (pc' := 25) (lc' := [(0, .ref v0), (1, .ref v1)]) (st' := []) (S1 := (wI S7 v0 3 (0 : Int32))) (nL := 3) (cd := cd_1001) mx_1001 rfl rfl rfl ⟨g6, by decide, rfl, by decide⟩ ?_
  obtain ⟨S8, eS8, h⟩ := ltE h
  rw [← eS8]
  refine RR.runs (pc' := 27) (lc' := [(0, .ref v0), (1, .ref v1)]) (st' := [.int (0 : Int32), .ref v0]) (S1 := S8) (nL := 3) (cd := cd_1001) mx_1001 rfl rfl 2 rfl ?_
  refine RR.gP (pc' := 30) (lc' := [(0, .ref v0), (1, .ref v1)]) (st' := []) (S1 := (wI S8 v0 4 (0 : Int32))) (nL := 3) (cd := cd_1001) mx_1001 rfl rfl rfl ⟨g6, by decide, rfl, by decide⟩ ?_
  obtain ⟨S9, eS9, h⟩ := ltE h
  rw [← eS9]
  refine RR.runs (pc' := 32) (lc' := [(0, .ref v0), (1, .ref v1)]) (st' := [.int (0 : Int32), .ref v0]) (S1 := S9) (nL := 3) (cd := cd_1001) mx_1001 rfl rfl 2 rfl ?_
  refine RR.gPP (pc' := 35) (lc' := [(0, .ref v0), (1, .ref v1)]) (st' := []) (S1 := (wI S9 v0 5 (0 : Int32))) (nL := 3) (cd := cd_1001) mx_1001 rfl rfl rfl ⟨g6, by decide, rfl, by decide⟩ rfl ?_
  obtain ⟨S10, eS10, h⟩ := ltE h
  rw [← eS10]
  refine RR.runs (pc' := 37) (lc' := [(2, .int (0 : Int32)), (0, .ref v0), (1, .ref v1)]) (st' := []) (S1 := S10) (nL := 3) (cd := cd_1001) mx_1001 rfl rfl 2 rfl ?_
  refine RR.weak [(0, .ref v0), (1, .ref v1), (2, .int (0 : Int32))] ⟨rfl, rfl, rfl, trivial⟩ ?_
  exact s_o_sd_begin_37 _ _ _ _ _ h
theorem s_o_sd_begin {d : Nat} {S' : St} {r : Unit} (v0 : Nat) (v1 : Nat) (S : St) (h : o_sd_begin v0 v1 S = some (r, S')) : RC KO (d + 2) 1001 [.ref v0, .ref v1] S none S' := RC.of rfl (s0_o_sd_begin v0 v1 S h)
