/-! Methods of the class, lifted (laid by wip/whole/gen/klass.py) -/
-- NameOrchard$Standing copy (LNameOrchard$Standing;)V
def o_sd_copy_73 (S : St) : Re Unit :=
  some ((), S)
set_option maxRecDepth 100000 in
theorem s_o_sd_copy_73 {d : Nat} {S' : St} {r : Unit} (S : St) (h : o_sd_copy_73 S = some (r, S')) : RR KO (d + 1) 1002 73 [] [] S none S' := by
  unfold o_sd_copy_73 at h
  cases h
  exact RR.retv mx_1002 rfl rfl rfl
def o_sd_copy_47 : Nat → Nat → Nat → Int32 → St → Re Unit
  | 0, _, _, _, _ => none
  | n + 1, v0, v1, v2, S =>
  if KO.1 v0 = (0, 5) then (
  if 1 ≤ (KO.1 (v0 + 30)).1 ∧ (KO.1 (v0 + 30)).1 < 8 then (
  if v2 < (Int32.ofNat (KO.1 (v0 + 30)).2) then (
        if KO.1 v1 = (0, 5) then (
bn (o_sd_soundOf v1 v2 S) fun r3 S4 =>
    if (KO.1 (v0 + 30)).1 = 1 then (
    if v2 < 0 ∨ (KO.1 (v0 + 30)).2 ≤ v2.toNatClampNeg then none else
    lt' (wI S4 (v0 + 30) v2.toNatClampNeg r3) fun S5 =>
    lt' ((v2 + (1 : Int32)) : Int32) fun x6 =>
    o_sd_copy_47 n v0 v1 x6 S5) else none) else none)
  else (
    o_sd_copy_73 S)) else none) else none
set_option maxRecDepth 100000 in
theorem s_o_sd_copy_47 {d : Nat} {S' : St} {r : Unit} : ∀ (n : Nat) (v0 : Nat) (v1 : Nat) (v2 : Int32) (S : St), o_sd_copy_47 n v0 v1 v2 S = some (r, S') → RR KO (d + 1) 1002 47 [(0, .ref v0), (1, .ref v1), (2, .int v2)] [] S none S' := by
  intro n
  induction n with
  | zero => intro v0 v1 v2 S h; simp only [o_sd_copy_47] at h; cases h
  | succ n ih =>
    intro v0 v1 v2 S h
    simp only [o_sd_copy_47] at h
    refine RR.runs (pc' := 49) (lc' := [(0, .ref v0), (1, .ref v1), (2, .int v2)]) (st' := [.ref v0, .int v2]) (S1 := S) (nL := 3) (cd := cd_1002) mx_1002 rfl rfl 2 rfl ?_
    obtain ⟨g1, h⟩ := gpE h
    refine RR.gPo (pc' := 52) (lc' := [(0, .ref v0), (1, .ref v1), (2, .int v2)]) (st' := [.ref (v0 + 30), .int v2]) (S1 := S) (nL := 3) (cd := cd_1002) mx_1002 rfl rfl rfl ⟨g1, by decide, by decide⟩ ?_
    obtain ⟨g, h⟩ := gpE h
    refine RR.gP (pc' := 53) (lc' := [(0, .ref v0), (1, .ref v1), (2, .int v2)]) (st' := [.int ((Int32.ofNat (KO.1 (v0 + 30)).2)), .int v2]) (S1 := S) (nL := 3) (cd := cd_1002) mx_1002 rfl rfl rfl g ?_
    refine RR.runs (pc' := icm .ge v2 ((Int32.ofNat (KO.1 (v0 + 30)).2)) 73 56) (lc' := [(0, .ref v0), (1, .ref v1), (2, .int v2)]) (st' := []) (S1 := S) (nL := 3) (cd := cd_1002) mx_1002 rfl rfl 1 rfl ?_
    rcases ifE h with ⟨c, h⟩ | ⟨c, h⟩
    · refine RR.c_ge (fun _ => ?_) (fun q => absurd c q)
      refine RR.runs (pc' := 57) (lc' := [(0, .ref v0), (1, .ref v1), (2, .int v2)]) (st' := [.ref v0]) (S1 := S) (nL := 3) (cd := cd_1002) mx_1002 rfl rfl 1 rfl ?_
      refine RR.gPo (pc' := 60) (lc' := [(0, .ref v0), (1, .ref v1), (2, .int v2)]) (st' := [.ref (v0 + 30)]) (S1 := S) (nL := 3) (cd := cd_1002) mx_1002 rfl rfl rfl ⟨g1, by decide, by decide⟩ ?_
      refine RR.runs (pc' := 63) (lc' := [(0, .ref v0), (1, .ref v1), (2, .int v2)]) (st' := [.int v2, .ref v1, .int v2, .ref (v0 + 30)]) (S1 := S) (nL := 3) (cd := cd_1002) mx_1002 rfl rfl 3 rfl ?_
      obtain ⟨g2, h⟩ := gpE h
      obtain ⟨r3, S4, h1, h⟩ := bnE h
      refine RR.callV (b := v1) (as := [.int v2]) (rest := [.int v2, .ref (v0 + 30)]) (r1 := (some (.int r3))) (S1 := S4) mx_1002 rfl rfl mx_1005 rfl rfl (by decide) (Or.inl g2) (Nat.le_of_ble_eq_true rfl) (Nat.le_of_ble_eq_true rfl) (RC.deep (by omega) (s_o_sd_soundOf (d := d) _ _ _ h1)) ?_
      show RR KO _ 1002 66 [(0, .ref v0), (1, .ref v1), (2, .int v2)] [.int r3, .int v2, .ref (v0 + 30)] S4 _ _
      obtain ⟨gq, h⟩ := gpE h
      obtain ⟨g, h⟩ := gnE h
      refine RR.gPNo (c2 := (KO.1 (v0 + 30)).1 = 1) (pc' := 67) (lc' := [(0, .ref v0), (1, .ref v1), (2, .int v2)]) (st' := []) (S1 := (wI S4 (v0 + 30) v2.toNatClampNeg r3)) (nL := 3) (cd := cd_1002) mx_1002 rfl rfl rfl gq g ?_
      obtain ⟨S5, eS5, h⟩ := ltE h
      rw [← eS5]
      refine RR.runs (pc' := 70) (lc' := [(2, .int ((v2 + (1 : Int32)))), (0, .ref v0), (1, .ref v1)]) (st' := []) (S1 := S5) (nL := 3) (cd := cd_1002) mx_1002 rfl rfl 1 rfl ?_
      obtain ⟨x6, ex6, h⟩ := ltE h
      rw [← ex6]
      refine RR.runs (pc' := 47) (lc' := [(2, .int x6), (0, .ref v0), (1, .ref v1)]) (st' := []) (S1 := S5) (nL := 3) (cd := cd_1002) mx_1002 rfl rfl 1 rfl ?_
      refine RR.weak [(0, .ref v0), (1, .ref v1), (2, .int x6)] ⟨rfl, rfl, rfl, trivial⟩ ?_
      exact ih _ _ _ _ h
    · refine RR.c_ge (fun q => absurd q c) (fun _ => ?_)
      refine RR.weak [] trivial ?_
      exact s_o_sd_copy_73 _ h
def o_sd_copy (v0 : Nat) (v1 : Nat) (S : St) : Re Unit :=
  if KO.1 v1 = (0, 5) then (
  if KO.1 v0 = (0, 5) then (
lt' (wI S v0 1 (rI S v1 1)) fun S2 =>
    lt' (wI S2 v0 2 (rI S2 v1 2)) fun S4 =>
    lt' (wI S4 v0 3 (rI S4 v1 3)) fun S5 =>
    lt' (wI S5 v0 4 (rI S5 v1 4)) fun S6 =>
    if isBo (rI S6 v1 5) = true then (
lt' (wI S6 v0 5 (rI S6 v1 5)) fun S7 =>
  o_sd_copy_47 FU v0 v1 (0 : Int32) S7) else none) else none) else none
set_option maxRecDepth 100000 in
theorem s0_o_sd_copy {d : Nat} {S' : St} {r : Unit} (v0 : Nat) (v1 : Nat) (S : St) (h : o_sd_copy v0 v1 S = some (r, S')) : RR KO (d + 1) 1002 0 [(0, .ref v0), (1, .ref v1)] [] S none S' := by
  unfold o_sd_copy at h
  refine RR.runs (pc' := 7) (lc' := [(0, .ref v0), (1, .ref v1)]) (st' := [.ref v1, .ref v0]) (S1 := S) (nL := 3) (cd := cd_1002) mx_1002 rfl rfl 4 rfl ?_
  obtain ⟨g1, h⟩ := gpE h
  refine RR.gPo (pc' := 10) (lc' := [(0, .ref v0), (1, .ref v1)]) (st' := [.int (rI S v1 1), .ref v0]) (S1 := S) (nL := 3) (cd := cd_1002) mx_1002 rfl rfl rfl ⟨g1, by decide, by decide⟩ ?_
  obtain ⟨g3, h⟩ := gpE h
  refine RR.gP (pc' := 13) (lc' := [(0, .ref v0), (1, .ref v1)]) (st' := []) (S1 := (wI S v0 1 (rI S v1 1))) (nL := 3) (cd := cd_1002) mx_1002 rfl rfl rfl ⟨g3, by decide, rfl, by decide⟩ ?_
  obtain ⟨S2, eS2, h⟩ := ltE h
  rw [← eS2]
  refine RR.runs (pc' := 15) (lc' := [(0, .ref v0), (1, .ref v1)]) (st' := [.ref v1, .ref v0]) (S1 := S2) (nL := 3) (cd := cd_1002) mx_1002 rfl rfl 2 rfl ?_
  refine RR.gPo (pc' := 18) (lc' := [(0, .ref v0), (1, .ref v1)]) (st' := [.int (rI S2 v1 2), .ref v0]) (S1 := S2) (nL := 3) (cd := cd_1002) mx_1002 rfl rfl rfl ⟨g1, by decide, by decide⟩ ?_
  refine RR.gP (pc' := 21) (lc' := [(0, .ref v0), (1, .ref v1)]) (st' := []) (S1 := (wI S2 v0 2 (rI S2 v1 2))) (nL := 3) (cd := cd_1002) mx_1002 rfl rfl rfl ⟨g3, by decide, rfl, by decide⟩ ?_
  obtain ⟨S4, eS4, h⟩ := ltE h
  rw [← eS4]
  refine RR.runs (pc' := 23) (lc' := [(0, .ref v0), (1, .ref v1)]) (st' := [.ref v1, .ref v0]) (S1 := S4) (nL := 3) (cd := cd_1002) mx_1002 rfl rfl 2 rfl ?_
  refine RR.gPo (pc' := 26) (lc' := [(0, .ref v0), (1, .ref v1)]) (st' := [.int (rI S4 v1 3), .ref v0]) (S1 := S4) (nL := 3) (cd := cd_1002) mx_1002 rfl rfl rfl ⟨g1, by decide, by decide⟩ ?_
  refine RR.gP (pc' := 29) (lc' := [(0, .ref v0), (1, .ref v1)]) (st' := []) (S1 := (wI S4 v0 3 (rI S4 v1 3))) (nL := 3) (cd := cd_1002) mx_1002 rfl rfl rfl ⟨g3, by decide, rfl, by decide⟩ ?_
  obtain ⟨S5, eS5, h⟩ := ltE h
  rw [← eS5]
  refine RR.runs (pc' := 31) (lc' := [(0, .ref v0), (1, .ref v1)]) (st' := [.ref v1, .ref v0]) (S1 := S5) (nL := 3) (cd := cd_1002) mx_1002 rfl rfl 2 rfl ?_
  refine RR.gPo (pc' := 34) (lc' := [(0, .ref v0), (1, .ref v1)]) (st' := [.int (rI S5 v1 4), .ref v0]) (S1 := S5) (nL := 3) (cd := cd_1002) mx_1002 rfl rfl rfl ⟨g1, by decide, by decide⟩ ?_
  refine RR.gP (pc' := 37) (lc' := [(0, .ref v0), (1, .ref v1)]) (st' := []) (S1 := (wI S5 v0 4 (rI S5 v1 4))) (nL := 3) (cd := cd_1002) mx_1002 rfl rfl rfl ⟨g3, by decide, rfl, by decide⟩ ?_
  obtain ⟨S6, eS6, h⟩ := ltE h
  rw [← eS6]
  refine RR.runs (pc' := 39) (lc' := [(0, .ref v0), (1, .ref v1)]) (st' := [.ref v1, .ref v0]) (S1 := S6) (nL := 3) (cd := cd_1002) mx_1002 rfl rfl 2 rfl ?_
  refine RR.gPo (pc' := 42) (lc' := [(0, .ref v0), (1, .ref v1)]) (st' := [.int (rI S6 v1 5), .ref v0]) (S1 := S6) (nL := 3) (cd := cd_1002) mx_1002 rfl rfl rfl ⟨g1, by decide, by decide⟩ ?_
  obtain ⟨g8, h⟩ := gpE h
  refine RR.gPP (pc' := 45) (lc' := [(0, .ref v0), (1, .ref v1)]) (st' := []) (S1 := (wI S6 v0 5 (rI S6 v1 5))) (nL := 3) (cd := cd_1002) mx_1002 rfl rfl rfl ⟨g3, by decide, rfl, by decide⟩ g8 ?_
  obtain ⟨S7, eS7, h⟩ := ltE h
  rw [← eS7]
  refine RR.runs (pc' := 47) (lc' := [(2, .int (0 : Int32)), (0, .ref v0), (1, .ref v1)]) (st' := []) (S1 := S7) (nL := 3) (cd := cd_1002) mx_1002 rfl rfl 2 rfl ?_
  refine RR.weak [(0, .ref v0), (1, .ref v1), (2, .int (0 : Int32))] ⟨rfl, rfl, rfl, trivial⟩ ?_
  exact s_o_sd_copy_47 _ _ _ _ _ h
theorem s_o_sd_copy {d : Nat} {S' : St} {r : Unit} (v0 : Nat) (v1 : Nat) (S : St) (h : o_sd_copy v0 v1 S = some (r, S')) : RC KO (d + 1) 1002 [.ref v0, .ref v1] S none S' := RC.of rfl (s0_o_sd_copy v0 v1 S h)
-- NameOrchard$Standing hangs (I)Z
def o_sd_hangs_29 (p0 : Int32) (S : St) : Re Int32 :=
  if isBo p0 = true then some (p0, S) else none
set_option maxRecDepth 100000 in
theorem s_o_sd_hangs_29 {d : Nat} {S' : St} {r : Int32} (p0 : Int32) (S : St) (h : o_sd_hangs_29 p0 S = some (r, S')) : RR KO (d + 0) 1003 29 [] [.int p0] S (some (.int r)) S' := by
  unfold o_sd_hangs_29 at h
  obtain ⟨g, h⟩ := gpE h
  cases h
  exact RR.retz mx_1003 rfl rfl rfl g
def o_sd_hangs_28 (S : St) : Re Int32 :=
  o_sd_hangs_29 (0 : Int32) S
set_option maxRecDepth 100000 in
theorem s_o_sd_hangs_28 {d : Nat} {S' : St} {r : Int32} (S : St) (h : o_sd_hangs_28 S = some (r, S')) : RR KO (d + 0) 1003 28 [] [] S (some (.int r)) S' := by
  unfold o_sd_hangs_28 at h
  refine RR.runs (pc' := 29) (lc' := []) (st' := [.int (0 : Int32)]) (S1 := S) (nL := 2) (cd := cd_1003) mx_1003 rfl rfl 1 rfl ?_
  refine RR.weak [] trivial ?_
  exact s_o_sd_hangs_29 _ _ h
def o_sd_hangs (v0 : Nat) (v1 : Int32) (S : St) : Re Int32 :=
  if v1 < 0 then (
    o_sd_hangs_28 S)
  else (
    if KO.1 v0 = (0, 5) then (
    if 1 ≤ (KO.1 (v0 + 30)).1 ∧ (KO.1 (v0 + 30)).1 < 8 then (
    if v1 < (Int32.ofNat (KO.1 (v0 + 30)).2) then (
            if (((rI S v0 1) >>> (v1 &&& 31)) &&& (1 : Int32)) = 0 then (
        o_sd_hangs_28 S)
      else (
        o_sd_hangs_29 (1 : Int32) S))
    else (
      o_sd_hangs_28 S)) else none) else none)
set_option maxRecDepth 100000 in
theorem s0_o_sd_hangs {d : Nat} {S' : St} {r : Int32} (v0 : Nat) (v1 : Int32) (S : St) (h : o_sd_hangs v0 v1 S = some (r, S')) : RR KO (d + 0) 1003 0 [(0, .ref v0), (1, .int v1)] [] S (some (.int r)) S' := by
  unfold o_sd_hangs at h
  refine RR.runs (pc' := icm .lt v1 0 28 4) (lc' := [(0, .ref v0), (1, .int v1)]) (st' := []) (S1 := S) (nL := 2) (cd := cd_1003) mx_1003 rfl rfl 2 rfl ?_
  rcases ifE h with ⟨c, h⟩ | ⟨c, h⟩
  · refine RR.c_lt (fun _ => ?_) (fun q => absurd c q)
    refine RR.weak [] trivial ?_
    exact s_o_sd_hangs_28 _ h
  · refine RR.c_lt (fun q => absurd q c) (fun _ => ?_)
    refine RR.runs (pc' := 6) (lc' := [(0, .ref v0), (1, .int v1)]) (st' := [.ref v0, .int v1]) (S1 := S) (nL := 2) (cd := cd_1003) mx_1003 rfl rfl 2 rfl ?_
    obtain ⟨g1, h⟩ := gpE h
    refine RR.gPo (pc' := 9) (lc' := [(0, .ref v0), (1, .int v1)]) (st' := [.ref (v0 + 30), .int v1]) (S1 := S) (nL := 2) (cd := cd_1003) mx_1003 rfl rfl rfl ⟨g1, by decide, by decide⟩ ?_
    obtain ⟨g, h⟩ := gpE h
    refine RR.gP (pc' := 10) (lc' := [(0, .ref v0), (1, .int v1)]) (st' := [.int ((Int32.ofNat (KO.1 (v0 + 30)).2)), .int v1]) (S1 := S) (nL := 2) (cd := cd_1003) mx_1003 rfl rfl rfl g ?_
    refine RR.runs (pc' := icm .ge v1 ((Int32.ofNat (KO.1 (v0 + 30)).2)) 28 13) (lc' := [(0, .ref v0), (1, .int v1)]) (st' := []) (S1 := S) (nL := 2) (cd := cd_1003) mx_1003 rfl rfl 1 rfl ?_
    rcases ifE h with ⟨c, h⟩ | ⟨c, h⟩
    · refine RR.c_ge (fun _ => ?_) (fun q => absurd c q)
      refine RR.runs (pc' := 14) (lc' := [(0, .ref v0), (1, .int v1)]) (st' := [.ref v0]) (S1 := S) (nL := 2) (cd := cd_1003) mx_1003 rfl rfl 1 rfl ?_
      refine RR.gPo (pc' := 17) (lc' := [(0, .ref v0), (1, .int v1)]) (st' := [.int (rI S v0 1)]) (S1 := S) (nL := 2) (cd := cd_1003) mx_1003 rfl rfl rfl ⟨g1, by decide, by decide⟩ ?_
      refine RR.runs (pc' := icm .eq ((((rI S v0 1) >>> (v1 &&& 31)) &&& (1 : Int32))) 0 28 24) (lc' := [(0, .ref v0), (1, .int v1)]) (st' := []) (S1 := S) (nL := 2) (cd := cd_1003) mx_1003 rfl rfl 5 rfl ?_
      rcases ifE h with ⟨c, h⟩ | ⟨c, h⟩
      · refine RR.c_eq (fun _ => ?_) (fun q => absurd c q)
        refine RR.weak [] trivial ?_
        exact s_o_sd_hangs_28 _ h
      · refine RR.c_eq (fun q => absurd q c) (fun _ => ?_)
        refine RR.runs (pc' := 29) (lc' := [(0, .ref v0), (1, .int v1)]) (st' := [.int (1 : Int32)]) (S1 := S) (nL := 2) (cd := cd_1003) mx_1003 rfl rfl 2 rfl ?_
        refine RR.weak [] trivial ?_
        exact s_o_sd_hangs_29 _ _ h
    · refine RR.c_ge (fun q => absurd q c) (fun _ => ?_)
      refine RR.weak [] trivial ?_
      exact s_o_sd_hangs_28 _ h
theorem s_o_sd_hangs {d : Nat} {S' : St} {r : Int32} (v0 : Nat) (v1 : Int32) (S : St) (h : o_sd_hangs v0 v1 S = some (r, S')) : RC KO (d + 0) 1003 [.ref v0, .int v1] S (some (.int r)) S' := RC.of rfl (s0_o_sd_hangs v0 v1 S h)
-- NameOrchard$Standing isLoose (I)Z
def o_sd_isLoose_24 (p0 : Int32) (S : St) : Re Int32 :=
  if isBo p0 = true then some (p0, S) else none
set_option maxRecDepth 100000 in
theorem s_o_sd_isLoose_24 {d : Nat} {S' : St} {r : Int32} (p0 : Int32) (S : St) (h : o_sd_isLoose_24 p0 S = some (r, S')) : RR KO (d + 1) 1004 24 [] [.int p0] S (some (.int r)) S' := by
  unfold o_sd_isLoose_24 at h
  obtain ⟨g, h⟩ := gpE h
  cases h
  exact RR.retz mx_1004 rfl rfl rfl g
def o_sd_isLoose_23 (S : St) : Re Int32 :=
  o_sd_isLoose_24 (0 : Int32) S
set_option maxRecDepth 100000 in
theorem s_o_sd_isLoose_23 {d : Nat} {S' : St} {r : Int32} (S : St) (h : o_sd_isLoose_23 S = some (r, S')) : RR KO (d + 1) 1004 23 [] [] S (some (.int r)) S' := by
  unfold o_sd_isLoose_23 at h
  refine RR.runs (pc' := 24) (lc' := []) (st' := [.int (0 : Int32)]) (S1 := S) (nL := 2) (cd := cd_1004) mx_1004 rfl rfl 1 rfl ?_
  refine RR.weak [] trivial ?_
  exact s_o_sd_isLoose_24 _ _ h
def o_sd_isLoose (v0 : Nat) (v1 : Int32) (S : St) : Re Int32 :=
  if KO.1 v0 = (0, 5) then (
bn (o_sd_hangs v0 v1 S) fun r2 S3 =>
  if r2 = 0 then (
    o_sd_isLoose_23 S3)
  else (
        if (((rI S3 v0 2) >>> (v1 &&& 31)) &&& (1 : Int32)) = 0 then (
      o_sd_isLoose_23 S3)
    else (
      o_sd_isLoose_24 (1 : Int32) S3))) else none
set_option maxRecDepth 100000 in
theorem s0_o_sd_isLoose {d : Nat} {S' : St} {r : Int32} (v0 : Nat) (v1 : Int32) (S : St) (h : o_sd_isLoose v0 v1 S = some (r, S')) : RR KO (d + 1) 1004 0 [(0, .ref v0), (1, .int v1)] [] S (some (.int r)) S' := by
  unfold o_sd_isLoose at h
  refine RR.runs (pc' := 2) (lc' := [(0, .ref v0), (1, .int v1)]) (st' := [.int v1, .ref v0]) (S1 := S) (nL := 2) (cd := cd_1004) mx_1004 rfl rfl 2 rfl ?_
  obtain ⟨g1, h⟩ := gpE h
  obtain ⟨r2, S3, h1, h⟩ := bnE h
  refine RR.callV (b := v0) (as := [.int v1]) (rest := []) (r1 := (some (.int r2))) (S1 := S3) mx_1004 rfl rfl mx_1003 rfl rfl (by decide) (Or.inl g1) (Nat.le_of_ble_eq_true rfl) (Nat.le_of_ble_eq_true rfl) (RC.deep (by omega) (s_o_sd_hangs (d := d) _ _ _ h1)) ?_
  show RR KO _ 1004 5 [(0, .ref v0), (1, .int v1)] [.int r2] S3 _ _
  refine RR.runs (pc' := icm .eq r2 0 23 8) (lc' := [(0, .ref v0), (1, .int v1)]) (st' := []) (S1 := S3) (nL := 2) (cd := cd_1004) mx_1004 rfl rfl 1 rfl ?_
  rcases ifE h with ⟨c, h⟩ | ⟨c, h⟩
  · refine RR.c_eq (fun _ => ?_) (fun q => absurd c q)
    refine RR.weak [] trivial ?_
    exact s_o_sd_isLoose_23 _ h
  · refine RR.c_eq (fun q => absurd q c) (fun _ => ?_)
    refine RR.runs (pc' := 9) (lc' := [(0, .ref v0), (1, .int v1)]) (st' := [.ref v0]) (S1 := S3) (nL := 2) (cd := cd_1004) mx_1004 rfl rfl 1 rfl ?_
    refine RR.gPo (pc' := 12) (lc' := [(0, .ref v0), (1, .int v1)]) (st' := [.int (rI S3 v0 2)]) (S1 := S3) (nL := 2) (cd := cd_1004) mx_1004 rfl rfl rfl ⟨g1, by decide, by decide⟩ ?_
    refine RR.runs (pc' := icm .eq ((((rI S3 v0 2) >>> (v1 &&& 31)) &&& (1 : Int32))) 0 23 19) (lc' := [(0, .ref v0), (1, .int v1)]) (st' := []) (S1 := S3) (nL := 2) (cd := cd_1004) mx_1004 rfl rfl 5 rfl ?_
    rcases ifE h with ⟨c, h⟩ | ⟨c, h⟩
    · refine RR.c_eq (fun _ => ?_) (fun q => absurd c q)
      refine RR.weak [] trivial ?_
      exact s_o_sd_isLoose_23 _ h
    · refine RR.c_eq (fun q => absurd q c) (fun _ => ?_)
      refine RR.runs (pc' := 24) (lc' := [(0, .ref v0), (1, .int v1)]) (st' := [.int (1 : Int32)]) (S1 := S3) (nL := 2) (cd := cd_1004) mx_1004 rfl rfl 2 rfl ?_
      refine RR.weak [] trivial ?_
      exact s_o_sd_isLoose_24 _ _ h
theorem s_o_sd_isLoose {d : Nat} {S' : St} {r : Int32} (v0 : Nat) (v1 : Int32) (S : St) (h : o_sd_isLoose v0 v1 S = some (r, S')) : RC KO (d + 1) 1004 [.ref v0, .int v1] S (some (.int r)) S' := RC.of rfl (s0_o_sd_isLoose v0 v1 S h)
-- NameOrchard$Standing name (II)V
def o_sd_name_20 (S : St) : Re Unit :=
  some ((), S)
set_option maxRecDepth 100000 in
theorem s_o_sd_name_20 {d : Nat} {S' : St} {r : Unit} (S : St) (h : o_sd_name_20 S = some (r, S')) : RR KO (d + 0) 1006 20 [] [] S none S' := by
  unfold o_sd_name_20 at h
  cases h
  exact RR.retv mx_1006 rfl rfl rfl
def o_sd_name (v0 : Nat) (v1 : Int32) (v2 : Int32) (S : St) : Re Unit :=
  if v1 < 0 then (
    o_sd_name_20 S)
  else (
    if KO.1 v0 = (0, 5) then (
    if 1 ≤ (KO.1 (v0 + 30)).1 ∧ (KO.1 (v0 + 30)).1 < 8 then (
    if v1 < (Int32.ofNat (KO.1 (v0 + 30)).2) then (
            if (KO.1 (v0 + 30)).1 = 1 then (
      if v1 < 0 ∨ (KO.1 (v0 + 30)).2 ≤ v1.toNatClampNeg then none else
      lt' (wI S (v0 + 30) v1.toNatClampNeg v2) fun S2 =>
      o_sd_name_20 S2) else none)
    else (
      o_sd_name_20 S)) else none) else none)
set_option maxRecDepth 100000 in
theorem s0_o_sd_name {d : Nat} {S' : St} {r : Unit} (v0 : Nat) (v1 : Int32) (v2 : Int32) (S : St) (h : o_sd_name v0 v1 v2 S = some (r, S')) : RR KO (d + 0) 1006 0 [(0, .ref v0), (1, .int v1), (2, .int v2)] [] S none S' := by
  unfold o_sd_name at h
  refine RR.runs (pc' := icm .lt v1 0 20 4) (lc' := [(0, .ref v0), (1, .int v1), (2, .int v2)]) (st' := []) (S1 := S) (nL := 3) (cd := cd_1006) mx_1006 rfl rfl 2 rfl ?_
  rcases ifE h with ⟨c, h⟩ | ⟨c, h⟩
  · refine RR.c_lt (fun _ => ?_) (fun q => absurd c q)
    refine RR.weak [] trivial ?_
    exact s_o_sd_name_20 _ h
  · refine RR.c_lt (fun q => absurd q c) (fun _ => ?_)
    refine RR.runs (pc' := 6) (lc' := [(0, .ref v0), (1, .int v1), (2, .int v2)]) (st' := [.ref v0, .int v1]) (S1 := S) (nL := 3) (cd := cd_1006) mx_1006 rfl rfl 2 rfl ?_
    obtain ⟨g1, h⟩ := gpE h
    refine RR.gPo (pc' := 9) (lc' := [(0, .ref v0), (1, .int v1), (2, .int v2)]) (st' := [.ref (v0 + 30), .int v1]) (S1 := S) (nL := 3) (cd := cd_1006) mx_1006 rfl rfl rfl ⟨g1, by decide, by decide⟩ ?_
    obtain ⟨g, h⟩ := gpE h
    refine RR.gP (pc' := 10) (lc' := [(0, .ref v0), (1, .int v1), (2, .int v2)]) (st' := [.int ((Int32.ofNat (KO.1 (v0 + 30)).2)), .int v1]) (S1 := S) (nL := 3) (cd := cd_1006) mx_1006 rfl rfl rfl g ?_
    refine RR.runs (pc' := icm .ge v1 ((Int32.ofNat (KO.1 (v0 + 30)).2)) 20 13) (lc' := [(0, .ref v0), (1, .int v1), (2, .int v2)]) (st' := []) (S1 := S) (nL := 3) (cd := cd_1006) mx_1006 rfl rfl 1 rfl ?_
    rcases ifE h with ⟨c, h⟩ | ⟨c, h⟩
    · refine RR.c_ge (fun _ => ?_) (fun q => absurd c q)
      refine RR.runs (pc' := 14) (lc' := [(0, .ref v0), (1, .int v1), (2, .int v2)]) (st' := [.ref v0]) (S1 := S) (nL := 3) (cd := cd_1006) mx_1006 rfl rfl 1 rfl ?_
      refine RR.gPo (pc' := 17) (lc' := [(0, .ref v0), (1, .int v1), (2, .int v2)]) (st' := [.ref (v0 + 30)]) (S1 := S) (nL := 3) (cd := cd_1006) mx_1006 rfl rfl rfl ⟨g1, by decide, by decide⟩ ?_
      refine RR.runs (pc' := 19) (lc' := [(0, .ref v0), (1, .int v1), (2, .int v2)]) (st' := [.int v2, .int v1, .ref (v0 + 30)]) (S1 := S) (nL := 3) (cd := cd_1006) mx_1006 rfl rfl 2 rfl ?_
      obtain ⟨gq, h⟩ := gpE h
      obtain ⟨g, h⟩ := gnE h
      refine RR.gPNo (c2 := (KO.1 (v0 + 30)).1 = 1) (pc' := 20) (lc' := [(0, .ref v0), (1, .int v1), (2, .int v2)]) (st' := []) (S1 := (wI S (v0 + 30) v1.toNatClampNeg v2)) (nL := 3) (cd := cd_1006) mx_1006 rfl rfl rfl gq g ?_
      obtain ⟨S2, eS2, h⟩ := ltE h
      rw [← eS2]
      refine RR.weak [] trivial ?_
      exact s_o_sd_name_20 _ h
    · refine RR.c_ge (fun q => absurd q c) (fun _ => ?_)
      refine RR.weak [] trivial ?_
      exact s_o_sd_name_20 _ h
theorem s_o_sd_name {d : Nat} {S' : St} {r : Unit} (v0 : Nat) (v1 : Int32) (v2 : Int32) (S : St) (h : o_sd_name v0 v1 v2 S = some (r, S')) : RC KO (d + 0) 1006 [.ref v0, .int v1, .int v2] S none S' := RC.of rfl (s0_o_sd_name v0 v1 v2 S h)
-- NameOrchard$Standing hasOther (II)Z
def o_sd_hasOther_36 (k2 : Nat → Int32 → Int32 → Int32 → St → Re Int32) (v0 : Nat) (v1 : Int32) (v2 : Int32) (v3 : Int32) (S : St) : Re Int32 :=
  lt' ((v3 + (1 : Int32)) : Int32) fun x1 =>
  k2 v0 v1 v2 x1 S
set_option maxRecDepth 100000 in
theorem s_o_sd_hasOther_36 {d : Nat} (k2 : Nat → Int32 → Int32 → Int32 → St → Re Int32) {S' : St} {r : Int32} (b2 : ∀ (v0 : Nat) (v1 : Int32) (v2 : Int32) (v3 : Int32) (S : St), k2 v0 v1 v2 v3 S = some (r, S') → RR KO (d + 1) 1007 2 [(0, .ref v0), (1, .int v1), (2, .int v2), (3, .int v3)] [] S (some (.int r)) S') (v0 : Nat) (v1 : Int32) (v2 : Int32) (v3 : Int32) (S : St) (h : o_sd_hasOther_36 k2 v0 v1 v2 v3 S = some (r, S')) : RR KO (d + 1) 1007 36 [(0, .ref v0), (1, .int v1), (2, .int v2), (3, .int v3)] [] S (some (.int r)) S' := by
  unfold o_sd_hasOther_36 at h
  refine RR.runs (pc' := 39) (lc' := [(3, .int ((v3 + (1 : Int32)))), (0, .ref v0), (1, .int v1), (2, .int v2)]) (st' := []) (S1 := S) (nL := 4) (cd := cd_1007) mx_1007 rfl rfl 1 rfl ?_
  obtain ⟨x1, ex1, h⟩ := ltE h
  rw [← ex1]
  refine RR.runs (pc' := 2) (lc' := [(3, .int x1), (0, .ref v0), (1, .int v1), (2, .int v2)]) (st' := []) (S1 := S) (nL := 4) (cd := cd_1007) mx_1007 rfl rfl 1 rfl ?_
  refine RR.weak [(0, .ref v0), (1, .int v1), (2, .int v2), (3, .int x1)] ⟨rfl, rfl, rfl, rfl, trivial⟩ ?_
  exact b2 _ _ _ _ _ h
def o_sd_hasOther_34 (S : St) : Re Int32 :=
  some ((1 : Int32), S)
set_option maxRecDepth 100000 in
theorem s_o_sd_hasOther_34 {d : Nat} {S' : St} {r : Int32} (S : St) (h : o_sd_hasOther_34 S = some (r, S')) : RR KO (d + 1) 1007 34 [] [] S (some (.int r)) S' := by
  unfold o_sd_hasOther_34 at h
  refine RR.runs (pc' := 35) (lc' := []) (st' := [.int (1 : Int32)]) (S1 := S) (nL := 4) (cd := cd_1007) mx_1007 rfl rfl 1 rfl ?_
  cases h
  exact RR.retz mx_1007 rfl rfl rfl rfl
def o_sd_hasOther_42 (S : St) : Re Int32 :=
  some ((0 : Int32), S)
set_option maxRecDepth 100000 in
theorem s_o_sd_hasOther_42 {d : Nat} {S' : St} {r : Int32} (S : St) (h : o_sd_hasOther_42 S = some (r, S')) : RR KO (d + 1) 1007 42 [] [] S (some (.int r)) S' := by
  unfold o_sd_hasOther_42 at h
  refine RR.runs (pc' := 43) (lc' := []) (st' := [.int (0 : Int32)]) (S1 := S) (nL := 4) (cd := cd_1007) mx_1007 rfl rfl 1 rfl ?_
  cases h
  exact RR.retz mx_1007 rfl rfl rfl rfl
def o_sd_hasOther_2 : Nat → Nat → Int32 → Int32 → Int32 → St → Re Int32
  | 0, _, _, _, _, _ => none
  | n + 1, v0, v1, v2, v3, S =>
  if KO.1 v0 = (0, 5) then (
  if 1 ≤ (KO.1 (v0 + 30)).1 ∧ (KO.1 (v0 + 30)).1 < 8 then (
  if v3 < (Int32.ofNat (KO.1 (v0 + 30)).2) then (
    if v3 = v1 then (
      o_sd_hasOther_36 (o_sd_hasOther_2 n) v0 v1 v2 v3 S)
    else (
      bn (o_sd_hangs v0 v3 S) fun r2 S3 =>
      if r2 = 0 then (
        o_sd_hasOther_36 (o_sd_hasOther_2 n) v0 v1 v2 v3 S3)
      else (
                if (KO.1 (v0 + 30)).1 = 1 then (
        if v3 < 0 ∨ (KO.1 (v0 + 30)).2 ≤ v3.toNatClampNeg then none else
        if (rI S3 (v0 + 30) v3.toNatClampNeg) = v2 then (
          o_sd_hasOther_34 S3)
        else (
          o_sd_hasOther_36 (o_sd_hasOther_2 n) v0 v1 v2 v3 S3)) else none)))
  else (
    o_sd_hasOther_42 S)) else none) else none
set_option maxRecDepth 100000 in
theorem s_o_sd_hasOther_2 {d : Nat} {S' : St} {r : Int32} : ∀ (n : Nat) (v0 : Nat) (v1 : Int32) (v2 : Int32) (v3 : Int32) (S : St), o_sd_hasOther_2 n v0 v1 v2 v3 S = some (r, S') → RR KO (d + 1) 1007 2 [(0, .ref v0), (1, .int v1), (2, .int v2), (3, .int v3)] [] S (some (.int r)) S' := by
  intro n
  induction n with
  | zero => intro v0 v1 v2 v3 S h; simp only [o_sd_hasOther_2] at h; cases h
  | succ n ih =>
    intro v0 v1 v2 v3 S h
    simp only [o_sd_hasOther_2] at h
    refine RR.runs (pc' := 4) (lc' := [(0, .ref v0), (1, .int v1), (2, .int v2), (3, .int v3)]) (st' := [.ref v0, .int v3]) (S1 := S) (nL := 4) (cd := cd_1007) mx_1007 rfl rfl 2 rfl ?_
    obtain ⟨g1, h⟩ := gpE h
    refine RR.gPo (pc' := 7) (lc' := [(0, .ref v0), (1, .int v1), (2, .int v2), (3, .int v3)]) (st' := [.ref (v0 + 30), .int v3]) (S1 := S) (nL := 4) (cd := cd_1007) mx_1007 rfl rfl rfl ⟨g1, by decide, by decide⟩ ?_
    obtain ⟨g, h⟩ := gpE h
    refine RR.gP (pc' := 8) (lc' := [(0, .ref v0), (1, .int v1), (2, .int v2), (3, .int v3)]) (st' := [.int ((Int32.ofNat (KO.1 (v0 + 30)).2)), .int v3]) (S1 := S) (nL := 4) (cd := cd_1007) mx_1007 rfl rfl rfl g ?_
    refine RR.runs (pc' := icm .ge v3 ((Int32.ofNat (KO.1 (v0 + 30)).2)) 42 11) (lc' := [(0, .ref v0), (1, .int v1), (2, .int v2), (3, .int v3)]) (st' := []) (S1 := S) (nL := 4) (cd := cd_1007) mx_1007 rfl rfl 1 rfl ?_
    rcases ifE h with ⟨c, h⟩ | ⟨c, h⟩
    · refine RR.c_ge (fun _ => ?_) (fun q => absurd c q)
      refine RR.runs (pc' := icm .eq v3 v1 36 16) (lc' := [(0, .ref v0), (1, .int v1), (2, .int v2), (3, .int v3)]) (st' := []) (S1 := S) (nL := 4) (cd := cd_1007) mx_1007 rfl rfl 3 rfl ?_
      rcases ifE h with ⟨c, h⟩ | ⟨c, h⟩
      · refine RR.c_eq (fun _ => ?_) (fun q => absurd c q)
        refine RR.weak [(0, .ref v0), (1, .int v1), (2, .int v2), (3, .int v3)] ⟨rfl, rfl, rfl, rfl, trivial⟩ ?_
        exact s_o_sd_hasOther_36 _ (fun _ _ _ _ S h => ih _ _ _ _ S h) _ _ _ _ _ h
      · refine RR.c_eq (fun q => absurd q c) (fun _ => ?_)
        refine RR.runs (pc' := 18) (lc' := [(0, .ref v0), (1, .int v1), (2, .int v2), (3, .int v3)]) (st' := [.int v3, .ref v0]) (S1 := S) (nL := 4) (cd := cd_1007) mx_1007 rfl rfl 2 rfl ?_
        obtain ⟨r2, S3, h1, h⟩ := bnE h
        refine RR.callV (b := v0) (as := [.int v3]) (rest := []) (r1 := (some (.int r2))) (S1 := S3) mx_1007 rfl rfl mx_1003 rfl rfl (by decide) (Or.inl g1) (Nat.le_of_ble_eq_true rfl) (Nat.le_of_ble_eq_true rfl) (RC.deep (by omega) (s_o_sd_hangs (d := d) _ _ _ h1)) ?_
        show RR KO _ 1007 21 [(0, .ref v0), (1, .int v1), (2, .int v2), (3, .int v3)] [.int r2] S3 _ _
        refine RR.runs (pc' := icm .eq r2 0 36 24) (lc' := [(0, .ref v0), (1, .int v1), (2, .int v2), (3, .int v3)]) (st' := []) (S1 := S3) (nL := 4) (cd := cd_1007) mx_1007 rfl rfl 1 rfl ?_
        rcases ifE h with ⟨c, h⟩ | ⟨c, h⟩
        · refine RR.c_eq (fun _ => ?_) (fun q => absurd c q)
          refine RR.weak [(0, .ref v0), (1, .int v1), (2, .int v2), (3, .int v3)] ⟨rfl, rfl, rfl, rfl, trivial⟩ ?_
          exact s_o_sd_hasOther_36 _ (fun _ _ _ _ S h => ih _ _ _ _ S h) _ _ _ _ _ h
        · refine RR.c_eq (fun q => absurd q c) (fun _ => ?_)
          refine RR.runs (pc' := 25) (lc' := [(0, .ref v0), (1, .int v1), (2, .int v2), (3, .int v3)]) (st' := [.ref v0]) (S1 := S3) (nL := 4) (cd := cd_1007) mx_1007 rfl rfl 1 rfl ?_
          refine RR.gPo (pc' := 28) (lc' := [(0, .ref v0), (1, .int v1), (2, .int v2), (3, .int v3)]) (st' := [.ref (v0 + 30)]) (S1 := S3) (nL := 4) (cd := cd_1007) mx_1007 rfl rfl rfl ⟨g1, by decide, by decide⟩ ?_
          refine RR.runs (pc' := 29) (lc' := [(0, .ref v0), (1, .int v1), (2, .int v2), (3, .int v3)]) (st' := [.int v3, .ref (v0 + 30)]) (S1 := S3) (nL := 4) (cd := cd_1007) mx_1007 rfl rfl 1 rfl ?_
          obtain ⟨gq, h⟩ := gpE h
          obtain ⟨g, h⟩ := gnE h
          refine RR.gPNo (c2 := (KO.1 (v0 + 30)).1 = 1) (pc' := 30) (lc' := [(0, .ref v0), (1, .int v1), (2, .int v2), (3, .int v3)]) (st' := [.int ((rI S3 (v0 + 30) v3.toNatClampNeg))]) (S1 := S3) (nL := 4) (cd := cd_1007) mx_1007 rfl rfl rfl gq g ?_
          refine RR.runs (pc' := icm .ne ((rI S3 (v0 + 30) v3.toNatClampNeg)) v2 36 34) (lc' := [(0, .ref v0), (1, .int v1), (2, .int v2), (3, .int v3)]) (st' := []) (S1 := S3) (nL := 4) (cd := cd_1007) mx_1007 rfl rfl 2 rfl ?_
          rcases ifE h with ⟨c, h⟩ | ⟨c, h⟩
          · refine RR.c_ne (fun _ => ?_) (fun q => absurd c q)
            refine RR.weak [] trivial ?_
            exact s_o_sd_hasOther_34 _ h
          · refine RR.c_ne (fun q => absurd q c) (fun _ => ?_)
            refine RR.weak [(0, .ref v0), (1, .int v1), (2, .int v2), (3, .int v3)] ⟨rfl, rfl, rfl, rfl, trivial⟩ ?_
            exact s_o_sd_hasOther_36 _ (fun _ _ _ _ S h => ih _ _ _ _ S h) _ _ _ _ _ h
    · refine RR.c_ge (fun q => absurd q c) (fun _ => ?_)
      refine RR.weak [] trivial ?_
      exact s_o_sd_hasOther_42 _ h
def o_sd_hasOther (v0 : Nat) (v1 : Int32) (v2 : Int32) (S : St) : Re Int32 :=
  o_sd_hasOther_2 FU v0 v1 v2 (0 : Int32) S
set_option maxRecDepth 100000 in
theorem s0_o_sd_hasOther {d : Nat} {S' : St} {r : Int32} (v0 : Nat) (v1 : Int32) (v2 : Int32) (S : St) (h : o_sd_hasOther v0 v1 v2 S = some (r, S')) : RR KO (d + 1) 1007 0 [(0, .ref v0), (1, .int v1), (2, .int v2)] [] S (some (.int r)) S' := by
  unfold o_sd_hasOther at h
  refine RR.runs (pc' := 2) (lc' := [(3, .int (0 : Int32)), (0, .ref v0), (1, .int v1), (2, .int v2)]) (st' := []) (S1 := S) (nL := 4) (cd := cd_1007) mx_1007 rfl rfl 2 rfl ?_
  refine RR.weak [(0, .ref v0), (1, .int v1), (2, .int v2), (3, .int (0 : Int32))] ⟨rfl, rfl, rfl, rfl, trivial⟩ ?_
  exact s_o_sd_hasOther_2 _ _ _ _ _ _ h
theorem s_o_sd_hasOther {d : Nat} {S' : St} {r : Int32} (v0 : Nat) (v1 : Int32) (v2 : Int32) (S : St) (h : o_sd_hasOther v0 v1 v2 S = some (r, S')) : RC KO (d + 1) 1007 [.ref v0, .int v1, .int v2] S (some (.int r)) S' := RC.of rfl (s0_o_sd_hasOther v0 v1 v2 S h)
-- NameOrchard$Standing fallers (LNameOrchard$Told;III)I
def o_sd_fallers (v0 : Nat) (v1 : Nat) (v2 : Int32) (v3 : Int32) (v4 : Int32) (S : St) : Re Int32 :=
  if KO.1 v0 = (0, 5) then (
bn (o_sd_meant v0 v1 v4 S) fun r2 S3 =>
      if KO.1 v1 = (0, 10) then (
bn (o_to_within v1 v2 v3 S3) fun r5 S6 =>
  bn (o_to_within v1 v2 (((2 : Int32) * v3)) S6) fun r7 S8 =>
  bn (o_to_felled v1 (rI S3 v0 1) (rI S3 v0 2) (r2 &&& r5) (r2 &&& r7) S8) fun r9 S10 =>
  some (r9, S10)) else none) else none
set_option maxRecDepth 100000 in
theorem s0_o_sd_fallers {d : Nat} {S' : St} {r : Int32} (v0 : Nat) (v1 : Nat) (v2 : Int32) (v3 : Int32) (v4 : Int32) (S : St) (h : o_sd_fallers v0 v1 v2 v3 v4 S = some (r, S')) : RR KO (d + 3) 1010 0 [(0, .ref v0), (1, .ref v1), (2, .int v2), (3, .int v3), (4, .int v4)] [] S (some (.int r)) S' := by
  unfold o_sd_fallers at h
  refine RR.runs (pc' := 4) (lc' := [(0, .ref v0), (1, .ref v1), (2, .int v2), (3, .int v3), (4, .int v4)]) (st' := [.int v4, .ref v1, .ref v0]) (S1 := S) (nL := 6) (cd := cd_1010) mx_1010 rfl rfl 3 rfl ?_
  obtain ⟨g1, h⟩ := gpE h
  obtain ⟨r2, S3, h1, h⟩ := bnE h
  refine RR.callV (b := v0) (as := [.ref v1, .int v4]) (rest := []) (r1 := (some (.int r2))) (S1 := S3) mx_1010 rfl rfl mx_1009 rfl rfl (by decide) (Or.inl g1) (Nat.le_of_ble_eq_true rfl) (Nat.le_of_ble_eq_true rfl) (RC.deep (by omega) (s_o_sd_meant (d := d) _ _ _ _ h1)) ?_
  show RR KO _ 1010 7 [(0, .ref v0), (1, .ref v1), (2, .int v2), (3, .int v3), (4, .int v4)] [.int r2] S3 _ _
  refine RR.runs (pc' := 11) (lc' := [(5, .int r2), (0, .ref v0), (1, .ref v1), (2, .int v2), (3, .int v3), (4, .int v4)]) (st' := [.ref v0, .ref v1]) (S1 := S3) (nL := 6) (cd := cd_1010) mx_1010 rfl rfl 3 rfl ?_
  refine RR.gPo (pc' := 14) (lc' := [(5, .int r2), (0, .ref v0), (1, .ref v1), (2, .int v2), (3, .int v3), (4, .int v4)]) (st' := [.int (rI S3 v0 1), .ref v1]) (S1 := S3) (nL := 6) (cd := cd_1010) mx_1010 rfl rfl rfl ⟨g1, by decide, by decide⟩ ?_
  refine RR.runs (pc' := 15) (lc' := [(5, .int r2), (0, .ref v0), (1, .ref v1), (2, .int v2), (3, .int v3), (4, .int v4)]) (st' := [.ref v0, .int (rI S3 v0 1), .ref v1]) (S1 := S3) (nL := 6) (cd := cd_1010) mx_1010 rfl rfl 1 rfl ?_
  refine RR.gPo (pc' := 18) (lc' := [(5, .int r2), (0, .ref v0), (1, .ref v1), (2, .int v2), (3, .int v3), (4, .int v4)]) (st' := [.int (rI S3 v0 2), .int (rI S3 v0 1), .ref v1]) (S1 := S3) (nL := 6) (cd := cd_1010) mx_1010 rfl rfl rfl ⟨g1, by decide, by decide⟩ ?_
  refine RR.runs (pc' := 23) (lc' := [(5, .int r2), (0, .ref v0), (1, .ref v1), (2, .int v2), (3, .int v3), (4, .int v4)]) (st' := [.int v3, .int v2, .ref v1, .int r2, .int (rI S3 v0 2), .int (rI S3 v0 1), .ref v1]) (S1 := S3) (nL := 6) (cd := cd_1010) mx_1010 rfl rfl 4 rfl ?_
  obtain ⟨g4, h⟩ := gpE h
  obtain ⟨r5, S6, h1, h⟩ := bnE h
  refine RR.callV (b := v1) (as := [.int v2, .int v3]) (rest := [.int r2, .int (rI S3 v0 2), .int (rI S3 v0 1), .ref v1]) (r1 := (some (.int r5))) (S1 := S6) mx_1010 rfl rfl mx_2018 rfl rfl (by decide) (Or.inl g4) (Nat.le_of_ble_eq_true rfl) (Nat.le_of_ble_eq_true rfl) (RC.deep (by omega) (s_o_to_within (d := d) _ _ _ _ h1)) ?_
  show RR KO _ 1010 26 [(5, .int r2), (0, .ref v0), (1, .ref v1), (2, .int v2), (3, .int v3), (4, .int v4)] [.int r5, .int r2, .int (rI S3 v0 2), .int (rI S3 v0 1), .ref v1] S6 _ _
  refine RR.runs (pc' := 34) (lc' := [(5, .int r2), (0, .ref v0), (1, .ref v1), (2, .int v2), (3, .int v3), (4, .int v4)]) (st' := [.int (((2 : Int32) * v3)), .int v2, .ref v1, .int r2, .int (r2 &&& r5), .int (rI S3 v0 2), .int (rI S3 v0 1), .ref v1]) (S1 := S6) (nL := 6) (cd := cd_1010) mx_1010 rfl rfl 7 rfl ?_
  obtain ⟨r7, S8, h1, h⟩ := bnE h
  refine RR.callV (b := v1) (as := [.int v2, .int (((2 : Int32) * v3))]) (rest := [.int r2, .int (r2 &&& r5), .int (rI S3 v0 2), .int (rI S3 v0 1), .ref v1]) (r1 := (some (.int r7))) (S1 := S8) mx_1010 rfl rfl mx_2018 rfl rfl (by decide) (Or.inl g4) (Nat.le_of_ble_eq_true rfl) (Nat.le_of_ble_eq_true rfl) (RC.deep (by omega) (s_o_to_within (d := d) _ _ _ _ h1)) ?_
  show RR KO _ 1010 37 [(5, .int r2), (0, .ref v0), (1, .ref v1), (2, .int v2), (3, .int v3), (4, .int v4)] [.int r7, .int r2, .int (r2 &&& r5), .int (rI S3 v0 2), .int (rI S3 v0 1), .ref v1] S8 _ _
  refine RR.runs (pc' := 38) (lc' := [(5, .int r2), (0, .ref v0), (1, .ref v1), (2, .int v2), (3, .int v3), (4, .int v4)]) (st' := [.int (r2 &&& r7), .int (r2 &&& r5), .int (rI S3 v0 2), .int (rI S3 v0 1), .ref v1]) (S1 := S8) (nL := 6) (cd := cd_1010) mx_1010 rfl rfl 1 rfl ?_
  obtain ⟨r9, S10, h1, h⟩ := bnE h
  refine RR.callV (b := v1) (as := [.int (rI S3 v0 1), .int (rI S3 v0 2), .int (r2 &&& r5), .int (r2 &&& r7)]) (rest := []) (r1 := (some (.int r9))) (S1 := S10) mx_1010 rfl rfl mx_2019 rfl rfl (by decide) (Or.inl g4) (Nat.le_of_ble_eq_true rfl) (Nat.le_of_ble_eq_true rfl) (RC.deep (by omega) (s_o_to_felled (d := d) _ _ _ _ _ _ h1)) ?_
  show RR KO _ 1010 41 [(5, .int r2), (0, .ref v0), (1, .ref v1), (2, .int v2), (3, .int v3), (4, .int v4)] [.int r9] S10 _ _
  cases h
  exact RR.reti mx_1010 rfl rfl rfl
theorem s_o_sd_fallers {d : Nat} {S' : St} {r : Int32} (v0 : Nat) (v1 : Nat) (v2 : Int32) (v3 : Int32) (v4 : Int32) (S : St) (h : o_sd_fallers v0 v1 v2 v3 v4 S = some (r, S')) : RC KO (d + 3) 1010 [.ref v0, .ref v1, .int v2, .int v3, .int v4] S (some (.int r)) S' := RC.of rfl (s0_o_sd_fallers v0 v1 v2 v3 v4 S h)
-- NameOrchard$Told valuesOf (II)I
def o_to_valuesOf_38 (k5 : Nat → Int32 → Int32 → Int32 → Int32 → St → Re Int32) (v0 : Nat) (v1 : Int32) (v2 : Int32) (v4 : Int32) (p0 : Int32) (p1 : Int32) (S : St) : Re Int32 :=
  lt' ((p1 + p0) : Int32) fun x1 =>
  lt' ((v4 + (1 : Int32)) : Int32) fun x2 =>
  k5 v0 v1 v2 x1 x2 S
set_option maxRecDepth 100000 in
theorem s_o_to_valuesOf_38 {d : Nat} (k5 : Nat → Int32 → Int32 → Int32 → Int32 → St → Re Int32) {S' : St} {r : Int32} (b5 : ∀ (v0 : Nat) (v1 : Int32) (v2 : Int32) (v3 : Int32) (v4 : Int32) (S : St), k5 v0 v1 v2 v3 v4 S = some (r, S') → RR KO (d + 4) 2015 5 [(0, .ref v0), (1, .int v1), (2, .int v2), (3, .int v3), (4, .int v4)] [] S (some (.int r)) S') (v0 : Nat) (v1 : Int32) (v2 : Int32) (v4 : Int32) (p0 : Int32) (p1 : Int32) (S : St) (h : o_to_valuesOf_38 k5 v0 v1 v2 v4 p0 p1 S = some (r, S')) : RR KO (d + 4) 2015 38 [(0, .ref v0), (1, .int v1), (2, .int v2), (4, .int v4)] [.int p0, .int p1] S (some (.int r)) S' := by
  unfold o_to_valuesOf_38 at h
  refine RR.runs (pc' := 40) (lc' := [(3, .int (p1 + p0)), (0, .ref v0), (1, .int v1), (2, .int v2), (4, .int v4)]) (st' := []) (S1 := S) (nL := 5) (cd := cd_2015) mx_2015 rfl rfl 2 rfl ?_
  obtain ⟨x1, ex1, h⟩ := ltE h
  rw [← ex1]
  refine RR.runs (pc' := 43) (lc' := [(4, .int ((v4 + (1 : Int32)))), (3, .int x1), (0, .ref v0), (1, .int v1), (2, .int v2)]) (st' := []) (S1 := S) (nL := 5) (cd := cd_2015) mx_2015 rfl rfl 1 rfl ?_
  obtain ⟨x2, ex2, h⟩ := ltE h
  rw [← ex2]
  refine RR.runs (pc' := 5) (lc' := [(4, .int x2), (3, .int x1), (0, .ref v0), (1, .int v1), (2, .int v2)]) (st' := []) (S1 := S) (nL := 5) (cd := cd_2015) mx_2015 rfl rfl 1 rfl ?_
  refine RR.weak [(0, .ref v0), (1, .int v1), (2, .int v2), (3, .int x1), (4, .int x2)] ⟨rfl, rfl, rfl, rfl, rfl, trivial⟩ ?_
  exact b5 _ _ _ _ _ _ h
def o_to_valuesOf_46 (v3 : Int32) (S : St) : Re Int32 :=
  some (v3, S)
set_option maxRecDepth 100000 in
theorem s_o_to_valuesOf_46 {d : Nat} {S' : St} {r : Int32} (v3 : Int32) (S : St) (h : o_to_valuesOf_46 v3 S = some (r, S')) : RR KO (d + 4) 2015 46 [(3, .int v3)] [] S (some (.int r)) S' := by
  unfold o_to_valuesOf_46 at h
  refine RR.runs (pc' := 47) (lc' := [(3, .int v3)]) (st' := [.int v3]) (S1 := S) (nL := 5) (cd := cd_2015) mx_2015 rfl rfl 1 rfl ?_
  cases h
  exact RR.reti mx_2015 rfl rfl rfl
def o_to_valuesOf_5 : Nat → Nat → Int32 → Int32 → Int32 → Int32 → St → Re Int32
  | 0, _, _, _, _, _, _ => none
  | n + 1, v0, v1, v2, v3, v4, S =>
  if KO.1 v0 = (0, 10) then (
  if KO.1 (v0 + 80) = (0, 7) then (
bn (o_tb_size (v0 + 80) S) fun r3 S4 =>
  if v4 < r3 then (
    if ((v1 >>> (v4 &&& 31)) &&& (1 : Int32)) = 0 then (
      o_to_valuesOf_38 (o_to_valuesOf_5 n) v0 v1 v2 v4 (0 : Int32) v3 S4)
    else (
      bn (o_to_valueOf v0 v4 v2 S4) fun r5 S6 =>
      o_to_valuesOf_38 (o_to_valuesOf_5 n) v0 v1 v2 v4 r5 v3 S6))
  else (
    o_to_valuesOf_46 v3 S4)) else none) else none
set_option maxRecDepth 100000 in
theorem s_o_to_valuesOf_5 {d : Nat} {S' : St} {r : Int32} : ∀ (n : Nat) (v0 : Nat) (v1 : Int32) (v2 : Int32) (v3 : Int32) (v4 : Int32) (S : St), o_to_valuesOf_5 n v0 v1 v2 v3 v4 S = some (r, S') → RR KO (d + 4) 2015 5 [(0, .ref v0), (1, .int v1), (2, .int v2), (3, .int v3), (4, .int v4)] [] S (some (.int r)) S' := by
  intro n
  induction n with
  | zero => intro v0 v1 v2 v3 v4 S h; simp only [o_to_valuesOf_5] at h; cases h
  | succ n ih =>
    intro v0 v1 v2 v3 v4 S h
    simp only [o_to_valuesOf_5] at h
    refine RR.runs (pc' := 8) (lc' := [(0, .ref v0), (1, .int v1), (2, .int v2), (3, .int v3), (4, .int v4)]) (st' := [.ref v0, .int v4]) (S1 := S) (nL := 5) (cd := cd_2015) mx_2015 rfl rfl 2 rfl ?_
    obtain ⟨g1, h⟩ := gpE h
    refine RR.gPo (pc' := 11) (lc' := [(0, .ref v0), (1, .int v1), (2, .int v2), (3, .int v3), (4, .int v4)]) (st' := [.ref (v0 + 80), .int v4]) (S1 := S) (nL := 5) (cd := cd_2015) mx_2015 rfl rfl rfl ⟨g1, by decide, by decide⟩ ?_
    obtain ⟨g2, h⟩ := gpE h
    obtain ⟨r3, S4, h1, h⟩ := bnE h
    refine RR.callV (b := (v0 + 80)) (as := []) (rest := [.int v4]) (r1 := (some (.int r3))) (S1 := S4) mx_2015 rfl rfl mx_1402 rfl rfl (by decide) (Or.inl g2) (Nat.le_of_ble_eq_true rfl) (Nat.le_of_ble_eq_true rfl) (RC.deep (by omega) (s_o_tb_size (d := d) _ _ h1)) ?_
    show RR KO _ 2015 14 [(0, .ref v0), (1, .int v1), (2, .int v2), (3, .int v3), (4, .int v4)] [.int r3, .int v4] S4 _ _
    refine RR.runs (pc' := icm .ge v4 r3 46 17) (lc' := [(0, .ref v0), (1, .int v1), (2, .int v2), (3, .int v3), (4, .int v4)]) (st' := []) (S1 := S4) (nL := 5) (cd := cd_2015) mx_2015 rfl rfl 1 rfl ?_
    rcases ifE h with ⟨c, h⟩ | ⟨c, h⟩
    · refine RR.c_ge (fun _ => ?_) (fun q => absurd c q)
      refine RR.runs (pc' := icm .eq (((v1 >>> (v4 &&& 31)) &&& (1 : Int32))) 0 37 27) (lc' := [(0, .ref v0), (1, .int v1), (2, .int v2), (3, .int v3), (4, .int v4)]) (st' := [.int v3]) (S1 := S4) (nL := 5) (cd := cd_2015) mx_2015 rfl rfl 7 rfl ?_
      rcases ifE h with ⟨c, h⟩ | ⟨c, h⟩
      · refine RR.c_eq (fun _ => ?_) (fun q => absurd c q)
        refine RR.runs (pc' := 38) (lc' := [(0, .ref v0), (1, .int v1), (2, .int v2), (3, .int v3), (4, .int v4)]) (st' := [.int (0 : Int32), .int v3]) (S1 := S4) (nL := 5) (cd := cd_2015) mx_2015 rfl rfl 1 rfl ?_
        refine RR.weak [(0, .ref v0), (1, .int v1), (2, .int v2), (4, .int v4)] ⟨rfl, rfl, rfl, rfl, trivial⟩ ?_
        exact s_o_to_valuesOf_38 _ (fun _ _ _ _ _ S h => ih _ _ _ _ _ S h) _ _ _ _ _ _ _ h
      · refine RR.c_eq (fun q => absurd q c) (fun _ => ?_)
        refine RR.runs (pc' := 31) (lc' := [(0, .ref v0), (1, .int v1), (2, .int v2), (3, .int v3), (4, .int v4)]) (st' := [.int v2, .int v4, .ref v0, .int v3]) (S1 := S4) (nL := 5) (cd := cd_2015) mx_2015 rfl rfl 3 rfl ?_
        obtain ⟨r5, S6, h1, h⟩ := bnE h
        refine RR.callV (b := v0) (as := [.int v4, .int v2]) (rest := [.int v3]) (r1 := (some (.int r5))) (S1 := S6) mx_2015 rfl rfl mx_2014 rfl rfl (by decide) (Or.inl g1) (Nat.le_of_ble_eq_true rfl) (Nat.le_of_ble_eq_true rfl) (RC.deep (by omega) (s_o_to_valueOf (d := d) _ _ _ _ h1)) ?_
        show RR KO _ 2015 34 [(0, .ref v0), (1, .int v1), (2, .int v2), (3, .int v3), (4, .int v4)] [.int r5, .int v3] S6 _ _
        refine RR.runs (pc' := 38) (lc' := [(0, .ref v0), (1, .int v1), (2, .int v2), (3, .int v3), (4, .int v4)]) (st' := [.int r5, .int v3]) (S1 := S6) (nL := 5) (cd := cd_2015) mx_2015 rfl rfl 1 rfl ?_
        refine RR.weak [(0, .ref v0), (1, .int v1), (2, .int v2), (4, .int v4)] ⟨rfl, rfl, rfl, rfl, trivial⟩ ?_
        exact s_o_to_valuesOf_38 _ (fun _ _ _ _ _ S h => ih _ _ _ _ _ S h) _ _ _ _ _ _ _ h
    · refine RR.c_ge (fun q => absurd q c) (fun _ => ?_)
      refine RR.weak [(3, .int v3)] ⟨rfl, trivial⟩ ?_
      exact s_o_to_valuesOf_46 _ _ h
def o_to_valuesOf (v0 : Nat) (v1 : Int32) (v2 : Int32) (S : St) : Re Int32 :=
  o_to_valuesOf_5 FU v0 v1 v2 (0 : Int32) (0 : Int32) S
set_option maxRecDepth 100000 in
theorem s0_o_to_valuesOf {d : Nat} {S' : St} {r : Int32} (v0 : Nat) (v1 : Int32) (v2 : Int32) (S : St) (h : o_to_valuesOf v0 v1 v2 S = some (r, S')) : RR KO (d + 4) 2015 0 [(0, .ref v0), (1, .int v1), (2, .int v2)] [] S (some (.int r)) S' := by
  unfold o_to_valuesOf at h
  refine RR.runs (pc' := 5) (lc' := [(4, .int (0 : Int32)), (3, .int (0 : Int32)), (0, .ref v0), (1, .int v1), (2, .int v2)]) (st' := []) (S1 := S) (nL := 5) (cd := cd_2015) mx_2015 rfl rfl 4 rfl ?_
  refine RR.weak [(0, .ref v0), (1, .int v1), (2, .int v2), (3, .int (0 : Int32)), (4, .int (0 : Int32))] ⟨rfl, rfl, rfl, rfl, rfl, trivial⟩ ?_
  exact s_o_to_valuesOf_5 _ _ _ _ _ _ _ h
theorem s_o_to_valuesOf {d : Nat} {S' : St} {r : Int32} (v0 : Nat) (v1 : Int32) (v2 : Int32) (S : St) (h : o_to_valuesOf v0 v1 v2 S = some (r, S')) : RC KO (d + 4) 2015 [.ref v0, .int v1, .int v2] S (some (.int r)) S' := RC.of rfl (s0_o_to_valuesOf v0 v1 v2 S h)
-- NameOrchard$Standing cry (LNameOrchard$Told;III)I
def o_sd_cry (v0 : Nat) (v1 : Nat) (v2 : Int32) (v3 : Int32) (v4 : Int32) (S : St) : Re Int32 :=
  if KO.1 v0 = (0, 5) then (
bn (o_sd_meant v0 v1 v4 S) fun r2 S3 =>
  if KO.1 v1 = (0, 10) then (
bn (o_to_within v1 v2 (((2 : Int32) * v3)) S3) fun r5 S6 =>
  lt' ((r2 &&& r5) : Int32) fun x7 =>
      bn (o_to_within v1 v2 v3 S6) fun r8 S9 =>
  bn (o_to_felled v1 (rI S6 v0 1) (rI S6 v0 2) (r2 &&& r8) x7 S9) fun r10 S11 =>
      bn (o_to_valuesOf v1 r10 (rI S11 v0 3) S11) fun r12 S13 =>
  lt' (wI S13 v0 4 (((rI S11 v0 4) + r12))) fun S14 =>
    lt' (wI S14 v0 1 (((rI S14 v0 1) &&& (r10 ^^^ (-1 : Int32))))) fun S15 =>
      lt' (wI S15 v0 2 ((((rI S15 v0 2) ||| x7) &&& (rI S15 v0 1)))) fun S16 =>
  some (r10, S16)) else none) else none
set_option maxRecDepth 100000 in
theorem s0_o_sd_cry {d : Nat} {S' : St} {r : Int32} (v0 : Nat) (v1 : Nat) (v2 : Int32) (v3 : Int32) (v4 : Int32) (S : St) (h : o_sd_cry v0 v1 v2 v3 v4 S = some (r, S')) : RR KO (d + 5) 1011 0 [(0, .ref v0), (1, .ref v1), (2, .int v2), (3, .int v3), (4, .int v4)] [] S (some (.int r)) S' := by
  unfold o_sd_cry at h
  refine RR.runs (pc' := 4) (lc' := [(0, .ref v0), (1, .ref v1), (2, .int v2), (3, .int v3), (4, .int v4)]) (st' := [.int v4, .ref v1, .ref v0]) (S1 := S) (nL := 8) (cd := cd_1011) mx_1011 rfl rfl 3 rfl ?_
  obtain ⟨g1, h⟩ := gpE h
  obtain ⟨r2, S3, h1, h⟩ := bnE h
  refine RR.callV (b := v0) (as := [.ref v1, .int v4]) (rest := []) (r1 := (some (.int r2))) (S1 := S3) mx_1011 rfl rfl mx_1009 rfl rfl (by decide) (Or.inl g1) (Nat.le_of_ble_eq_true rfl) (Nat.le_of_ble_eq_true rfl) (RC.deep (by omega) (s_o_sd_meant (d := d) _ _ _ _ h1)) ?_
  show RR KO _ 1011 7 [(0, .ref v0), (1, .ref v1), (2, .int v2), (3, .int v3), (4, .int v4)] [.int r2] S3 _ _
  refine RR.runs (pc' := 16) (lc' := [(5, .int r2), (0, .ref v0), (1, .ref v1), (2, .int v2), (3, .int v3), (4, .int v4)]) (st' := [.int (((2 : Int32) * v3)), .int v2, .ref v1, .int r2]) (S1 := S3) (nL := 8) (cd := cd_1011) mx_1011 rfl rfl 7 rfl ?_
  obtain ⟨g4, h⟩ := gpE h
  obtain ⟨r5, S6, h1, h⟩ := bnE h
  refine RR.callV (b := v1) (as := [.int v2, .int (((2 : Int32) * v3))]) (rest := [.int r2]) (r1 := (some (.int r5))) (S1 := S6) mx_1011 rfl rfl mx_2018 rfl rfl (by decide) (Or.inl g4) (Nat.le_of_ble_eq_true rfl) (Nat.le_of_ble_eq_true rfl) (RC.deep (by omega) (s_o_to_within (d := d) _ _ _ _ h1)) ?_
  show RR KO _ 1011 19 [(5, .int r2), (0, .ref v0), (1, .ref v1), (2, .int v2), (3, .int v3), (4, .int v4)] [.int r5, .int r2] S6 _ _
  refine RR.runs (pc' := 22) (lc' := [(6, .int (r2 &&& r5)), (5, .int r2), (0, .ref v0), (1, .ref v1), (2, .int v2), (3, .int v3), (4, .int v4)]) (st' := []) (S1 := S6) (nL := 8) (cd := cd_1011) mx_1011 rfl rfl 2 rfl ?_
  obtain ⟨x7, ex7, h⟩ := ltE h
  rw [← ex7]
  refine RR.runs (pc' := 24) (lc' := [(6, .int x7), (5, .int r2), (0, .ref v0), (1, .ref v1), (2, .int v2), (3, .int v3), (4, .int v4)]) (st' := [.ref v0, .ref v1]) (S1 := S6) (nL := 8) (cd := cd_1011) mx_1011 rfl rfl 2 rfl ?_
  refine RR.gPo (pc' := 27) (lc' := [(6, .int x7), (5, .int r2), (0, .ref v0), (1, .ref v1), (2, .int v2), (3, .int v3), (4, .int v4)]) (st' := [.int (rI S6 v0 1), .ref v1]) (S1 := S6) (nL := 8) (cd := cd_1011) mx_1011 rfl rfl rfl ⟨g1, by decide, by decide⟩ ?_
  refine RR.runs (pc' := 28) (lc' := [(6, .int x7), (5, .int r2), (0, .ref v0), (1, .ref v1), (2, .int v2), (3, .int v3), (4, .int v4)]) (st' := [.ref v0, .int (rI S6 v0 1), .ref v1]) (S1 := S6) (nL := 8) (cd := cd_1011) mx_1011 rfl rfl 1 rfl ?_
  refine RR.gPo (pc' := 31) (lc' := [(6, .int x7), (5, .int r2), (0, .ref v0), (1, .ref v1), (2, .int v2), (3, .int v3), (4, .int v4)]) (st' := [.int (rI S6 v0 2), .int (rI S6 v0 1), .ref v1]) (S1 := S6) (nL := 8) (cd := cd_1011) mx_1011 rfl rfl rfl ⟨g1, by decide, by decide⟩ ?_
  refine RR.runs (pc' := 36) (lc' := [(6, .int x7), (5, .int r2), (0, .ref v0), (1, .ref v1), (2, .int v2), (3, .int v3), (4, .int v4)]) (st' := [.int v3, .int v2, .ref v1, .int r2, .int (rI S6 v0 2), .int (rI S6 v0 1), .ref v1]) (S1 := S6) (nL := 8) (cd := cd_1011) mx_1011 rfl rfl 4 rfl ?_
  obtain ⟨r8, S9, h1, h⟩ := bnE h
  refine RR.callV (b := v1) (as := [.int v2, .int v3]) (rest := [.int r2, .int (rI S6 v0 2), .int (rI S6 v0 1), .ref v1]) (r1 := (some (.int r8))) (S1 := S9) mx_1011 rfl rfl mx_2018 rfl rfl (by decide) (Or.inl g4) (Nat.le_of_ble_eq_true rfl) (Nat.le_of_ble_eq_true rfl) (RC.deep (by omega) (s_o_to_within (d := d) _ _ _ _ h1)) ?_
  show RR KO _ 1011 39 [(6, .int x7), (5, .int r2), (0, .ref v0), (1, .ref v1), (2, .int v2), (3, .int v3), (4, .int v4)] [.int r8, .int r2, .int (rI S6 v0 2), .int (rI S6 v0 1), .ref v1] S9 _ _
  refine RR.runs (pc' := 42) (lc' := [(6, .int x7), (5, .int r2), (0, .ref v0), (1, .ref v1), (2, .int v2), (3, .int v3), (4, .int v4)]) (st' := [.int x7, .int (r2 &&& r8), .int (rI S6 v0 2), .int (rI S6 v0 1), .ref v1]) (S1 := S9) (nL := 8) (cd := cd_1011) mx_1011 rfl rfl 2 rfl ?_
  obtain ⟨r10, S11, h1, h⟩ := bnE h
  refine RR.callV (b := v1) (as := [.int (rI S6 v0 1), .int (rI S6 v0 2), .int (r2 &&& r8), .int x7]) (rest := []) (r1 := (some (.int r10))) (S1 := S11) mx_1011 rfl rfl mx_2019 rfl rfl (by decide) (Or.inl g4) (Nat.le_of_ble_eq_true rfl) (Nat.le_of_ble_eq_true rfl) (RC.deep (by omega) (s_o_to_felled (d := d) _ _ _ _ _ _ h1)) ?_
  show RR KO _ 1011 45 [(6, .int x7), (5, .int r2), (0, .ref v0), (1, .ref v1), (2, .int v2), (3, .int v3), (4, .int v4)] [.int r10] S11 _ _
  refine RR.runs (pc' := 49) (lc' := [(7, .int r10), (6, .int x7), (5, .int r2), (0, .ref v0), (1, .ref v1), (2, .int v2), (3, .int v3), (4, .int v4)]) (st' := [.ref v0, .ref v0]) (S1 := S11) (nL := 8) (cd := cd_1011) mx_1011 rfl rfl 3 rfl ?_
  refine RR.gPo (pc' := 52) (lc' := [(7, .int r10), (6, .int x7), (5, .int r2), (0, .ref v0), (1, .ref v1), (2, .int v2), (3, .int v3), (4, .int v4)]) (st' := [.int (rI S11 v0 4), .ref v0]) (S1 := S11) (nL := 8) (cd := cd_1011) mx_1011 rfl rfl rfl ⟨g1, by decide, by decide⟩ ?_
  refine RR.runs (pc' := 56) (lc' := [(7, .int r10), (6, .int x7), (5, .int r2), (0, .ref v0), (1, .ref v1), (2, .int v2), (3, .int v3), (4, .int v4)]) (st' := [.ref v0, .int r10, .ref v1, .int (rI S11 v0 4), .ref v0]) (S1 := S11) (nL := 8) (cd := cd_1011) mx_1011 rfl rfl 3 rfl ?_
  refine RR.gPo (pc' := 59) (lc' := [(7, .int r10), (6, .int x7), (5, .int r2), (0, .ref v0), (1, .ref v1), (2, .int v2), (3, .int v3), (4, .int v4)]) (st' := [.int (rI S11 v0 3), .int r10, .ref v1, .int (rI S11 v0 4), .ref v0]) (S1 := S11) (nL := 8) (cd := cd_1011) mx_1011 rfl rfl rfl ⟨g1, by decide, by decide⟩ ?_
  obtain ⟨r12, S13, h1, h⟩ := bnE h
  refine RR.callV (b := v1) (as := [.int r10, .int (rI S11 v0 3)]) (rest := [.int (rI S11 v0 4), .ref v0]) (r1 := (some (.int r12))) (S1 := S13) mx_1011 rfl rfl mx_2015 rfl rfl (by decide) (Or.inl g4) (Nat.le_of_ble_eq_true rfl) (Nat.le_of_ble_eq_true rfl) (RC.deep (by omega) (s_o_to_valuesOf (d := d) _ _ _ _ h1)) ?_
  show RR KO _ 1011 62 [(7, .int r10), (6, .int x7), (5, .int r2), (0, .ref v0), (1, .ref v1), (2, .int v2), (3, .int v3), (4, .int v4)] [.int r12, .int (rI S11 v0 4), .ref v0] S13 _ _
  refine RR.runs (pc' := 63) (lc' := [(7, .int r10), (6, .int x7), (5, .int r2), (0, .ref v0), (1, .ref v1), (2, .int v2), (3, .int v3), (4, .int v4)]) (st' := [.int (((rI S11 v0 4) + r12)), .ref v0]) (S1 := S13) (nL := 8) (cd := cd_1011) mx_1011 rfl rfl 1 rfl ?_
  refine RR.gP (pc' := 66) (lc' := [(7, .int r10), (6, .int x7), (5, .int r2), (0, .ref v0), (1, .ref v1), (2, .int v2), (3, .int v3), (4, .int v4)]) (st' := []) (S1 := (wI S13 v0 4 (((rI S11 v0 4) + r12)))) (nL := 8) (cd := cd_1011) mx_1011 rfl rfl rfl ⟨g1, by decide, rfl, by decide⟩ ?_
  obtain ⟨S14, eS14, h⟩ := ltE h
  rw [← eS14]
  refine RR.runs (pc' := 68) (lc' := [(7, .int r10), (6, .int x7), (5, .int r2), (0, .ref v0), (1, .ref v1), (2, .int v2), (3, .int v3), (4, .int v4)]) (st' := [.ref v0, .ref v0]) (S1 := S14) (nL := 8) (cd := cd_1011) mx_1011 rfl rfl 2 rfl ?_
  refine RR.gPo (pc' := 71) (lc' := [(7, .int r10), (6, .int x7), (5, .int r2), (0, .ref v0), (1, .ref v1), (2, .int v2), (3, .int v3), (4, .int v4)]) (st' := [.int (rI S14 v0 1), .ref v0]) (S1 := S14) (nL := 8) (cd := cd_1011) mx_1011 rfl rfl rfl ⟨g1, by decide, by decide⟩ ?_
  refine RR.runs (pc' := 76) (lc' := [(7, .int r10), (6, .int x7), (5, .int r2), (0, .ref v0), (1, .ref v1), (2, .int v2), (3, .int v3), (4, .int v4)]) (st' := [.int (((rI S14 v0 1) &&& (r10 ^^^ (-1 : Int32)))), .ref v0]) (S1 := S14) (nL := 8) (cd := cd_1011) mx_1011 rfl rfl 4 rfl ?_
  refine RR.gP (pc' := 79) (lc' := [(7, .int r10), (6, .int x7), (5, .int r2), (0, .ref v0), (1, .ref v1), (2, .int v2), (3, .int v3), (4, .int v4)]) (st' := []) (S1 := (wI S14 v0 1 (((rI S14 v0 1) &&& (r10 ^^^ (-1 : Int32)))))) (nL := 8) (cd := cd_1011) mx_1011 rfl rfl rfl ⟨g1, by decide, rfl, by decide⟩ ?_
  obtain ⟨S15, eS15, h⟩ := ltE h
  rw [← eS15]
  refine RR.runs (pc' := 81) (lc' := [(7, .int r10), (6, .int x7), (5, .int r2), (0, .ref v0), (1, .ref v1), (2, .int v2), (3, .int v3), (4, .int v4)]) (st' := [.ref v0, .ref v0]) (S1 := S15) (nL := 8) (cd := cd_1011) mx_1011 rfl rfl 2 rfl ?_
  refine RR.gPo (pc' := 84) (lc' := [(7, .int r10), (6, .int x7), (5, .int r2), (0, .ref v0), (1, .ref v1), (2, .int v2), (3, .int v3), (4, .int v4)]) (st' := [.int (rI S15 v0 2), .ref v0]) (S1 := S15) (nL := 8) (cd := cd_1011) mx_1011 rfl rfl rfl ⟨g1, by decide, by decide⟩ ?_
  refine RR.runs (pc' := 88) (lc' := [(7, .int r10), (6, .int x7), (5, .int r2), (0, .ref v0), (1, .ref v1), (2, .int v2), (3, .int v3), (4, .int v4)]) (st' := [.ref v0, .int (((rI S15 v0 2) ||| x7)), .ref v0]) (S1 := S15) (nL := 8) (cd := cd_1011) mx_1011 rfl rfl 3 rfl ?_
  refine RR.gPo (pc' := 91) (lc' := [(7, .int r10), (6, .int x7), (5, .int r2), (0, .ref v0), (1, .ref v1), (2, .int v2), (3, .int v3), (4, .int v4)]) (st' := [.int (rI S15 v0 1), .int (((rI S15 v0 2) ||| x7)), .ref v0]) (S1 := S15) (nL := 8) (cd := cd_1011) mx_1011 rfl rfl rfl ⟨g1, by decide, by decide⟩ ?_
  refine RR.runs (pc' := 92) (lc' := [(7, .int r10), (6, .int x7), (5, .int r2), (0, .ref v0), (1, .ref v1), (2, .int v2), (3, .int v3), (4, .int v4)]) (st' := [.int ((((rI S15 v0 2) ||| x7) &&& (rI S15 v0 1))), .ref v0]) (S1 := S15) (nL := 8) (cd := cd_1011) mx_1011 rfl rfl 1 rfl ?_
  refine RR.gP (pc' := 95) (lc' := [(7, .int r10), (6, .int x7), (5, .int r2), (0, .ref v0), (1, .ref v1), (2, .int v2), (3, .int v3), (4, .int v4)]) (st' := []) (S1 := (wI S15 v0 2 ((((rI S15 v0 2) ||| x7) &&& (rI S15 v0 1))))) (nL := 8) (cd := cd_1011) mx_1011 rfl rfl rfl ⟨g1, by decide, rfl, by decide⟩ ?_
  obtain ⟨S16, eS16, h⟩ := ltE h
  rw [← eS16]
  refine RR.runs (pc' := 97) (lc' := [(7, .int r10), (6, .int x7), (5, .int r2), (0, .ref v0), (1, .ref v1), (2, .int v2), (3, .int v3), (4, .int v4)]) (st' := [.int r10]) (S1 := S16) (nL := 8) (cd := cd_1011) mx_1011 rfl rfl 1 rfl ?_
  cases h
  exact RR.reti mx_1011 rfl rfl rfl
theorem s_o_sd_cry {d : Nat} {S' : St} {r : Int32} (v0 : Nat) (v1 : Nat) (v2 : Int32) (v3 : Int32) (v4 : Int32) (S : St) (h : o_sd_cry v0 v1 v2 v3 v4 S = some (r, S')) : RC KO (d + 5) 1011 [.ref v0, .ref v1, .int v2, .int v3, .int v4] S (some (.int r)) S' := RC.of rfl (s0_o_sd_cry v0 v1 v2 v3 v4 S h)
-- NameOrchard$Standing canTake (I)Z
def o_sd_canTake_20 (p0 : Int32) (S : St) : Re Int32 :=
  if isBo p0 = true then some (p0, S) else none
set_option maxRecDepth 100000 in
theorem s_o_sd_canTake_20 {d : Nat} {S' : St} {r : Int32} (p0 : Int32) (S : St) (h : o_sd_canTake_20 p0 S = some (r, S')) : RR KO (d + 1) 1012 20 [] [.int p0] S (some (.int r)) S' := by
  unfold o_sd_canTake_20 at h
  obtain ⟨g, h⟩ := gpE h
  cases h
  exact RR.retz mx_1012 rfl rfl rfl g
def o_sd_canTake_19 (S : St) : Re Int32 :=
  o_sd_canTake_20 (0 : Int32) S
set_option maxRecDepth 100000 in
theorem s_o_sd_canTake_19 {d : Nat} {S' : St} {r : Int32} (S : St) (h : o_sd_canTake_19 S = some (r, S')) : RR KO (d + 1) 1012 19 [] [] S (some (.int r)) S' := by
  unfold o_sd_canTake_19 at h
  refine RR.runs (pc' := 20) (lc' := []) (st' := [.int (0 : Int32)]) (S1 := S) (nL := 2) (cd := cd_1012) mx_1012 rfl rfl 1 rfl ?_
  refine RR.weak [] trivial ?_
  exact s_o_sd_canTake_20 _ _ h
def o_sd_canTake (v0 : Nat) (v1 : Int32) (S : St) : Re Int32 :=
  if KO.1 v0 = (0, 5) then (
bn (o_sd_hangs v0 v1 S) fun r2 S3 =>
  if r2 = 0 then (
    o_sd_canTake_19 S3)
  else (
        if (rI S3 v0 5) = 0 then (
      o_sd_canTake_20 (1 : Int32) S3)
    else (
      o_sd_canTake_19 S3))) else none
set_option maxRecDepth 100000 in
theorem s0_o_sd_canTake {d : Nat} {S' : St} {r : Int32} (v0 : Nat) (v1 : Int32) (S : St) (h : o_sd_canTake v0 v1 S = some (r, S')) : RR KO (d + 1) 1012 0 [(0, .ref v0), (1, .int v1)] [] S (some (.int r)) S' := by
  unfold o_sd_canTake at h
  refine RR.runs (pc' := 2) (lc' := [(0, .ref v0), (1, .int v1)]) (st' := [.int v1, .ref v0]) (S1 := S) (nL := 2) (cd := cd_1012) mx_1012 rfl rfl 2 rfl ?_
  obtain ⟨g1, h⟩ := gpE h
  obtain ⟨r2, S3, h1, h⟩ := bnE h
  refine RR.callV (b := v0) (as := [.int v1]) (rest := []) (r1 := (some (.int r2))) (S1 := S3) mx_1012 rfl rfl mx_1003 rfl rfl (by decide) (Or.inl g1) (Nat.le_of_ble_eq_true rfl) (Nat.le_of_ble_eq_true rfl) (RC.deep (by omega) (s_o_sd_hangs (d := d) _ _ _ h1)) ?_
  show RR KO _ 1012 5 [(0, .ref v0), (1, .int v1)] [.int r2] S3 _ _
  refine RR.runs (pc' := icm .eq r2 0 19 8) (lc' := [(0, .ref v0), (1, .int v1)]) (st' := []) (S1 := S3) (nL := 2) (cd := cd_1012) mx_1012 rfl rfl 1 rfl ?_
  rcases ifE h with ⟨c, h⟩ | ⟨c, h⟩
  · refine RR.c_eq (fun _ => ?_) (fun q => absurd c q)
    refine RR.weak [] trivial ?_
    exact s_o_sd_canTake_19 _ h
  · refine RR.c_eq (fun q => absurd q c) (fun _ => ?_)
    refine RR.runs (pc' := 9) (lc' := [(0, .ref v0), (1, .int v1)]) (st' := [.ref v0]) (S1 := S3) (nL := 2) (cd := cd_1012) mx_1012 rfl rfl 1 rfl ?_
    refine RR.gPo (pc' := 12) (lc' := [(0, .ref v0), (1, .int v1)]) (st' := [.int (rI S3 v0 5)]) (S1 := S3) (nL := 2) (cd := cd_1012) mx_1012 rfl rfl rfl ⟨g1, by decide, by decide⟩ ?_
    refine RR.runs (pc' := icm .ne (rI S3 v0 5) 0 19 15) (lc' := [(0, .ref v0), (1, .int v1)]) (st' := []) (S1 := S3) (nL := 2) (cd := cd_1012) mx_1012 rfl rfl 1 rfl ?_
    rcases ifE h with ⟨c, h⟩ | ⟨c, h⟩
    · refine RR.c_ne (fun _ => ?_) (fun q => absurd c q)
      refine RR.runs (pc' := 20) (lc' := [(0, .ref v0), (1, .int v1)]) (st' := [.int (1 : Int32)]) (S1 := S3) (nL := 2) (cd := cd_1012) mx_1012 rfl rfl 2 rfl ?_
      refine RR.weak [] trivial ?_
      exact s_o_sd_canTake_20 _ _ h
    · refine RR.c_ne (fun q => absurd q c) (fun _ => ?_)
      refine RR.weak [] trivial ?_
      exact s_o_sd_canTake_19 _ h
theorem s_o_sd_canTake {d : Nat} {S' : St} {r : Int32} (v0 : Nat) (v1 : Int32) (S : St) (h : o_sd_canTake v0 v1 S = some (r, S')) : RC KO (d + 1) 1012 [.ref v0, .int v1] S (some (.int r)) S' := RC.of rfl (s0_o_sd_canTake v0 v1 S h)
-- NameOrchard$Standing take (LNameOrchard$Told;I)I
def o_sd_take (v0 : Nat) (v1 : Nat) (v2 : Int32) (S : St) : Re Int32 :=
  if KO.1 v0 = (0, 5) then (
bn (o_sd_canTake v0 v2 S) fun r2 S3 =>
  if r2 = 0 then (
    some ((0 : Int32), S3))
  else (
        if KO.1 v1 = (0, 10) then (
bn (o_to_valueOf v1 v2 (rI S3 v0 3) S3) fun r5 S6 =>
        lt' (wI S6 v0 4 (((rI S6 v0 4) + r5))) fun S7 =>
        lt' (wI S7 v0 1 (((rI S7 v0 1) &&& (((1 : Int32) <<< (v2 &&& 31)) ^^^ (-1 : Int32))))) fun S8 =>
            lt' (wI S8 v0 2 (((rI S8 v0 2) &&& (rI S8 v0 1)))) fun S9 =>
    lt' (wI S9 v0 5 (1 : Int32)) fun S10 =>
    some (r5, S10)) else none)) else none
set_option maxRecDepth 100000 in
theorem s0_o_sd_take {d : Nat} {S' : St} {r : Int32} (v0 : Nat) (v1 : Nat) (v2 : Int32) (S : St) (h : o_sd_take v0 v1 v2 S = some (r, S')) : RR KO (d + 4) 1013 0 [(0, .ref v0), (1, .ref v1), (2, .int v2)] [] S (some (.int r)) S' := by
  unfold o_sd_take at h
  refine RR.runs (pc' := 2) (lc' := [(0, .ref v0), (1, .ref v1), (2, .int v2)]) (st' := [.int v2, .ref v0]) (S1 := S) (nL := 4) (cd := cd_1013) mx_1013 rfl rfl 2 rfl ?_
  obtain ⟨g1, h⟩ := gpE h
  obtain ⟨r2, S3, h1, h⟩ := bnE h
  refine RR.callV (b := v0) (as := [.int v2]) (rest := []) (r1 := (some (.int r2))) (S1 := S3) mx_1013 rfl rfl mx_1012 rfl rfl (by decide) (Or.inl g1) (Nat.le_of_ble_eq_true rfl) (Nat.le_of_ble_eq_true rfl) (RC.deep (by omega) (s_o_sd_canTake (d := d) _ _ _ h1)) ?_
  show RR KO _ 1013 5 [(0, .ref v0), (1, .ref v1), (2, .int v2)] [.int r2] S3 _ _
  refine RR.runs (pc' := icm .ne r2 0 10 8) (lc' := [(0, .ref v0), (1, .ref v1), (2, .int v2)]) (st' := []) (S1 := S3) (nL := 4) (cd := cd_1013) mx_1013 rfl rfl 1 rfl ?_
  rcases ifE h with ⟨c, h⟩ | ⟨c, h⟩
  · refine RR.c_ne (fun _ => ?_) (fun q => absurd c q)
    refine RR.runs (pc' := 9) (lc' := [(0, .ref v0), (1, .ref v1), (2, .int v2)]) (st' := [.int (0 : Int32)]) (S1 := S3) (nL := 4) (cd := cd_1013) mx_1013 rfl rfl 1 rfl ?_
    cases h
    exact RR.reti mx_1013 rfl rfl rfl
  · refine RR.c_ne (fun q => absurd q c) (fun _ => ?_)
    refine RR.runs (pc' := 13) (lc' := [(0, .ref v0), (1, .ref v1), (2, .int v2)]) (st' := [.ref v0, .int v2, .ref v1]) (S1 := S3) (nL := 4) (cd := cd_1013) mx_1013 rfl rfl 3 rfl ?_
    refine RR.gPo (pc' := 16) (lc' := [(0, .ref v0), (1, .ref v1), (2, .int v2)]) (st' := [.int (rI S3 v0 3), .int v2, .ref v1]) (S1 := S3) (nL := 4) (cd := cd_1013) mx_1013 rfl rfl rfl ⟨g1, by decide, by decide⟩ ?_
    obtain ⟨g4, h⟩ := gpE h
    obtain ⟨r5, S6, h1, h⟩ := bnE h
    refine RR.callV (b := v1) (as := [.int v2, .int (rI S3 v0 3)]) (rest := []) (r1 := (some (.int r5))) (S1 := S6) mx_1013 rfl rfl mx_2014 rfl rfl (by decide) (Or.inl g4) (Nat.le_of_ble_eq_true rfl) (Nat.le_of_ble_eq_true rfl) (RC.deep (by omega) (s_o_to_valueOf (d := d) _ _ _ _ h1)) ?_
    show RR KO _ 1013 19 [(0, .ref v0), (1, .ref v1), (2, .int v2)] [.int r5] S6 _ _
    refine RR.runs (pc' := 22) (lc' := [(3, .int r5), (0, .ref v0), (1, .ref v1), (2, .int v2)]) (st' := [.ref v0, .ref v0]) (S1 := S6) (nL := 4) (cd := cd_1013) mx_1013 rfl rfl 3 rfl ?_
    refine RR.gPo (pc' := 25) (lc' := [(3, .int r5), (0, .ref v0), (1, .ref v1), (2, .int v2)]) (st' := [.int (rI S6 v0 4), .ref v0]) (S1 := S6) (nL := 4) (cd := cd_1013) mx_1013 rfl rfl rfl ⟨g1, by decide, by decide⟩ ?_
    refine RR.runs (pc' := 27) (lc' := [(3, .int r5), (0, .ref v0), (1, .ref v1), (2, .int v2)]) (st' := [.int (((rI S6 v0 4) + r5)), .ref v0]) (S1 := S6) (nL := 4) (cd := cd_1013) mx_1013 rfl rfl 2 rfl ?_
    refine RR.gP (pc' := 30) (lc' := [(3, .int r5), (0, .ref v0), (1, .ref v1), (2, .int v2)]) (st' := []) (S1 := (wI S6 v0 4 (((rI S6 v0 4) + r5)))) (nL := 4) (cd := cd_1013) mx_1013 rfl rfl rfl ⟨g1, by decide, rfl, by decide⟩ ?_
    obtain ⟨S7, eS7, h⟩ := ltE h
    rw [← eS7]
    refine RR.runs (pc' := 32) (lc' := [(3, .int r5), (0, .ref v0), (1, .ref v1), (2, .int v2)]) (st' := [.ref v0, .ref v0]) (S1 := S7) (nL := 4) (cd := cd_1013) mx_1013 rfl rfl 2 rfl ?_
    refine RR.gPo (pc' := 35) (lc' := [(3, .int r5), (0, .ref v0), (1, .ref v1), (2, .int v2)]) (st' := [.int (rI S7 v0 1), .ref v0]) (S1 := S7) (nL := 4) (cd := cd_1013) mx_1013 rfl rfl rfl ⟨g1, by decide, by decide⟩ ?_
    refine RR.runs (pc' := 41) (lc' := [(3, .int r5), (0, .ref v0), (1, .ref v1), (2, .int v2)]) (st' := [.int (((rI S7 v0 1) &&& (((1 : Int32) <<< (v2 &&& 31)) ^^^ (-1 : Int32)))), .ref v0]) (S1 := S7) (nL := 4) (cd := cd_1013) mx_1013 rfl rfl 6 rfl ?_
    refine RR.gP (pc' := 44) (lc' := [(3, .int r5), (0, .ref v0), (1, .ref v1), (2, .int v2)]) (st' := []) (S1 := (wI S7 v0 1 (((rI S7 v0 1) &&& (((1 : Int32) <<< (v2 &&& 31)) ^^^ (-1 : Int32)))))) (nL := 4) (cd := cd_1013) mx_1013 rfl rfl rfl ⟨g1, by decide, rfl, by decide⟩ ?_
    obtain ⟨S8, eS8, h⟩ := ltE h
    rw [← eS8]
    refine RR.runs (pc' := 46) (lc' := [(3, .int r5), (0, .ref v0), (1, .ref v1), (2, .int v2)]) (st' := [.ref v0, .ref v0]) (S1 := S8) (nL := 4) (cd := cd_1013) mx_1013 rfl rfl 2 rfl ?_
    refine RR.gPo (pc' := 49) (lc' := [(3, .int r5), (0, .ref v0), (1, .ref v1), (2, .int v2)]) (st' := [.int (rI S8 v0 2), .ref v0]) (S1 := S8) (nL := 4) (cd := cd_1013) mx_1013 rfl rfl rfl ⟨g1, by decide, by decide⟩ ?_
    refine RR.runs (pc' := 50) (lc' := [(3, .int r5), (0, .ref v0), (1, .ref v1), (2, .int v2)]) (st' := [.ref v0, .int (rI S8 v0 2), .ref v0]) (S1 := S8) (nL := 4) (cd := cd_1013) mx_1013 rfl rfl 1 rfl ?_
    refine RR.gPo (pc' := 53) (lc' := [(3, .int r5), (0, .ref v0), (1, .ref v1), (2, .int v2)]) (st' := [.int (rI S8 v0 1), .int (rI S8 v0 2), .ref v0]) (S1 := S8) (nL := 4) (cd := cd_1013) mx_1013 rfl rfl rfl ⟨g1, by decide, by decide⟩ ?_
    refine RR.runs (pc' := 54) (lc' := [(3, .int r5), (0, .ref v0), (1, .ref v1), (2, .int v2)]) (st' := [.int (((rI S8 v0 2) &&& (rI S8 v0 1))), .ref v0]) (S1 := S8) (nL := 4) (cd := cd_1013) mx_1013 rfl rfl 1 rfl ?_
    refine RR.gP (pc' := 57) (lc' := [(3, .int r5), (0, .ref v0), (1, .ref v1), (2, .int v2)]) (st' := []) (S1 := (wI S8 v0 2 (((rI S8 v0 2) &&& (rI S8 v0 1))))) (nL := 4) (cd := cd_1013) mx_1013 rfl rfl rfl ⟨g1, by decide, rfl, by decide⟩ ?_
    obtain ⟨S9, eS9, h⟩ := ltE h
    rw [← eS9]
    refine RR.runs (pc' := 59) (lc' := [(3, .int r5), (0, .ref v0), (1, .ref v1), (2, .int v2)]) (st' := [.int (1 : Int32), .ref v0]) (S1 := S9) (nL := 4) (cd := cd_1013) mx_1013 rfl rfl 2 rfl ?_
    refine RR.gPP (pc' := 62) (lc' := [(3, .int r5), (0, .ref v0), (1, .ref v1), (2, .int v2)]) (st' := []) (S1 := (wI S9 v0 5 (1 : Int32))) (nL := 4) (cd := cd_1013) mx_1013 rfl rfl rfl ⟨g1, by decide, rfl, by decide⟩ rfl ?_
    obtain ⟨S10, eS10, h⟩ := ltE h
    rw [← eS10]
    refine RR.runs (pc' := 63) (lc' := [(3, .int r5), (0, .ref v0), (1, .ref v1), (2, .int v2)]) (st' := [.int r5]) (S1 := S10) (nL := 4) (cd := cd_1013) mx_1013 rfl rfl 1 rfl ?_
    cases h
    exact RR.reti mx_1013 rfl rfl rfl
theorem s_o_sd_take {d : Nat} {S' : St} {r : Int32} (v0 : Nat) (v1 : Nat) (v2 : Int32) (S : St) (h : o_sd_take v0 v1 v2 S = some (r, S')) : RC KO (d + 4) 1013 [.ref v0, .ref v1, .int v2] S (some (.int r)) S' := RC.of rfl (s0_o_sd_take v0 v1 v2 S h)
-- NameOrchard$Standing nextDay ()V
def o_sd_nextDay (v0 : Nat) (S : St) : Re Unit :=
  if KO.1 v0 = (0, 5) then (
  lt' (wI S v0 3 (((rI S v0 3) + (1 : Int32)))) fun S2 =>
  lt' (wI S2 v0 5 (0 : Int32)) fun S3 =>
  some ((), S3)) else none
set_option maxRecDepth 100000 in
theorem s0_o_sd_nextDay {d : Nat} {S' : St} {r : Unit} (v0 : Nat) (S : St) (h : o_sd_nextDay v0 S = some (r, S')) : RR KO (d + 0) 1014 0 [(0, .ref v0)] [] S none S' := by
  unfold o_sd_nextDay at h
  refine RR.runs (pc' := 2) (lc' := [(0, .ref v0)]) (st' := [.ref v0, .ref v0]) (S1 := S) (nL := 1) (cd := cd_1014) mx_1014 rfl rfl 2 rfl ?_
  obtain ⟨g1, h⟩ := gpE h
  refine RR.gPo (pc' := 5) (lc' := [(0, .ref v0)]) (st' := [.int (rI S v0 3), .ref v0]) (S1 := S) (nL := 1) (cd := cd_1014) mx_1014 rfl rfl rfl ⟨g1, by decide, by decide⟩ ?_
  refine RR.runs (pc' := 7) (lc' := [(0, .ref v0)]) (st' := [.int (((rI S v0 3) + (1 : Int32))), .ref v0]) (S1 := S) (nL := 1) (cd := cd_1014) mx_1014 rfl rfl 2 rfl ?_
  refine RR.gP (pc' := 10) (lc' := [(0, .ref v0)]) (st' := []) (S1 := (wI S v0 3 (((rI S v0 3) + (1 : Int32))))) (nL := 1) (cd := cd_1014) mx_1014 rfl rfl rfl ⟨g1, by decide, rfl, by decide⟩ ?_
  obtain ⟨S2, eS2, h⟩ := ltE h
  rw [← eS2]
  refine RR.runs (pc' := 12) (lc' := [(0, .ref v0)]) (st' := [.int (0 : Int32), .ref v0]) (S1 := S2) (nL := 1) (cd := cd_1014) mx_1014 rfl rfl 2 rfl ?_
  refine RR.gPP (pc' := 15) (lc' := [(0, .ref v0)]) (st' := []) (S1 := (wI S2 v0 5 (0 : Int32))) (nL := 1) (cd := cd_1014) mx_1014 rfl rfl rfl ⟨g1, by decide, rfl, by decide⟩ rfl ?_
  obtain ⟨S3, eS3, h⟩ := ltE h
  rw [← eS3]
  cases h
  exact RR.retv mx_1014 rfl rfl rfl
theorem s_o_sd_nextDay {d : Nat} {S' : St} {r : Unit} (v0 : Nat) (S : St) (h : o_sd_nextDay v0 S = some (r, S')) : RC KO (d + 0) 1014 [.ref v0] S none S' := RC.of rfl (s0_o_sd_nextDay v0 S h)
-- NameOrchard$State begin (LNameOrchard$Told;)V
def o_sa_begin (v0 : Nat) (v1 : Nat) (S : St) : Re Unit :=
  if KO.1 v0 = (0, 6) then (
  if KO.1 (v0 + 130) = (0, 5) then (
bn (o_sd_begin (v0 + 130) v1 S) fun r3 S4 =>
    if KO.1 (v0 + 41) = (0, 7) then (
bn (o_tb_clear (v0 + 41) S4) fun r6 S7 =>
    if KO.1 (v0 + 46) = (0, 7) then (
bn (o_tb_clear (v0 + 46) S7) fun r9 S10 =>
  lt' (wI S10 v0 3 (0 : Int32)) fun S11 =>
  lt' (wI S11 v0 4 (0 : Int32)) fun S12 =>
  some ((), S12)) else none) else none) else none) else none
set_option maxRecDepth 100000 in
theorem s0_o_sa_begin {d : Nat} {S' : St} {r : Unit} (v0 : Nat) (v1 : Nat) (S : St) (h : o_sa_begin v0 v1 S = some (r, S')) : RR KO (d + 3) 1201 0 [(0, .ref v0), (1, .ref v1)] [] S none S' := by
  unfold o_sa_begin at h
  refine RR.runs (pc' := 1) (lc' := [(0, .ref v0), (1, .ref v1)]) (st' := [.ref v0]) (S1 := S) (nL := 2) (cd := cd_1201) mx_1201 rfl rfl 1 rfl ?_
  obtain ⟨g1, h⟩ := gpE h
  refine RR.gPo (pc' := 4) (lc' := [(0, .ref v0), (1, .ref v1)]) (st' := [.ref (v0 + 130)]) (S1 := S) (nL := 2) (cd := cd_1201) mx_1201 rfl rfl rfl ⟨g1, by decide, by decide⟩ ?_
  refine RR.runs (pc' := 5) (lc' := [(0, .ref v0), (1, .ref v1)]) (st' := [.ref v1, .ref (v0 + 130)]) (S1 := S) (nL := 2) (cd := cd_1201) mx_1201 rfl rfl 1 rfl ?_
  obtain ⟨g2, h⟩ := gpE h
  obtain ⟨r3, S4, h1, h⟩ := bnE h
  refine RR.callV (b := (v0 + 130)) (as := [.ref v1]) (rest := []) (r1 := none) (S1 := S4) mx_1201 rfl rfl mx_1001 rfl rfl (by decide) (Or.inl g2) (Nat.le_of_ble_eq_true rfl) (Nat.le_of_ble_eq_true rfl) (RC.deep (by omega) (s_o_sd_begin (d := d) _ _ _ h1)) ?_
  show RR KO _ 1201 8 [(0, .ref v0), (1, .ref v1)] [] S4 _ _
  refine RR.runs (pc' := 9) (lc' := [(0, .ref v0), (1, .ref v1)]) (st' := [.ref v0]) (S1 := S4) (nL := 2) (cd := cd_1201) mx_1201 rfl rfl 1 rfl ?_
  refine RR.gPo (pc' := 12) (lc' := [(0, .ref v0), (1, .ref v1)]) (st' := [.ref (v0 + 41)]) (S1 := S4) (nL := 2) (cd := cd_1201) mx_1201 rfl rfl rfl ⟨g1, by decide, by decide⟩ ?_
  obtain ⟨g5, h⟩ := gpE h
  obtain ⟨r6, S7, h1, h⟩ := bnE h
  refine RR.callV (b := (v0 + 41)) (as := []) (rest := []) (r1 := none) (S1 := S7) mx_1201 rfl rfl mx_1401 rfl rfl (by decide) (Or.inl g5) (Nat.le_of_ble_eq_true rfl) (Nat.le_of_ble_eq_true rfl) (RC.deep (by omega) (s_o_tb_clear (d := d) _ _ h1)) ?_
  show RR KO _ 1201 15 [(0, .ref v0), (1, .ref v1)] [] S7 _ _
  refine RR.runs (pc' := 16) (lc' := [(0, .ref v0), (1, .ref v1)]) (st' := [.ref v0]) (S1 := S7) (nL := 2) (cd := cd_1201) mx_1201 rfl rfl 1 rfl ?_
  refine RR.gPo (pc' := 19) (lc' := [(0, .ref v0), (1, .ref v1)]) (st' := [.ref (v0 + 46)]) (S1 := S7) (nL := 2) (cd := cd_1201) mx_1201 rfl rfl rfl ⟨g1, by decide, by decide⟩ ?_
  obtain ⟨g8, h⟩ := gpE h
  obtain ⟨r9, S10, h1, h⟩ := bnE h
  refine RR.callV (b := (v0 + 46)) (as := []) (rest := []) (r1 := none) (S1 := S10) mx_1201 rfl rfl mx_1401 rfl rfl (by decide) (Or.inl g8) (Nat.le_of_ble_eq_true rfl) (Nat.le_of_ble_eq_true rfl) (RC.deep (by omega) (s_o_tb_clear (d := d) _ _ h1)) ?_
  show RR KO _ 1201 22 [(0, .ref v0), (1, .ref v1)] [] S10 _ _
  refine RR.runs (pc' := 24) (lc' := [(0, .ref v0), (1, .ref v1)]) (st' := [.int (0 : Int32), .ref v0]) (S1 := S10) (nL := 2) (cd := cd_1201) mx_1201 rfl rfl 2 rfl ?_
  refine RR.gP (pc' := 27) (lc' := [(0, .ref v0), (1, .ref v1)]) (st' := []) (S1 := (wI S10 v0 3 (0 : Int32))) (nL := 2) (cd := cd_1201) mx_1201 rfl rfl rfl ⟨g1, by decide, rfl, by decide⟩ ?_
  obtain ⟨S11, eS11, h⟩ := ltE h
  rw [← eS11]
  refine RR.runs (pc' := 29) (lc' := [(0, .ref v0), (1, .ref v1)]) (st' := [.int (0 : Int32), .ref v0]) (S1 := S11) (nL := 2) (cd := cd_1201) mx_1201 rfl rfl 2 rfl ?_
  refine RR.gP (pc' := 32) (lc' := [(0, .ref v0), (1, .ref v1)]) (st' := []) (S1 := (wI S11 v0 4 (0 : Int32))) (nL := 2) (cd := cd_1201) mx_1201 rfl rfl rfl ⟨g1, by decide, rfl, by decide⟩ ?_
  obtain ⟨S12, eS12, h⟩ := ltE h
  rw [← eS12]
  cases h
  exact RR.retv mx_1201 rfl rfl rfl
theorem s_o_sa_begin {d : Nat} {S' : St} {r : Unit} (v0 : Nat) (v1 : Nat) (S : St) (h : o_sa_begin v0 v1 S = some (r, S')) : RC KO (d + 3) 1201 [.ref v0, .ref v1] S none S' := RC.of rfl (s0_o_sa_begin v0 v1 S h)
-- NameOrchard$Table copy (LNameOrchard$Table;)V
def o_tb_copy_17 (S : St) : Re Unit :=
  some ((), S)
set_option maxRecDepth 100000 in
theorem s_o_tb_copy_17 {d : Nat} {S' : St} {r : Unit} (S : St) (h : o_tb_copy_17 S = some (r, S')) : RR KO (d + 1) 1408 17 [] [] S none S' := by
  unfold o_tb_copy_17 at h
  cases h
  exact RR.retv mx_1408 rfl rfl rfl
def o_tb_copy (v0 : Nat) (v1 : Nat) (S : St) : Re Unit :=
  if KO.1 v1 = (0, 7) then (
  if 1 ≤ (KO.1 (v1 + 30)).1 ∧ (KO.1 (v1 + 30)).1 < 8 then (
  if KO.1 v0 = (0, 7) then (
  if 1 ≤ (KO.1 (v0 + 30)).1 ∧ (KO.1 (v0 + 30)).1 < 8 then (
  if (Int32.ofNat (KO.1 (v1 + 30)).2) = (Int32.ofNat (KO.1 (v0 + 30)).2) then (
                if 1 ≤ (KO.1 (v0 + 30)).1 ∧ (KO.1 (v0 + 30)).1 < 8 then (
    if (KO.1 (v1 + 30)).1 = 1 ∧ (KO.1 (v0 + 30)).1 = 1 ∧ (v1 + 30) ≠ (v0 + 30) ∧ (0 : Int32) = 0 ∧ (0 : Int32) = 0 ∧ (Int32.ofNat (KO.1 (v0 + 30)).2) = Int32.ofNat (KO.1 (v0 + 30)).2 ∧ (KO.1 (v1 + 30)).2 = (KO.1 (v0 + 30)).2 ∧ (KO.1 (v0 + 30)).2 < 100000 then (
lt' (cpA S (v1 + 30) (v0 + 30) (KO.1 (v0 + 30)).2) fun S4 =>
        lt' (wI S4 v0 3 (rI S4 v1 3)) fun S5 =>
    some ((), S5)) else none) else none)
  else (
    o_tb_copy_17 S)) else none) else none) else none) else none
set_option maxRecDepth 100000 in
theorem s0_o_tb_copy {d : Nat} {S' : St} {r : Unit} (v0 : Nat) (v1 : Nat) (S : St) (h : o_tb_copy v0 v1 S = some (r, S')) : RR KO (d + 1) 1408 0 [(0, .ref v0), (1, .ref v1)] [] S none S' := by
  unfold o_tb_copy at h
  refine RR.runs (pc' := 5) (lc' := [(0, .ref v0), (1, .ref v1)]) (st' := [.ref v1]) (S1 := S) (nL := 2) (cd := cd_1408) mx_1408 rfl rfl 3 rfl ?_
  obtain ⟨g1, h⟩ := gpE h
  refine RR.gPo (pc' := 8) (lc' := [(0, .ref v0), (1, .ref v1)]) (st' := [.ref (v1 + 30)]) (S1 := S) (nL := 2) (cd := cd_1408) mx_1408 rfl rfl rfl ⟨g1, by decide, by decide⟩ ?_
  obtain ⟨g, h⟩ := gpE h
  refine RR.gP (pc' := 9) (lc' := [(0, .ref v0), (1, .ref v1)]) (st' := [.int ((Int32.ofNat (KO.1 (v1 + 30)).2))]) (S1 := S) (nL := 2) (cd := cd_1408) mx_1408 rfl rfl rfl g ?_
  refine RR.runs (pc' := 10) (lc' := [(0, .ref v0), (1, .ref v1)]) (st' := [.ref v0, .int ((Int32.ofNat (KO.1 (v1 + 30)).2))]) (S1 := S) (nL := 2) (cd := cd_1408) mx_1408 rfl rfl 1 rfl ?_
  obtain ⟨g2, h⟩ := gpE h
  refine RR.gPo (pc' := 13) (lc' := [(0, .ref v0), (1, .ref v1)]) (st' := [.ref (v0 + 30), .int ((Int32.ofNat (KO.1 (v1 + 30)).2))]) (S1 := S) (nL := 2) (cd := cd_1408) mx_1408 rfl rfl rfl ⟨g2, by decide, by decide⟩ ?_
  obtain ⟨g, h⟩ := gpE h
  refine RR.gP (pc' := 14) (lc' := [(0, .ref v0), (1, .ref v1)]) (st' := [.int ((Int32.ofNat (KO.1 (v0 + 30)).2)), .int ((Int32.ofNat (KO.1 (v1 + 30)).2))]) (S1 := S) (nL := 2) (cd := cd_1408) mx_1408 rfl rfl rfl g ?_
  refine RR.runs (pc' := icm .eq ((Int32.ofNat (KO.1 (v1 + 30)).2)) ((Int32.ofNat (KO.1 (v0 + 30)).2)) 18 17) (lc' := [(0, .ref v0), (1, .ref v1)]) (st' := []) (S1 := S) (nL := 2) (cd := cd_1408) mx_1408 rfl rfl 1 rfl ?_
  rcases ifE h with ⟨c, h⟩ | ⟨c, h⟩
  · refine RR.c_eq (fun _ => ?_) (fun q => absurd c q)
    refine RR.runs (pc' := 19) (lc' := [(0, .ref v0), (1, .ref v1)]) (st' := [.ref v1]) (S1 := S) (nL := 2) (cd := cd_1408) mx_1408 rfl rfl 1 rfl ?_
    refine RR.gPo (pc' := 22) (lc' := [(0, .ref v0), (1, .ref v1)]) (st' := [.ref (v1 + 30)]) (S1 := S) (nL := 2) (cd := cd_1408) mx_1408 rfl rfl rfl ⟨g1, by decide, by decide⟩ ?_
    refine RR.runs (pc' := 24) (lc' := [(0, .ref v0), (1, .ref v1)]) (st' := [.ref v0, .int (0 : Int32), .ref (v1 + 30)]) (S1 := S) (nL := 2) (cd := cd_1408) mx_1408 rfl rfl 2 rfl ?_
    refine RR.gPo (pc' := 27) (lc' := [(0, .ref v0), (1, .ref v1)]) (st' := [.ref (v0 + 30), .int (0 : Int32), .ref (v1 + 30)]) (S1 := S) (nL := 2) (cd := cd_1408) mx_1408 rfl rfl rfl ⟨g2, by decide, by decide⟩ ?_
    refine RR.runs (pc' := 29) (lc' := [(0, .ref v0), (1, .ref v1)]) (st' := [.ref v0, .int (0 : Int32), .ref (v0 + 30), .int (0 : Int32), .ref (v1 + 30)]) (S1 := S) (nL := 2) (cd := cd_1408) mx_1408 rfl rfl 2 rfl ?_
    refine RR.gPo (pc' := 32) (lc' := [(0, .ref v0), (1, .ref v1)]) (st' := [.ref (v0 + 30), .int (0 : Int32), .ref (v0 + 30), .int (0 : Int32), .ref (v1 + 30)]) (S1 := S) (nL := 2) (cd := cd_1408) mx_1408 rfl rfl rfl ⟨g2, by decide, by decide⟩ ?_
    obtain ⟨g, h⟩ := gpE h
    refine RR.gP (pc' := 33) (lc' := [(0, .ref v0), (1, .ref v1)]) (st' := [.int ((Int32.ofNat (KO.1 (v0 + 30)).2)), .int (0 : Int32), .ref (v0 + 30), .int (0 : Int32), .ref (v1 + 30)]) (S1 := S) (nL := 2) (cd := cd_1408) mx_1408 rfl rfl rfl g ?_
    obtain ⟨g3, h⟩ := gpE h
    refine RR.cpy mx_1408 rfl rfl (by decide) g3 (Nat.le_of_ble_eq_true rfl) ?_
    show RR KO _ 1408 36 [(0, .ref v0), (1, .ref v1)] [] (cpA S (v1 + 30) (v0 + 30) (KO.1 (v0 + 30)).2) _ _
    obtain ⟨S4, eS4, h⟩ := ltE h
    rw [← eS4]
    refine RR.runs (pc' := 38) (lc' := [(0, .ref v0), (1, .ref v1)]) (st' := [.ref v1, .ref v0]) (S1 := S4) (nL := 2) (cd := cd_1408) mx_1408 rfl rfl 2 rfl ?_
    refine RR.gPo (pc' := 41) (lc' := [(0, .ref v0), (1, .ref v1)]) (st' := [.int (rI S4 v1 3), .ref v0]) (S1 := S4) (nL := 2) (cd := cd_1408) mx_1408 rfl rfl rfl ⟨g1, by decide, by decide⟩ ?_
    refine RR.gP (pc' := 44) (lc' := [(0, .ref v0), (1, .ref v1)]) (st' := []) (S1 := (wI S4 v0 3 (rI S4 v1 3))) (nL := 2) (cd := cd_1408) mx_1408 rfl rfl rfl ⟨g2, by decide, rfl, by decide⟩ ?_
    obtain ⟨S5, eS5, h⟩ := ltE h
    rw [← eS5]
    cases h
    exact RR.retv mx_1408 rfl rfl rfl
  · refine RR.c_eq (fun q => absurd q c) (fun _ => ?_)
    refine RR.weak [] trivial ?_
    exact s_o_tb_copy_17 _ h
theorem s_o_tb_copy {d : Nat} {S' : St} {r : Unit} (v0 : Nat) (v1 : Nat) (S : St) (h : o_tb_copy v0 v1 S = some (r, S')) : RC KO (d + 1) 1408 [.ref v0, .ref v1] S none S' := RC.of rfl (s0_o_tb_copy v0 v1 S h)
-- NameOrchard$State copy (LNameOrchard$State;)V
def o_sa_copy (v0 : Nat) (v1 : Nat) (S : St) : Re Unit :=
  if KO.1 v0 = (0, 6) then (
  if KO.1 v1 = (0, 6) then (
  if KO.1 (v0 + 130) = (0, 5) then (
bn (o_sd_copy (v0 + 130) (v1 + 130) S) fun r4 S5 =>
      if KO.1 (v0 + 41) = (0, 7) then (
bn (o_tb_copy (v0 + 41) (v1 + 41) S5) fun r7 S8 =>
      if KO.1 (v0 + 46) = (0, 7) then (
bn (o_tb_copy (v0 + 46) (v1 + 46) S8) fun r10 S11 =>
    lt' (wI S11 v0 3 (rI S11 v1 3)) fun S12 =>
    lt' (wI S12 v0 4 (rI S12 v1 4)) fun S13 =>
  some ((), S13)) else none) else none) else none) else none) else none
set_option maxRecDepth 100000 in
theorem s0_o_sa_copy {d : Nat} {S' : St} {r : Unit} (v0 : Nat) (v1 : Nat) (S : St) (h : o_sa_copy v0 v1 S = some (r, S')) : RR KO (d + 2) 1202 0 [(0, .ref v0), (1, .ref v1)] [] S none S' := by
  unfold o_sa_copy at h
  refine RR.runs (pc' := 6) (lc' := [(0, .ref v0), (1, .ref v1)]) (st' := [.ref v0]) (S1 := S) (nL := 2) (cd := cd_1202) mx_1202 rfl rfl 3 rfl ?_
  obtain ⟨g1, h⟩ := gpE h
  refine RR.gPo (pc' := 9) (lc' := [(0, .ref v0), (1, .ref v1)]) (st' := [.ref (v0 + 130)]) (S1 := S) (nL := 2) (cd := cd_1202) mx_1202 rfl rfl rfl ⟨g1, by decide, by decide⟩ ?_
  refine RR.runs (pc' := 10) (lc' := [(0, .ref v0), (1, .ref v1)]) (st' := [.ref v1, .ref (v0 + 130)]) (S1 := S) (nL := 2) (cd := cd_1202) mx_1202 rfl rfl 1 rfl ?_
  obtain ⟨g2, h⟩ := gpE h
  refine RR.gPo (pc' := 13) (lc' := [(0, .ref v0), (1, .ref v1)]) (st' := [.ref (v1 + 130), .ref (v0 + 130)]) (S1 := S) (nL := 2) (cd := cd_1202) mx_1202 rfl rfl rfl ⟨g2, by decide, by decide⟩ ?_
  obtain ⟨g3, h⟩ := gpE h
  obtain ⟨r4, S5, h1, h⟩ := bnE h
  refine RR.callV (b := (v0 + 130)) (as := [.ref (v1 + 130)]) (rest := []) (r1 := none) (S1 := S5) mx_1202 rfl rfl mx_1002 rfl rfl (by decide) (Or.inl g3) (Nat.le_of_ble_eq_true rfl) (Nat.le_of_ble_eq_true rfl) (RC.deep (by omega) (s_o_sd_copy (d := d) _ _ _ h1)) ?_
  show RR KO _ 1202 16 [(0, .ref v0), (1, .ref v1)] [] S5 _ _
  refine RR.runs (pc' := 17) (lc' := [(0, .ref v0), (1, .ref v1)]) (st' := [.ref v0]) (S1 := S5) (nL := 2) (cd := cd_1202) mx_1202 rfl rfl 1 rfl ?_
  refine RR.gPo (pc' := 20) (lc' := [(0, .ref v0), (1, .ref v1)]) (st' := [.ref (v0 + 41)]) (S1 := S5) (nL := 2) (cd := cd_1202) mx_1202 rfl rfl rfl ⟨g1, by decide, by decide⟩ ?_
  refine RR.runs (pc' := 21) (lc' := [(0, .ref v0), (1, .ref v1)]) (st' := [.ref v1, .ref (v0 + 41)]) (S1 := S5) (nL := 2) (cd := cd_1202) mx_1202 rfl rfl 1 rfl ?_
  refine RR.gPo (pc' := 24) (lc' := [(0, .ref v0), (1, .ref v1)]) (st' := [.ref (v1 + 41), .ref (v0 + 41)]) (S1 := S5) (nL := 2) (cd := cd_1202) mx_1202 rfl rfl rfl ⟨g2, by decide, by decide⟩ ?_
  obtain ⟨g6, h⟩ := gpE h
  obtain ⟨r7, S8, h1, h⟩ := bnE h
  refine RR.callV (b := (v0 + 41)) (as := [.ref (v1 + 41)]) (rest := []) (r1 := none) (S1 := S8) mx_1202 rfl rfl mx_1408 rfl rfl (by decide) (Or.inl g6) (Nat.le_of_ble_eq_true rfl) (Nat.le_of_ble_eq_true rfl) (RC.deep (by omega) (s_o_tb_copy (d := d) _ _ _ h1)) ?_
  show RR KO _ 1202 27 [(0, .ref v0), (1, .ref v1)] [] S8 _ _
  refine RR.runs (pc' := 28) (lc' := [(0, .ref v0), (1, .ref v1)]) (st' := [.ref v0]) (S1 := S8) (nL := 2) (cd := cd_1202) mx_1202 rfl rfl 1 rfl ?_
  refine RR.gPo (pc' := 31) (lc' := [(0, .ref v0), (1, .ref v1)]) (st' := [.ref (v0 + 46)]) (S1 := S8) (nL := 2) (cd := cd_1202) mx_1202 rfl rfl rfl ⟨g1, by decide, by decide⟩ ?_
  refine RR.runs (pc' := 32) (lc' := [(0, .ref v0), (1, .ref v1)]) (st' := [.ref v1, .ref (v0 + 46)]) (S1 := S8) (nL := 2) (cd := cd_1202) mx_1202 rfl rfl 1 rfl ?_
  refine RR.gPo (pc' := 35) (lc' := [(0, .ref v0), (1, .ref v1)]) (st' := [.ref (v1 + 46), .ref (v0 + 46)]) (S1 := S8) (nL := 2) (cd := cd_1202) mx_1202 rfl rfl rfl ⟨g2, by decide, by decide⟩ ?_
  obtain ⟨g9, h⟩ := gpE h
  obtain ⟨r10, S11, h1, h⟩ := bnE h
  refine RR.callV (b := (v0 + 46)) (as := [.ref (v1 + 46)]) (rest := []) (r1 := none) (S1 := S11) mx_1202 rfl rfl mx_1408 rfl rfl (by decide) (Or.inl g9) (Nat.le_of_ble_eq_true rfl) (Nat.le_of_ble_eq_true rfl) (RC.deep (by omega) (s_o_tb_copy (d := d) _ _ _ h1)) ?_
  show RR KO _ 1202 38 [(0, .ref v0), (1, .ref v1)] [] S11 _ _
  refine RR.runs (pc' := 40) (lc' := [(0, .ref v0), (1, .ref v1)]) (st' := [.ref v1, .ref v0]) (S1 := S11) (nL := 2) (cd := cd_1202) mx_1202 rfl rfl 2 rfl ?_
  refine RR.gPo (pc' := 43) (lc' := [(0, .ref v0), (1, .ref v1)]) (st' := [.int (rI S11 v1 3), .ref v0]) (S1 := S11) (nL := 2) (cd := cd_1202) mx_1202 rfl rfl rfl ⟨g2, by decide, by decide⟩ ?_
  refine RR.gP (pc' := 46) (lc' := [(0, .ref v0), (1, .ref v1)]) (st' := []) (S1 := (wI S11 v0 3 (rI S11 v1 3))) (nL := 2) (cd := cd_1202) mx_1202 rfl rfl rfl ⟨g1, by decide, rfl, by decide⟩ ?_
  obtain ⟨S12, eS12, h⟩ := ltE h
  rw [← eS12]
  refine RR.runs (pc' := 48) (lc' := [(0, .ref v0), (1, .ref v1)]) (st' := [.ref v1, .ref v0]) (S1 := S12) (nL := 2) (cd := cd_1202) mx_1202 rfl rfl 2 rfl ?_
  refine RR.gPo (pc' := 51) (lc' := [(0, .ref v0), (1, .ref v1)]) (st' := [.int (rI S12 v1 4), .ref v0]) (S1 := S12) (nL := 2) (cd := cd_1202) mx_1202 rfl rfl rfl ⟨g2, by decide, by decide⟩ ?_
  refine RR.gP (pc' := 54) (lc' := [(0, .ref v0), (1, .ref v1)]) (st' := []) (S1 := (wI S12 v0 4 (rI S12 v1 4))) (nL := 2) (cd := cd_1202) mx_1202 rfl rfl rfl ⟨g1, by decide, rfl, by decide⟩ ?_
  obtain ⟨S13, eS13, h⟩ := ltE h
  rw [← eS13]
  cases h
  exact RR.retv mx_1202 rfl rfl rfl
theorem s_o_sa_copy {d : Nat} {S' : St} {r : Unit} (v0 : Nat) (v1 : Nat) (S : St) (h : o_sa_copy v0 v1 S = some (r, S')) : RC KO (d + 2) 1202 [.ref v0, .ref v1] S none S' := RC.of rfl (s0_o_sa_copy v0 v1 S h)
-- NameOrchard$Tape put (J)V
def o_tp_put_90 (S : St) : Re Unit :=
  some ((), S)
set_option maxRecDepth 100000 in
theorem s_o_tp_put_90 {d : Nat} {S' : St} {r : Unit} (S : St) (h : o_tp_put_90 S = some (r, S')) : RR KO (d + 0) 1601 90 [] [] S none S' := by
  unfold o_tp_put_90 at h
  cases h
  exact RR.retv mx_1601 rfl rfl rfl
def o_tp_put_84 (k3 : Int64 → Int32 → St → Re Unit) (v1 : Int64) (v3 : Int32) (S : St) : Re Unit :=
  lt' ((v3 + (-8 : Int32)) : Int32) fun x1 =>
  k3 v1 x1 S
set_option maxRecDepth 100000 in
theorem s_o_tp_put_84 {d : Nat} (k3 : Int64 → Int32 → St → Re Unit) {S' : St} {r : Unit} (b3 : ∀ (v1 : Int64) (v3 : Int32) (S : St), k3 v1 v3 S = some (r, S') → RR KO (d + 0) 1601 3 [(0, .ref 3), (1, .long v1), (3, .int v3)] [] S none S') (v1 : Int64) (v3 : Int32) (S : St) (h : o_tp_put_84 k3 v1 v3 S = some (r, S')) : RR KO (d + 0) 1601 84 [(0, .ref 3), (1, .long v1), (3, .int v3)] [] S none S' := by
  unfold o_tp_put_84 at h
  refine RR.runs (pc' := 87) (lc' := [(3, .int ((v3 + (-8 : Int32)))), (0, .ref 3), (1, .long v1)]) (st' := []) (S1 := S) (nL := 6) (cd := cd_1601) mx_1601 rfl rfl 1 rfl ?_
  obtain ⟨x1, ex1, h⟩ := ltE h
  rw [← ex1]
  refine RR.runs (pc' := 3) (lc' := [(3, .int x1), (0, .ref 3), (1, .long v1)]) (st' := []) (S1 := S) (nL := 6) (cd := cd_1601) mx_1601 rfl rfl 1 rfl ?_
  refine RR.weak [(0, .ref 3), (1, .long v1), (3, .int x1)] ⟨rfl, rfl, rfl, trivial⟩ ?_
  exact b3 _ _ _ h
def o_tp_put_43 (k3 : Int64 → Int32 → St → Re Unit) (v1 : Int64) (v3 : Int32) (v4 : Int32) (p0 : Int32) (S : St) : Re Unit :=
  if p0 = 0 then (
    o_tp_put_84 k3 v1 v3 S)
  else (
    if (rI S 3 1) < (1000 : Int32) then (
      if (rI S 3 1) < 0 ∨ 1000 ≤ (rI S 3 1).toNatClampNeg then none else
      lt' (wI S 4 (rI S 3 1).toNatClampNeg ((vp_nar .char ((v4.toUInt32 % 65536).toInt32)))) fun S1 =>
      lt' (wI S1 3 1 (((rI S1 3 1) + (1 : Int32)))) fun S2 =>
      o_tp_put_84 k3 v1 v3 S2)
    else (
      o_tp_put_84 k3 v1 v3 S))
set_option maxRecDepth 100000 in
theorem s_o_tp_put_43 {d : Nat} (k3 : Int64 → Int32 → St → Re Unit) {S' : St} {r : Unit} (b3 : ∀ (v1 : Int64) (v3 : Int32) (S : St), k3 v1 v3 S = some (r, S') → RR KO (d + 0) 1601 3 [(0, .ref 3), (1, .long v1), (3, .int v3)] [] S none S') (v1 : Int64) (v3 : Int32) (v4 : Int32) (p0 : Int32) (S : St) (h : o_tp_put_43 k3 v1 v3 v4 p0 S = some (r, S')) : RR KO (d + 0) 1601 43 [(0, .ref 3), (1, .long v1), (3, .int v3), (4, .int v4)] [.int p0] S none S' := by
  unfold o_tp_put_43 at h
  refine RR.runs (pc' := icm .eq p0 0 84 50) (lc' := [(5, .int p0), (0, .ref 3), (1, .long v1), (3, .int v3), (4, .int v4)]) (st' := []) (S1 := S) (nL := 6) (cd := cd_1601) mx_1601 rfl rfl 3 rfl ?_
  rcases ifE h with ⟨c, h⟩ | ⟨c, h⟩
  · refine RR.c_eq (fun _ => ?_) (fun q => absurd c q)
    refine RR.weak [(0, .ref 3), (1, .long v1), (3, .int v3)] ⟨rfl, rfl, rfl, trivial⟩ ?_
    exact s_o_tp_put_84 _ b3 _ _ _ h
  · refine RR.c_eq (fun q => absurd q c) (fun _ => ?_)
    refine RR.runs (pc' := icm .ge (rI S 3 1) (1000 : Int32) 84 62) (lc' := [(5, .int p0), (0, .ref 3), (1, .long v1), (3, .int v3), (4, .int v4)]) (st' := []) (S1 := S) (nL := 6) (cd := cd_1601) mx_1601 rfl rfl 6 rfl ?_
    rcases ifE h with ⟨c, h⟩ | ⟨c, h⟩
    · refine RR.c_ge (fun _ => ?_) (fun q => absurd c q)
      refine RR.runs (pc' := 73) (lc' := [(5, .int p0), (0, .ref 3), (1, .long v1), (3, .int v3), (4, .int v4)]) (st' := [.int ((v4.toUInt32 % 65536).toInt32), .int (rI S 3 1), .ref 4]) (S1 := S) (nL := 6) (cd := cd_1601) mx_1601 rfl rfl 6 rfl ?_
      obtain ⟨g, h⟩ := gnE h
      refine RR.gPN (c2 := (KO.1 4).1 = 2) (pc' := 74) (lc' := [(5, .int p0), (0, .ref 3), (1, .long v1), (3, .int v3), (4, .int v4)]) (st' := []) (S1 := (wI S 4 (rI S 3 1).toNatClampNeg ((vp_nar .char ((v4.toUInt32 % 65536).toInt32))))) (nL := 6) (cd := cd_1601) mx_1601 rfl rfl rfl rfl g ?_
      obtain ⟨S1, eS1, h⟩ := ltE h
      rw [← eS1]
      refine RR.runs (pc' := 84) (lc' := [(5, .int p0), (0, .ref 3), (1, .long v1), (3, .int v3), (4, .int v4)]) (st' := []) (S1 := (wI S1 3 1 (((rI S1 3 1) + (1 : Int32))))) (nL := 6) (cd := cd_1601) mx_1601 rfl rfl 6 rfl ?_
      obtain ⟨S2, eS2, h⟩ := ltE h
      rw [← eS2]
      refine RR.weak [(0, .ref 3), (1, .long v1), (3, .int v3)] ⟨rfl, rfl, rfl, trivial⟩ ?_
      exact s_o_tp_put_84 _ b3 _ _ _ h
    · refine RR.c_ge (fun q => absurd q c) (fun _ => ?_)
      refine RR.weak [(0, .ref 3), (1, .long v1), (3, .int v3)] ⟨rfl, rfl, rfl, trivial⟩ ?_
      exact s_o_tp_put_84 _ b3 _ _ _ h
def o_tp_put_38 (k3 : Int64 → Int32 → St → Re Unit) (v1 : Int64) (v3 : Int32) (v4 : Int32) (S : St) : Re Unit :=
  o_tp_put_43 k3 v1 v3 v4 (1 : Int32) S
set_option maxRecDepth 100000 in
theorem s_o_tp_put_38 {d : Nat} (k3 : Int64 → Int32 → St → Re Unit) {S' : St} {r : Unit} (b3 : ∀ (v1 : Int64) (v3 : Int32) (S : St), k3 v1 v3 S = some (r, S') → RR KO (d + 0) 1601 3 [(0, .ref 3), (1, .long v1), (3, .int v3)] [] S none S') (v1 : Int64) (v3 : Int32) (v4 : Int32) (S : St) (h : o_tp_put_38 k3 v1 v3 v4 S = some (r, S')) : RR KO (d + 0) 1601 38 [(0, .ref 3), (1, .long v1), (3, .int v3), (4, .int v4)] [] S none S' := by
  unfold o_tp_put_38 at h
  refine RR.runs (pc' := 43) (lc' := [(0, .ref 3), (1, .long v1), (3, .int v3), (4, .int v4)]) (st' := [.int (1 : Int32)]) (S1 := S) (nL := 6) (cd := cd_1601) mx_1601 rfl rfl 2 rfl ?_
  refine RR.weak [(0, .ref 3), (1, .long v1), (3, .int v3), (4, .int v4)] ⟨rfl, rfl, rfl, rfl, trivial⟩ ?_
  exact s_o_tp_put_43 _ b3 _ _ _ _ _ h
def o_tp_put_42 (k3 : Int64 → Int32 → St → Re Unit) (v1 : Int64) (v3 : Int32) (v4 : Int32) (S : St) : Re Unit :=
  o_tp_put_43 k3 v1 v3 v4 (0 : Int32) S
set_option maxRecDepth 100000 in
theorem s_o_tp_put_42 {d : Nat} (k3 : Int64 → Int32 → St → Re Unit) {S' : St} {r : Unit} (b3 : ∀ (v1 : Int64) (v3 : Int32) (S : St), k3 v1 v3 S = some (r, S') → RR KO (d + 0) 1601 3 [(0, .ref 3), (1, .long v1), (3, .int v3)] [] S none S') (v1 : Int64) (v3 : Int32) (v4 : Int32) (S : St) (h : o_tp_put_42 k3 v1 v3 v4 S = some (r, S')) : RR KO (d + 0) 1601 42 [(0, .ref 3), (1, .long v1), (3, .int v3), (4, .int v4)] [] S none S' := by
  unfold o_tp_put_42 at h
  refine RR.runs (pc' := 43) (lc' := [(0, .ref 3), (1, .long v1), (3, .int v3), (4, .int v4)]) (st' := [.int (0 : Int32)]) (S1 := S) (nL := 6) (cd := cd_1601) mx_1601 rfl rfl 1 rfl ?_
  refine RR.weak [(0, .ref 3), (1, .long v1), (3, .int v3), (4, .int v4)] ⟨rfl, rfl, rfl, rfl, trivial⟩ ?_
  exact s_o_tp_put_43 _ b3 _ _ _ _ _ h
def o_tp_put_3 : Nat → Int64 → Int32 → St → Re Unit
  | 0, _, _, _ => none
  | n + 1, v1, v3, S =>
  if v3 < 0 then (
    o_tp_put_90 S)
  else (
    lt' ((((v1 >>> (v3.toInt64 &&& 63)) &&& (255 : Int64))).toInt32 : Int32) fun x1 =>
    if x1 = (10 : Int32) then (
      o_tp_put_38 (o_tp_put_3 n) v1 v3 x1 S)
    else (
      if x1 < (32 : Int32) then (
        o_tp_put_42 (o_tp_put_3 n) v1 v3 x1 S)
      else (
        if (126 : Int32) < x1 then (
          o_tp_put_42 (o_tp_put_3 n) v1 v3 x1 S)
        else (
          o_tp_put_38 (o_tp_put_3 n) v1 v3 x1 S))))
set_option maxRecDepth 100000 in
theorem s_o_tp_put_3 {d : Nat} {S' : St} {r : Unit} : ∀ (n : Nat) (v1 : Int64) (v3 : Int32) (S : St), o_tp_put_3 n v1 v3 S = some (r, S') → RR KO (d + 0) 1601 3 [(0, .ref 3), (1, .long v1), (3, .int v3)] [] S none S' := by
  intro n
  induction n with
  | zero => intro v1 v3 S h; simp only [o_tp_put_3] at h; cases h
  | succ n ih =>
    intro v1 v3 S h
    simp only [o_tp_put_3] at h
    refine RR.runs (pc' := icm .lt v3 0 90 7) (lc' := [(0, .ref 3), (1, .long v1), (3, .int v3)]) (st' := []) (S1 := S) (nL := 6) (cd := cd_1601) mx_1601 rfl rfl 2 rfl ?_
    rcases ifE h with ⟨c, h⟩ | ⟨c, h⟩
    · refine RR.c_lt (fun _ => ?_) (fun q => absurd c q)
      refine RR.weak [] trivial ?_
      exact s_o_tp_put_90 _ h
    · refine RR.c_lt (fun q => absurd q c) (fun _ => ?_)
      refine RR.runs (pc' := 17) (lc' := [(4, .int ((((v1 >>> (v3.toInt64 &&& 63)) &&& (255 : Int64))).toInt32)), (0, .ref 3), (1, .long v1), (3, .int v3)]) (st' := []) (S1 := S) (nL := 6) (cd := cd_1601) mx_1601 rfl rfl 7 rfl ?_
      obtain ⟨x1, ex1, h⟩ := ltE h
      rw [← ex1]
      refine RR.runs (pc' := icm .eq x1 (10 : Int32) 38 24) (lc' := [(4, .int x1), (0, .ref 3), (1, .long v1), (3, .int v3)]) (st' := []) (S1 := S) (nL := 6) (cd := cd_1601) mx_1601 rfl rfl 3 rfl ?_
      rcases ifE h with ⟨c, h⟩ | ⟨c, h⟩
      · refine RR.c_eq (fun _ => ?_) (fun q => absurd c q)
        refine RR.weak [(0, .ref 3), (1, .long v1), (3, .int v3), (4, .int x1)] ⟨rfl, rfl, rfl, rfl, trivial⟩ ?_
        exact s_o_tp_put_38 _ (fun _ _ S h => ih _ _ S h) _ _ _ _ h
      · refine RR.c_eq (fun q => absurd q c) (fun _ => ?_)
        refine RR.runs (pc' := icm .lt x1 (32 : Int32) 42 31) (lc' := [(4, .int x1), (0, .ref 3), (1, .long v1), (3, .int v3)]) (st' := []) (S1 := S) (nL := 6) (cd := cd_1601) mx_1601 rfl rfl 3 rfl ?_
        rcases ifE h with ⟨c, h⟩ | ⟨c, h⟩
        · refine RR.c_lt (fun _ => ?_) (fun q => absurd c q)
          refine RR.weak [(0, .ref 3), (1, .long v1), (3, .int v3), (4, .int x1)] ⟨rfl, rfl, rfl, rfl, trivial⟩ ?_
          exact s_o_tp_put_42 _ (fun _ _ S h => ih _ _ S h) _ _ _ _ h
        · refine RR.c_lt (fun q => absurd q c) (fun _ => ?_)
          refine RR.runs (pc' := icm .gt x1 (126 : Int32) 42 38) (lc' := [(4, .int x1), (0, .ref 3), (1, .long v1), (3, .int v3)]) (st' := []) (S1 := S) (nL := 6) (cd := cd_1601) mx_1601 rfl rfl 3 rfl ?_
          rcases ifE h with ⟨c, h⟩ | ⟨c, h⟩
          · refine RR.c_gt (fun _ => ?_) (fun q => absurd c q)
            refine RR.weak [(0, .ref 3), (1, .long v1), (3, .int v3), (4, .int x1)] ⟨rfl, rfl, rfl, rfl, trivial⟩ ?_
            exact s_o_tp_put_42 _ (fun _ _ S h => ih _ _ S h) _ _ _ _ h
          · refine RR.c_gt (fun q => absurd q c) (fun _ => ?_)
            refine RR.weak [(0, .ref 3), (1, .long v1), (3, .int v3), (4, .int x1)] ⟨rfl, rfl, rfl, rfl, trivial⟩ ?_
            exact s_o_tp_put_38 _ (fun _ _ S h => ih _ _ S h) _ _ _ _ h
def o_tp_put (v1 : Int64) (S : St) : Re Unit :=
  o_tp_put_3 FU v1 (56 : Int32) S
set_option maxRecDepth 100000 in
theorem s0_o_tp_put {d : Nat} {S' : St} {r : Unit} (v1 : Int64) (S : St) (h : o_tp_put v1 S = some (r, S')) : RR KO (d + 0) 1601 0 [(0, .ref 3), (1, .long v1)] [] S none S' := by
  unfold o_tp_put at h
  refine RR.runs (pc' := 3) (lc' := [(3, .int (56 : Int32)), (0, .ref 3), (1, .long v1)]) (st' := []) (S1 := S) (nL := 6) (cd := cd_1601) mx_1601 rfl rfl 2 rfl ?_
  refine RR.weak [(0, .ref 3), (1, .long v1), (3, .int (56 : Int32))] ⟨rfl, rfl, rfl, trivial⟩ ?_
  exact s_o_tp_put_3 _ _ _ _ h
theorem s_o_tp_put {d : Nat} {S' : St} {r : Unit} (v1 : Int64) (S : St) (h : o_tp_put v1 S = some (r, S')) : RC KO (d + 0) 1601 [.ref 3, .long v1] S none S' := RC.of rfl (s0_o_tp_put v1 S h)
-- NameOrchard$Told isDeaf (I)Z
def o_to_isDeaf_24 (p0 : Int32) (S : St) : Re Int32 :=
  if isBo p0 = true then some (p0, S) else none
set_option maxRecDepth 100000 in
theorem s_o_to_isDeaf_24 {d : Nat} {S' : St} {r : Int32} (p0 : Int32) (S : St) (h : o_to_isDeaf_24 p0 S = some (r, S')) : RR KO (d + 2) 2008 24 [] [.int p0] S (some (.int r)) S' := by
  unfold o_to_isDeaf_24 at h
  obtain ⟨g, h⟩ := gpE h
  cases h
  exact RR.retz mx_2008 rfl rfl rfl g
def o_to_isDeaf_23 (S : St) : Re Int32 :=
  o_to_isDeaf_24 (0 : Int32) S
set_option maxRecDepth 100000 in
theorem s_o_to_isDeaf_23 {d : Nat} {S' : St} {r : Int32} (S : St) (h : o_to_isDeaf_23 S = some (r, S')) : RR KO (d + 2) 2008 23 [] [] S (some (.int r)) S' := by
  unfold o_to_isDeaf_23 at h
  refine RR.runs (pc' := 24) (lc' := []) (st' := [.int (0 : Int32)]) (S1 := S) (nL := 2) (cd := cd_2008) mx_2008 rfl rfl 1 rfl ?_
  refine RR.weak [] trivial ?_
  exact s_o_to_isDeaf_24 _ _ h
def o_to_isDeaf (v0 : Nat) (v1 : Int32) (S : St) : Re Int32 :=
  if KO.1 v0 = (0, 10) then (
bn (o_to_hasApple v0 v1 S) fun r2 S3 =>
  if r2 = 0 then (
    o_to_isDeaf_23 S3)
  else (
        if (((rI S3 v0 16) >>> (v1 &&& 31)) &&& (1 : Int32)) = 0 then (
      o_to_isDeaf_23 S3)
    else (
      o_to_isDeaf_24 (1 : Int32) S3))) else none
set_option maxRecDepth 100000 in
theorem s0_o_to_isDeaf {d : Nat} {S' : St} {r : Int32} (v0 : Nat) (v1 : Int32) (S : St) (h : o_to_isDeaf v0 v1 S = some (r, S')) : RR KO (d + 2) 2008 0 [(0, .ref v0), (1, .int v1)] [] S (some (.int r)) S' := by
  unfold o_to_isDeaf at h
  refine RR.runs (pc' := 2) (lc' := [(0, .ref v0), (1, .int v1)]) (st' := [.int v1, .ref v0]) (S1 := S) (nL := 2) (cd := cd_2008) mx_2008 rfl rfl 2 rfl ?_
  obtain ⟨g1, h⟩ := gpE h
  obtain ⟨r2, S3, h1, h⟩ := bnE h
  refine RR.callV (b := v0) (as := [.int v1]) (rest := []) (r1 := (some (.int r2))) (S1 := S3) mx_2008 rfl rfl mx_2005 rfl rfl (by decide) (Or.inl g1) (Nat.le_of_ble_eq_true rfl) (Nat.le_of_ble_eq_true rfl) (RC.deep (by omega) (s_o_to_hasApple (d := d) _ _ _ h1)) ?_
  show RR KO _ 2008 5 [(0, .ref v0), (1, .int v1)] [.int r2] S3 _ _
  refine RR.runs (pc' := icm .eq r2 0 23 8) (lc' := [(0, .ref v0), (1, .int v1)]) (st' := []) (S1 := S3) (nL := 2) (cd := cd_2008) mx_2008 rfl rfl 1 rfl ?_
  rcases ifE h with ⟨c, h⟩ | ⟨c, h⟩
  · refine RR.c_eq (fun _ => ?_) (fun q => absurd c q)
    refine RR.weak [] trivial ?_
    exact s_o_to_isDeaf_23 _ h
  · refine RR.c_eq (fun q => absurd q c) (fun _ => ?_)
    refine RR.runs (pc' := 9) (lc' := [(0, .ref v0), (1, .int v1)]) (st' := [.ref v0]) (S1 := S3) (nL := 2) (cd := cd_2008) mx_2008 rfl rfl 1 rfl ?_
    refine RR.gPo (pc' := 12) (lc' := [(0, .ref v0), (1, .int v1)]) (st' := [.int (rI S3 v0 16)]) (S1 := S3) (nL := 2) (cd := cd_2008) mx_2008 rfl rfl rfl ⟨g1, by decide, by decide⟩ ?_
    refine RR.runs (pc' := icm .eq ((((rI S3 v0 16) >>> (v1 &&& 31)) &&& (1 : Int32))) 0 23 19) (lc' := [(0, .ref v0), (1, .int v1)]) (st' := []) (S1 := S3) (nL := 2) (cd := cd_2008) mx_2008 rfl rfl 5 rfl ?_
    rcases ifE h with ⟨c, h⟩ | ⟨c, h⟩
    · refine RR.c_eq (fun _ => ?_) (fun q => absurd c q)
      refine RR.weak [] trivial ?_
      exact s_o_to_isDeaf_23 _ h
    · refine RR.c_eq (fun q => absurd q c) (fun _ => ?_)
      refine RR.runs (pc' := 24) (lc' := [(0, .ref v0), (1, .int v1)]) (st' := [.int (1 : Int32)]) (S1 := S3) (nL := 2) (cd := cd_2008) mx_2008 rfl rfl 2 rfl ?_
      refine RR.weak [] trivial ?_
      exact s_o_to_isDeaf_24 _ _ h
theorem s_o_to_isDeaf {d : Nat} {S' : St} {r : Int32} (v0 : Nat) (v1 : Int32) (S : St) (h : o_to_isDeaf v0 v1 S = some (r, S')) : RC KO (d + 2) 2008 [.ref v0, .int v1] S (some (.int r)) S' := RC.of rfl (s0_o_to_isDeaf v0 v1 S h)
-- NameOrchard$Told worthOf (I)I
def o_to_worthOf_37 (k4 : Nat → Int32 → Int32 → Int32 → St → Re Int32) (v0 : Nat) (v1 : Int32) (v3 : Int32) (p0 : Int32) (p1 : Int32) (S : St) : Re Int32 :=
  lt' ((p1 + p0) : Int32) fun x1 =>
  lt' ((v3 + (1 : Int32)) : Int32) fun x2 =>
  k4 v0 v1 x1 x2 S
set_option maxRecDepth 100000 in
theorem s_o_to_worthOf_37 {d : Nat} (k4 : Nat → Int32 → Int32 → Int32 → St → Re Int32) {S' : St} {r : Int32} (b4 : ∀ (v0 : Nat) (v1 : Int32) (v2 : Int32) (v3 : Int32) (S : St), k4 v0 v1 v2 v3 S = some (r, S') → RR KO (d + 2) 2016 4 [(0, .ref v0), (1, .int v1), (2, .int v2), (3, .int v3)] [] S (some (.int r)) S') (v0 : Nat) (v1 : Int32) (v3 : Int32) (p0 : Int32) (p1 : Int32) (S : St) (h : o_to_worthOf_37 k4 v0 v1 v3 p0 p1 S = some (r, S')) : RR KO (d + 2) 2016 37 [(0, .ref v0), (1, .int v1), (3, .int v3)] [.int p0, .int p1] S (some (.int r)) S' := by
  unfold o_to_worthOf_37 at h
  refine RR.runs (pc' := 39) (lc' := [(2, .int (p1 + p0)), (0, .ref v0), (1, .int v1), (3, .int v3)]) (st' := []) (S1 := S) (nL := 4) (cd := cd_2016) mx_2016 rfl rfl 2 rfl ?_
  obtain ⟨x1, ex1, h⟩ := ltE h
  rw [← ex1]
  refine RR.runs (pc' := 42) (lc' := [(3, .int ((v3 + (1 : Int32)))), (2, .int x1), (0, .ref v0), (1, .int v1)]) (st' := []) (S1 := S) (nL := 4) (cd := cd_2016) mx_2016 rfl rfl 1 rfl ?_
  obtain ⟨x2, ex2, h⟩ := ltE h
  rw [← ex2]
  refine RR.runs (pc' := 4) (lc' := [(3, .int x2), (2, .int x1), (0, .ref v0), (1, .int v1)]) (st' := []) (S1 := S) (nL := 4) (cd := cd_2016) mx_2016 rfl rfl 1 rfl ?_
  refine RR.weak [(0, .ref v0), (1, .int v1), (2, .int x1), (3, .int x2)] ⟨rfl, rfl, rfl, rfl, trivial⟩ ?_
  exact b4 _ _ _ _ _ h
def o_to_worthOf_45 (v2 : Int32) (S : St) : Re Int32 :=
  some (v2, S)
set_option maxRecDepth 100000 in
theorem s_o_to_worthOf_45 {d : Nat} {S' : St} {r : Int32} (v2 : Int32) (S : St) (h : o_to_worthOf_45 v2 S = some (r, S')) : RR KO (d + 2) 2016 45 [(2, .int v2)] [] S (some (.int r)) S' := by
  unfold o_to_worthOf_45 at h
  refine RR.runs (pc' := 46) (lc' := [(2, .int v2)]) (st' := [.int v2]) (S1 := S) (nL := 4) (cd := cd_2016) mx_2016 rfl rfl 1 rfl ?_
  cases h
  exact RR.reti mx_2016 rfl rfl rfl
def o_to_worthOf_4 : Nat → Nat → Int32 → Int32 → Int32 → St → Re Int32
  | 0, _, _, _, _, _ => none
  | n + 1, v0, v1, v2, v3, S =>
  if KO.1 v0 = (0, 10) then (
  if KO.1 (v0 + 80) = (0, 7) then (
bn (o_tb_size (v0 + 80) S) fun r3 S4 =>
  if v3 < r3 then (
    if ((v1 >>> (v3 &&& 31)) &&& (1 : Int32)) = 0 then (
      o_to_worthOf_37 (o_to_worthOf_4 n) v0 v1 v3 (0 : Int32) v2 S4)
    else (
            bn (o_tb_at (v0 + 80) v3 (4 : Int32) S4) fun r5 S6 =>
      o_to_worthOf_37 (o_to_worthOf_4 n) v0 v1 v3 r5 v2 S6))
  else (
    o_to_worthOf_45 v2 S4)) else none) else none
set_option maxRecDepth 100000 in
theorem s_o_to_worthOf_4 {d : Nat} {S' : St} {r : Int32} : ∀ (n : Nat) (v0 : Nat) (v1 : Int32) (v2 : Int32) (v3 : Int32) (S : St), o_to_worthOf_4 n v0 v1 v2 v3 S = some (r, S') → RR KO (d + 2) 2016 4 [(0, .ref v0), (1, .int v1), (2, .int v2), (3, .int v3)] [] S (some (.int r)) S' := by
  intro n
  induction n with
  | zero => intro v0 v1 v2 v3 S h; simp only [o_to_worthOf_4] at h; cases h
  | succ n ih =>
    intro v0 v1 v2 v3 S h
    simp only [o_to_worthOf_4] at h
    refine RR.runs (pc' := 6) (lc' := [(0, .ref v0), (1, .int v1), (2, .int v2), (3, .int v3)]) (st' := [.ref v0, .int v3]) (S1 := S) (nL := 4) (cd := cd_2016) mx_2016 rfl rfl 2 rfl ?_
    obtain ⟨g1, h⟩ := gpE h
    refine RR.gPo (pc' := 9) (lc' := [(0, .ref v0), (1, .int v1), (2, .int v2), (3, .int v3)]) (st' := [.ref (v0 + 80), .int v3]) (S1 := S) (nL := 4) (cd := cd_2016) mx_2016 rfl rfl rfl ⟨g1, by decide, by decide⟩ ?_
    obtain ⟨g2, h⟩ := gpE h
    obtain ⟨r3, S4, h1, h⟩ := bnE h
    refine RR.callV (b := (v0 + 80)) (as := []) (rest := [.int v3]) (r1 := (some (.int r3))) (S1 := S4) mx_2016 rfl rfl mx_1402 rfl rfl (by decide) (Or.inl g2) (Nat.le_of_ble_eq_true rfl) (Nat.le_of_ble_eq_true rfl) (RC.deep (by omega) (s_o_tb_size (d := d) _ _ h1)) ?_
    show RR KO _ 2016 12 [(0, .ref v0), (1, .int v1), (2, .int v2), (3, .int v3)] [.int r3, .int v3] S4 _ _
    refine RR.runs (pc' := icm .ge v3 r3 45 15) (lc' := [(0, .ref v0), (1, .int v1), (2, .int v2), (3, .int v3)]) (st' := []) (S1 := S4) (nL := 4) (cd := cd_2016) mx_2016 rfl rfl 1 rfl ?_
    rcases ifE h with ⟨c, h⟩ | ⟨c, h⟩
    · refine RR.c_ge (fun _ => ?_) (fun q => absurd c q)
      refine RR.runs (pc' := icm .eq (((v1 >>> (v3 &&& 31)) &&& (1 : Int32))) 0 36 24) (lc' := [(0, .ref v0), (1, .int v1), (2, .int v2), (3, .int v3)]) (st' := [.int v2]) (S1 := S4) (nL := 4) (cd := cd_2016) mx_2016 rfl rfl 7 rfl ?_
      rcases ifE h with ⟨c, h⟩ | ⟨c, h⟩
      · refine RR.c_eq (fun _ => ?_) (fun q => absurd c q)
        refine RR.runs (pc' := 37) (lc' := [(0, .ref v0), (1, .int v1), (2, .int v2), (3, .int v3)]) (st' := [.int (0 : Int32), .int v2]) (S1 := S4) (nL := 4) (cd := cd_2016) mx_2016 rfl rfl 1 rfl ?_
        refine RR.weak [(0, .ref v0), (1, .int v1), (3, .int v3)] ⟨rfl, rfl, rfl, trivial⟩ ?_
        exact s_o_to_worthOf_37 _ (fun _ _ _ _ S h => ih _ _ _ _ S h) _ _ _ _ _ _ h
      · refine RR.c_eq (fun q => absurd q c) (fun _ => ?_)
        refine RR.runs (pc' := 25) (lc' := [(0, .ref v0), (1, .int v1), (2, .int v2), (3, .int v3)]) (st' := [.ref v0, .int v2]) (S1 := S4) (nL := 4) (cd := cd_2016) mx_2016 rfl rfl 1 rfl ?_
        refine RR.gPo (pc' := 28) (lc' := [(0, .ref v0), (1, .int v1), (2, .int v2), (3, .int v3)]) (st' := [.ref (v0 + 80), .int v2]) (S1 := S4) (nL := 4) (cd := cd_2016) mx_2016 rfl rfl rfl ⟨g1, by decide, by decide⟩ ?_
        refine RR.runs (pc' := 30) (lc' := [(0, .ref v0), (1, .int v1), (2, .int v2), (3, .int v3)]) (st' := [.int (4 : Int32), .int v3, .ref (v0 + 80), .int v2]) (S1 := S4) (nL := 4) (cd := cd_2016) mx_2016 rfl rfl 2 rfl ?_
        obtain ⟨r5, S6, h1, h⟩ := bnE h
        refine RR.callV (b := (v0 + 80)) (as := [.int v3, .int (4 : Int32)]) (rest := [.int v2]) (r1 := (some (.int r5))) (S1 := S6) mx_2016 rfl rfl mx_1405 rfl rfl (by decide) (Or.inl g2) (Nat.le_of_ble_eq_true rfl) (Nat.le_of_ble_eq_true rfl) (RC.deep (by omega) (s_o_tb_at (d := d) _ _ _ _ h1)) ?_
        show RR KO _ 2016 33 [(0, .ref v0), (1, .int v1), (2, .int v2), (3, .int v3)] [.int r5, .int v2] S6 _ _
        refine RR.runs (pc' := 37) (lc' := [(0, .ref v0), (1, .int v1), (2, .int v2), (3, .int v3)]) (st' := [.int r5, .int v2]) (S1 := S6) (nL := 4) (cd := cd_2016) mx_2016 rfl rfl 1 rfl ?_
        refine RR.weak [(0, .ref v0), (1, .int v1), (3, .int v3)] ⟨rfl, rfl, rfl, trivial⟩ ?_
        exact s_o_to_worthOf_37 _ (fun _ _ _ _ S h => ih _ _ _ _ S h) _ _ _ _ _ _ h
    · refine RR.c_ge (fun q => absurd q c) (fun _ => ?_)
      refine RR.weak [(2, .int v2)] ⟨rfl, trivial⟩ ?_
      exact s_o_to_worthOf_45 _ _ h
def o_to_worthOf (v0 : Nat) (v1 : Int32) (S : St) : Re Int32 :=
  o_to_worthOf_4 FU v0 v1 (0 : Int32) (0 : Int32) S
set_option maxRecDepth 100000 in
theorem s0_o_to_worthOf {d : Nat} {S' : St} {r : Int32} (v0 : Nat) (v1 : Int32) (S : St) (h : o_to_worthOf v0 v1 S = some (r, S')) : RR KO (d + 2) 2016 0 [(0, .ref v0), (1, .int v1)] [] S (some (.int r)) S' := by
  unfold o_to_worthOf at h
  refine RR.runs (pc' := 4) (lc' := [(3, .int (0 : Int32)), (2, .int (0 : Int32)), (0, .ref v0), (1, .int v1)]) (st' := []) (S1 := S) (nL := 4) (cd := cd_2016) mx_2016 rfl rfl 4 rfl ?_
  refine RR.weak [(0, .ref v0), (1, .int v1), (2, .int (0 : Int32)), (3, .int (0 : Int32))] ⟨rfl, rfl, rfl, rfl, trivial⟩ ?_
  exact s_o_to_worthOf_4 _ _ _ _ _ _ h
theorem s_o_to_worthOf {d : Nat} {S' : St} {r : Int32} (v0 : Nat) (v1 : Int32) (S : St) (h : o_to_worthOf v0 v1 S = some (r, S')) : RC KO (d + 2) 2016 [.ref v0, .int v1] S (some (.int r)) S' := RC.of rfl (s0_o_to_worthOf v0 v1 S h)
-- NameOrchard$Told unripe (I)I
def o_to_unripe_36 (k4 : Nat → Int32 → Int32 → Int32 → St → Re Int32) (v0 : Nat) (v1 : Int32) (v3 : Int32) (p0 : Int32) (p1 : Int32) (S : St) : Re Int32 :=
  lt' ((p1 ||| p0) : Int32) fun x1 =>
  lt' ((v3 + (1 : Int32)) : Int32) fun x2 =>
  k4 v0 v1 x1 x2 S
set_option maxRecDepth 100000 in
theorem s_o_to_unripe_36 {d : Nat} (k4 : Nat → Int32 → Int32 → Int32 → St → Re Int32) {S' : St} {r : Int32} (b4 : ∀ (v0 : Nat) (v1 : Int32) (v2 : Int32) (v3 : Int32) (S : St), k4 v0 v1 v2 v3 S = some (r, S') → RR KO (d + 2) 2017 4 [(0, .ref v0), (1, .int v1), (2, .int v2), (3, .int v3)] [] S (some (.int r)) S') (v0 : Nat) (v1 : Int32) (v3 : Int32) (p0 : Int32) (p1 : Int32) (S : St) (h : o_to_unripe_36 k4 v0 v1 v3 p0 p1 S = some (r, S')) : RR KO (d + 2) 2017 36 [(0, .ref v0), (1, .int v1), (3, .int v3)] [.int p0, .int p1] S (some (.int r)) S' := by
  unfold o_to_unripe_36 at h
  refine RR.runs (pc' := 38) (lc' := [(2, .int (p1 ||| p0)), (0, .ref v0), (1, .int v1), (3, .int v3)]) (st' := []) (S1 := S) (nL := 4) (cd := cd_2017) mx_2017 rfl rfl 2 rfl ?_
  obtain ⟨x1, ex1, h⟩ := ltE h
  rw [← ex1]
  refine RR.runs (pc' := 41) (lc' := [(3, .int ((v3 + (1 : Int32)))), (2, .int x1), (0, .ref v0), (1, .int v1)]) (st' := []) (S1 := S) (nL := 4) (cd := cd_2017) mx_2017 rfl rfl 1 rfl ?_
  obtain ⟨x2, ex2, h⟩ := ltE h
  rw [← ex2]
  refine RR.runs (pc' := 4) (lc' := [(3, .int x2), (2, .int x1), (0, .ref v0), (1, .int v1)]) (st' := []) (S1 := S) (nL := 4) (cd := cd_2017) mx_2017 rfl rfl 1 rfl ?_
  refine RR.weak [(0, .ref v0), (1, .int v1), (2, .int x1), (3, .int x2)] ⟨rfl, rfl, rfl, rfl, trivial⟩ ?_
  exact b4 _ _ _ _ _ h
def o_to_unripe_44 (v2 : Int32) (S : St) : Re Int32 :=
  some (v2, S)
set_option maxRecDepth 100000 in
theorem s_o_to_unripe_44 {d : Nat} {S' : St} {r : Int32} (v2 : Int32) (S : St) (h : o_to_unripe_44 v2 S = some (r, S')) : RR KO (d + 2) 2017 44 [(2, .int v2)] [] S (some (.int r)) S' := by
  unfold o_to_unripe_44 at h
  refine RR.runs (pc' := 45) (lc' := [(2, .int v2)]) (st' := [.int v2]) (S1 := S) (nL := 4) (cd := cd_2017) mx_2017 rfl rfl 1 rfl ?_
  cases h
  exact RR.reti mx_2017 rfl rfl rfl
def o_to_unripe_4 : Nat → Nat → Int32 → Int32 → Int32 → St → Re Int32
  | 0, _, _, _, _, _ => none
  | n + 1, v0, v1, v2, v3, S =>
  if KO.1 v0 = (0, 10) then (
  if KO.1 (v0 + 80) = (0, 7) then (
bn (o_tb_size (v0 + 80) S) fun r3 S4 =>
  if v3 < r3 then (
        bn (o_tb_at (v0 + 80) v3 (3 : Int32) S4) fun r5 S6 =>
    if v1 < r5 then (
      o_to_unripe_36 (o_to_unripe_4 n) v0 v1 v3 (((1 : Int32) <<< (v3 &&& 31))) v2 S6)
    else (
      o_to_unripe_36 (o_to_unripe_4 n) v0 v1 v3 (0 : Int32) v2 S6))
  else (
    o_to_unripe_44 v2 S4)) else none) else none
set_option maxRecDepth 100000 in
theorem s_o_to_unripe_4 {d : Nat} {S' : St} {r : Int32} : ∀ (n : Nat) (v0 : Nat) (v1 : Int32) (v2 : Int32) (v3 : Int32) (S : St), o_to_unripe_4 n v0 v1 v2 v3 S = some (r, S') → RR KO (d + 2) 2017 4 [(0, .ref v0), (1, .int v1), (2, .int v2), (3, .int v3)] [] S (some (.int r)) S' := by
  intro n
  induction n with
  | zero => intro v0 v1 v2 v3 S h; simp only [o_to_unripe_4] at h; cases h
  | succ n ih =>
    intro v0 v1 v2 v3 S h
    simp only [o_to_unripe_4] at h
    refine RR.runs (pc' := 6) (lc' := [(0, .ref v0), (1, .int v1), (2, .int v2), (3, .int v3)]) (st' := [.ref v0, .int v3]) (S1 := S) (nL := 4) (cd := cd_2017) mx_2017 rfl rfl 2 rfl ?_
    obtain ⟨g1, h⟩ := gpE h
    refine RR.gPo (pc' := 9) (lc' := [(0, .ref v0), (1, .int v1), (2, .int v2), (3, .int v3)]) (st' := [.ref (v0 + 80), .int v3]) (S1 := S) (nL := 4) (cd := cd_2017) mx_2017 rfl rfl rfl ⟨g1, by decide, by decide⟩ ?_
    obtain ⟨g2, h⟩ := gpE h
    obtain ⟨r3, S4, h1, h⟩ := bnE h
    refine RR.callV (b := (v0 + 80)) (as := []) (rest := [.int v3]) (r1 := (some (.int r3))) (S1 := S4) mx_2017 rfl rfl mx_1402 rfl rfl (by decide) (Or.inl g2) (Nat.le_of_ble_eq_true rfl) (Nat.le_of_ble_eq_true rfl) (RC.deep (by omega) (s_o_tb_size (d := d) _ _ h1)) ?_
    show RR KO _ 2017 12 [(0, .ref v0), (1, .int v1), (2, .int v2), (3, .int v3)] [.int r3, .int v3] S4 _ _
    refine RR.runs (pc' := icm .ge v3 r3 44 15) (lc' := [(0, .ref v0), (1, .int v1), (2, .int v2), (3, .int v3)]) (st' := []) (S1 := S4) (nL := 4) (cd := cd_2017) mx_2017 rfl rfl 1 rfl ?_
    rcases ifE h with ⟨c, h⟩ | ⟨c, h⟩
    · refine RR.c_ge (fun _ => ?_) (fun q => absurd c q)
      refine RR.runs (pc' := 18) (lc' := [(0, .ref v0), (1, .int v1), (2, .int v2), (3, .int v3)]) (st' := [.ref v0, .int v1, .int v2]) (S1 := S4) (nL := 4) (cd := cd_2017) mx_2017 rfl rfl 3 rfl ?_
      refine RR.gPo (pc' := 21) (lc' := [(0, .ref v0), (1, .int v1), (2, .int v2), (3, .int v3)]) (st' := [.ref (v0 + 80), .int v1, .int v2]) (S1 := S4) (nL := 4) (cd := cd_2017) mx_2017 rfl rfl rfl ⟨g1, by decide, by decide⟩ ?_
      refine RR.runs (pc' := 23) (lc' := [(0, .ref v0), (1, .int v1), (2, .int v2), (3, .int v3)]) (st' := [.int (3 : Int32), .int v3, .ref (v0 + 80), .int v1, .int v2]) (S1 := S4) (nL := 4) (cd := cd_2017) mx_2017 rfl rfl 2 rfl ?_
      obtain ⟨r5, S6, h1, h⟩ := bnE h
      refine RR.callV (b := (v0 + 80)) (as := [.int v3, .int (3 : Int32)]) (rest := [.int v1, .int v2]) (r1 := (some (.int r5))) (S1 := S6) mx_2017 rfl rfl mx_1405 rfl rfl (by decide) (Or.inl g2) (Nat.le_of_ble_eq_true rfl) (Nat.le_of_ble_eq_true rfl) (RC.deep (by omega) (s_o_tb_at (d := d) _ _ _ _ h1)) ?_
      show RR KO _ 2017 26 [(0, .ref v0), (1, .int v1), (2, .int v2), (3, .int v3)] [.int r5, .int v1, .int v2] S6 _ _
      refine RR.runs (pc' := icm .ge v1 r5 35 29) (lc' := [(0, .ref v0), (1, .int v1), (2, .int v2), (3, .int v3)]) (st' := [.int v2]) (S1 := S6) (nL := 4) (cd := cd_2017) mx_2017 rfl rfl 1 rfl ?_
      rcases ifE h with ⟨c, h⟩ | ⟨c, h⟩
      · refine RR.c_ge (fun _ => ?_) (fun q => absurd c q)
        refine RR.runs (pc' := 36) (lc' := [(0, .ref v0), (1, .int v1), (2, .int v2), (3, .int v3)]) (st' := [.int (((1 : Int32) <<< (v3 &&& 31))), .int v2]) (S1 := S6) (nL := 4) (cd := cd_2017) mx_2017 rfl rfl 4 rfl ?_
        refine RR.weak [(0, .ref v0), (1, .int v1), (3, .int v3)] ⟨rfl, rfl, rfl, trivial⟩ ?_
        exact s_o_to_unripe_36 _ (fun _ _ _ _ S h => ih _ _ _ _ S h) _ _ _ _ _ _ h
      · refine RR.c_ge (fun q => absurd q c) (fun _ => ?_)
        refine RR.runs (pc' := 36) (lc' := [(0, .ref v0), (1, .int v1), (2, .int v2), (3, .int v3)]) (st' := [.int (0 : Int32), .int v2]) (S1 := S6) (nL := 4) (cd := cd_2017) mx_2017 rfl rfl 1 rfl ?_
        refine RR.weak [(0, .ref v0), (1, .int v1), (3, .int v3)] ⟨rfl, rfl, rfl, trivial⟩ ?_
        exact s_o_to_unripe_36 _ (fun _ _ _ _ S h => ih _ _ _ _ S h) _ _ _ _ _ _ h
    · refine RR.c_ge (fun q => absurd q c) (fun _ => ?_)
      refine RR.weak [(2, .int v2)] ⟨rfl, trivial⟩ ?_
      exact s_o_to_unripe_44 _ _ h
def o_to_unripe (v0 : Nat) (v1 : Int32) (S : St) : Re Int32 :=
  o_to_unripe_4 FU v0 v1 (0 : Int32) (0 : Int32) S
set_option maxRecDepth 100000 in
theorem s0_o_to_unripe {d : Nat} {S' : St} {r : Int32} (v0 : Nat) (v1 : Int32) (S : St) (h : o_to_unripe v0 v1 S = some (r, S')) : RR KO (d + 2) 2017 0 [(0, .ref v0), (1, .int v1)] [] S (some (.int r)) S' := by
  unfold o_to_unripe at h
  refine RR.runs (pc' := 4) (lc' := [(3, .int (0 : Int32)), (2, .int (0 : Int32)), (0, .ref v0), (1, .int v1)]) (st' := []) (S1 := S) (nL := 4) (cd := cd_2017) mx_2017 rfl rfl 4 rfl ?_
  refine RR.weak [(0, .ref v0), (1, .int v1), (2, .int (0 : Int32)), (3, .int (0 : Int32))] ⟨rfl, rfl, rfl, rfl, trivial⟩ ?_
  exact s_o_to_unripe_4 _ _ _ _ _ _ h
theorem s_o_to_unripe {d : Nat} {S' : St} {r : Int32} (v0 : Nat) (v1 : Int32) (S : St) (h : o_to_unripe v0 v1 S = some (r, S')) : RC KO (d + 2) 2017 [.ref v0, .int v1] S (some (.int r)) S' := RC.of rfl (s0_o_to_unripe v0 v1 S h)
-- NameOrchard feed (JJJ)I
def o_feed (v1 : Int64) (v3 : Int64) (v5 : Int64) (S : St) : Re Int32 :=
  bn (o_tp_put v1 S) fun r1 S2 =>
  bn (o_tp_put v3 S2) fun r3 S4 =>
  bn (o_tp_put v5 S4) fun r5 S6 =>
  some ((rI S6 3 1), S6)
set_option maxRecDepth 100000 in
theorem s0_o_feed {d : Nat} {S' : St} {r : Int32} (v1 : Int64) (v3 : Int64) (v5 : Int64) (S : St) (h : o_feed v1 v3 v5 S = some (r, S')) : RR KO (d + 1) 2201 0 [(0, .ref 1), (1, .long v1), (3, .long v3), (5, .long v5)] [] S (some (.int r)) S' := by
  unfold o_feed at h
  refine RR.runs (pc' := 8) (lc' := [(0, .ref 1), (1, .long v1), (3, .long v3), (5, .long v5)]) (st' := [.long v1, .ref 3]) (S1 := S) (nL := 7) (cd := cd_2201) mx_2201 rfl rfl 4 rfl ?_
  obtain ⟨r1, S2, h1, h⟩ := bnE h
  refine RR.callV (b := 3) (as := [.long v1]) (rest := []) (r1 := none) (S1 := S2) mx_2201 rfl rfl mx_1601 rfl rfl (by decide) (Or.inl rfl) (Nat.le_of_ble_eq_true rfl) (Nat.le_of_ble_eq_true rfl) (RC.deep (by omega) (s_o_tp_put (d := d) _ _ h1)) ?_
  show RR KO _ 2201 11 [(0, .ref 1), (1, .long v1), (3, .long v3), (5, .long v5)] [] S2 _ _
  refine RR.runs (pc' := 19) (lc' := [(0, .ref 1), (1, .long v1), (3, .long v3), (5, .long v5)]) (st' := [.long v3, .ref 3]) (S1 := S2) (nL := 7) (cd := cd_2201) mx_2201 rfl rfl 4 rfl ?_
  obtain ⟨r3, S4, h1, h⟩ := bnE h
  refine RR.callV (b := 3) (as := [.long v3]) (rest := []) (r1 := none) (S1 := S4) mx_2201 rfl rfl mx_1601 rfl rfl (by decide) (Or.inl rfl) (Nat.le_of_ble_eq_true rfl) (Nat.le_of_ble_eq_true rfl) (RC.deep (by omega) (s_o_tp_put (d := d) _ _ h1)) ?_
  show RR KO _ 2201 22 [(0, .ref 1), (1, .long v1), (3, .long v3), (5, .long v5)] [] S4 _ _
  refine RR.runs (pc' := 31) (lc' := [(0, .ref 1), (1, .long v1), (3, .long v3), (5, .long v5)]) (st' := [.long v5, .ref 3]) (S1 := S4) (nL := 7) (cd := cd_2201) mx_2201 rfl rfl 4 rfl ?_
  obtain ⟨r5, S6, h1, h⟩ := bnE h
  refine RR.callV (b := 3) (as := [.long v5]) (rest := []) (r1 := none) (S1 := S6) mx_2201 rfl rfl mx_1601 rfl rfl (by decide) (Or.inl rfl) (Nat.le_of_ble_eq_true rfl) (Nat.le_of_ble_eq_true rfl) (RC.deep (by omega) (s_o_tp_put (d := d) _ _ h1)) ?_
  show RR KO _ 2201 34 [(0, .ref 1), (1, .long v1), (3, .long v3), (5, .long v5)] [] S6 _ _
  refine RR.runs (pc' := 44) (lc' := [(0, .ref 1), (1, .long v1), (3, .long v3), (5, .long v5)]) (st' := [.int (rI S6 3 1)]) (S1 := S6) (nL := 7) (cd := cd_2201) mx_2201 rfl rfl 4 rfl ?_
  cases h
  exact RR.reti mx_2201 rfl rfl rfl
theorem s_o_feed {d : Nat} {S' : St} {r : Int32} (v1 : Int64) (v3 : Int64) (v5 : Int64) (S : St) (h : o_feed v1 v3 v5 S = some (r, S')) : RC KO (d + 1) 2201 [.ref 1, .long v1, .long v3, .long v5] S (some (.int r)) S' := RC.of rfl (s0_o_feed v1 v3 v5 S h)
-- NameOrchard orchard ()I
def o_orchard_55 (v1 : Int32) (S : St) : Re Int32 :=
  some (v1, S)
set_option maxRecDepth 100000 in
theorem s_o_orchard_55 {d : Nat} {S' : St} {r : Int32} (v1 : Int32) (S : St) (h : o_orchard_55 v1 S = some (r, S')) : RR KO (d + 7) 2202 55 [(1, .int v1)] [] S (some (.int r)) S' := by
  unfold o_orchard_55 at h
  refine RR.runs (pc' := 56) (lc' := [(1, .int v1)]) (st' := [.int v1]) (S1 := S) (nL := 3) (cd := cd_2202) mx_2202 rfl rfl 1 rfl ?_
  cases h
  exact RR.reti mx_2202 rfl rfl rfl
def o_orchard (S : St) : Re Int32 :=
  oq (rQ S 1 10) none fun o1 =>
  bn (o_rd_readOrchard o1 S) fun r2 S3 =>
  if r2 = 0 then (
    oq (rQ S3 1 9) none fun o4 =>
    oq (rQ S3 1 10) none fun o5 =>
    lt' (wQ S3 1 9 (some o5)) fun S6 =>
    lt' (wQ S6 1 10 (some o4)) fun S7 =>
    oq (rQ S7 1 9) none fun o8 =>
    bn (o_sa_begin 70 o8 S7) fun r9 S10 =>
    lt' (wI S10 1 11 (0 : Int32)) fun S11 =>
    lt' (wI S11 1 12 (0 : Int32)) fun S12 =>
    o_orchard_55 r2 S12)
  else (
    o_orchard_55 r2 S3)
set_option maxRecDepth 100000 in
theorem s0_o_orchard {d : Nat} {S' : St} {r : Int32} (S : St) (h : o_orchard S = some (r, S')) : RR KO (d + 7) 2202 0 [(0, .ref 1)] [] S (some (.int r)) S' := by
  unfold o_orchard at h
  refine RR.runs (pc' := 8) (lc' := [(0, .ref 1)]) (st' := [qv (rQ S 1 10), .ref 2]) (S1 := S) (nL := 3) (cd := cd_2202) mx_2202 rfl rfl 4 rfl ?_
  rcases oqE h with ⟨e1, h⟩ | ⟨o1, eo1, h⟩
  · cases h
  rw [eo1]
  obtain ⟨r2, S3, h1, h⟩ := bnE h
  refine RR.callV (b := 2) (as := [.ref o1]) (rest := []) (r1 := (some (.int r2))) (S1 := S3) mx_2202 rfl rfl mx_601 rfl rfl (by decide) (Or.inl rfl) (Nat.le_of_ble_eq_true rfl) (Nat.le_of_ble_eq_true rfl) (RC.deep (by omega) (s_o_rd_readOrchard (d := d) _ _ h1)) ?_
  show RR KO _ 2202 11 [(0, .ref 1)] [.int r2] S3 _ _
  refine RR.runs (pc' := icm .ne r2 0 55 16) (lc' := [(1, .int r2), (0, .ref 1)]) (st' := []) (S1 := S3) (nL := 3) (cd := cd_2202) mx_2202 rfl rfl 3 rfl ?_
  rcases ifE h with ⟨c, h⟩ | ⟨c, h⟩
  · refine RR.c_ne (fun _ => ?_) (fun q => absurd c q)
    refine RR.runs (pc' := 20) (lc' := [(1, .int r2), (0, .ref 1)]) (st' := [qv (rQ S3 1 9)]) (S1 := S3) (nL := 3) (cd := cd_2202) mx_2202 rfl rfl 2 rfl ?_
    rcases oqE h with ⟨e1, h⟩ | ⟨o4, eo4, h⟩
    · cases h
    rw [eo4]
    refine RR.runs (pc' := 26) (lc' := [(2, .ref o4), (1, .int r2), (0, .ref 1)]) (st' := [qv (rQ S3 1 10), .ref 1]) (S1 := S3) (nL := 3) (cd := cd_2202) mx_2202 rfl rfl 4 rfl ?_
    rcases oqE h with ⟨e1, h⟩ | ⟨o5, eo5, h⟩
    · cases h
    rw [eo5]
    refine RR.runs (pc' := 29) (lc' := [(2, .ref o4), (1, .int r2), (0, .ref 1)]) (st' := []) (S1 := (wQ S3 1 9 (some o5))) (nL := 3) (cd := cd_2202) mx_2202 rfl rfl 1 rfl ?_
    obtain ⟨S6, eS6, h⟩ := ltE h
    rw [← eS6]
    refine RR.runs (pc' := 34) (lc' := [(2, .ref o4), (1, .int r2), (0, .ref 1)]) (st' := []) (S1 := (wQ S6 1 10 (some o4))) (nL := 3) (cd := cd_2202) mx_2202 rfl rfl 3 rfl ?_
    obtain ⟨S7, eS7, h⟩ := ltE h
    rw [← eS7]
    refine RR.runs (pc' := 42) (lc' := [(2, .ref o4), (1, .int r2), (0, .ref 1)]) (st' := [qv (rQ S7 1 9), .ref 70]) (S1 := S7) (nL := 3) (cd := cd_2202) mx_2202 rfl rfl 4 rfl ?_
    rcases oqE h with ⟨e1, h⟩ | ⟨o8, eo8, h⟩
    · cases h
    rw [eo8]
    obtain ⟨r9, S10, h1, h⟩ := bnE h
    refine RR.callV (b := 70) (as := [.ref o8]) (rest := []) (r1 := none) (S1 := S10) mx_2202 rfl rfl mx_1201 rfl rfl (by decide) (Or.inl rfl) (Nat.le_of_ble_eq_true rfl) (Nat.le_of_ble_eq_true rfl) (RC.deep (by omega) (s_o_sa_begin (d := d) _ _ _ h1)) ?_
    show RR KO _ 2202 45 [(2, .ref o4), (1, .int r2), (0, .ref 1)] [] S10 _ _
    refine RR.runs (pc' := 50) (lc' := [(2, .ref o4), (1, .int r2), (0, .ref 1)]) (st' := []) (S1 := (wI S10 1 11 (0 : Int32))) (nL := 3) (cd := cd_2202) mx_2202 rfl rfl 3 rfl ?_
    obtain ⟨S11, eS11, h⟩ := ltE h
    rw [← eS11]
    refine RR.runs (pc' := 55) (lc' := [(2, .ref o4), (1, .int r2), (0, .ref 1)]) (st' := []) (S1 := (wI S11 1 12 (0 : Int32))) (nL := 3) (cd := cd_2202) mx_2202 rfl rfl 3 rfl ?_
    obtain ⟨S12, eS12, h⟩ := ltE h
    rw [← eS12]
    refine RR.weak [(1, .int r2)] ⟨rfl, trivial⟩ ?_
    exact s_o_orchard_55 _ _ h
  · refine RR.c_ne (fun q => absurd q c) (fun _ => ?_)
    refine RR.weak [(1, .int r2)] ⟨rfl, trivial⟩ ?_
    exact s_o_orchard_55 _ _ h
theorem s_o_orchard {d : Nat} {S' : St} {r : Int32} (S : St) (h : o_orchard S = some (r, S')) : RC KO (d + 7) 2202 [.ref 1] S (some (.int r)) S' := RC.of rfl (s0_o_orchard S h)
-- NameOrchard days ()I
def o_days_33 (v1 : Int32) (S : St) : Re Int32 :=
  some (v1, S)
set_option maxRecDepth 100000 in
theorem s_o_days_33 {d : Nat} {S' : St} {r : Int32} (v1 : Int32) (S : St) (h : o_days_33 v1 S = some (r, S')) : RR KO (d + 6) 2203 33 [(1, .int v1)] [] S (some (.int r)) S' := by
  unfold o_days_33 at h
  refine RR.runs (pc' := 34) (lc' := [(1, .int v1)]) (st' := [.int v1]) (S1 := S) (nL := 2) (cd := cd_2203) mx_2203 rfl rfl 1 rfl ?_
  cases h
  exact RR.reti mx_2203 rfl rfl rfl
def o_days (S : St) : Re Int32 :=
  oq (rQ S 1 9) none fun o1 =>
  bn (o_rd_readDays o1 S) fun r2 S3 =>
  if r2 = 0 then (
    bn (o_tb_copy 111 110 S3) fun r4 S5 =>
    o_days_33 r2 S5)
  else (
    o_days_33 r2 S3)
set_option maxRecDepth 100000 in
theorem s0_o_days {d : Nat} {S' : St} {r : Int32} (S : St) (h : o_days S = some (r, S')) : RR KO (d + 6) 2203 0 [(0, .ref 1)] [] S (some (.int r)) S' := by
  unfold o_days at h
  refine RR.runs (pc' := 8) (lc' := [(0, .ref 1)]) (st' := [qv (rQ S 1 9), .ref 2]) (S1 := S) (nL := 2) (cd := cd_2203) mx_2203 rfl rfl 4 rfl ?_
  rcases oqE h with ⟨e1, h⟩ | ⟨o1, eo1, h⟩
  · cases h
  rw [eo1]
  obtain ⟨r2, S3, h1, h⟩ := bnE h
  refine RR.callV (b := 2) (as := [.ref o1]) (rest := []) (r1 := (some (.int r2))) (S1 := S3) mx_2203 rfl rfl mx_602 rfl rfl (by decide) (Or.inl rfl) (Nat.le_of_ble_eq_true rfl) (Nat.le_of_ble_eq_true rfl) (RC.deep (by omega) (s_o_rd_readDays (d := d) _ _ h1)) ?_
  show RR KO _ 2203 11 [(0, .ref 1)] [.int r2] S3 _ _
  refine RR.runs (pc' := icm .ne r2 0 33 16) (lc' := [(1, .int r2), (0, .ref 1)]) (st' := []) (S1 := S3) (nL := 2) (cd := cd_2203) mx_2203 rfl rfl 3 rfl ?_
  rcases ifE h with ⟨c, h⟩ | ⟨c, h⟩
  · refine RR.c_ne (fun _ => ?_) (fun q => absurd c q)
    refine RR.runs (pc' := 30) (lc' := [(1, .int r2), (0, .ref 1)]) (st' := [.ref 110, .ref 111]) (S1 := S3) (nL := 2) (cd := cd_2203) mx_2203 rfl rfl 6 rfl ?_
    obtain ⟨r4, S5, h1, h⟩ := bnE h
    refine RR.callV (b := 111) (as := [.ref 110]) (rest := []) (r1 := none) (S1 := S5) mx_2203 rfl rfl mx_1408 rfl rfl (by decide) (Or.inl rfl) (Nat.le_of_ble_eq_true rfl) (Nat.le_of_ble_eq_true rfl) (RC.deep (by omega) (s_o_tb_copy (d := d) _ _ _ h1)) ?_
    show RR KO _ 2203 33 [(1, .int r2), (0, .ref 1)] [] S5 _ _
    refine RR.weak [(1, .int r2)] ⟨rfl, trivial⟩ ?_
    exact s_o_days_33 _ _ h
  · refine RR.c_ne (fun q => absurd q c) (fun _ => ?_)
    refine RR.weak [(1, .int r2)] ⟨rfl, trivial⟩ ?_
    exact s_o_days_33 _ _ h
theorem s_o_days {d : Nat} {S' : St} {r : Int32} (S : St) (h : o_days S = some (r, S')) : RC KO (d + 6) 2203 [.ref 1] S (some (.int r)) S' := RC.of rfl (s0_o_days S h)
-- NameOrchard apple (II)I
def o_apple_100 (p0 : Int32) (S : St) : Re Int32 :=
  some (p0, S)
set_option maxRecDepth 100000 in
theorem s_o_apple_100 {d : Nat} {S' : St} {r : Int32} (p0 : Int32) (S : St) (h : o_apple_100 p0 S = some (r, S')) : RR KO (d + 4) 2204 100 [] [.int p0] S (some (.int r)) S' := by
  unfold o_apple_100 at h
  cases h
  exact RR.reti mx_2204 rfl rfl rfl
def o_apple_132 (p0 : Int32) (S : St) : Re Int32 :=
  some (p0, S)
set_option maxRecDepth 100000 in
theorem s_o_apple_132 {d : Nat} {S' : St} {r : Int32} (p0 : Int32) (S : St) (h : o_apple_132 p0 S = some (r, S')) : RR KO (d + 4) 2204 132 [] [.int p0] S (some (.int r)) S' := by
  unfold o_apple_132 at h
  cases h
  exact RR.reti mx_2204 rfl rfl rfl
def o_apple (v1 : Int32) (v2 : Int32) (S : St) : Re Int32 :=
  oq (rQ S 1 9) none fun o1 =>
  if KO.1 o1 = (0, 10) then (
bn (o_to_hasApple o1 v1 S) fun r3 S4 =>
  if r3 = 0 then (
    some ((-1 : Int32), S4))
  else (
    if v2.toInt = 0 then (
      oq (rQ S4 1 9) none fun o5 =>
      if KO.1 o5 = (0, 10) then (
      if KO.1 (o5 + 80) = (0, 7) then (
bn (o_tb_at (o5 + 80) v1 v2 S4) fun r8 S9 =>
      some (r8, S9)) else none) else none) else (
    if v2.toInt = 1 then (
      oq (rQ S4 1 9) none fun o10 =>
      if KO.1 o10 = (0, 10) then (
      if KO.1 (o10 + 80) = (0, 7) then (
bn (o_tb_at (o10 + 80) v1 v2 S4) fun r13 S14 =>
      some (r13, S14)) else none) else none) else (
    if v2.toInt = 2 then (
      oq (rQ S4 1 9) none fun o15 =>
      if KO.1 o15 = (0, 10) then (
      if KO.1 (o15 + 80) = (0, 7) then (
bn (o_tb_at (o15 + 80) v1 v2 S4) fun r18 S19 =>
      some (r18, S19)) else none) else none) else (
    if v2.toInt = 3 then (
      oq (rQ S4 1 9) none fun o20 =>
      if KO.1 o20 = (0, 10) then (
      if KO.1 (o20 + 80) = (0, 7) then (
bn (o_tb_at (o20 + 80) v1 v2 S4) fun r23 S24 =>
      some (r23, S24)) else none) else none) else (
    if v2.toInt = 4 then (
      oq (rQ S4 1 9) none fun o25 =>
      if KO.1 o25 = (0, 10) then (
      if KO.1 (o25 + 80) = (0, 7) then (
bn (o_tb_at (o25 + 80) v1 v2 S4) fun r28 S29 =>
      some (r28, S29)) else none) else none) else (
    if v2.toInt = 5 then (
      bn (o_sd_hangs 200 v1 S4) fun r30 S31 =>
      if r30 = 0 then (
        o_apple_100 (0 : Int32) S31)
      else (
        o_apple_100 (1 : Int32) S31)) else (
    if v2.toInt = 6 then (
      bn (o_sd_soundOf 200 v1 S4) fun r32 S33 =>
      some (r32, S33)) else (
    if v2.toInt = 7 then (
      bn (o_sd_isLoose 200 v1 S4) fun r34 S35 =>
      if r34 = 0 then (
        o_apple_132 (0 : Int32) S35)
      else (
        o_apple_132 (1 : Int32) S35)) else (
    if v2.toInt = 8 then (
      oq (rQ S4 1 9) none fun o36 =>
      if KO.1 o36 = (0, 10) then (
      if KO.1 (o36 + 80) = (0, 7) then (
bn (o_tb_at (o36 + 80) v1 (6 : Int32) S4) fun r39 S40 =>
      some (r39, S40)) else none) else none) else (
    if v2.toInt = 9 then (
      oq (rQ S4 1 9) none fun o41 =>
      if KO.1 o41 = (0, 10) then (
bn (o_to_valueOf o41 v1 (rI S4 200 3) S4) fun r43 S44 =>
      some (r43, S44)) else none) else (
      some ((-1 : Int32), S4))))))))))))) else none
set_option maxRecDepth 100000 in
theorem s0_o_apple {d : Nat} {S' : St} {r : Int32} (v1 : Int32) (v2 : Int32) (S : St) (h : o_apple v1 v2 S = some (r, S')) : RR KO (d + 4) 2204 0 [(0, .ref 1), (1, .int v1), (2, .int v2)] [] S (some (.int r)) S' := by
  unfold o_apple at h
  refine RR.runs (pc' := 4) (lc' := [(0, .ref 1), (1, .int v1), (2, .int v2)]) (st' := [qv (rQ S 1 9)]) (S1 := S) (nL := 3) (cd := cd_2204) mx_2204 rfl rfl 2 rfl ?_
  rcases oqE h with ⟨e1, h⟩ | ⟨o1, eo1, h⟩
  · cases h
  rw [eo1]
  refine RR.runs (pc' := 5) (lc' := [(0, .ref 1), (1, .int v1), (2, .int v2)]) (st' := [.int v1, .ref o1]) (S1 := S) (nL := 3) (cd := cd_2204) mx_2204 rfl rfl 1 rfl ?_
  obtain ⟨g2, h⟩ := gpE h
  obtain ⟨r3, S4, h1, h⟩ := bnE h
  refine RR.callV (b := o1) (as := [.int v1]) (rest := []) (r1 := (some (.int r3))) (S1 := S4) mx_2204 rfl rfl mx_2005 rfl rfl (by decide) (Or.inl g2) (Nat.le_of_ble_eq_true rfl) (Nat.le_of_ble_eq_true rfl) (RC.deep (by omega) (s_o_to_hasApple (d := d) _ _ _ h1)) ?_
  show RR KO _ 2204 8 [(0, .ref 1), (1, .int v1), (2, .int v2)] [.int r3] S4 _ _
  refine RR.runs (pc' := icm .ne r3 0 13 11) (lc' := [(0, .ref 1), (1, .int v1), (2, .int v2)]) (st' := []) (S1 := S4) (nL := 3) (cd := cd_2204) mx_2204 rfl rfl 1 rfl ?_
  rcases ifE h with ⟨c, h⟩ | ⟨c, h⟩
  · refine RR.c_ne (fun _ => ?_) (fun q => absurd c q)
    refine RR.runs (pc' := 12) (lc' := [(0, .ref 1), (1, .int v1), (2, .int v2)]) (st' := [.int (-1 : Int32)]) (S1 := S4) (nL := 3) (cd := cd_2204) mx_2204 rfl rfl 1 rfl ?_
    cases h
    exact RR.reti mx_2204 rfl rfl rfl
  · refine RR.c_ne (fun q => absurd q c) (fun _ => ?_)
    refine RR.runs (pc' := swt v2 14 152 0 [54, 54, 54, 54, 54, 67, 87, 99, 119, 133]) (lc' := [(0, .ref 1), (1, .int v1), (2, .int v2)]) (st' := []) (S1 := S4) (nL := 3) (cd := cd_2204) mx_2204 rfl rfl 2 rfl ?_
    rcases ifE h with ⟨c, h⟩ | ⟨c, h⟩
    · refine RR.sw 68 rfl (fun _ => ?_) (fun q => absurd c q)
      refine RR.runs (pc' := 72) (lc' := [(0, .ref 1), (1, .int v1), (2, .int v2)]) (st' := [qv (rQ S4 1 9)]) (S1 := S4) (nL := 3) (cd := cd_2204) mx_2204 rfl rfl 2 rfl ?_
      rcases oqE h with ⟨e1, h⟩ | ⟨o5, eo5, h⟩
      · cases h
      rw [eo5]
      obtain ⟨g6, h⟩ := gpE h
      refine RR.gPo (pc' := 75) (lc' := [(0, .ref 1), (1, .int v1), (2, .int v2)]) (st' := [.ref (o5 + 80)]) (S1 := S4) (nL := 3) (cd := cd_2204) mx_2204 rfl rfl rfl ⟨g6, by decide, by decide⟩ ?_
      refine RR.runs (pc' := 77) (lc' := [(0, .ref 1), (1, .int v1), (2, .int v2)]) (st' := [.int v2, .int v1, .ref (o5 + 80)]) (S1 := S4) (nL := 3) (cd := cd_2204) mx_2204 rfl rfl 2 rfl ?_
      obtain ⟨g7, h⟩ := gpE h
      obtain ⟨r8, S9, h1, h⟩ := bnE h
      refine RR.callV (b := (o5 + 80)) (as := [.int v1, .int v2]) (rest := []) (r1 := (some (.int r8))) (S1 := S9) mx_2204 rfl rfl mx_1405 rfl rfl (by decide) (Or.inl g7) (Nat.le_of_ble_eq_true rfl) (Nat.le_of_ble_eq_true rfl) (RC.deep (by omega) (s_o_tb_at (d := d) _ _ _ _ h1)) ?_
      show RR KO _ 2204 80 [(0, .ref 1), (1, .int v1), (2, .int v2)] [.int r8] S9 _ _
      cases h
      exact RR.reti mx_2204 rfl rfl rfl
    refine RR.sw 68 rfl (fun q => absurd q c) (fun _ => ?_)
    rcases ifE h with ⟨c, h⟩ | ⟨c, h⟩
    · refine RR.sw 68 rfl (fun _ => ?_) (fun q => absurd c q)
      refine RR.runs (pc' := 72) (lc' := [(0, .ref 1), (1, .int v1), (2, .int v2)]) (st' := [qv (rQ S4 1 9)]) (S1 := S4) (nL := 3) (cd := cd_2204) mx_2204 rfl rfl 2 rfl ?_
      rcases oqE h with ⟨e1, h⟩ | ⟨o10, eo10, h⟩
      · cases h
      rw [eo10]
      obtain ⟨g11, h⟩ := gpE h
      refine RR.gPo (pc' := 75) (lc' := [(0, .ref 1), (1, .int v1), (2, .int v2)]) (st' := [.ref (o10 + 80)]) (S1 := S4) (nL := 3) (cd := cd_2204) mx_2204 rfl rfl rfl ⟨g11, by decide, by decide⟩ ?_
      refine RR.runs (pc' := 77) (lc' := [(0, .ref 1), (1, .int v1), (2, .int v2)]) (st' := [.int v2, .int v1, .ref (o10 + 80)]) (S1 := S4) (nL := 3) (cd := cd_2204) mx_2204 rfl rfl 2 rfl ?_
      obtain ⟨g12, h⟩ := gpE h
      obtain ⟨r13, S14, h1, h⟩ := bnE h
      refine RR.callV (b := (o10 + 80)) (as := [.int v1, .int v2]) (rest := []) (r1 := (some (.int r13))) (S1 := S14) mx_2204 rfl rfl mx_1405 rfl rfl (by decide) (Or.inl g12) (Nat.le_of_ble_eq_true rfl) (Nat.le_of_ble_eq_true rfl) (RC.deep (by omega) (s_o_tb_at (d := d) _ _ _ _ h1)) ?_
      show RR KO _ 2204 80 [(0, .ref 1), (1, .int v1), (2, .int v2)] [.int r13] S14 _ _
      cases h
      exact RR.reti mx_2204 rfl rfl rfl
    refine RR.sw 68 rfl (fun q => absurd q c) (fun _ => ?_)
    rcases ifE h with ⟨c, h⟩ | ⟨c, h⟩
    · refine RR.sw 68 rfl (fun _ => ?_) (fun q => absurd c q)
      refine RR.runs (pc' := 72) (lc' := [(0, .ref 1), (1, .int v1), (2, .int v2)]) (st' := [qv (rQ S4 1 9)]) (S1 := S4) (nL := 3) (cd := cd_2204) mx_2204 rfl rfl 2 rfl ?_
      rcases oqE h with ⟨e1, h⟩ | ⟨o15, eo15, h⟩
      · cases h
      rw [eo15]
      obtain ⟨g16, h⟩ := gpE h
      refine RR.gPo (pc' := 75) (lc' := [(0, .ref 1), (1, .int v1), (2, .int v2)]) (st' := [.ref (o15 + 80)]) (S1 := S4) (nL := 3) (cd := cd_2204) mx_2204 rfl rfl rfl ⟨g16, by decide, by decide⟩ ?_
      refine RR.runs (pc' := 77) (lc' := [(0, .ref 1), (1, .int v1), (2, .int v2)]) (st' := [.int v2, .int v1, .ref (o15 + 80)]) (S1 := S4) (nL := 3) (cd := cd_2204) mx_2204 rfl rfl 2 rfl ?_
      obtain ⟨g17, h⟩ := gpE h
      obtain ⟨r18, S19, h1, h⟩ := bnE h
      refine RR.callV (b := (o15 + 80)) (as := [.int v1, .int v2]) (rest := []) (r1 := (some (.int r18))) (S1 := S19) mx_2204 rfl rfl mx_1405 rfl rfl (by decide) (Or.inl g17) (Nat.le_of_ble_eq_true rfl) (Nat.le_of_ble_eq_true rfl) (RC.deep (by omega) (s_o_tb_at (d := d) _ _ _ _ h1)) ?_
      show RR KO _ 2204 80 [(0, .ref 1), (1, .int v1), (2, .int v2)] [.int r18] S19 _ _
      cases h
      exact RR.reti mx_2204 rfl rfl rfl
    refine RR.sw 68 rfl (fun q => absurd q c) (fun _ => ?_)
    rcases ifE h with ⟨c, h⟩ | ⟨c, h⟩
    · refine RR.sw 68 rfl (fun _ => ?_) (fun q => absurd c q)
      refine RR.runs (pc' := 72) (lc' := [(0, .ref 1), (1, .int v1), (2, .int v2)]) (st' := [qv (rQ S4 1 9)]) (S1 := S4) (nL := 3) (cd := cd_2204) mx_2204 rfl rfl 2 rfl ?_
      rcases oqE h with ⟨e1, h⟩ | ⟨o20, eo20, h⟩
      · cases h
      rw [eo20]
      obtain ⟨g21, h⟩ := gpE h
      refine RR.gPo (pc' := 75) (lc' := [(0, .ref 1), (1, .int v1), (2, .int v2)]) (st' := [.ref (o20 + 80)]) (S1 := S4) (nL := 3) (cd := cd_2204) mx_2204 rfl rfl rfl ⟨g21, by decide, by decide⟩ ?_
      refine RR.runs (pc' := 77) (lc' := [(0, .ref 1), (1, .int v1), (2, .int v2)]) (st' := [.int v2, .int v1, .ref (o20 + 80)]) (S1 := S4) (nL := 3) (cd := cd_2204) mx_2204 rfl rfl 2 rfl ?_
      obtain ⟨g22, h⟩ := gpE h
      obtain ⟨r23, S24, h1, h⟩ := bnE h
      refine RR.callV (b := (o20 + 80)) (as := [.int v1, .int v2]) (rest := []) (r1 := (some (.int r23))) (S1 := S24) mx_2204 rfl rfl mx_1405 rfl rfl (by decide) (Or.inl g22) (Nat.le_of_ble_eq_true rfl) (Nat.le_of_ble_eq_true rfl) (RC.deep (by omega) (s_o_tb_at (d := d) _ _ _ _ h1)) ?_
      show RR KO _ 2204 80 [(0, .ref 1), (1, .int v1), (2, .int v2)] [.int r23] S24 _ _
      cases h
      exact RR.reti mx_2204 rfl rfl rfl
    refine RR.sw 68 rfl (fun q => absurd q c) (fun _ => ?_)
    rcases ifE h with ⟨c, h⟩ | ⟨c, h⟩
    · refine RR.sw 68 rfl (fun _ => ?_) (fun q => absurd c q)
      refine RR.runs (pc' := 72) (lc' := [(0, .ref 1), (1, .int v1), (2, .int v2)]) (st' := [qv (rQ S4 1 9)]) (S1 := S4) (nL := 3) (cd := cd_2204) mx_2204 rfl rfl 2 rfl ?_
      rcases oqE h with ⟨e1, h⟩ | ⟨o25, eo25, h⟩
      · cases h
      rw [eo25]
      obtain ⟨g26, h⟩ := gpE h
      refine RR.gPo (pc' := 75) (lc' := [(0, .ref 1), (1, .int v1), (2, .int v2)]) (st' := [.ref (o25 + 80)]) (S1 := S4) (nL := 3) (cd := cd_2204) mx_2204 rfl rfl rfl ⟨g26, by decide, by decide⟩ ?_
      refine RR.runs (pc' := 77) (lc' := [(0, .ref 1), (1, .int v1), (2, .int v2)]) (st' := [.int v2, .int v1, .ref (o25 + 80)]) (S1 := S4) (nL := 3) (cd := cd_2204) mx_2204 rfl rfl 2 rfl ?_
      obtain ⟨g27, h⟩ := gpE h
      obtain ⟨r28, S29, h1, h⟩ := bnE h
      refine RR.callV (b := (o25 + 80)) (as := [.int v1, .int v2]) (rest := []) (r1 := (some (.int r28))) (S1 := S29) mx_2204 rfl rfl mx_1405 rfl rfl (by decide) (Or.inl g27) (Nat.le_of_ble_eq_true rfl) (Nat.le_of_ble_eq_true rfl) (RC.deep (by omega) (s_o_tb_at (d := d) _ _ _ _ h1)) ?_
      show RR KO _ 2204 80 [(0, .ref 1), (1, .int v1), (2, .int v2)] [.int r28] S29 _ _
      cases h
      exact RR.reti mx_2204 rfl rfl rfl
    refine RR.sw 68 rfl (fun q => absurd q c) (fun _ => ?_)
    rcases ifE h with ⟨c, h⟩ | ⟨c, h⟩
    · refine RR.sw 81 rfl (fun _ => ?_) (fun q => absurd c q)
      refine RR.runs (pc' := 89) (lc' := [(0, .ref 1), (1, .int v1), (2, .int v2)]) (st' := [.int v1, .ref 200]) (S1 := S4) (nL := 3) (cd := cd_2204) mx_2204 rfl rfl 4 rfl ?_
      obtain ⟨r30, S31, h1, h⟩ := bnE h
      refine RR.callV (b := 200) (as := [.int v1]) (rest := []) (r1 := (some (.int r30))) (S1 := S31) mx_2204 rfl rfl mx_1003 rfl rfl (by decide) (Or.inl rfl) (Nat.le_of_ble_eq_true rfl) (Nat.le_of_ble_eq_true rfl) (RC.deep (by omega) (s_o_sd_hangs (d := d) _ _ _ h1)) ?_
      show RR KO _ 2204 92 [(0, .ref 1), (1, .int v1), (2, .int v2)] [.int r30] S31 _ _
      refine RR.runs (pc' := icm .eq r30 0 99 95) (lc' := [(0, .ref 1), (1, .int v1), (2, .int v2)]) (st' := []) (S1 := S31) (nL := 3) (cd := cd_2204) mx_2204 rfl rfl 1 rfl ?_
      rcases ifE h with ⟨c, h⟩ | ⟨c, h⟩
      · refine RR.c_eq (fun _ => ?_) (fun q => absurd c q)
        refine RR.runs (pc' := 100) (lc' := [(0, .ref 1), (1, .int v1), (2, .int v2)]) (st' := [.int (0 : Int32)]) (S1 := S31) (nL := 3) (cd := cd_2204) mx_2204 rfl rfl 1 rfl ?_
        refine RR.weak [] trivial ?_
        exact s_o_apple_100 _ _ h
      · refine RR.c_eq (fun q => absurd q c) (fun _ => ?_)
        refine RR.runs (pc' := 100) (lc' := [(0, .ref 1), (1, .int v1), (2, .int v2)]) (st' := [.int (1 : Int32)]) (S1 := S31) (nL := 3) (cd := cd_2204) mx_2204 rfl rfl 2 rfl ?_
        refine RR.weak [] trivial ?_
        exact s_o_apple_100 _ _ h
    refine RR.sw 81 rfl (fun q => absurd q c) (fun _ => ?_)
    rcases ifE h with ⟨c, h⟩ | ⟨c, h⟩
    · refine RR.sw 101 rfl (fun _ => ?_) (fun q => absurd c q)
      refine RR.runs (pc' := 109) (lc' := [(0, .ref 1), (1, .int v1), (2, .int v2)]) (st' := [.int v1, .ref 200]) (S1 := S4) (nL := 3) (cd := cd_2204) mx_2204 rfl rfl 4 rfl ?_
      obtain ⟨r32, S33, h1, h⟩ := bnE h
      refine RR.callV (b := 200) (as := [.int v1]) (rest := []) (r1 := (some (.int r32))) (S1 := S33) mx_2204 rfl rfl mx_1005 rfl rfl (by decide) (Or.inl rfl) (Nat.le_of_ble_eq_true rfl) (Nat.le_of_ble_eq_true rfl) (RC.deep (by omega) (s_o_sd_soundOf (d := d) _ _ _ h1)) ?_
      show RR KO _ 2204 112 [(0, .ref 1), (1, .int v1), (2, .int v2)] [.int r32] S33 _ _
      cases h
      exact RR.reti mx_2204 rfl rfl rfl
    refine RR.sw 101 rfl (fun q => absurd q c) (fun _ => ?_)
    rcases ifE h with ⟨c, h⟩ | ⟨c, h⟩
    · refine RR.sw 113 rfl (fun _ => ?_) (fun q => absurd c q)
      refine RR.runs (pc' := 121) (lc' := [(0, .ref 1), (1, .int v1), (2, .int v2)]) (st' := [.int v1, .ref 200]) (S1 := S4) (nL := 3) (cd := cd_2204) mx_2204 rfl rfl 4 rfl ?_
      obtain ⟨r34, S35, h1, h⟩ := bnE h
      refine RR.callV (b := 200) (as := [.int v1]) (rest := []) (r1 := (some (.int r34))) (S1 := S35) mx_2204 rfl rfl mx_1004 rfl rfl (by decide) (Or.inl rfl) (Nat.le_of_ble_eq_true rfl) (Nat.le_of_ble_eq_true rfl) (RC.deep (by omega) (s_o_sd_isLoose (d := d) _ _ _ h1)) ?_
      show RR KO _ 2204 124 [(0, .ref 1), (1, .int v1), (2, .int v2)] [.int r34] S35 _ _
      refine RR.runs (pc' := icm .eq r34 0 131 127) (lc' := [(0, .ref 1), (1, .int v1), (2, .int v2)]) (st' := []) (S1 := S35) (nL := 3) (cd := cd_2204) mx_2204 rfl rfl 1 rfl ?_
      rcases ifE h with ⟨c, h⟩ | ⟨c, h⟩
      · refine RR.c_eq (fun _ => ?_) (fun q => absurd c q)
        refine RR.runs (pc' := 132) (lc' := [(0, .ref 1), (1, .int v1), (2, .int v2)]) (st' := [.int (0 : Int32)]) (S1 := S35) (nL := 3) (cd := cd_2204) mx_2204 rfl rfl 1 rfl ?_
        refine RR.weak [] trivial ?_
        exact s_o_apple_132 _ _ h
      · refine RR.c_eq (fun q => absurd q c) (fun _ => ?_)
        refine RR.runs (pc' := 132) (lc' := [(0, .ref 1), (1, .int v1), (2, .int v2)]) (st' := [.int (1 : Int32)]) (S1 := S35) (nL := 3) (cd := cd_2204) mx_2204 rfl rfl 2 rfl ?_
        refine RR.weak [] trivial ?_
        exact s_o_apple_132 _ _ h
    refine RR.sw 113 rfl (fun q => absurd q c) (fun _ => ?_)
    rcases ifE h with ⟨c, h⟩ | ⟨c, h⟩
    · refine RR.sw 133 rfl (fun _ => ?_) (fun q => absurd c q)
      refine RR.runs (pc' := 137) (lc' := [(0, .ref 1), (1, .int v1), (2, .int v2)]) (st' := [qv (rQ S4 1 9)]) (S1 := S4) (nL := 3) (cd := cd_2204) mx_2204 rfl rfl 2 rfl ?_
      rcases oqE h with ⟨e1, h⟩ | ⟨o36, eo36, h⟩
      · cases h
      rw [eo36]
      obtain ⟨g37, h⟩ := gpE h
      refine RR.gPo (pc' := 140) (lc' := [(0, .ref 1), (1, .int v1), (2, .int v2)]) (st' := [.ref (o36 + 80)]) (S1 := S4) (nL := 3) (cd := cd_2204) mx_2204 rfl rfl rfl ⟨g37, by decide, by decide⟩ ?_
      refine RR.runs (pc' := 143) (lc' := [(0, .ref 1), (1, .int v1), (2, .int v2)]) (st' := [.int (6 : Int32), .int v1, .ref (o36 + 80)]) (S1 := S4) (nL := 3) (cd := cd_2204) mx_2204 rfl rfl 2 rfl ?_
      obtain ⟨g38, h⟩ := gpE h
      obtain ⟨r39, S40, h1, h⟩ := bnE h
      refine RR.callV (b := (o36 + 80)) (as := [.int v1, .int (6 : Int32)]) (rest := []) (r1 := (some (.int r39))) (S1 := S40) mx_2204 rfl rfl mx_1405 rfl rfl (by decide) (Or.inl g38) (Nat.le_of_ble_eq_true rfl) (Nat.le_of_ble_eq_true rfl) (RC.deep (by omega) (s_o_tb_at (d := d) _ _ _ _ h1)) ?_
      show RR KO _ 2204 146 [(0, .ref 1), (1, .int v1), (2, .int v2)] [.int r39] S40 _ _
      cases h
      exact RR.reti mx_2204 rfl rfl rfl
    refine RR.sw 133 rfl (fun q => absurd q c) (fun _ => ?_)
    rcases ifE h with ⟨c, h⟩ | ⟨c, h⟩
    · refine RR.sw 147 rfl (fun _ => ?_) (fun q => absurd c q)
      refine RR.runs (pc' := 151) (lc' := [(0, .ref 1), (1, .int v1), (2, .int v2)]) (st' := [qv (rQ S4 1 9)]) (S1 := S4) (nL := 3) (cd := cd_2204) mx_2204 rfl rfl 2 rfl ?_
      rcases oqE h with ⟨e1, h⟩ | ⟨o41, eo41, h⟩
      · cases h
      rw [eo41]
      refine RR.runs (pc' := 162) (lc' := [(0, .ref 1), (1, .int v1), (2, .int v2)]) (st' := [.int (rI S4 200 3), .int v1, .ref o41]) (S1 := S4) (nL := 3) (cd := cd_2204) mx_2204 rfl rfl 5 rfl ?_
      obtain ⟨g42, h⟩ := gpE h
      obtain ⟨r43, S44, h1, h⟩ := bnE h
      refine RR.callV (b := o41) (as := [.int v1, .int (rI S4 200 3)]) (rest := []) (r1 := (some (.int r43))) (S1 := S44) mx_2204 rfl rfl mx_2014 rfl rfl (by decide) (Or.inl g42) (Nat.le_of_ble_eq_true rfl) (Nat.le_of_ble_eq_true rfl) (RC.deep (by omega) (s_o_to_valueOf (d := d) _ _ _ _ h1)) ?_
      show RR KO _ 2204 165 [(0, .ref 1), (1, .int v1), (2, .int v2)] [.int r43] S44 _ _
      cases h
      exact RR.reti mx_2204 rfl rfl rfl
    refine RR.sw 147 rfl (fun q => absurd q c) (fun _ => ?_)
    refine RR.sw0 166 rfl ?_
    refine RR.runs (pc' := 167) (lc' := [(0, .ref 1), (1, .int v1), (2, .int v2)]) (st' := [.int (-1 : Int32)]) (S1 := S4) (nL := 3) (cd := cd_2204) mx_2204 rfl rfl 1 rfl ?_
    cases h
    exact RR.reti mx_2204 rfl rfl rfl
theorem s_o_apple {d : Nat} {S' : St} {r : Int32} (v1 : Int32) (v2 : Int32) (S : St) (h : o_apple v1 v2 S = some (r, S')) : RC KO (d + 4) 2204 [.ref 1, .int v1, .int v2] S (some (.int r)) S' := RC.of rfl (s0_o_apple v1 v2 S h)
-- NameOrchard near (III)I
def o_near_22 (S : St) : Re Int32 :=
  some ((-1 : Int32), S)
set_option maxRecDepth 100000 in
theorem s_o_near_22 {d : Nat} {S' : St} {r : Int32} (S : St) (h : o_near_22 S = some (r, S')) : RR KO (d + 3) 2205 22 [] [] S (some (.int r)) S' := by
  unfold o_near_22 at h
  refine RR.runs (pc' := 23) (lc' := []) (st' := [.int (-1 : Int32)]) (S1 := S) (nL := 4) (cd := cd_2205) mx_2205 rfl rfl 1 rfl ?_
  cases h
  exact RR.reti mx_2205 rfl rfl rfl
def o_near (v1 : Int32) (v2 : Int32) (v3 : Int32) (S : St) : Re Int32 :=
  oq (rQ S 1 9) none fun o1 =>
  if KO.1 o1 = (0, 10) then (
bn (o_to_hasSound o1 v1 S) fun r3 S4 =>
  if r3 = 0 then (
    o_near_22 S4)
  else (
    oq (rQ S4 1 9) none fun o5 =>
    if KO.1 o5 = (0, 10) then (
bn (o_to_hasSound o5 v2 S4) fun r7 S8 =>
    if r7 = 0 then (
      o_near_22 S8)
    else (
      if v3.toInt = 0 then (
        oq (rQ S8 1 9) none fun o9 =>
        if KO.1 o9 = (0, 10) then (
        if KO.1 (o9 + 2) = (0, 2) then (
bn (o_na_edits (o9 + 2) v1 v2 S8) fun r12 S13 =>
        some (r12, S13)) else none) else none) else (
      if v3.toInt = 1 then (
        oq (rQ S8 1 9) none fun o14 =>
        if KO.1 o14 = (0, 10) then (
        if KO.1 (o14 + 2) = (0, 2) then (
bn (o_na_start (o14 + 2) v1 v2 S8) fun r17 S18 =>
        some (r17, S18)) else none) else none) else (
      if v3.toInt = 2 then (
        oq (rQ S8 1 9) none fun o19 =>
        if KO.1 o19 = (0, 10) then (
        if KO.1 (o19 + 2) = (0, 2) then (
bn (o_na_rhyme (o19 + 2) v1 v2 S8) fun r22 S23 =>
        some (r22, S23)) else none) else none) else (
      if v3.toInt = 3 then (
        oq (rQ S8 1 9) none fun o24 =>
        if KO.1 o24 = (0, 10) then (
bn (o_to_nearTo o24 v1 S8) fun r26 S27 =>
        some (((r26 >>> (v2 &&& 31)) &&& (1 : Int32)), S27)) else none) else (
        some ((-1 : Int32), S8))))))) else none)) else none
set_option maxRecDepth 100000 in
theorem s0_o_near {d : Nat} {S' : St} {r : Int32} (v1 : Int32) (v2 : Int32) (v3 : Int32) (S : St) (h : o_near v1 v2 v3 S = some (r, S')) : RR KO (d + 3) 2205 0 [(0, .ref 1), (1, .int v1), (2, .int v2), (3, .int v3)] [] S (some (.int r)) S' := by
  unfold o_near at h
  refine RR.runs (pc' := 4) (lc' := [(0, .ref 1), (1, .int v1), (2, .int v2), (3, .int v3)]) (st' := [qv (rQ S 1 9)]) (S1 := S) (nL := 4) (cd := cd_2205) mx_2205 rfl rfl 2 rfl ?_
  rcases oqE h with ⟨e1, h⟩ | ⟨o1, eo1, h⟩
  · cases h
  rw [eo1]
  refine RR.runs (pc' := 5) (lc' := [(0, .ref 1), (1, .int v1), (2, .int v2), (3, .int v3)]) (st' := [.int v1, .ref o1]) (S1 := S) (nL := 4) (cd := cd_2205) mx_2205 rfl rfl 1 rfl ?_
  obtain ⟨g2, h⟩ := gpE h
  obtain ⟨r3, S4, h1, h⟩ := bnE h
  refine RR.callV (b := o1) (as := [.int v1]) (rest := []) (r1 := (some (.int r3))) (S1 := S4) mx_2205 rfl rfl mx_2006 rfl rfl (by decide) (Or.inl g2) (Nat.le_of_ble_eq_true rfl) (Nat.le_of_ble_eq_true rfl) (RC.deep (by omega) (s_o_to_hasSound (d := d) _ _ _ h1)) ?_
  show RR KO _ 2205 8 [(0, .ref 1), (1, .int v1), (2, .int v2), (3, .int v3)] [.int r3] S4 _ _
  refine RR.runs (pc' := icm .eq r3 0 22 11) (lc' := [(0, .ref 1), (1, .int v1), (2, .int v2), (3, .int v3)]) (st' := []) (S1 := S4) (nL := 4) (cd := cd_2205) mx_2205 rfl rfl 1 rfl ?_
  rcases ifE h with ⟨c, h⟩ | ⟨c, h⟩
  · refine RR.c_eq (fun _ => ?_) (fun q => absurd c q)
    refine RR.weak [] trivial ?_
    exact s_o_near_22 _ h
  · refine RR.c_eq (fun q => absurd q c) (fun _ => ?_)
    refine RR.runs (pc' := 15) (lc' := [(0, .ref 1), (1, .int v1), (2, .int v2), (3, .int v3)]) (st' := [qv (rQ S4 1 9)]) (S1 := S4) (nL := 4) (cd := cd_2205) mx_2205 rfl rfl 2 rfl ?_
    rcases oqE h with ⟨e1, h⟩ | ⟨o5, eo5, h⟩
    · cases h
    rw [eo5]
    refine RR.runs (pc' := 16) (lc' := [(0, .ref 1), (1, .int v1), (2, .int v2), (3, .int v3)]) (st' := [.int v2, .ref o5]) (S1 := S4) (nL := 4) (cd := cd_2205) mx_2205 rfl rfl 1 rfl ?_
    obtain ⟨g6, h⟩ := gpE h
    obtain ⟨r7, S8, h1, h⟩ := bnE h
    refine RR.callV (b := o5) (as := [.int v2]) (rest := []) (r1 := (some (.int r7))) (S1 := S8) mx_2205 rfl rfl mx_2006 rfl rfl (by decide) (Or.inl g6) (Nat.le_of_ble_eq_true rfl) (Nat.le_of_ble_eq_true rfl) (RC.deep (by omega) (s_o_to_hasSound (d := d) _ _ _ h1)) ?_
    show RR KO _ 2205 19 [(0, .ref 1), (1, .int v1), (2, .int v2), (3, .int v3)] [.int r7] S8 _ _
    refine RR.runs (pc' := icm .ne r7 0 24 22) (lc' := [(0, .ref 1), (1, .int v1), (2, .int v2), (3, .int v3)]) (st' := []) (S1 := S8) (nL := 4) (cd := cd_2205) mx_2205 rfl rfl 1 rfl ?_
    rcases ifE h with ⟨c, h⟩ | ⟨c, h⟩
    · refine RR.c_ne (fun _ => ?_) (fun q => absurd c q)
      refine RR.weak [] trivial ?_
      exact s_o_near_22 _ h
    · refine RR.c_ne (fun q => absurd q c) (fun _ => ?_)
      refine RR.runs (pc' := swt v3 25 83 0 [31, 44, 57, 70]) (lc' := [(0, .ref 1), (1, .int v1), (2, .int v2), (3, .int v3)]) (st' := []) (S1 := S8) (nL := 4) (cd := cd_2205) mx_2205 rfl rfl 2 rfl ?_
      rcases ifE h with ⟨c, h⟩ | ⟨c, h⟩
      · refine RR.sw 56 rfl (fun _ => ?_) (fun q => absurd c q)
        refine RR.runs (pc' := 60) (lc' := [(0, .ref 1), (1, .int v1), (2, .int v2), (3, .int v3)]) (st' := [qv (rQ S8 1 9)]) (S1 := S8) (nL := 4) (cd := cd_2205) mx_2205 rfl rfl 2 rfl ?_
        rcases oqE h with ⟨e1, h⟩ | ⟨o9, eo9, h⟩
        · cases h
        rw [eo9]
        obtain ⟨g10, h⟩ := gpE h
        refine RR.gPo (pc' := 63) (lc' := [(0, .ref 1), (1, .int v1), (2, .int v2), (3, .int v3)]) (st' := [.ref (o9 + 2)]) (S1 := S8) (nL := 4) (cd := cd_2205) mx_2205 rfl rfl rfl ⟨g10, by decide, by decide⟩ ?_
        refine RR.runs (pc' := 65) (lc' := [(0, .ref 1), (1, .int v1), (2, .int v2), (3, .int v3)]) (st' := [.int v2, .int v1, .ref (o9 + 2)]) (S1 := S8) (nL := 4) (cd := cd_2205) mx_2205 rfl rfl 2 rfl ?_
        obtain ⟨g11, h⟩ := gpE h
        obtain ⟨r12, S13, h1, h⟩ := bnE h
        refine RR.callV (b := (o9 + 2)) (as := [.int v1, .int v2]) (rest := []) (r1 := (some (.int r12))) (S1 := S13) mx_2205 rfl rfl mx_412 rfl rfl (by decide) (Or.inl g11) (Nat.le_of_ble_eq_true rfl) (Nat.le_of_ble_eq_true rfl) (RC.deep (by omega) (s_o_na_edits (d := d) _ _ _ _ h1)) ?_
        show RR KO _ 2205 68 [(0, .ref 1), (1, .int v1), (2, .int v2), (3, .int v3)] [.int r12] S13 _ _
        cases h
        exact RR.reti mx_2205 rfl rfl rfl
      refine RR.sw 56 rfl (fun q => absurd q c) (fun _ => ?_)
      rcases ifE h with ⟨c, h⟩ | ⟨c, h⟩
      · refine RR.sw 69 rfl (fun _ => ?_) (fun q => absurd c q)
        refine RR.runs (pc' := 73) (lc' := [(0, .ref 1), (1, .int v1), (2, .int v2), (3, .int v3)]) (st' := [qv (rQ S8 1 9)]) (S1 := S8) (nL := 4) (cd := cd_2205) mx_2205 rfl rfl 2 rfl ?_
        rcases oqE h with ⟨e1, h⟩ | ⟨o14, eo14, h⟩
        · cases h
        rw [eo14]
        obtain ⟨g15, h⟩ := gpE h
        refine RR.gPo (pc' := 76) (lc' := [(0, .ref 1), (1, .int v1), (2, .int v2), (3, .int v3)]) (st' := [.ref (o14 + 2)]) (S1 := S8) (nL := 4) (cd := cd_2205) mx_2205 rfl rfl rfl ⟨g15, by decide, by decide⟩ ?_
        refine RR.runs (pc' := 78) (lc' := [(0, .ref 1), (1, .int v1), (2, .int v2), (3, .int v3)]) (st' := [.int v2, .int v1, .ref (o14 + 2)]) (S1 := S8) (nL := 4) (cd := cd_2205) mx_2205 rfl rfl 2 rfl ?_
        obtain ⟨g16, h⟩ := gpE h
        obtain ⟨r17, S18, h1, h⟩ := bnE h
        refine RR.callV (b := (o14 + 2)) (as := [.int v1, .int v2]) (rest := []) (r1 := (some (.int r17))) (S1 := S18) mx_2205 rfl rfl mx_410 rfl rfl (by decide) (Or.inl g16) (Nat.le_of_ble_eq_true rfl) (Nat.le_of_ble_eq_true rfl) (RC.deep (by omega) (s_o_na_start (d := d) _ _ _ _ h1)) ?_
        show RR KO _ 2205 81 [(0, .ref 1), (1, .int v1), (2, .int v2), (3, .int v3)] [.int r17] S18 _ _
        cases h
        exact RR.reti mx_2205 rfl rfl rfl
      refine RR.sw 69 rfl (fun q => absurd q c) (fun _ => ?_)
      rcases ifE h with ⟨c, h⟩ | ⟨c, h⟩
      · refine RR.sw 82 rfl (fun _ => ?_) (fun q => absurd c q)
        refine RR.runs (pc' := 86) (lc' := [(0, .ref 1), (1, .int v1), (2, .int v2), (3, .int v3)]) (st' := [qv (rQ S8 1 9)]) (S1 := S8) (nL := 4) (cd := cd_2205) mx_2205 rfl rfl 2 rfl ?_
        rcases oqE h with ⟨e1, h⟩ | ⟨o19, eo19, h⟩
        · cases h
        rw [eo19]
        obtain ⟨g20, h⟩ := gpE h
        refine RR.gPo (pc' := 89) (lc' := [(0, .ref 1), (1, .int v1), (2, .int v2), (3, .int v3)]) (st' := [.ref (o19 + 2)]) (S1 := S8) (nL := 4) (cd := cd_2205) mx_2205 rfl rfl rfl ⟨g20, by decide, by decide⟩ ?_
        refine RR.runs (pc' := 91) (lc' := [(0, .ref 1), (1, .int v1), (2, .int v2), (3, .int v3)]) (st' := [.int v2, .int v1, .ref (o19 + 2)]) (S1 := S8) (nL := 4) (cd := cd_2205) mx_2205 rfl rfl 2 rfl ?_
        obtain ⟨g21, h⟩ := gpE h
        obtain ⟨r22, S23, h1, h⟩ := bnE h
        refine RR.callV (b := (o19 + 2)) (as := [.int v1, .int v2]) (rest := []) (r1 := (some (.int r22))) (S1 := S23) mx_2205 rfl rfl mx_411 rfl rfl (by decide) (Or.inl g21) (Nat.le_of_ble_eq_true rfl) (Nat.le_of_ble_eq_true rfl) (RC.deep (by omega) (s_o_na_rhyme (d := d) _ _ _ _ h1)) ?_
        show RR KO _ 2205 94 [(0, .ref 1), (1, .int v1), (2, .int v2), (3, .int v3)] [.int r22] S23 _ _
        cases h
        exact RR.reti mx_2205 rfl rfl rfl
      refine RR.sw 82 rfl (fun q => absurd q c) (fun _ => ?_)
      rcases ifE h with ⟨c, h⟩ | ⟨c, h⟩
      · refine RR.sw 95 rfl (fun _ => ?_) (fun q => absurd c q)
        refine RR.runs (pc' := 99) (lc' := [(0, .ref 1), (1, .int v1), (2, .int v2), (3, .int v3)]) (st' := [qv (rQ S8 1 9)]) (S1 := S8) (nL := 4) (cd := cd_2205) mx_2205 rfl rfl 2 rfl ?_
        rcases oqE h with ⟨e1, h⟩ | ⟨o24, eo24, h⟩
        · cases h
        rw [eo24]
        refine RR.runs (pc' := 100) (lc' := [(0, .ref 1), (1, .int v1), (2, .int v2), (3, .int v3)]) (st' := [.int v1, .ref o24]) (S1 := S8) (nL := 4) (cd := cd_2205) mx_2205 rfl rfl 1 rfl ?_
        obtain ⟨g25, h⟩ := gpE h
        obtain ⟨r26, S27, h1, h⟩ := bnE h
        refine RR.callV (b := o24) (as := [.int v1]) (rest := []) (r1 := (some (.int r26))) (S1 := S27) mx_2205 rfl rfl mx_2009 rfl rfl (by decide) (Or.inl g25) (Nat.le_of_ble_eq_true rfl) (Nat.le_of_ble_eq_true rfl) (RC.deep (by omega) (s_o_to_nearTo (d := d) _ _ _ h1)) ?_
        show RR KO _ 2205 103 [(0, .ref 1), (1, .int v1), (2, .int v2), (3, .int v3)] [.int r26] S27 _ _
        refine RR.runs (pc' := 107) (lc' := [(0, .ref 1), (1, .int v1), (2, .int v2), (3, .int v3)]) (st' := [.int (((r26 >>> (v2 &&& 31)) &&& (1 : Int32)))]) (S1 := S27) (nL := 4) (cd := cd_2205) mx_2205 rfl rfl 4 rfl ?_
        cases h
        exact RR.reti mx_2205 rfl rfl rfl
      refine RR.sw 95 rfl (fun q => absurd q c) (fun _ => ?_)
      refine RR.sw0 108 rfl ?_
      refine RR.runs (pc' := 109) (lc' := [(0, .ref 1), (1, .int v1), (2, .int v2), (3, .int v3)]) (st' := [.int (-1 : Int32)]) (S1 := S8) (nL := 4) (cd := cd_2205) mx_2205 rfl rfl 1 rfl ?_
      cases h
      exact RR.reti mx_2205 rfl rfl rfl
theorem s_o_near {d : Nat} {S' : St} {r : Int32} (v1 : Int32) (v2 : Int32) (v3 : Int32) (S : St) (h : o_near v1 v2 v3 S = some (r, S')) : RC KO (d + 3) 2205 [.ref 1, .int v1, .int v2, .int v3] S (some (.int r)) S' := RC.of rfl (s0_o_near v1 v2 v3 S h)
-- NameOrchard says (II)I
def o_says_22 (S : St) : Re Int32 :=
  some ((-1 : Int32), S)
set_option maxRecDepth 100000 in
theorem s_o_says_22 {d : Nat} {S' : St} {r : Int32} (S : St) (h : o_says_22 S = some (r, S')) : RR KO (d + 3) 2206 22 [] [] S (some (.int r)) S' := by
  unfold o_says_22 at h
  refine RR.runs (pc' := 23) (lc' := []) (st' := [.int (-1 : Int32)]) (S1 := S) (nL := 3) (cd := cd_2206) mx_2206 rfl rfl 1 rfl ?_
  cases h
  exact RR.reti mx_2206 rfl rfl rfl
def o_says_41 (p0 : Int32) (S : St) : Re Int32 :=
  some (p0, S)
set_option maxRecDepth 100000 in
theorem s_o_says_41 {d : Nat} {S' : St} {r : Int32} (p0 : Int32) (S : St) (h : o_says_41 p0 S = some (r, S')) : RR KO (d + 3) 2206 41 [] [.int p0] S (some (.int r)) S' := by
  unfold o_says_41 at h
  cases h
  exact RR.reti mx_2206 rfl rfl rfl
def o_says (v1 : Int32) (v2 : Int32) (S : St) : Re Int32 :=
  oq (rQ S 1 9) none fun o1 =>
  if KO.1 o1 = (0, 10) then (
bn (o_to_hasPerson o1 v1 S) fun r3 S4 =>
  if r3 = 0 then (
    o_says_22 S4)
  else (
    oq (rQ S4 1 9) none fun o5 =>
    if KO.1 o5 = (0, 10) then (
bn (o_to_hasSound o5 v2 S4) fun r7 S8 =>
    if r7 = 0 then (
      o_says_22 S8)
    else (
      oq (rQ S8 1 9) none fun o9 =>
      if KO.1 o9 = (0, 10) then (
bn (o_to_canSay o9 v1 v2 S8) fun r11 S12 =>
      if r11 = 0 then (
        o_says_41 (0 : Int32) S12)
      else (
        o_says_41 (1 : Int32) S12)) else none)) else none)) else none
set_option maxRecDepth 100000 in
theorem s0_o_says {d : Nat} {S' : St} {r : Int32} (v1 : Int32) (v2 : Int32) (S : St) (h : o_says v1 v2 S = some (r, S')) : RR KO (d + 3) 2206 0 [(0, .ref 1), (1, .int v1), (2, .int v2)] [] S (some (.int r)) S' := by
  unfold o_says at h
  refine RR.runs (pc' := 4) (lc' := [(0, .ref 1), (1, .int v1), (2, .int v2)]) (st' := [qv (rQ S 1 9)]) (S1 := S) (nL := 3) (cd := cd_2206) mx_2206 rfl rfl 2 rfl ?_
  rcases oqE h with ⟨e1, h⟩ | ⟨o1, eo1, h⟩
  · cases h
  rw [eo1]
  refine RR.runs (pc' := 5) (lc' := [(0, .ref 1), (1, .int v1), (2, .int v2)]) (st' := [.int v1, .ref o1]) (S1 := S) (nL := 3) (cd := cd_2206) mx_2206 rfl rfl 1 rfl ?_
  obtain ⟨g2, h⟩ := gpE h
  obtain ⟨r3, S4, h1, h⟩ := bnE h
  refine RR.callV (b := o1) (as := [.int v1]) (rest := []) (r1 := (some (.int r3))) (S1 := S4) mx_2206 rfl rfl mx_2007 rfl rfl (by decide) (Or.inl g2) (Nat.le_of_ble_eq_true rfl) (Nat.le_of_ble_eq_true rfl) (RC.deep (by omega) (s_o_to_hasPerson (d := d) _ _ _ h1)) ?_
  show RR KO _ 2206 8 [(0, .ref 1), (1, .int v1), (2, .int v2)] [.int r3] S4 _ _
  refine RR.runs (pc' := icm .eq r3 0 22 11) (lc' := [(0, .ref 1), (1, .int v1), (2, .int v2)]) (st' := []) (S1 := S4) (nL := 3) (cd := cd_2206) mx_2206 rfl rfl 1 rfl ?_
  rcases ifE h with ⟨c, h⟩ | ⟨c, h⟩
  · refine RR.c_eq (fun _ => ?_) (fun q => absurd c q)
    refine RR.weak [] trivial ?_
    exact s_o_says_22 _ h
  · refine RR.c_eq (fun q => absurd q c) (fun _ => ?_)
    refine RR.runs (pc' := 15) (lc' := [(0, .ref 1), (1, .int v1), (2, .int v2)]) (st' := [qv (rQ S4 1 9)]) (S1 := S4) (nL := 3) (cd := cd_2206) mx_2206 rfl rfl 2 rfl ?_
    rcases oqE h with ⟨e1, h⟩ | ⟨o5, eo5, h⟩
    · cases h
    rw [eo5]
    refine RR.runs (pc' := 16) (lc' := [(0, .ref 1), (1, .int v1), (2, .int v2)]) (st' := [.int v2, .ref o5]) (S1 := S4) (nL := 3) (cd := cd_2206) mx_2206 rfl rfl 1 rfl ?_
    obtain ⟨g6, h⟩ := gpE h
    obtain ⟨r7, S8, h1, h⟩ := bnE h
    refine RR.callV (b := o5) (as := [.int v2]) (rest := []) (r1 := (some (.int r7))) (S1 := S8) mx_2206 rfl rfl mx_2006 rfl rfl (by decide) (Or.inl g6) (Nat.le_of_ble_eq_true rfl) (Nat.le_of_ble_eq_true rfl) (RC.deep (by omega) (s_o_to_hasSound (d := d) _ _ _ h1)) ?_
    show RR KO _ 2206 19 [(0, .ref 1), (1, .int v1), (2, .int v2)] [.int r7] S8 _ _
    refine RR.runs (pc' := icm .ne r7 0 24 22) (lc' := [(0, .ref 1), (1, .int v1), (2, .int v2)]) (st' := []) (S1 := S8) (nL := 3) (cd := cd_2206) mx_2206 rfl rfl 1 rfl ?_
    rcases ifE h with ⟨c, h⟩ | ⟨c, h⟩
    · refine RR.c_ne (fun _ => ?_) (fun q => absurd c q)
      refine RR.weak [] trivial ?_
      exact s_o_says_22 _ h
    · refine RR.c_ne (fun q => absurd q c) (fun _ => ?_)
      refine RR.runs (pc' := 28) (lc' := [(0, .ref 1), (1, .int v1), (2, .int v2)]) (st' := [qv (rQ S8 1 9)]) (S1 := S8) (nL := 3) (cd := cd_2206) mx_2206 rfl rfl 2 rfl ?_
      rcases oqE h with ⟨e1, h⟩ | ⟨o9, eo9, h⟩
      · cases h
      rw [eo9]
      refine RR.runs (pc' := 30) (lc' := [(0, .ref 1), (1, .int v1), (2, .int v2)]) (st' := [.int v2, .int v1, .ref o9]) (S1 := S8) (nL := 3) (cd := cd_2206) mx_2206 rfl rfl 2 rfl ?_
      obtain ⟨g10, h⟩ := gpE h
      obtain ⟨r11, S12, h1, h⟩ := bnE h
      refine RR.callV (b := o9) (as := [.int v1, .int v2]) (rest := []) (r1 := (some (.int r11))) (S1 := S12) mx_2206 rfl rfl mx_2010 rfl rfl (by decide) (Or.inl g10) (Nat.le_of_ble_eq_true rfl) (Nat.le_of_ble_eq_true rfl) (RC.deep (by omega) (s_o_to_canSay (d := d) _ _ _ _ h1)) ?_
      show RR KO _ 2206 33 [(0, .ref 1), (1, .int v1), (2, .int v2)] [.int r11] S12 _ _
      refine RR.runs (pc' := icm .eq r11 0 40 36) (lc' := [(0, .ref 1), (1, .int v1), (2, .int v2)]) (st' := []) (S1 := S12) (nL := 3) (cd := cd_2206) mx_2206 rfl rfl 1 rfl ?_
      rcases ifE h with ⟨c, h⟩ | ⟨c, h⟩
      · refine RR.c_eq (fun _ => ?_) (fun q => absurd c q)
        refine RR.runs (pc' := 41) (lc' := [(0, .ref 1), (1, .int v1), (2, .int v2)]) (st' := [.int (0 : Int32)]) (S1 := S12) (nL := 3) (cd := cd_2206) mx_2206 rfl rfl 1 rfl ?_
        refine RR.weak [] trivial ?_
        exact s_o_says_41 _ _ h
      · refine RR.c_eq (fun q => absurd q c) (fun _ => ?_)
        refine RR.runs (pc' := 41) (lc' := [(0, .ref 1), (1, .int v1), (2, .int v2)]) (st' := [.int (1 : Int32)]) (S1 := S12) (nL := 3) (cd := cd_2206) mx_2206 rfl rfl 2 rfl ?_
        refine RR.weak [] trivial ?_
        exact s_o_says_41 _ _ h
theorem s_o_says {d : Nat} {S' : St} {r : Int32} (v1 : Int32) (v2 : Int32) (S : St) (h : o_says v1 v2 S = some (r, S')) : RC KO (d + 3) 2206 [.ref 1, .int v1, .int v2] S (some (.int r)) S' := RC.of rfl (s0_o_says v1 v2 S h)
-- NameOrchard falls (II)I
def o_falls (v1 : Int32) (v2 : Int32) (S : St) : Re Int32 :=
  oq (rQ S 1 9) none fun o1 =>
  if KO.1 o1 = (0, 10) then (
bn (o_to_canSay o1 v1 v2 S) fun r3 S4 =>
  if r3 = 0 then (
    some ((-1 : Int32), S4))
  else (
    oq (rQ S4 1 9) none fun o5 =>
    oq (rQ S4 1 9) none fun o6 =>
    if KO.1 o6 = (0, 10) then (
bn (o_to_laneOf o6 v1 S4) fun r8 S9 =>
    oq (rQ S9 1 9) none fun o10 =>
    if KO.1 o10 = (0, 10) then (
bn (o_to_loudOf o10 v1 S9) fun r12 S13 =>
    bn (o_sd_fallers 200 o5 r8 r12 v2 S13) fun r14 S15 =>
    some (r14, S15)) else none) else none)) else none
set_option maxRecDepth 100000 in
theorem s0_o_falls {d : Nat} {S' : St} {r : Int32} (v1 : Int32) (v2 : Int32) (S : St) (h : o_falls v1 v2 S = some (r, S')) : RR KO (d + 4) 2207 0 [(0, .ref 1), (1, .int v1), (2, .int v2)] [] S (some (.int r)) S' := by
  unfold o_falls at h
  refine RR.runs (pc' := 4) (lc' := [(0, .ref 1), (1, .int v1), (2, .int v2)]) (st' := [qv (rQ S 1 9)]) (S1 := S) (nL := 3) (cd := cd_2207) mx_2207 rfl rfl 2 rfl ?_
  rcases oqE h with ⟨e1, h⟩ | ⟨o1, eo1, h⟩
  · cases h
  rw [eo1]
  refine RR.runs (pc' := 6) (lc' := [(0, .ref 1), (1, .int v1), (2, .int v2)]) (st' := [.int v2, .int v1, .ref o1]) (S1 := S) (nL := 3) (cd := cd_2207) mx_2207 rfl rfl 2 rfl ?_
  obtain ⟨g2, h⟩ := gpE h
  obtain ⟨r3, S4, h1, h⟩ := bnE h
  refine RR.callV (b := o1) (as := [.int v1, .int v2]) (rest := []) (r1 := (some (.int r3))) (S1 := S4) mx_2207 rfl rfl mx_2010 rfl rfl (by decide) (Or.inl g2) (Nat.le_of_ble_eq_true rfl) (Nat.le_of_ble_eq_true rfl) (RC.deep (by omega) (s_o_to_canSay (d := d) _ _ _ _ h1)) ?_
  show RR KO _ 2207 9 [(0, .ref 1), (1, .int v1), (2, .int v2)] [.int r3] S4 _ _
  refine RR.runs (pc' := icm .ne r3 0 14 12) (lc' := [(0, .ref 1), (1, .int v1), (2, .int v2)]) (st' := []) (S1 := S4) (nL := 3) (cd := cd_2207) mx_2207 rfl rfl 1 rfl ?_
  rcases ifE h with ⟨c, h⟩ | ⟨c, h⟩
  · refine RR.c_ne (fun _ => ?_) (fun q => absurd c q)
    refine RR.runs (pc' := 13) (lc' := [(0, .ref 1), (1, .int v1), (2, .int v2)]) (st' := [.int (-1 : Int32)]) (S1 := S4) (nL := 3) (cd := cd_2207) mx_2207 rfl rfl 1 rfl ?_
    cases h
    exact RR.reti mx_2207 rfl rfl rfl
  · refine RR.c_ne (fun q => absurd q c) (fun _ => ?_)
    refine RR.runs (pc' := 25) (lc' := [(0, .ref 1), (1, .int v1), (2, .int v2)]) (st' := [qv (rQ S4 1 9), .ref 200]) (S1 := S4) (nL := 3) (cd := cd_2207) mx_2207 rfl rfl 5 rfl ?_
    rcases oqE h with ⟨e1, h⟩ | ⟨o5, eo5, h⟩
    · cases h
    rw [eo5]
    refine RR.runs (pc' := 29) (lc' := [(0, .ref 1), (1, .int v1), (2, .int v2)]) (st' := [qv (rQ S4 1 9), .ref o5, .ref 200]) (S1 := S4) (nL := 3) (cd := cd_2207) mx_2207 rfl rfl 2 rfl ?_
    rcases oqE h with ⟨e1, h⟩ | ⟨o6, eo6, h⟩
    · cases h
    rw [eo6]
    refine RR.runs (pc' := 30) (lc' := [(0, .ref 1), (1, .int v1), (2, .int v2)]) (st' := [.int v1, .ref o6, .ref o5, .ref 200]) (S1 := S4) (nL := 3) (cd := cd_2207) mx_2207 rfl rfl 1 rfl ?_
    obtain ⟨g7, h⟩ := gpE h
    obtain ⟨r8, S9, h1, h⟩ := bnE h
    refine RR.callV (b := o6) (as := [.int v1]) (rest := [.ref o5, .ref 200]) (r1 := (some (.int r8))) (S1 := S9) mx_2207 rfl rfl mx_2011 rfl rfl (by decide) (Or.inl g7) (Nat.le_of_ble_eq_true rfl) (Nat.le_of_ble_eq_true rfl) (RC.deep (by omega) (s_o_to_laneOf (d := d) _ _ _ h1)) ?_
    show RR KO _ 2207 33 [(0, .ref 1), (1, .int v1), (2, .int v2)] [.int r8, .ref o5, .ref 200] S9 _ _
    refine RR.runs (pc' := 37) (lc' := [(0, .ref 1), (1, .int v1), (2, .int v2)]) (st' := [qv (rQ S9 1 9), .int r8, .ref o5, .ref 200]) (S1 := S9) (nL := 3) (cd := cd_2207) mx_2207 rfl rfl 2 rfl ?_
    rcases oqE h with ⟨e1, h⟩ | ⟨o10, eo10, h⟩
    · cases h
    rw [eo10]
    refine RR.runs (pc' := 38) (lc' := [(0, .ref 1), (1, .int v1), (2, .int v2)]) (st' := [.int v1, .ref o10, .int r8, .ref o5, .ref 200]) (S1 := S9) (nL := 3) (cd := cd_2207) mx_2207 rfl rfl 1 rfl ?_
    obtain ⟨g11, h⟩ := gpE h
    obtain ⟨r12, S13, h1, h⟩ := bnE h
    refine RR.callV (b := o10) (as := [.int v1]) (rest := [.int r8, .ref o5, .ref 200]) (r1 := (some (.int r12))) (S1 := S13) mx_2207 rfl rfl mx_2012 rfl rfl (by decide) (Or.inl g11) (Nat.le_of_ble_eq_true rfl) (Nat.le_of_ble_eq_true rfl) (RC.deep (by omega) (s_o_to_loudOf (d := d) _ _ _ h1)) ?_
    show RR KO _ 2207 41 [(0, .ref 1), (1, .int v1), (2, .int v2)] [.int r12, .int r8, .ref o5, .ref 200] S13 _ _
    refine RR.runs (pc' := 42) (lc' := [(0, .ref 1), (1, .int v1), (2, .int v2)]) (st' := [.int v2, .int r12, .int r8, .ref o5, .ref 200]) (S1 := S13) (nL := 3) (cd := cd_2207) mx_2207 rfl rfl 1 rfl ?_
    obtain ⟨r14, S15, h1, h⟩ := bnE h
    refine RR.callV (b := 200) (as := [.ref o5, .int r8, .int r12, .int v2]) (rest := []) (r1 := (some (.int r14))) (S1 := S15) mx_2207 rfl rfl mx_1010 rfl rfl (by decide) (Or.inl rfl) (Nat.le_of_ble_eq_true rfl) (Nat.le_of_ble_eq_true rfl) (RC.deep (by omega) (s_o_sd_fallers (d := d) _ _ _ _ _ _ h1)) ?_
    show RR KO _ 2207 45 [(0, .ref 1), (1, .int v1), (2, .int v2)] [.int r14] S15 _ _
    cases h
    exact RR.reti mx_2207 rfl rfl rfl
theorem s_o_falls {d : Nat} {S' : St} {r : Int32} (v1 : Int32) (v2 : Int32) (S : St) (h : o_falls v1 v2 S = some (r, S')) : RC KO (d + 4) 2207 [.ref 1, .int v1, .int v2] S (some (.int r)) S' := RC.of rfl (s0_o_falls v1 v2 S h)
-- NameOrchard keepForUndo ()V
def o_keepForUndo_132 (S : St) : Re Unit :=
  some ((), S)
set_option maxRecDepth 100000 in
theorem s_o_keepForUndo_132 {d : Nat} {S' : St} {r : Unit} (S : St) (h : o_keepForUndo_132 S = some (r, S')) : RR KO (d + 2) 2228 132 [] [] S none S' := by
  unfold o_keepForUndo_132 at h
  cases h
  exact RR.retv mx_2228 rfl rfl rfl
def o_keepForUndo_106 (p0 : Option Nat) (S : St) : Re Unit :=
  oq p0 (
    o_keepForUndo_132 S) (fun o1 =>
    if KO.1 o1 = (0, 5) then (
bn (o_sd_copy o1 200 S) fun r3 S4 =>
    lt' (wI S4 1 11 (((rI S4 1 11) + (1 : Int32)))) fun S5 =>
    o_keepForUndo_132 S5) else none)
set_option maxRecDepth 100000 in
theorem s_o_keepForUndo_106 {d : Nat} {S' : St} {r : Unit} (p0 : Option Nat) (S : St) (h : o_keepForUndo_106 p0 S = some (r, S')) : RR KO (d + 2) 2228 106 [(0, .ref 1)] [qv p0] S none S' := by
  unfold o_keepForUndo_106 at h
  rcases oqE h with ⟨e1, h⟩ | ⟨o1, e1, h⟩
  · subst e1
    refine RR.runs (pc' := 132) (lc' := [(1, .null), (0, .ref 1)]) (st' := []) (S1 := S) (nL := 3) (cd := cd_2228) mx_2228 rfl rfl 3 rfl ?_
    refine RR.weak [] trivial ?_
    exact s_o_keepForUndo_132 _ h
  · subst e1
    refine RR.runs (pc' := 119) (lc' := [(1, .ref o1), (0, .ref 1)]) (st' := [.ref 200, .ref o1]) (S1 := S) (nL := 3) (cd := cd_2228) mx_2228 rfl rfl 7 rfl ?_
    obtain ⟨g2, h⟩ := gpE h
    obtain ⟨r3, S4, h1, h⟩ := bnE h
    refine RR.callV (b := o1) (as := [.ref 200]) (rest := []) (r1 := none) (S1 := S4) mx_2228 rfl rfl mx_1002 rfl rfl (by decide) (Or.inl g2) (Nat.le_of_ble_eq_true rfl) (Nat.le_of_ble_eq_true rfl) (RC.deep (by omega) (s_o_sd_copy (d := d) _ _ _ h1)) ?_
    show RR KO _ 2228 122 [(1, .ref o1), (0, .ref 1)] [] S4 _ _
    refine RR.runs (pc' := 132) (lc' := [(1, .ref o1), (0, .ref 1)]) (st' := []) (S1 := (wI S4 1 11 (((rI S4 1 11) + (1 : Int32))))) (nL := 3) (cd := cd_2228) mx_2228 rfl rfl 6 rfl ?_
    obtain ⟨S5, eS5, h⟩ := ltE h
    rw [← eS5]
    refine RR.weak [] trivial ?_
    exact s_o_keepForUndo_132 _ h
def o_keepForUndo_105 (S : St) : Re Unit :=
  o_keepForUndo_106 none S
set_option maxRecDepth 100000 in
theorem s_o_keepForUndo_105 {d : Nat} {S' : St} {r : Unit} (S : St) (h : o_keepForUndo_105 S = some (r, S')) : RR KO (d + 2) 2228 105 [(0, .ref 1)] [] S none S' := by
  unfold o_keepForUndo_105 at h
  refine RR.runs (pc' := 106) (lc' := [(0, .ref 1)]) (st' := [.null]) (S1 := S) (nL := 3) (cd := cd_2228) mx_2228 rfl rfl 1 rfl ?_
  refine RR.weak [(0, .ref 1)] ⟨rfl, trivial⟩ ?_
  exact s_o_keepForUndo_106 _ _ h
def o_keepForUndo_74 (S : St) : Re Unit :=
  if (rI S 1 11) < 0 then (
    o_keepForUndo_105 S)
  else (
    if (rI S 1 11) < (16 : Int32) then (
      if (rI S 1 11) < 0 ∨ 16 ≤ (rI S 1 11).toNatClampNeg then none else
      oq (rQ S 19 (rI S 1 11).toNatClampNeg) none fun o1 =>
      o_keepForUndo_106 (some o1) S)
    else (
      o_keepForUndo_105 S))
set_option maxRecDepth 100000 in
theorem s_o_keepForUndo_74 {d : Nat} {S' : St} {r : Unit} (S : St) (h : o_keepForUndo_74 S = some (r, S')) : RR KO (d + 2) 2228 74 [(0, .ref 1)] [] S none S' := by
  unfold o_keepForUndo_74 at h
  refine RR.runs (pc' := icm .lt (rI S 1 11) 0 105 81) (lc' := [(0, .ref 1)]) (st' := []) (S1 := S) (nL := 3) (cd := cd_2228) mx_2228 rfl rfl 3 rfl ?_
  rcases ifE h with ⟨c, h⟩ | ⟨c, h⟩
  · refine RR.c_lt (fun _ => ?_) (fun q => absurd c q)
    refine RR.weak [(0, .ref 1)] ⟨rfl, trivial⟩ ?_
    exact s_o_keepForUndo_105 _ h
  · refine RR.c_lt (fun q => absurd q c) (fun _ => ?_)
    refine RR.runs (pc' := icm .ge (rI S 1 11) (16 : Int32) 105 93) (lc' := [(0, .ref 1)]) (st' := []) (S1 := S) (nL := 3) (cd := cd_2228) mx_2228 rfl rfl 6 rfl ?_
    rcases ifE h with ⟨c, h⟩ | ⟨c, h⟩
    · refine RR.c_ge (fun _ => ?_) (fun q => absurd c q)
      refine RR.runs (pc' := 101) (lc' := [(0, .ref 1)]) (st' := [.int (rI S 1 11), .ref 19]) (S1 := S) (nL := 3) (cd := cd_2228) mx_2228 rfl rfl 4 rfl ?_
      obtain ⟨g, h⟩ := gnE h
      refine RR.gPN (c2 := 5 ≤ (KO.1 19).1 ∧ (KO.1 19).1 < 8) (pc' := 102) (lc' := [(0, .ref 1)]) (st' := [qv (rQ S 19 (rI S 1 11).toNatClampNeg)]) (S1 := S) (nL := 3) (cd := cd_2228) mx_2228 rfl rfl rfl ⟨by decide, by decide⟩ g ?_
      rcases oqE h with ⟨e1, h⟩ | ⟨o1, eo1, h⟩
      · cases h
      rw [eo1]
      refine RR.runs (pc' := 106) (lc' := [(0, .ref 1)]) (st' := [.ref o1]) (S1 := S) (nL := 3) (cd := cd_2228) mx_2228 rfl rfl 1 rfl ?_
      refine RR.weak [(0, .ref 1)] ⟨rfl, trivial⟩ ?_
      exact s_o_keepForUndo_106 _ _ h
    · refine RR.c_ge (fun q => absurd q c) (fun _ => ?_)
      refine RR.weak [(0, .ref 1)] ⟨rfl, trivial⟩ ?_
      exact s_o_keepForUndo_105 _ h
def o_keepForUndo_50 (v1 : Nat) (S : St) : Re Unit :=
  if ((KO.1 19).1 = 5 ∧ (KO.1 v1).1 = 20) ∨ ((KO.1 19).1 = 6 ∧ KO.1 v1 = (0, 6)) ∨ ((KO.1 19).1 = 7 ∧ KO.1 v1 = (0, 5)) then (
if ((16 : Int32) - (1 : Int32)) < 0 ∨ 16 ≤ (((16 : Int32) - (1 : Int32))).toNatClampNeg then none else lt' (wQ S 19 (((16 : Int32) - (1 : Int32))).toNatClampNeg (some v1)) fun S2 =>
  lt' (wI S2 1 11 (((16 : Int32) - (1 : Int32)))) fun S3 =>
  o_keepForUndo_74 S3) else none
set_option maxRecDepth 100000 in
theorem s_o_keepForUndo_50 {d : Nat} {S' : St} {r : Unit} (v1 : Nat) (S : St) (h : o_keepForUndo_50 v1 S = some (r, S')) : RR KO (d + 2) 2228 50 [(0, .ref 1), (1, .ref v1)] [] S none S' := by
  unfold o_keepForUndo_50 at h
  refine RR.runs (pc' := 62) (lc' := [(0, .ref 1), (1, .ref v1)]) (st' := [.ref v1, .int (((16 : Int32) - (1 : Int32))), .ref 19]) (S1 := S) (nL := 3) (cd := cd_2228) mx_2228 rfl rfl 8 rfl ?_
  obtain ⟨g1, h⟩ := gpE h
  obtain ⟨g, h⟩ := gnE h
  refine RR.gPN (pc' := 63) (lc' := [(0, .ref 1), (1, .ref v1)]) (st' := []) (S1 := (wQ S 19 (((16 : Int32) - (1 : Int32))).toNatClampNeg (some v1))) (nL := 3) (cd := cd_2228) mx_2228 rfl rfl rfl g1 g ?_
  obtain ⟨S2, eS2, h⟩ := ltE h
  rw [← eS2]
  refine RR.runs (pc' := 74) (lc' := [(0, .ref 1), (1, .ref v1)]) (st' := []) (S1 := (wI S2 1 11 (((16 : Int32) - (1 : Int32))))) (nL := 3) (cd := cd_2228) mx_2228 rfl rfl 7 rfl ?_
  obtain ⟨S3, eS3, h⟩ := ltE h
  rw [← eS3]
  refine RR.weak [(0, .ref 1)] ⟨rfl, trivial⟩ ?_
  exact s_o_keepForUndo_74 _ h
def o_keepForUndo_21 : Nat → Nat → Int32 → St → Re Unit
  | 0, _, _, _ => none
  | n + 1, v1, v2, S =>
  if v2 < (16 : Int32) then (
    if v2 < 0 ∨ 16 ≤ v2.toNatClampNeg then none else
    oq (rQ S 19 v2.toNatClampNeg) none fun o1 =>
    if ((KO.1 19).1 = 5 ∧ (KO.1 o1).1 = 20) ∨ ((KO.1 19).1 = 6 ∧ KO.1 o1 = (0, 6)) ∨ ((KO.1 19).1 = 7 ∧ KO.1 o1 = (0, 5)) then (
if (v2 - (1 : Int32)) < 0 ∨ 16 ≤ ((v2 - (1 : Int32))).toNatClampNeg then none else lt' (wQ S 19 ((v2 - (1 : Int32))).toNatClampNeg (some o1)) fun S3 =>
    lt' ((v2 + (1 : Int32)) : Int32) fun x4 =>
    o_keepForUndo_21 n v1 x4 S3) else none)
  else (
    o_keepForUndo_50 v1 S)
set_option maxRecDepth 100000 in
theorem s_o_keepForUndo_21 {d : Nat} {S' : St} {r : Unit} : ∀ (n : Nat) (v1 : Nat) (v2 : Int32) (S : St), o_keepForUndo_21 n v1 v2 S = some (r, S') → RR KO (d + 2) 2228 21 [(0, .ref 1), (1, .ref v1), (2, .int v2)] [] S none S' := by
  intro n
  induction n with
  | zero => intro v1 v2 S h; simp only [o_keepForUndo_21] at h; cases h
  | succ n ih =>
    intro v1 v2 S h
    simp only [o_keepForUndo_21] at h
    refine RR.runs (pc' := icm .ge v2 (16 : Int32) 50 30) (lc' := [(0, .ref 1), (1, .ref v1), (2, .int v2)]) (st' := []) (S1 := S) (nL := 3) (cd := cd_2228) mx_2228 rfl rfl 5 rfl ?_
    rcases ifE h with ⟨c, h⟩ | ⟨c, h⟩
    · refine RR.c_ge (fun _ => ?_) (fun q => absurd c q)
      refine RR.runs (pc' := 42) (lc' := [(0, .ref 1), (1, .ref v1), (2, .int v2)]) (st' := [.int v2, .ref 19, .int ((v2 - (1 : Int32))), .ref 19]) (S1 := S) (nL := 3) (cd := cd_2228) mx_2228 rfl rfl 8 rfl ?_
      obtain ⟨g, h⟩ := gnE h
      refine RR.gPN (c2 := 5 ≤ (KO.1 19).1 ∧ (KO.1 19).1 < 8) (pc' := 43) (lc' := [(0, .ref 1), (1, .ref v1), (2, .int v2)]) (st' := [qv (rQ S 19 v2.toNatClampNeg), .int ((v2 - (1 : Int32))), .ref 19]) (S1 := S) (nL := 3) (cd := cd_2228) mx_2228 rfl rfl rfl ⟨by decide, by decide⟩ g ?_
      rcases oqE h with ⟨e1, h⟩ | ⟨o1, eo1, h⟩
      · cases h
      rw [eo1]
      obtain ⟨g2, h⟩ := gpE h
      obtain ⟨g, h⟩ := gnE h
      refine RR.gPN (pc' := 44) (lc' := [(0, .ref 1), (1, .ref v1), (2, .int v2)]) (st' := []) (S1 := (wQ S 19 ((v2 - (1 : Int32))).toNatClampNeg (some o1))) (nL := 3) (cd := cd_2228) mx_2228 rfl rfl rfl g2 g ?_
      obtain ⟨S3, eS3, h⟩ := ltE h
      rw [← eS3]
      refine RR.runs (pc' := 47) (lc' := [(2, .int ((v2 + (1 : Int32)))), (0, .ref 1), (1, .ref v1)]) (st' := []) (S1 := S3) (nL := 3) (cd := cd_2228) mx_2228 rfl rfl 1 rfl ?_
      obtain ⟨x4, ex4, h⟩ := ltE h
      rw [← ex4]
      refine RR.runs (pc' := 21) (lc' := [(2, .int x4), (0, .ref 1), (1, .ref v1)]) (st' := []) (S1 := S3) (nL := 3) (cd := cd_2228) mx_2228 rfl rfl 1 rfl ?_
      refine RR.weak [(0, .ref 1), (1, .ref v1), (2, .int x4)] ⟨rfl, rfl, rfl, trivial⟩ ?_
      exact ih _ _ _ h
    · refine RR.c_ge (fun q => absurd q c) (fun _ => ?_)
      refine RR.weak [(0, .ref 1), (1, .ref v1)] ⟨rfl, rfl, trivial⟩ ?_
      exact s_o_keepForUndo_50 _ _ h
def o_keepForUndo (S : St) : Re Unit :=
  if (rI S 1 11) < (16 : Int32) then (
    o_keepForUndo_74 S)
  else (
    if (0 : Int32) < 0 ∨ 16 ≤ (0 : Int32).toNatClampNeg then none else
    oq (rQ S 19 (0 : Int32).toNatClampNeg) none fun o1 =>
    o_keepForUndo_21 FU o1 (1 : Int32) S)
set_option maxRecDepth 100000 in
theorem s0_o_keepForUndo {d : Nat} {S' : St} {r : Unit} (S : St) (h : o_keepForUndo S = some (r, S')) : RR KO (d + 2) 2228 0 [(0, .ref 1)] [] S none S' := by
  unfold o_keepForUndo at h
  refine RR.runs (pc' := icm .lt (rI S 1 11) (16 : Int32) 74 12) (lc' := [(0, .ref 1)]) (st' := []) (S1 := S) (nL := 3) (cd := cd_2228) mx_2228 rfl rfl 6 rfl ?_
  rcases ifE h with ⟨c, h⟩ | ⟨c, h⟩
  · refine RR.c_lt (fun _ => ?_) (fun q => absurd c q)
    refine RR.weak [(0, .ref 1)] ⟨rfl, trivial⟩ ?_
    exact s_o_keepForUndo_74 _ h
  · refine RR.c_lt (fun q => absurd q c) (fun _ => ?_)
    refine RR.runs (pc' := 17) (lc' := [(0, .ref 1)]) (st' := [.int (0 : Int32), .ref 19]) (S1 := S) (nL := 3) (cd := cd_2228) mx_2228 rfl rfl 3 rfl ?_
    obtain ⟨g, h⟩ := gnE h
    refine RR.gPN (c2 := 5 ≤ (KO.1 19).1 ∧ (KO.1 19).1 < 8) (pc' := 18) (lc' := [(0, .ref 1)]) (st' := [qv (rQ S 19 (0 : Int32).toNatClampNeg)]) (S1 := S) (nL := 3) (cd := cd_2228) mx_2228 rfl rfl rfl ⟨by decide, by decide⟩ g ?_
    rcases oqE h with ⟨e1, h⟩ | ⟨o1, eo1, h⟩
    · cases h
    rw [eo1]
    refine RR.runs (pc' := 21) (lc' := [(2, .int (1 : Int32)), (1, .ref o1), (0, .ref 1)]) (st' := []) (S1 := S) (nL := 3) (cd := cd_2228) mx_2228 rfl rfl 3 rfl ?_
    refine RR.weak [(0, .ref 1), (1, .ref o1), (2, .int (1 : Int32))] ⟨rfl, rfl, rfl, trivial⟩ ?_
    exact s_o_keepForUndo_21 _ _ _ _ h
theorem s_o_keepForUndo {d : Nat} {S' : St} {r : Unit} (S : St) (h : o_keepForUndo S = some (r, S')) : RC KO (d + 2) 2228 [.ref 1] S none S' := RC.of rfl (s0_o_keepForUndo S h)
-- NameOrchard call (II)I
def o_call (v1 : Int32) (v2 : Int32) (S : St) : Re Int32 :=
  oq (rQ S 1 9) none fun o1 =>
  if KO.1 o1 = (0, 10) then (
bn (o_to_canSay o1 v1 v2 S) fun r3 S4 =>
  if r3 = 0 then (
    some ((-1 : Int32), S4))
  else (
    bn (o_keepForUndo S4) fun r5 S6 =>
    oq (rQ S6 1 9) none fun o7 =>
    oq (rQ S6 1 9) none fun o8 =>
    if KO.1 o8 = (0, 10) then (
bn (o_to_laneOf o8 v1 S6) fun r10 S11 =>
    oq (rQ S11 1 9) none fun o12 =>
    if KO.1 o12 = (0, 10) then (
bn (o_to_loudOf o12 v1 S11) fun r14 S15 =>
    bn (o_sd_cry 200 o7 r10 r14 v2 S15) fun r16 S17 =>
    some (r16, S17)) else none) else none)) else none
set_option maxRecDepth 100000 in
theorem s0_o_call {d : Nat} {S' : St} {r : Int32} (v1 : Int32) (v2 : Int32) (S : St) (h : o_call v1 v2 S = some (r, S')) : RR KO (d + 6) 2208 0 [(0, .ref 1), (1, .int v1), (2, .int v2)] [] S (some (.int r)) S' := by
  unfold o_call at h
  refine RR.runs (pc' := 4) (lc' := [(0, .ref 1), (1, .int v1), (2, .int v2)]) (st' := [qv (rQ S 1 9)]) (S1 := S) (nL := 3) (cd := cd_2208) mx_2208 rfl rfl 2 rfl ?_
  rcases oqE h with ⟨e1, h⟩ | ⟨o1, eo1, h⟩
  · cases h
  rw [eo1]
  refine RR.runs (pc' := 6) (lc' := [(0, .ref 1), (1, .int v1), (2, .int v2)]) (st' := [.int v2, .int v1, .ref o1]) (S1 := S) (nL := 3) (cd := cd_2208) mx_2208 rfl rfl 2 rfl ?_
  obtain ⟨g2, h⟩ := gpE h
  obtain ⟨r3, S4, h1, h⟩ := bnE h
  refine RR.callV (b := o1) (as := [.int v1, .int v2]) (rest := []) (r1 := (some (.int r3))) (S1 := S4) mx_2208 rfl rfl mx_2010 rfl rfl (by decide) (Or.inl g2) (Nat.le_of_ble_eq_true rfl) (Nat.le_of_ble_eq_true rfl) (RC.deep (by omega) (s_o_to_canSay (d := d) _ _ _ _ h1)) ?_
  show RR KO _ 2208 9 [(0, .ref 1), (1, .int v1), (2, .int v2)] [.int r3] S4 _ _
  refine RR.runs (pc' := icm .ne r3 0 14 12) (lc' := [(0, .ref 1), (1, .int v1), (2, .int v2)]) (st' := []) (S1 := S4) (nL := 3) (cd := cd_2208) mx_2208 rfl rfl 1 rfl ?_
  rcases ifE h with ⟨c, h⟩ | ⟨c, h⟩
  · refine RR.c_ne (fun _ => ?_) (fun q => absurd c q)
    refine RR.runs (pc' := 13) (lc' := [(0, .ref 1), (1, .int v1), (2, .int v2)]) (st' := [.int (-1 : Int32)]) (S1 := S4) (nL := 3) (cd := cd_2208) mx_2208 rfl rfl 1 rfl ?_
    cases h
    exact RR.reti mx_2208 rfl rfl rfl
  · refine RR.c_ne (fun q => absurd q c) (fun _ => ?_)
    refine RR.runs (pc' := 15) (lc' := [(0, .ref 1), (1, .int v1), (2, .int v2)]) (st' := [.ref 1]) (S1 := S4) (nL := 3) (cd := cd_2208) mx_2208 rfl rfl 1 rfl ?_
    obtain ⟨r5, S6, h1, h⟩ := bnE h
    refine RR.callV (b := 1) (as := []) (rest := []) (r1 := none) (S1 := S6) mx_2208 rfl rfl mx_2228 rfl rfl (by decide) (Or.inl rfl) (Nat.le_of_ble_eq_true rfl) (Nat.le_of_ble_eq_true rfl) (RC.deep (by omega) (s_o_keepForUndo (d := d) _ h1)) ?_
    show RR KO _ 2208 18 [(0, .ref 1), (1, .int v1), (2, .int v2)] [] S6 _ _
    refine RR.runs (pc' := 29) (lc' := [(0, .ref 1), (1, .int v1), (2, .int v2)]) (st' := [qv (rQ S6 1 9), .ref 200]) (S1 := S6) (nL := 3) (cd := cd_2208) mx_2208 rfl rfl 5 rfl ?_
    rcases oqE h with ⟨e1, h⟩ | ⟨o7, eo7, h⟩
    · cases h
    rw [eo7]
    refine RR.runs (pc' := 33) (lc' := [(0, .ref 1), (1, .int v1), (2, .int v2)]) (st' := [qv (rQ S6 1 9), .ref o7, .ref 200]) (S1 := S6) (nL := 3) (cd := cd_2208) mx_2208 rfl rfl 2 rfl ?_
    rcases oqE h with ⟨e1, h⟩ | ⟨o8, eo8, h⟩
    · cases h
    rw [eo8]
    refine RR.runs (pc' := 34) (lc' := [(0, .ref 1), (1, .int v1), (2, .int v2)]) (st' := [.int v1, .ref o8, .ref o7, .ref 200]) (S1 := S6) (nL := 3) (cd := cd_2208) mx_2208 rfl rfl 1 rfl ?_
    obtain ⟨g9, h⟩ := gpE h
    obtain ⟨r10, S11, h1, h⟩ := bnE h
    refine RR.callV (b := o8) (as := [.int v1]) (rest := [.ref o7, .ref 200]) (r1 := (some (.int r10))) (S1 := S11) mx_2208 rfl rfl mx_2011 rfl rfl (by decide) (Or.inl g9) (Nat.le_of_ble_eq_true rfl) (Nat.le_of_ble_eq_true rfl) (RC.deep (by omega) (s_o_to_laneOf (d := d) _ _ _ h1)) ?_
    show RR KO _ 2208 37 [(0, .ref 1), (1, .int v1), (2, .int v2)] [.int r10, .ref o7, .ref 200] S11 _ _
    refine RR.runs (pc' := 41) (lc' := [(0, .ref 1), (1, .int v1), (2, .int v2)]) (st' := [qv (rQ S11 1 9), .int r10, .ref o7, .ref 200]) (S1 := S11) (nL := 3) (cd := cd_2208) mx_2208 rfl rfl 2 rfl ?_
    rcases oqE h with ⟨e1, h⟩ | ⟨o12, eo12, h⟩
    · cases h
    rw [eo12]
    refine RR.runs (pc' := 42) (lc' := [(0, .ref 1), (1, .int v1), (2, .int v2)]) (st' := [.int v1, .ref o12, .int r10, .ref o7, .ref 200]) (S1 := S11) (nL := 3) (cd := cd_2208) mx_2208 rfl rfl 1 rfl ?_
    obtain ⟨g13, h⟩ := gpE h
    obtain ⟨r14, S15, h1, h⟩ := bnE h
    refine RR.callV (b := o12) (as := [.int v1]) (rest := [.int r10, .ref o7, .ref 200]) (r1 := (some (.int r14))) (S1 := S15) mx_2208 rfl rfl mx_2012 rfl rfl (by decide) (Or.inl g13) (Nat.le_of_ble_eq_true rfl) (Nat.le_of_ble_eq_true rfl) (RC.deep (by omega) (s_o_to_loudOf (d := d) _ _ _ h1)) ?_
    show RR KO _ 2208 45 [(0, .ref 1), (1, .int v1), (2, .int v2)] [.int r14, .int r10, .ref o7, .ref 200] S15 _ _
    refine RR.runs (pc' := 46) (lc' := [(0, .ref 1), (1, .int v1), (2, .int v2)]) (st' := [.int v2, .int r14, .int r10, .ref o7, .ref 200]) (S1 := S15) (nL := 3) (cd := cd_2208) mx_2208 rfl rfl 1 rfl ?_
    obtain ⟨r16, S17, h1, h⟩ := bnE h
    refine RR.callV (b := 200) (as := [.ref o7, .int r10, .int r14, .int v2]) (rest := []) (r1 := (some (.int r16))) (S1 := S17) mx_2208 rfl rfl mx_1011 rfl rfl (by decide) (Or.inl rfl) (Nat.le_of_ble_eq_true rfl) (Nat.le_of_ble_eq_true rfl) (RC.deep (by omega) (s_o_sd_cry (d := d) _ _ _ _ _ _ h1)) ?_
    show RR KO _ 2208 49 [(0, .ref 1), (1, .int v1), (2, .int v2)] [.int r16] S17 _ _
    cases h
    exact RR.reti mx_2208 rfl rfl rfl
theorem s_o_call {d : Nat} {S' : St} {r : Int32} (v1 : Int32) (v2 : Int32) (S : St) (h : o_call v1 v2 S = some (r, S')) : RC KO (d + 6) 2208 [.ref 1, .int v1, .int v2] S (some (.int r)) S' := RC.of rfl (s0_o_call v1 v2 S h)
-- NameOrchard pick (I)I
def o_pick (v1 : Int32) (S : St) : Re Int32 :=
  bn (o_sd_canTake 200 v1 S) fun r1 S2 =>
  if r1 = 0 then (
    some ((-1 : Int32), S2))
  else (
    bn (o_keepForUndo S2) fun r3 S4 =>
    oq (rQ S4 1 9) none fun o5 =>
    bn (o_sd_take 200 o5 v1 S4) fun r6 S7 =>
    some (r6, S7))
set_option maxRecDepth 100000 in
theorem s0_o_pick {d : Nat} {S' : St} {r : Int32} (v1 : Int32) (S : St) (h : o_pick v1 S = some (r, S')) : RR KO (d + 5) 2209 0 [(0, .ref 1), (1, .int v1)] [] S (some (.int r)) S' := by
  unfold o_pick at h
  refine RR.runs (pc' := 8) (lc' := [(0, .ref 1), (1, .int v1)]) (st' := [.int v1, .ref 200]) (S1 := S) (nL := 2) (cd := cd_2209) mx_2209 rfl rfl 4 rfl ?_
  obtain ⟨r1, S2, h1, h⟩ := bnE h
  refine RR.callV (b := 200) (as := [.int v1]) (rest := []) (r1 := (some (.int r1))) (S1 := S2) mx_2209 rfl rfl mx_1012 rfl rfl (by decide) (Or.inl rfl) (Nat.le_of_ble_eq_true rfl) (Nat.le_of_ble_eq_true rfl) (RC.deep (by omega) (s_o_sd_canTake (d := d) _ _ _ h1)) ?_
  show RR KO _ 2209 11 [(0, .ref 1), (1, .int v1)] [.int r1] S2 _ _
  refine RR.runs (pc' := icm .ne r1 0 16 14) (lc' := [(0, .ref 1), (1, .int v1)]) (st' := []) (S1 := S2) (nL := 2) (cd := cd_2209) mx_2209 rfl rfl 1 rfl ?_
  rcases ifE h with ⟨c, h⟩ | ⟨c, h⟩
  · refine RR.c_ne (fun _ => ?_) (fun q => absurd c q)
    refine RR.runs (pc' := 15) (lc' := [(0, .ref 1), (1, .int v1)]) (st' := [.int (-1 : Int32)]) (S1 := S2) (nL := 2) (cd := cd_2209) mx_2209 rfl rfl 1 rfl ?_
    cases h
    exact RR.reti mx_2209 rfl rfl rfl
  · refine RR.c_ne (fun q => absurd q c) (fun _ => ?_)
    refine RR.runs (pc' := 17) (lc' := [(0, .ref 1), (1, .int v1)]) (st' := [.ref 1]) (S1 := S2) (nL := 2) (cd := cd_2209) mx_2209 rfl rfl 1 rfl ?_
    obtain ⟨r3, S4, h1, h⟩ := bnE h
    refine RR.callV (b := 1) (as := []) (rest := []) (r1 := none) (S1 := S4) mx_2209 rfl rfl mx_2228 rfl rfl (by decide) (Or.inl rfl) (Nat.le_of_ble_eq_true rfl) (Nat.le_of_ble_eq_true rfl) (RC.deep (by omega) (s_o_keepForUndo (d := d) _ h1)) ?_
    show RR KO _ 2209 20 [(0, .ref 1), (1, .int v1)] [] S4 _ _
    refine RR.runs (pc' := 31) (lc' := [(0, .ref 1), (1, .int v1)]) (st' := [qv (rQ S4 1 9), .ref 200]) (S1 := S4) (nL := 2) (cd := cd_2209) mx_2209 rfl rfl 5 rfl ?_
    rcases oqE h with ⟨e1, h⟩ | ⟨o5, eo5, h⟩
    · cases h
    rw [eo5]
    refine RR.runs (pc' := 32) (lc' := [(0, .ref 1), (1, .int v1)]) (st' := [.int v1, .ref o5, .ref 200]) (S1 := S4) (nL := 2) (cd := cd_2209) mx_2209 rfl rfl 1 rfl ?_
    obtain ⟨r6, S7, h1, h⟩ := bnE h
    refine RR.callV (b := 200) (as := [.ref o5, .int v1]) (rest := []) (r1 := (some (.int r6))) (S1 := S7) mx_2209 rfl rfl mx_1013 rfl rfl (by decide) (Or.inl rfl) (Nat.le_of_ble_eq_true rfl) (Nat.le_of_ble_eq_true rfl) (RC.deep (by omega) (s_o_sd_take (d := d) _ _ _ _ h1)) ?_
    show RR KO _ 2209 35 [(0, .ref 1), (1, .int v1)] [.int r6] S7 _ _
    cases h
    exact RR.reti mx_2209 rfl rfl rfl
theorem s_o_pick {d : Nat} {S' : St} {r : Int32} (v1 : Int32) (S : St) (h : o_pick v1 S = some (r, S')) : RC KO (d + 5) 2209 [.ref 1, .int v1] S (some (.int r)) S' := RC.of rfl (s0_o_pick v1 S h)
