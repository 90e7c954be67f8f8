/-! Methods of the class, lifted (laid by wip/whole/gen/klass.py) -/
-- NameOrchard$Names add (J)V
def o_na_add_32 (S : St) : Re Unit :=
  some ((), S)
set_option maxRecDepth 100000 in
theorem s_o_na_add_32 {d : Nat} {S' : St} {r : Unit} (S : St) (h : o_na_add_32 S = some (r, S')) : RR KO (d + 0) 405 32 [] [] S none S' := by
  unfold o_na_add_32 at h
  cases h
  exact RR.retv mx_405 rfl rfl rfl
def o_na_add (v0 : Nat) (v1 : Int64) (S : St) : Re Unit :=
  if KO.1 v0 = (0, 2) then (
    if 1 ≤ (KO.1 (v0 + 4)).1 ∧ (KO.1 (v0 + 4)).1 < 8 then (
  if (rI S v0 2) < (Int32.ofNat (KO.1 (v0 + 4)).2) then (
            if (KO.1 (v0 + 4)).1 = 4 then (
    if (rI S v0 2) < 0 ∨ (KO.1 (v0 + 4)).2 ≤ (rI S v0 2).toNatClampNeg then none else
    lt' (wJ S (v0 + 4) (rI S v0 2).toNatClampNeg v1) fun S2 =>
        lt' (wI S2 v0 2 (((rI S2 v0 2) + (1 : Int32)))) fun S3 =>
    o_na_add_32 S3) else none)
  else (
    o_na_add_32 S)) else none) else none
set_option maxRecDepth 100000 in
theorem s0_o_na_add {d : Nat} {S' : St} {r : Unit} (v0 : Nat) (v1 : Int64) (S : St) (h : o_na_add v0 v1 S = some (r, S')) : RR KO (d + 0) 405 0 [(0, .ref v0), (1, .long v1)] [] S none S' := by
  unfold o_na_add at h
  refine RR.runs (pc' := 1) (lc' := [(0, .ref v0), (1, .long v1)]) (st' := [.ref v0]) (S1 := S) (nL := 3) (cd := cd_405) mx_405 rfl rfl 1 rfl ?_
  obtain ⟨g1, h⟩ := gpE h
  refine RR.gPo (pc' := 4) (lc' := [(0, .ref v0), (1, .long v1)]) (st' := [.int (rI S v0 2)]) (S1 := S) (nL := 3) (cd := cd_405) mx_405 rfl rfl rfl ⟨g1, by decide, by decide⟩ ?_
  refine RR.runs (pc' := 5) (lc' := [(0, .ref v0), (1, .long v1)]) (st' := [.ref v0, .int (rI S v0 2)]) (S1 := S) (nL := 3) (cd := cd_405) mx_405 rfl rfl 1 rfl ?_
  refine RR.gPo (pc' := 8) (lc' := [(0, .ref v0), (1, .long v1)]) (st' := [.ref (v0 + 4), .int (rI S v0 2)]) (S1 := S) (nL := 3) (cd := cd_405) mx_405 rfl rfl rfl ⟨g1, by decide, by decide⟩ ?_
  obtain ⟨g, h⟩ := gpE h
  refine RR.gP (pc' := 9) (lc' := [(0, .ref v0), (1, .long v1)]) (st' := [.int ((Int32.ofNat (KO.1 (v0 + 4)).2)), .int (rI S v0 2)]) (S1 := S) (nL := 3) (cd := cd_405) mx_405 rfl rfl rfl g ?_
  refine RR.runs (pc' := icm .ge (rI S v0 2) ((Int32.ofNat (KO.1 (v0 + 4)).2)) 32 12) (lc' := [(0, .ref v0), (1, .long v1)]) (st' := []) (S1 := S) (nL := 3) (cd := cd_405) mx_405 rfl rfl 1 rfl ?_
  rcases ifE h with ⟨c, h⟩ | ⟨c, h⟩
  · refine RR.c_ge (fun _ => ?_) (fun q => absurd c q)
    refine RR.runs (pc' := 13) (lc' := [(0, .ref v0), (1, .long v1)]) (st' := [.ref v0]) (S1 := S) (nL := 3) (cd := cd_405) mx_405 rfl rfl 1 rfl ?_
    refine RR.gPo (pc' := 16) (lc' := [(0, .ref v0), (1, .long v1)]) (st' := [.ref (v0 + 4)]) (S1 := S) (nL := 3) (cd := cd_405) mx_405 rfl rfl rfl ⟨g1, by decide, by decide⟩ ?_
    refine RR.runs (pc' := 17) (lc' := [(0, .ref v0), (1, .long v1)]) (st' := [.ref v0, .ref (v0 + 4)]) (S1 := S) (nL := 3) (cd := cd_405) mx_405 rfl rfl 1 rfl ?_
    refine RR.gPo (pc' := 20) (lc' := [(0, .ref v0), (1, .long v1)]) (st' := [.int (rI S v0 2), .ref (v0 + 4)]) (S1 := S) (nL := 3) (cd := cd_405) mx_405 rfl rfl rfl ⟨g1, by decide, by decide⟩ ?_
    refine RR.runs (pc' := 21) (lc' := [(0, .ref v0), (1, .long v1)]) (st' := [.long v1, .int (rI S v0 2), .ref (v0 + 4)]) (S1 := S) (nL := 3) (cd := cd_405) mx_405 rfl rfl 1 rfl ?_
    obtain ⟨gq, h⟩ := gpE h
    obtain ⟨g, h⟩ := gnE h
    refine RR.gPN (c2 := (KO.1 (v0 + 4)).1 = 4) (pc' := 22) (lc' := [(0, .ref v0), (1, .long v1)]) (st' := []) (S1 := (wJ S (v0 + 4) (rI S v0 2).toNatClampNeg v1)) (nL := 3) (cd := cd_405) mx_405 rfl rfl rfl gq g ?_
    obtain ⟨S2, eS2, h⟩ := ltE h
    rw [← eS2]
    refine RR.runs (pc' := 24) (lc' := [(0, .ref v0), (1, .long v1)]) (st' := [.ref v0, .ref v0]) (S1 := S2) (nL := 3) (cd := cd_405) mx_405 rfl rfl 2 rfl ?_
    refine RR.gPo (pc' := 27) (lc' := [(0, .ref v0), (1, .long v1)]) (st' := [.int (rI S2 v0 2), .ref v0]) (S1 := S2) (nL := 3) (cd := cd_405) mx_405 rfl rfl rfl ⟨g1, by decide, by decide⟩ ?_
    refine RR.runs (pc' := 29) (lc' := [(0, .ref v0), (1, .long v1)]) (st' := [.int (((rI S2 v0 2) + (1 : Int32))), .ref v0]) (S1 := S2) (nL := 3) (cd := cd_405) mx_405 rfl rfl 2 rfl ?_
    refine RR.gP (pc' := 32) (lc' := [(0, .ref v0), (1, .long v1)]) (st' := []) (S1 := (wI S2 v0 2 (((rI S2 v0 2) + (1 : Int32))))) (nL := 3) (cd := cd_405) mx_405 rfl rfl rfl ⟨g1, by decide, rfl, by decide⟩ ?_
    obtain ⟨S3, eS3, h⟩ := ltE h
    rw [← eS3]
    refine RR.weak [] trivial ?_
    exact s_o_na_add_32 _ h
  · refine RR.c_ge (fun q => absurd q c) (fun _ => ?_)
    refine RR.weak [] trivial ?_
    exact s_o_na_add_32 _ h
theorem s_o_na_add {d : Nat} {S' : St} {r : Unit} (v0 : Nat) (v1 : Int64) (S : St) (h : o_na_add v0 v1 S = some (r, S')) : RC KO (d + 0) 405 [.ref v0, .long v1] S none S' := RC.of rfl (s0_o_na_add v0 v1 S h)
-- NameOrchard$Names find (J)I
def o_na_find_20 (v3 : Int32) (S : St) : Re Int32 :=
  some (v3, S)
set_option maxRecDepth 100000 in
theorem s_o_na_find_20 {d : Nat} {S' : St} {r : Int32} (v3 : Int32) (S : St) (h : o_na_find_20 v3 S = some (r, S')) : RR KO (d + 1) 406 20 [(3, .int v3)] [] S (some (.int r)) S' := by
  unfold o_na_find_20 at h
  refine RR.runs (pc' := 21) (lc' := [(3, .int v3)]) (st' := [.int v3]) (S1 := S) (nL := 4) (cd := cd_406) mx_406 rfl rfl 1 rfl ?_
  cases h
  exact RR.reti mx_406 rfl rfl rfl
def o_na_find_28 (S : St) : Re Int32 :=
  some ((-1 : Int32), S)
set_option maxRecDepth 100000 in
theorem s_o_na_find_28 {d : Nat} {S' : St} {r : Int32} (S : St) (h : o_na_find_28 S = some (r, S')) : RR KO (d + 1) 406 28 [] [] S (some (.int r)) S' := by
  unfold o_na_find_28 at h
  refine RR.runs (pc' := 29) (lc' := []) (st' := [.int (-1 : Int32)]) (S1 := S) (nL := 4) (cd := cd_406) mx_406 rfl rfl 1 rfl ?_
  cases h
  exact RR.reti mx_406 rfl rfl rfl
def o_na_find_2 : Nat → Nat → Int64 → Int32 → St → Re Int32
  | 0, _, _, _, _ => none
  | n + 1, v0, v1, v3, S =>
  if KO.1 v0 = (0, 2) then (
  if v3 < (rI S v0 2) then (
    bn (o_na_at v0 v3 S) fun r2 S3 =>
    if (lg_cmp r2 v1) = 0 then (
      o_na_find_20 v3 S3)
    else (
      lt' ((v3 + (1 : Int32)) : Int32) fun x4 =>
      o_na_find_2 n v0 v1 x4 S3))
  else (
    o_na_find_28 S)) else none
set_option maxRecDepth 100000 in
theorem s_o_na_find_2 {d : Nat} {S' : St} {r : Int32} : ∀ (n : Nat) (v0 : Nat) (v1 : Int64) (v3 : Int32) (S : St), o_na_find_2 n v0 v1 v3 S = some (r, S') → RR KO (d + 1) 406 2 [(0, .ref v0), (1, .long v1), (3, .int v3)] [] S (some (.int r)) S' := by
  intro n
  induction n with
  | zero => intro v0 v1 v3 S h; simp only [o_na_find_2] at h; cases h
  | succ n ih =>
    intro v0 v1 v3 S h
    simp only [o_na_find_2] at h
    refine RR.runs (pc' := 4) (lc' := [(0, .ref v0), (1, .long v1), (3, .int v3)]) (st' := [.ref v0, .int v3]) (S1 := S) (nL := 4) (cd := cd_406) mx_406 rfl rfl 2 rfl ?_
    obtain ⟨g1, h⟩ := gpE h
    refine RR.gPo (pc' := 7) (lc' := [(0, .ref v0), (1, .long v1), (3, .int v3)]) (st' := [.int (rI S v0 2), .int v3]) (S1 := S) (nL := 4) (cd := cd_406) mx_406 rfl rfl rfl ⟨g1, by decide, by decide⟩ ?_
    refine RR.runs (pc' := icm .ge v3 (rI S v0 2) 28 10) (lc' := [(0, .ref v0), (1, .long v1), (3, .int v3)]) (st' := []) (S1 := S) (nL := 4) (cd := cd_406) mx_406 rfl rfl 1 rfl ?_
    rcases ifE h with ⟨c, h⟩ | ⟨c, h⟩
    · refine RR.c_ge (fun _ => ?_) (fun q => absurd c q)
      refine RR.runs (pc' := 12) (lc' := [(0, .ref v0), (1, .long v1), (3, .int v3)]) (st' := [.int v3, .ref v0]) (S1 := S) (nL := 4) (cd := cd_406) mx_406 rfl rfl 2 rfl ?_
      obtain ⟨r2, S3, h1, h⟩ := bnE h
      refine RR.callV (b := v0) (as := [.int v3]) (rest := []) (r1 := (some (.long r2))) (S1 := S3) mx_406 rfl rfl mx_404 rfl rfl (by decide) (Or.inl g1) (Nat.le_of_ble_eq_true rfl) (Nat.le_of_ble_eq_true rfl) (RC.deep (by omega) (s_o_na_at (d := d) _ _ _ h1)) ?_
      show RR KO _ 406 15 [(0, .ref v0), (1, .long v1), (3, .int v3)] [.long r2] S3 _ _
      refine RR.runs (pc' := icm .ne (lg_cmp r2 v1) 0 22 20) (lc' := [(0, .ref v0), (1, .long v1), (3, .int v3)]) (st' := []) (S1 := S3) (nL := 4) (cd := cd_406) mx_406 rfl rfl 3 rfl ?_
      rcases ifE h with ⟨c, h⟩ | ⟨c, h⟩
      · refine RR.c_ne (fun _ => ?_) (fun q => absurd c q)
        refine RR.weak [(3, .int v3)] ⟨rfl, trivial⟩ ?_
        exact s_o_na_find_20 _ _ h
      · refine RR.c_ne (fun q => absurd q c) (fun _ => ?_)
        refine RR.runs (pc' := 25) (lc' := [(3, .int ((v3 + (1 : Int32)))), (0, .ref v0), (1, .long v1)]) (st' := []) (S1 := S3) (nL := 4) (cd := cd_406) mx_406 rfl rfl 1 rfl ?_
        obtain ⟨x4, ex4, h⟩ := ltE h
        rw [← ex4]
        refine RR.runs (pc' := 2) (lc' := [(3, .int x4), (0, .ref v0), (1, .long v1)]) (st' := []) (S1 := S3) (nL := 4) (cd := cd_406) mx_406 rfl rfl 1 rfl ?_
        refine RR.weak [(0, .ref v0), (1, .long v1), (3, .int x4)] ⟨rfl, rfl, rfl, trivial⟩ ?_
        exact ih _ _ _ _ h
    · refine RR.c_ge (fun q => absurd q c) (fun _ => ?_)
      refine RR.weak [] trivial ?_
      exact s_o_na_find_28 _ h
def o_na_find (v0 : Nat) (v1 : Int64) (S : St) : Re Int32 :=
  o_na_find_2 FU v0 v1 (0 : Int32) S
set_option maxRecDepth 100000 in
theorem s0_o_na_find {d : Nat} {S' : St} {r : Int32} (v0 : Nat) (v1 : Int64) (S : St) (h : o_na_find v0 v1 S = some (r, S')) : RR KO (d + 1) 406 0 [(0, .ref v0), (1, .long v1)] [] S (some (.int r)) S' := by
  unfold o_na_find at h
  refine RR.runs (pc' := 2) (lc' := [(3, .int (0 : Int32)), (0, .ref v0), (1, .long v1)]) (st' := []) (S1 := S) (nL := 4) (cd := cd_406) mx_406 rfl rfl 2 rfl ?_
  refine RR.weak [(0, .ref v0), (1, .long v1), (3, .int (0 : Int32))] ⟨rfl, rfl, rfl, trivial⟩ ?_
  exact s_o_na_find_2 _ _ _ _ _ h
theorem s_o_na_find {d : Nat} {S' : St} {r : Int32} (v0 : Nat) (v1 : Int64) (S : St) (h : o_na_find v0 v1 S = some (r, S')) : RC KO (d + 1) 406 [.ref v0, .long v1] S (some (.int r)) S' := RC.of rfl (s0_o_na_find v0 v1 S h)
-- NameOrchard$Names letter (II)I
def o_na_letter_28 (p0 : Int32) (S : St) : Re Int32 :=
  some (p0, S)
set_option maxRecDepth 100000 in
theorem s_o_na_letter_28 {d : Nat} {S' : St} {r : Int32} (p0 : Int32) (S : St) (h : o_na_letter_28 p0 S = some (r, S')) : RR KO (d + 1) 407 28 [] [.int p0] S (some (.int r)) S' := by
  unfold o_na_letter_28 at h
  cases h
  exact RR.reti mx_407 rfl rfl rfl
def o_na_letter_27 (S : St) : Re Int32 :=
  o_na_letter_28 (0 : Int32) S
set_option maxRecDepth 100000 in
theorem s_o_na_letter_27 {d : Nat} {S' : St} {r : Int32} (S : St) (h : o_na_letter_27 S = some (r, S')) : RR KO (d + 1) 407 27 [] [] S (some (.int r)) S' := by
  unfold o_na_letter_27 at h
  refine RR.runs (pc' := 28) (lc' := []) (st' := [.int (0 : Int32)]) (S1 := S) (nL := 3) (cd := cd_407) mx_407 rfl rfl 1 rfl ?_
  refine RR.weak [] trivial ?_
  exact s_o_na_letter_28 _ _ h
def o_na_letter (v0 : Nat) (v1 : Int32) (v2 : Int32) (S : St) : Re Int32 :=
  if v2 < 0 then (
    o_na_letter_27 S)
  else (
    if v2 < (8 : Int32) then (
      if KO.1 v0 = (0, 2) then (
bn (o_na_at v0 v1 S) fun r2 S3 =>
      o_na_letter_28 ((((r2 >>> (((5 : Int32) * v2).toInt64 &&& 63)) &&& (31 : Int64))).toInt32) S3) else none)
    else (
      o_na_letter_27 S))
set_option maxRecDepth 100000 in
theorem s0_o_na_letter {d : Nat} {S' : St} {r : Int32} (v0 : Nat) (v1 : Int32) (v2 : Int32) (S : St) (h : o_na_letter v0 v1 v2 S = some (r, S')) : RR KO (d + 1) 407 0 [(0, .ref v0), (1, .int v1), (2, .int v2)] [] S (some (.int r)) S' := by
  unfold o_na_letter at h
  refine RR.runs (pc' := icm .lt v2 0 27 4) (lc' := [(0, .ref v0), (1, .int v1), (2, .int v2)]) (st' := []) (S1 := S) (nL := 3) (cd := cd_407) mx_407 rfl rfl 2 rfl ?_
  rcases ifE h with ⟨c, h⟩ | ⟨c, h⟩
  · refine RR.c_lt (fun _ => ?_) (fun q => absurd c q)
    refine RR.weak [] trivial ?_
    exact s_o_na_letter_27 _ h
  · refine RR.c_lt (fun q => absurd q c) (fun _ => ?_)
    refine RR.runs (pc' := icm .ge v2 (8 : Int32) 27 10) (lc' := [(0, .ref v0), (1, .int v1), (2, .int v2)]) (st' := []) (S1 := S) (nL := 3) (cd := cd_407) mx_407 rfl rfl 3 rfl ?_
    rcases ifE h with ⟨c, h⟩ | ⟨c, h⟩
    · refine RR.c_ge (fun _ => ?_) (fun q => absurd c q)
      refine RR.runs (pc' := 12) (lc' := [(0, .ref v0), (1, .int v1), (2, .int v2)]) (st' := [.int v1, .ref v0]) (S1 := S) (nL := 3) (cd := cd_407) mx_407 rfl rfl 2 rfl ?_
      obtain ⟨g1, h⟩ := gpE h
      obtain ⟨r2, S3, h1, h⟩ := bnE h
      refine RR.callV (b := v0) (as := [.int v1]) (rest := []) (r1 := (some (.long r2))) (S1 := S3) mx_407 rfl rfl mx_404 rfl rfl (by decide) (Or.inl g1) (Nat.le_of_ble_eq_true rfl) (Nat.le_of_ble_eq_true rfl) (RC.deep (by omega) (s_o_na_at (d := d) _ _ _ h1)) ?_
      show RR KO _ 407 15 [(0, .ref v0), (1, .int v1), (2, .int v2)] [.long r2] S3 _ _
      refine RR.runs (pc' := 28) (lc' := [(0, .ref v0), (1, .int v1), (2, .int v2)]) (st' := [.int ((((r2 >>> (((5 : Int32) * v2).toInt64 &&& 63)) &&& (31 : Int64))).toInt32)]) (S1 := S3) (nL := 3) (cd := cd_407) mx_407 rfl rfl 8 rfl ?_
      refine RR.weak [] trivial ?_
      exact s_o_na_letter_28 _ _ h
    · refine RR.c_ge (fun q => absurd q c) (fun _ => ?_)
      refine RR.weak [] trivial ?_
      exact s_o_na_letter_27 _ h
theorem s_o_na_letter {d : Nat} {S' : St} {r : Int32} (v0 : Nat) (v1 : Int32) (v2 : Int32) (S : St) (h : o_na_letter v0 v1 v2 S = some (r, S')) : RC KO (d + 1) 407 [.ref v0, .int v1, .int v2] S (some (.int r)) S' := RC.of rfl (s0_o_na_letter v0 v1 v2 S h)
-- NameOrchard$Names letters (I)I
def o_na_letters_32 (v4 : Int32) (S : St) : Re Int32 :=
  some (v4, S)
set_option maxRecDepth 100000 in
theorem s_o_na_letters_32 {d : Nat} {S' : St} {r : Int32} (v4 : Int32) (S : St) (h : o_na_letters_32 v4 S = some (r, S')) : RR KO (d + 1) 408 32 [(4, .int v4)] [] S (some (.int r)) S' := by
  unfold o_na_letters_32 at h
  refine RR.runs (pc' := 34) (lc' := [(4, .int v4)]) (st' := [.int v4]) (S1 := S) (nL := 5) (cd := cd_408) mx_408 rfl rfl 1 rfl ?_
  cases h
  exact RR.reti mx_408 rfl rfl rfl
def o_na_letters_9 : Nat → Int64 → Int32 → St → Re Int32
  | 0, _, _, _ => none
  | n + 1, v2, v4, S =>
  if v4 < (8 : Int32) then (
    if (lg_cmp v2 (0 : Int64)) = 0 then (
      o_na_letters_32 v4 S)
    else (
      lt' ((v2 >>> ((5 : Int32).toInt64 &&& 63)) : Int64) fun x1 =>
      lt' ((v4 + (1 : Int32)) : Int32) fun x2 =>
      o_na_letters_9 n x1 x2 S))
  else (
    o_na_letters_32 v4 S)
set_option maxRecDepth 100000 in
theorem s_o_na_letters_9 {d : Nat} {S' : St} {r : Int32} : ∀ (n : Nat) (v2 : Int64) (v4 : Int32) (S : St), o_na_letters_9 n v2 v4 S = some (r, S') → RR KO (d + 1) 408 9 [(2, .long v2), (4, .int v4)] [] S (some (.int r)) S' := by
  intro n
  induction n with
  | zero => intro v2 v4 S h; simp only [o_na_letters_9] at h; cases h
  | succ n ih =>
    intro v2 v4 S h
    simp only [o_na_letters_9] at h
    refine RR.runs (pc' := icm .ge v4 (8 : Int32) 32 16) (lc' := [(2, .long v2), (4, .int v4)]) (st' := []) (S1 := S) (nL := 5) (cd := cd_408) mx_408 rfl rfl 3 rfl ?_
    rcases ifE h with ⟨c, h⟩ | ⟨c, h⟩
    · refine RR.c_ge (fun _ => ?_) (fun q => absurd c q)
      refine RR.runs (pc' := icm .eq ((lg_cmp v2 (0 : Int64))) 0 32 22) (lc' := [(2, .long v2), (4, .int v4)]) (st' := []) (S1 := S) (nL := 5) (cd := cd_408) mx_408 rfl rfl 4 rfl ?_
      rcases ifE h with ⟨c, h⟩ | ⟨c, h⟩
      · refine RR.c_eq (fun _ => ?_) (fun q => absurd c q)
        refine RR.weak [(4, .int v4)] ⟨rfl, trivial⟩ ?_
        exact s_o_na_letters_32 _ _ h
      · refine RR.c_eq (fun q => absurd q c) (fun _ => ?_)
        refine RR.runs (pc' := 26) (lc' := [(2, .long ((v2 >>> ((5 : Int32).toInt64 &&& 63)))), (4, .int v4)]) (st' := []) (S1 := S) (nL := 5) (cd := cd_408) mx_408 rfl rfl 4 rfl ?_
        obtain ⟨x1, ex1, h⟩ := ltE h
        rw [← ex1]
        refine RR.runs (pc' := 29) (lc' := [(4, .int ((v4 + (1 : Int32)))), (2, .long x1)]) (st' := []) (S1 := S) (nL := 5) (cd := cd_408) mx_408 rfl rfl 1 rfl ?_
        obtain ⟨x2, ex2, h⟩ := ltE h
        rw [← ex2]
        refine RR.runs (pc' := 9) (lc' := [(4, .int x2), (2, .long x1)]) (st' := []) (S1 := S) (nL := 5) (cd := cd_408) mx_408 rfl rfl 1 rfl ?_
        refine RR.weak [(2, .long x1), (4, .int x2)] ⟨rfl, rfl, trivial⟩ ?_
        exact ih _ _ _ h
    · refine RR.c_ge (fun q => absurd q c) (fun _ => ?_)
      refine RR.weak [(4, .int v4)] ⟨rfl, trivial⟩ ?_
      exact s_o_na_letters_32 _ _ h
def o_na_letters (v0 : Nat) (v1 : Int32) (S : St) : Re Int32 :=
  if KO.1 v0 = (0, 2) then (
bn (o_na_at v0 v1 S) fun r2 S3 =>
  o_na_letters_9 FU r2 (0 : Int32) S3) else none
set_option maxRecDepth 100000 in
theorem s0_o_na_letters {d : Nat} {S' : St} {r : Int32} (v0 : Nat) (v1 : Int32) (S : St) (h : o_na_letters v0 v1 S = some (r, S')) : RR KO (d + 1) 408 0 [(0, .ref v0), (1, .int v1)] [] S (some (.int r)) S' := by
  unfold o_na_letters at h
  refine RR.runs (pc' := 2) (lc' := [(0, .ref v0), (1, .int v1)]) (st' := [.int v1, .ref v0]) (S1 := S) (nL := 5) (cd := cd_408) mx_408 rfl rfl 2 rfl ?_
  obtain ⟨g1, h⟩ := gpE h
  obtain ⟨r2, S3, h1, h⟩ := bnE h
  refine RR.callV (b := v0) (as := [.int v1]) (rest := []) (r1 := (some (.long r2))) (S1 := S3) mx_408 rfl rfl mx_404 rfl rfl (by decide) (Or.inl g1) (Nat.le_of_ble_eq_true rfl) (Nat.le_of_ble_eq_true rfl) (RC.deep (by omega) (s_o_na_at (d := d) _ _ _ h1)) ?_
  show RR KO _ 408 5 [(0, .ref v0), (1, .int v1)] [.long r2] S3 _ _
  refine RR.runs (pc' := 9) (lc' := [(4, .int (0 : Int32)), (2, .long r2), (0, .ref v0), (1, .int v1)]) (st' := []) (S1 := S3) (nL := 5) (cd := cd_408) mx_408 rfl rfl 3 rfl ?_
  refine RR.weak [(2, .long r2), (4, .int (0 : Int32))] ⟨rfl, rfl, trivial⟩ ?_
  exact s_o_na_letters_9 _ _ _ _ h
theorem s_o_na_letters {d : Nat} {S' : St} {r : Int32} (v0 : Nat) (v1 : Int32) (S : St) (h : o_na_letters v0 v1 S = some (r, S')) : RC KO (d + 1) 408 [.ref v0, .int v1] S (some (.int r)) S' := RC.of rfl (s0_o_na_letters v0 v1 S h)
-- NameOrchard$Names holds (II)Z
def o_na_holds_43 (S : St) : Re Int32 :=
  some ((0 : Int32), S)
set_option maxRecDepth 100000 in
theorem s_o_na_holds_43 {d : Nat} {S' : St} {r : Int32} (S : St) (h : o_na_holds_43 S = some (r, S')) : RR KO (d + 1) 409 43 [] [] S (some (.int r)) S' := by
  unfold o_na_holds_43 at h
  refine RR.runs (pc' := 44) (lc' := []) (st' := [.int (0 : Int32)]) (S1 := S) (nL := 6) (cd := cd_409) mx_409 rfl rfl 1 rfl ?_
  cases h
  exact RR.retz mx_409 rfl rfl rfl rfl
def o_na_holds_31 (S : St) : Re Int32 :=
  some ((1 : Int32), S)
set_option maxRecDepth 100000 in
theorem s_o_na_holds_31 {d : Nat} {S' : St} {r : Int32} (S : St) (h : o_na_holds_31 S = some (r, S')) : RR KO (d + 1) 409 31 [] [] S (some (.int r)) S' := by
  unfold o_na_holds_31 at h
  refine RR.runs (pc' := 32) (lc' := []) (st' := [.int (1 : Int32)]) (S1 := S) (nL := 6) (cd := cd_409) mx_409 rfl rfl 1 rfl ?_
  cases h
  exact RR.retz mx_409 rfl rfl rfl rfl
def o_na_holds_9 : Nat → Int32 → Int64 → Int32 → St → Re Int32
  | 0, _, _, _, _ => none
  | n + 1, v2, v3, v5, S =>
  if v5 < (8 : Int32) then (
    if v2 = 0 then (
      o_na_holds_43 S)
    else (
      if (lg_cmp ((v3 &&& (31 : Int64))) v2.toInt64) = 0 then (
        o_na_holds_31 S)
      else (
        lt' ((v3 >>> ((5 : Int32).toInt64 &&& 63)) : Int64) fun x1 =>
        lt' ((v5 + (1 : Int32)) : Int32) fun x2 =>
        o_na_holds_9 n v2 x1 x2 S)))
  else (
    o_na_holds_43 S)
set_option maxRecDepth 100000 in
theorem s_o_na_holds_9 {d : Nat} {S' : St} {r : Int32} : ∀ (n : Nat) (v2 : Int32) (v3 : Int64) (v5 : Int32) (S : St), o_na_holds_9 n v2 v3 v5 S = some (r, S') → RR KO (d + 1) 409 9 [(2, .int v2), (3, .long v3), (5, .int v5)] [] S (some (.int r)) S' := by
  intro n
  induction n with
  | zero => intro v2 v3 v5 S h; simp only [o_na_holds_9] at h; cases h
  | succ n ih =>
    intro v2 v3 v5 S h
    simp only [o_na_holds_9] at h
    refine RR.runs (pc' := icm .ge v5 (8 : Int32) 43 16) (lc' := [(2, .int v2), (3, .long v3), (5, .int v5)]) (st' := []) (S1 := S) (nL := 6) (cd := cd_409) mx_409 rfl rfl 3 rfl ?_
    rcases ifE h with ⟨c, h⟩ | ⟨c, h⟩
    · refine RR.c_ge (fun _ => ?_) (fun q => absurd c q)
      refine RR.runs (pc' := icm .eq v2 0 43 20) (lc' := [(2, .int v2), (3, .long v3), (5, .int v5)]) (st' := []) (S1 := S) (nL := 6) (cd := cd_409) mx_409 rfl rfl 2 rfl ?_
      rcases ifE h with ⟨c, h⟩ | ⟨c, h⟩
      · refine RR.c_eq (fun _ => ?_) (fun q => absurd c q)
        refine RR.weak [] trivial ?_
        exact s_o_na_holds_43 _ h
      · refine RR.c_eq (fun q => absurd q c) (fun _ => ?_)
        refine RR.runs (pc' := icm .ne ((lg_cmp ((v3 &&& (31 : Int64))) v2.toInt64)) 0 33 31) (lc' := [(2, .int v2), (3, .long v3), (5, .int v5)]) (st' := []) (S1 := S) (nL := 6) (cd := cd_409) mx_409 rfl rfl 7 rfl ?_
        rcases ifE h with ⟨c, h⟩ | ⟨c, h⟩
        · refine RR.c_ne (fun _ => ?_) (fun q => absurd c q)
          refine RR.weak [] trivial ?_
          exact s_o_na_holds_31 _ h
        · refine RR.c_ne (fun q => absurd q c) (fun _ => ?_)
          refine RR.runs (pc' := 37) (lc' := [(3, .long ((v3 >>> ((5 : Int32).toInt64 &&& 63)))), (2, .int v2), (5, .int v5)]) (st' := []) (S1 := S) (nL := 6) (cd := cd_409) mx_409 rfl rfl 4 rfl ?_
          obtain ⟨x1, ex1, h⟩ := ltE h
          rw [← ex1]
          refine RR.runs (pc' := 40) (lc' := [(5, .int ((v5 + (1 : Int32)))), (3, .long x1), (2, .int v2)]) (st' := []) (S1 := S) (nL := 6) (cd := cd_409) mx_409 rfl rfl 1 rfl ?_
          obtain ⟨x2, ex2, h⟩ := ltE h
          rw [← ex2]
          refine RR.runs (pc' := 9) (lc' := [(5, .int x2), (3, .long x1), (2, .int v2)]) (st' := []) (S1 := S) (nL := 6) (cd := cd_409) mx_409 rfl rfl 1 rfl ?_
          refine RR.weak [(2, .int v2), (3, .long x1), (5, .int x2)] ⟨rfl, rfl, rfl, trivial⟩ ?_
          exact ih _ _ _ _ h
    · refine RR.c_ge (fun q => absurd q c) (fun _ => ?_)
      refine RR.weak [] trivial ?_
      exact s_o_na_holds_43 _ h
def o_na_holds (v0 : Nat) (v1 : Int32) (v2 : Int32) (S : St) : Re Int32 :=
  if KO.1 v0 = (0, 2) then (
bn (o_na_at v0 v1 S) fun r2 S3 =>
  o_na_holds_9 FU v2 r2 (0 : Int32) S3) else none
set_option maxRecDepth 100000 in
theorem s0_o_na_holds {d : Nat} {S' : St} {r : Int32} (v0 : Nat) (v1 : Int32) (v2 : Int32) (S : St) (h : o_na_holds v0 v1 v2 S = some (r, S')) : RR KO (d + 1) 409 0 [(0, .ref v0), (1, .int v1), (2, .int v2)] [] S (some (.int r)) S' := by
  unfold o_na_holds at h
  refine RR.runs (pc' := 2) (lc' := [(0, .ref v0), (1, .int v1), (2, .int v2)]) (st' := [.int v1, .ref v0]) (S1 := S) (nL := 6) (cd := cd_409) mx_409 rfl rfl 2 rfl ?_
  obtain ⟨g1, h⟩ := gpE h
  obtain ⟨r2, S3, h1, h⟩ := bnE h
  refine RR.callV (b := v0) (as := [.int v1]) (rest := []) (r1 := (some (.long r2))) (S1 := S3) mx_409 rfl rfl mx_404 rfl rfl (by decide) (Or.inl g1) (Nat.le_of_ble_eq_true rfl) (Nat.le_of_ble_eq_true rfl) (RC.deep (by omega) (s_o_na_at (d := d) _ _ _ h1)) ?_
  show RR KO _ 409 5 [(0, .ref v0), (1, .int v1), (2, .int v2)] [.long r2] S3 _ _
  refine RR.runs (pc' := 9) (lc' := [(5, .int (0 : Int32)), (3, .long r2), (0, .ref v0), (1, .int v1), (2, .int v2)]) (st' := []) (S1 := S3) (nL := 6) (cd := cd_409) mx_409 rfl rfl 3 rfl ?_
  refine RR.weak [(2, .int v2), (3, .long r2), (5, .int (0 : Int32))] ⟨rfl, rfl, rfl, trivial⟩ ?_
  exact s_o_na_holds_9 _ _ _ _ _ h
theorem s_o_na_holds {d : Nat} {S' : St} {r : Int32} (v0 : Nat) (v1 : Int32) (v2 : Int32) (S : St) (h : o_na_holds v0 v1 v2 S = some (r, S')) : RC KO (d + 1) 409 [.ref v0, .int v1, .int v2] S (some (.int r)) S' := RC.of rfl (s0_o_na_holds v0 v1 v2 S h)
-- NameOrchard$Names start (II)I
def o_na_start_64 (v7 : Int32) (S : St) : Re Int32 :=
  some (v7, S)
set_option maxRecDepth 100000 in
theorem s_o_na_start_64 {d : Nat} {S' : St} {r : Int32} (v7 : Int32) (S : St) (h : o_na_start_64 v7 S = some (r, S')) : RR KO (d + 1) 410 64 [(7, .int v7)] [] S (some (.int r)) S' := by
  unfold o_na_start_64 at h
  refine RR.runs (pc' := 66) (lc' := [(7, .int v7)]) (st' := [.int v7]) (S1 := S) (nL := 8) (cd := cd_410) mx_410 rfl rfl 1 rfl ?_
  cases h
  exact RR.reti mx_410 rfl rfl rfl
def o_na_start_16 : Nat → Int64 → Int64 → Int32 → St → Re Int32
  | 0, _, _, _, _ => none
  | n + 1, v3, v5, v7, S =>
  if v7 < (8 : Int32) then (
    if (lg_cmp ((v3 &&& (31 : Int64))) (0 : Int64)) = 0 then (
      o_na_start_64 v7 S)
    else (
      if (lg_cmp ((v3 &&& (31 : Int64))) ((v5 &&& (31 : Int64)))) = 0 then (
        lt' ((v3 >>> ((5 : Int32).toInt64 &&& 63)) : Int64) fun x1 =>
        lt' ((v5 >>> ((5 : Int32).toInt64 &&& 63)) : Int64) fun x2 =>
        lt' ((v7 + (1 : Int32)) : Int32) fun x3 =>
        o_na_start_16 n x1 x2 x3 S)
      else (
        o_na_start_64 v7 S)))
  else (
    o_na_start_64 v7 S)
set_option maxRecDepth 100000 in
theorem s_o_na_start_16 {d : Nat} {S' : St} {r : Int32} : ∀ (n : Nat) (v3 : Int64) (v5 : Int64) (v7 : Int32) (S : St), o_na_start_16 n v3 v5 v7 S = some (r, S') → RR KO (d + 1) 410 16 [(3, .long v3), (5, .long v5), (7, .int v7)] [] S (some (.int r)) S' := by
  intro n
  induction n with
  | zero => intro v3 v5 v7 S h; simp only [o_na_start_16] at h; cases h
  | succ n ih =>
    intro v3 v5 v7 S h
    simp only [o_na_start_16] at h
    refine RR.runs (pc' := icm .ge v7 (8 : Int32) 64 23) (lc' := [(3, .long v3), (5, .long v5), (7, .int v7)]) (st' := []) (S1 := S) (nL := 8) (cd := cd_410) mx_410 rfl rfl 3 rfl ?_
    rcases ifE h with ⟨c, h⟩ | ⟨c, h⟩
    · refine RR.c_ge (fun _ => ?_) (fun q => absurd c q)
      refine RR.runs (pc' := icm .eq ((lg_cmp ((v3 &&& (31 : Int64))) (0 : Int64))) 0 64 33) (lc' := [(3, .long v3), (5, .long v5), (7, .int v7)]) (st' := []) (S1 := S) (nL := 8) (cd := cd_410) mx_410 rfl rfl 6 rfl ?_
      rcases ifE h with ⟨c, h⟩ | ⟨c, h⟩
      · refine RR.c_eq (fun _ => ?_) (fun q => absurd c q)
        refine RR.weak [(7, .int v7)] ⟨rfl, trivial⟩ ?_
        exact s_o_na_start_64 _ _ h
      · refine RR.c_eq (fun q => absurd q c) (fun _ => ?_)
        refine RR.runs (pc' := icm .ne ((lg_cmp ((v3 &&& (31 : Int64))) ((v5 &&& (31 : Int64))))) 0 64 48) (lc' := [(3, .long v3), (5, .long v5), (7, .int v7)]) (st' := []) (S1 := S) (nL := 8) (cd := cd_410) mx_410 rfl rfl 8 rfl ?_
        rcases ifE h with ⟨c, h⟩ | ⟨c, h⟩
        · refine RR.c_ne (fun _ => ?_) (fun q => absurd c q)
          refine RR.runs (pc' := 52) (lc' := [(3, .long ((v3 >>> ((5 : Int32).toInt64 &&& 63)))), (5, .long v5), (7, .int v7)]) (st' := []) (S1 := S) (nL := 8) (cd := cd_410) mx_410 rfl rfl 4 rfl ?_
          obtain ⟨x1, ex1, h⟩ := ltE h
          rw [← ex1]
          refine RR.runs (pc' := 58) (lc' := [(5, .long ((v5 >>> ((5 : Int32).toInt64 &&& 63)))), (3, .long x1), (7, .int v7)]) (st' := []) (S1 := S) (nL := 8) (cd := cd_410) mx_410 rfl rfl 4 rfl ?_
          obtain ⟨x2, ex2, h⟩ := ltE h
          rw [← ex2]
          refine RR.runs (pc' := 61) (lc' := [(7, .int ((v7 + (1 : Int32)))), (5, .long x2), (3, .long x1)]) (st' := []) (S1 := S) (nL := 8) (cd := cd_410) mx_410 rfl rfl 1 rfl ?_
          obtain ⟨x3, ex3, h⟩ := ltE h
          rw [← ex3]
          refine RR.runs (pc' := 16) (lc' := [(7, .int x3), (5, .long x2), (3, .long x1)]) (st' := []) (S1 := S) (nL := 8) (cd := cd_410) mx_410 rfl rfl 1 rfl ?_
          refine RR.weak [(3, .long x1), (5, .long x2), (7, .int x3)] ⟨rfl, rfl, rfl, trivial⟩ ?_
          exact ih _ _ _ _ h
        · refine RR.c_ne (fun q => absurd q c) (fun _ => ?_)
          refine RR.weak [(7, .int v7)] ⟨rfl, trivial⟩ ?_
          exact s_o_na_start_64 _ _ h
    · refine RR.c_ge (fun q => absurd q c) (fun _ => ?_)
      refine RR.weak [(7, .int v7)] ⟨rfl, trivial⟩ ?_
      exact s_o_na_start_64 _ _ h
def o_na_start (v0 : Nat) (v1 : Int32) (v2 : Int32) (S : St) : Re Int32 :=
  if KO.1 v0 = (0, 2) then (
bn (o_na_at v0 v1 S) fun r2 S3 =>
  bn (o_na_at v0 v2 S3) fun r4 S5 =>
  o_na_start_16 FU r2 r4 (0 : Int32) S5) else none
set_option maxRecDepth 100000 in
theorem s0_o_na_start {d : Nat} {S' : St} {r : Int32} (v0 : Nat) (v1 : Int32) (v2 : Int32) (S : St) (h : o_na_start v0 v1 v2 S = some (r, S')) : RR KO (d + 1) 410 0 [(0, .ref v0), (1, .int v1), (2, .int v2)] [] S (some (.int r)) S' := by
  unfold o_na_start at h
  refine RR.runs (pc' := 2) (lc' := [(0, .ref v0), (1, .int v1), (2, .int v2)]) (st' := [.int v1, .ref v0]) (S1 := S) (nL := 8) (cd := cd_410) mx_410 rfl rfl 2 rfl ?_
  obtain ⟨g1, h⟩ := gpE h
  obtain ⟨r2, S3, h1, h⟩ := bnE h
  refine RR.callV (b := v0) (as := [.int v1]) (rest := []) (r1 := (some (.long r2))) (S1 := S3) mx_410 rfl rfl mx_404 rfl rfl (by decide) (Or.inl g1) (Nat.le_of_ble_eq_true rfl) (Nat.le_of_ble_eq_true rfl) (RC.deep (by omega) (s_o_na_at (d := d) _ _ _ h1)) ?_
  show RR KO _ 410 5 [(0, .ref v0), (1, .int v1), (2, .int v2)] [.long r2] S3 _ _
  refine RR.runs (pc' := 8) (lc' := [(3, .long r2), (0, .ref v0), (1, .int v1), (2, .int v2)]) (st' := [.int v2, .ref v0]) (S1 := S3) (nL := 8) (cd := cd_410) mx_410 rfl rfl 3 rfl ?_
  obtain ⟨r4, S5, h1, h⟩ := bnE h
  refine RR.callV (b := v0) (as := [.int v2]) (rest := []) (r1 := (some (.long r4))) (S1 := S5) mx_410 rfl rfl mx_404 rfl rfl (by decide) (Or.inl g1) (Nat.le_of_ble_eq_true rfl) (Nat.le_of_ble_eq_true rfl) (RC.deep (by omega) (s_o_na_at (d := d) _ _ _ h1)) ?_
  show RR KO _ 410 11 [(3, .long r2), (0, .ref v0), (1, .int v1), (2, .int v2)] [.long r4] S5 _ _
  refine RR.runs (pc' := 16) (lc' := [(7, .int (0 : Int32)), (5, .long r4), (3, .long r2), (0, .ref v0), (1, .int v1), (2, .int v2)]) (st' := []) (S1 := S5) (nL := 8) (cd := cd_410) mx_410 rfl rfl 3 rfl ?_
  refine RR.weak [(3, .long r2), (5, .long r4), (7, .int (0 : Int32))] ⟨rfl, rfl, rfl, trivial⟩ ?_
  exact s_o_na_start_16 _ _ _ _ _ h
theorem s_o_na_start {d : Nat} {S' : St} {r : Int32} (v0 : Nat) (v1 : Int32) (v2 : Int32) (S : St) (h : o_na_start v0 v1 v2 S = some (r, S')) : RC KO (d + 1) 410 [.ref v0, .int v1, .int v2] S (some (.int r)) S' := RC.of rfl (s0_o_na_start v0 v1 v2 S h)
-- NameOrchard$Names rhyme (II)I
def o_na_rhyme_58 (v5 : Int32) (S : St) : Re Int32 :=
  some (v5, S)
set_option maxRecDepth 100000 in
theorem s_o_na_rhyme_58 {d : Nat} {S' : St} {r : Int32} (v5 : Int32) (S : St) (h : o_na_rhyme_58 v5 S = some (r, S')) : RR KO (d + 2) 411 58 [(5, .int v5)] [] S (some (.int r)) S' := by
  unfold o_na_rhyme_58 at h
  refine RR.runs (pc' := 60) (lc' := [(5, .int v5)]) (st' := [.int v5]) (S1 := S) (nL := 6) (cd := cd_411) mx_411 rfl rfl 1 rfl ?_
  cases h
  exact RR.reti mx_411 rfl rfl rfl
def o_na_rhyme_22 : Nat → Nat → Int32 → Int32 → Int32 → Int32 → Int32 → St → Re Int32
  | 0, _, _, _, _, _, _, _ => none
  | n + 1, v0, v1, v2, v3, v4, v5, S =>
  if v3 < v5 then (
    o_na_rhyme_58 v5 S)
  else (
    if KO.1 v0 = (0, 2) then (
bn (o_na_letter v0 v1 (v3 - v5) S) fun r2 S3 =>
    bn (o_na_letter v0 v2 (((v3 - v5) + v4)) S3) fun r4 S5 =>
    if r2 = r4 then (
      lt' ((v5 + (1 : Int32)) : Int32) fun x6 =>
      o_na_rhyme_22 n v0 v1 v2 v3 v4 x6 S5)
    else (
      o_na_rhyme_58 v5 S5)) else none)
set_option maxRecDepth 100000 in
theorem s_o_na_rhyme_22 {d : Nat} {S' : St} {r : Int32} : ∀ (n : Nat) (v0 : Nat) (v1 : Int32) (v2 : Int32) (v3 : Int32) (v4 : Int32) (v5 : Int32) (S : St), o_na_rhyme_22 n v0 v1 v2 v3 v4 v5 S = some (r, S') → RR KO (d + 2) 411 22 [(0, .ref v0), (1, .int v1), (2, .int v2), (3, .int v3), (4, .int v4), (5, .int v5)] [] S (some (.int r)) S' := by
  intro n
  induction n with
  | zero => intro v0 v1 v2 v3 v4 v5 S h; simp only [o_na_rhyme_22] at h; cases h
  | succ n ih =>
    intro v0 v1 v2 v3 v4 v5 S h
    simp only [o_na_rhyme_22] at h
    refine RR.runs (pc' := icm .gt v5 v3 58 28) (lc' := [(0, .ref v0), (1, .int v1), (2, .int v2), (3, .int v3), (4, .int v4), (5, .int v5)]) (st' := []) (S1 := S) (nL := 6) (cd := cd_411) mx_411 rfl rfl 3 rfl ?_
    rcases ifE h with ⟨c, h⟩ | ⟨c, h⟩
    · refine RR.c_gt (fun _ => ?_) (fun q => absurd c q)
      refine RR.weak [(5, .int v5)] ⟨rfl, trivial⟩ ?_
      exact s_o_na_rhyme_58 _ _ h
    · refine RR.c_gt (fun q => absurd q c) (fun _ => ?_)
      refine RR.runs (pc' := 34) (lc' := [(0, .ref v0), (1, .int v1), (2, .int v2), (3, .int v3), (4, .int v4), (5, .int v5)]) (st' := [.int (v3 - v5), .int v1, .ref v0]) (S1 := S) (nL := 6) (cd := cd_411) mx_411 rfl rfl 5 rfl ?_
      obtain ⟨g1, h⟩ := gpE h
      obtain ⟨r2, S3, h1, h⟩ := bnE h
      refine RR.callV (b := v0) (as := [.int v1, .int (v3 - v5)]) (rest := []) (r1 := (some (.int r2))) (S1 := S3) mx_411 rfl rfl mx_407 rfl rfl (by decide) (Or.inl g1) (Nat.le_of_ble_eq_true rfl) (Nat.le_of_ble_eq_true rfl) (RC.deep (by omega) (s_o_na_letter (d := d) _ _ _ _ h1)) ?_
      show RR KO _ 411 37 [(0, .ref v0), (1, .int v1), (2, .int v2), (3, .int v3), (4, .int v4), (5, .int v5)] [.int r2] S3 _ _
      refine RR.runs (pc' := 46) (lc' := [(0, .ref v0), (1, .int v1), (2, .int v2), (3, .int v3), (4, .int v4), (5, .int v5)]) (st' := [.int (((v3 - v5) + v4)), .int v2, .ref v0, .int r2]) (S1 := S3) (nL := 6) (cd := cd_411) mx_411 rfl rfl 7 rfl ?_
      obtain ⟨r4, S5, h1, h⟩ := bnE h
      refine RR.callV (b := v0) (as := [.int v2, .int (((v3 - v5) + v4))]) (rest := [.int r2]) (r1 := (some (.int r4))) (S1 := S5) mx_411 rfl rfl mx_407 rfl rfl (by decide) (Or.inl g1) (Nat.le_of_ble_eq_true rfl) (Nat.le_of_ble_eq_true rfl) (RC.deep (by omega) (s_o_na_letter (d := d) _ _ _ _ h1)) ?_
      show RR KO _ 411 49 [(0, .ref v0), (1, .int v1), (2, .int v2), (3, .int v3), (4, .int v4), (5, .int v5)] [.int r4, .int r2] S5 _ _
      refine RR.runs (pc' := icm .ne r2 r4 58 52) (lc' := [(0, .ref v0), (1, .int v1), (2, .int v2), (3, .int v3), (4, .int v4), (5, .int v5)]) (st' := []) (S1 := S5) (nL := 6) (cd := cd_411) mx_411 rfl rfl 1 rfl ?_
      rcases ifE h with ⟨c, h⟩ | ⟨c, h⟩
      · refine RR.c_ne (fun _ => ?_) (fun q => absurd c q)
        refine RR.runs (pc' := 55) (lc' := [(5, .int ((v5 + (1 : Int32)))), (0, .ref v0), (1, .int v1), (2, .int v2), (3, .int v3), (4, .int v4)]) (st' := []) (S1 := S5) (nL := 6) (cd := cd_411) mx_411 rfl rfl 1 rfl ?_
        obtain ⟨x6, ex6, h⟩ := ltE h
        rw [← ex6]
        refine RR.runs (pc' := 22) (lc' := [(5, .int x6), (0, .ref v0), (1, .int v1), (2, .int v2), (3, .int v3), (4, .int v4)]) (st' := []) (S1 := S5) (nL := 6) (cd := cd_411) mx_411 rfl rfl 1 rfl ?_
        refine RR.weak [(0, .ref v0), (1, .int v1), (2, .int v2), (3, .int v3), (4, .int v4), (5, .int x6)] ⟨rfl, rfl, rfl, rfl, rfl, rfl, trivial⟩ ?_
        exact ih _ _ _ _ _ _ _ h
      · refine RR.c_ne (fun q => absurd q c) (fun _ => ?_)
        refine RR.weak [(5, .int v5)] ⟨rfl, trivial⟩ ?_
        exact s_o_na_rhyme_58 _ _ h
def o_na_rhyme (v0 : Nat) (v1 : Int32) (v2 : Int32) (S : St) : Re Int32 :=
  if KO.1 v0 = (0, 2) then (
bn (o_na_letters v0 v1 S) fun r2 S3 =>
  lt' ((r2 - (1 : Int32)) : Int32) fun x4 =>
  bn (o_na_letters v0 v2 S3) fun r5 S6 =>
  lt' (((r5 - (1 : Int32)) - x4) : Int32) fun x7 =>
  o_na_rhyme_22 FU v0 v1 v2 x4 x7 (0 : Int32) S6) else none
set_option maxRecDepth 100000 in
theorem s0_o_na_rhyme {d : Nat} {S' : St} {r : Int32} (v0 : Nat) (v1 : Int32) (v2 : Int32) (S : St) (h : o_na_rhyme v0 v1 v2 S = some (r, S')) : RR KO (d + 2) 411 0 [(0, .ref v0), (1, .int v1), (2, .int v2)] [] S (some (.int r)) S' := by
  unfold o_na_rhyme at h
  refine RR.runs (pc' := 2) (lc' := [(0, .ref v0), (1, .int v1), (2, .int v2)]) (st' := [.int v1, .ref v0]) (S1 := S) (nL := 6) (cd := cd_411) mx_411 rfl rfl 2 rfl ?_
  obtain ⟨g1, h⟩ := gpE h
  obtain ⟨r2, S3, h1, h⟩ := bnE h
  refine RR.callV (b := v0) (as := [.int v1]) (rest := []) (r1 := (some (.int r2))) (S1 := S3) mx_411 rfl rfl mx_408 rfl rfl (by decide) (Or.inl g1) (Nat.le_of_ble_eq_true rfl) (Nat.le_of_ble_eq_true rfl) (RC.deep (by omega) (s_o_na_letters (d := d) _ _ _ h1)) ?_
  show RR KO _ 411 5 [(0, .ref v0), (1, .int v1), (2, .int v2)] [.int r2] S3 _ _
  refine RR.runs (pc' := 8) (lc' := [(3, .int ((r2 - (1 : Int32)))), (0, .ref v0), (1, .int v1), (2, .int v2)]) (st' := []) (S1 := S3) (nL := 6) (cd := cd_411) mx_411 rfl rfl 3 rfl ?_
  obtain ⟨x4, ex4, h⟩ := ltE h
  rw [← ex4]
  refine RR.runs (pc' := 10) (lc' := [(3, .int x4), (0, .ref v0), (1, .int v1), (2, .int v2)]) (st' := [.int v2, .ref v0]) (S1 := S3) (nL := 6) (cd := cd_411) mx_411 rfl rfl 2 rfl ?_
  obtain ⟨r5, S6, h1, h⟩ := bnE h
  refine RR.callV (b := v0) (as := [.int v2]) (rest := []) (r1 := (some (.int r5))) (S1 := S6) mx_411 rfl rfl mx_408 rfl rfl (by decide) (Or.inl g1) (Nat.le_of_ble_eq_true rfl) (Nat.le_of_ble_eq_true rfl) (RC.deep (by omega) (s_o_na_letters (d := d) _ _ _ h1)) ?_
  show RR KO _ 411 13 [(3, .int x4), (0, .ref v0), (1, .int v1), (2, .int v2)] [.int r5] S6 _ _
  refine RR.runs (pc' := 19) (lc' := [(4, .int (((r5 - (1 : Int32)) - x4))), (3, .int x4), (0, .ref v0), (1, .int v1), (2, .int v2)]) (st' := []) (S1 := S6) (nL := 6) (cd := cd_411) mx_411 rfl rfl 5 rfl ?_
  obtain ⟨x7, ex7, h⟩ := ltE h
  rw [← ex7]
  refine RR.runs (pc' := 22) (lc' := [(5, .int (0 : Int32)), (4, .int x7), (3, .int x4), (0, .ref v0), (1, .int v1), (2, .int v2)]) (st' := []) (S1 := S6) (nL := 6) (cd := cd_411) mx_411 rfl rfl 2 rfl ?_
  refine RR.weak [(0, .ref v0), (1, .int v1), (2, .int v2), (3, .int x4), (4, .int x7), (5, .int (0 : Int32))] ⟨rfl, rfl, rfl, rfl, rfl, rfl, trivial⟩ ?_
  exact s_o_na_rhyme_22 _ _ _ _ _ _ _ _ h
theorem s_o_na_rhyme {d : Nat} {S' : St} {r : Int32} (v0 : Nat) (v1 : Int32) (v2 : Int32) (S : St) (h : o_na_rhyme v0 v1 v2 S = some (r, S')) : RC KO (d + 2) 411 [.ref v0, .int v1, .int v2] S (some (.int r)) S' := RC.of rfl (s0_o_na_rhyme v0 v1 v2 S h)
-- java/lang/Math min (II)I
def o_j_min_10 (p0 : Int32) (S : St) : Re Int32 :=
  some (p0, S)
set_option maxRecDepth 100000 in
theorem s_o_j_min_10 {d : Nat} {S' : St} {r : Int32} (p0 : Int32) (S : St) (h : o_j_min_10 p0 S = some (r, S')) : RR KO (d + 0) 2600 10 [] [.int p0] S (some (.int r)) S' := by
  unfold o_j_min_10 at h
  cases h
  exact RR.reti mx_2600 rfl rfl rfl
def o_j_min (v0 : Int32) (v1 : Int32) (S : St) : Re Int32 :=
  if v1 < v0 then (
    o_j_min_10 v1 S)
  else (
    o_j_min_10 v0 S)
set_option maxRecDepth 100000 in
theorem s0_o_j_min {d : Nat} {S' : St} {r : Int32} (v0 : Int32) (v1 : Int32) (S : St) (h : o_j_min v0 v1 S = some (r, S')) : RR KO (d + 0) 2600 0 [(0, .int v0), (1, .int v1)] [] S (some (.int r)) S' := by
  unfold o_j_min at h
  refine RR.runs (pc' := icm .gt v0 v1 9 5) (lc' := [(0, .int v0), (1, .int v1)]) (st' := []) (S1 := S) (nL := 2) (cd := cd_2600) mx_2600 rfl rfl 3 rfl ?_
  rcases ifE h with ⟨c, h⟩ | ⟨c, h⟩
  · refine RR.c_gt (fun _ => ?_) (fun q => absurd c q)
    refine RR.runs (pc' := 10) (lc' := [(0, .int v0), (1, .int v1)]) (st' := [.int v1]) (S1 := S) (nL := 2) (cd := cd_2600) mx_2600 rfl rfl 1 rfl ?_
    refine RR.weak [] trivial ?_
    exact s_o_j_min_10 _ _ h
  · refine RR.c_gt (fun q => absurd q c) (fun _ => ?_)
    refine RR.runs (pc' := 10) (lc' := [(0, .int v0), (1, .int v1)]) (st' := [.int v0]) (S1 := S) (nL := 2) (cd := cd_2600) mx_2600 rfl rfl 2 rfl ?_
    refine RR.weak [] trivial ?_
    exact s_o_j_min_10 _ _ h
theorem s_o_j_min {d : Nat} {S' : St} {r : Int32} (v0 : Int32) (v1 : Int32) (S : St) (h : o_j_min v0 v1 S = some (r, S')) : RC KO (d + 0) 2600 [.int v0, .int v1] S (some (.int r)) S' := RC.of rfl (s0_o_j_min v0 v1 S h)
-- NameOrchard$Names edits (II)I
def o_na_edits_177 (k44 : Nat → Int32 → Int32 → Int32 → Int32 → Int32 → St → Re Int32) (v0 : Nat) (v1 : Int32) (v2 : Int32) (v3 : Int32) (v4 : Int32) (v5 : Int32) (S : St) : Re Int32 :=
  lt' ((v5 + (1 : Int32)) : Int32) fun x1 =>
  k44 v0 v1 v2 v3 v4 x1 S
set_option maxRecDepth 100000 in
theorem s_o_na_edits_177 {d : Nat} (k44 : Nat → Int32 → Int32 → Int32 → Int32 → Int32 → St → Re Int32) {S' : St} {r : Int32} (b44 : ∀ (v0 : Nat) (v1 : Int32) (v2 : Int32) (v3 : Int32) (v4 : Int32) (v5 : Int32) (S : St), k44 v0 v1 v2 v3 v4 v5 S = some (r, S') → RR KO (d + 2) 412 44 [(0, .ref v0), (1, .int v1), (2, .int v2), (3, .int v3), (4, .int v4), (5, .int v5)] [] S (some (.int r)) S') (v0 : Nat) (v1 : Int32) (v2 : Int32) (v3 : Int32) (v4 : Int32) (v5 : Int32) (S : St) (h : o_na_edits_177 k44 v0 v1 v2 v3 v4 v5 S = some (r, S')) : RR KO (d + 2) 412 177 [(0, .ref v0), (1, .int v1), (2, .int v2), (3, .int v3), (4, .int v4), (5, .int v5)] [] S (some (.int r)) S' := by
  unfold o_na_edits_177 at h
  refine RR.runs (pc' := 180) (lc' := [(5, .int ((v5 + (1 : Int32)))), (0, .ref v0), (1, .int v1), (2, .int v2), (3, .int v3), (4, .int v4)]) (st' := []) (S1 := S) (nL := 12) (cd := cd_412) mx_412 rfl rfl 1 rfl ?_
  obtain ⟨x1, ex1, h⟩ := ltE h
  rw [← ex1]
  refine RR.runs (pc' := 44) (lc' := [(5, .int x1), (0, .ref v0), (1, .int v1), (2, .int v2), (3, .int v3), (4, .int v4)]) (st' := []) (S1 := S) (nL := 12) (cd := cd_412) mx_412 rfl rfl 1 rfl ?_
  refine RR.weak [(0, .ref v0), (1, .int v1), (2, .int v2), (3, .int v3), (4, .int v4), (5, .int x1)] ⟨rfl, rfl, rfl, rfl, rfl, rfl, trivial⟩ ?_
  exact b44 _ _ _ _ _ _ _ h
def o_na_edits_120 (k84 : Nat → Int32 → Int32 → Int32 → Int32 → Int32 → Int32 → Int64 → Int32 → Int32 → St → Re Int32) (v0 : Nat) (v1 : Int32) (v2 : Int32) (v3 : Int32) (v4 : Int32) (v5 : Int32) (v6 : Int32) (v7 : Int64) (v10 : Int32) (p0 : Int32) (p1 : Int32) (S : St) : Re Int32 :=
  lt' ((p1 + p0) : Int32) fun x1 =>
  if KO.1 v0 = (0, 2) then (
  if (KO.1 (v0 + 8)).1 = 1 then (
  if v10 < 0 ∨ (KO.1 (v0 + 8)).2 ≤ v10.toNatClampNeg then none else
  lt' ((rI S (v0 + 8) v10.toNatClampNeg) : Int32) fun x3 =>
      if (KO.1 (v0 + 8)).1 = 1 then (
  if v10 < 0 ∨ (KO.1 (v0 + 8)).2 ≤ v10.toNatClampNeg then none else
    if (KO.1 (v0 + 8)).1 = 1 then (
  if (v10 - (1 : Int32)) < 0 ∨ (KO.1 (v0 + 8)).2 ≤ ((v10 - (1 : Int32))).toNatClampNeg then none else
  bn (o_j_min ((rI S (v0 + 8) v10.toNatClampNeg)) ((rI S (v0 + 8) ((v10 - (1 : Int32))).toNatClampNeg)) S) fun r4 S5 =>
  bn (o_j_min x1 (((1 : Int32) + r4)) S5) fun r6 S7 =>
  if (KO.1 (v0 + 8)).1 = 1 then (
  if v10 < 0 ∨ (KO.1 (v0 + 8)).2 ≤ v10.toNatClampNeg then none else
  lt' (wI S7 (v0 + 8) v10.toNatClampNeg r6) fun S8 =>
  lt' ((v7 >>> ((5 : Int32).toInt64 &&& 63)) : Int64) fun x9 =>
  lt' ((v10 + (1 : Int32)) : Int32) fun x10 =>
  k84 v0 v1 v2 v3 v4 v5 v6 x9 x3 x10 S8) else none) else none) else none) else none) else none
set_option maxRecDepth 100000 in
theorem s_o_na_edits_120 {d : Nat} (k84 : Nat → Int32 → Int32 → Int32 → Int32 → Int32 → Int32 → Int64 → Int32 → Int32 → St → Re Int32) {S' : St} {r : Int32} (b84 : ∀ (v0 : Nat) (v1 : Int32) (v2 : Int32) (v3 : Int32) (v4 : Int32) (v5 : Int32) (v6 : Int32) (v7 : Int64) (v9 : Int32) (v10 : Int32) (S : St), k84 v0 v1 v2 v3 v4 v5 v6 v7 v9 v10 S = some (r, S') → RR KO (d + 2) 412 84 [(0, .ref v0), (1, .int v1), (2, .int v2), (3, .int v3), (4, .int v4), (5, .int v5), (6, .int v6), (7, .long v7), (9, .int v9), (10, .int v10)] [] S (some (.int r)) S') (v0 : Nat) (v1 : Int32) (v2 : Int32) (v3 : Int32) (v4 : Int32) (v5 : Int32) (v6 : Int32) (v7 : Int64) (v10 : Int32) (p0 : Int32) (p1 : Int32) (S : St) (h : o_na_edits_120 k84 v0 v1 v2 v3 v4 v5 v6 v7 v10 p0 p1 S = some (r, S')) : RR KO (d + 2) 412 120 [(0, .ref v0), (1, .int v1), (2, .int v2), (3, .int v3), (4, .int v4), (5, .int v5), (6, .int v6), (7, .long v7), (10, .int v10)] [.int p0, .int p1] S (some (.int r)) S' := by
  unfold o_na_edits_120 at h
  refine RR.runs (pc' := 123) (lc' := [(11, .int (p1 + p0)), (0, .ref v0), (1, .int v1), (2, .int v2), (3, .int v3), (4, .int v4), (5, .int v5), (6, .int v6), (7, .long v7), (10, .int v10)]) (st' := []) (S1 := S) (nL := 12) (cd := cd_412) mx_412 rfl rfl 2 rfl ?_
  obtain ⟨x1, ex1, h⟩ := ltE h
  rw [← ex1]
  refine RR.runs (pc' := 124) (lc' := [(11, .int x1), (0, .ref v0), (1, .int v1), (2, .int v2), (3, .int v3), (4, .int v4), (5, .int v5), (6, .int v6), (7, .long v7), (10, .int v10)]) (st' := [.ref v0]) (S1 := S) (nL := 12) (cd := cd_412) mx_412 rfl rfl 1 rfl ?_
  obtain ⟨g2, h⟩ := gpE h
  refine RR.gPo (pc' := 127) (lc' := [(11, .int x1), (0, .ref v0), (1, .int v1), (2, .int v2), (3, .int v3), (4, .int v4), (5, .int v5), (6, .int v6), (7, .long v7), (10, .int v10)]) (st' := [.ref (v0 + 8)]) (S1 := S) (nL := 12) (cd := cd_412) mx_412 rfl rfl rfl ⟨g2, by decide, by decide⟩ ?_
  refine RR.runs (pc' := 129) (lc' := [(11, .int x1), (0, .ref v0), (1, .int v1), (2, .int v2), (3, .int v3), (4, .int v4), (5, .int v5), (6, .int v6), (7, .long v7), (10, .int v10)]) (st' := [.int v10, .ref (v0 + 8)]) (S1 := S) (nL := 12) (cd := cd_412) mx_412 rfl rfl 1 rfl ?_
  obtain ⟨gq, h⟩ := gpE h
  obtain ⟨g, h⟩ := gnE h
  refine RR.gPNo (c2 := (KO.1 (v0 + 8)).1 = 1) (pc' := 130) (lc' := [(11, .int x1), (0, .ref v0), (1, .int v1), (2, .int v2), (3, .int v3), (4, .int v4), (5, .int v5), (6, .int v6), (7, .long v7), (10, .int v10)]) (st' := [.int ((rI S (v0 + 8) v10.toNatClampNeg))]) (S1 := S) (nL := 12) (cd := cd_412) mx_412 rfl rfl rfl gq g ?_
  refine RR.runs (pc' := 132) (lc' := [(9, .int ((rI S (v0 + 8) v10.toNatClampNeg))), (11, .int x1), (0, .ref v0), (1, .int v1), (2, .int v2), (3, .int v3), (4, .int v4), (5, .int v5), (6, .int v6), (7, .long v7), (10, .int v10)]) (st' := []) (S1 := S) (nL := 12) (cd := cd_412) mx_412 rfl rfl 1 rfl ?_
  obtain ⟨x3, ex3, h⟩ := ltE h
  rw [← ex3]
  refine RR.runs (pc' := 133) (lc' := [(9, .int x3), (11, .int x1), (0, .ref v0), (1, .int v1), (2, .int v2), (3, .int v3), (4, .int v4), (5, .int v5), (6, .int v6), (7, .long v7), (10, .int v10)]) (st' := [.ref v0]) (S1 := S) (nL := 12) (cd := cd_412) mx_412 rfl rfl 1 rfl ?_
  refine RR.gPo (pc' := 136) (lc' := [(9, .int x3), (11, .int x1), (0, .ref v0), (1, .int v1), (2, .int v2), (3, .int v3), (4, .int v4), (5, .int v5), (6, .int v6), (7, .long v7), (10, .int v10)]) (st' := [.ref (v0 + 8)]) (S1 := S) (nL := 12) (cd := cd_412) mx_412 rfl rfl rfl ⟨g2, by decide, by decide⟩ ?_
  refine RR.runs (pc' := 142) (lc' := [(9, .int x3), (11, .int x1), (0, .ref v0), (1, .int v1), (2, .int v2), (3, .int v3), (4, .int v4), (5, .int v5), (6, .int v6), (7, .long v7), (10, .int v10)]) (st' := [.ref v0, .int (1 : Int32), .int x1, .int v10, .ref (v0 + 8)]) (S1 := S) (nL := 12) (cd := cd_412) mx_412 rfl rfl 4 rfl ?_
  refine RR.gPo (pc' := 145) (lc' := [(9, .int x3), (11, .int x1), (0, .ref v0), (1, .int v1), (2, .int v2), (3, .int v3), (4, .int v4), (5, .int v5), (6, .int v6), (7, .long v7), (10, .int v10)]) (st' := [.ref (v0 + 8), .int (1 : Int32), .int x1, .int v10, .ref (v0 + 8)]) (S1 := S) (nL := 12) (cd := cd_412) mx_412 rfl rfl rfl ⟨g2, by decide, by decide⟩ ?_
  refine RR.runs (pc' := 147) (lc' := [(9, .int x3), (11, .int x1), (0, .ref v0), (1, .int v1), (2, .int v2), (3, .int v3), (4, .int v4), (5, .int v5), (6, .int v6), (7, .long v7), (10, .int v10)]) (st' := [.int v10, .ref (v0 + 8), .int (1 : Int32), .int x1, .int v10, .ref (v0 + 8)]) (S1 := S) (nL := 12) (cd := cd_412) mx_412 rfl rfl 1 rfl ?_
  obtain ⟨gq, h⟩ := gpE h
  obtain ⟨g, h⟩ := gnE h
  refine RR.gPNo (c2 := (KO.1 (v0 + 8)).1 = 1) (pc' := 148) (lc' := [(9, .int x3), (11, .int x1), (0, .ref v0), (1, .int v1), (2, .int v2), (3, .int v3), (4, .int v4), (5, .int v5), (6, .int v6), (7, .long v7), (10, .int v10)]) (st' := [.int ((rI S (v0 + 8) v10.toNatClampNeg)), .int (1 : Int32), .int x1, .int v10, .ref (v0 + 8)]) (S1 := S) (nL := 12) (cd := cd_412) mx_412 rfl rfl rfl gq g ?_
  refine RR.runs (pc' := 149) (lc' := [(9, .int x3), (11, .int x1), (0, .ref v0), (1, .int v1), (2, .int v2), (3, .int v3), (4, .int v4), (5, .int v5), (6, .int v6), (7, .long v7), (10, .int v10)]) (st' := [.ref v0, .int ((rI S (v0 + 8) v10.toNatClampNeg)), .int (1 : Int32), .int x1, .int v10, .ref (v0 + 8)]) (S1 := S) (nL := 12) (cd := cd_412) mx_412 rfl rfl 1 rfl ?_
  refine RR.gPo (pc' := 152) (lc' := [(9, .int x3), (11, .int x1), (0, .ref v0), (1, .int v1), (2, .int v2), (3, .int v3), (4, .int v4), (5, .int v5), (6, .int v6), (7, .long v7), (10, .int v10)]) (st' := [.ref (v0 + 8), .int ((rI S (v0 + 8) v10.toNatClampNeg)), .int (1 : Int32), .int x1, .int v10, .ref (v0 + 8)]) (S1 := S) (nL := 12) (cd := cd_412) mx_412 rfl rfl rfl ⟨g2, by decide, by decide⟩ ?_
  refine RR.runs (pc' := 156) (lc' := [(9, .int x3), (11, .int x1), (0, .ref v0), (1, .int v1), (2, .int v2), (3, .int v3), (4, .int v4), (5, .int v5), (6, .int v6), (7, .long v7), (10, .int v10)]) (st' := [.int ((v10 - (1 : Int32))), .ref (v0 + 8), .int ((rI S (v0 + 8) v10.toNatClampNeg)), .int (1 : Int32), .int x1, .int v10, .ref (v0 + 8)]) (S1 := S) (nL := 12) (cd := cd_412) mx_412 rfl rfl 3 rfl ?_
  obtain ⟨gq, h⟩ := gpE h
  obtain ⟨g, h⟩ := gnE h
  refine RR.gPNo (c2 := (KO.1 (v0 + 8)).1 = 1) (pc' := 157) (lc' := [(9, .int x3), (11, .int x1), (0, .ref v0), (1, .int v1), (2, .int v2), (3, .int v3), (4, .int v4), (5, .int v5), (6, .int v6), (7, .long v7), (10, .int v10)]) (st' := [.int ((rI S (v0 + 8) ((v10 - (1 : Int32))).toNatClampNeg)), .int ((rI S (v0 + 8) v10.toNatClampNeg)), .int (1 : Int32), .int x1, .int v10, .ref (v0 + 8)]) (S1 := S) (nL := 12) (cd := cd_412) mx_412 rfl rfl rfl gq g ?_
  obtain ⟨r4, S5, h1, h⟩ := bnE h
  refine RR.callS (as := [.int ((rI S (v0 + 8) v10.toNatClampNeg)), .int ((rI S (v0 + 8) ((v10 - (1 : Int32))).toNatClampNeg))]) (rest := [.int (1 : Int32), .int x1, .int v10, .ref (v0 + 8)]) (r1 := (some (.int r4))) (S1 := S5) mx_412 rfl rfl mx_2600 rfl rfl (by decide) (Nat.le_of_ble_eq_true rfl) (Nat.le_of_ble_eq_true rfl) (Nat.le_of_ble_eq_true rfl) (RC.deep (by omega) (s_o_j_min (d := d) _ _ _ h1)) ?_
  show RR KO _ 412 160 [(9, .int x3), (11, .int x1), (0, .ref v0), (1, .int v1), (2, .int v2), (3, .int v3), (4, .int v4), (5, .int v5), (6, .int v6), (7, .long v7), (10, .int v10)] [.int r4, .int (1 : Int32), .int x1, .int v10, .ref (v0 + 8)] S5 _ _
  refine RR.runs (pc' := 161) (lc' := [(9, .int x3), (11, .int x1), (0, .ref v0), (1, .int v1), (2, .int v2), (3, .int v3), (4, .int v4), (5, .int v5), (6, .int v6), (7, .long v7), (10, .int v10)]) (st' := [.int (((1 : Int32) + r4)), .int x1, .int v10, .ref (v0 + 8)]) (S1 := S5) (nL := 12) (cd := cd_412) mx_412 rfl rfl 1 rfl ?_
  obtain ⟨r6, S7, h1, h⟩ := bnE h
  refine RR.callS (as := [.int x1, .int (((1 : Int32) + r4))]) (rest := [.int v10, .ref (v0 + 8)]) (r1 := (some (.int r6))) (S1 := S7) mx_412 rfl rfl mx_2600 rfl rfl (by decide) (Nat.le_of_ble_eq_true rfl) (Nat.le_of_ble_eq_true rfl) (Nat.le_of_ble_eq_true rfl) (RC.deep (by omega) (s_o_j_min (d := d) _ _ _ h1)) ?_
  show RR KO _ 412 164 [(9, .int x3), (11, .int x1), (0, .ref v0), (1, .int v1), (2, .int v2), (3, .int v3), (4, .int v4), (5, .int v5), (6, .int v6), (7, .long v7), (10, .int v10)] [.int r6, .int v10, .ref (v0 + 8)] S7 _ _
  obtain ⟨gq, h⟩ := gpE h
  obtain ⟨g, h⟩ := gnE h
  refine RR.gPNo (c2 := (KO.1 (v0 + 8)).1 = 1) (pc' := 165) (lc' := [(9, .int x3), (11, .int x1), (0, .ref v0), (1, .int v1), (2, .int v2), (3, .int v3), (4, .int v4), (5, .int v5), (6, .int v6), (7, .long v7), (10, .int v10)]) (st' := []) (S1 := (wI S7 (v0 + 8) v10.toNatClampNeg r6)) (nL := 12) (cd := cd_412) mx_412 rfl rfl rfl gq g ?_
  obtain ⟨S8, eS8, h⟩ := ltE h
  rw [← eS8]
  refine RR.runs (pc' := 171) (lc' := [(7, .long ((v7 >>> ((5 : Int32).toInt64 &&& 63)))), (9, .int x3), (11, .int x1), (0, .ref v0), (1, .int v1), (2, .int v2), (3, .int v3), (4, .int v4), (5, .int v5), (6, .int v6), (10, .int v10)]) (st' := []) (S1 := S8) (nL := 12) (cd := cd_412) mx_412 rfl rfl 4 rfl ?_
  obtain ⟨x9, ex9, h⟩ := ltE h
  rw [← ex9]
  refine RR.runs (pc' := 174) (lc' := [(10, .int ((v10 + (1 : Int32)))), (7, .long x9), (9, .int x3), (11, .int x1), (0, .ref v0), (1, .int v1), (2, .int v2), (3, .int v3), (4, .int v4), (5, .int v5), (6, .int v6)]) (st' := []) (S1 := S8) (nL := 12) (cd := cd_412) mx_412 rfl rfl 1 rfl ?_
  obtain ⟨x10, ex10, h⟩ := ltE h
  rw [← ex10]
  refine RR.runs (pc' := 84) (lc' := [(10, .int x10), (7, .long x9), (9, .int x3), (11, .int x1), (0, .ref v0), (1, .int v1), (2, .int v2), (3, .int v3), (4, .int v4), (5, .int v5), (6, .int v6)]) (st' := []) (S1 := S8) (nL := 12) (cd := cd_412) mx_412 rfl rfl 1 rfl ?_
  refine RR.weak [(0, .ref v0), (1, .int v1), (2, .int v2), (3, .int v3), (4, .int v4), (5, .int v5), (6, .int v6), (7, .long x9), (9, .int x3), (10, .int x10)] ⟨rfl, rfl, rfl, rfl, rfl, rfl, rfl, rfl, rfl, rfl, trivial⟩ ?_
  exact b84 _ _ _ _ _ _ _ _ _ _ _ h
def o_na_edits_84 (k44 : Nat → Int32 → Int32 → Int32 → Int32 → Int32 → St → Re Int32) : Nat → Nat → Int32 → Int32 → Int32 → Int32 → Int32 → Int32 → Int64 → Int32 → Int32 → St → Re Int32
  | 0, _, _, _, _, _, _, _, _, _, _, _ => none
  | n + 1, v0, v1, v2, v3, v4, v5, v6, v7, v9, v10, S =>
  if v3 < v10 then (
    o_na_edits_177 k44 v0 v1 v2 v3 v4 v5 S)
  else (
    if KO.1 v0 = (0, 2) then (
    if 1 ≤ (KO.1 (v0 + 8)).1 ∧ (KO.1 (v0 + 8)).1 < 8 then (
    if v10 < (Int32.ofNat (KO.1 (v0 + 8)).2) then (
      if (lg_cmp ((v7 &&& (31 : Int64))) v6.toInt64) = 0 then (
        o_na_edits_120 (o_na_edits_84 k44 n) v0 v1 v2 v3 v4 v5 v6 v7 v10 (0 : Int32) v9 S)
      else (
        o_na_edits_120 (o_na_edits_84 k44 n) v0 v1 v2 v3 v4 v5 v6 v7 v10 (1 : Int32) v9 S))
    else (
      o_na_edits_177 k44 v0 v1 v2 v3 v4 v5 S)) else none) else none)
set_option maxRecDepth 100000 in
theorem s_o_na_edits_84 {d : Nat} (k44 : Nat → Int32 → Int32 → Int32 → Int32 → Int32 → St → Re Int32) {S' : St} {r : Int32} (b44 : ∀ (v0 : Nat) (v1 : Int32) (v2 : Int32) (v3 : Int32) (v4 : Int32) (v5 : Int32) (S : St), k44 v0 v1 v2 v3 v4 v5 S = some (r, S') → RR KO (d + 2) 412 44 [(0, .ref v0), (1, .int v1), (2, .int v2), (3, .int v3), (4, .int v4), (5, .int v5)] [] S (some (.int r)) S') : ∀ (n : Nat) (v0 : Nat) (v1 : Int32) (v2 : Int32) (v3 : Int32) (v4 : Int32) (v5 : Int32) (v6 : Int32) (v7 : Int64) (v9 : Int32) (v10 : Int32) (S : St), o_na_edits_84 k44 n v0 v1 v2 v3 v4 v5 v6 v7 v9 v10 S = some (r, S') → RR KO (d + 2) 412 84 [(0, .ref v0), (1, .int v1), (2, .int v2), (3, .int v3), (4, .int v4), (5, .int v5), (6, .int v6), (7, .long v7), (9, .int v9), (10, .int v10)] [] S (some (.int r)) S' := by
  intro n
  induction n with
  | zero => intro v0 v1 v2 v3 v4 v5 v6 v7 v9 v10 S h; simp only [o_na_edits_84] at h; cases h
  | succ n ih =>
    intro v0 v1 v2 v3 v4 v5 v6 v7 v9 v10 S h
    simp only [o_na_edits_84] at h
    refine RR.runs (pc' := icm .gt v10 v3 177 90) (lc' := [(0, .ref v0), (1, .int v1), (2, .int v2), (3, .int v3), (4, .int v4), (5, .int v5), (6, .int v6), (7, .long v7), (9, .int v9), (10, .int v10)]) (st' := []) (S1 := S) (nL := 12) (cd := cd_412) mx_412 rfl rfl 3 rfl ?_
    rcases ifE h with ⟨c, h⟩ | ⟨c, h⟩
    · refine RR.c_gt (fun _ => ?_) (fun q => absurd c q)
      refine RR.weak [(0, .ref v0), (1, .int v1), (2, .int v2), (3, .int v3), (4, .int v4), (5, .int v5)] ⟨rfl, rfl, rfl, rfl, rfl, rfl, trivial⟩ ?_
      exact s_o_na_edits_177 _ b44 _ _ _ _ _ _ _ h
    · refine RR.c_gt (fun q => absurd q c) (fun _ => ?_)
      refine RR.runs (pc' := 93) (lc' := [(0, .ref v0), (1, .int v1), (2, .int v2), (3, .int v3), (4, .int v4), (5, .int v5), (6, .int v6), (7, .long v7), (9, .int v9), (10, .int v10)]) (st' := [.ref v0, .int v10]) (S1 := S) (nL := 12) (cd := cd_412) mx_412 rfl rfl 2 rfl ?_
      obtain ⟨g1, h⟩ := gpE h
      refine RR.gPo (pc' := 96) (lc' := [(0, .ref v0), (1, .int v1), (2, .int v2), (3, .int v3), (4, .int v4), (5, .int v5), (6, .int v6), (7, .long v7), (9, .int v9), (10, .int v10)]) (st' := [.ref (v0 + 8), .int v10]) (S1 := S) (nL := 12) (cd := cd_412) mx_412 rfl rfl rfl ⟨g1, by decide, by decide⟩ ?_
      obtain ⟨g, h⟩ := gpE h
      refine RR.gP (pc' := 97) (lc' := [(0, .ref v0), (1, .int v1), (2, .int v2), (3, .int v3), (4, .int v4), (5, .int v5), (6, .int v6), (7, .long v7), (9, .int v9), (10, .int v10)]) (st' := [.int ((Int32.ofNat (KO.1 (v0 + 8)).2)), .int v10]) (S1 := S) (nL := 12) (cd := cd_412) mx_412 rfl rfl rfl g ?_
      refine RR.runs (pc' := icm .ge v10 ((Int32.ofNat (KO.1 (v0 + 8)).2)) 177 100) (lc' := [(0, .ref v0), (1, .int v1), (2, .int v2), (3, .int v3), (4, .int v4), (5, .int v5), (6, .int v6), (7, .long v7), (9, .int v9), (10, .int v10)]) (st' := []) (S1 := S) (nL := 12) (cd := cd_412) mx_412 rfl rfl 1 rfl ?_
      rcases ifE h with ⟨c, h⟩ | ⟨c, h⟩
      · refine RR.c_ge (fun _ => ?_) (fun q => absurd c q)
        refine RR.runs (pc' := icm .ne ((lg_cmp ((v7 &&& (31 : Int64))) v6.toInt64)) 0 119 115) (lc' := [(0, .ref v0), (1, .int v1), (2, .int v2), (3, .int v3), (4, .int v4), (5, .int v5), (6, .int v6), (7, .long v7), (9, .int v9), (10, .int v10)]) (st' := [.int v9]) (S1 := S) (nL := 12) (cd := cd_412) mx_412 rfl rfl 8 rfl ?_
        rcases ifE h with ⟨c, h⟩ | ⟨c, h⟩
        · refine RR.c_ne (fun _ => ?_) (fun q => absurd c q)
          refine RR.runs (pc' := 120) (lc' := [(0, .ref v0), (1, .int v1), (2, .int v2), (3, .int v3), (4, .int v4), (5, .int v5), (6, .int v6), (7, .long v7), (9, .int v9), (10, .int v10)]) (st' := [.int (0 : Int32), .int v9]) (S1 := S) (nL := 12) (cd := cd_412) mx_412 rfl rfl 2 rfl ?_
          refine RR.weak [(0, .ref v0), (1, .int v1), (2, .int v2), (3, .int v3), (4, .int v4), (5, .int v5), (6, .int v6), (7, .long v7), (10, .int v10)] ⟨rfl, rfl, rfl, rfl, rfl, rfl, rfl, rfl, rfl, trivial⟩ ?_
          exact s_o_na_edits_120 _ (fun _ _ _ _ _ _ _ _ _ _ S h => ih _ _ _ _ _ _ _ _ _ _ S h) _ _ _ _ _ _ _ _ _ _ _ _ h
        · refine RR.c_ne (fun q => absurd q c) (fun _ => ?_)
          refine RR.runs (pc' := 120) (lc' := [(0, .ref v0), (1, .int v1), (2, .int v2), (3, .int v3), (4, .int v4), (5, .int v5), (6, .int v6), (7, .long v7), (9, .int v9), (10, .int v10)]) (st' := [.int (1 : Int32), .int v9]) (S1 := S) (nL := 12) (cd := cd_412) mx_412 rfl rfl 1 rfl ?_
          refine RR.weak [(0, .ref v0), (1, .int v1), (2, .int v2), (3, .int v3), (4, .int v4), (5, .int v5), (6, .int v6), (7, .long v7), (10, .int v10)] ⟨rfl, rfl, rfl, rfl, rfl, rfl, rfl, rfl, rfl, trivial⟩ ?_
          exact s_o_na_edits_120 _ (fun _ _ _ _ _ _ _ _ _ _ S h => ih _ _ _ _ _ _ _ _ _ _ S h) _ _ _ _ _ _ _ _ _ _ _ _ h
      · refine RR.c_ge (fun q => absurd q c) (fun _ => ?_)
        refine RR.weak [(0, .ref v0), (1, .int v1), (2, .int v2), (3, .int v3), (4, .int v4), (5, .int v5)] ⟨rfl, rfl, rfl, rfl, rfl, rfl, trivial⟩ ?_
        exact s_o_na_edits_177 _ b44 _ _ _ _ _ _ _ h
def o_na_edits_202 (p0 : Int32) (S : St) : Re Int32 :=
  some (p0, S)
set_option maxRecDepth 100000 in
theorem s_o_na_edits_202 {d : Nat} {S' : St} {r : Int32} (p0 : Int32) (S : St) (h : o_na_edits_202 p0 S = some (r, S')) : RR KO (d + 2) 412 202 [] [.int p0] S (some (.int r)) S' := by
  unfold o_na_edits_202 at h
  cases h
  exact RR.reti mx_412 rfl rfl rfl
def o_na_edits_183 (v0 : Nat) (v3 : Int32) (S : St) : Re Int32 :=
  if KO.1 v0 = (0, 2) then (
  if 1 ≤ (KO.1 (v0 + 8)).1 ∧ (KO.1 (v0 + 8)).1 < 8 then (
  if v3 < (Int32.ofNat (KO.1 (v0 + 8)).2) then (
        if (KO.1 (v0 + 8)).1 = 1 then (
    if v3 < 0 ∨ (KO.1 (v0 + 8)).2 ≤ v3.toNatClampNeg then none else
    o_na_edits_202 ((rI S (v0 + 8) v3.toNatClampNeg)) S) else none)
  else (
    o_na_edits_202 (0 : Int32) S)) else none) else none
set_option maxRecDepth 100000 in
theorem s_o_na_edits_183 {d : Nat} {S' : St} {r : Int32} (v0 : Nat) (v3 : Int32) (S : St) (h : o_na_edits_183 v0 v3 S = some (r, S')) : RR KO (d + 2) 412 183 [(0, .ref v0), (3, .int v3)] [] S (some (.int r)) S' := by
  unfold o_na_edits_183 at h
  refine RR.runs (pc' := 185) (lc' := [(0, .ref v0), (3, .int v3)]) (st' := [.ref v0, .int v3]) (S1 := S) (nL := 12) (cd := cd_412) mx_412 rfl rfl 2 rfl ?_
  obtain ⟨g1, h⟩ := gpE h
  refine RR.gPo (pc' := 188) (lc' := [(0, .ref v0), (3, .int v3)]) (st' := [.ref (v0 + 8), .int v3]) (S1 := S) (nL := 12) (cd := cd_412) mx_412 rfl rfl rfl ⟨g1, by decide, by decide⟩ ?_
  obtain ⟨g, h⟩ := gpE h
  refine RR.gP (pc' := 189) (lc' := [(0, .ref v0), (3, .int v3)]) (st' := [.int ((Int32.ofNat (KO.1 (v0 + 8)).2)), .int v3]) (S1 := S) (nL := 12) (cd := cd_412) mx_412 rfl rfl rfl g ?_
  refine RR.runs (pc' := icm .ge v3 ((Int32.ofNat (KO.1 (v0 + 8)).2)) 201 192) (lc' := [(0, .ref v0), (3, .int v3)]) (st' := []) (S1 := S) (nL := 12) (cd := cd_412) mx_412 rfl rfl 1 rfl ?_
  rcases ifE h with ⟨c, h⟩ | ⟨c, h⟩
  · refine RR.c_ge (fun _ => ?_) (fun q => absurd c q)
    refine RR.runs (pc' := 193) (lc' := [(0, .ref v0), (3, .int v3)]) (st' := [.ref v0]) (S1 := S) (nL := 12) (cd := cd_412) mx_412 rfl rfl 1 rfl ?_
    refine RR.gPo (pc' := 196) (lc' := [(0, .ref v0), (3, .int v3)]) (st' := [.ref (v0 + 8)]) (S1 := S) (nL := 12) (cd := cd_412) mx_412 rfl rfl rfl ⟨g1, by decide, by decide⟩ ?_
    refine RR.runs (pc' := 197) (lc' := [(0, .ref v0), (3, .int v3)]) (st' := [.int v3, .ref (v0 + 8)]) (S1 := S) (nL := 12) (cd := cd_412) mx_412 rfl rfl 1 rfl ?_
    obtain ⟨gq, h⟩ := gpE h
    obtain ⟨g, h⟩ := gnE h
    refine RR.gPNo (c2 := (KO.1 (v0 + 8)).1 = 1) (pc' := 198) (lc' := [(0, .ref v0), (3, .int v3)]) (st' := [.int ((rI S (v0 + 8) v3.toNatClampNeg))]) (S1 := S) (nL := 12) (cd := cd_412) mx_412 rfl rfl rfl gq g ?_
    refine RR.runs (pc' := 202) (lc' := [(0, .ref v0), (3, .int v3)]) (st' := [.int ((rI S (v0 + 8) v3.toNatClampNeg))]) (S1 := S) (nL := 12) (cd := cd_412) mx_412 rfl rfl 1 rfl ?_
    refine RR.weak [] trivial ?_
    exact s_o_na_edits_202 _ _ h
  · refine RR.c_ge (fun q => absurd q c) (fun _ => ?_)
    refine RR.runs (pc' := 202) (lc' := [(0, .ref v0), (3, .int v3)]) (st' := [.int (0 : Int32)]) (S1 := S) (nL := 12) (cd := cd_412) mx_412 rfl rfl 1 rfl ?_
    refine RR.weak [] trivial ?_
    exact s_o_na_edits_202 _ _ h
def o_na_edits_44 : Nat → Nat → Int32 → Int32 → Int32 → Int32 → Int32 → St → Re Int32
  | 0, _, _, _, _, _, _, _ => none
  | n + 1, v0, v1, v2, v3, v4, v5, S =>
  if v5 < v4 then (
    if KO.1 v0 = (0, 2) then (
bn (o_na_letter v0 v1 v5 S) fun r2 S3 =>
    bn (o_na_at v0 v2 S3) fun r4 S5 =>
        if (KO.1 (v0 + 8)).1 = 1 then (
    if (0 : Int32) < 0 ∨ (KO.1 (v0 + 8)).2 ≤ (0 : Int32).toNatClampNeg then none else
    lt' (wI S5 (v0 + 8) (0 : Int32).toNatClampNeg ((v5 + (1 : Int32)))) fun S6 =>
    o_na_edits_84 (o_na_edits_44 n) FU v0 v1 v2 v3 v4 v5 r2 r4 v5 (1 : Int32) S6) else none) else none)
  else (
    o_na_edits_183 v0 v3 S)
set_option maxRecDepth 100000 in
theorem s_o_na_edits_44 {d : Nat} {S' : St} {r : Int32} : ∀ (n : Nat) (v0 : Nat) (v1 : Int32) (v2 : Int32) (v3 : Int32) (v4 : Int32) (v5 : Int32) (S : St), o_na_edits_44 n v0 v1 v2 v3 v4 v5 S = some (r, S') → RR KO (d + 2) 412 44 [(0, .ref v0), (1, .int v1), (2, .int v2), (3, .int v3), (4, .int v4), (5, .int v5)] [] S (some (.int r)) S' := by
  intro n
  induction n with
  | zero => intro v0 v1 v2 v3 v4 v5 S h; simp only [o_na_edits_44] at h; cases h
  | succ n ih =>
    intro v0 v1 v2 v3 v4 v5 S h
    simp only [o_na_edits_44] at h
    refine RR.runs (pc' := icm .ge v5 v4 183 51) (lc' := [(0, .ref v0), (1, .int v1), (2, .int v2), (3, .int v3), (4, .int v4), (5, .int v5)]) (st' := []) (S1 := S) (nL := 12) (cd := cd_412) mx_412 rfl rfl 3 rfl ?_
    rcases ifE h with ⟨c, h⟩ | ⟨c, h⟩
    · refine RR.c_ge (fun _ => ?_) (fun q => absurd c q)
      refine RR.runs (pc' := 55) (lc' := [(0, .ref v0), (1, .int v1), (2, .int v2), (3, .int v3), (4, .int v4), (5, .int v5)]) (st' := [.int v5, .int v1, .ref v0]) (S1 := S) (nL := 12) (cd := cd_412) mx_412 rfl rfl 3 rfl ?_
      obtain ⟨g1, h⟩ := gpE h
      obtain ⟨r2, S3, h1, h⟩ := bnE h
      refine RR.callV (b := v0) (as := [.int v1, .int v5]) (rest := []) (r1 := (some (.int r2))) (S1 := S3) mx_412 rfl rfl mx_407 rfl rfl (by decide) (Or.inl g1) (Nat.le_of_ble_eq_true rfl) (Nat.le_of_ble_eq_true rfl) (RC.deep (by omega) (s_o_na_letter (d := d) _ _ _ _ h1)) ?_
      show RR KO _ 412 58 [(0, .ref v0), (1, .int v1), (2, .int v2), (3, .int v3), (4, .int v4), (5, .int v5)] [.int r2] S3 _ _
      refine RR.runs (pc' := 62) (lc' := [(6, .int r2), (0, .ref v0), (1, .int v1), (2, .int v2), (3, .int v3), (4, .int v4), (5, .int v5)]) (st' := [.int v2, .ref v0]) (S1 := S3) (nL := 12) (cd := cd_412) mx_412 rfl rfl 3 rfl ?_
      obtain ⟨r4, S5, h1, h⟩ := bnE h
      refine RR.callV (b := v0) (as := [.int v2]) (rest := []) (r1 := (some (.long r4))) (S1 := S5) mx_412 rfl rfl mx_404 rfl rfl (by decide) (Or.inl g1) (Nat.le_of_ble_eq_true rfl) (Nat.le_of_ble_eq_true rfl) (RC.deep (by omega) (s_o_na_at (d := d) _ _ _ h1)) ?_
      show RR KO _ 412 65 [(6, .int r2), (0, .ref v0), (1, .int v1), (2, .int v2), (3, .int v3), (4, .int v4), (5, .int v5)] [.long r4] S5 _ _
      refine RR.runs (pc' := 72) (lc' := [(9, .int v5), (7, .long r4), (6, .int r2), (0, .ref v0), (1, .int v1), (2, .int v2), (3, .int v3), (4, .int v4), (5, .int v5)]) (st' := [.ref v0]) (S1 := S5) (nL := 12) (cd := cd_412) mx_412 rfl rfl 4 rfl ?_
      refine RR.gPo (pc' := 75) (lc' := [(9, .int v5), (7, .long r4), (6, .int r2), (0, .ref v0), (1, .int v1), (2, .int v2), (3, .int v3), (4, .int v4), (5, .int v5)]) (st' := [.ref (v0 + 8)]) (S1 := S5) (nL := 12) (cd := cd_412) mx_412 rfl rfl rfl ⟨g1, by decide, by decide⟩ ?_
      refine RR.runs (pc' := 80) (lc' := [(9, .int v5), (7, .long r4), (6, .int r2), (0, .ref v0), (1, .int v1), (2, .int v2), (3, .int v3), (4, .int v4), (5, .int v5)]) (st' := [.int ((v5 + (1 : Int32))), .int (0 : Int32), .ref (v0 + 8)]) (S1 := S5) (nL := 12) (cd := cd_412) mx_412 rfl rfl 4 rfl ?_
      obtain ⟨gq, h⟩ := gpE h
      obtain ⟨g, h⟩ := gnE h
      refine RR.gPNo (c2 := (KO.1 (v0 + 8)).1 = 1) (pc' := 81) (lc' := [(9, .int v5), (7, .long r4), (6, .int r2), (0, .ref v0), (1, .int v1), (2, .int v2), (3, .int v3), (4, .int v4), (5, .int v5)]) (st' := []) (S1 := (wI S5 (v0 + 8) (0 : Int32).toNatClampNeg ((v5 + (1 : Int32))))) (nL := 12) (cd := cd_412) mx_412 rfl rfl rfl gq g ?_
      obtain ⟨S6, eS6, h⟩ := ltE h
      rw [← eS6]
      refine RR.runs (pc' := 84) (lc' := [(10, .int (1 : Int32)), (9, .int v5), (7, .long r4), (6, .int r2), (0, .ref v0), (1, .int v1), (2, .int v2), (3, .int v3), (4, .int v4), (5, .int v5)]) (st' := []) (S1 := S6) (nL := 12) (cd := cd_412) mx_412 rfl rfl 2 rfl ?_
      refine RR.weak [(0, .ref v0), (1, .int v1), (2, .int v2), (3, .int v3), (4, .int v4), (5, .int v5), (6, .int r2), (7, .long r4), (9, .int v5), (10, .int (1 : Int32))] ⟨rfl, rfl, rfl, rfl, rfl, rfl, rfl, rfl, rfl, rfl, trivial⟩ ?_
      exact s_o_na_edits_84 _ (fun _ _ _ _ _ _ S h => ih _ _ _ _ _ _ S h) _ _ _ _ _ _ _ _ _ _ _ _ h
    · refine RR.c_ge (fun q => absurd q c) (fun _ => ?_)
      refine RR.weak [(0, .ref v0), (3, .int v3)] ⟨rfl, rfl, trivial⟩ ?_
      exact s_o_na_edits_183 _ _ _ h
def o_na_edits_41 (v0 : Nat) (v1 : Int32) (v2 : Int32) (v3 : Int32) (v4 : Int32) (S : St) : Re Int32 :=
  o_na_edits_44 FU v0 v1 v2 v3 v4 (0 : Int32) S
set_option maxRecDepth 100000 in
theorem s_o_na_edits_41 {d : Nat} {S' : St} {r : Int32} (v0 : Nat) (v1 : Int32) (v2 : Int32) (v3 : Int32) (v4 : Int32) (S : St) (h : o_na_edits_41 v0 v1 v2 v3 v4 S = some (r, S')) : RR KO (d + 2) 412 41 [(0, .ref v0), (1, .int v1), (2, .int v2), (3, .int v3), (4, .int v4)] [] S (some (.int r)) S' := by
  unfold o_na_edits_41 at h
  refine RR.runs (pc' := 44) (lc' := [(5, .int (0 : Int32)), (0, .ref v0), (1, .int v1), (2, .int v2), (3, .int v3), (4, .int v4)]) (st' := []) (S1 := S) (nL := 12) (cd := cd_412) mx_412 rfl rfl 2 rfl ?_
  refine RR.weak [(0, .ref v0), (1, .int v1), (2, .int v2), (3, .int v3), (4, .int v4), (5, .int (0 : Int32))] ⟨rfl, rfl, rfl, rfl, rfl, rfl, trivial⟩ ?_
  exact s_o_na_edits_44 _ _ _ _ _ _ _ _ h
def o_na_edits_16 : Nat → Nat → Int32 → Int32 → Int32 → Int32 → Int32 → St → Re Int32
  | 0, _, _, _, _, _, _, _ => none
  | n + 1, v0, v1, v2, v3, v4, v5, S =>
  if KO.1 v0 = (0, 2) then (
  if 1 ≤ (KO.1 (v0 + 8)).1 ∧ (KO.1 (v0 + 8)).1 < 8 then (
  if v5 < (Int32.ofNat (KO.1 (v0 + 8)).2) then (
        if (KO.1 (v0 + 8)).1 = 1 then (
    if v5 < 0 ∨ (KO.1 (v0 + 8)).2 ≤ v5.toNatClampNeg then none else
    lt' (wI S (v0 + 8) v5.toNatClampNeg v5) fun S2 =>
    lt' ((v5 + (1 : Int32)) : Int32) fun x3 =>
    o_na_edits_16 n v0 v1 v2 v3 v4 x3 S2) else none)
  else (
    o_na_edits_41 v0 v1 v2 v3 v4 S)) else none) else none
set_option maxRecDepth 100000 in
theorem s_o_na_edits_16 {d : Nat} {S' : St} {r : Int32} : ∀ (n : Nat) (v0 : Nat) (v1 : Int32) (v2 : Int32) (v3 : Int32) (v4 : Int32) (v5 : Int32) (S : St), o_na_edits_16 n v0 v1 v2 v3 v4 v5 S = some (r, S') → RR KO (d + 2) 412 16 [(0, .ref v0), (1, .int v1), (2, .int v2), (3, .int v3), (4, .int v4), (5, .int v5)] [] S (some (.int r)) S' := by
  intro n
  induction n with
  | zero => intro v0 v1 v2 v3 v4 v5 S h; simp only [o_na_edits_16] at h; cases h
  | succ n ih =>
    intro v0 v1 v2 v3 v4 v5 S h
    simp only [o_na_edits_16] at h
    refine RR.runs (pc' := 19) (lc' := [(0, .ref v0), (1, .int v1), (2, .int v2), (3, .int v3), (4, .int v4), (5, .int v5)]) (st' := [.ref v0, .int v5]) (S1 := S) (nL := 12) (cd := cd_412) mx_412 rfl rfl 2 rfl ?_
    obtain ⟨g1, h⟩ := gpE h
    refine RR.gPo (pc' := 22) (lc' := [(0, .ref v0), (1, .int v1), (2, .int v2), (3, .int v3), (4, .int v4), (5, .int v5)]) (st' := [.ref (v0 + 8), .int v5]) (S1 := S) (nL := 12) (cd := cd_412) mx_412 rfl rfl rfl ⟨g1, by decide, by decide⟩ ?_
    obtain ⟨g, h⟩ := gpE h
    refine RR.gP (pc' := 23) (lc' := [(0, .ref v0), (1, .int v1), (2, .int v2), (3, .int v3), (4, .int v4), (5, .int v5)]) (st' := [.int ((Int32.ofNat (KO.1 (v0 + 8)).2)), .int v5]) (S1 := S) (nL := 12) (cd := cd_412) mx_412 rfl rfl rfl g ?_
    refine RR.runs (pc' := icm .ge v5 ((Int32.ofNat (KO.1 (v0 + 8)).2)) 41 26) (lc' := [(0, .ref v0), (1, .int v1), (2, .int v2), (3, .int v3), (4, .int v4), (5, .int v5)]) (st' := []) (S1 := S) (nL := 12) (cd := cd_412) mx_412 rfl rfl 1 rfl ?_
    rcases ifE h with ⟨c, h⟩ | ⟨c, h⟩
    · refine RR.c_ge (fun _ => ?_) (fun q => absurd c q)
      refine RR.runs (pc' := 27) (lc' := [(0, .ref v0), (1, .int v1), (2, .int v2), (3, .int v3), (4, .int v4), (5, .int v5)]) (st' := [.ref v0]) (S1 := S) (nL := 12) (cd := cd_412) mx_412 rfl rfl 1 rfl ?_
      refine RR.gPo (pc' := 30) (lc' := [(0, .ref v0), (1, .int v1), (2, .int v2), (3, .int v3), (4, .int v4), (5, .int v5)]) (st' := [.ref (v0 + 8)]) (S1 := S) (nL := 12) (cd := cd_412) mx_412 rfl rfl rfl ⟨g1, by decide, by decide⟩ ?_
      refine RR.runs (pc' := 34) (lc' := [(0, .ref v0), (1, .int v1), (2, .int v2), (3, .int v3), (4, .int v4), (5, .int v5)]) (st' := [.int v5, .int v5, .ref (v0 + 8)]) (S1 := S) (nL := 12) (cd := cd_412) mx_412 rfl rfl 2 rfl ?_
      obtain ⟨gq, h⟩ := gpE h
      obtain ⟨g, h⟩ := gnE h
      refine RR.gPNo (c2 := (KO.1 (v0 + 8)).1 = 1) (pc' := 35) (lc' := [(0, .ref v0), (1, .int v1), (2, .int v2), (3, .int v3), (4, .int v4), (5, .int v5)]) (st' := []) (S1 := (wI S (v0 + 8) v5.toNatClampNeg v5)) (nL := 12) (cd := cd_412) mx_412 rfl rfl rfl gq g ?_
      obtain ⟨S2, eS2, h⟩ := ltE h
      rw [← eS2]
      refine RR.runs (pc' := 38) (lc' := [(5, .int ((v5 + (1 : Int32)))), (0, .ref v0), (1, .int v1), (2, .int v2), (3, .int v3), (4, .int v4)]) (st' := []) (S1 := S2) (nL := 12) (cd := cd_412) mx_412 rfl rfl 1 rfl ?_
      obtain ⟨x3, ex3, h⟩ := ltE h
      rw [← ex3]
      refine RR.runs (pc' := 16) (lc' := [(5, .int x3), (0, .ref v0), (1, .int v1), (2, .int v2), (3, .int v3), (4, .int v4)]) (st' := []) (S1 := S2) (nL := 12) (cd := cd_412) mx_412 rfl rfl 1 rfl ?_
      refine RR.weak [(0, .ref v0), (1, .int v1), (2, .int v2), (3, .int v3), (4, .int v4), (5, .int x3)] ⟨rfl, rfl, rfl, rfl, rfl, rfl, trivial⟩ ?_
      exact ih _ _ _ _ _ _ _ h
    · refine RR.c_ge (fun q => absurd q c) (fun _ => ?_)
      refine RR.weak [(0, .ref v0), (1, .int v1), (2, .int v2), (3, .int v3), (4, .int v4)] ⟨rfl, rfl, rfl, rfl, rfl, trivial⟩ ?_
      exact s_o_na_edits_41 _ _ _ _ _ _ h
def o_na_edits (v0 : Nat) (v1 : Int32) (v2 : Int32) (S : St) : Re Int32 :=
  if KO.1 v0 = (0, 2) then (
bn (o_na_letters v0 v2 S) fun r2 S3 =>
  bn (o_na_letters v0 v1 S3) fun r4 S5 =>
  o_na_edits_16 FU v0 v1 v2 r2 r4 (0 : Int32) S5) else none
set_option maxRecDepth 100000 in
theorem s0_o_na_edits {d : Nat} {S' : St} {r : Int32} (v0 : Nat) (v1 : Int32) (v2 : Int32) (S : St) (h : o_na_edits v0 v1 v2 S = some (r, S')) : RR KO (d + 2) 412 0 [(0, .ref v0), (1, .int v1), (2, .int v2)] [] S (some (.int r)) S' := by
  unfold o_na_edits at h
  refine RR.runs (pc' := 2) (lc' := [(0, .ref v0), (1, .int v1), (2, .int v2)]) (st' := [.int v2, .ref v0]) (S1 := S) (nL := 12) (cd := cd_412) mx_412 rfl rfl 2 rfl ?_
  obtain ⟨g1, h⟩ := gpE h
  obtain ⟨r2, S3, h1, h⟩ := bnE h
  refine RR.callV (b := v0) (as := [.int v2]) (rest := []) (r1 := (some (.int r2))) (S1 := S3) mx_412 rfl rfl mx_408 rfl rfl (by decide) (Or.inl g1) (Nat.le_of_ble_eq_true rfl) (Nat.le_of_ble_eq_true rfl) (RC.deep (by omega) (s_o_na_letters (d := d) _ _ _ h1)) ?_
  show RR KO _ 412 5 [(0, .ref v0), (1, .int v1), (2, .int v2)] [.int r2] S3 _ _
  refine RR.runs (pc' := 8) (lc' := [(3, .int r2), (0, .ref v0), (1, .int v1), (2, .int v2)]) (st' := [.int v1, .ref v0]) (S1 := S3) (nL := 12) (cd := cd_412) mx_412 rfl rfl 3 rfl ?_
  obtain ⟨r4, S5, h1, h⟩ := bnE h
  refine RR.callV (b := v0) (as := [.int v1]) (rest := []) (r1 := (some (.int r4))) (S1 := S5) mx_412 rfl rfl mx_408 rfl rfl (by decide) (Or.inl g1) (Nat.le_of_ble_eq_true rfl) (Nat.le_of_ble_eq_true rfl) (RC.deep (by omega) (s_o_na_letters (d := d) _ _ _ h1)) ?_
  show RR KO _ 412 11 [(3, .int r2), (0, .ref v0), (1, .int v1), (2, .int v2)] [.int r4] S5 _ _
  refine RR.runs (pc' := 16) (lc' := [(5, .int (0 : Int32)), (4, .int r4), (3, .int r2), (0, .ref v0), (1, .int v1), (2, .int v2)]) (st' := []) (S1 := S5) (nL := 12) (cd := cd_412) mx_412 rfl rfl 3 rfl ?_
  refine RR.weak [(0, .ref v0), (1, .int v1), (2, .int v2), (3, .int r2), (4, .int r4), (5, .int (0 : Int32))] ⟨rfl, rfl, rfl, rfl, rfl, rfl, trivial⟩ ?_
  exact s_o_na_edits_16 _ _ _ _ _ _ _ _ h
theorem s_o_na_edits {d : Nat} {S' : St} {r : Int32} (v0 : Nat) (v1 : Int32) (v2 : Int32) (S : St) (h : o_na_edits v0 v1 v2 S = some (r, S')) : RC KO (d + 2) 412 [.ref v0, .int v1, .int v2] S (some (.int r)) S' := RC.of rfl (s0_o_na_edits v0 v1 v2 S h)
-- NameOrchard$Table clear ()V
def o_tb_clear (v0 : Nat) (S : St) : Re Unit :=
  if KO.1 v0 = (0, 7) then (
lt' (wI S v0 3 (0 : Int32)) fun S1 =>
  some ((), S1)) else none
set_option maxRecDepth 100000 in
theorem s0_o_tb_clear {d : Nat} {S' : St} {r : Unit} (v0 : Nat) (S : St) (h : o_tb_clear v0 S = some (r, S')) : RR KO (d + 0) 1401 0 [(0, .ref v0)] [] S none S' := by
  unfold o_tb_clear at h
  refine RR.runs (pc' := 2) (lc' := [(0, .ref v0)]) (st' := [.int (0 : Int32), .ref v0]) (S1 := S) (nL := 1) (cd := cd_1401) mx_1401 rfl rfl 2 rfl ?_
  obtain ⟨g2, h⟩ := gpE h
  refine RR.gP (pc' := 5) (lc' := [(0, .ref v0)]) (st' := []) (S1 := (wI S v0 3 (0 : Int32))) (nL := 1) (cd := cd_1401) mx_1401 rfl rfl rfl ⟨g2, by decide, rfl, by decide⟩ ?_
  obtain ⟨S1, eS1, h⟩ := ltE h
  rw [← eS1]
  cases h
  exact RR.retv mx_1401 rfl rfl rfl
theorem s_o_tb_clear {d : Nat} {S' : St} {r : Unit} (v0 : Nat) (S : St) (h : o_tb_clear v0 S = some (r, S')) : RC KO (d + 0) 1401 [.ref v0] S none S' := RC.of rfl (s0_o_tb_clear v0 S h)
-- NameOrchard$Told clear ()V
def o_to_clear (v0 : Nat) (S : St) : Re Unit :=
  if KO.1 v0 = (0, 10) then (
  if KO.1 (v0 + 2) = (0, 2) then (
bn (o_na_clear (v0 + 2) S) fun r3 S4 =>
    if KO.1 (v0 + 4) = (0, 2) then (
bn (o_na_clear (v0 + 4) S4) fun r6 S7 =>
    if KO.1 (v0 + 80) = (0, 7) then (
bn (o_tb_clear (v0 + 80) S7) fun r9 S10 =>
    if KO.1 (v0 + 82) = (0, 7) then (
bn (o_tb_clear (v0 + 82) S10) fun r12 S13 =>
    if KO.1 (v0 + 84) = (0, 7) then (
bn (o_tb_clear (v0 + 84) S13) fun r15 S16 =>
    if KO.1 (v0 + 86) = (0, 7) then (
bn (o_tb_clear (v0 + 86) S16) fun r18 S19 =>
    if KO.1 (v0 + 88) = (0, 7) then (
bn (o_tb_clear (v0 + 88) S19) fun r21 S22 =>
  lt' (wI S22 v0 12 (0 : Int32)) fun S23 =>
  lt' (wI S23 v0 13 (0 : Int32)) fun S24 =>
  some ((), S24)) else none) else none) else none) else none) else none) else none) else none) else none
set_option maxRecDepth 100000 in
theorem s0_o_to_clear {d : Nat} {S' : St} {r : Unit} (v0 : Nat) (S : St) (h : o_to_clear v0 S = some (r, S')) : RR KO (d + 1) 2001 0 [(0, .ref v0)] [] S none S' := by
  unfold o_to_clear at h
  refine RR.runs (pc' := 1) (lc' := [(0, .ref v0)]) (st' := [.ref v0]) (S1 := S) (nL := 1) (cd := cd_2001) mx_2001 rfl rfl 1 rfl ?_
  obtain ⟨g1, h⟩ := gpE h
  refine RR.gPo (pc' := 4) (lc' := [(0, .ref v0)]) (st' := [.ref (v0 + 2)]) (S1 := S) (nL := 1) (cd := cd_2001) mx_2001 rfl rfl rfl ⟨g1, by decide, by decide⟩ ?_
  obtain ⟨g2, h⟩ := gpE h
  obtain ⟨r3, S4, h1, h⟩ := bnE h
  refine RR.callV (b := (v0 + 2)) (as := []) (rest := []) (r1 := none) (S1 := S4) mx_2001 rfl rfl mx_402 rfl rfl (by decide) (Or.inl g2) (Nat.le_of_ble_eq_true rfl) (Nat.le_of_ble_eq_true rfl) (RC.deep (by omega) (s_o_na_clear (d := d) _ _ h1)) ?_
  show RR KO _ 2001 7 [(0, .ref v0)] [] S4 _ _
  refine RR.runs (pc' := 8) (lc' := [(0, .ref v0)]) (st' := [.ref v0]) (S1 := S4) (nL := 1) (cd := cd_2001) mx_2001 rfl rfl 1 rfl ?_
  refine RR.gPo (pc' := 11) (lc' := [(0, .ref v0)]) (st' := [.ref (v0 + 4)]) (S1 := S4) (nL := 1) (cd := cd_2001) mx_2001 rfl rfl rfl ⟨g1, by decide, by decide⟩ ?_
  obtain ⟨g5, h⟩ := gpE h
  obtain ⟨r6, S7, h1, h⟩ := bnE h
  refine RR.callV (b := (v0 + 4)) (as := []) (rest := []) (r1 := none) (S1 := S7) mx_2001 rfl rfl mx_402 rfl rfl (by decide) (Or.inl g5) (Nat.le_of_ble_eq_true rfl) (Nat.le_of_ble_eq_true rfl) (RC.deep (by omega) (s_o_na_clear (d := d) _ _ h1)) ?_
  show RR KO _ 2001 14 [(0, .ref v0)] [] S7 _ _
  refine RR.runs (pc' := 15) (lc' := [(0, .ref v0)]) (st' := [.ref v0]) (S1 := S7) (nL := 1) (cd := cd_2001) mx_2001 rfl rfl 1 rfl ?_
  refine RR.gPo (pc' := 18) (lc' := [(0, .ref v0)]) (st' := [.ref (v0 + 80)]) (S1 := S7) (nL := 1) (cd := cd_2001) mx_2001 rfl rfl rfl ⟨g1, by decide, by decide⟩ ?_
  obtain ⟨g8, h⟩ := gpE h
  obtain ⟨r9, S10, h1, h⟩ := bnE h
  refine RR.callV (b := (v0 + 80)) (as := []) (rest := []) (r1 := none) (S1 := S10) mx_2001 rfl rfl mx_1401 rfl rfl (by decide) (Or.inl g8) (Nat.le_of_ble_eq_true rfl) (Nat.le_of_ble_eq_true rfl) (RC.deep (by omega) (s_o_tb_clear (d := d) _ _ h1)) ?_
  show RR KO _ 2001 21 [(0, .ref v0)] [] S10 _ _
  refine RR.runs (pc' := 22) (lc' := [(0, .ref v0)]) (st' := [.ref v0]) (S1 := S10) (nL := 1) (cd := cd_2001) mx_2001 rfl rfl 1 rfl ?_
  refine RR.gPo (pc' := 25) (lc' := [(0, .ref v0)]) (st' := [.ref (v0 + 82)]) (S1 := S10) (nL := 1) (cd := cd_2001) mx_2001 rfl rfl rfl ⟨g1, by decide, by decide⟩ ?_
  obtain ⟨g11, h⟩ := gpE h
  obtain ⟨r12, S13, h1, h⟩ := bnE h
  refine RR.callV (b := (v0 + 82)) (as := []) (rest := []) (r1 := none) (S1 := S13) mx_2001 rfl rfl mx_1401 rfl rfl (by decide) (Or.inl g11) (Nat.le_of_ble_eq_true rfl) (Nat.le_of_ble_eq_true rfl) (RC.deep (by omega) (s_o_tb_clear (d := d) _ _ h1)) ?_
  show RR KO _ 2001 28 [(0, .ref v0)] [] S13 _ _
  refine RR.runs (pc' := 29) (lc' := [(0, .ref v0)]) (st' := [.ref v0]) (S1 := S13) (nL := 1) (cd := cd_2001) mx_2001 rfl rfl 1 rfl ?_
  refine RR.gPo (pc' := 32) (lc' := [(0, .ref v0)]) (st' := [.ref (v0 + 84)]) (S1 := S13) (nL := 1) (cd := cd_2001) mx_2001 rfl rfl rfl ⟨g1, by decide, by decide⟩ ?_
  obtain ⟨g14, h⟩ := gpE h
  obtain ⟨r15, S16, h1, h⟩ := bnE h
  refine RR.callV (b := (v0 + 84)) (as := []) (rest := []) (r1 := none) (S1 := S16) mx_2001 rfl rfl mx_1401 rfl rfl (by decide) (Or.inl g14) (Nat.le_of_ble_eq_true rfl) (Nat.le_of_ble_eq_true rfl) (RC.deep (by omega) (s_o_tb_clear (d := d) _ _ h1)) ?_
  show RR KO _ 2001 35 [(0, .ref v0)] [] S16 _ _
  refine RR.runs (pc' := 36) (lc' := [(0, .ref v0)]) (st' := [.ref v0]) (S1 := S16) (nL := 1) (cd := cd_2001) mx_2001 rfl rfl 1 rfl ?_
  refine RR.gPo (pc' := 39) (lc' := [(0, .ref v0)]) (st' := [.ref (v0 + 86)]) (S1 := S16) (nL := 1) (cd := cd_2001) mx_2001 rfl rfl rfl ⟨g1, by decide, by decide⟩ ?_
  obtain ⟨g17, h⟩ := gpE h
  obtain ⟨r18, S19, h1, h⟩ := bnE h
  refine RR.callV (b := (v0 + 86)) (as := []) (rest := []) (r1 := none) (S1 := S19) mx_2001 rfl rfl mx_1401 rfl rfl (by decide) (Or.inl g17) (Nat.le_of_ble_eq_true rfl) (Nat.le_of_ble_eq_true rfl) (RC.deep (by omega) (s_o_tb_clear (d := d) _ _ h1)) ?_
  show RR KO _ 2001 42 [(0, .ref v0)] [] S19 _ _
  refine RR.runs (pc' := 43) (lc' := [(0, .ref v0)]) (st' := [.ref v0]) (S1 := S19) (nL := 1) (cd := cd_2001) mx_2001 rfl rfl 1 rfl ?_
  refine RR.gPo (pc' := 46) (lc' := [(0, .ref v0)]) (st' := [.ref (v0 + 88)]) (S1 := S19) (nL := 1) (cd := cd_2001) mx_2001 rfl rfl rfl ⟨g1, by decide, by decide⟩ ?_
  obtain ⟨g20, h⟩ := gpE h
  obtain ⟨r21, S22, h1, h⟩ := bnE h
  refine RR.callV (b := (v0 + 88)) (as := []) (rest := []) (r1 := none) (S1 := S22) mx_2001 rfl rfl mx_1401 rfl rfl (by decide) (Or.inl g20) (Nat.le_of_ble_eq_true rfl) (Nat.le_of_ble_eq_true rfl) (RC.deep (by omega) (s_o_tb_clear (d := d) _ _ h1)) ?_
  show RR KO _ 2001 49 [(0, .ref v0)] [] S22 _ _
  refine RR.runs (pc' := 51) (lc' := [(0, .ref v0)]) (st' := [.int (0 : Int32), .ref v0]) (S1 := S22) (nL := 1) (cd := cd_2001) mx_2001 rfl rfl 2 rfl ?_
  refine RR.gPP (pc' := 54) (lc' := [(0, .ref v0)]) (st' := []) (S1 := (wI S22 v0 12 (0 : Int32))) (nL := 1) (cd := cd_2001) mx_2001 rfl rfl rfl ⟨g1, by decide, rfl, by decide⟩ rfl ?_
  obtain ⟨S23, eS23, h⟩ := ltE h
  rw [← eS23]
  refine RR.runs (pc' := 56) (lc' := [(0, .ref v0)]) (st' := [.int (0 : Int32), .ref v0]) (S1 := S23) (nL := 1) (cd := cd_2001) mx_2001 rfl rfl 2 rfl ?_
  refine RR.gPP (pc' := 59) (lc' := [(0, .ref v0)]) (st' := []) (S1 := (wI S23 v0 13 (0 : Int32))) (nL := 1) (cd := cd_2001) mx_2001 rfl rfl rfl ⟨g1, by decide, rfl, by decide⟩ rfl ?_
  obtain ⟨S24, eS24, h⟩ := ltE h
  rw [← eS24]
  cases h
  exact RR.retv mx_2001 rfl rfl rfl
theorem s_o_to_clear {d : Nat} {S' : St} {r : Unit} (v0 : Nat) (S : St) (h : o_to_clear v0 S = some (r, S')) : RC KO (d + 1) 2001 [.ref v0] S none S' := RC.of rfl (s0_o_to_clear v0 S h)
-- NameOrchard$Tape open ()V
def o_tp_open (S : St) : Re Unit :=
  lt' (wI S 3 2 (0 : Int32)) fun S1 =>
  lt' (wI S1 3 7 (0 : Int32)) fun S2 =>
  bn (o_tp_step S2) fun r3 S4 =>
  some ((), S4)
set_option maxRecDepth 100000 in
theorem s0_o_tp_open {d : Nat} {S' : St} {r : Unit} (S : St) (h : o_tp_open S = some (r, S')) : RR KO (d + 3) 1602 0 [(0, .ref 3)] [] S none S' := by
  unfold o_tp_open at h
  refine RR.runs (pc' := 5) (lc' := [(0, .ref 3)]) (st' := []) (S1 := (wI S 3 2 (0 : Int32))) (nL := 1) (cd := cd_1602) mx_1602 rfl rfl 3 rfl ?_
  obtain ⟨S1, eS1, h⟩ := ltE h
  rw [← eS1]
  refine RR.runs (pc' := 10) (lc' := [(0, .ref 3)]) (st' := []) (S1 := (wI S1 3 7 (0 : Int32))) (nL := 1) (cd := cd_1602) mx_1602 rfl rfl 3 rfl ?_
  obtain ⟨S2, eS2, h⟩ := ltE h
  rw [← eS2]
  refine RR.runs (pc' := 11) (lc' := [(0, .ref 3)]) (st' := [.ref 3]) (S1 := S2) (nL := 1) (cd := cd_1602) mx_1602 rfl rfl 1 rfl ?_
  obtain ⟨r3, S4, h1, h⟩ := bnE h
  refine RR.callV (b := 3) (as := []) (rest := []) (r1 := none) (S1 := S4) mx_1602 rfl rfl mx_1605 rfl rfl (by decide) (Or.inl rfl) (Nat.le_of_ble_eq_true rfl) (Nat.le_of_ble_eq_true rfl) (RC.deep (by omega) (s_o_tp_step (d := d) _ h1)) ?_
  show RR KO _ 1602 14 [(0, .ref 3)] [] S4 _ _
  cases h
  exact RR.retv mx_1602 rfl rfl rfl
theorem s_o_tp_open {d : Nat} {S' : St} {r : Unit} (S : St) (h : o_tp_open S = some (r, S')) : RC KO (d + 3) 1602 [.ref 3] S none S' := RC.of rfl (s0_o_tp_open S h)
-- NameOrchard$Reader goesOn ()Z
def o_rd_goesOn_28 (p0 : Int32) (S : St) : Re Int32 :=
  if isBo p0 = true then some (p0, S) else none
set_option maxRecDepth 100000 in
theorem s_o_rd_goesOn_28 {d : Nat} {S' : St} {r : Int32} (p0 : Int32) (S : St) (h : o_rd_goesOn_28 p0 S = some (r, S')) : RR KO (d + 0) 603 28 [] [.int p0] S (some (.int r)) S' := by
  unfold o_rd_goesOn_28 at h
  obtain ⟨g, h⟩ := gpE h
  cases h
  exact RR.retz mx_603 rfl rfl rfl g
def o_rd_goesOn_27 (S : St) : Re Int32 :=
  o_rd_goesOn_28 (0 : Int32) S
set_option maxRecDepth 100000 in
theorem s_o_rd_goesOn_27 {d : Nat} {S' : St} {r : Int32} (S : St) (h : o_rd_goesOn_27 S = some (r, S')) : RR KO (d + 0) 603 27 [] [] S (some (.int r)) S' := by
  unfold o_rd_goesOn_27 at h
  refine RR.runs (pc' := 28) (lc' := []) (st' := [.int (0 : Int32)]) (S1 := S) (nL := 1) (cd := cd_603) mx_603 rfl rfl 1 rfl ?_
  refine RR.weak [] trivial ?_
  exact s_o_rd_goesOn_28 _ _ h
def o_rd_goesOn (S : St) : Re Int32 :=
  if (rI S 3 7) = 0 then (
    oq (rQ S 3 6) none fun o1 =>
    if ((KO.1 o1).1 < 8 ∨ (KO.1 o1).1 = 20) ∧ ((KO.1 1000).1 < 8 ∨ (KO.1 1000).1 = 20) then (
if o1 = 1000 then (
      o_rd_goesOn_27 S)
    else (
      o_rd_goesOn_28 (1 : Int32) S)) else none)
  else (
    o_rd_goesOn_27 S)
set_option maxRecDepth 100000 in
theorem s0_o_rd_goesOn {d : Nat} {S' : St} {r : Int32} (S : St) (h : o_rd_goesOn S = some (r, S')) : RR KO (d + 0) 603 0 [(0, .ref 2)] [] S (some (.int r)) S' := by
  unfold o_rd_goesOn at h
  refine RR.runs (pc' := icm .ne (rI S 3 7) 0 27 10) (lc' := [(0, .ref 2)]) (st' := []) (S1 := S) (nL := 1) (cd := cd_603) mx_603 rfl rfl 4 rfl ?_
  rcases ifE h with ⟨c, h⟩ | ⟨c, h⟩
  · refine RR.c_ne (fun _ => ?_) (fun q => absurd c q)
    refine RR.runs (pc' := 17) (lc' := [(0, .ref 2)]) (st' := [qv (rQ S 3 6)]) (S1 := S) (nL := 1) (cd := cd_603) mx_603 rfl rfl 3 rfl ?_
    rcases oqE h with ⟨e1, h⟩ | ⟨o1, eo1, h⟩
    · cases h
    rw [eo1]
    refine RR.runs (pc' := 20) (lc' := [(0, .ref 2)]) (st' := [.ref 1000, .ref o1]) (S1 := S) (nL := 1) (cd := cd_603) mx_603 rfl rfl 1 rfl ?_
    obtain ⟨g2, h⟩ := gpE h
    refine RR.gP (pc' := acm .eq o1 1000 27 23) (lc' := [(0, .ref 2)]) (st' := []) (S1 := S) (nL := 1) (cd := cd_603) mx_603 rfl rfl rfl g2 ?_
    rcases ifE h with ⟨c, h⟩ | ⟨c, h⟩
    · refine RR.a_eq (fun _ => ?_) (fun q => absurd c q)
      refine RR.weak [] trivial ?_
      exact s_o_rd_goesOn_27 _ h
    · refine RR.a_eq (fun q => absurd q c) (fun _ => ?_)
      refine RR.runs (pc' := 28) (lc' := [(0, .ref 2)]) (st' := [.int (1 : Int32)]) (S1 := S) (nL := 1) (cd := cd_603) mx_603 rfl rfl 2 rfl ?_
      refine RR.weak [] trivial ?_
      exact s_o_rd_goesOn_28 _ _ h
  · refine RR.c_ne (fun q => absurd q c) (fun _ => ?_)
    refine RR.weak [] trivial ?_
    exact s_o_rd_goesOn_27 _ h
theorem s_o_rd_goesOn {d : Nat} {S' : St} {r : Int32} (S : St) (h : o_rd_goesOn S = some (r, S')) : RC KO (d + 0) 603 [.ref 2] S (some (.int r)) S' := RC.of rfl (s0_o_rd_goesOn S h)
-- NameOrchard$Table full ()Z
def o_tb_full_16 (p0 : Int32) (S : St) : Re Int32 :=
  if isBo p0 = true then some (p0, S) else none
set_option maxRecDepth 100000 in
theorem s_o_tb_full_16 {d : Nat} {S' : St} {r : Int32} (p0 : Int32) (S : St) (h : o_tb_full_16 p0 S = some (r, S')) : RR KO (d + 0) 1403 16 [] [.int p0] S (some (.int r)) S' := by
  unfold o_tb_full_16 at h
  obtain ⟨g, h⟩ := gpE h
  cases h
  exact RR.retz mx_1403 rfl rfl rfl g
def o_tb_full (v0 : Nat) (S : St) : Re Int32 :=
  if KO.1 v0 = (0, 7) then (
    if (rI S v0 3) < (rI S v0 0) then (
    o_tb_full_16 (0 : Int32) S)
  else (
    o_tb_full_16 (1 : Int32) S)) else none
set_option maxRecDepth 100000 in
theorem s0_o_tb_full {d : Nat} {S' : St} {r : Int32} (v0 : Nat) (S : St) (h : o_tb_full v0 S = some (r, S')) : RR KO (d + 0) 1403 0 [(0, .ref v0)] [] S (some (.int r)) S' := by
  unfold o_tb_full at h
  refine RR.runs (pc' := 1) (lc' := [(0, .ref v0)]) (st' := [.ref v0]) (S1 := S) (nL := 1) (cd := cd_1403) mx_1403 rfl rfl 1 rfl ?_
  obtain ⟨g1, h⟩ := gpE h
  refine RR.gPo (pc' := 4) (lc' := [(0, .ref v0)]) (st' := [.int (rI S v0 3)]) (S1 := S) (nL := 1) (cd := cd_1403) mx_1403 rfl rfl rfl ⟨g1, by decide, by decide⟩ ?_
  refine RR.runs (pc' := 5) (lc' := [(0, .ref v0)]) (st' := [.ref v0, .int (rI S v0 3)]) (S1 := S) (nL := 1) (cd := cd_1403) mx_1403 rfl rfl 1 rfl ?_
  refine RR.gPo (pc' := 8) (lc' := [(0, .ref v0)]) (st' := [.int (rI S v0 0), .int (rI S v0 3)]) (S1 := S) (nL := 1) (cd := cd_1403) mx_1403 rfl rfl rfl ⟨g1, by decide, by decide⟩ ?_
  refine RR.runs (pc' := icm .lt (rI S v0 3) (rI S v0 0) 15 11) (lc' := [(0, .ref v0)]) (st' := []) (S1 := S) (nL := 1) (cd := cd_1403) mx_1403 rfl rfl 1 rfl ?_
  rcases ifE h with ⟨c, h⟩ | ⟨c, h⟩
  · refine RR.c_lt (fun _ => ?_) (fun q => absurd c q)
    refine RR.runs (pc' := 16) (lc' := [(0, .ref v0)]) (st' := [.int (0 : Int32)]) (S1 := S) (nL := 1) (cd := cd_1403) mx_1403 rfl rfl 1 rfl ?_
    refine RR.weak [] trivial ?_
    exact s_o_tb_full_16 _ _ h
  · refine RR.c_lt (fun q => absurd q c) (fun _ => ?_)
    refine RR.runs (pc' := 16) (lc' := [(0, .ref v0)]) (st' := [.int (1 : Int32)]) (S1 := S) (nL := 1) (cd := cd_1403) mx_1403 rfl rfl 2 rfl ?_
    refine RR.weak [] trivial ?_
    exact s_o_tb_full_16 _ _ h
theorem s_o_tb_full {d : Nat} {S' : St} {r : Int32} (v0 : Nat) (S : St) (h : o_tb_full v0 S = some (r, S')) : RC KO (d + 0) 1403 [.ref v0] S (some (.int r)) S' := RC.of rfl (s0_o_tb_full v0 S h)
-- NameOrchard$Tape wrong (I)V
def o_tp_wrong_20 (S : St) : Re Unit :=
  some ((), S)
set_option maxRecDepth 100000 in
theorem s_o_tp_wrong_20 {d : Nat} {S' : St} {r : Unit} (S : St) (h : o_tp_wrong_20 S = some (r, S')) : RR KO (d + 0) 1603 20 [] [] S none S' := by
  unfold o_tp_wrong_20 at h
  cases h
  exact RR.retv mx_1603 rfl rfl rfl
def o_tp_wrong (v1 : Int32) (S : St) : Re Unit :=
  if (rI S 3 7) = 0 then (
    lt' (wI S 3 7 ((v1 + ((16 : Int32) * (rI S 3 3))))) fun S1 =>
    o_tp_wrong_20 S1)
  else (
    o_tp_wrong_20 S)
set_option maxRecDepth 100000 in
theorem s0_o_tp_wrong {d : Nat} {S' : St} {r : Unit} (v1 : Int32) (S : St) (h : o_tp_wrong v1 S = some (r, S')) : RR KO (d + 0) 1603 0 [(0, .ref 3), (1, .int v1)] [] S none S' := by
  unfold o_tp_wrong at h
  refine RR.runs (pc' := icm .ne (rI S 3 7) 0 20 7) (lc' := [(0, .ref 3), (1, .int v1)]) (st' := []) (S1 := S) (nL := 2) (cd := cd_1603) mx_1603 rfl rfl 3 rfl ?_
  rcases ifE h with ⟨c, h⟩ | ⟨c, h⟩
  · refine RR.c_ne (fun _ => ?_) (fun q => absurd c q)
    refine RR.runs (pc' := 20) (lc' := [(0, .ref 3), (1, .int v1)]) (st' := []) (S1 := (wI S 3 7 ((v1 + ((16 : Int32) * (rI S 3 3)))))) (nL := 2) (cd := cd_1603) mx_1603 rfl rfl 8 rfl ?_
    obtain ⟨S1, eS1, h⟩ := ltE h
    rw [← eS1]
    refine RR.weak [] trivial ?_
    exact s_o_tp_wrong_20 _ h
  · refine RR.c_ne (fun q => absurd q c) (fun _ => ?_)
    refine RR.weak [] trivial ?_
    exact s_o_tp_wrong_20 _ h
theorem s_o_tp_wrong {d : Nat} {S' : St} {r : Unit} (v1 : Int32) (S : St) (h : o_tp_wrong v1 S = some (r, S')) : RC KO (d + 0) 1603 [.ref 3, .int v1] S none S' := RC.of rfl (s0_o_tp_wrong v1 S h)
-- NameOrchard$Reader open (Z)V
def o_rd_open_12 (S : St) : Re Unit :=
  bn (o_tp_step S) fun r1 S2 =>
  some ((), S2)
set_option maxRecDepth 100000 in
theorem s_o_rd_open_12 {d : Nat} {S' : St} {r : Unit} (S : St) (h : o_rd_open_12 S = some (r, S')) : RR KO (d + 3) 606 12 [(0, .ref 2)] [] S none S' := by
  unfold o_rd_open_12 at h
  refine RR.runs (pc' := 16) (lc' := [(0, .ref 2)]) (st' := [.ref 3]) (S1 := S) (nL := 2) (cd := cd_606) mx_606 rfl rfl 2 rfl ?_
  obtain ⟨r1, S2, h1, h⟩ := bnE h
  refine RR.callV (b := 3) (as := []) (rest := []) (r1 := none) (S1 := S2) mx_606 rfl rfl mx_1605 rfl rfl (by decide) (Or.inl rfl) (Nat.le_of_ble_eq_true rfl) (Nat.le_of_ble_eq_true rfl) (RC.deep (by omega) (s_o_tp_step (d := d) _ h1)) ?_
  show RR KO _ 606 19 [(0, .ref 2)] [] S2 _ _
  cases h
  exact RR.retv mx_606 rfl rfl rfl
def o_rd_open (v1 : Int32) (S : St) : Re Unit :=
  if v1 = 0 then (
    o_rd_open_12 S)
  else (
    bn (o_tp_wrong (5 : Int32) S) fun r1 S2 =>
    o_rd_open_12 S2)
set_option maxRecDepth 100000 in
theorem s0_o_rd_open {d : Nat} {S' : St} {r : Unit} (v1 : Int32) (S : St) (h : o_rd_open v1 S = some (r, S')) : RR KO (d + 3) 606 0 [(0, .ref 2), (1, .int v1)] [] S none S' := by
  unfold o_rd_open at h
  refine RR.runs (pc' := icm .eq v1 0 12 4) (lc' := [(0, .ref 2), (1, .int v1)]) (st' := []) (S1 := S) (nL := 2) (cd := cd_606) mx_606 rfl rfl 2 rfl ?_
  rcases ifE h with ⟨c, h⟩ | ⟨c, h⟩
  · refine RR.c_eq (fun _ => ?_) (fun q => absurd c q)
    refine RR.weak [(0, .ref 2)] ⟨rfl, trivial⟩ ?_
    exact s_o_rd_open_12 _ h
  · refine RR.c_eq (fun q => absurd q c) (fun _ => ?_)
    refine RR.runs (pc' := 9) (lc' := [(0, .ref 2), (1, .int v1)]) (st' := [.int (5 : Int32), .ref 3]) (S1 := S) (nL := 2) (cd := cd_606) mx_606 rfl rfl 3 rfl ?_
    obtain ⟨r1, S2, h1, h⟩ := bnE h
    refine RR.callV (b := 3) (as := [.int (5 : Int32)]) (rest := []) (r1 := none) (S1 := S2) mx_606 rfl rfl mx_1603 rfl rfl (by decide) (Or.inl rfl) (Nat.le_of_ble_eq_true rfl) (Nat.le_of_ble_eq_true rfl) (RC.deep (by omega) (s_o_tp_wrong (d := d) _ _ h1)) ?_
    show RR KO _ 606 12 [(0, .ref 2), (1, .int v1)] [] S2 _ _
    refine RR.weak [(0, .ref 2)] ⟨rfl, trivial⟩ ?_
    exact s_o_rd_open_12 _ h
theorem s_o_rd_open {d : Nat} {S' : St} {r : Unit} (v1 : Int32) (S : St) (h : o_rd_open v1 S = some (r, S')) : RC KO (d + 3) 606 [.ref 2, .int v1] S none S' := RC.of rfl (s0_o_rd_open v1 S h)
-- NameOrchard$Token isName ()Z
def o_tk_isName_20 (p0 : Int32) (S : St) : Re Int32 :=
  if isBo p0 = true then some (p0, S) else none
set_option maxRecDepth 100000 in
theorem s_o_tk_isName_20 {d : Nat} {S' : St} {r : Int32} (p0 : Int32) (S : St) (h : o_tk_isName_20 p0 S = some (r, S')) : RR KO (d + 0) 1802 20 [] [.int p0] S (some (.int r)) S' := by
  unfold o_tk_isName_20 at h
  obtain ⟨g, h⟩ := gpE h
  cases h
  exact RR.retz mx_1802 rfl rfl rfl g
def o_tk_isName_15 (S : St) : Re Int32 :=
  o_tk_isName_20 (1 : Int32) S
set_option maxRecDepth 100000 in
theorem s_o_tk_isName_15 {d : Nat} {S' : St} {r : Int32} (S : St) (h : o_tk_isName_15 S = some (r, S')) : RR KO (d + 0) 1802 15 [] [] S (some (.int r)) S' := by
  unfold o_tk_isName_15 at h
  refine RR.runs (pc' := 20) (lc' := []) (st' := [.int (1 : Int32)]) (S1 := S) (nL := 1) (cd := cd_1802) mx_1802 rfl rfl 2 rfl ?_
  refine RR.weak [] trivial ?_
  exact s_o_tk_isName_20 _ _ h
def o_tk_isName (v0 : Nat) (S : St) : Re Int32 :=
  if ((KO.1 v0).1 < 8 ∨ (KO.1 v0).1 = 20) ∧ ((KO.1 1003).1 < 8 ∨ (KO.1 1003).1 = 20) then (
if v0 = 1003 then (
    o_tk_isName_15 S)
  else (
    if (KO.1 v0).1 = 20 then (
    if (tokFL.getD (KO.1 v0).2 0) = (-1 : Int32) then (
      o_tk_isName_20 (0 : Int32) S)
    else (
      o_tk_isName_15 S)) else none)) else none
set_option maxRecDepth 100000 in
theorem s0_o_tk_isName {d : Nat} {S' : St} {r : Int32} (v0 : Nat) (S : St) (h : o_tk_isName v0 S = some (r, S')) : RR KO (d + 0) 1802 0 [(0, .ref v0)] [] S (some (.int r)) S' := by
  unfold o_tk_isName at h
  refine RR.runs (pc' := 4) (lc' := [(0, .ref v0)]) (st' := [.ref 1003, .ref v0]) (S1 := S) (nL := 1) (cd := cd_1802) mx_1802 rfl rfl 2 rfl ?_
  obtain ⟨g1, h⟩ := gpE h
  refine RR.gP (pc' := acm .eq v0 1003 15 7) (lc' := [(0, .ref v0)]) (st' := []) (S1 := S) (nL := 1) (cd := cd_1802) mx_1802 rfl rfl rfl g1 ?_
  rcases ifE h with ⟨c, h⟩ | ⟨c, h⟩
  · refine RR.a_eq (fun _ => ?_) (fun q => absurd c q)
    refine RR.weak [] trivial ?_
    exact s_o_tk_isName_15 _ h
  · refine RR.a_eq (fun q => absurd q c) (fun _ => ?_)
    refine RR.runs (pc' := 8) (lc' := [(0, .ref v0)]) (st' := [.ref v0]) (S1 := S) (nL := 1) (cd := cd_1802) mx_1802 rfl rfl 1 rfl ?_
    obtain ⟨g2, h⟩ := gpE h
    refine RR.gNP (pc' := 11) (lc' := [(0, .ref v0)]) (st' := [.int ((tokFL.getD (KO.1 v0).2 0))]) (S1 := S) (nL := 1) (cd := cd_1802) mx_1802 rfl rfl rfl (fun q => absurd (q.1 ▸ g2 : ((0, 9) : Nat × Nat).1 = 20) (by decide)) ⟨g2, by decide, rfl, by decide, by decide⟩ ?_
    refine RR.runs (pc' := icm .eq ((tokFL.getD (KO.1 v0).2 0)) (-1 : Int32) 19 15) (lc' := [(0, .ref v0)]) (st' := []) (S1 := S) (nL := 1) (cd := cd_1802) mx_1802 rfl rfl 2 rfl ?_
    rcases ifE h with ⟨c, h⟩ | ⟨c, h⟩
    · refine RR.c_eq (fun _ => ?_) (fun q => absurd c q)
      refine RR.runs (pc' := 20) (lc' := [(0, .ref v0)]) (st' := [.int (0 : Int32)]) (S1 := S) (nL := 1) (cd := cd_1802) mx_1802 rfl rfl 1 rfl ?_
      refine RR.weak [] trivial ?_
      exact s_o_tk_isName_20 _ _ h
    · refine RR.c_eq (fun q => absurd q c) (fun _ => ?_)
      refine RR.weak [] trivial ?_
      exact s_o_tk_isName_15 _ h
theorem s_o_tk_isName {d : Nat} {S' : St} {r : Int32} (v0 : Nat) (S : St) (h : o_tk_isName v0 S = some (r, S')) : RC KO (d + 0) 1802 [.ref v0] S (some (.int r)) S' := RC.of rfl (s0_o_tk_isName v0 S h)
-- NameOrchard$Reader isName ()Z
def o_rd_isName_36 (p0 : Int32) (S : St) : Re Int32 :=
  if isBo p0 = true then some (p0, S) else none
set_option maxRecDepth 100000 in
theorem s_o_rd_isName_36 {d : Nat} {S' : St} {r : Int32} (p0 : Int32) (S : St) (h : o_rd_isName_36 p0 S = some (r, S')) : RR KO (d + 1) 608 36 [] [.int p0] S (some (.int r)) S' := by
  unfold o_rd_isName_36 at h
  obtain ⟨g, h⟩ := gpE h
  cases h
  exact RR.retz mx_608 rfl rfl rfl g
def o_rd_isName_21 (S : St) : Re Int32 :=
  if (rI S 3 7) = 0 then (
    o_rd_isName_36 (1 : Int32) S)
  else (
    o_rd_isName_36 (0 : Int32) S)
set_option maxRecDepth 100000 in
theorem s_o_rd_isName_21 {d : Nat} {S' : St} {r : Int32} (S : St) (h : o_rd_isName_21 S = some (r, S')) : RR KO (d + 1) 608 21 [(0, .ref 2)] [] S (some (.int r)) S' := by
  unfold o_rd_isName_21 at h
  refine RR.runs (pc' := icm .ne (rI S 3 7) 0 35 31) (lc' := [(0, .ref 2)]) (st' := []) (S1 := S) (nL := 1) (cd := cd_608) mx_608 rfl rfl 4 rfl ?_
  rcases ifE h with ⟨c, h⟩ | ⟨c, h⟩
  · refine RR.c_ne (fun _ => ?_) (fun q => absurd c q)
    refine RR.runs (pc' := 36) (lc' := [(0, .ref 2)]) (st' := [.int (1 : Int32)]) (S1 := S) (nL := 1) (cd := cd_608) mx_608 rfl rfl 2 rfl ?_
    refine RR.weak [] trivial ?_
    exact s_o_rd_isName_36 _ _ h
  · refine RR.c_ne (fun q => absurd q c) (fun _ => ?_)
    refine RR.runs (pc' := 36) (lc' := [(0, .ref 2)]) (st' := [.int (0 : Int32)]) (S1 := S) (nL := 1) (cd := cd_608) mx_608 rfl rfl 1 rfl ?_
    refine RR.weak [] trivial ?_
    exact s_o_rd_isName_36 _ _ h
def o_rd_isName (S : St) : Re Int32 :=
  oq (rQ S 3 6) none fun o1 =>
  if (KO.1 o1).1 = 20 then (
bn (o_tk_isName o1 S) fun r3 S4 =>
  if r3 = 0 then (
    bn (o_tp_wrong (1 : Int32) S4) fun r5 S6 =>
    o_rd_isName_21 S6)
  else (
    o_rd_isName_21 S4)) else none
set_option maxRecDepth 100000 in
theorem s0_o_rd_isName {d : Nat} {S' : St} {r : Int32} (S : St) (h : o_rd_isName S = some (r, S')) : RR KO (d + 1) 608 0 [(0, .ref 2)] [] S (some (.int r)) S' := by
  unfold o_rd_isName at h
  refine RR.runs (pc' := 7) (lc' := [(0, .ref 2)]) (st' := [qv (rQ S 3 6)]) (S1 := S) (nL := 1) (cd := cd_608) mx_608 rfl rfl 3 rfl ?_
  rcases oqE h with ⟨e1, h⟩ | ⟨o1, eo1, h⟩
  · cases h
  rw [eo1]
  obtain ⟨g2, h⟩ := gpE h
  obtain ⟨r3, S4, h1, h⟩ := bnE h
  refine RR.callV (b := o1) (as := []) (rest := []) (r1 := (some (.int r3))) (S1 := S4) mx_608 rfl rfl mx_1802 rfl rfl (by decide) (Or.inr ⟨g2, rfl⟩) (Nat.le_of_ble_eq_true rfl) (Nat.le_of_ble_eq_true rfl) (RC.deep (by omega) (s_o_tk_isName (d := d) _ _ h1)) ?_
  show RR KO _ 608 10 [(0, .ref 2)] [.int r3] S4 _ _
  refine RR.runs (pc' := icm .ne r3 0 21 13) (lc' := [(0, .ref 2)]) (st' := []) (S1 := S4) (nL := 1) (cd := cd_608) mx_608 rfl rfl 1 rfl ?_
  rcases ifE h with ⟨c, h⟩ | ⟨c, h⟩
  · refine RR.c_ne (fun _ => ?_) (fun q => absurd c q)
    refine RR.runs (pc' := 18) (lc' := [(0, .ref 2)]) (st' := [.int (1 : Int32), .ref 3]) (S1 := S4) (nL := 1) (cd := cd_608) mx_608 rfl rfl 3 rfl ?_
    obtain ⟨r5, S6, h1, h⟩ := bnE h
    refine RR.callV (b := 3) (as := [.int (1 : Int32)]) (rest := []) (r1 := none) (S1 := S6) mx_608 rfl rfl mx_1603 rfl rfl (by decide) (Or.inl rfl) (Nat.le_of_ble_eq_true rfl) (Nat.le_of_ble_eq_true rfl) (RC.deep (by omega) (s_o_tp_wrong (d := d) _ _ h1)) ?_
    show RR KO _ 608 21 [(0, .ref 2)] [] S6 _ _
    refine RR.weak [(0, .ref 2)] ⟨rfl, trivial⟩ ?_
    exact s_o_rd_isName_21 _ h
  · refine RR.c_ne (fun q => absurd q c) (fun _ => ?_)
    refine RR.weak [(0, .ref 2)] ⟨rfl, trivial⟩ ?_
    exact s_o_rd_isName_21 _ h
theorem s_o_rd_isName {d : Nat} {S' : St} {r : Int32} (S : St) (h : o_rd_isName S = some (r, S')) : RC KO (d + 1) 608 [.ref 2] S (some (.int r)) S' := RC.of rfl (s0_o_rd_isName S h)
-- NameOrchard$Reader newName (LNameOrchard$Told;)J
def o_rd_newName_47 (v2 : Int64) (S : St) : Re Int64 :=
  bn (o_tp_step S) fun r1 S2 =>
  some (v2, S2)
set_option maxRecDepth 100000 in
theorem s_o_rd_newName_47 {d : Nat} {S' : St} {r : Int64} (v2 : Int64) (S : St) (h : o_rd_newName_47 v2 S = some (r, S')) : RR KO (d + 3) 609 47 [(0, .ref 2), (2, .long v2)] [] S (some (.long r)) S' := by
  unfold o_rd_newName_47 at h
  refine RR.runs (pc' := 51) (lc' := [(0, .ref 2), (2, .long v2)]) (st' := [.ref 3]) (S1 := S) (nL := 4) (cd := cd_609) mx_609 rfl rfl 2 rfl ?_
  obtain ⟨r1, S2, h1, h⟩ := bnE h
  refine RR.callV (b := 3) (as := []) (rest := []) (r1 := none) (S1 := S2) mx_609 rfl rfl mx_1605 rfl rfl (by decide) (Or.inl rfl) (Nat.le_of_ble_eq_true rfl) (Nat.le_of_ble_eq_true rfl) (RC.deep (by omega) (s_o_tp_step (d := d) _ h1)) ?_
  show RR KO _ 609 54 [(0, .ref 2), (2, .long v2)] [] S2 _ _
  refine RR.runs (pc' := 55) (lc' := [(0, .ref 2), (2, .long v2)]) (st' := [.long v2]) (S1 := S2) (nL := 4) (cd := cd_609) mx_609 rfl rfl 1 rfl ?_
  cases h
  exact RR.retl mx_609 rfl rfl rfl
def o_rd_newName_39 (v2 : Int64) (S : St) : Re Int64 :=
  bn (o_tp_wrong (3 : Int32) S) fun r1 S2 =>
  o_rd_newName_47 v2 S2
set_option maxRecDepth 100000 in
theorem s_o_rd_newName_39 {d : Nat} {S' : St} {r : Int64} (v2 : Int64) (S : St) (h : o_rd_newName_39 v2 S = some (r, S')) : RR KO (d + 3) 609 39 [(0, .ref 2), (2, .long v2)] [] S (some (.long r)) S' := by
  unfold o_rd_newName_39 at h
  refine RR.runs (pc' := 44) (lc' := [(0, .ref 2), (2, .long v2)]) (st' := [.int (3 : Int32), .ref 3]) (S1 := S) (nL := 4) (cd := cd_609) mx_609 rfl rfl 3 rfl ?_
  obtain ⟨r1, S2, h1, h⟩ := bnE h
  refine RR.callV (b := 3) (as := [.int (3 : Int32)]) (rest := []) (r1 := none) (S1 := S2) mx_609 rfl rfl mx_1603 rfl rfl (by decide) (Or.inl rfl) (Nat.le_of_ble_eq_true rfl) (Nat.le_of_ble_eq_true rfl) (RC.deep (by omega) (s_o_tp_wrong (d := d) _ _ h1)) ?_
  show RR KO _ 609 47 [(0, .ref 2), (2, .long v2)] [] S2 _ _
  refine RR.weak [(0, .ref 2), (2, .long v2)] ⟨rfl, rfl, trivial⟩ ?_
  exact s_o_rd_newName_47 _ _ h
def o_rd_newName (v1 : Nat) (S : St) : Re Int64 :=
  lt' ((rJ S 3 5) : Int64) fun x1 =>
  bn (o_rd_isName S) fun r2 S3 =>
  if r2 = 0 then (
    o_rd_newName_47 x1 S3)
  else (
    if KO.1 v1 = (0, 10) then (
    if KO.1 (v1 + 2) = (0, 2) then (
bn (o_na_find (v1 + 2) x1 S3) fun r6 S7 =>
    if r6 = (-1 : Int32) then (
            if KO.1 (v1 + 4) = (0, 2) then (
bn (o_na_find (v1 + 4) x1 S7) fun r9 S10 =>
      if r9 = (-1 : Int32) then (
        o_rd_newName_47 x1 S10)
      else (
        o_rd_newName_39 x1 S10)) else none)
    else (
      o_rd_newName_39 x1 S7)) else none) else none)
set_option maxRecDepth 100000 in
theorem s0_o_rd_newName {d : Nat} {S' : St} {r : Int64} (v1 : Nat) (S : St) (h : o_rd_newName v1 S = some (r, S')) : RR KO (d + 3) 609 0 [(0, .ref 2), (1, .ref v1)] [] S (some (.long r)) S' := by
  unfold o_rd_newName at h
  refine RR.runs (pc' := 8) (lc' := [(2, .long (rJ S 3 5)), (0, .ref 2), (1, .ref v1)]) (st' := []) (S1 := S) (nL := 4) (cd := cd_609) mx_609 rfl rfl 4 rfl ?_
  obtain ⟨x1, ex1, h⟩ := ltE h
  rw [← ex1]
  refine RR.runs (pc' := 9) (lc' := [(2, .long x1), (0, .ref 2), (1, .ref v1)]) (st' := [.ref 2]) (S1 := S) (nL := 4) (cd := cd_609) mx_609 rfl rfl 1 rfl ?_
  obtain ⟨r2, S3, h1, h⟩ := bnE h
  refine RR.callV (b := 2) (as := []) (rest := []) (r1 := (some (.int r2))) (S1 := S3) mx_609 rfl rfl mx_608 rfl rfl (by decide) (Or.inl rfl) (Nat.le_of_ble_eq_true rfl) (Nat.le_of_ble_eq_true rfl) (RC.deep (by omega) (s_o_rd_isName (d := d) _ h1)) ?_
  show RR KO _ 609 12 [(2, .long x1), (0, .ref 2), (1, .ref v1)] [.int r2] S3 _ _
  refine RR.runs (pc' := icm .eq r2 0 47 15) (lc' := [(2, .long x1), (0, .ref 2), (1, .ref v1)]) (st' := []) (S1 := S3) (nL := 4) (cd := cd_609) mx_609 rfl rfl 1 rfl ?_
  rcases ifE h with ⟨c, h⟩ | ⟨c, h⟩
  · refine RR.c_eq (fun _ => ?_) (fun q => absurd c q)
    refine RR.weak [(0, .ref 2), (2, .long x1)] ⟨rfl, rfl, trivial⟩ ?_
    exact s_o_rd_newName_47 _ _ h
  · refine RR.c_eq (fun q => absurd q c) (fun _ => ?_)
    refine RR.runs (pc' := 16) (lc' := [(2, .long x1), (0, .ref 2), (1, .ref v1)]) (st' := [.ref v1]) (S1 := S3) (nL := 4) (cd := cd_609) mx_609 rfl rfl 1 rfl ?_
    obtain ⟨g4, h⟩ := gpE h
    refine RR.gPo (pc' := 19) (lc' := [(2, .long x1), (0, .ref 2), (1, .ref v1)]) (st' := [.ref (v1 + 2)]) (S1 := S3) (nL := 4) (cd := cd_609) mx_609 rfl rfl rfl ⟨g4, by decide, by decide⟩ ?_
    refine RR.runs (pc' := 20) (lc' := [(2, .long x1), (0, .ref 2), (1, .ref v1)]) (st' := [.long x1, .ref (v1 + 2)]) (S1 := S3) (nL := 4) (cd := cd_609) mx_609 rfl rfl 1 rfl ?_
    obtain ⟨g5, h⟩ := gpE h
    obtain ⟨r6, S7, h1, h⟩ := bnE h
    refine RR.callV (b := (v1 + 2)) (as := [.long x1]) (rest := []) (r1 := (some (.int r6))) (S1 := S7) mx_609 rfl rfl mx_406 rfl rfl (by decide) (Or.inl g5) (Nat.le_of_ble_eq_true rfl) (Nat.le_of_ble_eq_true rfl) (RC.deep (by omega) (s_o_na_find (d := d) _ _ _ h1)) ?_
    show RR KO _ 609 23 [(2, .long x1), (0, .ref 2), (1, .ref v1)] [.int r6] S7 _ _
    refine RR.runs (pc' := icm .ne r6 (-1 : Int32) 39 27) (lc' := [(2, .long x1), (0, .ref 2), (1, .ref v1)]) (st' := []) (S1 := S7) (nL := 4) (cd := cd_609) mx_609 rfl rfl 2 rfl ?_
    rcases ifE h with ⟨c, h⟩ | ⟨c, h⟩
    · refine RR.c_ne (fun _ => ?_) (fun q => absurd c q)
      refine RR.runs (pc' := 28) (lc' := [(2, .long x1), (0, .ref 2), (1, .ref v1)]) (st' := [.ref v1]) (S1 := S7) (nL := 4) (cd := cd_609) mx_609 rfl rfl 1 rfl ?_
      refine RR.gPo (pc' := 31) (lc' := [(2, .long x1), (0, .ref 2), (1, .ref v1)]) (st' := [.ref (v1 + 4)]) (S1 := S7) (nL := 4) (cd := cd_609) mx_609 rfl rfl rfl ⟨g4, by decide, by decide⟩ ?_
      refine RR.runs (pc' := 32) (lc' := [(2, .long x1), (0, .ref 2), (1, .ref v1)]) (st' := [.long x1, .ref (v1 + 4)]) (S1 := S7) (nL := 4) (cd := cd_609) mx_609 rfl rfl 1 rfl ?_
      obtain ⟨g8, h⟩ := gpE h
      obtain ⟨r9, S10, h1, h⟩ := bnE h
      refine RR.callV (b := (v1 + 4)) (as := [.long x1]) (rest := []) (r1 := (some (.int r9))) (S1 := S10) mx_609 rfl rfl mx_406 rfl rfl (by decide) (Or.inl g8) (Nat.le_of_ble_eq_true rfl) (Nat.le_of_ble_eq_true rfl) (RC.deep (by omega) (s_o_na_find (d := d) _ _ _ h1)) ?_
      show RR KO _ 609 35 [(2, .long x1), (0, .ref 2), (1, .ref v1)] [.int r9] S10 _ _
      refine RR.runs (pc' := icm .eq r9 (-1 : Int32) 47 39) (lc' := [(2, .long x1), (0, .ref 2), (1, .ref v1)]) (st' := []) (S1 := S10) (nL := 4) (cd := cd_609) mx_609 rfl rfl 2 rfl ?_
      rcases ifE h with ⟨c, h⟩ | ⟨c, h⟩
      · refine RR.c_eq (fun _ => ?_) (fun q => absurd c q)
        refine RR.weak [(0, .ref 2), (2, .long x1)] ⟨rfl, rfl, trivial⟩ ?_
        exact s_o_rd_newName_47 _ _ h
      · refine RR.c_eq (fun q => absurd q c) (fun _ => ?_)
        refine RR.weak [(0, .ref 2), (2, .long x1)] ⟨rfl, rfl, trivial⟩ ?_
        exact s_o_rd_newName_39 _ _ h
    · refine RR.c_ne (fun q => absurd q c) (fun _ => ?_)
      refine RR.weak [(0, .ref 2), (2, .long x1)] ⟨rfl, rfl, trivial⟩ ?_
      exact s_o_rd_newName_39 _ _ h
theorem s_o_rd_newName {d : Nat} {S' : St} {r : Int64} (v1 : Nat) (S : St) (h : o_rd_newName v1 S = some (r, S')) : RC KO (d + 3) 609 [.ref 2, .ref v1] S (some (.long r)) S' := RC.of rfl (s0_o_rd_newName v1 S h)
-- NameOrchard$Token isSort ()Z
def o_tk_isSort_33 (p0 : Int32) (S : St) : Re Int32 :=
  if isBo p0 = true then some (p0, S) else none
set_option maxRecDepth 100000 in
theorem s_o_tk_isSort_33 {d : Nat} {S' : St} {r : Int32} (p0 : Int32) (S : St) (h : o_tk_isSort_33 p0 S = some (r, S')) : RR KO (d + 0) 1804 33 [] [.int p0] S (some (.int r)) S' := by
  unfold o_tk_isSort_33 at h
  obtain ⟨g, h⟩ := gpE h
  cases h
  exact RR.retz mx_1804 rfl rfl rfl g
def o_tk_isSort_28 (S : St) : Re Int32 :=
  o_tk_isSort_33 (1 : Int32) S
set_option maxRecDepth 100000 in
theorem s_o_tk_isSort_28 {d : Nat} {S' : St} {r : Int32} (S : St) (h : o_tk_isSort_28 S = some (r, S')) : RR KO (d + 0) 1804 28 [] [] S (some (.int r)) S' := by
  unfold o_tk_isSort_28 at h
  refine RR.runs (pc' := 33) (lc' := []) (st' := [.int (1 : Int32)]) (S1 := S) (nL := 1) (cd := cd_1804) mx_1804 rfl rfl 2 rfl ?_
  refine RR.weak [] trivial ?_
  exact s_o_tk_isSort_33 _ _ h
def o_tk_isSort (v0 : Nat) (S : St) : Re Int32 :=
  if ((KO.1 v0).1 < 8 ∨ (KO.1 v0).1 = 20) ∧ ((KO.1 1032).1 < 8 ∨ (KO.1 1032).1 = 20) then (
if v0 = 1032 then (
    o_tk_isSort_28 S)
  else (
    if ((KO.1 v0).1 < 8 ∨ (KO.1 v0).1 = 20) ∧ ((KO.1 1033).1 < 8 ∨ (KO.1 1033).1 = 20) then (
if v0 = 1033 then (
      o_tk_isSort_28 S)
    else (
      if ((KO.1 v0).1 < 8 ∨ (KO.1 v0).1 = 20) ∧ ((KO.1 1034).1 < 8 ∨ (KO.1 1034).1 = 20) then (
if v0 = 1034 then (
        o_tk_isSort_28 S)
      else (
        if ((KO.1 v0).1 < 8 ∨ (KO.1 v0).1 = 20) ∧ ((KO.1 1035).1 < 8 ∨ (KO.1 1035).1 = 20) then (
if v0 = 1035 then (
          o_tk_isSort_28 S)
        else (
          o_tk_isSort_33 (0 : Int32) S)) else none)) else none)) else none)) else none
set_option maxRecDepth 100000 in
theorem s0_o_tk_isSort {d : Nat} {S' : St} {r : Int32} (v0 : Nat) (S : St) (h : o_tk_isSort v0 S = some (r, S')) : RR KO (d + 0) 1804 0 [(0, .ref v0)] [] S (some (.int r)) S' := by
  unfold o_tk_isSort at h
  refine RR.runs (pc' := 4) (lc' := [(0, .ref v0)]) (st' := [.ref 1032, .ref v0]) (S1 := S) (nL := 1) (cd := cd_1804) mx_1804 rfl rfl 2 rfl ?_
  obtain ⟨g1, h⟩ := gpE h
  refine RR.gP (pc' := acm .eq v0 1032 28 7) (lc' := [(0, .ref v0)]) (st' := []) (S1 := S) (nL := 1) (cd := cd_1804) mx_1804 rfl rfl rfl g1 ?_
  rcases ifE h with ⟨c, h⟩ | ⟨c, h⟩
  · refine RR.a_eq (fun _ => ?_) (fun q => absurd c q)
    refine RR.weak [] trivial ?_
    exact s_o_tk_isSort_28 _ h
  · refine RR.a_eq (fun q => absurd q c) (fun _ => ?_)
    refine RR.runs (pc' := 11) (lc' := [(0, .ref v0)]) (st' := [.ref 1033, .ref v0]) (S1 := S) (nL := 1) (cd := cd_1804) mx_1804 rfl rfl 2 rfl ?_
    obtain ⟨g2, h⟩ := gpE h
    refine RR.gP (pc' := acm .eq v0 1033 28 14) (lc' := [(0, .ref v0)]) (st' := []) (S1 := S) (nL := 1) (cd := cd_1804) mx_1804 rfl rfl rfl g2 ?_
    rcases ifE h with ⟨c, h⟩ | ⟨c, h⟩
    · refine RR.a_eq (fun _ => ?_) (fun q => absurd c q)
      refine RR.weak [] trivial ?_
      exact s_o_tk_isSort_28 _ h
    · refine RR.a_eq (fun q => absurd q c) (fun _ => ?_)
      refine RR.runs (pc' := 18) (lc' := [(0, .ref v0)]) (st' := [.ref 1034, .ref v0]) (S1 := S) (nL := 1) (cd := cd_1804) mx_1804 rfl rfl 2 rfl ?_
      obtain ⟨g3, h⟩ := gpE h
      refine RR.gP (pc' := acm .eq v0 1034 28 21) (lc' := [(0, .ref v0)]) (st' := []) (S1 := S) (nL := 1) (cd := cd_1804) mx_1804 rfl rfl rfl g3 ?_
      rcases ifE h with ⟨c, h⟩ | ⟨c, h⟩
      · refine RR.a_eq (fun _ => ?_) (fun q => absurd c q)
        refine RR.weak [] trivial ?_
        exact s_o_tk_isSort_28 _ h
      · refine RR.a_eq (fun q => absurd q c) (fun _ => ?_)
        refine RR.runs (pc' := 25) (lc' := [(0, .ref v0)]) (st' := [.ref 1035, .ref v0]) (S1 := S) (nL := 1) (cd := cd_1804) mx_1804 rfl rfl 2 rfl ?_
        obtain ⟨g4, h⟩ := gpE h
        refine RR.gP (pc' := acm .ne v0 1035 32 28) (lc' := [(0, .ref v0)]) (st' := []) (S1 := S) (nL := 1) (cd := cd_1804) mx_1804 rfl rfl rfl g4 ?_
        rcases ifE h with ⟨c, h⟩ | ⟨c, h⟩
        · refine RR.a_ne (fun _ => ?_) (fun q => absurd c q)
          refine RR.weak [] trivial ?_
          exact s_o_tk_isSort_28 _ h
        · refine RR.a_ne (fun q => absurd q c) (fun _ => ?_)
          refine RR.runs (pc' := 33) (lc' := [(0, .ref v0)]) (st' := [.int (0 : Int32)]) (S1 := S) (nL := 1) (cd := cd_1804) mx_1804 rfl rfl 1 rfl ?_
          refine RR.weak [] trivial ?_
          exact s_o_tk_isSort_33 _ _ h
theorem s_o_tk_isSort {d : Nat} {S' : St} {r : Int32} (v0 : Nat) (S : St) (h : o_tk_isSort v0 S = some (r, S')) : RC KO (d + 0) 1804 [.ref v0] S (some (.int r)) S' := RC.of rfl (s0_o_tk_isSort v0 S h)
-- NameOrchard$Reader sortHere ()I
def o_rd_sortHere_60 (p0 : Int32) (S : St) : Re Int32 :=
  some (p0, S)
set_option maxRecDepth 100000 in
theorem s_o_rd_sortHere_60 {d : Nat} {S' : St} {r : Int32} (p0 : Int32) (S : St) (h : o_rd_sortHere_60 p0 S = some (r, S')) : RR KO (d + 3) 614 60 [] [.int p0] S (some (.int r)) S' := by
  unfold o_rd_sortHere_60 at h
  cases h
  exact RR.reti mx_614 rfl rfl rfl
def o_rd_sortHere_23 (v1 : Nat) (S : St) : Re Int32 :=
  bn (o_tp_step S) fun r1 S2 =>
  if ((KO.1 v1).1 < 8 ∨ (KO.1 v1).1 = 20) ∧ ((KO.1 1033).1 < 8 ∨ (KO.1 1033).1 = 20) then (
if v1 = 1033 then (
    some ((1 : Int32), S2))
  else (
    if ((KO.1 v1).1 < 8 ∨ (KO.1 v1).1 = 20) ∧ ((KO.1 1034).1 < 8 ∨ (KO.1 1034).1 = 20) then (
if v1 = 1034 then (
      some ((2 : Int32), S2))
    else (
      if ((KO.1 v1).1 < 8 ∨ (KO.1 v1).1 = 20) ∧ ((KO.1 1035).1 < 8 ∨ (KO.1 1035).1 = 20) then (
if v1 = 1035 then (
        o_rd_sortHere_60 (3 : Int32) S2)
      else (
        o_rd_sortHere_60 (0 : Int32) S2)) else none)) else none)) else none
set_option maxRecDepth 100000 in
theorem s_o_rd_sortHere_23 {d : Nat} {S' : St} {r : Int32} (v1 : Nat) (S : St) (h : o_rd_sortHere_23 v1 S = some (r, S')) : RR KO (d + 3) 614 23 [(0, .ref 2), (1, .ref v1)] [] S (some (.int r)) S' := by
  unfold o_rd_sortHere_23 at h
  refine RR.runs (pc' := 27) (lc' := [(0, .ref 2), (1, .ref v1)]) (st' := [.ref 3]) (S1 := S) (nL := 2) (cd := cd_614) mx_614 rfl rfl 2 rfl ?_
  obtain ⟨r1, S2, h1, h⟩ := bnE h
  refine RR.callV (b := 3) (as := []) (rest := []) (r1 := none) (S1 := S2) mx_614 rfl rfl mx_1605 rfl rfl (by decide) (Or.inl rfl) (Nat.le_of_ble_eq_true rfl) (Nat.le_of_ble_eq_true rfl) (RC.deep (by omega) (s_o_tp_step (d := d) _ h1)) ?_
  show RR KO _ 614 30 [(0, .ref 2), (1, .ref v1)] [] S2 _ _
  refine RR.runs (pc' := 34) (lc' := [(0, .ref 2), (1, .ref v1)]) (st' := [.ref 1033, .ref v1]) (S1 := S2) (nL := 2) (cd := cd_614) mx_614 rfl rfl 2 rfl ?_
  obtain ⟨g3, h⟩ := gpE h
  refine RR.gP (pc' := acm .ne v1 1033 39 37) (lc' := [(0, .ref 2), (1, .ref v1)]) (st' := []) (S1 := S2) (nL := 2) (cd := cd_614) mx_614 rfl rfl rfl g3 ?_
  rcases ifE h with ⟨c, h⟩ | ⟨c, h⟩
  · refine RR.a_ne (fun _ => ?_) (fun q => absurd c q)
    refine RR.runs (pc' := 38) (lc' := [(0, .ref 2), (1, .ref v1)]) (st' := [.int (1 : Int32)]) (S1 := S2) (nL := 2) (cd := cd_614) mx_614 rfl rfl 1 rfl ?_
    cases h
    exact RR.reti mx_614 rfl rfl rfl
  · refine RR.a_ne (fun q => absurd q c) (fun _ => ?_)
    refine RR.runs (pc' := 43) (lc' := [(0, .ref 2), (1, .ref v1)]) (st' := [.ref 1034, .ref v1]) (S1 := S2) (nL := 2) (cd := cd_614) mx_614 rfl rfl 2 rfl ?_
    obtain ⟨g4, h⟩ := gpE h
    refine RR.gP (pc' := acm .ne v1 1034 48 46) (lc' := [(0, .ref 2), (1, .ref v1)]) (st' := []) (S1 := S2) (nL := 2) (cd := cd_614) mx_614 rfl rfl rfl g4 ?_
    rcases ifE h with ⟨c, h⟩ | ⟨c, h⟩
    · refine RR.a_ne (fun _ => ?_) (fun q => absurd c q)
      refine RR.runs (pc' := 47) (lc' := [(0, .ref 2), (1, .ref v1)]) (st' := [.int (2 : Int32)]) (S1 := S2) (nL := 2) (cd := cd_614) mx_614 rfl rfl 1 rfl ?_
      cases h
      exact RR.reti mx_614 rfl rfl rfl
    · refine RR.a_ne (fun q => absurd q c) (fun _ => ?_)
      refine RR.runs (pc' := 52) (lc' := [(0, .ref 2), (1, .ref v1)]) (st' := [.ref 1035, .ref v1]) (S1 := S2) (nL := 2) (cd := cd_614) mx_614 rfl rfl 2 rfl ?_
      obtain ⟨g5, h⟩ := gpE h
      refine RR.gP (pc' := acm .ne v1 1035 59 55) (lc' := [(0, .ref 2), (1, .ref v1)]) (st' := []) (S1 := S2) (nL := 2) (cd := cd_614) mx_614 rfl rfl rfl g5 ?_
      rcases ifE h with ⟨c, h⟩ | ⟨c, h⟩
      · refine RR.a_ne (fun _ => ?_) (fun q => absurd c q)
        refine RR.runs (pc' := 60) (lc' := [(0, .ref 2), (1, .ref v1)]) (st' := [.int (3 : Int32)]) (S1 := S2) (nL := 2) (cd := cd_614) mx_614 rfl rfl 2 rfl ?_
        refine RR.weak [] trivial ?_
        exact s_o_rd_sortHere_60 _ _ h
      · refine RR.a_ne (fun q => absurd q c) (fun _ => ?_)
        refine RR.runs (pc' := 60) (lc' := [(0, .ref 2), (1, .ref v1)]) (st' := [.int (0 : Int32)]) (S1 := S2) (nL := 2) (cd := cd_614) mx_614 rfl rfl 1 rfl ?_
        refine RR.weak [] trivial ?_
        exact s_o_rd_sortHere_60 _ _ h
def o_rd_sortHere (S : St) : Re Int32 :=
  oq (rQ S 3 6) none fun o1 =>
  if (KO.1 o1).1 = 20 then (
bn (o_tk_isSort o1 S) fun r3 S4 =>
  if r3 = 0 then (
    bn (o_tp_wrong (1 : Int32) S4) fun r5 S6 =>
    o_rd_sortHere_23 o1 S6)
  else (
    o_rd_sortHere_23 o1 S4)) else none
set_option maxRecDepth 100000 in
theorem s0_o_rd_sortHere {d : Nat} {S' : St} {r : Int32} (S : St) (h : o_rd_sortHere S = some (r, S')) : RR KO (d + 3) 614 0 [(0, .ref 2)] [] S (some (.int r)) S' := by
  unfold o_rd_sortHere at h
  refine RR.runs (pc' := 7) (lc' := [(0, .ref 2)]) (st' := [qv (rQ S 3 6)]) (S1 := S) (nL := 2) (cd := cd_614) mx_614 rfl rfl 3 rfl ?_
  rcases oqE h with ⟨e1, h⟩ | ⟨o1, eo1, h⟩
  · cases h
  rw [eo1]
  refine RR.runs (pc' := 9) (lc' := [(1, .ref o1), (0, .ref 2)]) (st' := [.ref o1]) (S1 := S) (nL := 2) (cd := cd_614) mx_614 rfl rfl 2 rfl ?_
  obtain ⟨g2, h⟩ := gpE h
  obtain ⟨r3, S4, h1, h⟩ := bnE h
  refine RR.callV (b := o1) (as := []) (rest := []) (r1 := (some (.int r3))) (S1 := S4) mx_614 rfl rfl mx_1804 rfl rfl (by decide) (Or.inr ⟨g2, rfl⟩) (Nat.le_of_ble_eq_true rfl) (Nat.le_of_ble_eq_true rfl) (RC.deep (by omega) (s_o_tk_isSort (d := d) _ _ h1)) ?_
  show RR KO _ 614 12 [(1, .ref o1), (0, .ref 2)] [.int r3] S4 _ _
  refine RR.runs (pc' := icm .ne r3 0 23 15) (lc' := [(1, .ref o1), (0, .ref 2)]) (st' := []) (S1 := S4) (nL := 2) (cd := cd_614) mx_614 rfl rfl 1 rfl ?_
  rcases ifE h with ⟨c, h⟩ | ⟨c, h⟩
  · refine RR.c_ne (fun _ => ?_) (fun q => absurd c q)
    refine RR.runs (pc' := 20) (lc' := [(1, .ref o1), (0, .ref 2)]) (st' := [.int (1 : Int32), .ref 3]) (S1 := S4) (nL := 2) (cd := cd_614) mx_614 rfl rfl 3 rfl ?_
    obtain ⟨r5, S6, h1, h⟩ := bnE h
    refine RR.callV (b := 3) (as := [.int (1 : Int32)]) (rest := []) (r1 := none) (S1 := S6) mx_614 rfl rfl mx_1603 rfl rfl (by decide) (Or.inl rfl) (Nat.le_of_ble_eq_true rfl) (Nat.le_of_ble_eq_true rfl) (RC.deep (by omega) (s_o_tp_wrong (d := d) _ _ h1)) ?_
    show RR KO _ 614 23 [(1, .ref o1), (0, .ref 2)] [] S6 _ _
    refine RR.weak [(0, .ref 2), (1, .ref o1)] ⟨rfl, rfl, trivial⟩ ?_
    exact s_o_rd_sortHere_23 _ _ h
  · refine RR.c_ne (fun q => absurd q c) (fun _ => ?_)
    refine RR.weak [(0, .ref 2), (1, .ref o1)] ⟨rfl, rfl, trivial⟩ ?_
    exact s_o_rd_sortHere_23 _ _ h
theorem s_o_rd_sortHere {d : Nat} {S' : St} {r : Int32} (S : St) (h : o_rd_sortHere S = some (r, S')) : RC KO (d + 3) 614 [.ref 2] S (some (.int r)) S' := RC.of rfl (s0_o_rd_sortHere S h)
-- NameOrchard$Reader take (LNameOrchard$Token;)V
def o_rd_take_19 (S : St) : Re Unit :=
  bn (o_tp_step S) fun r1 S2 =>
  some ((), S2)
set_option maxRecDepth 100000 in
theorem s_o_rd_take_19 {d : Nat} {S' : St} {r : Unit} (S : St) (h : o_rd_take_19 S = some (r, S')) : RR KO (d + 3) 604 19 [(0, .ref 2)] [] S none S' := by
  unfold o_rd_take_19 at h
  refine RR.runs (pc' := 23) (lc' := [(0, .ref 2)]) (st' := [.ref 3]) (S1 := S) (nL := 2) (cd := cd_604) mx_604 rfl rfl 2 rfl ?_
  obtain ⟨r1, S2, h1, h⟩ := bnE h
  refine RR.callV (b := 3) (as := []) (rest := []) (r1 := none) (S1 := S2) mx_604 rfl rfl mx_1605 rfl rfl (by decide) (Or.inl rfl) (Nat.le_of_ble_eq_true rfl) (Nat.le_of_ble_eq_true rfl) (RC.deep (by omega) (s_o_tp_step (d := d) _ h1)) ?_
  show RR KO _ 604 26 [(0, .ref 2)] [] S2 _ _
  cases h
  exact RR.retv mx_604 rfl rfl rfl
def o_rd_take (v1 : Nat) (S : St) : Re Unit :=
  oq (rQ S 3 6) none fun o1 =>
  if ((KO.1 o1).1 < 8 ∨ (KO.1 o1).1 = 20) ∧ ((KO.1 v1).1 < 8 ∨ (KO.1 v1).1 = 20) then (
if o1 = v1 then (
    o_rd_take_19 S)
  else (
    bn (o_tp_wrong (1 : Int32) S) fun r3 S4 =>
    o_rd_take_19 S4)) else none
set_option maxRecDepth 100000 in
theorem s0_o_rd_take {d : Nat} {S' : St} {r : Unit} (v1 : Nat) (S : St) (h : o_rd_take v1 S = some (r, S')) : RR KO (d + 3) 604 0 [(0, .ref 2), (1, .ref v1)] [] S none S' := by
  unfold o_rd_take at h
  refine RR.runs (pc' := 7) (lc' := [(0, .ref 2), (1, .ref v1)]) (st' := [qv (rQ S 3 6)]) (S1 := S) (nL := 2) (cd := cd_604) mx_604 rfl rfl 3 rfl ?_
  rcases oqE h with ⟨e1, h⟩ | ⟨o1, eo1, h⟩
  · cases h
  rw [eo1]
  refine RR.runs (pc' := 8) (lc' := [(0, .ref 2), (1, .ref v1)]) (st' := [.ref v1, .ref o1]) (S1 := S) (nL := 2) (cd := cd_604) mx_604 rfl rfl 1 rfl ?_
  obtain ⟨g2, h⟩ := gpE h
  refine RR.gP (pc' := acm .eq o1 v1 19 11) (lc' := [(0, .ref 2), (1, .ref v1)]) (st' := []) (S1 := S) (nL := 2) (cd := cd_604) mx_604 rfl rfl rfl g2 ?_
  rcases ifE h with ⟨c, h⟩ | ⟨c, h⟩
  · refine RR.a_eq (fun _ => ?_) (fun q => absurd c q)
    refine RR.weak [(0, .ref 2)] ⟨rfl, trivial⟩ ?_
    exact s_o_rd_take_19 _ h
  · refine RR.a_eq (fun q => absurd q c) (fun _ => ?_)
    refine RR.runs (pc' := 16) (lc' := [(0, .ref 2), (1, .ref v1)]) (st' := [.int (1 : Int32), .ref 3]) (S1 := S) (nL := 2) (cd := cd_604) mx_604 rfl rfl 3 rfl ?_
    obtain ⟨r3, S4, h1, h⟩ := bnE h
    refine RR.callV (b := 3) (as := [.int (1 : Int32)]) (rest := []) (r1 := none) (S1 := S4) mx_604 rfl rfl mx_1603 rfl rfl (by decide) (Or.inl rfl) (Nat.le_of_ble_eq_true rfl) (Nat.le_of_ble_eq_true rfl) (RC.deep (by omega) (s_o_tp_wrong (d := d) _ _ h1)) ?_
    show RR KO _ 604 19 [(0, .ref 2), (1, .ref v1)] [] S4 _ _
    refine RR.weak [(0, .ref 2)] ⟨rfl, trivial⟩ ?_
    exact s_o_rd_take_19 _ h
theorem s_o_rd_take {d : Nat} {S' : St} {r : Unit} (v1 : Nat) (S : St) (h : o_rd_take v1 S = some (r, S')) : RC KO (d + 3) 604 [.ref 2, .ref v1] S none S' := RC.of rfl (s0_o_rd_take v1 S h)
-- NameOrchard$Reader number (I)I
def o_rd_number_45 (v2 : Int32) (S : St) : Re Int32 :=
  bn (o_tp_step S) fun r1 S2 =>
  some (v2, S2)
set_option maxRecDepth 100000 in
theorem s_o_rd_number_45 {d : Nat} {S' : St} {r : Int32} (v2 : Int32) (S : St) (h : o_rd_number_45 v2 S = some (r, S')) : RR KO (d + 3) 605 45 [(0, .ref 2), (2, .int v2)] [] S (some (.int r)) S' := by
  unfold o_rd_number_45 at h
  refine RR.runs (pc' := 49) (lc' := [(0, .ref 2), (2, .int v2)]) (st' := [.ref 3]) (S1 := S) (nL := 3) (cd := cd_605) mx_605 rfl rfl 2 rfl ?_
  obtain ⟨r1, S2, h1, h⟩ := bnE h
  refine RR.callV (b := 3) (as := []) (rest := []) (r1 := none) (S1 := S2) mx_605 rfl rfl mx_1605 rfl rfl (by decide) (Or.inl rfl) (Nat.le_of_ble_eq_true rfl) (Nat.le_of_ble_eq_true rfl) (RC.deep (by omega) (s_o_tp_step (d := d) _ h1)) ?_
  show RR KO _ 605 52 [(0, .ref 2), (2, .int v2)] [] S2 _ _
  refine RR.runs (pc' := 53) (lc' := [(0, .ref 2), (2, .int v2)]) (st' := [.int v2]) (S1 := S2) (nL := 3) (cd := cd_605) mx_605 rfl rfl 1 rfl ?_
  cases h
  exact RR.reti mx_605 rfl rfl rfl
def o_rd_number (v1 : Int32) (S : St) : Re Int32 :=
  lt' ((rI S 3 4) : Int32) fun x1 =>
  oq (rQ S 3 6) none fun o2 =>
  if ((KO.1 o2).1 < 8 ∨ (KO.1 o2).1 = 20) ∧ ((KO.1 1002).1 < 8 ∨ (KO.1 1002).1 = 20) then (
if o2 = 1002 then (
    if v1 < x1 then (
      bn (o_tp_wrong (4 : Int32) S) fun r4 S5 =>
      o_rd_number_45 x1 S5)
    else (
      o_rd_number_45 x1 S))
  else (
    bn (o_tp_wrong (1 : Int32) S) fun r6 S7 =>
    o_rd_number_45 x1 S7)) else none
set_option maxRecDepth 100000 in
theorem s0_o_rd_number {d : Nat} {S' : St} {r : Int32} (v1 : Int32) (S : St) (h : o_rd_number v1 S = some (r, S')) : RR KO (d + 3) 605 0 [(0, .ref 2), (1, .int v1)] [] S (some (.int r)) S' := by
  unfold o_rd_number at h
  refine RR.runs (pc' := 8) (lc' := [(2, .int (rI S 3 4)), (0, .ref 2), (1, .int v1)]) (st' := []) (S1 := S) (nL := 3) (cd := cd_605) mx_605 rfl rfl 4 rfl ?_
  obtain ⟨x1, ex1, h⟩ := ltE h
  rw [← ex1]
  refine RR.runs (pc' := 15) (lc' := [(2, .int x1), (0, .ref 2), (1, .int v1)]) (st' := [qv (rQ S 3 6)]) (S1 := S) (nL := 3) (cd := cd_605) mx_605 rfl rfl 3 rfl ?_
  rcases oqE h with ⟨e1, h⟩ | ⟨o2, eo2, h⟩
  · cases h
  rw [eo2]
  refine RR.runs (pc' := 18) (lc' := [(2, .int x1), (0, .ref 2), (1, .int v1)]) (st' := [.ref 1002, .ref o2]) (S1 := S) (nL := 3) (cd := cd_605) mx_605 rfl rfl 1 rfl ?_
  obtain ⟨g3, h⟩ := gpE h
  refine RR.gP (pc' := acm .eq o2 1002 32 21) (lc' := [(2, .int x1), (0, .ref 2), (1, .int v1)]) (st' := []) (S1 := S) (nL := 3) (cd := cd_605) mx_605 rfl rfl rfl g3 ?_
  rcases ifE h with ⟨c, h⟩ | ⟨c, h⟩
  · refine RR.a_eq (fun _ => ?_) (fun q => absurd c q)
    refine RR.runs (pc' := icm .le x1 v1 45 37) (lc' := [(2, .int x1), (0, .ref 2), (1, .int v1)]) (st' := []) (S1 := S) (nL := 3) (cd := cd_605) mx_605 rfl rfl 3 rfl ?_
    rcases ifE h with ⟨c, h⟩ | ⟨c, h⟩
    · refine RR.c_le (fun _ => ?_) (fun q => absurd c q)
      refine RR.runs (pc' := 42) (lc' := [(2, .int x1), (0, .ref 2), (1, .int v1)]) (st' := [.int (4 : Int32), .ref 3]) (S1 := S) (nL := 3) (cd := cd_605) mx_605 rfl rfl 3 rfl ?_
      obtain ⟨r4, S5, h1, h⟩ := bnE h
      refine RR.callV (b := 3) (as := [.int (4 : Int32)]) (rest := []) (r1 := none) (S1 := S5) mx_605 rfl rfl mx_1603 rfl rfl (by decide) (Or.inl rfl) (Nat.le_of_ble_eq_true rfl) (Nat.le_of_ble_eq_true rfl) (RC.deep (by omega) (s_o_tp_wrong (d := d) _ _ h1)) ?_
      show RR KO _ 605 45 [(2, .int x1), (0, .ref 2), (1, .int v1)] [] S5 _ _
      refine RR.weak [(0, .ref 2), (2, .int x1)] ⟨rfl, rfl, trivial⟩ ?_
      exact s_o_rd_number_45 _ _ h
    · refine RR.c_le (fun q => absurd q c) (fun _ => ?_)
      refine RR.weak [(0, .ref 2), (2, .int x1)] ⟨rfl, rfl, trivial⟩ ?_
      exact s_o_rd_number_45 _ _ h
  · refine RR.a_eq (fun q => absurd q c) (fun _ => ?_)
    refine RR.runs (pc' := 26) (lc' := [(2, .int x1), (0, .ref 2), (1, .int v1)]) (st' := [.int (1 : Int32), .ref 3]) (S1 := S) (nL := 3) (cd := cd_605) mx_605 rfl rfl 3 rfl ?_
    obtain ⟨r6, S7, h1, h⟩ := bnE h
    refine RR.callV (b := 3) (as := [.int (1 : Int32)]) (rest := []) (r1 := none) (S1 := S7) mx_605 rfl rfl mx_1603 rfl rfl (by decide) (Or.inl rfl) (Nat.le_of_ble_eq_true rfl) (Nat.le_of_ble_eq_true rfl) (RC.deep (by omega) (s_o_tp_wrong (d := d) _ _ h1)) ?_
    show RR KO _ 605 29 [(2, .int x1), (0, .ref 2), (1, .int v1)] [] S7 _ _
    refine RR.runs (pc' := 45) (lc' := [(2, .int x1), (0, .ref 2), (1, .int v1)]) (st' := []) (S1 := S7) (nL := 3) (cd := cd_605) mx_605 rfl rfl 1 rfl ?_
    refine RR.weak [(0, .ref 2), (2, .int x1)] ⟨rfl, rfl, trivial⟩ ?_
    exact s_o_rd_number_45 _ _ h
theorem s_o_rd_number {d : Nat} {S' : St} {r : Int32} (v1 : Int32) (S : St) (h : o_rd_number v1 S = some (r, S')) : RC KO (d + 3) 605 [.ref 2, .int v1] S (some (.int r)) S' := RC.of rfl (s0_o_rd_number v1 S h)
-- NameOrchard$Table holds (II)Z
def o_tb_holds_37 (p0 : Int32) (S : St) : Re Int32 :=
  if isBo p0 = true then some (p0, S) else none
set_option maxRecDepth 100000 in
theorem s_o_tb_holds_37 {d : Nat} {S' : St} {r : Int32} (p0 : Int32) (S : St) (h : o_tb_holds_37 p0 S = some (r, S')) : RR KO (d + 0) 1404 37 [] [.int p0] S (some (.int r)) S' := by
  unfold o_tb_holds_37 at h
  obtain ⟨g, h⟩ := gpE h
  cases h
  exact RR.retz mx_1404 rfl rfl rfl g
def o_tb_holds_36 (S : St) : Re Int32 :=
  o_tb_holds_37 (0 : Int32) S
set_option maxRecDepth 100000 in
theorem s_o_tb_holds_36 {d : Nat} {S' : St} {r : Int32} (S : St) (h : o_tb_holds_36 S = some (r, S')) : RR KO (d + 0) 1404 36 [] [] S (some (.int r)) S' := by
  unfold o_tb_holds_36 at h
  refine RR.runs (pc' := 37) (lc' := []) (st' := [.int (0 : Int32)]) (S1 := S) (nL := 3) (cd := cd_1404) mx_1404 rfl rfl 1 rfl ?_
  refine RR.weak [] trivial ?_
  exact s_o_tb_holds_37 _ _ h
def o_tb_holds (v0 : Nat) (v1 : Int32) (v2 : Int32) (S : St) : Re Int32 :=
  if v1 < 0 then (
    o_tb_holds_36 S)
  else (
    if KO.1 v0 = (0, 7) then (
    if v1 < (rI S v0 3) then (
            if v1 < (rI S v0 0) then (
        if v2 < 0 then (
          o_tb_holds_36 S)
        else (
                    if v2 < (rI S v0 1) then (
            o_tb_holds_37 (1 : Int32) S)
          else (
            o_tb_holds_36 S)))
      else (
        o_tb_holds_36 S))
    else (
      o_tb_holds_36 S)) else none)
set_option maxRecDepth 100000 in
theorem s0_o_tb_holds {d : Nat} {S' : St} {r : Int32} (v0 : Nat) (v1 : Int32) (v2 : Int32) (S : St) (h : o_tb_holds v0 v1 v2 S = some (r, S')) : RR KO (d + 0) 1404 0 [(0, .ref v0), (1, .int v1), (2, .int v2)] [] S (some (.int r)) S' := by
  unfold o_tb_holds at h
  refine RR.runs (pc' := icm .lt v1 0 36 4) (lc' := [(0, .ref v0), (1, .int v1), (2, .int v2)]) (st' := []) (S1 := S) (nL := 3) (cd := cd_1404) mx_1404 rfl rfl 2 rfl ?_
  rcases ifE h with ⟨c, h⟩ | ⟨c, h⟩
  · refine RR.c_lt (fun _ => ?_) (fun q => absurd c q)
    refine RR.weak [] trivial ?_
    exact s_o_tb_holds_36 _ h
  · refine RR.c_lt (fun q => absurd q c) (fun _ => ?_)
    refine RR.runs (pc' := 6) (lc' := [(0, .ref v0), (1, .int v1), (2, .int v2)]) (st' := [.ref v0, .int v1]) (S1 := S) (nL := 3) (cd := cd_1404) mx_1404 rfl rfl 2 rfl ?_
    obtain ⟨g1, h⟩ := gpE h
    refine RR.gPo (pc' := 9) (lc' := [(0, .ref v0), (1, .int v1), (2, .int v2)]) (st' := [.int (rI S v0 3), .int v1]) (S1 := S) (nL := 3) (cd := cd_1404) mx_1404 rfl rfl rfl ⟨g1, by decide, by decide⟩ ?_
    refine RR.runs (pc' := icm .ge v1 (rI S v0 3) 36 12) (lc' := [(0, .ref v0), (1, .int v1), (2, .int v2)]) (st' := []) (S1 := S) (nL := 3) (cd := cd_1404) mx_1404 rfl rfl 1 rfl ?_
    rcases ifE h with ⟨c, h⟩ | ⟨c, h⟩
    · refine RR.c_ge (fun _ => ?_) (fun q => absurd c q)
      refine RR.runs (pc' := 14) (lc' := [(0, .ref v0), (1, .int v1), (2, .int v2)]) (st' := [.ref v0, .int v1]) (S1 := S) (nL := 3) (cd := cd_1404) mx_1404 rfl rfl 2 rfl ?_
      refine RR.gPo (pc' := 17) (lc' := [(0, .ref v0), (1, .int v1), (2, .int v2)]) (st' := [.int (rI S v0 0), .int v1]) (S1 := S) (nL := 3) (cd := cd_1404) mx_1404 rfl rfl rfl ⟨g1, by decide, by decide⟩ ?_
      refine RR.runs (pc' := icm .ge v1 (rI S v0 0) 36 20) (lc' := [(0, .ref v0), (1, .int v1), (2, .int v2)]) (st' := []) (S1 := S) (nL := 3) (cd := cd_1404) mx_1404 rfl rfl 1 rfl ?_
      rcases ifE h with ⟨c, h⟩ | ⟨c, h⟩
      · refine RR.c_ge (fun _ => ?_) (fun q => absurd c q)
        refine RR.runs (pc' := icm .lt v2 0 36 24) (lc' := [(0, .ref v0), (1, .int v1), (2, .int v2)]) (st' := []) (S1 := S) (nL := 3) (cd := cd_1404) mx_1404 rfl rfl 2 rfl ?_
        rcases ifE h with ⟨c, h⟩ | ⟨c, h⟩
        · refine RR.c_lt (fun _ => ?_) (fun q => absurd c q)
          refine RR.weak [] trivial ?_
          exact s_o_tb_holds_36 _ h
        · refine RR.c_lt (fun q => absurd q c) (fun _ => ?_)
          refine RR.runs (pc' := 26) (lc' := [(0, .ref v0), (1, .int v1), (2, .int v2)]) (st' := [.ref v0, .int v2]) (S1 := S) (nL := 3) (cd := cd_1404) mx_1404 rfl rfl 2 rfl ?_
          refine RR.gPo (pc' := 29) (lc' := [(0, .ref v0), (1, .int v1), (2, .int v2)]) (st' := [.int (rI S v0 1), .int v2]) (S1 := S) (nL := 3) (cd := cd_1404) mx_1404 rfl rfl rfl ⟨g1, by decide, by decide⟩ ?_
          refine RR.runs (pc' := icm .ge v2 (rI S v0 1) 36 32) (lc' := [(0, .ref v0), (1, .int v1), (2, .int v2)]) (st' := []) (S1 := S) (nL := 3) (cd := cd_1404) mx_1404 rfl rfl 1 rfl ?_
          rcases ifE h with ⟨c, h⟩ | ⟨c, h⟩
          · refine RR.c_ge (fun _ => ?_) (fun q => absurd c q)
            refine RR.runs (pc' := 37) (lc' := [(0, .ref v0), (1, .int v1), (2, .int v2)]) (st' := [.int (1 : Int32)]) (S1 := S) (nL := 3) (cd := cd_1404) mx_1404 rfl rfl 2 rfl ?_
            refine RR.weak [] trivial ?_
            exact s_o_tb_holds_37 _ _ h
          · refine RR.c_ge (fun q => absurd q c) (fun _ => ?_)
            refine RR.weak [] trivial ?_
            exact s_o_tb_holds_36 _ h
      · refine RR.c_ge (fun q => absurd q c) (fun _ => ?_)
        refine RR.weak [] trivial ?_
        exact s_o_tb_holds_36 _ h
    · refine RR.c_ge (fun q => absurd q c) (fun _ => ?_)
      refine RR.weak [] trivial ?_
      exact s_o_tb_holds_36 _ h
theorem s_o_tb_holds {d : Nat} {S' : St} {r : Int32} (v0 : Nat) (v1 : Int32) (v2 : Int32) (S : St) (h : o_tb_holds v0 v1 v2 S = some (r, S')) : RC KO (d + 0) 1404 [.ref v0, .int v1, .int v2] S (some (.int r)) S' := RC.of rfl (s0_o_tb_holds v0 v1 v2 S h)
-- NameOrchard$Table put (III)V
def o_tb_put_46 (S : St) : Re Unit :=
  some ((), S)
set_option maxRecDepth 100000 in
theorem s_o_tb_put_46 {d : Nat} {S' : St} {r : Unit} (S : St) (h : o_tb_put_46 S = some (r, S')) : RR KO (d + 1) 1406 46 [] [] S none S' := by
  unfold o_tb_put_46 at h
  cases h
  exact RR.retv mx_1406 rfl rfl rfl
def o_tb_put_21 (v0 : Nat) (v3 : Int32) (p0 : Int32) (S : St) : Re Unit :=
  if p0 < 0 then (
    o_tb_put_46 S)
  else (
    if KO.1 v0 = (0, 7) then (
    if 1 ≤ (KO.1 (v0 + 30)).1 ∧ (KO.1 (v0 + 30)).1 < 8 then (
    if p0 < (Int32.ofNat (KO.1 (v0 + 30)).2) then (
            if (KO.1 (v0 + 30)).1 = 1 then (
      if p0 < 0 ∨ (KO.1 (v0 + 30)).2 ≤ p0.toNatClampNeg then none else
      lt' (wI S (v0 + 30) p0.toNatClampNeg v3) fun S2 =>
      o_tb_put_46 S2) else none)
    else (
      o_tb_put_46 S)) else none) else none)
set_option maxRecDepth 100000 in
theorem s_o_tb_put_21 {d : Nat} {S' : St} {r : Unit} (v0 : Nat) (v3 : Int32) (p0 : Int32) (S : St) (h : o_tb_put_21 v0 v3 p0 S = some (r, S')) : RR KO (d + 1) 1406 21 [(0, .ref v0), (3, .int v3)] [.int p0] S none S' := by
  unfold o_tb_put_21 at h
  refine RR.runs (pc' := icm .lt p0 0 46 28) (lc' := [(4, .int p0), (0, .ref v0), (3, .int v3)]) (st' := []) (S1 := S) (nL := 5) (cd := cd_1406) mx_1406 rfl rfl 3 rfl ?_
  rcases ifE h with ⟨c, h⟩ | ⟨c, h⟩
  · refine RR.c_lt (fun _ => ?_) (fun q => absurd c q)
    refine RR.weak [] trivial ?_
    exact s_o_tb_put_46 _ h
  · refine RR.c_lt (fun q => absurd q c) (fun _ => ?_)
    refine RR.runs (pc' := 31) (lc' := [(4, .int p0), (0, .ref v0), (3, .int v3)]) (st' := [.ref v0, .int p0]) (S1 := S) (nL := 5) (cd := cd_1406) mx_1406 rfl rfl 2 rfl ?_
    obtain ⟨g1, h⟩ := gpE h
    refine RR.gPo (pc' := 34) (lc' := [(4, .int p0), (0, .ref v0), (3, .int v3)]) (st' := [.ref (v0 + 30), .int p0]) (S1 := S) (nL := 5) (cd := cd_1406) mx_1406 rfl rfl rfl ⟨g1, by decide, by decide⟩ ?_
    obtain ⟨g, h⟩ := gpE h
    refine RR.gP (pc' := 35) (lc' := [(4, .int p0), (0, .ref v0), (3, .int v3)]) (st' := [.int ((Int32.ofNat (KO.1 (v0 + 30)).2)), .int p0]) (S1 := S) (nL := 5) (cd := cd_1406) mx_1406 rfl rfl rfl g ?_
    refine RR.runs (pc' := icm .ge p0 ((Int32.ofNat (KO.1 (v0 + 30)).2)) 46 38) (lc' := [(4, .int p0), (0, .ref v0), (3, .int v3)]) (st' := []) (S1 := S) (nL := 5) (cd := cd_1406) mx_1406 rfl rfl 1 rfl ?_
    rcases ifE h with ⟨c, h⟩ | ⟨c, h⟩
    · refine RR.c_ge (fun _ => ?_) (fun q => absurd c q)
      refine RR.runs (pc' := 39) (lc' := [(4, .int p0), (0, .ref v0), (3, .int v3)]) (st' := [.ref v0]) (S1 := S) (nL := 5) (cd := cd_1406) mx_1406 rfl rfl 1 rfl ?_
      refine RR.gPo (pc' := 42) (lc' := [(4, .int p0), (0, .ref v0), (3, .int v3)]) (st' := [.ref (v0 + 30)]) (S1 := S) (nL := 5) (cd := cd_1406) mx_1406 rfl rfl rfl ⟨g1, by decide, by decide⟩ ?_
      refine RR.runs (pc' := 45) (lc' := [(4, .int p0), (0, .ref v0), (3, .int v3)]) (st' := [.int v3, .int p0, .ref (v0 + 30)]) (S1 := S) (nL := 5) (cd := cd_1406) mx_1406 rfl rfl 2 rfl ?_
      obtain ⟨gq, h⟩ := gpE h
      obtain ⟨g, h⟩ := gnE h
      refine RR.gPNo (c2 := (KO.1 (v0 + 30)).1 = 1) (pc' := 46) (lc' := [(4, .int p0), (0, .ref v0), (3, .int v3)]) (st' := []) (S1 := (wI S (v0 + 30) p0.toNatClampNeg v3)) (nL := 5) (cd := cd_1406) mx_1406 rfl rfl rfl gq g ?_
      obtain ⟨S2, eS2, h⟩ := ltE h
      rw [← eS2]
      refine RR.weak [] trivial ?_
      exact s_o_tb_put_46 _ h
    · refine RR.c_ge (fun q => absurd q c) (fun _ => ?_)
      refine RR.weak [] trivial ?_
      exact s_o_tb_put_46 _ h
def o_tb_put (v0 : Nat) (v1 : Int32) (v2 : Int32) (v3 : Int32) (S : St) : Re Unit :=
  if KO.1 v0 = (0, 7) then (
bn (o_tb_holds v0 v1 v2 S) fun r2 S3 =>
  if r2 = 0 then (
    o_tb_put_21 v0 v3 (-1 : Int32) S3)
  else (
        o_tb_put_21 v0 v3 (((v1 * (rI S3 v0 1)) + v2)) S3)) else none
set_option maxRecDepth 100000 in
theorem s0_o_tb_put {d : Nat} {S' : St} {r : Unit} (v0 : Nat) (v1 : Int32) (v2 : Int32) (v3 : Int32) (S : St) (h : o_tb_put v0 v1 v2 v3 S = some (r, S')) : RR KO (d + 1) 1406 0 [(0, .ref v0), (1, .int v1), (2, .int v2), (3, .int v3)] [] S none S' := by
  unfold o_tb_put at h
  refine RR.runs (pc' := 3) (lc' := [(0, .ref v0), (1, .int v1), (2, .int v2), (3, .int v3)]) (st' := [.int v2, .int v1, .ref v0]) (S1 := S) (nL := 5) (cd := cd_1406) mx_1406 rfl rfl 3 rfl ?_
  obtain ⟨g1, h⟩ := gpE h
  obtain ⟨r2, S3, h1, h⟩ := bnE h
  refine RR.callV (b := v0) (as := [.int v1, .int v2]) (rest := []) (r1 := (some (.int r2))) (S1 := S3) mx_1406 rfl rfl mx_1404 rfl rfl (by decide) (Or.inl g1) (Nat.le_of_ble_eq_true rfl) (Nat.le_of_ble_eq_true rfl) (RC.deep (by omega) (s_o_tb_holds (d := d) _ _ _ _ h1)) ?_
  show RR KO _ 1406 6 [(0, .ref v0), (1, .int v1), (2, .int v2), (3, .int v3)] [.int r2] S3 _ _
  refine RR.runs (pc' := icm .eq r2 0 20 9) (lc' := [(0, .ref v0), (1, .int v1), (2, .int v2), (3, .int v3)]) (st' := []) (S1 := S3) (nL := 5) (cd := cd_1406) mx_1406 rfl rfl 1 rfl ?_
  rcases ifE h with ⟨c, h⟩ | ⟨c, h⟩
  · refine RR.c_eq (fun _ => ?_) (fun q => absurd c q)
    refine RR.runs (pc' := 21) (lc' := [(0, .ref v0), (1, .int v1), (2, .int v2), (3, .int v3)]) (st' := [.int (-1 : Int32)]) (S1 := S3) (nL := 5) (cd := cd_1406) mx_1406 rfl rfl 1 rfl ?_
    refine RR.weak [(0, .ref v0), (3, .int v3)] ⟨rfl, rfl, trivial⟩ ?_
    exact s_o_tb_put_21 _ _ _ _ h
  · refine RR.c_eq (fun q => absurd q c) (fun _ => ?_)
    refine RR.runs (pc' := 11) (lc' := [(0, .ref v0), (1, .int v1), (2, .int v2), (3, .int v3)]) (st' := [.ref v0, .int v1]) (S1 := S3) (nL := 5) (cd := cd_1406) mx_1406 rfl rfl 2 rfl ?_
    refine RR.gPo (pc' := 14) (lc' := [(0, .ref v0), (1, .int v1), (2, .int v2), (3, .int v3)]) (st' := [.int (rI S3 v0 1), .int v1]) (S1 := S3) (nL := 5) (cd := cd_1406) mx_1406 rfl rfl rfl ⟨g1, by decide, by decide⟩ ?_
    refine RR.runs (pc' := 21) (lc' := [(0, .ref v0), (1, .int v1), (2, .int v2), (3, .int v3)]) (st' := [.int (((v1 * (rI S3 v0 1)) + v2))]) (S1 := S3) (nL := 5) (cd := cd_1406) mx_1406 rfl rfl 4 rfl ?_
    refine RR.weak [(0, .ref v0), (3, .int v3)] ⟨rfl, rfl, trivial⟩ ?_
    exact s_o_tb_put_21 _ _ _ _ h
theorem s_o_tb_put {d : Nat} {S' : St} {r : Unit} (v0 : Nat) (v1 : Int32) (v2 : Int32) (v3 : Int32) (S : St) (h : o_tb_put v0 v1 v2 v3 S = some (r, S')) : RC KO (d + 1) 1406 [.ref v0, .int v1, .int v2, .int v3] S none S' := RC.of rfl (s0_o_tb_put v0 v1 v2 v3 S h)
-- NameOrchard$Table add ()I
def o_tb_add_47 (v0 : Nat) (S : St) : Re Int32 :=
  if KO.1 v0 = (0, 7) then (
  some (((rI S v0 3) - (1 : Int32)), S)) else none
set_option maxRecDepth 100000 in
theorem s_o_tb_add_47 {d : Nat} {S' : St} {r : Int32} (v0 : Nat) (S : St) (h : o_tb_add_47 v0 S = some (r, S')) : RR KO (d + 2) 1407 47 [(0, .ref v0)] [] S (some (.int r)) S' := by
  unfold o_tb_add_47 at h
  refine RR.runs (pc' := 48) (lc' := [(0, .ref v0)]) (st' := [.ref v0]) (S1 := S) (nL := 2) (cd := cd_1407) mx_1407 rfl rfl 1 rfl ?_
  obtain ⟨g1, h⟩ := gpE h
  refine RR.gPo (pc' := 51) (lc' := [(0, .ref v0)]) (st' := [.int (rI S v0 3)]) (S1 := S) (nL := 2) (cd := cd_1407) mx_1407 rfl rfl rfl ⟨g1, by decide, by decide⟩ ?_
  refine RR.runs (pc' := 53) (lc' := [(0, .ref v0)]) (st' := [.int (((rI S v0 3) - (1 : Int32)))]) (S1 := S) (nL := 2) (cd := cd_1407) mx_1407 rfl rfl 2 rfl ?_
  cases h
  exact RR.reti mx_1407 rfl rfl rfl
def o_tb_add_21 : Nat → Nat → Int32 → St → Re Int32
  | 0, _, _, _ => none
  | n + 1, v0, v1, S =>
  if KO.1 v0 = (0, 7) then (
  if v1 < (rI S v0 1) then (
        bn (o_tb_put v0 (((rI S v0 3) - (1 : Int32))) v1 (0 : Int32) S) fun r2 S3 =>
    lt' ((v1 + (1 : Int32)) : Int32) fun x4 =>
    o_tb_add_21 n v0 x4 S3)
  else (
    o_tb_add_47 v0 S)) else none
set_option maxRecDepth 100000 in
theorem s_o_tb_add_21 {d : Nat} {S' : St} {r : Int32} : ∀ (n : Nat) (v0 : Nat) (v1 : Int32) (S : St), o_tb_add_21 n v0 v1 S = some (r, S') → RR KO (d + 2) 1407 21 [(0, .ref v0), (1, .int v1)] [] S (some (.int r)) S' := by
  intro n
  induction n with
  | zero => intro v0 v1 S h; simp only [o_tb_add_21] at h; cases h
  | succ n ih =>
    intro v0 v1 S h
    simp only [o_tb_add_21] at h
    refine RR.runs (pc' := 23) (lc' := [(0, .ref v0), (1, .int v1)]) (st' := [.ref v0, .int v1]) (S1 := S) (nL := 2) (cd := cd_1407) mx_1407 rfl rfl 2 rfl ?_
    obtain ⟨g1, h⟩ := gpE h
    refine RR.gPo (pc' := 26) (lc' := [(0, .ref v0), (1, .int v1)]) (st' := [.int (rI S v0 1), .int v1]) (S1 := S) (nL := 2) (cd := cd_1407) mx_1407 rfl rfl rfl ⟨g1, by decide, by decide⟩ ?_
    refine RR.runs (pc' := icm .ge v1 (rI S v0 1) 47 29) (lc' := [(0, .ref v0), (1, .int v1)]) (st' := []) (S1 := S) (nL := 2) (cd := cd_1407) mx_1407 rfl rfl 1 rfl ?_
    rcases ifE h with ⟨c, h⟩ | ⟨c, h⟩
    · refine RR.c_ge (fun _ => ?_) (fun q => absurd c q)
      refine RR.runs (pc' := 31) (lc' := [(0, .ref v0), (1, .int v1)]) (st' := [.ref v0, .ref v0]) (S1 := S) (nL := 2) (cd := cd_1407) mx_1407 rfl rfl 2 rfl ?_
      refine RR.gPo (pc' := 34) (lc' := [(0, .ref v0), (1, .int v1)]) (st' := [.int (rI S v0 3), .ref v0]) (S1 := S) (nL := 2) (cd := cd_1407) mx_1407 rfl rfl rfl ⟨g1, by decide, by decide⟩ ?_
      refine RR.runs (pc' := 38) (lc' := [(0, .ref v0), (1, .int v1)]) (st' := [.int (0 : Int32), .int v1, .int (((rI S v0 3) - (1 : Int32))), .ref v0]) (S1 := S) (nL := 2) (cd := cd_1407) mx_1407 rfl rfl 4 rfl ?_
      obtain ⟨r2, S3, h1, h⟩ := bnE h
      refine RR.callV (b := v0) (as := [.int (((rI S v0 3) - (1 : Int32))), .int v1, .int (0 : Int32)]) (rest := []) (r1 := none) (S1 := S3) mx_1407 rfl rfl mx_1406 rfl rfl (by decide) (Or.inl g1) (Nat.le_of_ble_eq_true rfl) (Nat.le_of_ble_eq_true rfl) (RC.deep (by omega) (s_o_tb_put (d := d) _ _ _ _ _ h1)) ?_
      show RR KO _ 1407 41 [(0, .ref v0), (1, .int v1)] [] S3 _ _
      refine RR.runs (pc' := 44) (lc' := [(1, .int ((v1 + (1 : Int32)))), (0, .ref v0)]) (st' := []) (S1 := S3) (nL := 2) (cd := cd_1407) mx_1407 rfl rfl 1 rfl ?_
      obtain ⟨x4, ex4, h⟩ := ltE h
      rw [← ex4]
      refine RR.runs (pc' := 21) (lc' := [(1, .int x4), (0, .ref v0)]) (st' := []) (S1 := S3) (nL := 2) (cd := cd_1407) mx_1407 rfl rfl 1 rfl ?_
      refine RR.weak [(0, .ref v0), (1, .int x4)] ⟨rfl, rfl, trivial⟩ ?_
      exact ih _ _ _ h
    · refine RR.c_ge (fun q => absurd q c) (fun _ => ?_)
      refine RR.weak [(0, .ref v0)] ⟨rfl, trivial⟩ ?_
      exact s_o_tb_add_47 _ _ h
def o_tb_add (v0 : Nat) (S : St) : Re Int32 :=
  if KO.1 v0 = (0, 7) then (
bn (o_tb_full v0 S) fun r2 S3 =>
  if r2 = 0 then (
        lt' (wI S3 v0 3 (((rI S3 v0 3) + (1 : Int32)))) fun S4 =>
    o_tb_add_21 FU v0 (0 : Int32) S4)
  else (
    some ((-1 : Int32), S3))) else none
set_option maxRecDepth 100000 in
theorem s0_o_tb_add {d : Nat} {S' : St} {r : Int32} (v0 : Nat) (S : St) (h : o_tb_add v0 S = some (r, S')) : RR KO (d + 2) 1407 0 [(0, .ref v0)] [] S (some (.int r)) S' := by
  unfold o_tb_add at h
  refine RR.runs (pc' := 1) (lc' := [(0, .ref v0)]) (st' := [.ref v0]) (S1 := S) (nL := 2) (cd := cd_1407) mx_1407 rfl rfl 1 rfl ?_
  obtain ⟨g1, h⟩ := gpE h
  obtain ⟨r2, S3, h1, h⟩ := bnE h
  refine RR.callV (b := v0) (as := []) (rest := []) (r1 := (some (.int r2))) (S1 := S3) mx_1407 rfl rfl mx_1403 rfl rfl (by decide) (Or.inl g1) (Nat.le_of_ble_eq_true rfl) (Nat.le_of_ble_eq_true rfl) (RC.deep (by omega) (s_o_tb_full (d := d) _ _ h1)) ?_
  show RR KO _ 1407 4 [(0, .ref v0)] [.int r2] S3 _ _
  refine RR.runs (pc' := icm .eq r2 0 9 7) (lc' := [(0, .ref v0)]) (st' := []) (S1 := S3) (nL := 2) (cd := cd_1407) mx_1407 rfl rfl 1 rfl ?_
  rcases ifE h with ⟨c, h⟩ | ⟨c, h⟩
  · refine RR.c_eq (fun _ => ?_) (fun q => absurd c q)
    refine RR.runs (pc' := 11) (lc' := [(0, .ref v0)]) (st' := [.ref v0, .ref v0]) (S1 := S3) (nL := 2) (cd := cd_1407) mx_1407 rfl rfl 2 rfl ?_
    refine RR.gPo (pc' := 14) (lc' := [(0, .ref v0)]) (st' := [.int (rI S3 v0 3), .ref v0]) (S1 := S3) (nL := 2) (cd := cd_1407) mx_1407 rfl rfl rfl ⟨g1, by decide, by decide⟩ ?_
    refine RR.runs (pc' := 16) (lc' := [(0, .ref v0)]) (st' := [.int (((rI S3 v0 3) + (1 : Int32))), .ref v0]) (S1 := S3) (nL := 2) (cd := cd_1407) mx_1407 rfl rfl 2 rfl ?_
    refine RR.gP (pc' := 19) (lc' := [(0, .ref v0)]) (st' := []) (S1 := (wI S3 v0 3 (((rI S3 v0 3) + (1 : Int32))))) (nL := 2) (cd := cd_1407) mx_1407 rfl rfl rfl ⟨g1, by decide, rfl, by decide⟩ ?_
    obtain ⟨S4, eS4, h⟩ := ltE h
    rw [← eS4]
    refine RR.runs (pc' := 21) (lc' := [(1, .int (0 : Int32)), (0, .ref v0)]) (st' := []) (S1 := S4) (nL := 2) (cd := cd_1407) mx_1407 rfl rfl 2 rfl ?_
    refine RR.weak [(0, .ref v0), (1, .int (0 : Int32))] ⟨rfl, rfl, trivial⟩ ?_
    exact s_o_tb_add_21 _ _ _ _ h
  · refine RR.c_eq (fun q => absurd q c) (fun _ => ?_)
    refine RR.runs (pc' := 8) (lc' := [(0, .ref v0)]) (st' := [.int (-1 : Int32)]) (S1 := S3) (nL := 2) (cd := cd_1407) mx_1407 rfl rfl 1 rfl ?_
    cases h
    exact RR.reti mx_1407 rfl rfl rfl
theorem s_o_tb_add {d : Nat} {S' : St} {r : Int32} (v0 : Nat) (S : St) (h : o_tb_add v0 S = some (r, S')) : RC KO (d + 2) 1407 [.ref v0] S (some (.int r)) S' := RC.of rfl (s0_o_tb_add v0 S h)
-- NameOrchard$Reader readApple (LNameOrchard$Told;)V
def o_rd_readApple_199 (S : St) : Re Unit :=
  some ((), S)
set_option maxRecDepth 100000 in
theorem s_o_rd_readApple_199 {d : Nat} {S' : St} {r : Unit} (S : St) (h : o_rd_readApple_199 S = some (r, S')) : RR KO (d + 4) 613 199 [] [] S none S' := by
  unfold o_rd_readApple_199 at h
  cases h
  exact RR.retv mx_613 rfl rfl rfl
def o_rd_readApple (v1 : Nat) (S : St) : Re Unit :=
  if KO.1 v1 = (0, 10) then (
  if KO.1 (v1 + 80) = (0, 7) then (
bn (o_tb_full (v1 + 80) S) fun r3 S4 =>
  bn (o_rd_open r3 S4) fun r5 S6 =>
  bn (o_rd_newName v1 S6) fun r7 S8 =>
  bn (o_rd_sortHere S8) fun r9 S10 =>
  bn (o_rd_take 1016 S10) fun r11 S12 =>
  bn (o_rd_number (11 : Int32) S12) fun r13 S14 =>
  bn (o_rd_number (11 : Int32) S14) fun r15 S16 =>
  bn (o_rd_take 1017 S16) fun r17 S18 =>
  bn (o_rd_number (60 : Int32) S18) fun r19 S20 =>
  bn (o_rd_take 1018 S20) fun r21 S22 =>
  bn (o_rd_number (99 : Int32) S22) fun r23 S24 =>
  bn (o_rd_take 1006 S24) fun r25 S26 =>
  if (rI S26 3 7) = 0 then (
        bn (o_tb_add (v1 + 80) S26) fun r27 S28 =>
        bn (o_tb_put (v1 + 80) r27 (0 : Int32) r9 S28) fun r29 S30 =>
        bn (o_tb_put (v1 + 80) r27 (1 : Int32) r13 S30) fun r31 S32 =>
        bn (o_tb_put (v1 + 80) r27 (2 : Int32) r15 S32) fun r33 S34 =>
        bn (o_tb_put (v1 + 80) r27 (3 : Int32) r19 S34) fun r35 S36 =>
        bn (o_tb_put (v1 + 80) r27 (4 : Int32) r23 S36) fun r37 S38 =>
            if KO.1 (v1 + 2) = (0, 2) then (
bn (o_na_size (v1 + 2) S38) fun r40 S41 =>
    bn (o_tb_put (v1 + 80) r27 (5 : Int32) r40 S41) fun r42 S43 =>
        bn (o_tb_put (v1 + 80) r27 (6 : Int32) (-1 : Int32) S43) fun r44 S45 =>
        bn (o_na_add (v1 + 2) r7 S45) fun r46 S47 =>
    o_rd_readApple_199 S47) else none)
  else (
    o_rd_readApple_199 S26)) else none) else none
set_option maxRecDepth 100000 in
theorem s0_o_rd_readApple {d : Nat} {S' : St} {r : Unit} (v1 : Nat) (S : St) (h : o_rd_readApple v1 S = some (r, S')) : RR KO (d + 4) 613 0 [(0, .ref 2), (1, .ref v1)] [] S none S' := by
  unfold o_rd_readApple at h
  refine RR.runs (pc' := 2) (lc' := [(0, .ref 2), (1, .ref v1)]) (st' := [.ref v1, .ref 2]) (S1 := S) (nL := 10) (cd := cd_613) mx_613 rfl rfl 2 rfl ?_
  obtain ⟨g1, h⟩ := gpE h
  refine RR.gPo (pc' := 5) (lc' := [(0, .ref 2), (1, .ref v1)]) (st' := [.ref (v1 + 80), .ref 2]) (S1 := S) (nL := 10) (cd := cd_613) mx_613 rfl rfl rfl ⟨g1, by decide, by decide⟩ ?_
  obtain ⟨g2, h⟩ := gpE h
  obtain ⟨r3, S4, h1, h⟩ := bnE h
  refine RR.callV (b := (v1 + 80)) (as := []) (rest := [.ref 2]) (r1 := (some (.int r3))) (S1 := S4) mx_613 rfl rfl mx_1403 rfl rfl (by decide) (Or.inl g2) (Nat.le_of_ble_eq_true rfl) (Nat.le_of_ble_eq_true rfl) (RC.deep (by omega) (s_o_tb_full (d := d) _ _ h1)) ?_
  show RR KO _ 613 8 [(0, .ref 2), (1, .ref v1)] [.int r3, .ref 2] S4 _ _
  obtain ⟨r5, S6, h1, h⟩ := bnE h
  refine RR.callV (b := 2) (as := [.int r3]) (rest := []) (r1 := none) (S1 := S6) mx_613 rfl rfl mx_606 rfl rfl (by decide) (Or.inl rfl) (Nat.le_of_ble_eq_true rfl) (Nat.le_of_ble_eq_true rfl) (RC.deep (by omega) (s_o_rd_open (d := d) _ _ h1)) ?_
  show RR KO _ 613 11 [(0, .ref 2), (1, .ref v1)] [] S6 _ _
  refine RR.runs (pc' := 13) (lc' := [(0, .ref 2), (1, .ref v1)]) (st' := [.ref v1, .ref 2]) (S1 := S6) (nL := 10) (cd := cd_613) mx_613 rfl rfl 2 rfl ?_
  obtain ⟨r7, S8, h1, h⟩ := bnE h
  refine RR.callV (b := 2) (as := [.ref v1]) (rest := []) (r1 := (some (.long r7))) (S1 := S8) mx_613 rfl rfl mx_609 rfl rfl (by decide) (Or.inl rfl) (Nat.le_of_ble_eq_true rfl) (Nat.le_of_ble_eq_true rfl) (RC.deep (by omega) (s_o_rd_newName (d := d) _ _ h1)) ?_
  show RR KO _ 613 16 [(0, .ref 2), (1, .ref v1)] [.long r7] S8 _ _
  refine RR.runs (pc' := 18) (lc' := [(2, .long r7), (0, .ref 2), (1, .ref v1)]) (st' := [.ref 2]) (S1 := S8) (nL := 10) (cd := cd_613) mx_613 rfl rfl 2 rfl ?_
  obtain ⟨r9, S10, h1, h⟩ := bnE h
  refine RR.callV (b := 2) (as := []) (rest := []) (r1 := (some (.int r9))) (S1 := S10) mx_613 rfl rfl mx_614 rfl rfl (by decide) (Or.inl rfl) (Nat.le_of_ble_eq_true rfl) (Nat.le_of_ble_eq_true rfl) (RC.deep (by omega) (s_o_rd_sortHere (d := d) _ h1)) ?_
  show RR KO _ 613 21 [(2, .long r7), (0, .ref 2), (1, .ref v1)] [.int r9] S10 _ _
  refine RR.runs (pc' := 27) (lc' := [(4, .int r9), (2, .long r7), (0, .ref 2), (1, .ref v1)]) (st' := [.ref 1016, .ref 2]) (S1 := S10) (nL := 10) (cd := cd_613) mx_613 rfl rfl 3 rfl ?_
  obtain ⟨r11, S12, h1, h⟩ := bnE h
  refine RR.callV (b := 2) (as := [.ref 1016]) (rest := []) (r1 := none) (S1 := S12) mx_613 rfl rfl mx_604 rfl rfl (by decide) (Or.inl rfl) (Nat.le_of_ble_eq_true rfl) (Nat.le_of_ble_eq_true rfl) (RC.deep (by omega) (s_o_rd_take (d := d) _ _ h1)) ?_
  show RR KO _ 613 30 [(4, .int r9), (2, .long r7), (0, .ref 2), (1, .ref v1)] [] S12 _ _
  refine RR.runs (pc' := 33) (lc' := [(4, .int r9), (2, .long r7), (0, .ref 2), (1, .ref v1)]) (st' := [.int (11 : Int32), .ref 2]) (S1 := S12) (nL := 10) (cd := cd_613) mx_613 rfl rfl 2 rfl ?_
  obtain ⟨r13, S14, h1, h⟩ := bnE h
  refine RR.callV (b := 2) (as := [.int (11 : Int32)]) (rest := []) (r1 := (some (.int r13))) (S1 := S14) mx_613 rfl rfl mx_605 rfl rfl (by decide) (Or.inl rfl) (Nat.le_of_ble_eq_true rfl) (Nat.le_of_ble_eq_true rfl) (RC.deep (by omega) (s_o_rd_number (d := d) _ _ h1)) ?_
  show RR KO _ 613 36 [(4, .int r9), (2, .long r7), (0, .ref 2), (1, .ref v1)] [.int r13] S14 _ _
  refine RR.runs (pc' := 41) (lc' := [(5, .int r13), (4, .int r9), (2, .long r7), (0, .ref 2), (1, .ref v1)]) (st' := [.int (11 : Int32), .ref 2]) (S1 := S14) (nL := 10) (cd := cd_613) mx_613 rfl rfl 3 rfl ?_
  obtain ⟨r15, S16, h1, h⟩ := bnE h
  refine RR.callV (b := 2) (as := [.int (11 : Int32)]) (rest := []) (r1 := (some (.int r15))) (S1 := S16) mx_613 rfl rfl mx_605 rfl rfl (by decide) (Or.inl rfl) (Nat.le_of_ble_eq_true rfl) (Nat.le_of_ble_eq_true rfl) (RC.deep (by omega) (s_o_rd_number (d := d) _ _ h1)) ?_
  show RR KO _ 613 44 [(5, .int r13), (4, .int r9), (2, .long r7), (0, .ref 2), (1, .ref v1)] [.int r15] S16 _ _
  refine RR.runs (pc' := 50) (lc' := [(6, .int r15), (5, .int r13), (4, .int r9), (2, .long r7), (0, .ref 2), (1, .ref v1)]) (st' := [.ref 1017, .ref 2]) (S1 := S16) (nL := 10) (cd := cd_613) mx_613 rfl rfl 3 rfl ?_
  obtain ⟨r17, S18, h1, h⟩ := bnE h
  refine RR.callV (b := 2) (as := [.ref 1017]) (rest := []) (r1 := none) (S1 := S18) mx_613 rfl rfl mx_604 rfl rfl (by decide) (Or.inl rfl) (Nat.le_of_ble_eq_true rfl) (Nat.le_of_ble_eq_true rfl) (RC.deep (by omega) (s_o_rd_take (d := d) _ _ h1)) ?_
  show RR KO _ 613 53 [(6, .int r15), (5, .int r13), (4, .int r9), (2, .long r7), (0, .ref 2), (1, .ref v1)] [] S18 _ _
  refine RR.runs (pc' := 56) (lc' := [(6, .int r15), (5, .int r13), (4, .int r9), (2, .long r7), (0, .ref 2), (1, .ref v1)]) (st' := [.int (60 : Int32), .ref 2]) (S1 := S18) (nL := 10) (cd := cd_613) mx_613 rfl rfl 2 rfl ?_
  obtain ⟨r19, S20, h1, h⟩ := bnE h
  refine RR.callV (b := 2) (as := [.int (60 : Int32)]) (rest := []) (r1 := (some (.int r19))) (S1 := S20) mx_613 rfl rfl mx_605 rfl rfl (by decide) (Or.inl rfl) (Nat.le_of_ble_eq_true rfl) (Nat.le_of_ble_eq_true rfl) (RC.deep (by omega) (s_o_rd_number (d := d) _ _ h1)) ?_
  show RR KO _ 613 59 [(6, .int r15), (5, .int r13), (4, .int r9), (2, .long r7), (0, .ref 2), (1, .ref v1)] [.int r19] S20 _ _
  refine RR.runs (pc' := 65) (lc' := [(7, .int r19), (6, .int r15), (5, .int r13), (4, .int r9), (2, .long r7), (0, .ref 2), (1, .ref v1)]) (st' := [.ref 1018, .ref 2]) (S1 := S20) (nL := 10) (cd := cd_613) mx_613 rfl rfl 3 rfl ?_
  obtain ⟨r21, S22, h1, h⟩ := bnE h
  refine RR.callV (b := 2) (as := [.ref 1018]) (rest := []) (r1 := none) (S1 := S22) mx_613 rfl rfl mx_604 rfl rfl (by decide) (Or.inl rfl) (Nat.le_of_ble_eq_true rfl) (Nat.le_of_ble_eq_true rfl) (RC.deep (by omega) (s_o_rd_take (d := d) _ _ h1)) ?_
  show RR KO _ 613 68 [(7, .int r19), (6, .int r15), (5, .int r13), (4, .int r9), (2, .long r7), (0, .ref 2), (1, .ref v1)] [] S22 _ _
  refine RR.runs (pc' := 71) (lc' := [(7, .int r19), (6, .int r15), (5, .int r13), (4, .int r9), (2, .long r7), (0, .ref 2), (1, .ref v1)]) (st' := [.int (99 : Int32), .ref 2]) (S1 := S22) (nL := 10) (cd := cd_613) mx_613 rfl rfl 2 rfl ?_
  obtain ⟨r23, S24, h1, h⟩ := bnE h
  refine RR.callV (b := 2) (as := [.int (99 : Int32)]) (rest := []) (r1 := (some (.int r23))) (S1 := S24) mx_613 rfl rfl mx_605 rfl rfl (by decide) (Or.inl rfl) (Nat.le_of_ble_eq_true rfl) (Nat.le_of_ble_eq_true rfl) (RC.deep (by omega) (s_o_rd_number (d := d) _ _ h1)) ?_
  show RR KO _ 613 74 [(7, .int r19), (6, .int r15), (5, .int r13), (4, .int r9), (2, .long r7), (0, .ref 2), (1, .ref v1)] [.int r23] S24 _ _
  refine RR.runs (pc' := 80) (lc' := [(8, .int r23), (7, .int r19), (6, .int r15), (5, .int r13), (4, .int r9), (2, .long r7), (0, .ref 2), (1, .ref v1)]) (st' := [.ref 1006, .ref 2]) (S1 := S24) (nL := 10) (cd := cd_613) mx_613 rfl rfl 3 rfl ?_
  obtain ⟨r25, S26, h1, h⟩ := bnE h
  refine RR.callV (b := 2) (as := [.ref 1006]) (rest := []) (r1 := none) (S1 := S26) mx_613 rfl rfl mx_604 rfl rfl (by decide) (Or.inl rfl) (Nat.le_of_ble_eq_true rfl) (Nat.le_of_ble_eq_true rfl) (RC.deep (by omega) (s_o_rd_take (d := d) _ _ h1)) ?_
  show RR KO _ 613 83 [(8, .int r23), (7, .int r19), (6, .int r15), (5, .int r13), (4, .int r9), (2, .long r7), (0, .ref 2), (1, .ref v1)] [] S26 _ _
  refine RR.runs (pc' := icm .ne (rI S26 3 7) 0 199 93) (lc' := [(8, .int r23), (7, .int r19), (6, .int r15), (5, .int r13), (4, .int r9), (2, .long r7), (0, .ref 2), (1, .ref v1)]) (st' := []) (S1 := S26) (nL := 10) (cd := cd_613) mx_613 rfl rfl 4 rfl ?_
  rcases ifE h with ⟨c, h⟩ | ⟨c, h⟩
  · refine RR.c_ne (fun _ => ?_) (fun q => absurd c q)
    refine RR.runs (pc' := 94) (lc' := [(8, .int r23), (7, .int r19), (6, .int r15), (5, .int r13), (4, .int r9), (2, .long r7), (0, .ref 2), (1, .ref v1)]) (st' := [.ref v1]) (S1 := S26) (nL := 10) (cd := cd_613) mx_613 rfl rfl 1 rfl ?_
    refine RR.gPo (pc' := 97) (lc' := [(8, .int r23), (7, .int r19), (6, .int r15), (5, .int r13), (4, .int r9), (2, .long r7), (0, .ref 2), (1, .ref v1)]) (st' := [.ref (v1 + 80)]) (S1 := S26) (nL := 10) (cd := cd_613) mx_613 rfl rfl rfl ⟨g1, by decide, by decide⟩ ?_
    obtain ⟨r27, S28, h1, h⟩ := bnE h
    refine RR.callV (b := (v1 + 80)) (as := []) (rest := []) (r1 := (some (.int r27))) (S1 := S28) mx_613 rfl rfl mx_1407 rfl rfl (by decide) (Or.inl g2) (Nat.le_of_ble_eq_true rfl) (Nat.le_of_ble_eq_true rfl) (RC.deep (by omega) (s_o_tb_add (d := d) _ _ h1)) ?_
    show RR KO _ 613 100 [(8, .int r23), (7, .int r19), (6, .int r15), (5, .int r13), (4, .int r9), (2, .long r7), (0, .ref 2), (1, .ref v1)] [.int r27] S28 _ _
    refine RR.runs (pc' := 103) (lc' := [(9, .int r27), (8, .int r23), (7, .int r19), (6, .int r15), (5, .int r13), (4, .int r9), (2, .long r7), (0, .ref 2), (1, .ref v1)]) (st' := [.ref v1]) (S1 := S28) (nL := 10) (cd := cd_613) mx_613 rfl rfl 2 rfl ?_
    refine RR.gPo (pc' := 106) (lc' := [(9, .int r27), (8, .int r23), (7, .int r19), (6, .int r15), (5, .int r13), (4, .int r9), (2, .long r7), (0, .ref 2), (1, .ref v1)]) (st' := [.ref (v1 + 80)]) (S1 := S28) (nL := 10) (cd := cd_613) mx_613 rfl rfl rfl ⟨g1, by decide, by decide⟩ ?_
    refine RR.runs (pc' := 111) (lc' := [(9, .int r27), (8, .int r23), (7, .int r19), (6, .int r15), (5, .int r13), (4, .int r9), (2, .long r7), (0, .ref 2), (1, .ref v1)]) (st' := [.int r9, .int (0 : Int32), .int r27, .ref (v1 + 80)]) (S1 := S28) (nL := 10) (cd := cd_613) mx_613 rfl rfl 3 rfl ?_
    obtain ⟨r29, S30, h1, h⟩ := bnE h
    refine RR.callV (b := (v1 + 80)) (as := [.int r27, .int (0 : Int32), .int r9]) (rest := []) (r1 := none) (S1 := S30) mx_613 rfl rfl mx_1406 rfl rfl (by decide) (Or.inl g2) (Nat.le_of_ble_eq_true rfl) (Nat.le_of_ble_eq_true rfl) (RC.deep (by omega) (s_o_tb_put (d := d) _ _ _ _ _ h1)) ?_
    show RR KO _ 613 114 [(9, .int r27), (8, .int r23), (7, .int r19), (6, .int r15), (5, .int r13), (4, .int r9), (2, .long r7), (0, .ref 2), (1, .ref v1)] [] S30 _ _
    refine RR.runs (pc' := 115) (lc' := [(9, .int r27), (8, .int r23), (7, .int r19), (6, .int r15), (5, .int r13), (4, .int r9), (2, .long r7), (0, .ref 2), (1, .ref v1)]) (st' := [.ref v1]) (S1 := S30) (nL := 10) (cd := cd_613) mx_613 rfl rfl 1 rfl ?_
    refine RR.gPo (pc' := 118) (lc' := [(9, .int r27), (8, .int r23), (7, .int r19), (6, .int r15), (5, .int r13), (4, .int r9), (2, .long r7), (0, .ref 2), (1, .ref v1)]) (st' := [.ref (v1 + 80)]) (S1 := S30) (nL := 10) (cd := cd_613) mx_613 rfl rfl rfl ⟨g1, by decide, by decide⟩ ?_
    refine RR.runs (pc' := 123) (lc' := [(9, .int r27), (8, .int r23), (7, .int r19), (6, .int r15), (5, .int r13), (4, .int r9), (2, .long r7), (0, .ref 2), (1, .ref v1)]) (st' := [.int r13, .int (1 : Int32), .int r27, .ref (v1 + 80)]) (S1 := S30) (nL := 10) (cd := cd_613) mx_613 rfl rfl 3 rfl ?_
    obtain ⟨r31, S32, h1, h⟩ := bnE h
    refine RR.callV (b := (v1 + 80)) (as := [.int r27, .int (1 : Int32), .int r13]) (rest := []) (r1 := none) (S1 := S32) mx_613 rfl rfl mx_1406 rfl rfl (by decide) (Or.inl g2) (Nat.le_of_ble_eq_true rfl) (Nat.le_of_ble_eq_true rfl) (RC.deep (by omega) (s_o_tb_put (d := d) _ _ _ _ _ h1)) ?_
    show RR KO _ 613 126 [(9, .int r27), (8, .int r23), (7, .int r19), (6, .int r15), (5, .int r13), (4, .int r9), (2, .long r7), (0, .ref 2), (1, .ref v1)] [] S32 _ _
    refine RR.runs (pc' := 127) (lc' := [(9, .int r27), (8, .int r23), (7, .int r19), (6, .int r15), (5, .int r13), (4, .int r9), (2, .long r7), (0, .ref 2), (1, .ref v1)]) (st' := [.ref v1]) (S1 := S32) (nL := 10) (cd := cd_613) mx_613 rfl rfl 1 rfl ?_
    refine RR.gPo (pc' := 130) (lc' := [(9, .int r27), (8, .int r23), (7, .int r19), (6, .int r15), (5, .int r13), (4, .int r9), (2, .long r7), (0, .ref 2), (1, .ref v1)]) (st' := [.ref (v1 + 80)]) (S1 := S32) (nL := 10) (cd := cd_613) mx_613 rfl rfl rfl ⟨g1, by decide, by decide⟩ ?_
    refine RR.runs (pc' := 135) (lc' := [(9, .int r27), (8, .int r23), (7, .int r19), (6, .int r15), (5, .int r13), (4, .int r9), (2, .long r7), (0, .ref 2), (1, .ref v1)]) (st' := [.int r15, .int (2 : Int32), .int r27, .ref (v1 + 80)]) (S1 := S32) (nL := 10) (cd := cd_613) mx_613 rfl rfl 3 rfl ?_
    obtain ⟨r33, S34, h1, h⟩ := bnE h
    refine RR.callV (b := (v1 + 80)) (as := [.int r27, .int (2 : Int32), .int r15]) (rest := []) (r1 := none) (S1 := S34) mx_613 rfl rfl mx_1406 rfl rfl (by decide) (Or.inl g2) (Nat.le_of_ble_eq_true rfl) (Nat.le_of_ble_eq_true rfl) (RC.deep (by omega) (s_o_tb_put (d := d) _ _ _ _ _ h1)) ?_
    show RR KO _ 613 138 [(9, .int r27), (8, .int r23), (7, .int r19), (6, .int r15), (5, .int r13), (4, .int r9), (2, .long r7), (0, .ref 2), (1, .ref v1)] [] S34 _ _
    refine RR.runs (pc' := 139) (lc' := [(9, .int r27), (8, .int r23), (7, .int r19), (6, .int r15), (5, .int r13), (4, .int r9), (2, .long r7), (0, .ref 2), (1, .ref v1)]) (st' := [.ref v1]) (S1 := S34) (nL := 10) (cd := cd_613) mx_613 rfl rfl 1 rfl ?_
    refine RR.gPo (pc' := 142) (lc' := [(9, .int r27), (8, .int r23), (7, .int r19), (6, .int r15), (5, .int r13), (4, .int r9), (2, .long r7), (0, .ref 2), (1, .ref v1)]) (st' := [.ref (v1 + 80)]) (S1 := S34) (nL := 10) (cd := cd_613) mx_613 rfl rfl rfl ⟨g1, by decide, by decide⟩ ?_
    refine RR.runs (pc' := 147) (lc' := [(9, .int r27), (8, .int r23), (7, .int r19), (6, .int r15), (5, .int r13), (4, .int r9), (2, .long r7), (0, .ref 2), (1, .ref v1)]) (st' := [.int r19, .int (3 : Int32), .int r27, .ref (v1 + 80)]) (S1 := S34) (nL := 10) (cd := cd_613) mx_613 rfl rfl 3 rfl ?_
    obtain ⟨r35, S36, h1, h⟩ := bnE h
    refine RR.callV (b := (v1 + 80)) (as := [.int r27, .int (3 : Int32), .int r19]) (rest := []) (r1 := none) (S1 := S36) mx_613 rfl rfl mx_1406 rfl rfl (by decide) (Or.inl g2) (Nat.le_of_ble_eq_true rfl) (Nat.le_of_ble_eq_true rfl) (RC.deep (by omega) (s_o_tb_put (d := d) _ _ _ _ _ h1)) ?_
    show RR KO _ 613 150 [(9, .int r27), (8, .int r23), (7, .int r19), (6, .int r15), (5, .int r13), (4, .int r9), (2, .long r7), (0, .ref 2), (1, .ref v1)] [] S36 _ _
    refine RR.runs (pc' := 151) (lc' := [(9, .int r27), (8, .int r23), (7, .int r19), (6, .int r15), (5, .int r13), (4, .int r9), (2, .long r7), (0, .ref 2), (1, .ref v1)]) (st' := [.ref v1]) (S1 := S36) (nL := 10) (cd := cd_613) mx_613 rfl rfl 1 rfl ?_
    refine RR.gPo (pc' := 154) (lc' := [(9, .int r27), (8, .int r23), (7, .int r19), (6, .int r15), (5, .int r13), (4, .int r9), (2, .long r7), (0, .ref 2), (1, .ref v1)]) (st' := [.ref (v1 + 80)]) (S1 := S36) (nL := 10) (cd := cd_613) mx_613 rfl rfl rfl ⟨g1, by decide, by decide⟩ ?_
    refine RR.runs (pc' := 159) (lc' := [(9, .int r27), (8, .int r23), (7, .int r19), (6, .int r15), (5, .int r13), (4, .int r9), (2, .long r7), (0, .ref 2), (1, .ref v1)]) (st' := [.int r23, .int (4 : Int32), .int r27, .ref (v1 + 80)]) (S1 := S36) (nL := 10) (cd := cd_613) mx_613 rfl rfl 3 rfl ?_
    obtain ⟨r37, S38, h1, h⟩ := bnE h
    refine RR.callV (b := (v1 + 80)) (as := [.int r27, .int (4 : Int32), .int r23]) (rest := []) (r1 := none) (S1 := S38) mx_613 rfl rfl mx_1406 rfl rfl (by decide) (Or.inl g2) (Nat.le_of_ble_eq_true rfl) (Nat.le_of_ble_eq_true rfl) (RC.deep (by omega) (s_o_tb_put (d := d) _ _ _ _ _ h1)) ?_
    show RR KO _ 613 162 [(9, .int r27), (8, .int r23), (7, .int r19), (6, .int r15), (5, .int r13), (4, .int r9), (2, .long r7), (0, .ref 2), (1, .ref v1)] [] S38 _ _
    refine RR.runs (pc' := 163) (lc' := [(9, .int r27), (8, .int r23), (7, .int r19), (6, .int r15), (5, .int r13), (4, .int r9), (2, .long r7), (0, .ref 2), (1, .ref v1)]) (st' := [.ref v1]) (S1 := S38) (nL := 10) (cd := cd_613) mx_613 rfl rfl 1 rfl ?_
    refine RR.gPo (pc' := 166) (lc' := [(9, .int r27), (8, .int r23), (7, .int r19), (6, .int r15), (5, .int r13), (4, .int r9), (2, .long r7), (0, .ref 2), (1, .ref v1)]) (st' := [.ref (v1 + 80)]) (S1 := S38) (nL := 10) (cd := cd_613) mx_613 rfl rfl rfl ⟨g1, by decide, by decide⟩ ?_
    refine RR.runs (pc' := 170) (lc' := [(9, .int r27), (8, .int r23), (7, .int r19), (6, .int r15), (5, .int r13), (4, .int r9), (2, .long r7), (0, .ref 2), (1, .ref v1)]) (st' := [.ref v1, .int (5 : Int32), .int r27, .ref (v1 + 80)]) (S1 := S38) (nL := 10) (cd := cd_613) mx_613 rfl rfl 3 rfl ?_
    refine RR.gPo (pc' := 173) (lc' := [(9, .int r27), (8, .int r23), (7, .int r19), (6, .int r15), (5, .int r13), (4, .int r9), (2, .long r7), (0, .ref 2), (1, .ref v1)]) (st' := [.ref (v1 + 2), .int (5 : Int32), .int r27, .ref (v1 + 80)]) (S1 := S38) (nL := 10) (cd := cd_613) mx_613 rfl rfl rfl ⟨g1, by decide, by decide⟩ ?_
    obtain ⟨g39, h⟩ := gpE h
    obtain ⟨r40, S41, h1, h⟩ := bnE h
    refine RR.callV (b := (v1 + 2)) (as := []) (rest := [.int (5 : Int32), .int r27, .ref (v1 + 80)]) (r1 := (some (.int r40))) (S1 := S41) mx_613 rfl rfl mx_403 rfl rfl (by decide) (Or.inl g39) (Nat.le_of_ble_eq_true rfl) (Nat.le_of_ble_eq_true rfl) (RC.deep (by omega) (s_o_na_size (d := d) _ _ h1)) ?_
    show RR KO _ 613 176 [(9, .int r27), (8, .int r23), (7, .int r19), (6, .int r15), (5, .int r13), (4, .int r9), (2, .long r7), (0, .ref 2), (1, .ref v1)] [.int r40, .int (5 : Int32), .int r27, .ref (v1 + 80)] S41 _ _
    obtain ⟨r42, S43, h1, h⟩ := bnE h
    refine RR.callV (b := (v1 + 80)) (as := [.int r27, .int (5 : Int32), .int r40]) (rest := []) (r1 := none) (S1 := S43) mx_613 rfl rfl mx_1406 rfl rfl (by decide) (Or.inl g2) (Nat.le_of_ble_eq_true rfl) (Nat.le_of_ble_eq_true rfl) (RC.deep (by omega) (s_o_tb_put (d := d) _ _ _ _ _ h1)) ?_
    show RR KO _ 613 179 [(9, .int r27), (8, .int r23), (7, .int r19), (6, .int r15), (5, .int r13), (4, .int r9), (2, .long r7), (0, .ref 2), (1, .ref v1)] [] S43 _ _
    refine RR.runs (pc' := 180) (lc' := [(9, .int r27), (8, .int r23), (7, .int r19), (6, .int r15), (5, .int r13), (4, .int r9), (2, .long r7), (0, .ref 2), (1, .ref v1)]) (st' := [.ref v1]) (S1 := S43) (nL := 10) (cd := cd_613) mx_613 rfl rfl 1 rfl ?_
    refine RR.gPo (pc' := 183) (lc' := [(9, .int r27), (8, .int r23), (7, .int r19), (6, .int r15), (5, .int r13), (4, .int r9), (2, .long r7), (0, .ref 2), (1, .ref v1)]) (st' := [.ref (v1 + 80)]) (S1 := S43) (nL := 10) (cd := cd_613) mx_613 rfl rfl rfl ⟨g1, by decide, by decide⟩ ?_
    refine RR.runs (pc' := 188) (lc' := [(9, .int r27), (8, .int r23), (7, .int r19), (6, .int r15), (5, .int r13), (4, .int r9), (2, .long r7), (0, .ref 2), (1, .ref v1)]) (st' := [.int (-1 : Int32), .int (6 : Int32), .int r27, .ref (v1 + 80)]) (S1 := S43) (nL := 10) (cd := cd_613) mx_613 rfl rfl 3 rfl ?_
    obtain ⟨r44, S45, h1, h⟩ := bnE h
    refine RR.callV (b := (v1 + 80)) (as := [.int r27, .int (6 : Int32), .int (-1 : Int32)]) (rest := []) (r1 := none) (S1 := S45) mx_613 rfl rfl mx_1406 rfl rfl (by decide) (Or.inl g2) (Nat.le_of_ble_eq_true rfl) (Nat.le_of_ble_eq_true rfl) (RC.deep (by omega) (s_o_tb_put (d := d) _ _ _ _ _ h1)) ?_
    show RR KO _ 613 191 [(9, .int r27), (8, .int r23), (7, .int r19), (6, .int r15), (5, .int r13), (4, .int r9), (2, .long r7), (0, .ref 2), (1, .ref v1)] [] S45 _ _
    refine RR.runs (pc' := 192) (lc' := [(9, .int r27), (8, .int r23), (7, .int r19), (6, .int r15), (5, .int r13), (4, .int r9), (2, .long r7), (0, .ref 2), (1, .ref v1)]) (st' := [.ref v1]) (S1 := S45) (nL := 10) (cd := cd_613) mx_613 rfl rfl 1 rfl ?_
    refine RR.gPo (pc' := 195) (lc' := [(9, .int r27), (8, .int r23), (7, .int r19), (6, .int r15), (5, .int r13), (4, .int r9), (2, .long r7), (0, .ref 2), (1, .ref v1)]) (st' := [.ref (v1 + 2)]) (S1 := S45) (nL := 10) (cd := cd_613) mx_613 rfl rfl rfl ⟨g1, by decide, by decide⟩ ?_
    refine RR.runs (pc' := 196) (lc' := [(9, .int r27), (8, .int r23), (7, .int r19), (6, .int r15), (5, .int r13), (4, .int r9), (2, .long r7), (0, .ref 2), (1, .ref v1)]) (st' := [.long r7, .ref (v1 + 2)]) (S1 := S45) (nL := 10) (cd := cd_613) mx_613 rfl rfl 1 rfl ?_
    obtain ⟨r46, S47, h1, h⟩ := bnE h
    refine RR.callV (b := (v1 + 2)) (as := [.long r7]) (rest := []) (r1 := none) (S1 := S47) mx_613 rfl rfl mx_405 rfl rfl (by decide) (Or.inl g39) (Nat.le_of_ble_eq_true rfl) (Nat.le_of_ble_eq_true rfl) (RC.deep (by omega) (s_o_na_add (d := d) _ _ _ h1)) ?_
    show RR KO _ 613 199 [(9, .int r27), (8, .int r23), (7, .int r19), (6, .int r15), (5, .int r13), (4, .int r9), (2, .long r7), (0, .ref 2), (1, .ref v1)] [] S47 _ _
    refine RR.weak [] trivial ?_
    exact s_o_rd_readApple_199 _ h
  · refine RR.c_ne (fun q => absurd q c) (fun _ => ?_)
    refine RR.weak [] trivial ?_
    exact s_o_rd_readApple_199 _ h
theorem s_o_rd_readApple {d : Nat} {S' : St} {r : Unit} (v1 : Nat) (S : St) (h : o_rd_readApple v1 S = some (r, S')) : RC KO (d + 4) 613 [.ref 2, .ref v1] S none S' := RC.of rfl (s0_o_rd_readApple v1 S h)
-- NameOrchard$Table size ()I
def o_tb_size (v0 : Nat) (S : St) : Re Int32 :=
  if KO.1 v0 = (0, 7) then (
  some ((rI S v0 3), S)) else none
set_option maxRecDepth 100000 in
theorem s0_o_tb_size {d : Nat} {S' : St} {r : Int32} (v0 : Nat) (S : St) (h : o_tb_size v0 S = some (r, S')) : RR KO (d + 0) 1402 0 [(0, .ref v0)] [] S (some (.int r)) S' := by
  unfold o_tb_size at h
  refine RR.runs (pc' := 1) (lc' := [(0, .ref v0)]) (st' := [.ref v0]) (S1 := S) (nL := 1) (cd := cd_1402) mx_1402 rfl rfl 1 rfl ?_
  obtain ⟨g1, h⟩ := gpE h
  refine RR.gPo (pc' := 4) (lc' := [(0, .ref v0)]) (st' := [.int (rI S v0 3)]) (S1 := S) (nL := 1) (cd := cd_1402) mx_1402 rfl rfl rfl ⟨g1, by decide, by decide⟩ ?_
  cases h
  exact RR.reti mx_1402 rfl rfl rfl
theorem s_o_tb_size {d : Nat} {S' : St} {r : Int32} (v0 : Nat) (S : St) (h : o_tb_size v0 S = some (r, S')) : RC KO (d + 0) 1402 [.ref v0] S (some (.int r)) S' := RC.of rfl (s0_o_tb_size v0 S h)
-- NameOrchard$Table at (II)I
def o_tb_at_45 (p0 : Int32) (S : St) : Re Int32 :=
  some (p0, S)
set_option maxRecDepth 100000 in
theorem s_o_tb_at_45 {d : Nat} {S' : St} {r : Int32} (p0 : Int32) (S : St) (h : o_tb_at_45 p0 S = some (r, S')) : RR KO (d + 1) 1405 45 [] [.int p0] S (some (.int r)) S' := by
  unfold o_tb_at_45 at h
  cases h
  exact RR.reti mx_1405 rfl rfl rfl
def o_tb_at_44 (S : St) : Re Int32 :=
  o_tb_at_45 (-1 : Int32) S
set_option maxRecDepth 100000 in
theorem s_o_tb_at_44 {d : Nat} {S' : St} {r : Int32} (S : St) (h : o_tb_at_44 S = some (r, S')) : RR KO (d + 1) 1405 44 [] [] S (some (.int r)) S' := by
  unfold o_tb_at_44 at h
  refine RR.runs (pc' := 45) (lc' := []) (st' := [.int (-1 : Int32)]) (S1 := S) (nL := 4) (cd := cd_1405) mx_1405 rfl rfl 1 rfl ?_
  refine RR.weak [] trivial ?_
  exact s_o_tb_at_45 _ _ h
def o_tb_at_21 (v0 : Nat) (p0 : Int32) (S : St) : Re Int32 :=
  if p0 < 0 then (
    o_tb_at_44 S)
  else (
    if KO.1 v0 = (0, 7) then (
    if 1 ≤ (KO.1 (v0 + 30)).1 ∧ (KO.1 (v0 + 30)).1 < 8 then (
    if p0 < (Int32.ofNat (KO.1 (v0 + 30)).2) then (
            if (KO.1 (v0 + 30)).1 = 1 then (
      if p0 < 0 ∨ (KO.1 (v0 + 30)).2 ≤ p0.toNatClampNeg then none else
      o_tb_at_45 ((rI S (v0 + 30) p0.toNatClampNeg)) S) else none)
    else (
      o_tb_at_44 S)) else none) else none)
set_option maxRecDepth 100000 in
theorem s_o_tb_at_21 {d : Nat} {S' : St} {r : Int32} (v0 : Nat) (p0 : Int32) (S : St) (h : o_tb_at_21 v0 p0 S = some (r, S')) : RR KO (d + 1) 1405 21 [(0, .ref v0)] [.int p0] S (some (.int r)) S' := by
  unfold o_tb_at_21 at h
  refine RR.runs (pc' := icm .lt p0 0 44 26) (lc' := [(3, .int p0), (0, .ref v0)]) (st' := []) (S1 := S) (nL := 4) (cd := cd_1405) mx_1405 rfl rfl 3 rfl ?_
  rcases ifE h with ⟨c, h⟩ | ⟨c, h⟩
  · refine RR.c_lt (fun _ => ?_) (fun q => absurd c q)
    refine RR.weak [] trivial ?_
    exact s_o_tb_at_44 _ h
  · refine RR.c_lt (fun q => absurd q c) (fun _ => ?_)
    refine RR.runs (pc' := 28) (lc' := [(3, .int p0), (0, .ref v0)]) (st' := [.ref v0, .int p0]) (S1 := S) (nL := 4) (cd := cd_1405) mx_1405 rfl rfl 2 rfl ?_
    obtain ⟨g1, h⟩ := gpE h
    refine RR.gPo (pc' := 31) (lc' := [(3, .int p0), (0, .ref v0)]) (st' := [.ref (v0 + 30), .int p0]) (S1 := S) (nL := 4) (cd := cd_1405) mx_1405 rfl rfl rfl ⟨g1, by decide, by decide⟩ ?_
    obtain ⟨g, h⟩ := gpE h
    refine RR.gP (pc' := 32) (lc' := [(3, .int p0), (0, .ref v0)]) (st' := [.int ((Int32.ofNat (KO.1 (v0 + 30)).2)), .int p0]) (S1 := S) (nL := 4) (cd := cd_1405) mx_1405 rfl rfl rfl g ?_
    refine RR.runs (pc' := icm .ge p0 ((Int32.ofNat (KO.1 (v0 + 30)).2)) 44 35) (lc' := [(3, .int p0), (0, .ref v0)]) (st' := []) (S1 := S) (nL := 4) (cd := cd_1405) mx_1405 rfl rfl 1 rfl ?_
    rcases ifE h with ⟨c, h⟩ | ⟨c, h⟩
    · refine RR.c_ge (fun _ => ?_) (fun q => absurd c q)
      refine RR.runs (pc' := 36) (lc' := [(3, .int p0), (0, .ref v0)]) (st' := [.ref v0]) (S1 := S) (nL := 4) (cd := cd_1405) mx_1405 rfl rfl 1 rfl ?_
      refine RR.gPo (pc' := 39) (lc' := [(3, .int p0), (0, .ref v0)]) (st' := [.ref (v0 + 30)]) (S1 := S) (nL := 4) (cd := cd_1405) mx_1405 rfl rfl rfl ⟨g1, by decide, by decide⟩ ?_
      refine RR.runs (pc' := 40) (lc' := [(3, .int p0), (0, .ref v0)]) (st' := [.int p0, .ref (v0 + 30)]) (S1 := S) (nL := 4) (cd := cd_1405) mx_1405 rfl rfl 1 rfl ?_
      obtain ⟨gq, h⟩ := gpE h
      obtain ⟨g, h⟩ := gnE h
      refine RR.gPNo (c2 := (KO.1 (v0 + 30)).1 = 1) (pc' := 41) (lc' := [(3, .int p0), (0, .ref v0)]) (st' := [.int ((rI S (v0 + 30) p0.toNatClampNeg))]) (S1 := S) (nL := 4) (cd := cd_1405) mx_1405 rfl rfl rfl gq g ?_
      refine RR.runs (pc' := 45) (lc' := [(3, .int p0), (0, .ref v0)]) (st' := [.int ((rI S (v0 + 30) p0.toNatClampNeg))]) (S1 := S) (nL := 4) (cd := cd_1405) mx_1405 rfl rfl 1 rfl ?_
      refine RR.weak [] trivial ?_
      exact s_o_tb_at_45 _ _ h
    · refine RR.c_ge (fun q => absurd q c) (fun _ => ?_)
      refine RR.weak [] trivial ?_
      exact s_o_tb_at_44 _ h
def o_tb_at (v0 : Nat) (v1 : Int32) (v2 : Int32) (S : St) : Re Int32 :=
  if KO.1 v0 = (0, 7) then (
bn (o_tb_holds v0 v1 v2 S) fun r2 S3 =>
  if r2 = 0 then (
    o_tb_at_21 v0 (-1 : Int32) S3)
  else (
        o_tb_at_21 v0 (((v1 * (rI S3 v0 1)) + v2)) S3)) else none
set_option maxRecDepth 100000 in
theorem s0_o_tb_at {d : Nat} {S' : St} {r : Int32} (v0 : Nat) (v1 : Int32) (v2 : Int32) (S : St) (h : o_tb_at v0 v1 v2 S = some (r, S')) : RR KO (d + 1) 1405 0 [(0, .ref v0), (1, .int v1), (2, .int v2)] [] S (some (.int r)) S' := by
  unfold o_tb_at at h
  refine RR.runs (pc' := 3) (lc' := [(0, .ref v0), (1, .int v1), (2, .int v2)]) (st' := [.int v2, .int v1, .ref v0]) (S1 := S) (nL := 4) (cd := cd_1405) mx_1405 rfl rfl 3 rfl ?_
  obtain ⟨g1, h⟩ := gpE h
  obtain ⟨r2, S3, h1, h⟩ := bnE h
  refine RR.callV (b := v0) (as := [.int v1, .int v2]) (rest := []) (r1 := (some (.int r2))) (S1 := S3) mx_1405 rfl rfl mx_1404 rfl rfl (by decide) (Or.inl g1) (Nat.le_of_ble_eq_true rfl) (Nat.le_of_ble_eq_true rfl) (RC.deep (by omega) (s_o_tb_holds (d := d) _ _ _ _ h1)) ?_
  show RR KO _ 1405 6 [(0, .ref v0), (1, .int v1), (2, .int v2)] [.int r2] S3 _ _
  refine RR.runs (pc' := icm .eq r2 0 20 9) (lc' := [(0, .ref v0), (1, .int v1), (2, .int v2)]) (st' := []) (S1 := S3) (nL := 4) (cd := cd_1405) mx_1405 rfl rfl 1 rfl ?_
  rcases ifE h with ⟨c, h⟩ | ⟨c, h⟩
  · refine RR.c_eq (fun _ => ?_) (fun q => absurd c q)
    refine RR.runs (pc' := 21) (lc' := [(0, .ref v0), (1, .int v1), (2, .int v2)]) (st' := [.int (-1 : Int32)]) (S1 := S3) (nL := 4) (cd := cd_1405) mx_1405 rfl rfl 1 rfl ?_
    refine RR.weak [(0, .ref v0)] ⟨rfl, trivial⟩ ?_
    exact s_o_tb_at_21 _ _ _ h
  · refine RR.c_eq (fun q => absurd q c) (fun _ => ?_)
    refine RR.runs (pc' := 11) (lc' := [(0, .ref v0), (1, .int v1), (2, .int v2)]) (st' := [.ref v0, .int v1]) (S1 := S3) (nL := 4) (cd := cd_1405) mx_1405 rfl rfl 2 rfl ?_
    refine RR.gPo (pc' := 14) (lc' := [(0, .ref v0), (1, .int v1), (2, .int v2)]) (st' := [.int (rI S3 v0 1), .int v1]) (S1 := S3) (nL := 4) (cd := cd_1405) mx_1405 rfl rfl rfl ⟨g1, by decide, by decide⟩ ?_
    refine RR.runs (pc' := 21) (lc' := [(0, .ref v0), (1, .int v1), (2, .int v2)]) (st' := [.int (((v1 * (rI S3 v0 1)) + v2))]) (S1 := S3) (nL := 4) (cd := cd_1405) mx_1405 rfl rfl 4 rfl ?_
    refine RR.weak [(0, .ref v0)] ⟨rfl, trivial⟩ ?_
    exact s_o_tb_at_21 _ _ _ h
theorem s_o_tb_at {d : Nat} {S' : St} {r : Int32} (v0 : Nat) (v1 : Int32) (v2 : Int32) (S : St) (h : o_tb_at v0 v1 v2 S = some (r, S')) : RC KO (d + 1) 1405 [.ref v0, .int v1, .int v2] S (some (.int r)) S' := RC.of rfl (s0_o_tb_at v0 v1 v2 S h)
-- NameOrchard$Told appleOfSound (I)I
def o_to_appleOfSound_26 (v2 : Int32) (S : St) : Re Int32 :=
  some (v2, S)
set_option maxRecDepth 100000 in
theorem s_o_to_appleOfSound_26 {d : Nat} {S' : St} {r : Int32} (v2 : Int32) (S : St) (h : o_to_appleOfSound_26 v2 S = some (r, S')) : RR KO (d + 2) 2013 26 [(2, .int v2)] [] S (some (.int r)) S' := by
  unfold o_to_appleOfSound_26 at h
  refine RR.runs (pc' := 27) (lc' := [(2, .int v2)]) (st' := [.int v2]) (S1 := S) (nL := 3) (cd := cd_2013) mx_2013 rfl rfl 1 rfl ?_
  cases h
  exact RR.reti mx_2013 rfl rfl rfl
def o_to_appleOfSound_34 (S : St) : Re Int32 :=
  some ((-1 : Int32), S)
set_option maxRecDepth 100000 in
theorem s_o_to_appleOfSound_34 {d : Nat} {S' : St} {r : Int32} (S : St) (h : o_to_appleOfSound_34 S = some (r, S')) : RR KO (d + 2) 2013 34 [] [] S (some (.int r)) S' := by
  unfold o_to_appleOfSound_34 at h
  refine RR.runs (pc' := 35) (lc' := []) (st' := [.int (-1 : Int32)]) (S1 := S) (nL := 3) (cd := cd_2013) mx_2013 rfl rfl 1 rfl ?_
  cases h
  exact RR.reti mx_2013 rfl rfl rfl
def o_to_appleOfSound_2 : Nat → Nat → Int32 → Int32 → St → Re Int32
  | 0, _, _, _, _ => none
  | n + 1, v0, v1, v2, S =>
  if KO.1 v0 = (0, 10) then (
  if KO.1 (v0 + 80) = (0, 7) then (
bn (o_tb_size (v0 + 80) S) fun r3 S4 =>
  if v2 < r3 then (
        bn (o_tb_at (v0 + 80) v2 (5 : Int32) S4) fun r5 S6 =>
    if r5 = v1 then (
      o_to_appleOfSound_26 v2 S6)
    else (
      lt' ((v2 + (1 : Int32)) : Int32) fun x7 =>
      o_to_appleOfSound_2 n v0 v1 x7 S6))
  else (
    o_to_appleOfSound_34 S4)) else none) else none
set_option maxRecDepth 100000 in
theorem s_o_to_appleOfSound_2 {d : Nat} {S' : St} {r : Int32} : ∀ (n : Nat) (v0 : Nat) (v1 : Int32) (v2 : Int32) (S : St), o_to_appleOfSound_2 n v0 v1 v2 S = some (r, S') → RR KO (d + 2) 2013 2 [(0, .ref v0), (1, .int v1), (2, .int v2)] [] S (some (.int r)) S' := by
  intro n
  induction n with
  | zero => intro v0 v1 v2 S h; simp only [o_to_appleOfSound_2] at h; cases h
  | succ n ih =>
    intro v0 v1 v2 S h
    simp only [o_to_appleOfSound_2] at h
    refine RR.runs (pc' := 4) (lc' := [(0, .ref v0), (1, .int v1), (2, .int v2)]) (st' := [.ref v0, .int v2]) (S1 := S) (nL := 3) (cd := cd_2013) mx_2013 rfl rfl 2 rfl ?_
    obtain ⟨g1, h⟩ := gpE h
    refine RR.gPo (pc' := 7) (lc' := [(0, .ref v0), (1, .int v1), (2, .int v2)]) (st' := [.ref (v0 + 80), .int v2]) (S1 := S) (nL := 3) (cd := cd_2013) mx_2013 rfl rfl rfl ⟨g1, by decide, by decide⟩ ?_
    obtain ⟨g2, h⟩ := gpE h
    obtain ⟨r3, S4, h1, h⟩ := bnE h
    refine RR.callV (b := (v0 + 80)) (as := []) (rest := [.int v2]) (r1 := (some (.int r3))) (S1 := S4) mx_2013 rfl rfl mx_1402 rfl rfl (by decide) (Or.inl g2) (Nat.le_of_ble_eq_true rfl) (Nat.le_of_ble_eq_true rfl) (RC.deep (by omega) (s_o_tb_size (d := d) _ _ h1)) ?_
    show RR KO _ 2013 10 [(0, .ref v0), (1, .int v1), (2, .int v2)] [.int r3, .int v2] S4 _ _
    refine RR.runs (pc' := icm .ge v2 r3 34 13) (lc' := [(0, .ref v0), (1, .int v1), (2, .int v2)]) (st' := []) (S1 := S4) (nL := 3) (cd := cd_2013) mx_2013 rfl rfl 1 rfl ?_
    rcases ifE h with ⟨c, h⟩ | ⟨c, h⟩
    · refine RR.c_ge (fun _ => ?_) (fun q => absurd c q)
      refine RR.runs (pc' := 14) (lc' := [(0, .ref v0), (1, .int v1), (2, .int v2)]) (st' := [.ref v0]) (S1 := S4) (nL := 3) (cd := cd_2013) mx_2013 rfl rfl 1 rfl ?_
      refine RR.gPo (pc' := 17) (lc' := [(0, .ref v0), (1, .int v1), (2, .int v2)]) (st' := [.ref (v0 + 80)]) (S1 := S4) (nL := 3) (cd := cd_2013) mx_2013 rfl rfl rfl ⟨g1, by decide, by decide⟩ ?_
      refine RR.runs (pc' := 19) (lc' := [(0, .ref v0), (1, .int v1), (2, .int v2)]) (st' := [.int (5 : Int32), .int v2, .ref (v0 + 80)]) (S1 := S4) (nL := 3) (cd := cd_2013) mx_2013 rfl rfl 2 rfl ?_
      obtain ⟨r5, S6, h1, h⟩ := bnE h
      refine RR.callV (b := (v0 + 80)) (as := [.int v2, .int (5 : Int32)]) (rest := []) (r1 := (some (.int r5))) (S1 := S6) mx_2013 rfl rfl mx_1405 rfl rfl (by decide) (Or.inl g2) (Nat.le_of_ble_eq_true rfl) (Nat.le_of_ble_eq_true rfl) (RC.deep (by omega) (s_o_tb_at (d := d) _ _ _ _ h1)) ?_
      show RR KO _ 2013 22 [(0, .ref v0), (1, .int v1), (2, .int v2)] [.int r5] S6 _ _
      refine RR.runs (pc' := icm .ne r5 v1 28 26) (lc' := [(0, .ref v0), (1, .int v1), (2, .int v2)]) (st' := []) (S1 := S6) (nL := 3) (cd := cd_2013) mx_2013 rfl rfl 2 rfl ?_
      rcases ifE h with ⟨c, h⟩ | ⟨c, h⟩
      · refine RR.c_ne (fun _ => ?_) (fun q => absurd c q)
        refine RR.weak [(2, .int v2)] ⟨rfl, trivial⟩ ?_
        exact s_o_to_appleOfSound_26 _ _ h
      · refine RR.c_ne (fun q => absurd q c) (fun _ => ?_)
        refine RR.runs (pc' := 31) (lc' := [(2, .int ((v2 + (1 : Int32)))), (0, .ref v0), (1, .int v1)]) (st' := []) (S1 := S6) (nL := 3) (cd := cd_2013) mx_2013 rfl rfl 1 rfl ?_
        obtain ⟨x7, ex7, h⟩ := ltE h
        rw [← ex7]
        refine RR.runs (pc' := 2) (lc' := [(2, .int x7), (0, .ref v0), (1, .int v1)]) (st' := []) (S1 := S6) (nL := 3) (cd := cd_2013) mx_2013 rfl rfl 1 rfl ?_
        refine RR.weak [(0, .ref v0), (1, .int v1), (2, .int x7)] ⟨rfl, rfl, rfl, trivial⟩ ?_
        exact ih _ _ _ _ h
    · refine RR.c_ge (fun q => absurd q c) (fun _ => ?_)
      refine RR.weak [] trivial ?_
      exact s_o_to_appleOfSound_34 _ h
def o_to_appleOfSound (v0 : Nat) (v1 : Int32) (S : St) : Re Int32 :=
  o_to_appleOfSound_2 FU v0 v1 (0 : Int32) S
set_option maxRecDepth 100000 in
theorem s0_o_to_appleOfSound {d : Nat} {S' : St} {r : Int32} (v0 : Nat) (v1 : Int32) (S : St) (h : o_to_appleOfSound v0 v1 S = some (r, S')) : RR KO (d + 2) 2013 0 [(0, .ref v0), (1, .int v1)] [] S (some (.int r)) S' := by
  unfold o_to_appleOfSound at h
  refine RR.runs (pc' := 2) (lc' := [(2, .int (0 : Int32)), (0, .ref v0), (1, .int v1)]) (st' := []) (S1 := S) (nL := 3) (cd := cd_2013) mx_2013 rfl rfl 2 rfl ?_
  refine RR.weak [(0, .ref v0), (1, .int v1), (2, .int (0 : Int32))] ⟨rfl, rfl, rfl, trivial⟩ ?_
  exact s_o_to_appleOfSound_2 _ _ _ _ _ h
theorem s_o_to_appleOfSound {d : Nat} {S' : St} {r : Int32} (v0 : Nat) (v1 : Int32) (S : St) (h : o_to_appleOfSound v0 v1 S = some (r, S')) : RC KO (d + 2) 2013 [.ref v0, .int v1] S (some (.int r)) S' := RC.of rfl (s0_o_to_appleOfSound v0 v1 S h)
-- NameOrchard$Reader appleHere (LNameOrchard$Told;)I
def o_rd_appleHere_43 (v2 : Int32) (S : St) : Re Int32 :=
  some (v2, S)
set_option maxRecDepth 100000 in
theorem s_o_rd_appleHere_43 {d : Nat} {S' : St} {r : Int32} (v2 : Int32) (S : St) (h : o_rd_appleHere_43 v2 S = some (r, S')) : RR KO (d + 3) 611 43 [(2, .int v2)] [] S (some (.int r)) S' := by
  unfold o_rd_appleHere_43 at h
  refine RR.runs (pc' := 44) (lc' := [(2, .int v2)]) (st' := [.int v2]) (S1 := S) (nL := 3) (cd := cd_611) mx_611 rfl rfl 1 rfl ?_
  cases h
  exact RR.reti mx_611 rfl rfl rfl
def o_rd_appleHere_29 (p0 : Int32) (S : St) : Re Int32 :=
  if p0 = (-1 : Int32) then (
    bn (o_tp_wrong (2 : Int32) S) fun r1 S2 =>
    o_rd_appleHere_43 p0 S2)
  else (
    o_rd_appleHere_43 p0 S)
set_option maxRecDepth 100000 in
theorem s_o_rd_appleHere_29 {d : Nat} {S' : St} {r : Int32} (p0 : Int32) (S : St) (h : o_rd_appleHere_29 p0 S = some (r, S')) : RR KO (d + 3) 611 29 [(0, .ref 2)] [.int p0] S (some (.int r)) S' := by
  unfold o_rd_appleHere_29 at h
  refine RR.runs (pc' := icm .ne p0 (-1 : Int32) 43 35) (lc' := [(2, .int p0), (0, .ref 2)]) (st' := []) (S1 := S) (nL := 3) (cd := cd_611) mx_611 rfl rfl 4 rfl ?_
  rcases ifE h with ⟨c, h⟩ | ⟨c, h⟩
  · refine RR.c_ne (fun _ => ?_) (fun q => absurd c q)
    refine RR.runs (pc' := 40) (lc' := [(2, .int p0), (0, .ref 2)]) (st' := [.int (2 : Int32), .ref 3]) (S1 := S) (nL := 3) (cd := cd_611) mx_611 rfl rfl 3 rfl ?_
    obtain ⟨r1, S2, h1, h⟩ := bnE h
    refine RR.callV (b := 3) (as := [.int (2 : Int32)]) (rest := []) (r1 := none) (S1 := S2) mx_611 rfl rfl mx_1603 rfl rfl (by decide) (Or.inl rfl) (Nat.le_of_ble_eq_true rfl) (Nat.le_of_ble_eq_true rfl) (RC.deep (by omega) (s_o_tp_wrong (d := d) _ _ h1)) ?_
    show RR KO _ 611 43 [(2, .int p0), (0, .ref 2)] [] S2 _ _
    refine RR.weak [(2, .int p0)] ⟨rfl, trivial⟩ ?_
    exact s_o_rd_appleHere_43 _ _ h
  · refine RR.c_ne (fun q => absurd q c) (fun _ => ?_)
    refine RR.weak [(2, .int p0)] ⟨rfl, trivial⟩ ?_
    exact s_o_rd_appleHere_43 _ _ h
def o_rd_appleHere (v1 : Nat) (S : St) : Re Int32 :=
  bn (o_rd_isName S) fun r1 S2 =>
  if r1 = 0 then (
    o_rd_appleHere_29 (-1 : Int32) S2)
  else (
    if KO.1 v1 = (0, 10) then (
    if KO.1 (v1 + 2) = (0, 2) then (
bn (o_na_find (v1 + 2) (rJ S2 3 5) S2) fun r5 S6 =>
    bn (o_to_appleOfSound v1 r5 S6) fun r7 S8 =>
    o_rd_appleHere_29 r7 S8) else none) else none)
set_option maxRecDepth 100000 in
theorem s0_o_rd_appleHere {d : Nat} {S' : St} {r : Int32} (v1 : Nat) (S : St) (h : o_rd_appleHere v1 S = some (r, S')) : RR KO (d + 3) 611 0 [(0, .ref 2), (1, .ref v1)] [] S (some (.int r)) S' := by
  unfold o_rd_appleHere at h
  refine RR.runs (pc' := 1) (lc' := [(0, .ref 2), (1, .ref v1)]) (st' := [.ref 2]) (S1 := S) (nL := 3) (cd := cd_611) mx_611 rfl rfl 1 rfl ?_
  obtain ⟨r1, S2, h1, h⟩ := bnE h
  refine RR.callV (b := 2) (as := []) (rest := []) (r1 := (some (.int r1))) (S1 := S2) mx_611 rfl rfl mx_608 rfl rfl (by decide) (Or.inl rfl) (Nat.le_of_ble_eq_true rfl) (Nat.le_of_ble_eq_true rfl) (RC.deep (by omega) (s_o_rd_isName (d := d) _ h1)) ?_
  show RR KO _ 611 4 [(0, .ref 2), (1, .ref v1)] [.int r1] S2 _ _
  refine RR.runs (pc' := icm .eq r1 0 28 7) (lc' := [(0, .ref 2), (1, .ref v1)]) (st' := []) (S1 := S2) (nL := 3) (cd := cd_611) mx_611 rfl rfl 1 rfl ?_
  rcases ifE h with ⟨c, h⟩ | ⟨c, h⟩
  · refine RR.c_eq (fun _ => ?_) (fun q => absurd c q)
    refine RR.runs (pc' := 29) (lc' := [(0, .ref 2), (1, .ref v1)]) (st' := [.int (-1 : Int32)]) (S1 := S2) (nL := 3) (cd := cd_611) mx_611 rfl rfl 1 rfl ?_
    refine RR.weak [(0, .ref 2)] ⟨rfl, trivial⟩ ?_
    exact s_o_rd_appleHere_29 _ _ h
  · refine RR.c_eq (fun q => absurd q c) (fun _ => ?_)
    refine RR.runs (pc' := 9) (lc' := [(0, .ref 2), (1, .ref v1)]) (st' := [.ref v1, .ref v1]) (S1 := S2) (nL := 3) (cd := cd_611) mx_611 rfl rfl 2 rfl ?_
    obtain ⟨g3, h⟩ := gpE h
    refine RR.gPo (pc' := 12) (lc' := [(0, .ref 2), (1, .ref v1)]) (st' := [.ref (v1 + 2), .ref v1]) (S1 := S2) (nL := 3) (cd := cd_611) mx_611 rfl rfl rfl ⟨g3, by decide, by decide⟩ ?_
    refine RR.runs (pc' := 19) (lc' := [(0, .ref 2), (1, .ref v1)]) (st' := [.long (rJ S2 3 5), .ref (v1 + 2), .ref v1]) (S1 := S2) (nL := 3) (cd := cd_611) mx_611 rfl rfl 3 rfl ?_
    obtain ⟨g4, h⟩ := gpE h
    obtain ⟨r5, S6, h1, h⟩ := bnE h
    refine RR.callV (b := (v1 + 2)) (as := [.long (rJ S2 3 5)]) (rest := [.ref v1]) (r1 := (some (.int r5))) (S1 := S6) mx_611 rfl rfl mx_406 rfl rfl (by decide) (Or.inl g4) (Nat.le_of_ble_eq_true rfl) (Nat.le_of_ble_eq_true rfl) (RC.deep (by omega) (s_o_na_find (d := d) _ _ _ h1)) ?_
    show RR KO _ 611 22 [(0, .ref 2), (1, .ref v1)] [.int r5, .ref v1] S6 _ _
    obtain ⟨r7, S8, h1, h⟩ := bnE h
    refine RR.callV (b := v1) (as := [.int r5]) (rest := []) (r1 := (some (.int r7))) (S1 := S8) mx_611 rfl rfl mx_2013 rfl rfl (by decide) (Or.inl g3) (Nat.le_of_ble_eq_true rfl) (Nat.le_of_ble_eq_true rfl) (RC.deep (by omega) (s_o_to_appleOfSound (d := d) _ _ _ h1)) ?_
    show RR KO _ 611 25 [(0, .ref 2), (1, .ref v1)] [.int r7] S8 _ _
    refine RR.runs (pc' := 29) (lc' := [(0, .ref 2), (1, .ref v1)]) (st' := [.int r7]) (S1 := S8) (nL := 3) (cd := cd_611) mx_611 rfl rfl 1 rfl ?_
    refine RR.weak [(0, .ref 2)] ⟨rfl, trivial⟩ ?_
    exact s_o_rd_appleHere_29 _ _ h
theorem s_o_rd_appleHere {d : Nat} {S' : St} {r : Int32} (v1 : Nat) (S : St) (h : o_rd_appleHere v1 S = some (r, S')) : RC KO (d + 3) 611 [.ref 2, .ref v1] S (some (.int r)) S' := RC.of rfl (s0_o_rd_appleHere v1 S h)
-- NameOrchard$Reader untwinned (LNameOrchard$Told;I)I
def o_rd_untwinned_33 (v3 : Int32) (S : St) : Re Int32 :=
  bn (o_tp_step S) fun r1 S2 =>
  some (v3, S2)
set_option maxRecDepth 100000 in
theorem s_o_rd_untwinned_33 {d : Nat} {S' : St} {r : Int32} (v3 : Int32) (S : St) (h : o_rd_untwinned_33 v3 S = some (r, S')) : RR KO (d + 4) 616 33 [(0, .ref 2), (3, .int v3)] [] S (some (.int r)) S' := by
  unfold o_rd_untwinned_33 at h
  refine RR.runs (pc' := 37) (lc' := [(0, .ref 2), (3, .int v3)]) (st' := [.ref 3]) (S1 := S) (nL := 4) (cd := cd_616) mx_616 rfl rfl 2 rfl ?_
  obtain ⟨r1, S2, h1, h⟩ := bnE h
  refine RR.callV (b := 3) (as := []) (rest := []) (r1 := none) (S1 := S2) mx_616 rfl rfl mx_1605 rfl rfl (by decide) (Or.inl rfl) (Nat.le_of_ble_eq_true rfl) (Nat.le_of_ble_eq_true rfl) (RC.deep (by omega) (s_o_tp_step (d := d) _ h1)) ?_
  show RR KO _ 616 40 [(0, .ref 2), (3, .int v3)] [] S2 _ _
  refine RR.runs (pc' := 41) (lc' := [(0, .ref 2), (3, .int v3)]) (st' := [.int v3]) (S1 := S2) (nL := 4) (cd := cd_616) mx_616 rfl rfl 1 rfl ?_
  cases h
  exact RR.reti mx_616 rfl rfl rfl
def o_rd_untwinned_25 (v3 : Int32) (S : St) : Re Int32 :=
  bn (o_tp_wrong (3 : Int32) S) fun r1 S2 =>
  o_rd_untwinned_33 v3 S2
set_option maxRecDepth 100000 in
theorem s_o_rd_untwinned_25 {d : Nat} {S' : St} {r : Int32} (v3 : Int32) (S : St) (h : o_rd_untwinned_25 v3 S = some (r, S')) : RR KO (d + 4) 616 25 [(0, .ref 2), (3, .int v3)] [] S (some (.int r)) S' := by
  unfold o_rd_untwinned_25 at h
  refine RR.runs (pc' := 30) (lc' := [(0, .ref 2), (3, .int v3)]) (st' := [.int (3 : Int32), .ref 3]) (S1 := S) (nL := 4) (cd := cd_616) mx_616 rfl rfl 3 rfl ?_
  obtain ⟨r1, S2, h1, h⟩ := bnE h
  refine RR.callV (b := 3) (as := [.int (3 : Int32)]) (rest := []) (r1 := none) (S1 := S2) mx_616 rfl rfl mx_1603 rfl rfl (by decide) (Or.inl rfl) (Nat.le_of_ble_eq_true rfl) (Nat.le_of_ble_eq_true rfl) (RC.deep (by omega) (s_o_tp_wrong (d := d) _ _ h1)) ?_
  show RR KO _ 616 33 [(0, .ref 2), (3, .int v3)] [] S2 _ _
  refine RR.weak [(0, .ref 2), (3, .int v3)] ⟨rfl, rfl, trivial⟩ ?_
  exact s_o_rd_untwinned_33 _ _ h
def o_rd_untwinned (v1 : Nat) (v2 : Int32) (S : St) : Re Int32 :=
  bn (o_rd_appleHere v1 S) fun r1 S2 =>
  if r1 = v2 then (
    o_rd_untwinned_25 r1 S2)
  else (
    if KO.1 v1 = (0, 10) then (
    if KO.1 (v1 + 80) = (0, 7) then (
bn (o_tb_at (v1 + 80) r1 (6 : Int32) S2) fun r5 S6 =>
    if r5 = (-1 : Int32) then (
      o_rd_untwinned_33 r1 S6)
    else (
      o_rd_untwinned_25 r1 S6)) else none) else none)
set_option maxRecDepth 100000 in
theorem s0_o_rd_untwinned {d : Nat} {S' : St} {r : Int32} (v1 : Nat) (v2 : Int32) (S : St) (h : o_rd_untwinned v1 v2 S = some (r, S')) : RR KO (d + 4) 616 0 [(0, .ref 2), (1, .ref v1), (2, .int v2)] [] S (some (.int r)) S' := by
  unfold o_rd_untwinned at h
  refine RR.runs (pc' := 2) (lc' := [(0, .ref 2), (1, .ref v1), (2, .int v2)]) (st' := [.ref v1, .ref 2]) (S1 := S) (nL := 4) (cd := cd_616) mx_616 rfl rfl 2 rfl ?_
  obtain ⟨r1, S2, h1, h⟩ := bnE h
  refine RR.callV (b := 2) (as := [.ref v1]) (rest := []) (r1 := (some (.int r1))) (S1 := S2) mx_616 rfl rfl mx_611 rfl rfl (by decide) (Or.inl rfl) (Nat.le_of_ble_eq_true rfl) (Nat.le_of_ble_eq_true rfl) (RC.deep (by omega) (s_o_rd_appleHere (d := d) _ _ h1)) ?_
  show RR KO _ 616 5 [(0, .ref 2), (1, .ref v1), (2, .int v2)] [.int r1] S2 _ _
  refine RR.runs (pc' := icm .eq r1 v2 25 11) (lc' := [(3, .int r1), (0, .ref 2), (1, .ref v1), (2, .int v2)]) (st' := []) (S1 := S2) (nL := 4) (cd := cd_616) mx_616 rfl rfl 4 rfl ?_
  rcases ifE h with ⟨c, h⟩ | ⟨c, h⟩
  · refine RR.c_eq (fun _ => ?_) (fun q => absurd c q)
    refine RR.weak [(0, .ref 2), (3, .int r1)] ⟨rfl, rfl, trivial⟩ ?_
    exact s_o_rd_untwinned_25 _ _ h
  · refine RR.c_eq (fun q => absurd q c) (fun _ => ?_)
    refine RR.runs (pc' := 12) (lc' := [(3, .int r1), (0, .ref 2), (1, .ref v1), (2, .int v2)]) (st' := [.ref v1]) (S1 := S2) (nL := 4) (cd := cd_616) mx_616 rfl rfl 1 rfl ?_
    obtain ⟨g3, h⟩ := gpE h
    refine RR.gPo (pc' := 15) (lc' := [(3, .int r1), (0, .ref 2), (1, .ref v1), (2, .int v2)]) (st' := [.ref (v1 + 80)]) (S1 := S2) (nL := 4) (cd := cd_616) mx_616 rfl rfl rfl ⟨g3, by decide, by decide⟩ ?_
    refine RR.runs (pc' := 18) (lc' := [(3, .int r1), (0, .ref 2), (1, .ref v1), (2, .int v2)]) (st' := [.int (6 : Int32), .int r1, .ref (v1 + 80)]) (S1 := S2) (nL := 4) (cd := cd_616) mx_616 rfl rfl 2 rfl ?_
    obtain ⟨g4, h⟩ := gpE h
    obtain ⟨r5, S6, h1, h⟩ := bnE h
    refine RR.callV (b := (v1 + 80)) (as := [.int r1, .int (6 : Int32)]) (rest := []) (r1 := (some (.int r5))) (S1 := S6) mx_616 rfl rfl mx_1405 rfl rfl (by decide) (Or.inl g4) (Nat.le_of_ble_eq_true rfl) (Nat.le_of_ble_eq_true rfl) (RC.deep (by omega) (s_o_tb_at (d := d) _ _ _ _ h1)) ?_
    show RR KO _ 616 21 [(3, .int r1), (0, .ref 2), (1, .ref v1), (2, .int v2)] [.int r5] S6 _ _
    refine RR.runs (pc' := icm .eq r5 (-1 : Int32) 33 25) (lc' := [(3, .int r1), (0, .ref 2), (1, .ref v1), (2, .int v2)]) (st' := []) (S1 := S6) (nL := 4) (cd := cd_616) mx_616 rfl rfl 2 rfl ?_
    rcases ifE h with ⟨c, h⟩ | ⟨c, h⟩
    · refine RR.c_eq (fun _ => ?_) (fun q => absurd c q)
      refine RR.weak [(0, .ref 2), (3, .int r1)] ⟨rfl, rfl, trivial⟩ ?_
      exact s_o_rd_untwinned_33 _ _ h
    · refine RR.c_eq (fun q => absurd q c) (fun _ => ?_)
      refine RR.weak [(0, .ref 2), (3, .int r1)] ⟨rfl, rfl, trivial⟩ ?_
      exact s_o_rd_untwinned_25 _ _ h
theorem s_o_rd_untwinned {d : Nat} {S' : St} {r : Int32} (v1 : Nat) (v2 : Int32) (S : St) (h : o_rd_untwinned v1 v2 S = some (r, S')) : RC KO (d + 4) 616 [.ref 2, .ref v1, .int v2] S (some (.int r)) S' := RC.of rfl (s0_o_rd_untwinned v1 v2 S h)
-- NameOrchard$Reader readTwin (LNameOrchard$Told;)V
def o_rd_readTwin_60 (S : St) : Re Unit :=
  some ((), S)
set_option maxRecDepth 100000 in
theorem s_o_rd_readTwin_60 {d : Nat} {S' : St} {r : Unit} (S : St) (h : o_rd_readTwin_60 S = some (r, S')) : RR KO (d + 5) 615 60 [] [] S none S' := by
  unfold o_rd_readTwin_60 at h
  cases h
  exact RR.retv mx_615 rfl rfl rfl
def o_rd_readTwin (v1 : Nat) (S : St) : Re Unit :=
  bn (o_tp_step S) fun r1 S2 =>
  bn (o_rd_untwinned v1 (-1 : Int32) S2) fun r3 S4 =>
  bn (o_rd_untwinned v1 r3 S4) fun r5 S6 =>
  bn (o_rd_take 1006 S6) fun r7 S8 =>
  if (rI S8 3 7) = 0 then (
    if KO.1 v1 = (0, 10) then (
    if KO.1 (v1 + 80) = (0, 7) then (
bn (o_tb_put (v1 + 80) r3 (6 : Int32) r5 S8) fun r11 S12 =>
        bn (o_tb_put (v1 + 80) r5 (6 : Int32) r3 S12) fun r13 S14 =>
    o_rd_readTwin_60 S14) else none) else none)
  else (
    o_rd_readTwin_60 S8)
set_option maxRecDepth 100000 in
theorem s0_o_rd_readTwin {d : Nat} {S' : St} {r : Unit} (v1 : Nat) (S : St) (h : o_rd_readTwin v1 S = some (r, S')) : RR KO (d + 5) 615 0 [(0, .ref 2), (1, .ref v1)] [] S none S' := by
  unfold o_rd_readTwin at h
  refine RR.runs (pc' := 4) (lc' := [(0, .ref 2), (1, .ref v1)]) (st' := [.ref 3]) (S1 := S) (nL := 4) (cd := cd_615) mx_615 rfl rfl 2 rfl ?_
  obtain ⟨r1, S2, h1, h⟩ := bnE h
  refine RR.callV (b := 3) (as := []) (rest := []) (r1 := none) (S1 := S2) mx_615 rfl rfl mx_1605 rfl rfl (by decide) (Or.inl rfl) (Nat.le_of_ble_eq_true rfl) (Nat.le_of_ble_eq_true rfl) (RC.deep (by omega) (s_o_tp_step (d := d) _ h1)) ?_
  show RR KO _ 615 7 [(0, .ref 2), (1, .ref v1)] [] S2 _ _
  refine RR.runs (pc' := 10) (lc' := [(0, .ref 2), (1, .ref v1)]) (st' := [.int (-1 : Int32), .ref v1, .ref 2]) (S1 := S2) (nL := 4) (cd := cd_615) mx_615 rfl rfl 3 rfl ?_
  obtain ⟨r3, S4, h1, h⟩ := bnE h
  refine RR.callV (b := 2) (as := [.ref v1, .int (-1 : Int32)]) (rest := []) (r1 := (some (.int r3))) (S1 := S4) mx_615 rfl rfl mx_616 rfl rfl (by decide) (Or.inl rfl) (Nat.le_of_ble_eq_true rfl) (Nat.le_of_ble_eq_true rfl) (RC.deep (by omega) (s_o_rd_untwinned (d := d) _ _ _ h1)) ?_
  show RR KO _ 615 13 [(0, .ref 2), (1, .ref v1)] [.int r3] S4 _ _
  refine RR.runs (pc' := 17) (lc' := [(2, .int r3), (0, .ref 2), (1, .ref v1)]) (st' := [.int r3, .ref v1, .ref 2]) (S1 := S4) (nL := 4) (cd := cd_615) mx_615 rfl rfl 4 rfl ?_
  obtain ⟨r5, S6, h1, h⟩ := bnE h
  refine RR.callV (b := 2) (as := [.ref v1, .int r3]) (rest := []) (r1 := (some (.int r5))) (S1 := S6) mx_615 rfl rfl mx_616 rfl rfl (by decide) (Or.inl rfl) (Nat.le_of_ble_eq_true rfl) (Nat.le_of_ble_eq_true rfl) (RC.deep (by omega) (s_o_rd_untwinned (d := d) _ _ _ h1)) ?_
  show RR KO _ 615 20 [(2, .int r3), (0, .ref 2), (1, .ref v1)] [.int r5] S6 _ _
  refine RR.runs (pc' := 25) (lc' := [(3, .int r5), (2, .int r3), (0, .ref 2), (1, .ref v1)]) (st' := [.ref 1006, .ref 2]) (S1 := S6) (nL := 4) (cd := cd_615) mx_615 rfl rfl 3 rfl ?_
  obtain ⟨r7, S8, h1, h⟩ := bnE h
  refine RR.callV (b := 2) (as := [.ref 1006]) (rest := []) (r1 := none) (S1 := S8) mx_615 rfl rfl mx_604 rfl rfl (by decide) (Or.inl rfl) (Nat.le_of_ble_eq_true rfl) (Nat.le_of_ble_eq_true rfl) (RC.deep (by omega) (s_o_rd_take (d := d) _ _ h1)) ?_
  show RR KO _ 615 28 [(3, .int r5), (2, .int r3), (0, .ref 2), (1, .ref v1)] [] S8 _ _
  refine RR.runs (pc' := icm .ne (rI S8 3 7) 0 60 38) (lc' := [(3, .int r5), (2, .int r3), (0, .ref 2), (1, .ref v1)]) (st' := []) (S1 := S8) (nL := 4) (cd := cd_615) mx_615 rfl rfl 4 rfl ?_
  rcases ifE h with ⟨c, h⟩ | ⟨c, h⟩
  · refine RR.c_ne (fun _ => ?_) (fun q => absurd c q)
    refine RR.runs (pc' := 39) (lc' := [(3, .int r5), (2, .int r3), (0, .ref 2), (1, .ref v1)]) (st' := [.ref v1]) (S1 := S8) (nL := 4) (cd := cd_615) mx_615 rfl rfl 1 rfl ?_
    obtain ⟨g9, h⟩ := gpE h
    refine RR.gPo (pc' := 42) (lc' := [(3, .int r5), (2, .int r3), (0, .ref 2), (1, .ref v1)]) (st' := [.ref (v1 + 80)]) (S1 := S8) (nL := 4) (cd := cd_615) mx_615 rfl rfl rfl ⟨g9, by decide, by decide⟩ ?_
    refine RR.runs (pc' := 46) (lc' := [(3, .int r5), (2, .int r3), (0, .ref 2), (1, .ref v1)]) (st' := [.int r5, .int (6 : Int32), .int r3, .ref (v1 + 80)]) (S1 := S8) (nL := 4) (cd := cd_615) mx_615 rfl rfl 3 rfl ?_
    obtain ⟨g10, h⟩ := gpE h
    obtain ⟨r11, S12, h1, h⟩ := bnE h
    refine RR.callV (b := (v1 + 80)) (as := [.int r3, .int (6 : Int32), .int r5]) (rest := []) (r1 := none) (S1 := S12) mx_615 rfl rfl mx_1406 rfl rfl (by decide) (Or.inl g10) (Nat.le_of_ble_eq_true rfl) (Nat.le_of_ble_eq_true rfl) (RC.deep (by omega) (s_o_tb_put (d := d) _ _ _ _ _ h1)) ?_
    show RR KO _ 615 49 [(3, .int r5), (2, .int r3), (0, .ref 2), (1, .ref v1)] [] S12 _ _
    refine RR.runs (pc' := 50) (lc' := [(3, .int r5), (2, .int r3), (0, .ref 2), (1, .ref v1)]) (st' := [.ref v1]) (S1 := S12) (nL := 4) (cd := cd_615) mx_615 rfl rfl 1 rfl ?_
    refine RR.gPo (pc' := 53) (lc' := [(3, .int r5), (2, .int r3), (0, .ref 2), (1, .ref v1)]) (st' := [.ref (v1 + 80)]) (S1 := S12) (nL := 4) (cd := cd_615) mx_615 rfl rfl rfl ⟨g9, by decide, by decide⟩ ?_
    refine RR.runs (pc' := 57) (lc' := [(3, .int r5), (2, .int r3), (0, .ref 2), (1, .ref v1)]) (st' := [.int r3, .int (6 : Int32), .int r5, .ref (v1 + 80)]) (S1 := S12) (nL := 4) (cd := cd_615) mx_615 rfl rfl 3 rfl ?_
    obtain ⟨r13, S14, h1, h⟩ := bnE h
    refine RR.callV (b := (v1 + 80)) (as := [.int r5, .int (6 : Int32), .int r3]) (rest := []) (r1 := none) (S1 := S14) mx_615 rfl rfl mx_1406 rfl rfl (by decide) (Or.inl g10) (Nat.le_of_ble_eq_true rfl) (Nat.le_of_ble_eq_true rfl) (RC.deep (by omega) (s_o_tb_put (d := d) _ _ _ _ _ h1)) ?_
    show RR KO _ 615 60 [(3, .int r5), (2, .int r3), (0, .ref 2), (1, .ref v1)] [] S14 _ _
    refine RR.weak [] trivial ?_
    exact s_o_rd_readTwin_60 _ h
  · refine RR.c_ne (fun q => absurd q c) (fun _ => ?_)
    refine RR.weak [] trivial ?_
    exact s_o_rd_readTwin_60 _ h
theorem s_o_rd_readTwin {d : Nat} {S' : St} {r : Unit} (v1 : Nat) (S : St) (h : o_rd_readTwin v1 S = some (r, S')) : RC KO (d + 5) 615 [.ref 2, .ref v1] S none S' := RC.of rfl (s0_o_rd_readTwin v1 S h)
