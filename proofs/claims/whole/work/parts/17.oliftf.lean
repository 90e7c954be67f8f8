/-! Methods of the class, lifted (laid by wip/whole/gen/klass.py) -/
-- NameOrchard christen (II)Z
def o_christen_70 (S : St) : Re Int32 :=
  some ((0 : Int32), S)
set_option maxRecDepth 100000 in
theorem s_o_christen_70 {d : Nat} {S' : St} {r : Int32} (S : St) (h : o_christen_70 S = some (r, S')) : RR KO (d + 3) 2210 70 [] [] S (some (.int r)) S' := by
  unfold o_christen_70 at h
  refine RR.runs (pc' := 71) (lc' := []) (st' := [.int (0 : Int32)]) (S1 := S) (nL := 4) (cd := cd_2210) mx_2210 rfl rfl 1 rfl ?_
  cases h
  exact RR.retz mx_2210 rfl rfl rfl rfl
def o_christen_102 (S : St) : Re Int32 :=
  some ((0 : Int32), S)
set_option maxRecDepth 100000 in
theorem s_o_christen_102 {d : Nat} {S' : St} {r : Int32} (S : St) (h : o_christen_102 S = some (r, S')) : RR KO (d + 3) 2210 102 [] [] S (some (.int r)) S' := by
  unfold o_christen_102 at h
  refine RR.runs (pc' := 103) (lc' := []) (st' := [.int (0 : Int32)]) (S1 := S) (nL := 4) (cd := cd_2210) mx_2210 rfl rfl 1 rfl ?_
  cases h
  exact RR.retz mx_2210 rfl rfl rfl rfl
def o_christen_40 (v1 : Int32) (v2 : Int32) (p0 : Int32) (S : St) : Re Int32 :=
  if p0 = 0 then (
    o_christen_70 S)
  else (
    oq (rQ S 1 9) none fun o1 =>
    if KO.1 o1 = (0, 10) then (
bn (o_to_hasSound o1 v2 S) fun r3 S4 =>
    if r3 = 0 then (
      o_christen_70 S4)
    else (
      bn (o_sd_hangs 200 v1 S4) fun r5 S6 =>
      if r5 = 0 then (
        o_christen_70 S6)
      else (
        bn (o_sd_soundOf 200 v1 S6) fun r7 S8 =>
        if r7 = v2 then (
          o_christen_102 S8)
        else (
          bn (o_sd_hasOther 200 v1 v2 S8) fun r9 S10 =>
          if r9 = 0 then (
            bn (o_keepForUndo S10) fun r11 S12 =>
            bn (o_sd_name 200 v1 v2 S12) fun r13 S14 =>
            some ((1 : Int32), S14))
          else (
            o_christen_102 S10))))) else none)
set_option maxRecDepth 100000 in
theorem s_o_christen_40 {d : Nat} {S' : St} {r : Int32} (v1 : Int32) (v2 : Int32) (p0 : Int32) (S : St) (h : o_christen_40 v1 v2 p0 S = some (r, S')) : RR KO (d + 3) 2210 40 [(0, .ref 1), (1, .int v1), (2, .int v2)] [.int p0] S (some (.int r)) S' := by
  unfold o_christen_40 at h
  refine RR.runs (pc' := icm .eq p0 0 70 45) (lc' := [(3, .int p0), (0, .ref 1), (1, .int v1), (2, .int v2)]) (st' := []) (S1 := S) (nL := 4) (cd := cd_2210) mx_2210 rfl rfl 3 rfl ?_
  rcases ifE h with ⟨c, h⟩ | ⟨c, h⟩
  · refine RR.c_eq (fun _ => ?_) (fun q => absurd c q)
    refine RR.weak [] trivial ?_
    exact s_o_christen_70 _ h
  · refine RR.c_eq (fun q => absurd q c) (fun _ => ?_)
    refine RR.runs (pc' := 49) (lc' := [(3, .int p0), (0, .ref 1), (1, .int v1), (2, .int v2)]) (st' := [qv (rQ S 1 9)]) (S1 := S) (nL := 4) (cd := cd_2210) mx_2210 rfl rfl 2 rfl ?_
    rcases oqE h with ⟨e1, h⟩ | ⟨o1, eo1, h⟩
    · cases h
    rw [eo1]
    refine RR.runs (pc' := 50) (lc' := [(3, .int p0), (0, .ref 1), (1, .int v1), (2, .int v2)]) (st' := [.int v2, .ref o1]) (S1 := S) (nL := 4) (cd := cd_2210) mx_2210 rfl rfl 1 rfl ?_
    obtain ⟨g2, h⟩ := gpE h
    obtain ⟨r3, S4, h1, h⟩ := bnE h
    refine RR.callV (b := o1) (as := [.int v2]) (rest := []) (r1 := (some (.int r3))) (S1 := S4) mx_2210 rfl rfl mx_2006 rfl rfl (by decide) (Or.inl g2) (Nat.le_of_ble_eq_true rfl) (Nat.le_of_ble_eq_true rfl) (RC.deep (by omega) (s_o_to_hasSound (d := d) _ _ _ h1)) ?_
    show RR KO _ 2210 53 [(3, .int p0), (0, .ref 1), (1, .int v1), (2, .int v2)] [.int r3] S4 _ _
    refine RR.runs (pc' := icm .eq r3 0 70 56) (lc' := [(3, .int p0), (0, .ref 1), (1, .int v1), (2, .int v2)]) (st' := []) (S1 := S4) (nL := 4) (cd := cd_2210) mx_2210 rfl rfl 1 rfl ?_
    rcases ifE h with ⟨c, h⟩ | ⟨c, h⟩
    · refine RR.c_eq (fun _ => ?_) (fun q => absurd c q)
      refine RR.weak [] trivial ?_
      exact s_o_christen_70 _ h
    · refine RR.c_eq (fun q => absurd q c) (fun _ => ?_)
      refine RR.runs (pc' := 64) (lc' := [(3, .int p0), (0, .ref 1), (1, .int v1), (2, .int v2)]) (st' := [.int v1, .ref 200]) (S1 := S4) (nL := 4) (cd := cd_2210) mx_2210 rfl rfl 4 rfl ?_
      obtain ⟨r5, S6, h1, h⟩ := bnE h
      refine RR.callV (b := 200) (as := [.int v1]) (rest := []) (r1 := (some (.int r5))) (S1 := S6) mx_2210 rfl rfl mx_1003 rfl rfl (by decide) (Or.inl rfl) (Nat.le_of_ble_eq_true rfl) (Nat.le_of_ble_eq_true rfl) (RC.deep (by omega) (s_o_sd_hangs (d := d) _ _ _ h1)) ?_
      show RR KO _ 2210 67 [(3, .int p0), (0, .ref 1), (1, .int v1), (2, .int v2)] [.int r5] S6 _ _
      refine RR.runs (pc' := icm .ne r5 0 72 70) (lc' := [(3, .int p0), (0, .ref 1), (1, .int v1), (2, .int v2)]) (st' := []) (S1 := S6) (nL := 4) (cd := cd_2210) mx_2210 rfl rfl 1 rfl ?_
      rcases ifE h with ⟨c, h⟩ | ⟨c, h⟩
      · refine RR.c_ne (fun _ => ?_) (fun q => absurd c q)
        refine RR.weak [] trivial ?_
        exact s_o_christen_70 _ h
      · refine RR.c_ne (fun q => absurd q c) (fun _ => ?_)
        refine RR.runs (pc' := 80) (lc' := [(3, .int p0), (0, .ref 1), (1, .int v1), (2, .int v2)]) (st' := [.int v1, .ref 200]) (S1 := S6) (nL := 4) (cd := cd_2210) mx_2210 rfl rfl 4 rfl ?_
        obtain ⟨r7, S8, h1, h⟩ := bnE h
        refine RR.callV (b := 200) (as := [.int v1]) (rest := []) (r1 := (some (.int r7))) (S1 := S8) mx_2210 rfl rfl mx_1005 rfl rfl (by decide) (Or.inl rfl) (Nat.le_of_ble_eq_true rfl) (Nat.le_of_ble_eq_true rfl) (RC.deep (by omega) (s_o_sd_soundOf (d := d) _ _ _ h1)) ?_
        show RR KO _ 2210 83 [(3, .int p0), (0, .ref 1), (1, .int v1), (2, .int v2)] [.int r7] S8 _ _
        refine RR.runs (pc' := icm .eq r7 v2 102 87) (lc' := [(3, .int p0), (0, .ref 1), (1, .int v1), (2, .int v2)]) (st' := []) (S1 := S8) (nL := 4) (cd := cd_2210) mx_2210 rfl rfl 2 rfl ?_
        rcases ifE h with ⟨c, h⟩ | ⟨c, h⟩
        · refine RR.c_eq (fun _ => ?_) (fun q => absurd c q)
          refine RR.weak [] trivial ?_
          exact s_o_christen_102 _ h
        · refine RR.c_eq (fun q => absurd q c) (fun _ => ?_)
          refine RR.runs (pc' := 96) (lc' := [(3, .int p0), (0, .ref 1), (1, .int v1), (2, .int v2)]) (st' := [.int v2, .int v1, .ref 200]) (S1 := S8) (nL := 4) (cd := cd_2210) mx_2210 rfl rfl 5 rfl ?_
          obtain ⟨r9, S10, h1, h⟩ := bnE h
          refine RR.callV (b := 200) (as := [.int v1, .int v2]) (rest := []) (r1 := (some (.int r9))) (S1 := S10) mx_2210 rfl rfl mx_1007 rfl rfl (by decide) (Or.inl rfl) (Nat.le_of_ble_eq_true rfl) (Nat.le_of_ble_eq_true rfl) (RC.deep (by omega) (s_o_sd_hasOther (d := d) _ _ _ _ h1)) ?_
          show RR KO _ 2210 99 [(3, .int p0), (0, .ref 1), (1, .int v1), (2, .int v2)] [.int r9] S10 _ _
          refine RR.runs (pc' := icm .eq r9 0 104 102) (lc' := [(3, .int p0), (0, .ref 1), (1, .int v1), (2, .int v2)]) (st' := []) (S1 := S10) (nL := 4) (cd := cd_2210) mx_2210 rfl rfl 1 rfl ?_
          rcases ifE h with ⟨c, h⟩ | ⟨c, h⟩
          · refine RR.c_eq (fun _ => ?_) (fun q => absurd c q)
            refine RR.runs (pc' := 105) (lc' := [(3, .int p0), (0, .ref 1), (1, .int v1), (2, .int v2)]) (st' := [.ref 1]) (S1 := S10) (nL := 4) (cd := cd_2210) mx_2210 rfl rfl 1 rfl ?_
            obtain ⟨r11, S12, h1, h⟩ := bnE h
            refine RR.callV (b := 1) (as := []) (rest := []) (r1 := none) (S1 := S12) mx_2210 rfl rfl mx_2228 rfl rfl (by decide) (Or.inl rfl) (Nat.le_of_ble_eq_true rfl) (Nat.le_of_ble_eq_true rfl) (RC.deep (by omega) (s_o_keepForUndo (d := d) _ h1)) ?_
            show RR KO _ 2210 108 [(3, .int p0), (0, .ref 1), (1, .int v1), (2, .int v2)] [] S12 _ _
            refine RR.runs (pc' := 117) (lc' := [(3, .int p0), (0, .ref 1), (1, .int v1), (2, .int v2)]) (st' := [.int v2, .int v1, .ref 200]) (S1 := S12) (nL := 4) (cd := cd_2210) mx_2210 rfl rfl 5 rfl ?_
            obtain ⟨r13, S14, h1, h⟩ := bnE h
            refine RR.callV (b := 200) (as := [.int v1, .int v2]) (rest := []) (r1 := none) (S1 := S14) mx_2210 rfl rfl mx_1006 rfl rfl (by decide) (Or.inl rfl) (Nat.le_of_ble_eq_true rfl) (Nat.le_of_ble_eq_true rfl) (RC.deep (by omega) (s_o_sd_name (d := d) _ _ _ _ h1)) ?_
            show RR KO _ 2210 120 [(3, .int p0), (0, .ref 1), (1, .int v1), (2, .int v2)] [] S14 _ _
            refine RR.runs (pc' := 121) (lc' := [(3, .int p0), (0, .ref 1), (1, .int v1), (2, .int v2)]) (st' := [.int (1 : Int32)]) (S1 := S14) (nL := 4) (cd := cd_2210) mx_2210 rfl rfl 1 rfl ?_
            cases h
            exact RR.retz mx_2210 rfl rfl rfl rfl
          · refine RR.c_eq (fun q => absurd q c) (fun _ => ?_)
            refine RR.weak [] trivial ?_
            exact s_o_christen_102 _ h
def o_christen_39 (v1 : Int32) (v2 : Int32) (S : St) : Re Int32 :=
  o_christen_40 v1 v2 (0 : Int32) S
set_option maxRecDepth 100000 in
theorem s_o_christen_39 {d : Nat} {S' : St} {r : Int32} (v1 : Int32) (v2 : Int32) (S : St) (h : o_christen_39 v1 v2 S = some (r, S')) : RR KO (d + 3) 2210 39 [(0, .ref 1), (1, .int v1), (2, .int v2)] [] S (some (.int r)) S' := by
  unfold o_christen_39 at h
  refine RR.runs (pc' := 40) (lc' := [(0, .ref 1), (1, .int v1), (2, .int v2)]) (st' := [.int (0 : Int32)]) (S1 := S) (nL := 4) (cd := cd_2210) mx_2210 rfl rfl 1 rfl ?_
  refine RR.weak [(0, .ref 1), (1, .int v1), (2, .int v2)] ⟨rfl, rfl, rfl, trivial⟩ ?_
  exact s_o_christen_40 _ _ _ _ h
def o_christen (v1 : Int32) (v2 : Int32) (S : St) : Re Int32 :=
  oq (rQ S 1 9) none fun o1 =>
  if KO.1 o1 = (0, 10) then (
bn (o_to_hasApple o1 v1 S) fun r3 S4 =>
  if r3 = 0 then (
    o_christen_39 v1 v2 S4)
  else (
    oq (rQ S4 1 9) none fun o5 =>
    if KO.1 o5 = (0, 10) then (
bn (o_to_unripe o5 (rI S4 200 3) S4) fun r7 S8 =>
    if ((r7 >>> (v1 &&& 31)) &&& (1 : Int32)) = 0 then (
      o_christen_39 v1 v2 S8)
    else (
      o_christen_40 v1 v2 (1 : Int32) S8)) else none)) else none
set_option maxRecDepth 100000 in
theorem s0_o_christen {d : Nat} {S' : St} {r : Int32} (v1 : Int32) (v2 : Int32) (S : St) (h : o_christen v1 v2 S = some (r, S')) : RR KO (d + 3) 2210 0 [(0, .ref 1), (1, .int v1), (2, .int v2)] [] S (some (.int r)) S' := by
  unfold o_christen at h
  refine RR.runs (pc' := 4) (lc' := [(0, .ref 1), (1, .int v1), (2, .int v2)]) (st' := [qv (rQ S 1 9)]) (S1 := S) (nL := 4) (cd := cd_2210) mx_2210 rfl rfl 2 rfl ?_
  rcases oqE h with ⟨e1, h⟩ | ⟨o1, eo1, h⟩
  · cases h
  rw [eo1]
  refine RR.runs (pc' := 5) (lc' := [(0, .ref 1), (1, .int v1), (2, .int v2)]) (st' := [.int v1, .ref o1]) (S1 := S) (nL := 4) (cd := cd_2210) mx_2210 rfl rfl 1 rfl ?_
  obtain ⟨g2, h⟩ := gpE h
  obtain ⟨r3, S4, h1, h⟩ := bnE h
  refine RR.callV (b := o1) (as := [.int v1]) (rest := []) (r1 := (some (.int r3))) (S1 := S4) mx_2210 rfl rfl mx_2005 rfl rfl (by decide) (Or.inl g2) (Nat.le_of_ble_eq_true rfl) (Nat.le_of_ble_eq_true rfl) (RC.deep (by omega) (s_o_to_hasApple (d := d) _ _ _ h1)) ?_
  show RR KO _ 2210 8 [(0, .ref 1), (1, .int v1), (2, .int v2)] [.int r3] S4 _ _
  refine RR.runs (pc' := icm .eq r3 0 39 11) (lc' := [(0, .ref 1), (1, .int v1), (2, .int v2)]) (st' := []) (S1 := S4) (nL := 4) (cd := cd_2210) mx_2210 rfl rfl 1 rfl ?_
  rcases ifE h with ⟨c, h⟩ | ⟨c, h⟩
  · refine RR.c_eq (fun _ => ?_) (fun q => absurd c q)
    refine RR.weak [(0, .ref 1), (1, .int v1), (2, .int v2)] ⟨rfl, rfl, rfl, trivial⟩ ?_
    exact s_o_christen_39 _ _ _ h
  · refine RR.c_eq (fun q => absurd q c) (fun _ => ?_)
    refine RR.runs (pc' := 15) (lc' := [(0, .ref 1), (1, .int v1), (2, .int v2)]) (st' := [qv (rQ S4 1 9)]) (S1 := S4) (nL := 4) (cd := cd_2210) mx_2210 rfl rfl 2 rfl ?_
    rcases oqE h with ⟨e1, h⟩ | ⟨o5, eo5, h⟩
    · cases h
    rw [eo5]
    refine RR.runs (pc' := 25) (lc' := [(0, .ref 1), (1, .int v1), (2, .int v2)]) (st' := [.int (rI S4 200 3), .ref o5]) (S1 := S4) (nL := 4) (cd := cd_2210) mx_2210 rfl rfl 4 rfl ?_
    obtain ⟨g6, h⟩ := gpE h
    obtain ⟨r7, S8, h1, h⟩ := bnE h
    refine RR.callV (b := o5) (as := [.int (rI S4 200 3)]) (rest := []) (r1 := (some (.int r7))) (S1 := S8) mx_2210 rfl rfl mx_2017 rfl rfl (by decide) (Or.inl g6) (Nat.le_of_ble_eq_true rfl) (Nat.le_of_ble_eq_true rfl) (RC.deep (by omega) (s_o_to_unripe (d := d) _ _ _ h1)) ?_
    show RR KO _ 2210 28 [(0, .ref 1), (1, .int v1), (2, .int v2)] [.int r7] S8 _ _
    refine RR.runs (pc' := icm .eq (((r7 >>> (v1 &&& 31)) &&& (1 : Int32))) 0 39 35) (lc' := [(0, .ref 1), (1, .int v1), (2, .int v2)]) (st' := []) (S1 := S8) (nL := 4) (cd := cd_2210) mx_2210 rfl rfl 5 rfl ?_
    rcases ifE h with ⟨c, h⟩ | ⟨c, h⟩
    · refine RR.c_eq (fun _ => ?_) (fun q => absurd c q)
      refine RR.weak [(0, .ref 1), (1, .int v1), (2, .int v2)] ⟨rfl, rfl, rfl, trivial⟩ ?_
      exact s_o_christen_39 _ _ _ h
    · refine RR.c_eq (fun q => absurd q c) (fun _ => ?_)
      refine RR.runs (pc' := 40) (lc' := [(0, .ref 1), (1, .int v1), (2, .int v2)]) (st' := [.int (1 : Int32)]) (S1 := S8) (nL := 4) (cd := cd_2210) mx_2210 rfl rfl 2 rfl ?_
      refine RR.weak [(0, .ref 1), (1, .int v1), (2, .int v2)] ⟨rfl, rfl, rfl, trivial⟩ ?_
      exact s_o_christen_40 _ _ _ _ h
theorem s_o_christen {d : Nat} {S' : St} {r : Int32} (v1 : Int32) (v2 : Int32) (S : St) (h : o_christen v1 v2 S = some (r, S')) : RC KO (d + 3) 2210 [.ref 1, .int v1, .int v2] S (some (.int r)) S' := RC.of rfl (s0_o_christen v1 v2 S h)
-- NameOrchard pass (I)I
def o_pass_11 (S : St) : Re Int32 :=
  some ((-1 : Int32), S)
set_option maxRecDepth 100000 in
theorem s_o_pass_11 {d : Nat} {S' : St} {r : Int32} (S : St) (h : o_pass_11 S = some (r, S')) : RR KO (d + 3) 2211 11 [] [] S (some (.int r)) S' := by
  unfold o_pass_11 at h
  refine RR.runs (pc' := 12) (lc' := []) (st' := [.int (-1 : Int32)]) (S1 := S) (nL := 3) (cd := cd_2211) mx_2211 rfl rfl 1 rfl ?_
  cases h
  exact RR.reti mx_2211 rfl rfl rfl
def o_pass_40 (S : St) : Re Int32 :=
  some ((rI S 200 3), S)
set_option maxRecDepth 100000 in
theorem s_o_pass_40 {d : Nat} {S' : St} {r : Int32} (S : St) (h : o_pass_40 S = some (r, S')) : RR KO (d + 3) 2211 40 [(0, .ref 1)] [] S (some (.int r)) S' := by
  unfold o_pass_40 at h
  refine RR.runs (pc' := 50) (lc' := [(0, .ref 1)]) (st' := [.int (rI S 200 3)]) (S1 := S) (nL := 3) (cd := cd_2211) mx_2211 rfl rfl 4 rfl ?_
  cases h
  exact RR.reti mx_2211 rfl rfl rfl
def o_pass_19 : Nat → Int32 → Int32 → St → Re Int32
  | 0, _, _, _ => none
  | n + 1, v1, v2, S =>
  if v2 < v1 then (
    bn (o_sd_nextDay 200 S) fun r1 S2 =>
    lt' ((v2 + (1 : Int32)) : Int32) fun x3 =>
    o_pass_19 n v1 x3 S2)
  else (
    o_pass_40 S)
set_option maxRecDepth 100000 in
theorem s_o_pass_19 {d : Nat} {S' : St} {r : Int32} : ∀ (n : Nat) (v1 : Int32) (v2 : Int32) (S : St), o_pass_19 n v1 v2 S = some (r, S') → RR KO (d + 3) 2211 19 [(0, .ref 1), (1, .int v1), (2, .int v2)] [] S (some (.int r)) S' := by
  intro n
  induction n with
  | zero => intro v1 v2 S h; simp only [o_pass_19] at h; cases h
  | succ n ih =>
    intro v1 v2 S h
    simp only [o_pass_19] at h
    refine RR.runs (pc' := icm .ge v2 v1 40 24) (lc' := [(0, .ref 1), (1, .int v1), (2, .int v2)]) (st' := []) (S1 := S) (nL := 3) (cd := cd_2211) mx_2211 rfl rfl 3 rfl ?_
    rcases ifE h with ⟨c, h⟩ | ⟨c, h⟩
    · refine RR.c_ge (fun _ => ?_) (fun q => absurd c q)
      refine RR.runs (pc' := 31) (lc' := [(0, .ref 1), (1, .int v1), (2, .int v2)]) (st' := [.ref 200]) (S1 := S) (nL := 3) (cd := cd_2211) mx_2211 rfl rfl 3 rfl ?_
      obtain ⟨r1, S2, h1, h⟩ := bnE h
      refine RR.callV (b := 200) (as := []) (rest := []) (r1 := none) (S1 := S2) mx_2211 rfl rfl mx_1014 rfl rfl (by decide) (Or.inl rfl) (Nat.le_of_ble_eq_true rfl) (Nat.le_of_ble_eq_true rfl) (RC.deep (by omega) (s_o_sd_nextDay (d := d) _ _ h1)) ?_
      show RR KO _ 2211 34 [(0, .ref 1), (1, .int v1), (2, .int v2)] [] S2 _ _
      refine RR.runs (pc' := 37) (lc' := [(2, .int ((v2 + (1 : Int32)))), (0, .ref 1), (1, .int v1)]) (st' := []) (S1 := S2) (nL := 3) (cd := cd_2211) mx_2211 rfl rfl 1 rfl ?_
      obtain ⟨x3, ex3, h⟩ := ltE h
      rw [← ex3]
      refine RR.runs (pc' := 19) (lc' := [(2, .int x3), (0, .ref 1), (1, .int v1)]) (st' := []) (S1 := S2) (nL := 3) (cd := cd_2211) mx_2211 rfl rfl 1 rfl ?_
      refine RR.weak [(0, .ref 1), (1, .int v1), (2, .int x3)] ⟨rfl, rfl, rfl, trivial⟩ ?_
      exact ih _ _ _ h
    · refine RR.c_ge (fun q => absurd q c) (fun _ => ?_)
      refine RR.weak [(0, .ref 1)] ⟨rfl, trivial⟩ ?_
      exact s_o_pass_40 _ h
def o_pass (v1 : Int32) (S : St) : Re Int32 :=
  if v1 < (1 : Int32) then (
    o_pass_11 S)
  else (
    if (30 : Int32) < v1 then (
      o_pass_11 S)
    else (
      bn (o_keepForUndo S) fun r1 S2 =>
      o_pass_19 FU v1 (0 : Int32) S2))
set_option maxRecDepth 100000 in
theorem s0_o_pass {d : Nat} {S' : St} {r : Int32} (v1 : Int32) (S : St) (h : o_pass v1 S = some (r, S')) : RR KO (d + 3) 2211 0 [(0, .ref 1), (1, .int v1)] [] S (some (.int r)) S' := by
  unfold o_pass at h
  refine RR.runs (pc' := icm .lt v1 (1 : Int32) 11 5) (lc' := [(0, .ref 1), (1, .int v1)]) (st' := []) (S1 := S) (nL := 3) (cd := cd_2211) mx_2211 rfl rfl 3 rfl ?_
  rcases ifE h with ⟨c, h⟩ | ⟨c, h⟩
  · refine RR.c_lt (fun _ => ?_) (fun q => absurd c q)
    refine RR.weak [] trivial ?_
    exact s_o_pass_11 _ h
  · refine RR.c_lt (fun q => absurd q c) (fun _ => ?_)
    refine RR.runs (pc' := icm .le v1 (30 : Int32) 13 11) (lc' := [(0, .ref 1), (1, .int v1)]) (st' := []) (S1 := S) (nL := 3) (cd := cd_2211) mx_2211 rfl rfl 3 rfl ?_
    rcases ifE h with ⟨c, h⟩ | ⟨c, h⟩
    · refine RR.c_le (fun _ => ?_) (fun q => absurd c q)
      refine RR.weak [] trivial ?_
      exact s_o_pass_11 _ h
    · refine RR.c_le (fun q => absurd q c) (fun _ => ?_)
      refine RR.runs (pc' := 14) (lc' := [(0, .ref 1), (1, .int v1)]) (st' := [.ref 1]) (S1 := S) (nL := 3) (cd := cd_2211) mx_2211 rfl rfl 1 rfl ?_
      obtain ⟨r1, S2, h1, h⟩ := bnE h
      refine RR.callV (b := 1) (as := []) (rest := []) (r1 := none) (S1 := S2) mx_2211 rfl rfl mx_2228 rfl rfl (by decide) (Or.inl rfl) (Nat.le_of_ble_eq_true rfl) (Nat.le_of_ble_eq_true rfl) (RC.deep (by omega) (s_o_keepForUndo (d := d) _ h1)) ?_
      show RR KO _ 2211 17 [(0, .ref 1), (1, .int v1)] [] S2 _ _
      refine RR.runs (pc' := 19) (lc' := [(2, .int (0 : Int32)), (0, .ref 1), (1, .int v1)]) (st' := []) (S1 := S2) (nL := 3) (cd := cd_2211) mx_2211 rfl rfl 2 rfl ?_
      refine RR.weak [(0, .ref 1), (1, .int v1), (2, .int (0 : Int32))] ⟨rfl, rfl, rfl, trivial⟩ ?_
      exact s_o_pass_19 _ _ _ _ h
theorem s_o_pass {d : Nat} {S' : St} {r : Int32} (v1 : Int32) (S : St) (h : o_pass v1 S = some (r, S')) : RC KO (d + 3) 2211 [.ref 1, .int v1] S (some (.int r)) S' := RC.of rfl (s0_o_pass v1 S h)
-- NameOrchard undo ()Z
def o_undo_20 (S : St) : Re Int32 :=
  some ((0 : Int32), S)
set_option maxRecDepth 100000 in
theorem s_o_undo_20 {d : Nat} {S' : St} {r : Int32} (S : St) (h : o_undo_20 S = some (r, S')) : RR KO (d + 2) 2212 20 [] [] S (some (.int r)) S' := by
  unfold o_undo_20 at h
  refine RR.runs (pc' := 21) (lc' := []) (st' := [.int (0 : Int32)]) (S1 := S) (nL := 1) (cd := cd_2212) mx_2212 rfl rfl 1 rfl ?_
  cases h
  exact RR.retz mx_2212 rfl rfl rfl rfl
def o_undo (S : St) : Re Int32 :=
  if (rI S 1 11) < (1 : Int32) then (
    o_undo_20 S)
  else (
    if (16 : Int32) < (rI S 1 11) then (
      o_undo_20 S)
    else (
      lt' (wI S 1 11 (((rI S 1 11) - (1 : Int32)))) fun S1 =>
      if (rI S1 1 11) < 0 ∨ 16 ≤ (rI S1 1 11).toNatClampNeg then none else
      oq (rQ S1 19 (rI S1 1 11).toNatClampNeg) none fun o2 =>
      bn (o_sd_copy 200 o2 S1) fun r3 S4 =>
      some ((1 : Int32), S4)))
set_option maxRecDepth 100000 in
theorem s0_o_undo {d : Nat} {S' : St} {r : Int32} (S : St) (h : o_undo S = some (r, S')) : RR KO (d + 2) 2212 0 [(0, .ref 1)] [] S (some (.int r)) S' := by
  unfold o_undo at h
  refine RR.runs (pc' := icm .lt (rI S 1 11) (1 : Int32) 20 8) (lc' := [(0, .ref 1)]) (st' := []) (S1 := S) (nL := 1) (cd := cd_2212) mx_2212 rfl rfl 4 rfl ?_
  rcases ifE h with ⟨c, h⟩ | ⟨c, h⟩
  · refine RR.c_lt (fun _ => ?_) (fun q => absurd c q)
    refine RR.weak [] trivial ?_
    exact s_o_undo_20 _ h
  · refine RR.c_lt (fun q => absurd q c) (fun _ => ?_)
    refine RR.runs (pc' := icm .le (rI S 1 11) (16 : Int32) 22 20) (lc' := [(0, .ref 1)]) (st' := []) (S1 := S) (nL := 1) (cd := cd_2212) mx_2212 rfl rfl 6 rfl ?_
    rcases ifE h with ⟨c, h⟩ | ⟨c, h⟩
    · refine RR.c_le (fun _ => ?_) (fun q => absurd c q)
      refine RR.weak [] trivial ?_
      exact s_o_undo_20 _ h
    · refine RR.c_le (fun q => absurd q c) (fun _ => ?_)
      refine RR.runs (pc' := 32) (lc' := [(0, .ref 1)]) (st' := []) (S1 := (wI S 1 11 (((rI S 1 11) - (1 : Int32))))) (nL := 1) (cd := cd_2212) mx_2212 rfl rfl 6 rfl ?_
      obtain ⟨S1, eS1, h⟩ := ltE h
      rw [← eS1]
      refine RR.runs (pc' := 47) (lc' := [(0, .ref 1)]) (st' := [.int (rI S1 1 11), .ref 19, .ref 200]) (S1 := S1) (nL := 1) (cd := cd_2212) mx_2212 rfl rfl 7 rfl ?_
      obtain ⟨g, h⟩ := gnE h
      refine RR.gPN (c2 := 5 ≤ (KO.1 19).1 ∧ (KO.1 19).1 < 8) (pc' := 48) (lc' := [(0, .ref 1)]) (st' := [qv (rQ S1 19 (rI S1 1 11).toNatClampNeg), .ref 200]) (S1 := S1) (nL := 1) (cd := cd_2212) mx_2212 rfl rfl rfl ⟨by decide, by decide⟩ g ?_
      rcases oqE h with ⟨e1, h⟩ | ⟨o2, eo2, h⟩
      · cases h
      rw [eo2]
      obtain ⟨r3, S4, h1, h⟩ := bnE h
      refine RR.callV (b := 200) (as := [.ref o2]) (rest := []) (r1 := none) (S1 := S4) mx_2212 rfl rfl mx_1002 rfl rfl (by decide) (Or.inl rfl) (Nat.le_of_ble_eq_true rfl) (Nat.le_of_ble_eq_true rfl) (RC.deep (by omega) (s_o_sd_copy (d := d) _ _ _ h1)) ?_
      show RR KO _ 2212 51 [(0, .ref 1)] [] S4 _ _
      refine RR.runs (pc' := 52) (lc' := [(0, .ref 1)]) (st' := [.int (1 : Int32)]) (S1 := S4) (nL := 1) (cd := cd_2212) mx_2212 rfl rfl 1 rfl ?_
      cases h
      exact RR.retz mx_2212 rfl rfl rfl rfl
theorem s_o_undo {d : Nat} {S' : St} {r : Int32} (S : St) (h : o_undo S = some (r, S')) : RC KO (d + 2) 2212 [.ref 1] S (some (.int r)) S' := RC.of rfl (s0_o_undo S h)
-- NameOrchard live (I)I
def o_live (v1 : Int32) (S : St) : Re Int32 :=
  bn (o_tb_at 111 v1 (0 : Int32) S) fun r1 S2 =>
  bn (o_tb_at 111 v1 (1 : Int32) S2) fun r3 S4 =>
  if r1 = (1 : Int32) then (
    bn (o_tb_at 111 v1 (2 : Int32) S4) fun r5 S6 =>
    oq (rQ S6 1 9) none fun o7 =>
    if KO.1 o7 = (0, 10) then (
bn (o_to_canSay o7 r3 r5 S6) fun r9 S10 =>
    if r9 = 0 then (
      some ((-1 : Int32), S10))
    else (
      oq (rQ S10 1 9) none fun o11 =>
      oq (rQ S10 1 9) none fun o12 =>
      if KO.1 o12 = (0, 10) then (
bn (o_to_laneOf o12 r3 S10) fun r14 S15 =>
      oq (rQ S15 1 9) none fun o16 =>
      if KO.1 o16 = (0, 10) then (
bn (o_to_loudOf o16 r3 S15) fun r18 S19 =>
      bn (o_sd_cry 205 o11 r14 r18 r5 S19) fun r20 S21 =>
      some (r20, S21)) else none) else none)) else none)
  else (
    if r1 = (2 : Int32) then (
      bn (o_sd_canTake 205 r3 S4) fun r22 S23 =>
      if r22 = 0 then (
        some ((-1 : Int32), S23))
      else (
        oq (rQ S23 1 9) none fun o24 =>
        bn (o_sd_take 205 o24 r3 S23) fun r25 S26 =>
        some ((0 : Int32), S26)))
    else (
      bn (o_sd_nextDay 205 S4) fun r27 S28 =>
      some ((0 : Int32), S28)))
set_option maxRecDepth 100000 in
theorem s0_o_live {d : Nat} {S' : St} {r : Int32} (v1 : Int32) (S : St) (h : o_live v1 S = some (r, S')) : RR KO (d + 6) 2229 0 [(0, .ref 1), (1, .int v1)] [] S (some (.int r)) S' := by
  unfold o_live at h
  refine RR.runs (pc' := 9) (lc' := [(0, .ref 1), (1, .int v1)]) (st' := [.int (0 : Int32), .int v1, .ref 111]) (S1 := S) (nL := 5) (cd := cd_2229) mx_2229 rfl rfl 5 rfl ?_
  obtain ⟨r1, S2, h1, h⟩ := bnE h
  refine RR.callV (b := 111) (as := [.int v1, .int (0 : Int32)]) (rest := []) (r1 := (some (.int r1))) (S1 := S2) mx_2229 rfl rfl mx_1405 rfl rfl (by decide) (Or.inl rfl) (Nat.le_of_ble_eq_true rfl) (Nat.le_of_ble_eq_true rfl) (RC.deep (by omega) (s_o_tb_at (d := d) _ _ _ _ h1)) ?_
  show RR KO _ 2229 12 [(0, .ref 1), (1, .int v1)] [.int r1] S2 _ _
  refine RR.runs (pc' := 22) (lc' := [(2, .int r1), (0, .ref 1), (1, .int v1)]) (st' := [.int (1 : Int32), .int v1, .ref 111]) (S1 := S2) (nL := 5) (cd := cd_2229) mx_2229 rfl rfl 6 rfl ?_
  obtain ⟨r3, S4, h1, h⟩ := bnE h
  refine RR.callV (b := 111) (as := [.int v1, .int (1 : Int32)]) (rest := []) (r1 := (some (.int r3))) (S1 := S4) mx_2229 rfl rfl mx_1405 rfl rfl (by decide) (Or.inl rfl) (Nat.le_of_ble_eq_true rfl) (Nat.le_of_ble_eq_true rfl) (RC.deep (by omega) (s_o_tb_at (d := d) _ _ _ _ h1)) ?_
  show RR KO _ 2229 25 [(2, .int r1), (0, .ref 1), (1, .int v1)] [.int r3] S4 _ _
  refine RR.runs (pc' := icm .ne r1 (1 : Int32) 90 31) (lc' := [(3, .int r3), (2, .int r1), (0, .ref 1), (1, .int v1)]) (st' := []) (S1 := S4) (nL := 5) (cd := cd_2229) mx_2229 rfl rfl 4 rfl ?_
  rcases ifE h with ⟨c, h⟩ | ⟨c, h⟩
  · refine RR.c_ne (fun _ => ?_) (fun q => absurd c q)
    refine RR.runs (pc' := 40) (lc' := [(3, .int r3), (2, .int r1), (0, .ref 1), (1, .int v1)]) (st' := [.int (2 : Int32), .int v1, .ref 111]) (S1 := S4) (nL := 5) (cd := cd_2229) mx_2229 rfl rfl 5 rfl ?_
    obtain ⟨r5, S6, h1, h⟩ := bnE h
    refine RR.callV (b := 111) (as := [.int v1, .int (2 : Int32)]) (rest := []) (r1 := (some (.int r5))) (S1 := S6) mx_2229 rfl rfl mx_1405 rfl rfl (by decide) (Or.inl rfl) (Nat.le_of_ble_eq_true rfl) (Nat.le_of_ble_eq_true rfl) (RC.deep (by omega) (s_o_tb_at (d := d) _ _ _ _ h1)) ?_
    show RR KO _ 2229 43 [(3, .int r3), (2, .int r1), (0, .ref 1), (1, .int v1)] [.int r5] S6 _ _
    refine RR.runs (pc' := 49) (lc' := [(4, .int r5), (3, .int r3), (2, .int r1), (0, .ref 1), (1, .int v1)]) (st' := [qv (rQ S6 1 9)]) (S1 := S6) (nL := 5) (cd := cd_2229) mx_2229 rfl rfl 3 rfl ?_
    rcases oqE h with ⟨e1, h⟩ | ⟨o7, eo7, h⟩
    · cases h
    rw [eo7]
    refine RR.runs (pc' := 52) (lc' := [(4, .int r5), (3, .int r3), (2, .int r1), (0, .ref 1), (1, .int v1)]) (st' := [.int r5, .int r3, .ref o7]) (S1 := S6) (nL := 5) (cd := cd_2229) mx_2229 rfl rfl 2 rfl ?_
    obtain ⟨g8, h⟩ := gpE h
    obtain ⟨r9, S10, h1, h⟩ := bnE h
    refine RR.callV (b := o7) (as := [.int r3, .int r5]) (rest := []) (r1 := (some (.int r9))) (S1 := S10) mx_2229 rfl rfl mx_2010 rfl rfl (by decide) (Or.inl g8) (Nat.le_of_ble_eq_true rfl) (Nat.le_of_ble_eq_true rfl) (RC.deep (by omega) (s_o_to_canSay (d := d) _ _ _ _ h1)) ?_
    show RR KO _ 2229 55 [(4, .int r5), (3, .int r3), (2, .int r1), (0, .ref 1), (1, .int v1)] [.int r9] S10 _ _
    refine RR.runs (pc' := icm .ne r9 0 60 58) (lc' := [(4, .int r5), (3, .int r3), (2, .int r1), (0, .ref 1), (1, .int v1)]) (st' := []) (S1 := S10) (nL := 5) (cd := cd_2229) mx_2229 rfl rfl 1 rfl ?_
    rcases ifE h with ⟨c, h⟩ | ⟨c, h⟩
    · refine RR.c_ne (fun _ => ?_) (fun q => absurd c q)
      refine RR.runs (pc' := 59) (lc' := [(4, .int r5), (3, .int r3), (2, .int r1), (0, .ref 1), (1, .int v1)]) (st' := [.int (-1 : Int32)]) (S1 := S10) (nL := 5) (cd := cd_2229) mx_2229 rfl rfl 1 rfl ?_
      cases h
      exact RR.reti mx_2229 rfl rfl rfl
    · refine RR.c_ne (fun q => absurd q c) (fun _ => ?_)
      refine RR.runs (pc' := 68) (lc' := [(4, .int r5), (3, .int r3), (2, .int r1), (0, .ref 1), (1, .int v1)]) (st' := [qv (rQ S10 1 9), .ref 205]) (S1 := S10) (nL := 5) (cd := cd_2229) mx_2229 rfl rfl 4 rfl ?_
      rcases oqE h with ⟨e1, h⟩ | ⟨o11, eo11, h⟩
      · cases h
      rw [eo11]
      refine RR.runs (pc' := 72) (lc' := [(4, .int r5), (3, .int r3), (2, .int r1), (0, .ref 1), (1, .int v1)]) (st' := [qv (rQ S10 1 9), .ref o11, .ref 205]) (S1 := S10) (nL := 5) (cd := cd_2229) mx_2229 rfl rfl 2 rfl ?_
      rcases oqE h with ⟨e1, h⟩ | ⟨o12, eo12, h⟩
      · cases h
      rw [eo12]
      refine RR.runs (pc' := 73) (lc' := [(4, .int r5), (3, .int r3), (2, .int r1), (0, .ref 1), (1, .int v1)]) (st' := [.int r3, .ref o12, .ref o11, .ref 205]) (S1 := S10) (nL := 5) (cd := cd_2229) mx_2229 rfl rfl 1 rfl ?_
      obtain ⟨g13, h⟩ := gpE h
      obtain ⟨r14, S15, h1, h⟩ := bnE h
      refine RR.callV (b := o12) (as := [.int r3]) (rest := [.ref o11, .ref 205]) (r1 := (some (.int r14))) (S1 := S15) mx_2229 rfl rfl mx_2011 rfl rfl (by decide) (Or.inl g13) (Nat.le_of_ble_eq_true rfl) (Nat.le_of_ble_eq_true rfl) (RC.deep (by omega) (s_o_to_laneOf (d := d) _ _ _ h1)) ?_
      show RR KO _ 2229 76 [(4, .int r5), (3, .int r3), (2, .int r1), (0, .ref 1), (1, .int v1)] [.int r14, .ref o11, .ref 205] S15 _ _
      refine RR.runs (pc' := 80) (lc' := [(4, .int r5), (3, .int r3), (2, .int r1), (0, .ref 1), (1, .int v1)]) (st' := [qv (rQ S15 1 9), .int r14, .ref o11, .ref 205]) (S1 := S15) (nL := 5) (cd := cd_2229) mx_2229 rfl rfl 2 rfl ?_
      rcases oqE h with ⟨e1, h⟩ | ⟨o16, eo16, h⟩
      · cases h
      rw [eo16]
      refine RR.runs (pc' := 81) (lc' := [(4, .int r5), (3, .int r3), (2, .int r1), (0, .ref 1), (1, .int v1)]) (st' := [.int r3, .ref o16, .int r14, .ref o11, .ref 205]) (S1 := S15) (nL := 5) (cd := cd_2229) mx_2229 rfl rfl 1 rfl ?_
      obtain ⟨g17, h⟩ := gpE h
      obtain ⟨r18, S19, h1, h⟩ := bnE h
      refine RR.callV (b := o16) (as := [.int r3]) (rest := [.int r14, .ref o11, .ref 205]) (r1 := (some (.int r18))) (S1 := S19) mx_2229 rfl rfl mx_2012 rfl rfl (by decide) (Or.inl g17) (Nat.le_of_ble_eq_true rfl) (Nat.le_of_ble_eq_true rfl) (RC.deep (by omega) (s_o_to_loudOf (d := d) _ _ _ h1)) ?_
      show RR KO _ 2229 84 [(4, .int r5), (3, .int r3), (2, .int r1), (0, .ref 1), (1, .int v1)] [.int r18, .int r14, .ref o11, .ref 205] S19 _ _
      refine RR.runs (pc' := 86) (lc' := [(4, .int r5), (3, .int r3), (2, .int r1), (0, .ref 1), (1, .int v1)]) (st' := [.int r5, .int r18, .int r14, .ref o11, .ref 205]) (S1 := S19) (nL := 5) (cd := cd_2229) mx_2229 rfl rfl 1 rfl ?_
      obtain ⟨r20, S21, h1, h⟩ := bnE h
      refine RR.callV (b := 205) (as := [.ref o11, .int r14, .int r18, .int r5]) (rest := []) (r1 := (some (.int r20))) (S1 := S21) mx_2229 rfl rfl mx_1011 rfl rfl (by decide) (Or.inl rfl) (Nat.le_of_ble_eq_true rfl) (Nat.le_of_ble_eq_true rfl) (RC.deep (by omega) (s_o_sd_cry (d := d) _ _ _ _ _ _ h1)) ?_
      show RR KO _ 2229 89 [(4, .int r5), (3, .int r3), (2, .int r1), (0, .ref 1), (1, .int v1)] [.int r20] S21 _ _
      cases h
      exact RR.reti mx_2229 rfl rfl rfl
  · refine RR.c_ne (fun q => absurd q c) (fun _ => ?_)
    refine RR.runs (pc' := icm .ne r1 (2 : Int32) 123 95) (lc' := [(3, .int r3), (2, .int r1), (0, .ref 1), (1, .int v1)]) (st' := []) (S1 := S4) (nL := 5) (cd := cd_2229) mx_2229 rfl rfl 3 rfl ?_
    rcases ifE h with ⟨c, h⟩ | ⟨c, h⟩
    · refine RR.c_ne (fun _ => ?_) (fun q => absurd c q)
      refine RR.runs (pc' := 100) (lc' := [(3, .int r3), (2, .int r1), (0, .ref 1), (1, .int v1)]) (st' := [.int r3, .ref 205]) (S1 := S4) (nL := 5) (cd := cd_2229) mx_2229 rfl rfl 3 rfl ?_
      obtain ⟨r22, S23, h1, h⟩ := bnE h
      refine RR.callV (b := 205) (as := [.int r3]) (rest := []) (r1 := (some (.int r22))) (S1 := S23) mx_2229 rfl rfl mx_1012 rfl rfl (by decide) (Or.inl rfl) (Nat.le_of_ble_eq_true rfl) (Nat.le_of_ble_eq_true rfl) (RC.deep (by omega) (s_o_sd_canTake (d := d) _ _ _ h1)) ?_
      show RR KO _ 2229 103 [(3, .int r3), (2, .int r1), (0, .ref 1), (1, .int v1)] [.int r22] S23 _ _
      refine RR.runs (pc' := icm .ne r22 0 108 106) (lc' := [(3, .int r3), (2, .int r1), (0, .ref 1), (1, .int v1)]) (st' := []) (S1 := S23) (nL := 5) (cd := cd_2229) mx_2229 rfl rfl 1 rfl ?_
      rcases ifE h with ⟨c, h⟩ | ⟨c, h⟩
      · refine RR.c_ne (fun _ => ?_) (fun q => absurd c q)
        refine RR.runs (pc' := 107) (lc' := [(3, .int r3), (2, .int r1), (0, .ref 1), (1, .int v1)]) (st' := [.int (-1 : Int32)]) (S1 := S23) (nL := 5) (cd := cd_2229) mx_2229 rfl rfl 1 rfl ?_
        cases h
        exact RR.reti mx_2229 rfl rfl rfl
      · refine RR.c_ne (fun q => absurd q c) (fun _ => ?_)
        refine RR.runs (pc' := 116) (lc' := [(3, .int r3), (2, .int r1), (0, .ref 1), (1, .int v1)]) (st' := [qv (rQ S23 1 9), .ref 205]) (S1 := S23) (nL := 5) (cd := cd_2229) mx_2229 rfl rfl 4 rfl ?_
        rcases oqE h with ⟨e1, h⟩ | ⟨o24, eo24, h⟩
        · cases h
        rw [eo24]
        refine RR.runs (pc' := 117) (lc' := [(3, .int r3), (2, .int r1), (0, .ref 1), (1, .int v1)]) (st' := [.int r3, .ref o24, .ref 205]) (S1 := S23) (nL := 5) (cd := cd_2229) mx_2229 rfl rfl 1 rfl ?_
        obtain ⟨r25, S26, h1, h⟩ := bnE h
        refine RR.callV (b := 205) (as := [.ref o24, .int r3]) (rest := []) (r1 := (some (.int r25))) (S1 := S26) mx_2229 rfl rfl mx_1013 rfl rfl (by decide) (Or.inl rfl) (Nat.le_of_ble_eq_true rfl) (Nat.le_of_ble_eq_true rfl) (RC.deep (by omega) (s_o_sd_take (d := d) _ _ _ _ h1)) ?_
        show RR KO _ 2229 120 [(3, .int r3), (2, .int r1), (0, .ref 1), (1, .int v1)] [.int r25] S26 _ _
        refine RR.runs (pc' := 122) (lc' := [(3, .int r3), (2, .int r1), (0, .ref 1), (1, .int v1)]) (st' := [.int (0 : Int32)]) (S1 := S26) (nL := 5) (cd := cd_2229) mx_2229 rfl rfl 2 rfl ?_
        cases h
        exact RR.reti mx_2229 rfl rfl rfl
    · refine RR.c_ne (fun q => absurd q c) (fun _ => ?_)
      refine RR.runs (pc' := 127) (lc' := [(3, .int r3), (2, .int r1), (0, .ref 1), (1, .int v1)]) (st' := [.ref 205]) (S1 := S4) (nL := 5) (cd := cd_2229) mx_2229 rfl rfl 2 rfl ?_
      obtain ⟨r27, S28, h1, h⟩ := bnE h
      refine RR.callV (b := 205) (as := []) (rest := []) (r1 := none) (S1 := S28) mx_2229 rfl rfl mx_1014 rfl rfl (by decide) (Or.inl rfl) (Nat.le_of_ble_eq_true rfl) (Nat.le_of_ble_eq_true rfl) (RC.deep (by omega) (s_o_sd_nextDay (d := d) _ _ h1)) ?_
      show RR KO _ 2229 130 [(3, .int r3), (2, .int r1), (0, .ref 1), (1, .int v1)] [] S28 _ _
      refine RR.runs (pc' := 131) (lc' := [(3, .int r3), (2, .int r1), (0, .ref 1), (1, .int v1)]) (st' := [.int (0 : Int32)]) (S1 := S28) (nL := 5) (cd := cd_2229) mx_2229 rfl rfl 1 rfl ?_
      cases h
      exact RR.reti mx_2229 rfl rfl rfl
theorem s_o_live {d : Nat} {S' : St} {r : Int32} (v1 : Int32) (S : St) (h : o_live v1 S = some (r, S')) : RC KO (d + 6) 2229 [.ref 1, .int v1] S (some (.int r)) S' := RC.of rfl (s0_o_live v1 S h)
-- NameOrchard judged (I)I
def o_judged_9 (S : St) : Re Int32 :=
  some ((-2 : Int32), S)
set_option maxRecDepth 100000 in
theorem s_o_judged_9 {d : Nat} {S' : St} {r : Int32} (S : St) (h : o_judged_9 S = some (r, S')) : RR KO (d + 7) 2213 9 [] [] S (some (.int r)) S' := by
  unfold o_judged_9 at h
  refine RR.runs (pc' := 11) (lc' := []) (st' := [.int (-2 : Int32)]) (S1 := S) (nL := 7) (cd := cd_2213) mx_2213 rfl rfl 1 rfl ?_
  cases h
  exact RR.reti mx_2213 rfl rfl rfl
def o_judged_106 (k30 : Int32 → Int32 → Int32 → Int32 → St → Re Int32) (v1 : Int32) (v2 : Int32) (v3 : Int32) (v4 : Int32) (S : St) : Re Int32 :=
  lt' ((v4 + (1 : Int32)) : Int32) fun x1 =>
  k30 v1 v2 v3 x1 S
set_option maxRecDepth 100000 in
theorem s_o_judged_106 {d : Nat} (k30 : Int32 → Int32 → Int32 → Int32 → St → Re Int32) {S' : St} {r : Int32} (b30 : ∀ (v1 : Int32) (v2 : Int32) (v3 : Int32) (v4 : Int32) (S : St), k30 v1 v2 v3 v4 S = some (r, S') → RR KO (d + 7) 2213 30 [(0, .ref 1), (1, .int v1), (2, .int v2), (3, .int v3), (4, .int v4)] [] S (some (.int r)) S') (v1 : Int32) (v2 : Int32) (v3 : Int32) (v4 : Int32) (S : St) (h : o_judged_106 k30 v1 v2 v3 v4 S = some (r, S')) : RR KO (d + 7) 2213 106 [(0, .ref 1), (1, .int v1), (2, .int v2), (3, .int v3), (4, .int v4)] [] S (some (.int r)) S' := by
  unfold o_judged_106 at h
  refine RR.runs (pc' := 109) (lc' := [(4, .int ((v4 + (1 : Int32)))), (0, .ref 1), (1, .int v1), (2, .int v2), (3, .int v3)]) (st' := []) (S1 := S) (nL := 7) (cd := cd_2213) mx_2213 rfl rfl 1 rfl ?_
  obtain ⟨x1, ex1, h⟩ := ltE h
  rw [← ex1]
  refine RR.runs (pc' := 30) (lc' := [(4, .int x1), (0, .ref 1), (1, .int v1), (2, .int v2), (3, .int v3)]) (st' := []) (S1 := S) (nL := 7) (cd := cd_2213) mx_2213 rfl rfl 1 rfl ?_
  refine RR.weak [(0, .ref 1), (1, .int v1), (2, .int v2), (3, .int v3), (4, .int x1)] ⟨rfl, rfl, rfl, rfl, rfl, trivial⟩ ?_
  exact b30 _ _ _ _ _ h
def o_judged_86 (k30 : Int32 → Int32 → Int32 → Int32 → St → Re Int32) (v1 : Int32) (v3 : Int32) (v4 : Int32) (p0 : Int32) (S : St) : Re Int32 :=
  o_judged_106 k30 v1 p0 v3 v4 S
set_option maxRecDepth 100000 in
theorem s_o_judged_86 {d : Nat} (k30 : Int32 → Int32 → Int32 → Int32 → St → Re Int32) {S' : St} {r : Int32} (b30 : ∀ (v1 : Int32) (v2 : Int32) (v3 : Int32) (v4 : Int32) (S : St), k30 v1 v2 v3 v4 S = some (r, S') → RR KO (d + 7) 2213 30 [(0, .ref 1), (1, .int v1), (2, .int v2), (3, .int v3), (4, .int v4)] [] S (some (.int r)) S') (v1 : Int32) (v3 : Int32) (v4 : Int32) (p0 : Int32) (S : St) (h : o_judged_86 k30 v1 v3 v4 p0 S = some (r, S')) : RR KO (d + 7) 2213 86 [(0, .ref 1), (1, .int v1), (3, .int v3), (4, .int v4)] [.int p0] S (some (.int r)) S' := by
  unfold o_judged_86 at h
  refine RR.runs (pc' := 106) (lc' := [(2, .int p0), (0, .ref 1), (1, .int v1), (3, .int v3), (4, .int v4)]) (st' := []) (S1 := S) (nL := 7) (cd := cd_2213) mx_2213 rfl rfl 2 rfl ?_
  refine RR.weak [(0, .ref 1), (1, .int v1), (2, .int p0), (3, .int v3), (4, .int v4)] ⟨rfl, rfl, rfl, rfl, rfl, trivial⟩ ?_
  exact s_o_judged_106 _ b30 _ _ _ _ _ h
def o_judged_134 (p0 : Int32) (S : St) : Re Int32 :=
  some (p0, S)
set_option maxRecDepth 100000 in
theorem s_o_judged_134 {d : Nat} {S' : St} {r : Int32} (p0 : Int32) (S : St) (h : o_judged_134 p0 S = some (r, S')) : RR KO (d + 7) 2213 134 [] [.int p0] S (some (.int r)) S' := by
  unfold o_judged_134 at h
  cases h
  exact RR.reti mx_2213 rfl rfl rfl
def o_judged_112 (v1 : Int32) (v2 : Int32) (v3 : Int32) (S : St) : Re Int32 :=
  if v1 = (2 : Int32) then (
    some ((rI S 205 4), S))
  else (
    if v1 = 0 then (
      o_judged_134 v2 S)
    else (
      o_judged_134 v3 S))
set_option maxRecDepth 100000 in
theorem s_o_judged_112 {d : Nat} {S' : St} {r : Int32} (v1 : Int32) (v2 : Int32) (v3 : Int32) (S : St) (h : o_judged_112 v1 v2 v3 S = some (r, S')) : RR KO (d + 7) 2213 112 [(0, .ref 1), (1, .int v1), (2, .int v2), (3, .int v3)] [] S (some (.int r)) S' := by
  unfold o_judged_112 at h
  refine RR.runs (pc' := icm .ne v1 (2 : Int32) 125 117) (lc' := [(0, .ref 1), (1, .int v1), (2, .int v2), (3, .int v3)]) (st' := []) (S1 := S) (nL := 7) (cd := cd_2213) mx_2213 rfl rfl 3 rfl ?_
  rcases ifE h with ⟨c, h⟩ | ⟨c, h⟩
  · refine RR.c_ne (fun _ => ?_) (fun q => absurd c q)
    refine RR.runs (pc' := 124) (lc' := [(0, .ref 1), (1, .int v1), (2, .int v2), (3, .int v3)]) (st' := [.int (rI S 205 4)]) (S1 := S) (nL := 7) (cd := cd_2213) mx_2213 rfl rfl 3 rfl ?_
    cases h
    exact RR.reti mx_2213 rfl rfl rfl
  · refine RR.c_ne (fun q => absurd q c) (fun _ => ?_)
    refine RR.runs (pc' := icm .ne v1 0 133 129) (lc' := [(0, .ref 1), (1, .int v1), (2, .int v2), (3, .int v3)]) (st' := []) (S1 := S) (nL := 7) (cd := cd_2213) mx_2213 rfl rfl 2 rfl ?_
    rcases ifE h with ⟨c, h⟩ | ⟨c, h⟩
    · refine RR.c_ne (fun _ => ?_) (fun q => absurd c q)
      refine RR.runs (pc' := 134) (lc' := [(0, .ref 1), (1, .int v1), (2, .int v2), (3, .int v3)]) (st' := [.int v2]) (S1 := S) (nL := 7) (cd := cd_2213) mx_2213 rfl rfl 2 rfl ?_
      refine RR.weak [] trivial ?_
      exact s_o_judged_134 _ _ h
    · refine RR.c_ne (fun q => absurd q c) (fun _ => ?_)
      refine RR.runs (pc' := 134) (lc' := [(0, .ref 1), (1, .int v1), (2, .int v2), (3, .int v3)]) (st' := [.int v3]) (S1 := S) (nL := 7) (cd := cd_2213) mx_2213 rfl rfl 1 rfl ?_
      refine RR.weak [] trivial ?_
      exact s_o_judged_134 _ _ h
def o_judged_30 : Nat → Int32 → Int32 → Int32 → Int32 → St → Re Int32
  | 0, _, _, _, _, _ => none
  | n + 1, v1, v2, v3, v4, S =>
  bn (o_tb_size 111 S) fun r1 S2 =>
  if v4 < r1 then (
    oq (rQ S2 1 9) none fun o3 =>
    if KO.1 o3 = (0, 10) then (
bn (o_to_unripe o3 (rI S2 205 3) S2) fun r5 S6 =>
    bn (o_live v4 S6) fun r7 S8 =>
    if r7 = (-1 : Int32) then (
      if v2 = (-1 : Int32) then (
        o_judged_86 (o_judged_30 n) v1 v3 v4 v4 S8)
      else (
        o_judged_86 (o_judged_30 n) v1 v3 v4 v2 S8))
    else (
      if (r7 &&& r5) = 0 then (
        o_judged_106 (o_judged_30 n) v1 v2 v3 v4 S8)
      else (
        if v3 = (-1 : Int32) then (
          o_judged_106 (o_judged_30 n) v1 v2 v4 v4 S8)
        else (
          o_judged_106 (o_judged_30 n) v1 v2 v3 v4 S8)))) else none)
  else (
    o_judged_112 v1 v2 v3 S2)
set_option maxRecDepth 100000 in
theorem s_o_judged_30 {d : Nat} {S' : St} {r : Int32} : ∀ (n : Nat) (v1 : Int32) (v2 : Int32) (v3 : Int32) (v4 : Int32) (S : St), o_judged_30 n v1 v2 v3 v4 S = some (r, S') → RR KO (d + 7) 2213 30 [(0, .ref 1), (1, .int v1), (2, .int v2), (3, .int v3), (4, .int v4)] [] S (some (.int r)) S' := by
  intro n
  induction n with
  | zero => intro v1 v2 v3 v4 S h; simp only [o_judged_30] at h; cases h
  | succ n ih =>
    intro v1 v2 v3 v4 S h
    simp only [o_judged_30] at h
    refine RR.runs (pc' := 39) (lc' := [(0, .ref 1), (1, .int v1), (2, .int v2), (3, .int v3), (4, .int v4)]) (st' := [.ref 111, .int v4]) (S1 := S) (nL := 7) (cd := cd_2213) mx_2213 rfl rfl 4 rfl ?_
    obtain ⟨r1, S2, h1, h⟩ := bnE h
    refine RR.callV (b := 111) (as := []) (rest := [.int v4]) (r1 := (some (.int r1))) (S1 := S2) mx_2213 rfl rfl mx_1402 rfl rfl (by decide) (Or.inl rfl) (Nat.le_of_ble_eq_true rfl) (Nat.le_of_ble_eq_true rfl) (RC.deep (by omega) (s_o_tb_size (d := d) _ _ h1)) ?_
    show RR KO _ 2213 42 [(0, .ref 1), (1, .int v1), (2, .int v2), (3, .int v3), (4, .int v4)] [.int r1, .int v4] S2 _ _
    refine RR.runs (pc' := icm .ge v4 r1 112 45) (lc' := [(0, .ref 1), (1, .int v1), (2, .int v2), (3, .int v3), (4, .int v4)]) (st' := []) (S1 := S2) (nL := 7) (cd := cd_2213) mx_2213 rfl rfl 1 rfl ?_
    rcases ifE h with ⟨c, h⟩ | ⟨c, h⟩
    · refine RR.c_ge (fun _ => ?_) (fun q => absurd c q)
      refine RR.runs (pc' := 49) (lc' := [(0, .ref 1), (1, .int v1), (2, .int v2), (3, .int v3), (4, .int v4)]) (st' := [qv (rQ S2 1 9)]) (S1 := S2) (nL := 7) (cd := cd_2213) mx_2213 rfl rfl 2 rfl ?_
      rcases oqE h with ⟨e1, h⟩ | ⟨o3, eo3, h⟩
      · cases h
      rw [eo3]
      refine RR.runs (pc' := 56) (lc' := [(0, .ref 1), (1, .int v1), (2, .int v2), (3, .int v3), (4, .int v4)]) (st' := [.int (rI S2 205 3), .ref o3]) (S1 := S2) (nL := 7) (cd := cd_2213) mx_2213 rfl rfl 3 rfl ?_
      obtain ⟨g4, h⟩ := gpE h
      obtain ⟨r5, S6, h1, h⟩ := bnE h
      refine RR.callV (b := o3) (as := [.int (rI S2 205 3)]) (rest := []) (r1 := (some (.int r5))) (S1 := S6) mx_2213 rfl rfl mx_2017 rfl rfl (by decide) (Or.inl g4) (Nat.le_of_ble_eq_true rfl) (Nat.le_of_ble_eq_true rfl) (RC.deep (by omega) (s_o_to_unripe (d := d) _ _ _ h1)) ?_
      show RR KO _ 2213 59 [(0, .ref 1), (1, .int v1), (2, .int v2), (3, .int v3), (4, .int v4)] [.int r5] S6 _ _
      refine RR.runs (pc' := 64) (lc' := [(5, .int r5), (0, .ref 1), (1, .int v1), (2, .int v2), (3, .int v3), (4, .int v4)]) (st' := [.int v4, .ref 1]) (S1 := S6) (nL := 7) (cd := cd_2213) mx_2213 rfl rfl 3 rfl ?_
      obtain ⟨r7, S8, h1, h⟩ := bnE h
      refine RR.callV (b := 1) (as := [.int v4]) (rest := []) (r1 := (some (.int r7))) (S1 := S8) mx_2213 rfl rfl mx_2229 rfl rfl (by decide) (Or.inl rfl) (Nat.le_of_ble_eq_true rfl) (Nat.le_of_ble_eq_true rfl) (RC.deep (by omega) (s_o_live (d := d) _ _ h1)) ?_
      show RR KO _ 2213 67 [(5, .int r5), (0, .ref 1), (1, .int v1), (2, .int v2), (3, .int v3), (4, .int v4)] [.int r7] S8 _ _
      refine RR.runs (pc' := icm .ne r7 (-1 : Int32) 90 75) (lc' := [(6, .int r7), (5, .int r5), (0, .ref 1), (1, .int v1), (2, .int v2), (3, .int v3), (4, .int v4)]) (st' := []) (S1 := S8) (nL := 7) (cd := cd_2213) mx_2213 rfl rfl 4 rfl ?_
      rcases ifE h with ⟨c, h⟩ | ⟨c, h⟩
      · refine RR.c_ne (fun _ => ?_) (fun q => absurd c q)
        refine RR.runs (pc' := icm .ne v2 (-1 : Int32) 85 80) (lc' := [(6, .int r7), (5, .int r5), (0, .ref 1), (1, .int v1), (2, .int v2), (3, .int v3), (4, .int v4)]) (st' := []) (S1 := S8) (nL := 7) (cd := cd_2213) mx_2213 rfl rfl 3 rfl ?_
        rcases ifE h with ⟨c, h⟩ | ⟨c, h⟩
        · refine RR.c_ne (fun _ => ?_) (fun q => absurd c q)
          refine RR.runs (pc' := 86) (lc' := [(6, .int r7), (5, .int r5), (0, .ref 1), (1, .int v1), (2, .int v2), (3, .int v3), (4, .int v4)]) (st' := [.int v4]) (S1 := S8) (nL := 7) (cd := cd_2213) mx_2213 rfl rfl 2 rfl ?_
          refine RR.weak [(0, .ref 1), (1, .int v1), (3, .int v3), (4, .int v4)] ⟨rfl, rfl, rfl, rfl, trivial⟩ ?_
          exact s_o_judged_86 _ (fun _ _ _ _ S h => ih _ _ _ _ S h) _ _ _ _ _ h
        · refine RR.c_ne (fun q => absurd q c) (fun _ => ?_)
          refine RR.runs (pc' := 86) (lc' := [(6, .int r7), (5, .int r5), (0, .ref 1), (1, .int v1), (2, .int v2), (3, .int v3), (4, .int v4)]) (st' := [.int v2]) (S1 := S8) (nL := 7) (cd := cd_2213) mx_2213 rfl rfl 1 rfl ?_
          refine RR.weak [(0, .ref 1), (1, .int v1), (3, .int v3), (4, .int v4)] ⟨rfl, rfl, rfl, rfl, trivial⟩ ?_
          exact s_o_judged_86 _ (fun _ _ _ _ S h => ih _ _ _ _ S h) _ _ _ _ _ h
      · refine RR.c_ne (fun q => absurd q c) (fun _ => ?_)
        refine RR.runs (pc' := icm .eq (r7 &&& r5) 0 106 98) (lc' := [(6, .int r7), (5, .int r5), (0, .ref 1), (1, .int v1), (2, .int v2), (3, .int v3), (4, .int v4)]) (st' := []) (S1 := S8) (nL := 7) (cd := cd_2213) mx_2213 rfl rfl 4 rfl ?_
        rcases ifE h with ⟨c, h⟩ | ⟨c, h⟩
        · refine RR.c_eq (fun _ => ?_) (fun q => absurd c q)
          refine RR.weak [(0, .ref 1), (1, .int v1), (2, .int v2), (3, .int v3), (4, .int v4)] ⟨rfl, rfl, rfl, rfl, rfl, trivial⟩ ?_
          exact s_o_judged_106 _ (fun _ _ _ _ S h => ih _ _ _ _ S h) _ _ _ _ _ h
        · refine RR.c_eq (fun q => absurd q c) (fun _ => ?_)
          refine RR.runs (pc' := icm .ne v3 (-1 : Int32) 106 103) (lc' := [(6, .int r7), (5, .int r5), (0, .ref 1), (1, .int v1), (2, .int v2), (3, .int v3), (4, .int v4)]) (st' := []) (S1 := S8) (nL := 7) (cd := cd_2213) mx_2213 rfl rfl 3 rfl ?_
          rcases ifE h with ⟨c, h⟩ | ⟨c, h⟩
          · refine RR.c_ne (fun _ => ?_) (fun q => absurd c q)
            refine RR.runs (pc' := 106) (lc' := [(3, .int v4), (6, .int r7), (5, .int r5), (0, .ref 1), (1, .int v1), (2, .int v2), (4, .int v4)]) (st' := []) (S1 := S8) (nL := 7) (cd := cd_2213) mx_2213 rfl rfl 2 rfl ?_
            refine RR.weak [(0, .ref 1), (1, .int v1), (2, .int v2), (3, .int v4), (4, .int v4)] ⟨rfl, rfl, rfl, rfl, rfl, trivial⟩ ?_
            exact s_o_judged_106 _ (fun _ _ _ _ S h => ih _ _ _ _ S h) _ _ _ _ _ h
          · refine RR.c_ne (fun q => absurd q c) (fun _ => ?_)
            refine RR.weak [(0, .ref 1), (1, .int v1), (2, .int v2), (3, .int v3), (4, .int v4)] ⟨rfl, rfl, rfl, rfl, rfl, trivial⟩ ?_
            exact s_o_judged_106 _ (fun _ _ _ _ S h => ih _ _ _ _ S h) _ _ _ _ _ h
    · refine RR.c_ge (fun q => absurd q c) (fun _ => ?_)
      refine RR.weak [(0, .ref 1), (1, .int v1), (2, .int v2), (3, .int v3)] ⟨rfl, rfl, rfl, rfl, trivial⟩ ?_
      exact s_o_judged_112 _ _ _ _ h
def o_judged (v1 : Int32) (S : St) : Re Int32 :=
  if v1 < 0 then (
    o_judged_9 S)
  else (
    if (2 : Int32) < v1 then (
      o_judged_9 S)
    else (
      oq (rQ S 1 9) none fun o1 =>
      bn (o_sd_begin 205 o1 S) fun r2 S3 =>
      o_judged_30 FU v1 (-1 : Int32) (-1 : Int32) (0 : Int32) S3))
set_option maxRecDepth 100000 in
theorem s0_o_judged {d : Nat} {S' : St} {r : Int32} (v1 : Int32) (S : St) (h : o_judged v1 S = some (r, S')) : RR KO (d + 7) 2213 0 [(0, .ref 1), (1, .int v1)] [] S (some (.int r)) S' := by
  unfold o_judged at h
  refine RR.runs (pc' := icm .lt v1 0 9 4) (lc' := [(0, .ref 1), (1, .int v1)]) (st' := []) (S1 := S) (nL := 7) (cd := cd_2213) mx_2213 rfl rfl 2 rfl ?_
  rcases ifE h with ⟨c, h⟩ | ⟨c, h⟩
  · refine RR.c_lt (fun _ => ?_) (fun q => absurd c q)
    refine RR.weak [] trivial ?_
    exact s_o_judged_9 _ h
  · refine RR.c_lt (fun q => absurd q c) (fun _ => ?_)
    refine RR.runs (pc' := icm .le v1 (2 : Int32) 12 9) (lc' := [(0, .ref 1), (1, .int v1)]) (st' := []) (S1 := S) (nL := 7) (cd := cd_2213) mx_2213 rfl rfl 3 rfl ?_
    rcases ifE h with ⟨c, h⟩ | ⟨c, h⟩
    · refine RR.c_le (fun _ => ?_) (fun q => absurd c q)
      refine RR.weak [] trivial ?_
      exact s_o_judged_9 _ h
    · refine RR.c_le (fun q => absurd q c) (fun _ => ?_)
      refine RR.runs (pc' := 20) (lc' := [(0, .ref 1), (1, .int v1)]) (st' := [qv (rQ S 1 9), .ref 205]) (S1 := S) (nL := 7) (cd := cd_2213) mx_2213 rfl rfl 4 rfl ?_
      rcases oqE h with ⟨e1, h⟩ | ⟨o1, eo1, h⟩
      · cases h
      rw [eo1]
      obtain ⟨r2, S3, h1, h⟩ := bnE h
      refine RR.callV (b := 205) (as := [.ref o1]) (rest := []) (r1 := none) (S1 := S3) mx_2213 rfl rfl mx_1001 rfl rfl (by decide) (Or.inl rfl) (Nat.le_of_ble_eq_true rfl) (Nat.le_of_ble_eq_true rfl) (RC.deep (by omega) (s_o_sd_begin (d := d) _ _ _ h1)) ?_
      show RR KO _ 2213 23 [(0, .ref 1), (1, .int v1)] [] S3 _ _
      refine RR.runs (pc' := 30) (lc' := [(4, .int (0 : Int32)), (3, .int (-1 : Int32)), (2, .int (-1 : Int32)), (0, .ref 1), (1, .int v1)]) (st' := []) (S1 := S3) (nL := 7) (cd := cd_2213) mx_2213 rfl rfl 6 rfl ?_
      refine RR.weak [(0, .ref 1), (1, .int v1), (2, .int (-1 : Int32)), (3, .int (-1 : Int32)), (4, .int (0 : Int32))] ⟨rfl, rfl, rfl, rfl, rfl, trivial⟩ ?_
      exact s_o_judged_30 _ _ _ _ _ _ h
theorem s_o_judged {d : Nat} {S' : St} {r : Int32} (v1 : Int32) (S : St) (h : o_judged v1 S = some (r, S')) : RC KO (d + 7) 2213 [.ref 1, .int v1] S (some (.int r)) S' := RC.of rfl (s0_o_judged v1 S h)
-- NameOrchard fetch ()I
def o_fetch (S : St) : Re Int32 :=
  oq (rQ S 1 9) none fun o1 =>
  bn (o_se_fewest o1 200 S) fun r2 S3 =>
  some (r2, S3)
set_option maxRecDepth 100000 in
theorem s0_o_fetch {d : Nat} {S' : St} {r : Int32} (S : St) (h : o_fetch S = some (r, S')) : RR KO (d + 5) 2215 0 [(0, .ref 1)] [] S (some (.int r)) S' := by
  unfold o_fetch at h
  refine RR.runs (pc' := 8) (lc' := [(0, .ref 1)]) (st' := [qv (rQ S 1 9), .ref 5]) (S1 := S) (nL := 1) (cd := cd_2215) mx_2215 rfl rfl 4 rfl ?_
  rcases oqE h with ⟨e1, h⟩ | ⟨o1, eo1, h⟩
  · cases h
  rw [eo1]
  refine RR.runs (pc' := 15) (lc' := [(0, .ref 1)]) (st' := [.ref 200, .ref o1, .ref 5]) (S1 := S) (nL := 1) (cd := cd_2215) mx_2215 rfl rfl 3 rfl ?_
  obtain ⟨r2, S3, h1, h⟩ := bnE h
  refine RR.callV (b := 5) (as := [.ref o1, .ref 200]) (rest := []) (r1 := (some (.int r2))) (S1 := S3) mx_2215 rfl rfl mx_807 rfl rfl (by decide) (Or.inl rfl) (Nat.le_of_ble_eq_true rfl) (Nat.le_of_ble_eq_true rfl) (RC.deep (by omega) (s_o_se_fewest (d := d) _ _ _ h1)) ?_
  show RR KO _ 2215 18 [(0, .ref 1)] [.int r2] S3 _ _
  cases h
  exact RR.reti mx_2215 rfl rfl rfl
theorem s_o_fetch {d : Nat} {S' : St} {r : Int32} (S : St) (h : o_fetch S = some (r, S')) : RC KO (d + 5) 2215 [.ref 1] S (some (.int r)) S' := RC.of rfl (s0_o_fetch S h)
-- NameOrchard lies (IZ)Z
def o_lies_63 (p0 : Int32) (S : St) : Re Int32 :=
  lt' (wI S 70 4 p0) fun S1 =>
  some ((1 : Int32), S1)
set_option maxRecDepth 100000 in
theorem s_o_lies_63 {d : Nat} {S' : St} {r : Int32} (p0 : Int32) (S : St) (h : o_lies_63 p0 S = some (r, S')) : RR KO (d + 2) 2216 63 [] [.int p0, .ref 70] S (some (.int r)) S' := by
  unfold o_lies_63 at h
  refine RR.runs (pc' := 66) (lc' := []) (st' := []) (S1 := (wI S 70 4 p0)) (nL := 3) (cd := cd_2216) mx_2216 rfl rfl 1 rfl ?_
  obtain ⟨S1, eS1, h⟩ := ltE h
  rw [← eS1]
  refine RR.runs (pc' := 67) (lc' := []) (st' := [.int (1 : Int32)]) (S1 := S1) (nL := 3) (cd := cd_2216) mx_2216 rfl rfl 1 rfl ?_
  cases h
  exact RR.retz mx_2216 rfl rfl rfl rfl
def o_lies (v1 : Int32) (v2 : Int32) (S : St) : Re Int32 :=
  oq (rQ S 1 9) none fun o1 =>
  if KO.1 o1 = (0, 10) then (
bn (o_to_hasApple o1 v1 S) fun r3 S4 =>
  if r3 = 0 then (
    some ((0 : Int32), S4))
  else (
    lt' (wI S4 70 3 (((rI S4 70 3) ||| ((1 : Int32) <<< (v1 &&& 31))))) fun S5 =>
    if v2 = 0 then (
      o_lies_63 (((rI S5 70 4) &&& (((1 : Int32) <<< (v1 &&& 31)) ^^^ (-1 : Int32)))) S5)
    else (
      o_lies_63 (((rI S5 70 4) ||| ((1 : Int32) <<< (v1 &&& 31)))) S5))) else none
set_option maxRecDepth 100000 in
theorem s0_o_lies {d : Nat} {S' : St} {r : Int32} (v1 : Int32) (v2 : Int32) (S : St) (h : o_lies v1 v2 S = some (r, S')) : RR KO (d + 2) 2216 0 [(0, .ref 1), (1, .int v1), (2, .int v2)] [] S (some (.int r)) S' := by
  unfold o_lies at h
  refine RR.runs (pc' := 4) (lc' := [(0, .ref 1), (1, .int v1), (2, .int v2)]) (st' := [qv (rQ S 1 9)]) (S1 := S) (nL := 3) (cd := cd_2216) mx_2216 rfl rfl 2 rfl ?_
  rcases oqE h with ⟨e1, h⟩ | ⟨o1, eo1, h⟩
  · cases h
  rw [eo1]
  refine RR.runs (pc' := 5) (lc' := [(0, .ref 1), (1, .int v1), (2, .int v2)]) (st' := [.int v1, .ref o1]) (S1 := S) (nL := 3) (cd := cd_2216) mx_2216 rfl rfl 1 rfl ?_
  obtain ⟨g2, h⟩ := gpE h
  obtain ⟨r3, S4, h1, h⟩ := bnE h
  refine RR.callV (b := o1) (as := [.int v1]) (rest := []) (r1 := (some (.int r3))) (S1 := S4) mx_2216 rfl rfl mx_2005 rfl rfl (by decide) (Or.inl g2) (Nat.le_of_ble_eq_true rfl) (Nat.le_of_ble_eq_true rfl) (RC.deep (by omega) (s_o_to_hasApple (d := d) _ _ _ h1)) ?_
  show RR KO _ 2216 8 [(0, .ref 1), (1, .int v1), (2, .int v2)] [.int r3] S4 _ _
  refine RR.runs (pc' := icm .ne r3 0 13 11) (lc' := [(0, .ref 1), (1, .int v1), (2, .int v2)]) (st' := []) (S1 := S4) (nL := 3) (cd := cd_2216) mx_2216 rfl rfl 1 rfl ?_
  rcases ifE h with ⟨c, h⟩ | ⟨c, h⟩
  · refine RR.c_ne (fun _ => ?_) (fun q => absurd c q)
    refine RR.runs (pc' := 12) (lc' := [(0, .ref 1), (1, .int v1), (2, .int v2)]) (st' := [.int (0 : Int32)]) (S1 := S4) (nL := 3) (cd := cd_2216) mx_2216 rfl rfl 1 rfl ?_
    cases h
    exact RR.retz mx_2216 rfl rfl rfl rfl
  · refine RR.c_ne (fun q => absurd q c) (fun _ => ?_)
    refine RR.runs (pc' := 28) (lc' := [(0, .ref 1), (1, .int v1), (2, .int v2)]) (st' := []) (S1 := (wI S4 70 3 (((rI S4 70 3) ||| ((1 : Int32) <<< (v1 &&& 31)))))) (nL := 3) (cd := cd_2216) mx_2216 rfl rfl 9 rfl ?_
    obtain ⟨S5, eS5, h⟩ := ltE h
    rw [← eS5]
    refine RR.runs (pc' := icm .eq v2 0 50 36) (lc' := [(0, .ref 1), (1, .int v1), (2, .int v2)]) (st' := [.ref 70]) (S1 := S5) (nL := 3) (cd := cd_2216) mx_2216 rfl rfl 4 rfl ?_
    rcases ifE h with ⟨c, h⟩ | ⟨c, h⟩
    · refine RR.c_eq (fun _ => ?_) (fun q => absurd c q)
      refine RR.runs (pc' := 63) (lc' := [(0, .ref 1), (1, .int v1), (2, .int v2)]) (st' := [.int (((rI S5 70 4) &&& (((1 : Int32) <<< (v1 &&& 31)) ^^^ (-1 : Int32)))), .ref 70]) (S1 := S5) (nL := 3) (cd := cd_2216) mx_2216 rfl rfl 9 rfl ?_
      refine RR.weak [] trivial ?_
      exact s_o_lies_63 _ _ h
    · refine RR.c_eq (fun q => absurd q c) (fun _ => ?_)
      refine RR.runs (pc' := 63) (lc' := [(0, .ref 1), (1, .int v1), (2, .int v2)]) (st' := [.int (((rI S5 70 4) ||| ((1 : Int32) <<< (v1 &&& 31)))), .ref 70]) (S1 := S5) (nL := 3) (cd := cd_2216) mx_2216 rfl rfl 8 rfl ?_
      refine RR.weak [] trivial ?_
      exact s_o_lies_63 _ _ h
theorem s_o_lies {d : Nat} {S' : St} {r : Int32} (v1 : Int32) (v2 : Int32) (S : St) (h : o_lies v1 v2 S = some (r, S')) : RC KO (d + 2) 2216 [.ref 1, .int v1, .int v2] S (some (.int r)) S' := RC.of rfl (s0_o_lies v1 v2 S h)
-- java/util/Arrays fill ([II)V
def o_j_fillI_20 (S : St) : Re Unit :=
  some ((), S)
set_option maxRecDepth 100000 in
theorem s_o_j_fillI_20 {d : Nat} {S' : St} {r : Unit} (S : St) (h : o_j_fillI_20 S = some (r, S')) : RR KO (d + 0) 2801 20 [] [] S none S' := by
  unfold o_j_fillI_20 at h
  cases h
  exact RR.retv mx_2801 rfl rfl rfl
def o_j_fillI_5 : Nat → Nat → Int32 → Int32 → Int32 → St → Re Unit
  | 0, _, _, _, _, _ => none
  | n + 1, v0, v1, v2, v3, S =>
  if v2 < v3 then (
    if (KO.1 v0).1 = 1 then (
    if v2 < 0 ∨ (KO.1 v0).2 ≤ v2.toNatClampNeg then none else
    lt' (wI S v0 v2.toNatClampNeg v1) fun S1 =>
    lt' ((v2 + (1 : Int32)) : Int32) fun x2 =>
    o_j_fillI_5 n v0 v1 x2 v3 S1) else none)
  else (
    o_j_fillI_20 S)
set_option maxRecDepth 100000 in
theorem s_o_j_fillI_5 {d : Nat} {S' : St} {r : Unit} : ∀ (n : Nat) (v0 : Nat) (v1 : Int32) (v2 : Int32) (v3 : Int32) (S : St), o_j_fillI_5 n v0 v1 v2 v3 S = some (r, S') → RR KO (d + 0) 2801 5 [(0, .ref v0), (1, .int v1), (2, .int v2), (3, .int v3)] [] S none S' := by
  intro n
  induction n with
  | zero => intro v0 v1 v2 v3 S h; simp only [o_j_fillI_5] at h; cases h
  | succ n ih =>
    intro v0 v1 v2 v3 S h
    simp only [o_j_fillI_5] at h
    refine RR.runs (pc' := icm .ge v2 v3 20 10) (lc' := [(0, .ref v0), (1, .int v1), (2, .int v2), (3, .int v3)]) (st' := []) (S1 := S) (nL := 4) (cd := cd_2801) mx_2801 rfl rfl 3 rfl ?_
    rcases ifE h with ⟨c, h⟩ | ⟨c, h⟩
    · refine RR.c_ge (fun _ => ?_) (fun q => absurd c q)
      refine RR.runs (pc' := 13) (lc' := [(0, .ref v0), (1, .int v1), (2, .int v2), (3, .int v3)]) (st' := [.int v1, .int v2, .ref v0]) (S1 := S) (nL := 4) (cd := cd_2801) mx_2801 rfl rfl 3 rfl ?_
      obtain ⟨gq, h⟩ := gpE h
      obtain ⟨g, h⟩ := gnE h
      refine RR.gPNo (c2 := (KO.1 v0).1 = 1) (pc' := 14) (lc' := [(0, .ref v0), (1, .int v1), (2, .int v2), (3, .int v3)]) (st' := []) (S1 := (wI S v0 v2.toNatClampNeg v1)) (nL := 4) (cd := cd_2801) mx_2801 rfl rfl rfl gq g ?_
      obtain ⟨S1, eS1, h⟩ := ltE h
      rw [← eS1]
      refine RR.runs (pc' := 17) (lc' := [(2, .int ((v2 + (1 : Int32)))), (0, .ref v0), (1, .int v1), (3, .int v3)]) (st' := []) (S1 := S1) (nL := 4) (cd := cd_2801) mx_2801 rfl rfl 1 rfl ?_
      obtain ⟨x2, ex2, h⟩ := ltE h
      rw [← ex2]
      refine RR.runs (pc' := 5) (lc' := [(2, .int x2), (0, .ref v0), (1, .int v1), (3, .int v3)]) (st' := []) (S1 := S1) (nL := 4) (cd := cd_2801) mx_2801 rfl rfl 1 rfl ?_
      refine RR.weak [(0, .ref v0), (1, .int v1), (2, .int x2), (3, .int v3)] ⟨rfl, rfl, rfl, rfl, trivial⟩ ?_
      exact ih _ _ _ _ _ h
    · refine RR.c_ge (fun q => absurd q c) (fun _ => ?_)
      refine RR.weak [] trivial ?_
      exact s_o_j_fillI_20 _ h
def o_j_fillI (v0 : Nat) (v1 : Int32) (S : St) : Re Unit :=
  if 1 ≤ (KO.1 v0).1 ∧ (KO.1 v0).1 < 8 then (
  lt' ((Int32.ofNat (KO.1 v0).2) : Int32) fun x1 =>
  o_j_fillI_5 FU v0 v1 (0 : Int32) x1 S) else none
set_option maxRecDepth 100000 in
theorem s0_o_j_fillI {d : Nat} {S' : St} {r : Unit} (v0 : Nat) (v1 : Int32) (S : St) (h : o_j_fillI v0 v1 S = some (r, S')) : RR KO (d + 0) 2801 0 [(0, .ref v0), (1, .int v1)] [] S none S' := by
  unfold o_j_fillI at h
  refine RR.runs (pc' := 3) (lc' := [(2, .int (0 : Int32)), (0, .ref v0), (1, .int v1)]) (st' := [.ref v0]) (S1 := S) (nL := 4) (cd := cd_2801) mx_2801 rfl rfl 3 rfl ?_
  obtain ⟨g, h⟩ := gpE h
  refine RR.gP (pc' := 4) (lc' := [(2, .int (0 : Int32)), (0, .ref v0), (1, .int v1)]) (st' := [.int ((Int32.ofNat (KO.1 v0).2))]) (S1 := S) (nL := 4) (cd := cd_2801) mx_2801 rfl rfl rfl g ?_
  refine RR.runs (pc' := 5) (lc' := [(3, .int ((Int32.ofNat (KO.1 v0).2))), (2, .int (0 : Int32)), (0, .ref v0), (1, .int v1)]) (st' := []) (S1 := S) (nL := 4) (cd := cd_2801) mx_2801 rfl rfl 1 rfl ?_
  obtain ⟨x1, ex1, h⟩ := ltE h
  rw [← ex1]
  refine RR.weak [(0, .ref v0), (1, .int v1), (2, .int (0 : Int32)), (3, .int x1)] ⟨rfl, rfl, rfl, rfl, trivial⟩ ?_
  exact s_o_j_fillI_5 _ _ _ _ _ _ h
theorem s_o_j_fillI {d : Nat} {S' : St} {r : Unit} (v0 : Nat) (v1 : Int32) (S : St) (h : o_j_fillI v0 v1 S = some (r, S')) : RC KO (d + 0) 2801 [.ref v0, .int v1] S none S' := RC.of rfl (s0_o_j_fillI v0 v1 S h)
-- NameOrchard wasHeard (II)Z
def o_wasHeard_102 (S : St) : Re Int32 :=
  some ((1 : Int32), S)
set_option maxRecDepth 100000 in
theorem s_o_wasHeard_102 {d : Nat} {S' : St} {r : Int32} (S : St) (h : o_wasHeard_102 S = some (r, S')) : RR KO (d + 4) 2230 102 [] [] S (some (.int r)) S' := by
  unfold o_wasHeard_102 at h
  refine RR.runs (pc' := 103) (lc' := []) (st' := [.int (1 : Int32)]) (S1 := S) (nL := 5) (cd := cd_2230) mx_2230 rfl rfl 1 rfl ?_
  cases h
  exact RR.retz mx_2230 rfl rfl rfl rfl
def o_wasHeard_70 : Nat → Int32 → Int32 → St → Re Int32
  | 0, _, _, _ => none
  | n + 1, v3, v4, S =>
  if v4 < (10 : Int32) then (
    if v4 < 0 ∨ 10 ≤ v4.toNatClampNeg then none else
    if v4 < 0 ∨ 10 ≤ v4.toNatClampNeg then none else
    lt' (wI S 17 v4.toNatClampNeg (((rI S 17 v4.toNatClampNeg) + ((v3 >>> (v4 &&& 31)) &&& (1 : Int32))))) fun S1 =>
    lt' ((v4 + (1 : Int32)) : Int32) fun x2 =>
    o_wasHeard_70 n v3 x2 S1)
  else (
    o_wasHeard_102 S)
set_option maxRecDepth 100000 in
theorem s_o_wasHeard_70 {d : Nat} {S' : St} {r : Int32} : ∀ (n : Nat) (v3 : Int32) (v4 : Int32) (S : St), o_wasHeard_70 n v3 v4 S = some (r, S') → RR KO (d + 4) 2230 70 [(0, .ref 1), (3, .int v3), (4, .int v4)] [] S (some (.int r)) S' := by
  intro n
  induction n with
  | zero => intro v3 v4 S h; simp only [o_wasHeard_70] at h; cases h
  | succ n ih =>
    intro v3 v4 S h
    simp only [o_wasHeard_70] at h
    refine RR.runs (pc' := icm .ge v4 (10 : Int32) 102 80) (lc' := [(0, .ref 1), (3, .int v3), (4, .int v4)]) (st' := []) (S1 := S) (nL := 5) (cd := cd_2230) mx_2230 rfl rfl 5 rfl ?_
    rcases ifE h with ⟨c, h⟩ | ⟨c, h⟩
    · refine RR.c_ge (fun _ => ?_) (fun q => absurd c q)
      refine RR.runs (pc' := 87) (lc' := [(0, .ref 1), (3, .int v3), (4, .int v4)]) (st' := [.int v4, .ref 17, .int v4, .ref 17]) (S1 := S) (nL := 5) (cd := cd_2230) mx_2230 rfl rfl 4 rfl ?_
      obtain ⟨g, h⟩ := gnE h
      refine RR.gPN (c2 := (KO.1 17).1 = 1) (pc' := 88) (lc' := [(0, .ref 1), (3, .int v3), (4, .int v4)]) (st' := [.int (rI S 17 v4.toNatClampNeg), .int v4, .ref 17]) (S1 := S) (nL := 5) (cd := cd_2230) mx_2230 rfl rfl rfl rfl g ?_
      refine RR.runs (pc' := 95) (lc' := [(0, .ref 1), (3, .int v3), (4, .int v4)]) (st' := [.int (((rI S 17 v4.toNatClampNeg) + ((v3 >>> (v4 &&& 31)) &&& (1 : Int32)))), .int v4, .ref 17]) (S1 := S) (nL := 5) (cd := cd_2230) mx_2230 rfl rfl 6 rfl ?_
      obtain ⟨g, h⟩ := gnE h
      refine RR.gPN (c2 := (KO.1 17).1 = 1) (pc' := 96) (lc' := [(0, .ref 1), (3, .int v3), (4, .int v4)]) (st' := []) (S1 := (wI S 17 v4.toNatClampNeg (((rI S 17 v4.toNatClampNeg) + ((v3 >>> (v4 &&& 31)) &&& (1 : Int32)))))) (nL := 5) (cd := cd_2230) mx_2230 rfl rfl rfl rfl g ?_
      obtain ⟨S1, eS1, h⟩ := ltE h
      rw [← eS1]
      refine RR.runs (pc' := 99) (lc' := [(4, .int ((v4 + (1 : Int32)))), (0, .ref 1), (3, .int v3)]) (st' := []) (S1 := S1) (nL := 5) (cd := cd_2230) mx_2230 rfl rfl 1 rfl ?_
      obtain ⟨x2, ex2, h⟩ := ltE h
      rw [← ex2]
      refine RR.runs (pc' := 70) (lc' := [(4, .int x2), (0, .ref 1), (3, .int v3)]) (st' := []) (S1 := S1) (nL := 5) (cd := cd_2230) mx_2230 rfl rfl 1 rfl ?_
      refine RR.weak [(0, .ref 1), (3, .int v3), (4, .int x2)] ⟨rfl, rfl, rfl, trivial⟩ ?_
      exact ih _ _ _ h
    · refine RR.c_ge (fun q => absurd q c) (fun _ => ?_)
      refine RR.weak [] trivial ?_
      exact s_o_wasHeard_102 _ h
def o_wasHeard (v1 : Int32) (v2 : Int32) (S : St) : Re Int32 :=
  oq (rQ S 1 9) none fun o1 =>
  if KO.1 o1 = (0, 10) then (
bn (o_to_canSay o1 v1 v2 S) fun r3 S4 =>
  if r3 = 0 then (
    some ((0 : Int32), S4))
  else (
    oq (rQ S4 1 9) none fun o5 =>
    oq (rQ S4 1 9) none fun o6 =>
    if KO.1 o6 = (0, 10) then (
bn (o_to_laneOf o6 v1 S4) fun r8 S9 =>
    oq (rQ S9 1 9) none fun o10 =>
    if KO.1 o10 = (0, 10) then (
bn (o_to_loudOf o10 v1 S9) fun r12 S13 =>
    bn (o_sd_fallers 200 o5 r8 r12 v2 S13) fun r14 S15 =>
    if (r14 &&& (rI S15 70 3)) = (rI S15 70 4) then (
      o_wasHeard_70 FU r14 (0 : Int32) S15)
    else (
      some ((0 : Int32), S15))) else none) else none)) else none
set_option maxRecDepth 100000 in
theorem s0_o_wasHeard {d : Nat} {S' : St} {r : Int32} (v1 : Int32) (v2 : Int32) (S : St) (h : o_wasHeard v1 v2 S = some (r, S')) : RR KO (d + 4) 2230 0 [(0, .ref 1), (1, .int v1), (2, .int v2)] [] S (some (.int r)) S' := by
  unfold o_wasHeard at h
  refine RR.runs (pc' := 4) (lc' := [(0, .ref 1), (1, .int v1), (2, .int v2)]) (st' := [qv (rQ S 1 9)]) (S1 := S) (nL := 5) (cd := cd_2230) mx_2230 rfl rfl 2 rfl ?_
  rcases oqE h with ⟨e1, h⟩ | ⟨o1, eo1, h⟩
  · cases h
  rw [eo1]
  refine RR.runs (pc' := 6) (lc' := [(0, .ref 1), (1, .int v1), (2, .int v2)]) (st' := [.int v2, .int v1, .ref o1]) (S1 := S) (nL := 5) (cd := cd_2230) mx_2230 rfl rfl 2 rfl ?_
  obtain ⟨g2, h⟩ := gpE h
  obtain ⟨r3, S4, h1, h⟩ := bnE h
  refine RR.callV (b := o1) (as := [.int v1, .int v2]) (rest := []) (r1 := (some (.int r3))) (S1 := S4) mx_2230 rfl rfl mx_2010 rfl rfl (by decide) (Or.inl g2) (Nat.le_of_ble_eq_true rfl) (Nat.le_of_ble_eq_true rfl) (RC.deep (by omega) (s_o_to_canSay (d := d) _ _ _ _ h1)) ?_
  show RR KO _ 2230 9 [(0, .ref 1), (1, .int v1), (2, .int v2)] [.int r3] S4 _ _
  refine RR.runs (pc' := icm .ne r3 0 14 12) (lc' := [(0, .ref 1), (1, .int v1), (2, .int v2)]) (st' := []) (S1 := S4) (nL := 5) (cd := cd_2230) mx_2230 rfl rfl 1 rfl ?_
  rcases ifE h with ⟨c, h⟩ | ⟨c, h⟩
  · refine RR.c_ne (fun _ => ?_) (fun q => absurd c q)
    refine RR.runs (pc' := 13) (lc' := [(0, .ref 1), (1, .int v1), (2, .int v2)]) (st' := [.int (0 : Int32)]) (S1 := S4) (nL := 5) (cd := cd_2230) mx_2230 rfl rfl 1 rfl ?_
    cases h
    exact RR.retz mx_2230 rfl rfl rfl rfl
  · refine RR.c_ne (fun q => absurd q c) (fun _ => ?_)
    refine RR.runs (pc' := 25) (lc' := [(0, .ref 1), (1, .int v1), (2, .int v2)]) (st' := [qv (rQ S4 1 9), .ref 200]) (S1 := S4) (nL := 5) (cd := cd_2230) mx_2230 rfl rfl 5 rfl ?_
    rcases oqE h with ⟨e1, h⟩ | ⟨o5, eo5, h⟩
    · cases h
    rw [eo5]
    refine RR.runs (pc' := 29) (lc' := [(0, .ref 1), (1, .int v1), (2, .int v2)]) (st' := [qv (rQ S4 1 9), .ref o5, .ref 200]) (S1 := S4) (nL := 5) (cd := cd_2230) mx_2230 rfl rfl 2 rfl ?_
    rcases oqE h with ⟨e1, h⟩ | ⟨o6, eo6, h⟩
    · cases h
    rw [eo6]
    refine RR.runs (pc' := 30) (lc' := [(0, .ref 1), (1, .int v1), (2, .int v2)]) (st' := [.int v1, .ref o6, .ref o5, .ref 200]) (S1 := S4) (nL := 5) (cd := cd_2230) mx_2230 rfl rfl 1 rfl ?_
    obtain ⟨g7, h⟩ := gpE h
    obtain ⟨r8, S9, h1, h⟩ := bnE h
    refine RR.callV (b := o6) (as := [.int v1]) (rest := [.ref o5, .ref 200]) (r1 := (some (.int r8))) (S1 := S9) mx_2230 rfl rfl mx_2011 rfl rfl (by decide) (Or.inl g7) (Nat.le_of_ble_eq_true rfl) (Nat.le_of_ble_eq_true rfl) (RC.deep (by omega) (s_o_to_laneOf (d := d) _ _ _ h1)) ?_
    show RR KO _ 2230 33 [(0, .ref 1), (1, .int v1), (2, .int v2)] [.int r8, .ref o5, .ref 200] S9 _ _
    refine RR.runs (pc' := 37) (lc' := [(0, .ref 1), (1, .int v1), (2, .int v2)]) (st' := [qv (rQ S9 1 9), .int r8, .ref o5, .ref 200]) (S1 := S9) (nL := 5) (cd := cd_2230) mx_2230 rfl rfl 2 rfl ?_
    rcases oqE h with ⟨e1, h⟩ | ⟨o10, eo10, h⟩
    · cases h
    rw [eo10]
    refine RR.runs (pc' := 38) (lc' := [(0, .ref 1), (1, .int v1), (2, .int v2)]) (st' := [.int v1, .ref o10, .int r8, .ref o5, .ref 200]) (S1 := S9) (nL := 5) (cd := cd_2230) mx_2230 rfl rfl 1 rfl ?_
    obtain ⟨g11, h⟩ := gpE h
    obtain ⟨r12, S13, h1, h⟩ := bnE h
    refine RR.callV (b := o10) (as := [.int v1]) (rest := [.int r8, .ref o5, .ref 200]) (r1 := (some (.int r12))) (S1 := S13) mx_2230 rfl rfl mx_2012 rfl rfl (by decide) (Or.inl g11) (Nat.le_of_ble_eq_true rfl) (Nat.le_of_ble_eq_true rfl) (RC.deep (by omega) (s_o_to_loudOf (d := d) _ _ _ h1)) ?_
    show RR KO _ 2230 41 [(0, .ref 1), (1, .int v1), (2, .int v2)] [.int r12, .int r8, .ref o5, .ref 200] S13 _ _
    refine RR.runs (pc' := 42) (lc' := [(0, .ref 1), (1, .int v1), (2, .int v2)]) (st' := [.int v2, .int r12, .int r8, .ref o5, .ref 200]) (S1 := S13) (nL := 5) (cd := cd_2230) mx_2230 rfl rfl 1 rfl ?_
    obtain ⟨r14, S15, h1, h⟩ := bnE h
    refine RR.callV (b := 200) (as := [.ref o5, .int r8, .int r12, .int v2]) (rest := []) (r1 := (some (.int r14))) (S1 := S15) mx_2230 rfl rfl mx_1010 rfl rfl (by decide) (Or.inl rfl) (Nat.le_of_ble_eq_true rfl) (Nat.le_of_ble_eq_true rfl) (RC.deep (by omega) (s_o_sd_fallers (d := d) _ _ _ _ _ _ h1)) ?_
    show RR KO _ 2230 45 [(0, .ref 1), (1, .int v1), (2, .int v2)] [.int r14] S15 _ _
    refine RR.runs (pc' := icm .eq ((r14 &&& (rI S15 70 3))) (rI S15 70 4) 67 65) (lc' := [(3, .int r14), (0, .ref 1), (1, .int v1), (2, .int v2)]) (st' := []) (S1 := S15) (nL := 5) (cd := cd_2230) mx_2230 rfl rfl 10 rfl ?_
    rcases ifE h with ⟨c, h⟩ | ⟨c, h⟩
    · refine RR.c_eq (fun _ => ?_) (fun q => absurd c q)
      refine RR.runs (pc' := 70) (lc' := [(4, .int (0 : Int32)), (3, .int r14), (0, .ref 1), (1, .int v1), (2, .int v2)]) (st' := []) (S1 := S15) (nL := 5) (cd := cd_2230) mx_2230 rfl rfl 2 rfl ?_
      refine RR.weak [(0, .ref 1), (3, .int r14), (4, .int (0 : Int32))] ⟨rfl, rfl, rfl, trivial⟩ ?_
      exact s_o_wasHeard_70 _ _ _ _ h
    · refine RR.c_eq (fun q => absurd q c) (fun _ => ?_)
      refine RR.runs (pc' := 66) (lc' := [(3, .int r14), (0, .ref 1), (1, .int v1), (2, .int v2)]) (st' := [.int (0 : Int32)]) (S1 := S15) (nL := 5) (cd := cd_2230) mx_2230 rfl rfl 1 rfl ?_
      cases h
      exact RR.retz mx_2230 rfl rfl rfl rfl
theorem s_o_wasHeard {d : Nat} {S' : St} {r : Int32} (v1 : Int32) (v2 : Int32) (S : St) (h : o_wasHeard v1 v2 S = some (r, S')) : RC KO (d + 4) 2230 [.ref 1, .int v1, .int v2] S (some (.int r)) S' := RC.of rfl (s0_o_wasHeard v1 v2 S h)
-- NameOrchard evenest (I)I
def o_evenest_83 (k29 : Int32 → Int32 → Int32 → Int32 → Int32 → St → Re Int32) (v1 : Int32) (v2 : Int32) (v3 : Int32) (v4 : Int32) (v5 : Int32) (S : St) : Re Int32 :=
  lt' ((v5 + (1 : Int32)) : Int32) fun x1 =>
  k29 v1 v2 v3 v4 x1 S
set_option maxRecDepth 100000 in
theorem s_o_evenest_83 {d : Nat} (k29 : Int32 → Int32 → Int32 → Int32 → Int32 → St → Re Int32) {S' : St} {r : Int32} (b29 : ∀ (v1 : Int32) (v2 : Int32) (v3 : Int32) (v4 : Int32) (v5 : Int32) (S : St), k29 v1 v2 v3 v4 v5 S = some (r, S') → RR KO (d + 1) 2231 29 [(0, .ref 1), (1, .int v1), (2, .int v2), (3, .int v3), (4, .int v4), (5, .int v5)] [] S (some (.int r)) S') (v1 : Int32) (v2 : Int32) (v3 : Int32) (v4 : Int32) (v5 : Int32) (S : St) (h : o_evenest_83 k29 v1 v2 v3 v4 v5 S = some (r, S')) : RR KO (d + 1) 2231 83 [(0, .ref 1), (1, .int v1), (2, .int v2), (3, .int v3), (4, .int v4), (5, .int v5)] [] S (some (.int r)) S' := by
  unfold o_evenest_83 at h
  refine RR.runs (pc' := 86) (lc' := [(5, .int ((v5 + (1 : Int32)))), (0, .ref 1), (1, .int v1), (2, .int v2), (3, .int v3), (4, .int v4)]) (st' := []) (S1 := S) (nL := 7) (cd := cd_2231) mx_2231 rfl rfl 1 rfl ?_
  obtain ⟨x1, ex1, h⟩ := ltE h
  rw [← ex1]
  refine RR.runs (pc' := 29) (lc' := [(5, .int x1), (0, .ref 1), (1, .int v1), (2, .int v2), (3, .int v3), (4, .int v4)]) (st' := []) (S1 := S) (nL := 7) (cd := cd_2231) mx_2231 rfl rfl 1 rfl ?_
  refine RR.weak [(0, .ref 1), (1, .int v1), (2, .int v2), (3, .int v3), (4, .int v4), (5, .int x1)] ⟨rfl, rfl, rfl, rfl, rfl, rfl, trivial⟩ ?_
  exact b29 _ _ _ _ _ _ h
def o_evenest_89 (v3 : Int32) (S : St) : Re Int32 :=
  some (v3, S)
set_option maxRecDepth 100000 in
theorem s_o_evenest_89 {d : Nat} {S' : St} {r : Int32} (v3 : Int32) (S : St) (h : o_evenest_89 v3 S = some (r, S')) : RR KO (d + 1) 2231 89 [(3, .int v3)] [] S (some (.int r)) S' := by
  unfold o_evenest_89 at h
  refine RR.runs (pc' := 90) (lc' := [(3, .int v3)]) (st' := [.int v3]) (S1 := S) (nL := 7) (cd := cd_2231) mx_2231 rfl rfl 1 rfl ?_
  cases h
  exact RR.reti mx_2231 rfl rfl rfl
def o_evenest_29 : Nat → Int32 → Int32 → Int32 → Int32 → Int32 → St → Re Int32
  | 0, _, _, _, _, _, _ => none
  | n + 1, v1, v2, v3, v4, v5, S =>
  if v5 < (10 : Int32) then (
    if v5 < 0 ∨ 10 ≤ v5.toNatClampNeg then none else
    if v5 < 0 ∨ 10 ≤ v5.toNatClampNeg then none else
    bn (o_j_min (rI S 17 v5.toNatClampNeg) ((v1 - (rI S 17 v5.toNatClampNeg))) S) fun r1 S2 =>
    if ((v2 >>> (v5 &&& 31)) &&& (1 : Int32)) = 0 then (
      o_evenest_83 (o_evenest_29 n) v1 v2 v3 v4 v5 S2)
    else (
      if v4 < r1 then (
        o_evenest_83 (o_evenest_29 n) v1 v2 v5 r1 v5 S2)
      else (
        o_evenest_83 (o_evenest_29 n) v1 v2 v3 v4 v5 S2)))
  else (
    o_evenest_89 v3 S)
set_option maxRecDepth 100000 in
theorem s_o_evenest_29 {d : Nat} {S' : St} {r : Int32} : ∀ (n : Nat) (v1 : Int32) (v2 : Int32) (v3 : Int32) (v4 : Int32) (v5 : Int32) (S : St), o_evenest_29 n v1 v2 v3 v4 v5 S = some (r, S') → RR KO (d + 1) 2231 29 [(0, .ref 1), (1, .int v1), (2, .int v2), (3, .int v3), (4, .int v4), (5, .int v5)] [] S (some (.int r)) S' := by
  intro n
  induction n with
  | zero => intro v1 v2 v3 v4 v5 S h; simp only [o_evenest_29] at h; cases h
  | succ n ih =>
    intro v1 v2 v3 v4 v5 S h
    simp only [o_evenest_29] at h
    refine RR.runs (pc' := icm .ge v5 (10 : Int32) 89 39) (lc' := [(0, .ref 1), (1, .int v1), (2, .int v2), (3, .int v3), (4, .int v4), (5, .int v5)]) (st' := []) (S1 := S) (nL := 7) (cd := cd_2231) mx_2231 rfl rfl 5 rfl ?_
    rcases ifE h with ⟨c, h⟩ | ⟨c, h⟩
    · refine RR.c_ge (fun _ => ?_) (fun q => absurd c q)
      refine RR.runs (pc' := 45) (lc' := [(0, .ref 1), (1, .int v1), (2, .int v2), (3, .int v3), (4, .int v4), (5, .int v5)]) (st' := [.int v5, .ref 17]) (S1 := S) (nL := 7) (cd := cd_2231) mx_2231 rfl rfl 3 rfl ?_
      obtain ⟨g, h⟩ := gnE h
      refine RR.gPN (c2 := (KO.1 17).1 = 1) (pc' := 46) (lc' := [(0, .ref 1), (1, .int v1), (2, .int v2), (3, .int v3), (4, .int v4), (5, .int v5)]) (st' := [.int (rI S 17 v5.toNatClampNeg)]) (S1 := S) (nL := 7) (cd := cd_2231) mx_2231 rfl rfl rfl rfl g ?_
      refine RR.runs (pc' := 53) (lc' := [(0, .ref 1), (1, .int v1), (2, .int v2), (3, .int v3), (4, .int v4), (5, .int v5)]) (st' := [.int v5, .ref 17, .int v1, .int (rI S 17 v5.toNatClampNeg)]) (S1 := S) (nL := 7) (cd := cd_2231) mx_2231 rfl rfl 4 rfl ?_
      obtain ⟨g, h⟩ := gnE h
      refine RR.gPN (c2 := (KO.1 17).1 = 1) (pc' := 54) (lc' := [(0, .ref 1), (1, .int v1), (2, .int v2), (3, .int v3), (4, .int v4), (5, .int v5)]) (st' := [.int (rI S 17 v5.toNatClampNeg), .int v1, .int (rI S 17 v5.toNatClampNeg)]) (S1 := S) (nL := 7) (cd := cd_2231) mx_2231 rfl rfl rfl rfl g ?_
      refine RR.runs (pc' := 55) (lc' := [(0, .ref 1), (1, .int v1), (2, .int v2), (3, .int v3), (4, .int v4), (5, .int v5)]) (st' := [.int ((v1 - (rI S 17 v5.toNatClampNeg))), .int (rI S 17 v5.toNatClampNeg)]) (S1 := S) (nL := 7) (cd := cd_2231) mx_2231 rfl rfl 1 rfl ?_
      obtain ⟨r1, S2, h1, h⟩ := bnE h
      refine RR.callS (as := [.int (rI S 17 v5.toNatClampNeg), .int ((v1 - (rI S 17 v5.toNatClampNeg)))]) (rest := []) (r1 := (some (.int r1))) (S1 := S2) mx_2231 rfl rfl mx_2600 rfl rfl (by decide) (Nat.le_of_ble_eq_true rfl) (Nat.le_of_ble_eq_true rfl) (Nat.le_of_ble_eq_true rfl) (RC.deep (by omega) (s_o_j_min (d := d) _ _ _ h1)) ?_
      show RR KO _ 2231 58 [(0, .ref 1), (1, .int v1), (2, .int v2), (3, .int v3), (4, .int v4), (5, .int v5)] [.int r1] S2 _ _
      refine RR.runs (pc' := icm .eq (((v2 >>> (v5 &&& 31)) &&& (1 : Int32))) 0 83 69) (lc' := [(6, .int r1), (0, .ref 1), (1, .int v1), (2, .int v2), (3, .int v3), (4, .int v4), (5, .int v5)]) (st' := []) (S1 := S2) (nL := 7) (cd := cd_2231) mx_2231 rfl rfl 7 rfl ?_
      rcases ifE h with ⟨c, h⟩ | ⟨c, h⟩
      · refine RR.c_eq (fun _ => ?_) (fun q => absurd c q)
        refine RR.weak [(0, .ref 1), (1, .int v1), (2, .int v2), (3, .int v3), (4, .int v4), (5, .int v5)] ⟨rfl, rfl, rfl, rfl, rfl, rfl, trivial⟩ ?_
        exact s_o_evenest_83 _ (fun _ _ _ _ _ S h => ih _ _ _ _ _ S h) _ _ _ _ _ _ h
      · refine RR.c_eq (fun q => absurd q c) (fun _ => ?_)
        refine RR.runs (pc' := icm .le r1 v4 83 76) (lc' := [(6, .int r1), (0, .ref 1), (1, .int v1), (2, .int v2), (3, .int v3), (4, .int v4), (5, .int v5)]) (st' := []) (S1 := S2) (nL := 7) (cd := cd_2231) mx_2231 rfl rfl 3 rfl ?_
        rcases ifE h with ⟨c, h⟩ | ⟨c, h⟩
        · refine RR.c_le (fun _ => ?_) (fun q => absurd c q)
          refine RR.runs (pc' := 83) (lc' := [(4, .int r1), (3, .int v5), (6, .int r1), (0, .ref 1), (1, .int v1), (2, .int v2), (5, .int v5)]) (st' := []) (S1 := S2) (nL := 7) (cd := cd_2231) mx_2231 rfl rfl 4 rfl ?_
          refine RR.weak [(0, .ref 1), (1, .int v1), (2, .int v2), (3, .int v5), (4, .int r1), (5, .int v5)] ⟨rfl, rfl, rfl, rfl, rfl, rfl, trivial⟩ ?_
          exact s_o_evenest_83 _ (fun _ _ _ _ _ S h => ih _ _ _ _ _ S h) _ _ _ _ _ _ h
        · refine RR.c_le (fun q => absurd q c) (fun _ => ?_)
          refine RR.weak [(0, .ref 1), (1, .int v1), (2, .int v2), (3, .int v3), (4, .int v4), (5, .int v5)] ⟨rfl, rfl, rfl, rfl, rfl, rfl, trivial⟩ ?_
          exact s_o_evenest_83 _ (fun _ _ _ _ _ S h => ih _ _ _ _ _ S h) _ _ _ _ _ _ h
    · refine RR.c_ge (fun q => absurd q c) (fun _ => ?_)
      refine RR.weak [(3, .int v3)] ⟨rfl, trivial⟩ ?_
      exact s_o_evenest_89 _ _ h
def o_evenest (v1 : Int32) (S : St) : Re Int32 :=
  lt' (((rI S 200 1) &&& ((rI S 70 3) ^^^ (-1 : Int32))) : Int32) fun x1 =>
  o_evenest_29 FU v1 x1 (-1 : Int32) (0 : Int32) (0 : Int32) S
set_option maxRecDepth 100000 in
theorem s0_o_evenest {d : Nat} {S' : St} {r : Int32} (v1 : Int32) (S : St) (h : o_evenest v1 S = some (r, S')) : RR KO (d + 1) 2231 0 [(0, .ref 1), (1, .int v1)] [] S (some (.int r)) S' := by
  unfold o_evenest at h
  refine RR.runs (pc' := 21) (lc' := [(2, .int (((rI S 200 1) &&& ((rI S 70 3) ^^^ (-1 : Int32))))), (0, .ref 1), (1, .int v1)]) (st' := []) (S1 := S) (nL := 7) (cd := cd_2231) mx_2231 rfl rfl 11 rfl ?_
  obtain ⟨x1, ex1, h⟩ := ltE h
  rw [← ex1]
  refine RR.runs (pc' := 29) (lc' := [(5, .int (0 : Int32)), (4, .int (0 : Int32)), (3, .int (-1 : Int32)), (2, .int x1), (0, .ref 1), (1, .int v1)]) (st' := []) (S1 := S) (nL := 7) (cd := cd_2231) mx_2231 rfl rfl 6 rfl ?_
  refine RR.weak [(0, .ref 1), (1, .int v1), (2, .int x1), (3, .int (-1 : Int32)), (4, .int (0 : Int32)), (5, .int (0 : Int32))] ⟨rfl, rfl, rfl, rfl, rfl, rfl, trivial⟩ ?_
  exact s_o_evenest_29 _ _ _ _ _ _ _ h
theorem s_o_evenest {d : Nat} {S' : St} {r : Int32} (v1 : Int32) (S : St) (h : o_evenest v1 S = some (r, S')) : RC KO (d + 1) 2231 [.ref 1, .int v1] S (some (.int r)) S' := RC.of rfl (s0_o_evenest v1 S h)
-- NameOrchard called (I)I
def o_called_9 (S : St) : Re Int32 :=
  some ((-1 : Int32), S)
set_option maxRecDepth 100000 in
theorem s_o_called_9 {d : Nat} {S' : St} {r : Int32} (S : St) (h : o_called_9 S = some (r, S')) : RR KO (d + 5) 2217 9 [] [] S (some (.int r)) S' := by
  unfold o_called_9 at h
  refine RR.runs (pc' := 10) (lc' := []) (st' := [.int (-1 : Int32)]) (S1 := S) (nL := 7) (cd := cd_2217) mx_2217 rfl rfl 1 rfl ?_
  cases h
  exact RR.reti mx_2217 rfl rfl rfl
def o_called_92 (k47 : Int32 → Int32 → Int32 → Int32 → Int32 → Int32 → St → Re Int32) (v1 : Int32) (v2 : Int32) (v3 : Int32) (v4 : Int32) (v5 : Int32) (v6 : Int32) (S : St) : Re Int32 :=
  lt' ((v6 + (1 : Int32)) : Int32) fun x1 =>
  k47 v1 v2 v3 v4 v5 x1 S
set_option maxRecDepth 100000 in
theorem s_o_called_92 {d : Nat} (k47 : Int32 → Int32 → Int32 → Int32 → Int32 → Int32 → St → Re Int32) {S' : St} {r : Int32} (b47 : ∀ (v1 : Int32) (v2 : Int32) (v3 : Int32) (v4 : Int32) (v5 : Int32) (v6 : Int32) (S : St), k47 v1 v2 v3 v4 v5 v6 S = some (r, S') → RR KO (d + 5) 2217 47 [(0, .ref 1), (1, .int v1), (2, .int v2), (3, .int v3), (4, .int v4), (5, .int v5), (6, .int v6)] [] S (some (.int r)) S') (v1 : Int32) (v2 : Int32) (v3 : Int32) (v4 : Int32) (v5 : Int32) (v6 : Int32) (S : St) (h : o_called_92 k47 v1 v2 v3 v4 v5 v6 S = some (r, S')) : RR KO (d + 5) 2217 92 [(0, .ref 1), (1, .int v1), (2, .int v2), (3, .int v3), (4, .int v4), (5, .int v5), (6, .int v6)] [] S (some (.int r)) S' := by
  unfold o_called_92 at h
  refine RR.runs (pc' := 95) (lc' := [(6, .int ((v6 + (1 : Int32)))), (0, .ref 1), (1, .int v1), (2, .int v2), (3, .int v3), (4, .int v4), (5, .int v5)]) (st' := []) (S1 := S) (nL := 7) (cd := cd_2217) mx_2217 rfl rfl 1 rfl ?_
  obtain ⟨x1, ex1, h⟩ := ltE h
  rw [← ex1]
  refine RR.runs (pc' := 47) (lc' := [(6, .int x1), (0, .ref 1), (1, .int v1), (2, .int v2), (3, .int v3), (4, .int v4), (5, .int v5)]) (st' := []) (S1 := S) (nL := 7) (cd := cd_2217) mx_2217 rfl rfl 1 rfl ?_
  refine RR.weak [(0, .ref 1), (1, .int v1), (2, .int v2), (3, .int v3), (4, .int v4), (5, .int v5), (6, .int x1)] ⟨rfl, rfl, rfl, rfl, rfl, rfl, rfl, trivial⟩ ?_
  exact b47 _ _ _ _ _ _ _ h
def o_called_98 (k29 : Int32 → Int32 → Int32 → Int32 → Int32 → St → Re Int32) (v1 : Int32) (v2 : Int32) (v3 : Int32) (v4 : Int32) (v5 : Int32) (S : St) : Re Int32 :=
  lt' ((v5 + (1 : Int32)) : Int32) fun x1 =>
  k29 v1 v2 v3 v4 x1 S
set_option maxRecDepth 100000 in
theorem s_o_called_98 {d : Nat} (k29 : Int32 → Int32 → Int32 → Int32 → Int32 → St → Re Int32) {S' : St} {r : Int32} (b29 : ∀ (v1 : Int32) (v2 : Int32) (v3 : Int32) (v4 : Int32) (v5 : Int32) (S : St), k29 v1 v2 v3 v4 v5 S = some (r, S') → RR KO (d + 5) 2217 29 [(0, .ref 1), (1, .int v1), (2, .int v2), (3, .int v3), (4, .int v4), (5, .int v5)] [] S (some (.int r)) S') (v1 : Int32) (v2 : Int32) (v3 : Int32) (v4 : Int32) (v5 : Int32) (S : St) (h : o_called_98 k29 v1 v2 v3 v4 v5 S = some (r, S')) : RR KO (d + 5) 2217 98 [(0, .ref 1), (1, .int v1), (2, .int v2), (3, .int v3), (4, .int v4), (5, .int v5)] [] S (some (.int r)) S' := by
  unfold o_called_98 at h
  refine RR.runs (pc' := 101) (lc' := [(5, .int ((v5 + (1 : Int32)))), (0, .ref 1), (1, .int v1), (2, .int v2), (3, .int v3), (4, .int v4)]) (st' := []) (S1 := S) (nL := 7) (cd := cd_2217) mx_2217 rfl rfl 1 rfl ?_
  obtain ⟨x1, ex1, h⟩ := ltE h
  rw [← ex1]
  refine RR.runs (pc' := 29) (lc' := [(5, .int x1), (0, .ref 1), (1, .int v1), (2, .int v2), (3, .int v3), (4, .int v4)]) (st' := []) (S1 := S) (nL := 7) (cd := cd_2217) mx_2217 rfl rfl 1 rfl ?_
  refine RR.weak [(0, .ref 1), (1, .int v1), (2, .int v2), (3, .int v3), (4, .int v4), (5, .int x1)] ⟨rfl, rfl, rfl, rfl, rfl, rfl, trivial⟩ ?_
  exact b29 _ _ _ _ _ _ h
def o_called_47 (k29 : Int32 → Int32 → Int32 → Int32 → Int32 → St → Re Int32) : Nat → Int32 → Int32 → Int32 → Int32 → Int32 → Int32 → St → Re Int32
  | 0, _, _, _, _, _, _, _ => none
  | n + 1, v1, v2, v3, v4, v5, v6, S =>
  oq (rQ S 1 9) none fun o1 =>
  if KO.1 o1 = (0, 10) then (
  if KO.1 (o1 + 2) = (0, 2) then (
bn (o_na_size (o1 + 2) S) fun r4 S5 =>
  if v6 < r4 then (
    bn (o_wasHeard v5 v6 S5) fun r6 S7 =>
    if r6 = 0 then (
      o_called_92 (o_called_47 k29 n) v1 v2 v3 v4 v5 v6 S7)
    else (
      lt' ((v2 + (1 : Int32)) : Int32) fun x8 =>
      lt' ((v3 ||| ((1 : Int32) <<< (v6 &&& 31))) : Int32) fun x9 =>
      lt' ((v4 ||| ((1 : Int32) <<< (v5 &&& 31))) : Int32) fun x10 =>
      o_called_92 (o_called_47 k29 n) v1 x8 x9 x10 v5 v6 S7))
  else (
    o_called_98 k29 v1 v2 v3 v4 v5 S5)) else none) else none
set_option maxRecDepth 100000 in
theorem s_o_called_47 {d : Nat} (k29 : Int32 → Int32 → Int32 → Int32 → Int32 → St → Re Int32) {S' : St} {r : Int32} (b29 : ∀ (v1 : Int32) (v2 : Int32) (v3 : Int32) (v4 : Int32) (v5 : Int32) (S : St), k29 v1 v2 v3 v4 v5 S = some (r, S') → RR KO (d + 5) 2217 29 [(0, .ref 1), (1, .int v1), (2, .int v2), (3, .int v3), (4, .int v4), (5, .int v5)] [] S (some (.int r)) S') : ∀ (n : Nat) (v1 : Int32) (v2 : Int32) (v3 : Int32) (v4 : Int32) (v5 : Int32) (v6 : Int32) (S : St), o_called_47 k29 n v1 v2 v3 v4 v5 v6 S = some (r, S') → RR KO (d + 5) 2217 47 [(0, .ref 1), (1, .int v1), (2, .int v2), (3, .int v3), (4, .int v4), (5, .int v5), (6, .int v6)] [] S (some (.int r)) S' := by
  intro n
  induction n with
  | zero => intro v1 v2 v3 v4 v5 v6 S h; simp only [o_called_47] at h; cases h
  | succ n ih =>
    intro v1 v2 v3 v4 v5 v6 S h
    simp only [o_called_47] at h
    refine RR.runs (pc' := 53) (lc' := [(0, .ref 1), (1, .int v1), (2, .int v2), (3, .int v3), (4, .int v4), (5, .int v5), (6, .int v6)]) (st' := [qv (rQ S 1 9), .int v6]) (S1 := S) (nL := 7) (cd := cd_2217) mx_2217 rfl rfl 3 rfl ?_
    rcases oqE h with ⟨e1, h⟩ | ⟨o1, eo1, h⟩
    · cases h
    rw [eo1]
    obtain ⟨g2, h⟩ := gpE h
    refine RR.gPo (pc' := 56) (lc' := [(0, .ref 1), (1, .int v1), (2, .int v2), (3, .int v3), (4, .int v4), (5, .int v5), (6, .int v6)]) (st' := [.ref (o1 + 2), .int v6]) (S1 := S) (nL := 7) (cd := cd_2217) mx_2217 rfl rfl rfl ⟨g2, by decide, by decide⟩ ?_
    obtain ⟨g3, h⟩ := gpE h
    obtain ⟨r4, S5, h1, h⟩ := bnE h
    refine RR.callV (b := (o1 + 2)) (as := []) (rest := [.int v6]) (r1 := (some (.int r4))) (S1 := S5) mx_2217 rfl rfl mx_403 rfl rfl (by decide) (Or.inl g3) (Nat.le_of_ble_eq_true rfl) (Nat.le_of_ble_eq_true rfl) (RC.deep (by omega) (s_o_na_size (d := d) _ _ h1)) ?_
    show RR KO _ 2217 59 [(0, .ref 1), (1, .int v1), (2, .int v2), (3, .int v3), (4, .int v4), (5, .int v5), (6, .int v6)] [.int r4, .int v6] S5 _ _
    refine RR.runs (pc' := icm .ge v6 r4 98 62) (lc' := [(0, .ref 1), (1, .int v1), (2, .int v2), (3, .int v3), (4, .int v4), (5, .int v5), (6, .int v6)]) (st' := []) (S1 := S5) (nL := 7) (cd := cd_2217) mx_2217 rfl rfl 1 rfl ?_
    rcases ifE h with ⟨c, h⟩ | ⟨c, h⟩
    · refine RR.c_ge (fun _ => ?_) (fun q => absurd c q)
      refine RR.runs (pc' := 67) (lc' := [(0, .ref 1), (1, .int v1), (2, .int v2), (3, .int v3), (4, .int v4), (5, .int v5), (6, .int v6)]) (st' := [.int v6, .int v5, .ref 1]) (S1 := S5) (nL := 7) (cd := cd_2217) mx_2217 rfl rfl 3 rfl ?_
      obtain ⟨r6, S7, h1, h⟩ := bnE h
      refine RR.callV (b := 1) (as := [.int v5, .int v6]) (rest := []) (r1 := (some (.int r6))) (S1 := S7) mx_2217 rfl rfl mx_2230 rfl rfl (by decide) (Or.inl rfl) (Nat.le_of_ble_eq_true rfl) (Nat.le_of_ble_eq_true rfl) (RC.deep (by omega) (s_o_wasHeard (d := d) _ _ _ h1)) ?_
      show RR KO _ 2217 70 [(0, .ref 1), (1, .int v1), (2, .int v2), (3, .int v3), (4, .int v4), (5, .int v5), (6, .int v6)] [.int r6] S7 _ _
      refine RR.runs (pc' := icm .eq r6 0 92 73) (lc' := [(0, .ref 1), (1, .int v1), (2, .int v2), (3, .int v3), (4, .int v4), (5, .int v5), (6, .int v6)]) (st' := []) (S1 := S7) (nL := 7) (cd := cd_2217) mx_2217 rfl rfl 1 rfl ?_
      rcases ifE h with ⟨c, h⟩ | ⟨c, h⟩
      · refine RR.c_eq (fun _ => ?_) (fun q => absurd c q)
        refine RR.weak [(0, .ref 1), (1, .int v1), (2, .int v2), (3, .int v3), (4, .int v4), (5, .int v5), (6, .int v6)] ⟨rfl, rfl, rfl, rfl, rfl, rfl, rfl, trivial⟩ ?_
        exact s_o_called_92 _ (fun _ _ _ _ _ _ S h => ih _ _ _ _ _ _ S h) _ _ _ _ _ _ _ h
      · refine RR.c_eq (fun q => absurd q c) (fun _ => ?_)
        refine RR.runs (pc' := 76) (lc' := [(2, .int ((v2 + (1 : Int32)))), (0, .ref 1), (1, .int v1), (3, .int v3), (4, .int v4), (5, .int v5), (6, .int v6)]) (st' := []) (S1 := S7) (nL := 7) (cd := cd_2217) mx_2217 rfl rfl 1 rfl ?_
        obtain ⟨x8, ex8, h⟩ := ltE h
        rw [← ex8]
        refine RR.runs (pc' := 83) (lc' := [(3, .int ((v3 ||| ((1 : Int32) <<< (v6 &&& 31))))), (2, .int x8), (0, .ref 1), (1, .int v1), (4, .int v4), (5, .int v5), (6, .int v6)]) (st' := []) (S1 := S7) (nL := 7) (cd := cd_2217) mx_2217 rfl rfl 6 rfl ?_
        obtain ⟨x9, ex9, h⟩ := ltE h
        rw [← ex9]
        refine RR.runs (pc' := 92) (lc' := [(4, .int ((v4 ||| ((1 : Int32) <<< (v5 &&& 31))))), (3, .int x9), (2, .int x8), (0, .ref 1), (1, .int v1), (5, .int v5), (6, .int v6)]) (st' := []) (S1 := S7) (nL := 7) (cd := cd_2217) mx_2217 rfl rfl 6 rfl ?_
        obtain ⟨x10, ex10, h⟩ := ltE h
        rw [← ex10]
        refine RR.weak [(0, .ref 1), (1, .int v1), (2, .int x8), (3, .int x9), (4, .int x10), (5, .int v5), (6, .int v6)] ⟨rfl, rfl, rfl, rfl, rfl, rfl, rfl, trivial⟩ ?_
        exact s_o_called_92 _ (fun _ _ _ _ _ _ S h => ih _ _ _ _ _ _ S h) _ _ _ _ _ _ _ h
    · refine RR.c_ge (fun q => absurd q c) (fun _ => ?_)
      refine RR.weak [(0, .ref 1), (1, .int v1), (2, .int v2), (3, .int v3), (4, .int v4), (5, .int v5)] ⟨rfl, rfl, rfl, rfl, rfl, rfl, trivial⟩ ?_
      exact s_o_called_98 _ b29 _ _ _ _ _ _ h
def o_called_138 (p0 : Int32) (S : St) : Re Int32 :=
  some (p0, S)
set_option maxRecDepth 100000 in
theorem s_o_called_138 {d : Nat} {S' : St} {r : Int32} (p0 : Int32) (S : St) (h : o_called_138 p0 S = some (r, S')) : RR KO (d + 5) 2217 138 [] [.int p0] S (some (.int r)) S' := by
  unfold o_called_138 at h
  cases h
  exact RR.reti mx_2217 rfl rfl rfl
def o_called_104 (v1 : Int32) (v2 : Int32) (v3 : Int32) (v4 : Int32) (S : St) : Re Int32 :=
  if v1 = 0 then (
    some (v2, S))
  else (
    if v2 = 0 then (
      some ((-1 : Int32), S))
    else (
      if v1 = (3 : Int32) then (
        bn (o_evenest v2 S) fun r1 S2 =>
        some (r1, S2))
      else (
        if v1 = (1 : Int32) then (
          o_called_138 v3 S)
        else (
          o_called_138 v4 S))))
set_option maxRecDepth 100000 in
theorem s_o_called_104 {d : Nat} {S' : St} {r : Int32} (v1 : Int32) (v2 : Int32) (v3 : Int32) (v4 : Int32) (S : St) (h : o_called_104 v1 v2 v3 v4 S = some (r, S')) : RR KO (d + 5) 2217 104 [(0, .ref 1), (1, .int v1), (2, .int v2), (3, .int v3), (4, .int v4)] [] S (some (.int r)) S' := by
  unfold o_called_104 at h
  refine RR.runs (pc' := icm .ne v1 0 110 108) (lc' := [(0, .ref 1), (1, .int v1), (2, .int v2), (3, .int v3), (4, .int v4)]) (st' := []) (S1 := S) (nL := 7) (cd := cd_2217) mx_2217 rfl rfl 2 rfl ?_
  rcases ifE h with ⟨c, h⟩ | ⟨c, h⟩
  · refine RR.c_ne (fun _ => ?_) (fun q => absurd c q)
    refine RR.runs (pc' := 109) (lc' := [(0, .ref 1), (1, .int v1), (2, .int v2), (3, .int v3), (4, .int v4)]) (st' := [.int v2]) (S1 := S) (nL := 7) (cd := cd_2217) mx_2217 rfl rfl 1 rfl ?_
    cases h
    exact RR.reti mx_2217 rfl rfl rfl
  · refine RR.c_ne (fun q => absurd q c) (fun _ => ?_)
    refine RR.runs (pc' := icm .ne v2 0 116 114) (lc' := [(0, .ref 1), (1, .int v1), (2, .int v2), (3, .int v3), (4, .int v4)]) (st' := []) (S1 := S) (nL := 7) (cd := cd_2217) mx_2217 rfl rfl 2 rfl ?_
    rcases ifE h with ⟨c, h⟩ | ⟨c, h⟩
    · refine RR.c_ne (fun _ => ?_) (fun q => absurd c q)
      refine RR.runs (pc' := 115) (lc' := [(0, .ref 1), (1, .int v1), (2, .int v2), (3, .int v3), (4, .int v4)]) (st' := [.int (-1 : Int32)]) (S1 := S) (nL := 7) (cd := cd_2217) mx_2217 rfl rfl 1 rfl ?_
      cases h
      exact RR.reti mx_2217 rfl rfl rfl
    · refine RR.c_ne (fun q => absurd q c) (fun _ => ?_)
      refine RR.runs (pc' := icm .ne v1 (3 : Int32) 127 121) (lc' := [(0, .ref 1), (1, .int v1), (2, .int v2), (3, .int v3), (4, .int v4)]) (st' := []) (S1 := S) (nL := 7) (cd := cd_2217) mx_2217 rfl rfl 3 rfl ?_
      rcases ifE h with ⟨c, h⟩ | ⟨c, h⟩
      · refine RR.c_ne (fun _ => ?_) (fun q => absurd c q)
        refine RR.runs (pc' := 123) (lc' := [(0, .ref 1), (1, .int v1), (2, .int v2), (3, .int v3), (4, .int v4)]) (st' := [.int v2, .ref 1]) (S1 := S) (nL := 7) (cd := cd_2217) mx_2217 rfl rfl 2 rfl ?_
        obtain ⟨r1, S2, h1, h⟩ := bnE h
        refine RR.callV (b := 1) (as := [.int v2]) (rest := []) (r1 := (some (.int r1))) (S1 := S2) mx_2217 rfl rfl mx_2231 rfl rfl (by decide) (Or.inl rfl) (Nat.le_of_ble_eq_true rfl) (Nat.le_of_ble_eq_true rfl) (RC.deep (by omega) (s_o_evenest (d := d) _ _ h1)) ?_
        show RR KO _ 2217 126 [(0, .ref 1), (1, .int v1), (2, .int v2), (3, .int v3), (4, .int v4)] [.int r1] S2 _ _
        cases h
        exact RR.reti mx_2217 rfl rfl rfl
      · refine RR.c_ne (fun q => absurd q c) (fun _ => ?_)
        refine RR.runs (pc' := icm .ne v1 (1 : Int32) 136 132) (lc' := [(0, .ref 1), (1, .int v1), (2, .int v2), (3, .int v3), (4, .int v4)]) (st' := []) (S1 := S) (nL := 7) (cd := cd_2217) mx_2217 rfl rfl 3 rfl ?_
        rcases ifE h with ⟨c, h⟩ | ⟨c, h⟩
        · refine RR.c_ne (fun _ => ?_) (fun q => absurd c q)
          refine RR.runs (pc' := 138) (lc' := [(0, .ref 1), (1, .int v1), (2, .int v2), (3, .int v3), (4, .int v4)]) (st' := [.int v3]) (S1 := S) (nL := 7) (cd := cd_2217) mx_2217 rfl rfl 2 rfl ?_
          refine RR.weak [] trivial ?_
          exact s_o_called_138 _ _ h
        · refine RR.c_ne (fun q => absurd q c) (fun _ => ?_)
          refine RR.runs (pc' := 138) (lc' := [(0, .ref 1), (1, .int v1), (2, .int v2), (3, .int v3), (4, .int v4)]) (st' := [.int v4]) (S1 := S) (nL := 7) (cd := cd_2217) mx_2217 rfl rfl 1 rfl ?_
          refine RR.weak [] trivial ?_
          exact s_o_called_138 _ _ h
def o_called_29 : Nat → Int32 → Int32 → Int32 → Int32 → Int32 → St → Re Int32
  | 0, _, _, _, _, _, _ => none
  | n + 1, v1, v2, v3, v4, v5, S =>
  oq (rQ S 1 9) none fun o1 =>
  if KO.1 o1 = (0, 10) then (
  if KO.1 (o1 + 82) = (0, 7) then (
bn (o_tb_size (o1 + 82) S) fun r4 S5 =>
  if v5 < r4 then (
    o_called_47 (o_called_29 n) FU v1 v2 v3 v4 v5 (0 : Int32) S5)
  else (
    o_called_104 v1 v2 v3 v4 S5)) else none) else none
set_option maxRecDepth 100000 in
theorem s_o_called_29 {d : Nat} {S' : St} {r : Int32} : ∀ (n : Nat) (v1 : Int32) (v2 : Int32) (v3 : Int32) (v4 : Int32) (v5 : Int32) (S : St), o_called_29 n v1 v2 v3 v4 v5 S = some (r, S') → RR KO (d + 5) 2217 29 [(0, .ref 1), (1, .int v1), (2, .int v2), (3, .int v3), (4, .int v4), (5, .int v5)] [] S (some (.int r)) S' := by
  intro n
  induction n with
  | zero => intro v1 v2 v3 v4 v5 S h; simp only [o_called_29] at h; cases h
  | succ n ih =>
    intro v1 v2 v3 v4 v5 S h
    simp only [o_called_29] at h
    refine RR.runs (pc' := 35) (lc' := [(0, .ref 1), (1, .int v1), (2, .int v2), (3, .int v3), (4, .int v4), (5, .int v5)]) (st' := [qv (rQ S 1 9), .int v5]) (S1 := S) (nL := 7) (cd := cd_2217) mx_2217 rfl rfl 3 rfl ?_
    rcases oqE h with ⟨e1, h⟩ | ⟨o1, eo1, h⟩
    · cases h
    rw [eo1]
    obtain ⟨g2, h⟩ := gpE h
    refine RR.gPo (pc' := 38) (lc' := [(0, .ref 1), (1, .int v1), (2, .int v2), (3, .int v3), (4, .int v4), (5, .int v5)]) (st' := [.ref (o1 + 82), .int v5]) (S1 := S) (nL := 7) (cd := cd_2217) mx_2217 rfl rfl rfl ⟨g2, by decide, by decide⟩ ?_
    obtain ⟨g3, h⟩ := gpE h
    obtain ⟨r4, S5, h1, h⟩ := bnE h
    refine RR.callV (b := (o1 + 82)) (as := []) (rest := [.int v5]) (r1 := (some (.int r4))) (S1 := S5) mx_2217 rfl rfl mx_1402 rfl rfl (by decide) (Or.inl g3) (Nat.le_of_ble_eq_true rfl) (Nat.le_of_ble_eq_true rfl) (RC.deep (by omega) (s_o_tb_size (d := d) _ _ h1)) ?_
    show RR KO _ 2217 41 [(0, .ref 1), (1, .int v1), (2, .int v2), (3, .int v3), (4, .int v4), (5, .int v5)] [.int r4, .int v5] S5 _ _
    refine RR.runs (pc' := icm .ge v5 r4 104 44) (lc' := [(0, .ref 1), (1, .int v1), (2, .int v2), (3, .int v3), (4, .int v4), (5, .int v5)]) (st' := []) (S1 := S5) (nL := 7) (cd := cd_2217) mx_2217 rfl rfl 1 rfl ?_
    rcases ifE h with ⟨c, h⟩ | ⟨c, h⟩
    · refine RR.c_ge (fun _ => ?_) (fun q => absurd c q)
      refine RR.runs (pc' := 47) (lc' := [(6, .int (0 : Int32)), (0, .ref 1), (1, .int v1), (2, .int v2), (3, .int v3), (4, .int v4), (5, .int v5)]) (st' := []) (S1 := S5) (nL := 7) (cd := cd_2217) mx_2217 rfl rfl 2 rfl ?_
      refine RR.weak [(0, .ref 1), (1, .int v1), (2, .int v2), (3, .int v3), (4, .int v4), (5, .int v5), (6, .int (0 : Int32))] ⟨rfl, rfl, rfl, rfl, rfl, rfl, rfl, trivial⟩ ?_
      exact s_o_called_47 _ (fun _ _ _ _ _ S h => ih _ _ _ _ _ S h) _ _ _ _ _ _ _ _ h
    · refine RR.c_ge (fun q => absurd q c) (fun _ => ?_)
      refine RR.weak [(0, .ref 1), (1, .int v1), (2, .int v2), (3, .int v3), (4, .int v4)] ⟨rfl, rfl, rfl, rfl, rfl, trivial⟩ ?_
      exact s_o_called_104 _ _ _ _ _ h
def o_called (v1 : Int32) (S : St) : Re Int32 :=
  if v1 < 0 then (
    o_called_9 S)
  else (
    if (3 : Int32) < v1 then (
      o_called_9 S)
    else (
      bn (o_j_fillI 17 (0 : Int32) S) fun r1 S2 =>
      o_called_29 FU v1 (0 : Int32) (0 : Int32) (0 : Int32) (0 : Int32) S2))
set_option maxRecDepth 100000 in
theorem s0_o_called {d : Nat} {S' : St} {r : Int32} (v1 : Int32) (S : St) (h : o_called v1 S = some (r, S')) : RR KO (d + 5) 2217 0 [(0, .ref 1), (1, .int v1)] [] S (some (.int r)) S' := by
  unfold o_called at h
  refine RR.runs (pc' := icm .lt v1 0 9 4) (lc' := [(0, .ref 1), (1, .int v1)]) (st' := []) (S1 := S) (nL := 7) (cd := cd_2217) mx_2217 rfl rfl 2 rfl ?_
  rcases ifE h with ⟨c, h⟩ | ⟨c, h⟩
  · refine RR.c_lt (fun _ => ?_) (fun q => absurd c q)
    refine RR.weak [] trivial ?_
    exact s_o_called_9 _ h
  · refine RR.c_lt (fun q => absurd q c) (fun _ => ?_)
    refine RR.runs (pc' := icm .le v1 (3 : Int32) 11 9) (lc' := [(0, .ref 1), (1, .int v1)]) (st' := []) (S1 := S) (nL := 7) (cd := cd_2217) mx_2217 rfl rfl 3 rfl ?_
    rcases ifE h with ⟨c, h⟩ | ⟨c, h⟩
    · refine RR.c_le (fun _ => ?_) (fun q => absurd c q)
      refine RR.weak [] trivial ?_
      exact s_o_called_9 _ h
    · refine RR.c_le (fun q => absurd q c) (fun _ => ?_)
      refine RR.runs (pc' := 16) (lc' := [(0, .ref 1), (1, .int v1)]) (st' := [.int (0 : Int32), .ref 17]) (S1 := S) (nL := 7) (cd := cd_2217) mx_2217 rfl rfl 3 rfl ?_
      obtain ⟨r1, S2, h1, h⟩ := bnE h
      refine RR.callS (as := [.ref 17, .int (0 : Int32)]) (rest := []) (r1 := none) (S1 := S2) mx_2217 rfl rfl mx_2801 rfl rfl (by decide) (Nat.le_of_ble_eq_true rfl) (Nat.le_of_ble_eq_true rfl) (Nat.le_of_ble_eq_true rfl) (RC.deep (by omega) (s_o_j_fillI (d := d) _ _ _ h1)) ?_
      show RR KO _ 2217 19 [(0, .ref 1), (1, .int v1)] [] S2 _ _
      refine RR.runs (pc' := 29) (lc' := [(5, .int (0 : Int32)), (4, .int (0 : Int32)), (3, .int (0 : Int32)), (2, .int (0 : Int32)), (0, .ref 1), (1, .int v1)]) (st' := []) (S1 := S2) (nL := 7) (cd := cd_2217) mx_2217 rfl rfl 8 rfl ?_
      refine RR.weak [(0, .ref 1), (1, .int v1), (2, .int (0 : Int32)), (3, .int (0 : Int32)), (4, .int (0 : Int32)), (5, .int (0 : Int32))] ⟨rfl, rfl, rfl, rfl, rfl, rfl, trivial⟩ ?_
      exact s_o_called_29 _ _ _ _ _ _ _ h
theorem s_o_called {d : Nat} {S' : St} {r : Int32} (v1 : Int32) (S : St) (h : o_called v1 S = some (r, S')) : RC KO (d + 5) 2217 [.ref 1, .int v1] S (some (.int r)) S' := RC.of rfl (s0_o_called v1 S h)
-- NameOrchard tell (IIZ)Z
def o_tell_35 (S : St) : Re Int32 :=
  some ((0 : Int32), S)
set_option maxRecDepth 100000 in
theorem s_o_tell_35 {d : Nat} {S' : St} {r : Int32} (S : St) (h : o_tell_35 S = some (r, S')) : RR KO (d + 3) 2218 35 [] [] S (some (.int r)) S' := by
  unfold o_tell_35 at h
  refine RR.runs (pc' := 36) (lc' := []) (st' := [.int (0 : Int32)]) (S1 := S) (nL := 5) (cd := cd_2218) mx_2218 rfl rfl 1 rfl ?_
  cases h
  exact RR.retz mx_2218 rfl rfl rfl rfl
def o_tell_118 (p0 : Int32) (p1 : Int32) (p2 : Int32) (S : St) : Re Int32 :=
  bn (o_tb_put 116 p2 p1 p0 S) fun r1 S2 =>
  some ((1 : Int32), S2)
set_option maxRecDepth 100000 in
theorem s_o_tell_118 {d : Nat} {S' : St} {r : Int32} (p0 : Int32) (p1 : Int32) (p2 : Int32) (S : St) (h : o_tell_118 p0 p1 p2 S = some (r, S')) : RR KO (d + 3) 2218 118 [] [.int p0, .int p1, .int p2, .ref 116] S (some (.int r)) S' := by
  unfold o_tell_118 at h
  obtain ⟨r1, S2, h1, h⟩ := bnE h
  refine RR.callV (b := 116) (as := [.int p2, .int p1, .int p0]) (rest := []) (r1 := none) (S1 := S2) mx_2218 rfl rfl mx_1406 rfl rfl (by decide) (Or.inl rfl) (Nat.le_of_ble_eq_true rfl) (Nat.le_of_ble_eq_true rfl) (RC.deep (by omega) (s_o_tb_put (d := d) _ _ _ _ _ h1)) ?_
  show RR KO _ 2218 121 [] [] S2 _ _
  refine RR.runs (pc' := 122) (lc' := []) (st' := [.int (1 : Int32)]) (S1 := S2) (nL := 5) (cd := cd_2218) mx_2218 rfl rfl 1 rfl ?_
  cases h
  exact RR.retz mx_2218 rfl rfl rfl rfl
def o_tell (v1 : Int32) (v2 : Int32) (v3 : Int32) (S : St) : Re Int32 :=
  oq (rQ S 1 9) none fun o1 =>
  if KO.1 o1 = (0, 10) then (
bn (o_to_hasSound o1 v1 S) fun r3 S4 =>
  if r3 = 0 then (
    o_tell_35 S4)
  else (
    oq (rQ S4 1 9) none fun o5 =>
    if KO.1 o5 = (0, 10) then (
bn (o_to_hasSound o5 v2 S4) fun r7 S8 =>
    if r7 = 0 then (
      o_tell_35 S8)
    else (
      bn (o_tb_full 116 S8) fun r9 S10 =>
      if r9 = 0 then (
        bn (o_tb_add 116 S10) fun r11 S12 =>
        oq (rQ S12 1 9) none fun o13 =>
        if KO.1 o13 = (0, 10) then (
        if KO.1 (o13 + 2) = (0, 2) then (
bn (o_na_edits (o13 + 2) v1 v2 S12) fun r16 S17 =>
        bn (o_tb_put 116 r11 (0 : Int32) r16 S17) fun r18 S19 =>
        oq (rQ S19 1 9) none fun o20 =>
        if KO.1 o20 = (0, 10) then (
        if KO.1 (o20 + 2) = (0, 2) then (
bn (o_na_rhyme (o20 + 2) v1 v2 S19) fun r23 S24 =>
        bn (o_tb_put 116 r11 (1 : Int32) r23 S24) fun r25 S26 =>
        if v3 = 0 then (
          o_tell_118 (0 : Int32) (2 : Int32) r11 S26)
        else (
          o_tell_118 (1 : Int32) (2 : Int32) r11 S26)) else none) else none) else none) else none)
      else (
        o_tell_35 S10))) else none)) else none
set_option maxRecDepth 100000 in
theorem s0_o_tell {d : Nat} {S' : St} {r : Int32} (v1 : Int32) (v2 : Int32) (v3 : Int32) (S : St) (h : o_tell v1 v2 v3 S = some (r, S')) : RR KO (d + 3) 2218 0 [(0, .ref 1), (1, .int v1), (2, .int v2), (3, .int v3)] [] S (some (.int r)) S' := by
  unfold o_tell at h
  refine RR.runs (pc' := 4) (lc' := [(0, .ref 1), (1, .int v1), (2, .int v2), (3, .int v3)]) (st' := [qv (rQ S 1 9)]) (S1 := S) (nL := 5) (cd := cd_2218) mx_2218 rfl rfl 2 rfl ?_
  rcases oqE h with ⟨e1, h⟩ | ⟨o1, eo1, h⟩
  · cases h
  rw [eo1]
  refine RR.runs (pc' := 5) (lc' := [(0, .ref 1), (1, .int v1), (2, .int v2), (3, .int v3)]) (st' := [.int v1, .ref o1]) (S1 := S) (nL := 5) (cd := cd_2218) mx_2218 rfl rfl 1 rfl ?_
  obtain ⟨g2, h⟩ := gpE h
  obtain ⟨r3, S4, h1, h⟩ := bnE h
  refine RR.callV (b := o1) (as := [.int v1]) (rest := []) (r1 := (some (.int r3))) (S1 := S4) mx_2218 rfl rfl mx_2006 rfl rfl (by decide) (Or.inl g2) (Nat.le_of_ble_eq_true rfl) (Nat.le_of_ble_eq_true rfl) (RC.deep (by omega) (s_o_to_hasSound (d := d) _ _ _ h1)) ?_
  show RR KO _ 2218 8 [(0, .ref 1), (1, .int v1), (2, .int v2), (3, .int v3)] [.int r3] S4 _ _
  refine RR.runs (pc' := icm .eq r3 0 35 11) (lc' := [(0, .ref 1), (1, .int v1), (2, .int v2), (3, .int v3)]) (st' := []) (S1 := S4) (nL := 5) (cd := cd_2218) mx_2218 rfl rfl 1 rfl ?_
  rcases ifE h with ⟨c, h⟩ | ⟨c, h⟩
  · refine RR.c_eq (fun _ => ?_) (fun q => absurd c q)
    refine RR.weak [] trivial ?_
    exact s_o_tell_35 _ h
  · refine RR.c_eq (fun q => absurd q c) (fun _ => ?_)
    refine RR.runs (pc' := 15) (lc' := [(0, .ref 1), (1, .int v1), (2, .int v2), (3, .int v3)]) (st' := [qv (rQ S4 1 9)]) (S1 := S4) (nL := 5) (cd := cd_2218) mx_2218 rfl rfl 2 rfl ?_
    rcases oqE h with ⟨e1, h⟩ | ⟨o5, eo5, h⟩
    · cases h
    rw [eo5]
    refine RR.runs (pc' := 16) (lc' := [(0, .ref 1), (1, .int v1), (2, .int v2), (3, .int v3)]) (st' := [.int v2, .ref o5]) (S1 := S4) (nL := 5) (cd := cd_2218) mx_2218 rfl rfl 1 rfl ?_
    obtain ⟨g6, h⟩ := gpE h
    obtain ⟨r7, S8, h1, h⟩ := bnE h
    refine RR.callV (b := o5) (as := [.int v2]) (rest := []) (r1 := (some (.int r7))) (S1 := S8) mx_2218 rfl rfl mx_2006 rfl rfl (by decide) (Or.inl g6) (Nat.le_of_ble_eq_true rfl) (Nat.le_of_ble_eq_true rfl) (RC.deep (by omega) (s_o_to_hasSound (d := d) _ _ _ h1)) ?_
    show RR KO _ 2218 19 [(0, .ref 1), (1, .int v1), (2, .int v2), (3, .int v3)] [.int r7] S8 _ _
    refine RR.runs (pc' := icm .eq r7 0 35 22) (lc' := [(0, .ref 1), (1, .int v1), (2, .int v2), (3, .int v3)]) (st' := []) (S1 := S8) (nL := 5) (cd := cd_2218) mx_2218 rfl rfl 1 rfl ?_
    rcases ifE h with ⟨c, h⟩ | ⟨c, h⟩
    · refine RR.c_eq (fun _ => ?_) (fun q => absurd c q)
      refine RR.weak [] trivial ?_
      exact s_o_tell_35 _ h
    · refine RR.c_eq (fun q => absurd q c) (fun _ => ?_)
      refine RR.runs (pc' := 29) (lc' := [(0, .ref 1), (1, .int v1), (2, .int v2), (3, .int v3)]) (st' := [.ref 116]) (S1 := S8) (nL := 5) (cd := cd_2218) mx_2218 rfl rfl 3 rfl ?_
      obtain ⟨r9, S10, h1, h⟩ := bnE h
      refine RR.callV (b := 116) (as := []) (rest := []) (r1 := (some (.int r9))) (S1 := S10) mx_2218 rfl rfl mx_1403 rfl rfl (by decide) (Or.inl rfl) (Nat.le_of_ble_eq_true rfl) (Nat.le_of_ble_eq_true rfl) (RC.deep (by omega) (s_o_tb_full (d := d) _ _ h1)) ?_
      show RR KO _ 2218 32 [(0, .ref 1), (1, .int v1), (2, .int v2), (3, .int v3)] [.int r9] S10 _ _
      refine RR.runs (pc' := icm .eq r9 0 37 35) (lc' := [(0, .ref 1), (1, .int v1), (2, .int v2), (3, .int v3)]) (st' := []) (S1 := S10) (nL := 5) (cd := cd_2218) mx_2218 rfl rfl 1 rfl ?_
      rcases ifE h with ⟨c, h⟩ | ⟨c, h⟩
      · refine RR.c_eq (fun _ => ?_) (fun q => absurd c q)
        refine RR.runs (pc' := 44) (lc' := [(0, .ref 1), (1, .int v1), (2, .int v2), (3, .int v3)]) (st' := [.ref 116]) (S1 := S10) (nL := 5) (cd := cd_2218) mx_2218 rfl rfl 3 rfl ?_
        obtain ⟨r11, S12, h1, h⟩ := bnE h
        refine RR.callV (b := 116) (as := []) (rest := []) (r1 := (some (.int r11))) (S1 := S12) mx_2218 rfl rfl mx_1407 rfl rfl (by decide) (Or.inl rfl) (Nat.le_of_ble_eq_true rfl) (Nat.le_of_ble_eq_true rfl) (RC.deep (by omega) (s_o_tb_add (d := d) _ _ h1)) ?_
        show RR KO _ 2218 47 [(0, .ref 1), (1, .int v1), (2, .int v2), (3, .int v3)] [.int r11] S12 _ _
        refine RR.runs (pc' := 63) (lc' := [(4, .int r11), (0, .ref 1), (1, .int v1), (2, .int v2), (3, .int v3)]) (st' := [qv (rQ S12 1 9), .int (0 : Int32), .int r11, .ref 116]) (S1 := S12) (nL := 5) (cd := cd_2218) mx_2218 rfl rfl 8 rfl ?_
        rcases oqE h with ⟨e1, h⟩ | ⟨o13, eo13, h⟩
        · cases h
        rw [eo13]
        obtain ⟨g14, h⟩ := gpE h
        refine RR.gPo (pc' := 66) (lc' := [(4, .int r11), (0, .ref 1), (1, .int v1), (2, .int v2), (3, .int v3)]) (st' := [.ref (o13 + 2), .int (0 : Int32), .int r11, .ref 116]) (S1 := S12) (nL := 5) (cd := cd_2218) mx_2218 rfl rfl rfl ⟨g14, by decide, by decide⟩ ?_
        refine RR.runs (pc' := 68) (lc' := [(4, .int r11), (0, .ref 1), (1, .int v1), (2, .int v2), (3, .int v3)]) (st' := [.int v2, .int v1, .ref (o13 + 2), .int (0 : Int32), .int r11, .ref 116]) (S1 := S12) (nL := 5) (cd := cd_2218) mx_2218 rfl rfl 2 rfl ?_
        obtain ⟨g15, h⟩ := gpE h
        obtain ⟨r16, S17, h1, h⟩ := bnE h
        refine RR.callV (b := (o13 + 2)) (as := [.int v1, .int v2]) (rest := [.int (0 : Int32), .int r11, .ref 116]) (r1 := (some (.int r16))) (S1 := S17) mx_2218 rfl rfl mx_412 rfl rfl (by decide) (Or.inl g15) (Nat.le_of_ble_eq_true rfl) (Nat.le_of_ble_eq_true rfl) (RC.deep (by omega) (s_o_na_edits (d := d) _ _ _ _ h1)) ?_
        show RR KO _ 2218 71 [(4, .int r11), (0, .ref 1), (1, .int v1), (2, .int v2), (3, .int v3)] [.int r16, .int (0 : Int32), .int r11, .ref 116] S17 _ _
        obtain ⟨r18, S19, h1, h⟩ := bnE h
        refine RR.callV (b := 116) (as := [.int r11, .int (0 : Int32), .int r16]) (rest := []) (r1 := none) (S1 := S19) mx_2218 rfl rfl mx_1406 rfl rfl (by decide) (Or.inl rfl) (Nat.le_of_ble_eq_true rfl) (Nat.le_of_ble_eq_true rfl) (RC.deep (by omega) (s_o_tb_put (d := d) _ _ _ _ _ h1)) ?_
        show RR KO _ 2218 74 [(4, .int r11), (0, .ref 1), (1, .int v1), (2, .int v2), (3, .int v3)] [] S19 _ _
        refine RR.runs (pc' := 88) (lc' := [(4, .int r11), (0, .ref 1), (1, .int v1), (2, .int v2), (3, .int v3)]) (st' := [qv (rQ S19 1 9), .int (1 : Int32), .int r11, .ref 116]) (S1 := S19) (nL := 5) (cd := cd_2218) mx_2218 rfl rfl 7 rfl ?_
        rcases oqE h with ⟨e1, h⟩ | ⟨o20, eo20, h⟩
        · cases h
        rw [eo20]
        obtain ⟨g21, h⟩ := gpE h
        refine RR.gPo (pc' := 91) (lc' := [(4, .int r11), (0, .ref 1), (1, .int v1), (2, .int v2), (3, .int v3)]) (st' := [.ref (o20 + 2), .int (1 : Int32), .int r11, .ref 116]) (S1 := S19) (nL := 5) (cd := cd_2218) mx_2218 rfl rfl rfl ⟨g21, by decide, by decide⟩ ?_
        refine RR.runs (pc' := 93) (lc' := [(4, .int r11), (0, .ref 1), (1, .int v1), (2, .int v2), (3, .int v3)]) (st' := [.int v2, .int v1, .ref (o20 + 2), .int (1 : Int32), .int r11, .ref 116]) (S1 := S19) (nL := 5) (cd := cd_2218) mx_2218 rfl rfl 2 rfl ?_
        obtain ⟨g22, h⟩ := gpE h
        obtain ⟨r23, S24, h1, h⟩ := bnE h
        refine RR.callV (b := (o20 + 2)) (as := [.int v1, .int v2]) (rest := [.int (1 : Int32), .int r11, .ref 116]) (r1 := (some (.int r23))) (S1 := S24) mx_2218 rfl rfl mx_411 rfl rfl (by decide) (Or.inl g22) (Nat.le_of_ble_eq_true rfl) (Nat.le_of_ble_eq_true rfl) (RC.deep (by omega) (s_o_na_rhyme (d := d) _ _ _ _ h1)) ?_
        show RR KO _ 2218 96 [(4, .int r11), (0, .ref 1), (1, .int v1), (2, .int v2), (3, .int v3)] [.int r23, .int (1 : Int32), .int r11, .ref 116] S24 _ _
        obtain ⟨r25, S26, h1, h⟩ := bnE h
        refine RR.callV (b := 116) (as := [.int r11, .int (1 : Int32), .int r23]) (rest := []) (r1 := none) (S1 := S26) mx_2218 rfl rfl mx_1406 rfl rfl (by decide) (Or.inl rfl) (Nat.le_of_ble_eq_true rfl) (Nat.le_of_ble_eq_true rfl) (RC.deep (by omega) (s_o_tb_put (d := d) _ _ _ _ _ h1)) ?_
        show RR KO _ 2218 99 [(4, .int r11), (0, .ref 1), (1, .int v1), (2, .int v2), (3, .int v3)] [] S26 _ _
        refine RR.runs (pc' := icm .eq v3 0 117 113) (lc' := [(4, .int r11), (0, .ref 1), (1, .int v1), (2, .int v2), (3, .int v3)]) (st' := [.int (2 : Int32), .int r11, .ref 116]) (S1 := S26) (nL := 5) (cd := cd_2218) mx_2218 rfl rfl 7 rfl ?_
        rcases ifE h with ⟨c, h⟩ | ⟨c, h⟩
        · refine RR.c_eq (fun _ => ?_) (fun q => absurd c q)
          refine RR.runs (pc' := 118) (lc' := [(4, .int r11), (0, .ref 1), (1, .int v1), (2, .int v2), (3, .int v3)]) (st' := [.int (0 : Int32), .int (2 : Int32), .int r11, .ref 116]) (S1 := S26) (nL := 5) (cd := cd_2218) mx_2218 rfl rfl 1 rfl ?_
          refine RR.weak [] trivial ?_
          exact s_o_tell_118 _ _ _ _ h
        · refine RR.c_eq (fun q => absurd q c) (fun _ => ?_)
          refine RR.runs (pc' := 118) (lc' := [(4, .int r11), (0, .ref 1), (1, .int v1), (2, .int v2), (3, .int v3)]) (st' := [.int (1 : Int32), .int (2 : Int32), .int r11, .ref 116]) (S1 := S26) (nL := 5) (cd := cd_2218) mx_2218 rfl rfl 2 rfl ?_
          refine RR.weak [] trivial ?_
          exact s_o_tell_118 _ _ _ _ h
      · refine RR.c_eq (fun q => absurd q c) (fun _ => ?_)
        refine RR.weak [] trivial ?_
        exact s_o_tell_35 _ h
theorem s_o_tell {d : Nat} {S' : St} {r : Int32} (v1 : Int32) (v2 : Int32) (v3 : Int32) (S : St) (h : o_tell v1 v2 v3 S = some (r, S')) : RC KO (d + 3) 2218 [.ref 1, .int v1, .int v2, .int v3] S (some (.int r)) S' := RC.of rfl (s0_o_tell v1 v2 v3 S h)
-- NameOrchard fits (II)Z
def o_fits_81 (S : St) : Re Int32 :=
  some ((0 : Int32), S)
set_option maxRecDepth 100000 in
theorem s_o_fits_81 {d : Nat} {S' : St} {r : Int32} (S : St) (h : o_fits_81 S = some (r, S')) : RR KO (d + 2) 2232 81 [] [] S (some (.int r)) S' := by
  unfold o_fits_81 at h
  refine RR.runs (pc' := 82) (lc' := []) (st' := [.int (0 : Int32)]) (S1 := S) (nL := 5) (cd := cd_2232) mx_2232 rfl rfl 1 rfl ?_
  cases h
  exact RR.retz mx_2232 rfl rfl rfl rfl
def o_fits_78 (k2 : Int32 → Int32 → Int32 → St → Re Int32) (v1 : Int32) (v2 : Int32) (v3 : Int32) (p0 : Int32) (p1 : Int32) (S : St) : Re Int32 :=
  if p1 = p0 then (
    lt' ((v3 + (1 : Int32)) : Int32) fun x1 =>
    k2 v1 v2 x1 S)
  else (
    o_fits_81 S)
set_option maxRecDepth 100000 in
theorem s_o_fits_78 {d : Nat} (k2 : Int32 → Int32 → Int32 → St → Re Int32) {S' : St} {r : Int32} (b2 : ∀ (v1 : Int32) (v2 : Int32) (v3 : Int32) (S : St), k2 v1 v2 v3 S = some (r, S') → RR KO (d + 2) 2232 2 [(0, .ref 1), (1, .int v1), (2, .int v2), (3, .int v3)] [] S (some (.int r)) S') (v1 : Int32) (v2 : Int32) (v3 : Int32) (p0 : Int32) (p1 : Int32) (S : St) (h : o_fits_78 k2 v1 v2 v3 p0 p1 S = some (r, S')) : RR KO (d + 2) 2232 78 [(0, .ref 1), (1, .int v1), (2, .int v2), (3, .int v3)] [.int p0, .int p1] S (some (.int r)) S' := by
  unfold o_fits_78 at h
  refine RR.runs (pc' := icm .eq p1 p0 83 81) (lc' := [(0, .ref 1), (1, .int v1), (2, .int v2), (3, .int v3)]) (st' := []) (S1 := S) (nL := 5) (cd := cd_2232) mx_2232 rfl rfl 1 rfl ?_
  rcases ifE h with ⟨c, h⟩ | ⟨c, h⟩
  · refine RR.c_eq (fun _ => ?_) (fun q => absurd c q)
    refine RR.runs (pc' := 86) (lc' := [(3, .int ((v3 + (1 : Int32)))), (0, .ref 1), (1, .int v1), (2, .int v2)]) (st' := []) (S1 := S) (nL := 5) (cd := cd_2232) mx_2232 rfl rfl 1 rfl ?_
    obtain ⟨x1, ex1, h⟩ := ltE h
    rw [← ex1]
    refine RR.runs (pc' := 2) (lc' := [(3, .int x1), (0, .ref 1), (1, .int v1), (2, .int v2)]) (st' := []) (S1 := S) (nL := 5) (cd := cd_2232) mx_2232 rfl rfl 1 rfl ?_
    refine RR.weak [(0, .ref 1), (1, .int v1), (2, .int v2), (3, .int x1)] ⟨rfl, rfl, rfl, rfl, trivial⟩ ?_
    exact b2 _ _ _ _ h
  · refine RR.c_eq (fun q => absurd q c) (fun _ => ?_)
    refine RR.weak [] trivial ?_
    exact s_o_fits_81 _ h
def o_fits_53 (k2 : Int32 → Int32 → Int32 → St → Re Int32) (v1 : Int32) (v2 : Int32) (v3 : Int32) (p0 : Int32) (S : St) : Re Int32 :=
  bn (o_tb_at 116 v3 (2 : Int32) S) fun r1 S2 =>
  if r1 = (1 : Int32) then (
    o_fits_78 k2 v1 v2 v3 (1 : Int32) p0 S2)
  else (
    o_fits_78 k2 v1 v2 v3 (0 : Int32) p0 S2)
set_option maxRecDepth 100000 in
theorem s_o_fits_53 {d : Nat} (k2 : Int32 → Int32 → Int32 → St → Re Int32) {S' : St} {r : Int32} (b2 : ∀ (v1 : Int32) (v2 : Int32) (v3 : Int32) (S : St), k2 v1 v2 v3 S = some (r, S') → RR KO (d + 2) 2232 2 [(0, .ref 1), (1, .int v1), (2, .int v2), (3, .int v3)] [] S (some (.int r)) S') (v1 : Int32) (v2 : Int32) (v3 : Int32) (p0 : Int32) (S : St) (h : o_fits_53 k2 v1 v2 v3 p0 S = some (r, S')) : RR KO (d + 2) 2232 53 [(0, .ref 1), (1, .int v1), (2, .int v2), (3, .int v3)] [.int p0] S (some (.int r)) S' := by
  unfold o_fits_53 at h
  refine RR.runs (pc' := 66) (lc' := [(4, .int p0), (0, .ref 1), (1, .int v1), (2, .int v2), (3, .int v3)]) (st' := [.int (2 : Int32), .int v3, .ref 116, .int p0]) (S1 := S) (nL := 5) (cd := cd_2232) mx_2232 rfl rfl 7 rfl ?_
  obtain ⟨r1, S2, h1, h⟩ := bnE h
  refine RR.callV (b := 116) (as := [.int v3, .int (2 : Int32)]) (rest := [.int p0]) (r1 := (some (.int r1))) (S1 := S2) mx_2232 rfl rfl mx_1405 rfl rfl (by decide) (Or.inl rfl) (Nat.le_of_ble_eq_true rfl) (Nat.le_of_ble_eq_true rfl) (RC.deep (by omega) (s_o_tb_at (d := d) _ _ _ _ h1)) ?_
  show RR KO _ 2232 69 [(4, .int p0), (0, .ref 1), (1, .int v1), (2, .int v2), (3, .int v3)] [.int r1, .int p0] S2 _ _
  refine RR.runs (pc' := icm .ne r1 (1 : Int32) 77 73) (lc' := [(4, .int p0), (0, .ref 1), (1, .int v1), (2, .int v2), (3, .int v3)]) (st' := [.int p0]) (S1 := S2) (nL := 5) (cd := cd_2232) mx_2232 rfl rfl 2 rfl ?_
  rcases ifE h with ⟨c, h⟩ | ⟨c, h⟩
  · refine RR.c_ne (fun _ => ?_) (fun q => absurd c q)
    refine RR.runs (pc' := 78) (lc' := [(4, .int p0), (0, .ref 1), (1, .int v1), (2, .int v2), (3, .int v3)]) (st' := [.int (1 : Int32), .int p0]) (S1 := S2) (nL := 5) (cd := cd_2232) mx_2232 rfl rfl 2 rfl ?_
    refine RR.weak [(0, .ref 1), (1, .int v1), (2, .int v2), (3, .int v3)] ⟨rfl, rfl, rfl, rfl, trivial⟩ ?_
    exact s_o_fits_78 _ b2 _ _ _ _ _ _ h
  · refine RR.c_ne (fun q => absurd q c) (fun _ => ?_)
    refine RR.runs (pc' := 78) (lc' := [(4, .int p0), (0, .ref 1), (1, .int v1), (2, .int v2), (3, .int v3)]) (st' := [.int (0 : Int32), .int p0]) (S1 := S2) (nL := 5) (cd := cd_2232) mx_2232 rfl rfl 1 rfl ?_
    refine RR.weak [(0, .ref 1), (1, .int v1), (2, .int v2), (3, .int v3)] ⟨rfl, rfl, rfl, rfl, trivial⟩ ?_
    exact s_o_fits_78 _ b2 _ _ _ _ _ _ h
def o_fits_48 (k2 : Int32 → Int32 → Int32 → St → Re Int32) (v1 : Int32) (v2 : Int32) (v3 : Int32) (S : St) : Re Int32 :=
  o_fits_53 k2 v1 v2 v3 (1 : Int32) S
set_option maxRecDepth 100000 in
theorem s_o_fits_48 {d : Nat} (k2 : Int32 → Int32 → Int32 → St → Re Int32) {S' : St} {r : Int32} (b2 : ∀ (v1 : Int32) (v2 : Int32) (v3 : Int32) (S : St), k2 v1 v2 v3 S = some (r, S') → RR KO (d + 2) 2232 2 [(0, .ref 1), (1, .int v1), (2, .int v2), (3, .int v3)] [] S (some (.int r)) S') (v1 : Int32) (v2 : Int32) (v3 : Int32) (S : St) (h : o_fits_48 k2 v1 v2 v3 S = some (r, S')) : RR KO (d + 2) 2232 48 [(0, .ref 1), (1, .int v1), (2, .int v2), (3, .int v3)] [] S (some (.int r)) S' := by
  unfold o_fits_48 at h
  refine RR.runs (pc' := 53) (lc' := [(0, .ref 1), (1, .int v1), (2, .int v2), (3, .int v3)]) (st' := [.int (1 : Int32)]) (S1 := S) (nL := 5) (cd := cd_2232) mx_2232 rfl rfl 2 rfl ?_
  refine RR.weak [(0, .ref 1), (1, .int v1), (2, .int v2), (3, .int v3)] ⟨rfl, rfl, rfl, rfl, trivial⟩ ?_
  exact s_o_fits_53 _ b2 _ _ _ _ _ h
def o_fits_89 (S : St) : Re Int32 :=
  some ((1 : Int32), S)
set_option maxRecDepth 100000 in
theorem s_o_fits_89 {d : Nat} {S' : St} {r : Int32} (S : St) (h : o_fits_89 S = some (r, S')) : RR KO (d + 2) 2232 89 [] [] S (some (.int r)) S' := by
  unfold o_fits_89 at h
  refine RR.runs (pc' := 90) (lc' := []) (st' := [.int (1 : Int32)]) (S1 := S) (nL := 5) (cd := cd_2232) mx_2232 rfl rfl 1 rfl ?_
  cases h
  exact RR.retz mx_2232 rfl rfl rfl rfl
def o_fits_2 : Nat → Int32 → Int32 → Int32 → St → Re Int32
  | 0, _, _, _, _ => none
  | n + 1, v1, v2, v3, S =>
  bn (o_tb_size 116 S) fun r1 S2 =>
  if v3 < r1 then (
    bn (o_tb_at 116 v3 (0 : Int32) S2) fun r3 S4 =>
    if v1 < r3 then (
      bn (o_tb_at 116 v3 (1 : Int32) S4) fun r5 S6 =>
      if r5 < v2 then (
        o_fits_53 (o_fits_2 n) v1 v2 v3 (0 : Int32) S6)
      else (
        o_fits_48 (o_fits_2 n) v1 v2 v3 S6))
    else (
      o_fits_48 (o_fits_2 n) v1 v2 v3 S4))
  else (
    o_fits_89 S2)
set_option maxRecDepth 100000 in
theorem s_o_fits_2 {d : Nat} {S' : St} {r : Int32} : ∀ (n : Nat) (v1 : Int32) (v2 : Int32) (v3 : Int32) (S : St), o_fits_2 n v1 v2 v3 S = some (r, S') → RR KO (d + 2) 2232 2 [(0, .ref 1), (1, .int v1), (2, .int v2), (3, .int v3)] [] S (some (.int r)) S' := by
  intro n
  induction n with
  | zero => intro v1 v2 v3 S h; simp only [o_fits_2] at h; cases h
  | succ n ih =>
    intro v1 v2 v3 S h
    simp only [o_fits_2] at h
    refine RR.runs (pc' := 10) (lc' := [(0, .ref 1), (1, .int v1), (2, .int v2), (3, .int v3)]) (st' := [.ref 116, .int v3]) (S1 := S) (nL := 5) (cd := cd_2232) mx_2232 rfl rfl 4 rfl ?_
    obtain ⟨r1, S2, h1, h⟩ := bnE h
    refine RR.callV (b := 116) (as := []) (rest := [.int v3]) (r1 := (some (.int r1))) (S1 := S2) mx_2232 rfl rfl mx_1402 rfl rfl (by decide) (Or.inl rfl) (Nat.le_of_ble_eq_true rfl) (Nat.le_of_ble_eq_true rfl) (RC.deep (by omega) (s_o_tb_size (d := d) _ _ h1)) ?_
    show RR KO _ 2232 13 [(0, .ref 1), (1, .int v1), (2, .int v2), (3, .int v3)] [.int r1, .int v3] S2 _ _
    refine RR.runs (pc' := icm .ge v3 r1 89 16) (lc' := [(0, .ref 1), (1, .int v1), (2, .int v2), (3, .int v3)]) (st' := []) (S1 := S2) (nL := 5) (cd := cd_2232) mx_2232 rfl rfl 1 rfl ?_
    rcases ifE h with ⟨c, h⟩ | ⟨c, h⟩
    · refine RR.c_ge (fun _ => ?_) (fun q => absurd c q)
      refine RR.runs (pc' := 25) (lc' := [(0, .ref 1), (1, .int v1), (2, .int v2), (3, .int v3)]) (st' := [.int (0 : Int32), .int v3, .ref 116]) (S1 := S2) (nL := 5) (cd := cd_2232) mx_2232 rfl rfl 5 rfl ?_
      obtain ⟨r3, S4, h1, h⟩ := bnE h
      refine RR.callV (b := 116) (as := [.int v3, .int (0 : Int32)]) (rest := []) (r1 := (some (.int r3))) (S1 := S4) mx_2232 rfl rfl mx_1405 rfl rfl (by decide) (Or.inl rfl) (Nat.le_of_ble_eq_true rfl) (Nat.le_of_ble_eq_true rfl) (RC.deep (by omega) (s_o_tb_at (d := d) _ _ _ _ h1)) ?_
      show RR KO _ 2232 28 [(0, .ref 1), (1, .int v1), (2, .int v2), (3, .int v3)] [.int r3] S4 _ _
      refine RR.runs (pc' := icm .le r3 v1 48 32) (lc' := [(0, .ref 1), (1, .int v1), (2, .int v2), (3, .int v3)]) (st' := []) (S1 := S4) (nL := 5) (cd := cd_2232) mx_2232 rfl rfl 2 rfl ?_
      rcases ifE h with ⟨c, h⟩ | ⟨c, h⟩
      · refine RR.c_le (fun _ => ?_) (fun q => absurd c q)
        refine RR.runs (pc' := 41) (lc' := [(0, .ref 1), (1, .int v1), (2, .int v2), (3, .int v3)]) (st' := [.int (1 : Int32), .int v3, .ref 116]) (S1 := S4) (nL := 5) (cd := cd_2232) mx_2232 rfl rfl 5 rfl ?_
        obtain ⟨r5, S6, h1, h⟩ := bnE h
        refine RR.callV (b := 116) (as := [.int v3, .int (1 : Int32)]) (rest := []) (r1 := (some (.int r5))) (S1 := S6) mx_2232 rfl rfl mx_1405 rfl rfl (by decide) (Or.inl rfl) (Nat.le_of_ble_eq_true rfl) (Nat.le_of_ble_eq_true rfl) (RC.deep (by omega) (s_o_tb_at (d := d) _ _ _ _ h1)) ?_
        show RR KO _ 2232 44 [(0, .ref 1), (1, .int v1), (2, .int v2), (3, .int v3)] [.int r5] S6 _ _
        refine RR.runs (pc' := icm .lt r5 v2 52 48) (lc' := [(0, .ref 1), (1, .int v1), (2, .int v2), (3, .int v3)]) (st' := []) (S1 := S6) (nL := 5) (cd := cd_2232) mx_2232 rfl rfl 2 rfl ?_
        rcases ifE h with ⟨c, h⟩ | ⟨c, h⟩
        · refine RR.c_lt (fun _ => ?_) (fun q => absurd c q)
          refine RR.runs (pc' := 53) (lc' := [(0, .ref 1), (1, .int v1), (2, .int v2), (3, .int v3)]) (st' := [.int (0 : Int32)]) (S1 := S6) (nL := 5) (cd := cd_2232) mx_2232 rfl rfl 1 rfl ?_
          refine RR.weak [(0, .ref 1), (1, .int v1), (2, .int v2), (3, .int v3)] ⟨rfl, rfl, rfl, rfl, trivial⟩ ?_
          exact s_o_fits_53 _ (fun _ _ _ S h => ih _ _ _ S h) _ _ _ _ _ h
        · refine RR.c_lt (fun q => absurd q c) (fun _ => ?_)
          refine RR.weak [(0, .ref 1), (1, .int v1), (2, .int v2), (3, .int v3)] ⟨rfl, rfl, rfl, rfl, trivial⟩ ?_
          exact s_o_fits_48 _ (fun _ _ _ S h => ih _ _ _ S h) _ _ _ _ h
      · refine RR.c_le (fun q => absurd q c) (fun _ => ?_)
        refine RR.weak [(0, .ref 1), (1, .int v1), (2, .int v2), (3, .int v3)] ⟨rfl, rfl, rfl, rfl, trivial⟩ ?_
        exact s_o_fits_48 _ (fun _ _ _ S h => ih _ _ _ S h) _ _ _ _ h
    · refine RR.c_ge (fun q => absurd q c) (fun _ => ?_)
      refine RR.weak [] trivial ?_
      exact s_o_fits_89 _ h
def o_fits (v1 : Int32) (v2 : Int32) (S : St) : Re Int32 :=
  o_fits_2 FU v1 v2 (0 : Int32) S
set_option maxRecDepth 100000 in
theorem s0_o_fits {d : Nat} {S' : St} {r : Int32} (v1 : Int32) (v2 : Int32) (S : St) (h : o_fits v1 v2 S = some (r, S')) : RR KO (d + 2) 2232 0 [(0, .ref 1), (1, .int v1), (2, .int v2)] [] S (some (.int r)) S' := by
  unfold o_fits at h
  refine RR.runs (pc' := 2) (lc' := [(3, .int (0 : Int32)), (0, .ref 1), (1, .int v1), (2, .int v2)]) (st' := []) (S1 := S) (nL := 5) (cd := cd_2232) mx_2232 rfl rfl 2 rfl ?_
  refine RR.weak [(0, .ref 1), (1, .int v1), (2, .int v2), (3, .int (0 : Int32))] ⟨rfl, rfl, rfl, rfl, trivial⟩ ?_
  exact s_o_fits_2 _ _ _ _ _ h
theorem s_o_fits {d : Nat} {S' : St} {r : Int32} (v1 : Int32) (v2 : Int32) (S : St) (h : o_fits v1 v2 S = some (r, S')) : RC KO (d + 2) 2232 [.ref 1, .int v1, .int v2] S (some (.int r)) S' := RC.of rfl (s0_o_fits v1 v2 S h)
-- NameOrchard laws (I)I
def o_laws_76 (v1 : Int32) (v2 : Int32) (v3 : Int32) (v4 : Int32) (S : St) : Re Int32 :=
  if v1.toInt = 0 then (
    some (v2, S)) else (
  if v1.toInt = 1 then (
    some (v3, S)) else (
  if v1.toInt = 2 then (
    some (v4, S)) else (
    some ((-1 : Int32), S))))
set_option maxRecDepth 100000 in
theorem s_o_laws_76 {d : Nat} {S' : St} {r : Int32} (v1 : Int32) (v2 : Int32) (v3 : Int32) (v4 : Int32) (S : St) (h : o_laws_76 v1 v2 v3 v4 S = some (r, S')) : RR KO (d + 3) 2219 76 [(1, .int v1), (2, .int v2), (3, .int v3), (4, .int v4)] [] S (some (.int r)) S' := by
  unfold o_laws_76 at h
  refine RR.runs (pc' := swt v1 77 34 0 [27, 29, 31]) (lc' := [(1, .int v1), (2, .int v2), (3, .int v3), (4, .int v4)]) (st' := []) (S1 := S) (nL := 7) (cd := cd_2219) mx_2219 rfl rfl 2 rfl ?_
  rcases ifE h with ⟨c, h⟩ | ⟨c, h⟩
  · refine RR.sw 104 rfl (fun _ => ?_) (fun q => absurd c q)
    refine RR.runs (pc' := 105) (lc' := [(1, .int v1), (2, .int v2), (3, .int v3), (4, .int v4)]) (st' := [.int v2]) (S1 := S) (nL := 7) (cd := cd_2219) mx_2219 rfl rfl 1 rfl ?_
    cases h
    exact RR.reti mx_2219 rfl rfl rfl
  refine RR.sw 104 rfl (fun q => absurd q c) (fun _ => ?_)
  rcases ifE h with ⟨c, h⟩ | ⟨c, h⟩
  · refine RR.sw 106 rfl (fun _ => ?_) (fun q => absurd c q)
    refine RR.runs (pc' := 107) (lc' := [(1, .int v1), (2, .int v2), (3, .int v3), (4, .int v4)]) (st' := [.int v3]) (S1 := S) (nL := 7) (cd := cd_2219) mx_2219 rfl rfl 1 rfl ?_
    cases h
    exact RR.reti mx_2219 rfl rfl rfl
  refine RR.sw 106 rfl (fun q => absurd q c) (fun _ => ?_)
  rcases ifE h with ⟨c, h⟩ | ⟨c, h⟩
  · refine RR.sw 108 rfl (fun _ => ?_) (fun q => absurd c q)
    refine RR.runs (pc' := 110) (lc' := [(1, .int v1), (2, .int v2), (3, .int v3), (4, .int v4)]) (st' := [.int v4]) (S1 := S) (nL := 7) (cd := cd_2219) mx_2219 rfl rfl 1 rfl ?_
    cases h
    exact RR.reti mx_2219 rfl rfl rfl
  refine RR.sw 108 rfl (fun q => absurd q c) (fun _ => ?_)
  refine RR.sw0 111 rfl ?_
  refine RR.runs (pc' := 112) (lc' := [(1, .int v1), (2, .int v2), (3, .int v3), (4, .int v4)]) (st' := [.int (-1 : Int32)]) (S1 := S) (nL := 7) (cd := cd_2219) mx_2219 rfl rfl 1 rfl ?_
  cases h
  exact RR.reti mx_2219 rfl rfl rfl
def o_laws_70 (k10 : Int32 → Int32 → Int32 → Int32 → Int32 → St → Re Int32) (v1 : Int32) (v2 : Int32) (v3 : Int32) (v4 : Int32) (v5 : Int32) (S : St) : Re Int32 :=
  lt' ((v5 + (1 : Int32)) : Int32) fun x1 =>
  k10 v1 v2 v3 v4 x1 S
set_option maxRecDepth 100000 in
theorem s_o_laws_70 {d : Nat} (k10 : Int32 → Int32 → Int32 → Int32 → Int32 → St → Re Int32) {S' : St} {r : Int32} (b10 : ∀ (v1 : Int32) (v2 : Int32) (v3 : Int32) (v4 : Int32) (v5 : Int32) (S : St), k10 v1 v2 v3 v4 v5 S = some (r, S') → RR KO (d + 3) 2219 10 [(0, .ref 1), (1, .int v1), (2, .int v2), (3, .int v3), (4, .int v4), (5, .int v5)] [] S (some (.int r)) S') (v1 : Int32) (v2 : Int32) (v3 : Int32) (v4 : Int32) (v5 : Int32) (S : St) (h : o_laws_70 k10 v1 v2 v3 v4 v5 S = some (r, S')) : RR KO (d + 3) 2219 70 [(0, .ref 1), (1, .int v1), (2, .int v2), (3, .int v3), (4, .int v4), (5, .int v5)] [] S (some (.int r)) S' := by
  unfold o_laws_70 at h
  refine RR.runs (pc' := 73) (lc' := [(5, .int ((v5 + (1 : Int32)))), (0, .ref 1), (1, .int v1), (2, .int v2), (3, .int v3), (4, .int v4)]) (st' := []) (S1 := S) (nL := 7) (cd := cd_2219) mx_2219 rfl rfl 1 rfl ?_
  obtain ⟨x1, ex1, h⟩ := ltE h
  rw [← ex1]
  refine RR.runs (pc' := 10) (lc' := [(5, .int x1), (0, .ref 1), (1, .int v1), (2, .int v2), (3, .int v3), (4, .int v4)]) (st' := []) (S1 := S) (nL := 7) (cd := cd_2219) mx_2219 rfl rfl 1 rfl ?_
  refine RR.weak [(0, .ref 1), (1, .int v1), (2, .int v2), (3, .int v3), (4, .int v4), (5, .int x1)] ⟨rfl, rfl, rfl, rfl, rfl, rfl, trivial⟩ ?_
  exact b10 _ _ _ _ _ _ h
def o_laws_64 (k20 : Int32 → Int32 → Int32 → Int32 → Int32 → Int32 → St → Re Int32) (v1 : Int32) (v2 : Int32) (v3 : Int32) (v4 : Int32) (v5 : Int32) (v6 : Int32) (S : St) : Re Int32 :=
  lt' ((v6 + (-1 : Int32)) : Int32) fun x1 =>
  k20 v1 v2 v3 v4 v5 x1 S
set_option maxRecDepth 100000 in
theorem s_o_laws_64 {d : Nat} (k20 : Int32 → Int32 → Int32 → Int32 → Int32 → Int32 → St → Re Int32) {S' : St} {r : Int32} (b20 : ∀ (v1 : Int32) (v2 : Int32) (v3 : Int32) (v4 : Int32) (v5 : Int32) (v6 : Int32) (S : St), k20 v1 v2 v3 v4 v5 v6 S = some (r, S') → RR KO (d + 3) 2219 20 [(0, .ref 1), (1, .int v1), (2, .int v2), (3, .int v3), (4, .int v4), (5, .int v5), (6, .int v6)] [] S (some (.int r)) S') (v1 : Int32) (v2 : Int32) (v3 : Int32) (v4 : Int32) (v5 : Int32) (v6 : Int32) (S : St) (h : o_laws_64 k20 v1 v2 v3 v4 v5 v6 S = some (r, S')) : RR KO (d + 3) 2219 64 [(0, .ref 1), (1, .int v1), (2, .int v2), (3, .int v3), (4, .int v4), (5, .int v5), (6, .int v6)] [] S (some (.int r)) S' := by
  unfold o_laws_64 at h
  refine RR.runs (pc' := 67) (lc' := [(6, .int ((v6 + (-1 : Int32)))), (0, .ref 1), (1, .int v1), (2, .int v2), (3, .int v3), (4, .int v4), (5, .int v5)]) (st' := []) (S1 := S) (nL := 7) (cd := cd_2219) mx_2219 rfl rfl 1 rfl ?_
  obtain ⟨x1, ex1, h⟩ := ltE h
  rw [← ex1]
  refine RR.runs (pc' := 20) (lc' := [(6, .int x1), (0, .ref 1), (1, .int v1), (2, .int v2), (3, .int v3), (4, .int v4), (5, .int v5)]) (st' := []) (S1 := S) (nL := 7) (cd := cd_2219) mx_2219 rfl rfl 1 rfl ?_
  refine RR.weak [(0, .ref 1), (1, .int v1), (2, .int v2), (3, .int v3), (4, .int v4), (5, .int v5), (6, .int x1)] ⟨rfl, rfl, rfl, rfl, rfl, rfl, rfl, trivial⟩ ?_
  exact b20 _ _ _ _ _ _ _ h
def o_laws_59 (k20 : Int32 → Int32 → Int32 → Int32 → Int32 → Int32 → St → Re Int32) (v1 : Int32) (v2 : Int32) (v3 : Int32) (v5 : Int32) (v6 : Int32) (p0 : Int32) (S : St) : Re Int32 :=
  lt' ((v2 + (1 : Int32)) : Int32) fun x1 =>
  o_laws_64 k20 v1 x1 v3 p0 v5 v6 S
set_option maxRecDepth 100000 in
theorem s_o_laws_59 {d : Nat} (k20 : Int32 → Int32 → Int32 → Int32 → Int32 → Int32 → St → Re Int32) {S' : St} {r : Int32} (b20 : ∀ (v1 : Int32) (v2 : Int32) (v3 : Int32) (v4 : Int32) (v5 : Int32) (v6 : Int32) (S : St), k20 v1 v2 v3 v4 v5 v6 S = some (r, S') → RR KO (d + 3) 2219 20 [(0, .ref 1), (1, .int v1), (2, .int v2), (3, .int v3), (4, .int v4), (5, .int v5), (6, .int v6)] [] S (some (.int r)) S') (v1 : Int32) (v2 : Int32) (v3 : Int32) (v5 : Int32) (v6 : Int32) (p0 : Int32) (S : St) (h : o_laws_59 k20 v1 v2 v3 v5 v6 p0 S = some (r, S')) : RR KO (d + 3) 2219 59 [(0, .ref 1), (1, .int v1), (2, .int v2), (3, .int v3), (5, .int v5), (6, .int v6)] [.int p0] S (some (.int r)) S' := by
  unfold o_laws_59 at h
  refine RR.runs (pc' := 64) (lc' := [(2, .int ((v2 + (1 : Int32)))), (4, .int p0), (0, .ref 1), (1, .int v1), (3, .int v3), (5, .int v5), (6, .int v6)]) (st' := []) (S1 := S) (nL := 7) (cd := cd_2219) mx_2219 rfl rfl 2 rfl ?_
  obtain ⟨x1, ex1, h⟩ := ltE h
  rw [← ex1]
  refine RR.weak [(0, .ref 1), (1, .int v1), (2, .int x1), (3, .int v3), (4, .int p0), (5, .int v5), (6, .int v6)] ⟨rfl, rfl, rfl, rfl, rfl, rfl, rfl, trivial⟩ ?_
  exact s_o_laws_64 _ b20 _ _ _ _ _ _ _ h
def o_laws_47 (k20 : Int32 → Int32 → Int32 → Int32 → Int32 → Int32 → St → Re Int32) (v1 : Int32) (v2 : Int32) (v4 : Int32) (v5 : Int32) (v6 : Int32) (p0 : Int32) (S : St) : Re Int32 :=
  if v2 = 0 then (
    o_laws_59 k20 v1 v2 p0 v5 v6 v6 S)
  else (
    o_laws_59 k20 v1 v2 p0 v5 v6 v4 S)
set_option maxRecDepth 100000 in
theorem s_o_laws_47 {d : Nat} (k20 : Int32 → Int32 → Int32 → Int32 → Int32 → Int32 → St → Re Int32) {S' : St} {r : Int32} (b20 : ∀ (v1 : Int32) (v2 : Int32) (v3 : Int32) (v4 : Int32) (v5 : Int32) (v6 : Int32) (S : St), k20 v1 v2 v3 v4 v5 v6 S = some (r, S') → RR KO (d + 3) 2219 20 [(0, .ref 1), (1, .int v1), (2, .int v2), (3, .int v3), (4, .int v4), (5, .int v5), (6, .int v6)] [] S (some (.int r)) S') (v1 : Int32) (v2 : Int32) (v4 : Int32) (v5 : Int32) (v6 : Int32) (p0 : Int32) (S : St) (h : o_laws_47 k20 v1 v2 v4 v5 v6 p0 S = some (r, S')) : RR KO (d + 3) 2219 47 [(0, .ref 1), (1, .int v1), (2, .int v2), (4, .int v4), (5, .int v5), (6, .int v6)] [.int p0] S (some (.int r)) S' := by
  unfold o_laws_47 at h
  refine RR.runs (pc' := icm .ne v2 0 57 52) (lc' := [(3, .int p0), (0, .ref 1), (1, .int v1), (2, .int v2), (4, .int v4), (5, .int v5), (6, .int v6)]) (st' := []) (S1 := S) (nL := 7) (cd := cd_2219) mx_2219 rfl rfl 3 rfl ?_
  rcases ifE h with ⟨c, h⟩ | ⟨c, h⟩
  · refine RR.c_ne (fun _ => ?_) (fun q => absurd c q)
    refine RR.runs (pc' := 59) (lc' := [(3, .int p0), (0, .ref 1), (1, .int v1), (2, .int v2), (4, .int v4), (5, .int v5), (6, .int v6)]) (st' := [.int v6]) (S1 := S) (nL := 7) (cd := cd_2219) mx_2219 rfl rfl 2 rfl ?_
    refine RR.weak [(0, .ref 1), (1, .int v1), (2, .int v2), (3, .int p0), (5, .int v5), (6, .int v6)] ⟨rfl, rfl, rfl, rfl, rfl, rfl, trivial⟩ ?_
    exact s_o_laws_59 _ b20 _ _ _ _ _ _ _ h
  · refine RR.c_ne (fun q => absurd q c) (fun _ => ?_)
    refine RR.runs (pc' := 59) (lc' := [(3, .int p0), (0, .ref 1), (1, .int v1), (2, .int v2), (4, .int v4), (5, .int v5), (6, .int v6)]) (st' := [.int v4]) (S1 := S) (nL := 7) (cd := cd_2219) mx_2219 rfl rfl 1 rfl ?_
    refine RR.weak [(0, .ref 1), (1, .int v1), (2, .int v2), (3, .int p0), (5, .int v5), (6, .int v6)] ⟨rfl, rfl, rfl, rfl, rfl, rfl, trivial⟩ ?_
    exact s_o_laws_59 _ b20 _ _ _ _ _ _ _ h
def o_laws_20 (k10 : Int32 → Int32 → Int32 → Int32 → Int32 → St → Re Int32) : Nat → Int32 → Int32 → Int32 → Int32 → Int32 → Int32 → St → Re Int32
  | 0, _, _, _, _, _, _, _ => none
  | n + 1, v1, v2, v3, v4, v5, v6, S =>
  if v6 < (1 : Int32) then (
    o_laws_70 k10 v1 v2 v3 v4 v5 S)
  else (
    bn (o_fits v5 v6 S) fun r1 S2 =>
    if r1 = 0 then (
      o_laws_64 (o_laws_20 k10 n) v1 v2 v3 v4 v5 v6 S2)
    else (
      if v2 = 0 then (
        o_laws_47 (o_laws_20 k10 n) v1 v2 v4 v5 v6 v5 S2)
      else (
        o_laws_47 (o_laws_20 k10 n) v1 v2 v4 v5 v6 v3 S2)))
set_option maxRecDepth 100000 in
theorem s_o_laws_20 {d : Nat} (k10 : Int32 → Int32 → Int32 → Int32 → Int32 → St → Re Int32) {S' : St} {r : Int32} (b10 : ∀ (v1 : Int32) (v2 : Int32) (v3 : Int32) (v4 : Int32) (v5 : Int32) (S : St), k10 v1 v2 v3 v4 v5 S = some (r, S') → RR KO (d + 3) 2219 10 [(0, .ref 1), (1, .int v1), (2, .int v2), (3, .int v3), (4, .int v4), (5, .int v5)] [] S (some (.int r)) S') : ∀ (n : Nat) (v1 : Int32) (v2 : Int32) (v3 : Int32) (v4 : Int32) (v5 : Int32) (v6 : Int32) (S : St), o_laws_20 k10 n v1 v2 v3 v4 v5 v6 S = some (r, S') → RR KO (d + 3) 2219 20 [(0, .ref 1), (1, .int v1), (2, .int v2), (3, .int v3), (4, .int v4), (5, .int v5), (6, .int v6)] [] S (some (.int r)) S' := by
  intro n
  induction n with
  | zero => intro v1 v2 v3 v4 v5 v6 S h; simp only [o_laws_20] at h; cases h
  | succ n ih =>
    intro v1 v2 v3 v4 v5 v6 S h
    simp only [o_laws_20] at h
    refine RR.runs (pc' := icm .lt v6 (1 : Int32) 70 26) (lc' := [(0, .ref 1), (1, .int v1), (2, .int v2), (3, .int v3), (4, .int v4), (5, .int v5), (6, .int v6)]) (st' := []) (S1 := S) (nL := 7) (cd := cd_2219) mx_2219 rfl rfl 3 rfl ?_
    rcases ifE h with ⟨c, h⟩ | ⟨c, h⟩
    · refine RR.c_lt (fun _ => ?_) (fun q => absurd c q)
      refine RR.weak [(0, .ref 1), (1, .int v1), (2, .int v2), (3, .int v3), (4, .int v4), (5, .int v5)] ⟨rfl, rfl, rfl, rfl, rfl, rfl, trivial⟩ ?_
      exact s_o_laws_70 _ b10 _ _ _ _ _ _ h
    · refine RR.c_lt (fun q => absurd q c) (fun _ => ?_)
      refine RR.runs (pc' := 31) (lc' := [(0, .ref 1), (1, .int v1), (2, .int v2), (3, .int v3), (4, .int v4), (5, .int v5), (6, .int v6)]) (st' := [.int v6, .int v5, .ref 1]) (S1 := S) (nL := 7) (cd := cd_2219) mx_2219 rfl rfl 3 rfl ?_
      obtain ⟨r1, S2, h1, h⟩ := bnE h
      refine RR.callV (b := 1) (as := [.int v5, .int v6]) (rest := []) (r1 := (some (.int r1))) (S1 := S2) mx_2219 rfl rfl mx_2232 rfl rfl (by decide) (Or.inl rfl) (Nat.le_of_ble_eq_true rfl) (Nat.le_of_ble_eq_true rfl) (RC.deep (by omega) (s_o_fits (d := d) _ _ _ h1)) ?_
      show RR KO _ 2219 34 [(0, .ref 1), (1, .int v1), (2, .int v2), (3, .int v3), (4, .int v4), (5, .int v5), (6, .int v6)] [.int r1] S2 _ _
      refine RR.runs (pc' := icm .eq r1 0 64 37) (lc' := [(0, .ref 1), (1, .int v1), (2, .int v2), (3, .int v3), (4, .int v4), (5, .int v5), (6, .int v6)]) (st' := []) (S1 := S2) (nL := 7) (cd := cd_2219) mx_2219 rfl rfl 1 rfl ?_
      rcases ifE h with ⟨c, h⟩ | ⟨c, h⟩
      · refine RR.c_eq (fun _ => ?_) (fun q => absurd c q)
        refine RR.weak [(0, .ref 1), (1, .int v1), (2, .int v2), (3, .int v3), (4, .int v4), (5, .int v5), (6, .int v6)] ⟨rfl, rfl, rfl, rfl, rfl, rfl, rfl, trivial⟩ ?_
        exact s_o_laws_64 _ (fun _ _ _ _ _ _ S h => ih _ _ _ _ _ _ S h) _ _ _ _ _ _ _ h
      · refine RR.c_eq (fun q => absurd q c) (fun _ => ?_)
        refine RR.runs (pc' := icm .ne v2 0 46 41) (lc' := [(0, .ref 1), (1, .int v1), (2, .int v2), (3, .int v3), (4, .int v4), (5, .int v5), (6, .int v6)]) (st' := []) (S1 := S2) (nL := 7) (cd := cd_2219) mx_2219 rfl rfl 2 rfl ?_
        rcases ifE h with ⟨c, h⟩ | ⟨c, h⟩
        · refine RR.c_ne (fun _ => ?_) (fun q => absurd c q)
          refine RR.runs (pc' := 47) (lc' := [(0, .ref 1), (1, .int v1), (2, .int v2), (3, .int v3), (4, .int v4), (5, .int v5), (6, .int v6)]) (st' := [.int v5]) (S1 := S2) (nL := 7) (cd := cd_2219) mx_2219 rfl rfl 2 rfl ?_
          refine RR.weak [(0, .ref 1), (1, .int v1), (2, .int v2), (4, .int v4), (5, .int v5), (6, .int v6)] ⟨rfl, rfl, rfl, rfl, rfl, rfl, trivial⟩ ?_
          exact s_o_laws_47 _ (fun _ _ _ _ _ _ S h => ih _ _ _ _ _ _ S h) _ _ _ _ _ _ _ h
        · refine RR.c_ne (fun q => absurd q c) (fun _ => ?_)
          refine RR.runs (pc' := 47) (lc' := [(0, .ref 1), (1, .int v1), (2, .int v2), (3, .int v3), (4, .int v4), (5, .int v5), (6, .int v6)]) (st' := [.int v3]) (S1 := S2) (nL := 7) (cd := cd_2219) mx_2219 rfl rfl 1 rfl ?_
          refine RR.weak [(0, .ref 1), (1, .int v1), (2, .int v2), (4, .int v4), (5, .int v5), (6, .int v6)] ⟨rfl, rfl, rfl, rfl, rfl, rfl, trivial⟩ ?_
          exact s_o_laws_47 _ (fun _ _ _ _ _ _ S h => ih _ _ _ _ _ _ S h) _ _ _ _ _ _ _ h
def o_laws_10 : Nat → Int32 → Int32 → Int32 → Int32 → Int32 → St → Re Int32
  | 0, _, _, _, _, _, _ => none
  | n + 1, v1, v2, v3, v4, v5, S =>
  if (4 : Int32) < v5 then (
    o_laws_76 v1 v2 v3 v4 S)
  else (
    o_laws_20 (o_laws_10 n) FU v1 v2 v3 v4 v5 (8 : Int32) S)
set_option maxRecDepth 100000 in
theorem s_o_laws_10 {d : Nat} {S' : St} {r : Int32} : ∀ (n : Nat) (v1 : Int32) (v2 : Int32) (v3 : Int32) (v4 : Int32) (v5 : Int32) (S : St), o_laws_10 n v1 v2 v3 v4 v5 S = some (r, S') → RR KO (d + 3) 2219 10 [(0, .ref 1), (1, .int v1), (2, .int v2), (3, .int v3), (4, .int v4), (5, .int v5)] [] S (some (.int r)) S' := by
  intro n
  induction n with
  | zero => intro v1 v2 v3 v4 v5 S h; simp only [o_laws_10] at h; cases h
  | succ n ih =>
    intro v1 v2 v3 v4 v5 S h
    simp only [o_laws_10] at h
    refine RR.runs (pc' := icm .gt v5 (4 : Int32) 76 16) (lc' := [(0, .ref 1), (1, .int v1), (2, .int v2), (3, .int v3), (4, .int v4), (5, .int v5)]) (st' := []) (S1 := S) (nL := 7) (cd := cd_2219) mx_2219 rfl rfl 3 rfl ?_
    rcases ifE h with ⟨c, h⟩ | ⟨c, h⟩
    · refine RR.c_gt (fun _ => ?_) (fun q => absurd c q)
      refine RR.weak [(1, .int v1), (2, .int v2), (3, .int v3), (4, .int v4)] ⟨rfl, rfl, rfl, rfl, trivial⟩ ?_
      exact s_o_laws_76 _ _ _ _ _ h
    · refine RR.c_gt (fun q => absurd q c) (fun _ => ?_)
      refine RR.runs (pc' := 20) (lc' := [(6, .int (8 : Int32)), (0, .ref 1), (1, .int v1), (2, .int v2), (3, .int v3), (4, .int v4), (5, .int v5)]) (st' := []) (S1 := S) (nL := 7) (cd := cd_2219) mx_2219 rfl rfl 2 rfl ?_
      refine RR.weak [(0, .ref 1), (1, .int v1), (2, .int v2), (3, .int v3), (4, .int v4), (5, .int v5), (6, .int (8 : Int32))] ⟨rfl, rfl, rfl, rfl, rfl, rfl, rfl, trivial⟩ ?_
      exact s_o_laws_20 _ (fun _ _ _ _ _ S h => ih _ _ _ _ _ S h) _ _ _ _ _ _ _ _ h
def o_laws (v1 : Int32) (S : St) : Re Int32 :=
  o_laws_10 FU v1 (0 : Int32) (-1 : Int32) (-1 : Int32) (0 : Int32) S
set_option maxRecDepth 100000 in
theorem s0_o_laws {d : Nat} {S' : St} {r : Int32} (v1 : Int32) (S : St) (h : o_laws v1 S = some (r, S')) : RR KO (d + 3) 2219 0 [(0, .ref 1), (1, .int v1)] [] S (some (.int r)) S' := by
  unfold o_laws at h
  refine RR.runs (pc' := 10) (lc' := [(5, .int (0 : Int32)), (4, .int (-1 : Int32)), (3, .int (-1 : Int32)), (2, .int (0 : Int32)), (0, .ref 1), (1, .int v1)]) (st' := []) (S1 := S) (nL := 7) (cd := cd_2219) mx_2219 rfl rfl 8 rfl ?_
  refine RR.weak [(0, .ref 1), (1, .int v1), (2, .int (0 : Int32)), (3, .int (-1 : Int32)), (4, .int (-1 : Int32)), (5, .int (0 : Int32))] ⟨rfl, rfl, rfl, rfl, rfl, rfl, trivial⟩ ?_
  exact s_o_laws_10 _ _ _ _ _ _ _ h
theorem s_o_laws {d : Nat} {S' : St} {r : Int32} (v1 : Int32) (S : St) (h : o_laws v1 S = some (r, S')) : RC KO (d + 3) 2219 [.ref 1, .int v1] S (some (.int r)) S' := RC.of rfl (s0_o_laws v1 S h)
-- NameOrchard spared (LNameOrchard$Standing;II)I
def o_spared_82 (k6 : Nat → Int32 → Int32 → Int32 → Int32 → St → Re Int32) (v1 : Nat) (v2 : Int32) (v3 : Int32) (v4 : Int32) (v5 : Int32) (S : St) : Re Int32 :=
  lt' ((v5 + (1 : Int32)) : Int32) fun x1 =>
  k6 v1 v2 v3 v4 x1 S
set_option maxRecDepth 100000 in
theorem s_o_spared_82 {d : Nat} (k6 : Nat → Int32 → Int32 → Int32 → Int32 → St → Re Int32) {S' : St} {r : Int32} (b6 : ∀ (v1 : Nat) (v2 : Int32) (v3 : Int32) (v4 : Int32) (v5 : Int32) (S : St), k6 v1 v2 v3 v4 v5 S = some (r, S') → RR KO (d + 2) 2234 6 [(0, .ref 1), (1, .ref v1), (2, .int v2), (3, .int v3), (4, .int v4), (5, .int v5)] [] S (some (.int r)) S') (v1 : Nat) (v2 : Int32) (v3 : Int32) (v4 : Int32) (v5 : Int32) (S : St) (h : o_spared_82 k6 v1 v2 v3 v4 v5 S = some (r, S')) : RR KO (d + 2) 2234 82 [(0, .ref 1), (1, .ref v1), (2, .int v2), (3, .int v3), (4, .int v4), (5, .int v5)] [] S (some (.int r)) S' := by
  unfold o_spared_82 at h
  refine RR.runs (pc' := 85) (lc' := [(5, .int ((v5 + (1 : Int32)))), (0, .ref 1), (1, .ref v1), (2, .int v2), (3, .int v3), (4, .int v4)]) (st' := []) (S1 := S) (nL := 8) (cd := cd_2234) mx_2234 rfl rfl 1 rfl ?_
  obtain ⟨x1, ex1, h⟩ := ltE h
  rw [← ex1]
  refine RR.runs (pc' := 6) (lc' := [(5, .int x1), (0, .ref 1), (1, .ref v1), (2, .int v2), (3, .int v3), (4, .int v4)]) (st' := []) (S1 := S) (nL := 8) (cd := cd_2234) mx_2234 rfl rfl 1 rfl ?_
  refine RR.weak [(0, .ref 1), (1, .ref v1), (2, .int v2), (3, .int v3), (4, .int v4), (5, .int x1)] ⟨rfl, rfl, rfl, rfl, rfl, rfl, trivial⟩ ?_
  exact b6 _ _ _ _ _ _ h
def o_spared_143 (k96 : Int32 → Int32 → Int32 → Int32 → St → Re Int32) (v3 : Int32) (v4 : Int32) (v5 : Int32) (v6 : Int32) (S : St) : Re Int32 :=
  lt' ((v6 + (1 : Int32)) : Int32) fun x1 =>
  k96 v3 v4 v5 x1 S
set_option maxRecDepth 100000 in
theorem s_o_spared_143 {d : Nat} (k96 : Int32 → Int32 → Int32 → Int32 → St → Re Int32) {S' : St} {r : Int32} (b96 : ∀ (v3 : Int32) (v4 : Int32) (v5 : Int32) (v6 : Int32) (S : St), k96 v3 v4 v5 v6 S = some (r, S') → RR KO (d + 2) 2234 96 [(0, .ref 1), (3, .int v3), (4, .int v4), (5, .int v5), (6, .int v6)] [] S (some (.int r)) S') (v3 : Int32) (v4 : Int32) (v5 : Int32) (v6 : Int32) (S : St) (h : o_spared_143 k96 v3 v4 v5 v6 S = some (r, S')) : RR KO (d + 2) 2234 143 [(0, .ref 1), (3, .int v3), (4, .int v4), (5, .int v5), (6, .int v6)] [] S (some (.int r)) S' := by
  unfold o_spared_143 at h
  refine RR.runs (pc' := 146) (lc' := [(6, .int ((v6 + (1 : Int32)))), (0, .ref 1), (3, .int v3), (4, .int v4), (5, .int v5)]) (st' := []) (S1 := S) (nL := 8) (cd := cd_2234) mx_2234 rfl rfl 1 rfl ?_
  obtain ⟨x1, ex1, h⟩ := ltE h
  rw [← ex1]
  refine RR.runs (pc' := 96) (lc' := [(6, .int x1), (0, .ref 1), (3, .int v3), (4, .int v4), (5, .int v5)]) (st' := []) (S1 := S) (nL := 8) (cd := cd_2234) mx_2234 rfl rfl 1 rfl ?_
  refine RR.weak [(0, .ref 1), (3, .int v3), (4, .int v4), (5, .int v5), (6, .int x1)] ⟨rfl, rfl, rfl, rfl, rfl, trivial⟩ ?_
  exact b96 _ _ _ _ _ h
def o_spared_105 (k96 : Int32 → Int32 → Int32 → Int32 → St → Re Int32) : Nat → Int32 → Int32 → Int32 → Int32 → Int32 → St → Re Int32
  | 0, _, _, _, _, _, _ => none
  | n + 1, v3, v4, v5, v6, v7, S =>
  if v7 < v4 then (
    if v7 < (6 : Int32) then (
      if v7 < 0 ∨ 6 ≤ v7.toNatClampNeg then none else
      lt' (((v5 * (rI S 18 v7.toNatClampNeg)) / (10 : Int32)) : Int32) fun x1 =>
      lt' ((v7 + (1 : Int32)) : Int32) fun x2 =>
      o_spared_105 k96 n v3 v4 x1 v6 x2 S)
    else (
      o_spared_143 k96 v3 v4 v5 v6 S))
  else (
    o_spared_143 k96 v3 v4 v5 v6 S)
set_option maxRecDepth 100000 in
theorem s_o_spared_105 {d : Nat} (k96 : Int32 → Int32 → Int32 → Int32 → St → Re Int32) {S' : St} {r : Int32} (b96 : ∀ (v3 : Int32) (v4 : Int32) (v5 : Int32) (v6 : Int32) (S : St), k96 v3 v4 v5 v6 S = some (r, S') → RR KO (d + 2) 2234 96 [(0, .ref 1), (3, .int v3), (4, .int v4), (5, .int v5), (6, .int v6)] [] S (some (.int r)) S') : ∀ (n : Nat) (v3 : Int32) (v4 : Int32) (v5 : Int32) (v6 : Int32) (v7 : Int32) (S : St), o_spared_105 k96 n v3 v4 v5 v6 v7 S = some (r, S') → RR KO (d + 2) 2234 105 [(0, .ref 1), (3, .int v3), (4, .int v4), (5, .int v5), (6, .int v6), (7, .int v7)] [] S (some (.int r)) S' := by
  intro n
  induction n with
  | zero => intro v3 v4 v5 v6 v7 S h; simp only [o_spared_105] at h; cases h
  | succ n ih =>
    intro v3 v4 v5 v6 v7 S h
    simp only [o_spared_105] at h
    refine RR.runs (pc' := icm .ge v7 v4 143 112) (lc' := [(0, .ref 1), (3, .int v3), (4, .int v4), (5, .int v5), (6, .int v6), (7, .int v7)]) (st' := []) (S1 := S) (nL := 8) (cd := cd_2234) mx_2234 rfl rfl 3 rfl ?_
    rcases ifE h with ⟨c, h⟩ | ⟨c, h⟩
    · refine RR.c_ge (fun _ => ?_) (fun q => absurd c q)
      refine RR.runs (pc' := icm .ge v7 (6 : Int32) 143 122) (lc' := [(0, .ref 1), (3, .int v3), (4, .int v4), (5, .int v5), (6, .int v6), (7, .int v7)]) (st' := []) (S1 := S) (nL := 8) (cd := cd_2234) mx_2234 rfl rfl 5 rfl ?_
      rcases ifE h with ⟨c, h⟩ | ⟨c, h⟩
      · refine RR.c_ge (fun _ => ?_) (fun q => absurd c q)
        refine RR.runs (pc' := 130) (lc' := [(0, .ref 1), (3, .int v3), (4, .int v4), (5, .int v5), (6, .int v6), (7, .int v7)]) (st' := [.int v7, .ref 18, .int v5]) (S1 := S) (nL := 8) (cd := cd_2234) mx_2234 rfl rfl 4 rfl ?_
        obtain ⟨g, h⟩ := gnE h
        refine RR.gPN (c2 := (KO.1 18).1 = 1) (pc' := 131) (lc' := [(0, .ref 1), (3, .int v3), (4, .int v4), (5, .int v5), (6, .int v6), (7, .int v7)]) (st' := [.int (rI S 18 v7.toNatClampNeg), .int v5]) (S1 := S) (nL := 8) (cd := cd_2234) mx_2234 rfl rfl rfl rfl g ?_
        refine RR.runs (pc' := 137) (lc' := [(5, .int (((v5 * (rI S 18 v7.toNatClampNeg)) / (10 : Int32)))), (0, .ref 1), (3, .int v3), (4, .int v4), (6, .int v6), (7, .int v7)]) (st' := []) (S1 := S) (nL := 8) (cd := cd_2234) mx_2234 rfl rfl 4 rfl ?_
        obtain ⟨x1, ex1, h⟩ := ltE h
        rw [← ex1]
        refine RR.runs (pc' := 140) (lc' := [(7, .int ((v7 + (1 : Int32)))), (5, .int x1), (0, .ref 1), (3, .int v3), (4, .int v4), (6, .int v6)]) (st' := []) (S1 := S) (nL := 8) (cd := cd_2234) mx_2234 rfl rfl 1 rfl ?_
        obtain ⟨x2, ex2, h⟩ := ltE h
        rw [← ex2]
        refine RR.runs (pc' := 105) (lc' := [(7, .int x2), (5, .int x1), (0, .ref 1), (3, .int v3), (4, .int v4), (6, .int v6)]) (st' := []) (S1 := S) (nL := 8) (cd := cd_2234) mx_2234 rfl rfl 1 rfl ?_
        refine RR.weak [(0, .ref 1), (3, .int v3), (4, .int v4), (5, .int x1), (6, .int v6), (7, .int x2)] ⟨rfl, rfl, rfl, rfl, rfl, rfl, trivial⟩ ?_
        exact ih _ _ _ _ _ _ h
      · refine RR.c_ge (fun q => absurd q c) (fun _ => ?_)
        refine RR.weak [(0, .ref 1), (3, .int v3), (4, .int v4), (5, .int v5), (6, .int v6)] ⟨rfl, rfl, rfl, rfl, rfl, trivial⟩ ?_
        exact s_o_spared_143 _ b96 _ _ _ _ _ h
    · refine RR.c_ge (fun q => absurd q c) (fun _ => ?_)
      refine RR.weak [(0, .ref 1), (3, .int v3), (4, .int v4), (5, .int v5), (6, .int v6)] ⟨rfl, rfl, rfl, rfl, rfl, trivial⟩ ?_
      exact s_o_spared_143 _ b96 _ _ _ _ _ h
def o_spared_149 (v5 : Int32) (S : St) : Re Int32 :=
  some (v5, S)
set_option maxRecDepth 100000 in
theorem s_o_spared_149 {d : Nat} {S' : St} {r : Int32} (v5 : Int32) (S : St) (h : o_spared_149 v5 S = some (r, S')) : RR KO (d + 2) 2234 149 [(5, .int v5)] [] S (some (.int r)) S' := by
  unfold o_spared_149 at h
  refine RR.runs (pc' := 151) (lc' := [(5, .int v5)]) (st' := [.int v5]) (S1 := S) (nL := 8) (cd := cd_2234) mx_2234 rfl rfl 1 rfl ?_
  cases h
  exact RR.reti mx_2234 rfl rfl rfl
def o_spared_96 : Nat → Int32 → Int32 → Int32 → Int32 → St → Re Int32
  | 0, _, _, _, _, _ => none
  | n + 1, v3, v4, v5, v6, S =>
  if v6 < v3 then (
    o_spared_105 (o_spared_96 n) FU v3 v4 v5 v6 (0 : Int32) S)
  else (
    o_spared_149 v5 S)
set_option maxRecDepth 100000 in
theorem s_o_spared_96 {d : Nat} {S' : St} {r : Int32} : ∀ (n : Nat) (v3 : Int32) (v4 : Int32) (v5 : Int32) (v6 : Int32) (S : St), o_spared_96 n v3 v4 v5 v6 S = some (r, S') → RR KO (d + 2) 2234 96 [(0, .ref 1), (3, .int v3), (4, .int v4), (5, .int v5), (6, .int v6)] [] S (some (.int r)) S' := by
  intro n
  induction n with
  | zero => intro v3 v4 v5 v6 S h; simp only [o_spared_96] at h; cases h
  | succ n ih =>
    intro v3 v4 v5 v6 S h
    simp only [o_spared_96] at h
    refine RR.runs (pc' := icm .ge v6 v3 149 102) (lc' := [(0, .ref 1), (3, .int v3), (4, .int v4), (5, .int v5), (6, .int v6)]) (st' := []) (S1 := S) (nL := 8) (cd := cd_2234) mx_2234 rfl rfl 3 rfl ?_
    rcases ifE h with ⟨c, h⟩ | ⟨c, h⟩
    · refine RR.c_ge (fun _ => ?_) (fun q => absurd c q)
      refine RR.runs (pc' := 105) (lc' := [(7, .int (0 : Int32)), (0, .ref 1), (3, .int v3), (4, .int v4), (5, .int v5), (6, .int v6)]) (st' := []) (S1 := S) (nL := 8) (cd := cd_2234) mx_2234 rfl rfl 2 rfl ?_
      refine RR.weak [(0, .ref 1), (3, .int v3), (4, .int v4), (5, .int v5), (6, .int v6), (7, .int (0 : Int32))] ⟨rfl, rfl, rfl, rfl, rfl, rfl, trivial⟩ ?_
      exact s_o_spared_105 _ (fun _ _ _ _ S h => ih _ _ _ _ S h) _ _ _ _ _ _ _ h
    · refine RR.c_ge (fun q => absurd q c) (fun _ => ?_)
      refine RR.weak [(5, .int v5)] ⟨rfl, trivial⟩ ?_
      exact s_o_spared_149 _ _ h
def o_spared_88 (v3 : Int32) (v4 : Int32) (S : St) : Re Int32 :=
  o_spared_96 FU v3 v4 (1000000 : Int32) (0 : Int32) S
set_option maxRecDepth 100000 in
theorem s_o_spared_88 {d : Nat} {S' : St} {r : Int32} (v3 : Int32) (v4 : Int32) (S : St) (h : o_spared_88 v3 v4 S = some (r, S')) : RR KO (d + 2) 2234 88 [(0, .ref 1), (3, .int v3), (4, .int v4)] [] S (some (.int r)) S' := by
  unfold o_spared_88 at h
  refine RR.runs (pc' := 96) (lc' := [(6, .int (0 : Int32)), (5, .int (1000000 : Int32)), (0, .ref 1), (3, .int v3), (4, .int v4)]) (st' := []) (S1 := S) (nL := 8) (cd := cd_2234) mx_2234 rfl rfl 4 rfl ?_
  refine RR.weak [(0, .ref 1), (3, .int v3), (4, .int v4), (5, .int (1000000 : Int32)), (6, .int (0 : Int32))] ⟨rfl, rfl, rfl, rfl, rfl, trivial⟩ ?_
  exact s_o_spared_96 _ _ _ _ _ _ h
def o_spared_6 : Nat → Nat → Int32 → Int32 → Int32 → Int32 → St → Re Int32
  | 0, _, _, _, _, _, _ => none
  | n + 1, v1, v2, v3, v4, v5, S =>
  oq (rQ S 1 9) none fun o1 =>
  if KO.1 o1 = (0, 10) then (
  if KO.1 (o1 + 84) = (0, 7) then (
bn (o_tb_size (o1 + 84) S) fun r4 S5 =>
  if v5 < r4 then (
    oq (rQ S5 1 9) none fun o6 =>
    oq (rQ S5 1 9) none fun o7 =>
    if KO.1 o7 = (0, 10) then (
    if KO.1 (o7 + 84) = (0, 7) then (
bn (o_tb_at (o7 + 84) v5 (0 : Int32) S5) fun r10 S11 =>
    if KO.1 v1 = (0, 5) then (
bn (o_sd_isMeant v1 o6 v2 r10 S11) fun r13 S14 =>
    if r13 = 0 then (
      o_spared_82 (o_spared_6 n) v1 v2 v3 v4 v5 S14)
    else (
      if v4 < (6 : Int32) then (
        oq (rQ S14 1 9) none fun o15 =>
        if KO.1 o15 = (0, 10) then (
        if KO.1 (o15 + 84) = (0, 7) then (
bn (o_tb_at (o15 + 84) v5 (1 : Int32) S14) fun r18 S19 =>
        if v4 < 0 ∨ 6 ≤ v4.toNatClampNeg then none else
        lt' (wI S19 18 v4.toNatClampNeg (((10 : Int32) - r18))) fun S20 =>
        lt' ((v4 + (1 : Int32)) : Int32) fun x21 =>
        o_spared_82 (o_spared_6 n) v1 v2 v3 x21 v5 S20) else none) else none)
      else (
        o_spared_82 (o_spared_6 n) v1 v2 v3 v4 v5 S14))) else none) else none) else none)
  else (
    o_spared_88 v3 v4 S5)) else none) else none
set_option maxRecDepth 100000 in
theorem s_o_spared_6 {d : Nat} {S' : St} {r : Int32} : ∀ (n : Nat) (v1 : Nat) (v2 : Int32) (v3 : Int32) (v4 : Int32) (v5 : Int32) (S : St), o_spared_6 n v1 v2 v3 v4 v5 S = some (r, S') → RR KO (d + 2) 2234 6 [(0, .ref 1), (1, .ref v1), (2, .int v2), (3, .int v3), (4, .int v4), (5, .int v5)] [] S (some (.int r)) S' := by
  intro n
  induction n with
  | zero => intro v1 v2 v3 v4 v5 S h; simp only [o_spared_6] at h; cases h
  | succ n ih =>
    intro v1 v2 v3 v4 v5 S h
    simp only [o_spared_6] at h
    refine RR.runs (pc' := 12) (lc' := [(0, .ref 1), (1, .ref v1), (2, .int v2), (3, .int v3), (4, .int v4), (5, .int v5)]) (st' := [qv (rQ S 1 9), .int v5]) (S1 := S) (nL := 8) (cd := cd_2234) mx_2234 rfl rfl 3 rfl ?_
    rcases oqE h with ⟨e1, h⟩ | ⟨o1, eo1, h⟩
    · cases h
    rw [eo1]
    obtain ⟨g2, h⟩ := gpE h
    refine RR.gPo (pc' := 15) (lc' := [(0, .ref 1), (1, .ref v1), (2, .int v2), (3, .int v3), (4, .int v4), (5, .int v5)]) (st' := [.ref (o1 + 84), .int v5]) (S1 := S) (nL := 8) (cd := cd_2234) mx_2234 rfl rfl rfl ⟨g2, by decide, by decide⟩ ?_
    obtain ⟨g3, h⟩ := gpE h
    obtain ⟨r4, S5, h1, h⟩ := bnE h
    refine RR.callV (b := (o1 + 84)) (as := []) (rest := [.int v5]) (r1 := (some (.int r4))) (S1 := S5) mx_2234 rfl rfl mx_1402 rfl rfl (by decide) (Or.inl g3) (Nat.le_of_ble_eq_true rfl) (Nat.le_of_ble_eq_true rfl) (RC.deep (by omega) (s_o_tb_size (d := d) _ _ h1)) ?_
    show RR KO _ 2234 18 [(0, .ref 1), (1, .ref v1), (2, .int v2), (3, .int v3), (4, .int v4), (5, .int v5)] [.int r4, .int v5] S5 _ _
    refine RR.runs (pc' := icm .ge v5 r4 88 21) (lc' := [(0, .ref 1), (1, .ref v1), (2, .int v2), (3, .int v3), (4, .int v4), (5, .int v5)]) (st' := []) (S1 := S5) (nL := 8) (cd := cd_2234) mx_2234 rfl rfl 1 rfl ?_
    rcases ifE h with ⟨c, h⟩ | ⟨c, h⟩
    · refine RR.c_ge (fun _ => ?_) (fun q => absurd c q)
      refine RR.runs (pc' := 26) (lc' := [(0, .ref 1), (1, .ref v1), (2, .int v2), (3, .int v3), (4, .int v4), (5, .int v5)]) (st' := [qv (rQ S5 1 9), .ref v1]) (S1 := S5) (nL := 8) (cd := cd_2234) mx_2234 rfl rfl 3 rfl ?_
      rcases oqE h with ⟨e1, h⟩ | ⟨o6, eo6, h⟩
      · cases h
      rw [eo6]
      refine RR.runs (pc' := 31) (lc' := [(0, .ref 1), (1, .ref v1), (2, .int v2), (3, .int v3), (4, .int v4), (5, .int v5)]) (st' := [qv (rQ S5 1 9), .int v2, .ref o6, .ref v1]) (S1 := S5) (nL := 8) (cd := cd_2234) mx_2234 rfl rfl 3 rfl ?_
      rcases oqE h with ⟨e1, h⟩ | ⟨o7, eo7, h⟩
      · cases h
      rw [eo7]
      obtain ⟨g8, h⟩ := gpE h
      refine RR.gPo (pc' := 34) (lc' := [(0, .ref 1), (1, .ref v1), (2, .int v2), (3, .int v3), (4, .int v4), (5, .int v5)]) (st' := [.ref (o7 + 84), .int v2, .ref o6, .ref v1]) (S1 := S5) (nL := 8) (cd := cd_2234) mx_2234 rfl rfl rfl ⟨g8, by decide, by decide⟩ ?_
      refine RR.runs (pc' := 37) (lc' := [(0, .ref 1), (1, .ref v1), (2, .int v2), (3, .int v3), (4, .int v4), (5, .int v5)]) (st' := [.int (0 : Int32), .int v5, .ref (o7 + 84), .int v2, .ref o6, .ref v1]) (S1 := S5) (nL := 8) (cd := cd_2234) mx_2234 rfl rfl 2 rfl ?_
      obtain ⟨g9, h⟩ := gpE h
      obtain ⟨r10, S11, h1, h⟩ := bnE h
      refine RR.callV (b := (o7 + 84)) (as := [.int v5, .int (0 : Int32)]) (rest := [.int v2, .ref o6, .ref v1]) (r1 := (some (.int r10))) (S1 := S11) mx_2234 rfl rfl mx_1405 rfl rfl (by decide) (Or.inl g9) (Nat.le_of_ble_eq_true rfl) (Nat.le_of_ble_eq_true rfl) (RC.deep (by omega) (s_o_tb_at (d := d) _ _ _ _ h1)) ?_
      show RR KO _ 2234 40 [(0, .ref 1), (1, .ref v1), (2, .int v2), (3, .int v3), (4, .int v4), (5, .int v5)] [.int r10, .int v2, .ref o6, .ref v1] S11 _ _
      obtain ⟨g12, h⟩ := gpE h
      obtain ⟨r13, S14, h1, h⟩ := bnE h
      refine RR.callV (b := v1) (as := [.ref o6, .int v2, .int r10]) (rest := []) (r1 := (some (.int r13))) (S1 := S14) mx_2234 rfl rfl mx_1008 rfl rfl (by decide) (Or.inl g12) (Nat.le_of_ble_eq_true rfl) (Nat.le_of_ble_eq_true rfl) (RC.deep (by omega) (s_o_sd_isMeant (d := d) _ _ _ _ _ h1)) ?_
      show RR KO _ 2234 43 [(0, .ref 1), (1, .ref v1), (2, .int v2), (3, .int v3), (4, .int v4), (5, .int v5)] [.int r13] S14 _ _
      refine RR.runs (pc' := icm .eq r13 0 82 46) (lc' := [(0, .ref 1), (1, .ref v1), (2, .int v2), (3, .int v3), (4, .int v4), (5, .int v5)]) (st' := []) (S1 := S14) (nL := 8) (cd := cd_2234) mx_2234 rfl rfl 1 rfl ?_
      rcases ifE h with ⟨c, h⟩ | ⟨c, h⟩
      · refine RR.c_eq (fun _ => ?_) (fun q => absurd c q)
        refine RR.weak [(0, .ref 1), (1, .ref v1), (2, .int v2), (3, .int v3), (4, .int v4), (5, .int v5)] ⟨rfl, rfl, rfl, rfl, rfl, rfl, trivial⟩ ?_
        exact s_o_spared_82 _ (fun _ _ _ _ _ S h => ih _ _ _ _ _ S h) _ _ _ _ _ _ h
      · refine RR.c_eq (fun q => absurd q c) (fun _ => ?_)
        refine RR.runs (pc' := icm .ge v4 (6 : Int32) 82 56) (lc' := [(0, .ref 1), (1, .ref v1), (2, .int v2), (3, .int v3), (4, .int v4), (5, .int v5)]) (st' := []) (S1 := S14) (nL := 8) (cd := cd_2234) mx_2234 rfl rfl 5 rfl ?_
        rcases ifE h with ⟨c, h⟩ | ⟨c, h⟩
        · refine RR.c_ge (fun _ => ?_) (fun q => absurd c q)
          refine RR.runs (pc' := 68) (lc' := [(0, .ref 1), (1, .ref v1), (2, .int v2), (3, .int v3), (4, .int v4), (5, .int v5)]) (st' := [qv (rQ S14 1 9), .int (10 : Int32), .int v4, .ref 18]) (S1 := S14) (nL := 8) (cd := cd_2234) mx_2234 rfl rfl 6 rfl ?_
          rcases oqE h with ⟨e1, h⟩ | ⟨o15, eo15, h⟩
          · cases h
          rw [eo15]
          obtain ⟨g16, h⟩ := gpE h
          refine RR.gPo (pc' := 71) (lc' := [(0, .ref 1), (1, .ref v1), (2, .int v2), (3, .int v3), (4, .int v4), (5, .int v5)]) (st' := [.ref (o15 + 84), .int (10 : Int32), .int v4, .ref 18]) (S1 := S14) (nL := 8) (cd := cd_2234) mx_2234 rfl rfl rfl ⟨g16, by decide, by decide⟩ ?_
          refine RR.runs (pc' := 74) (lc' := [(0, .ref 1), (1, .ref v1), (2, .int v2), (3, .int v3), (4, .int v4), (5, .int v5)]) (st' := [.int (1 : Int32), .int v5, .ref (o15 + 84), .int (10 : Int32), .int v4, .ref 18]) (S1 := S14) (nL := 8) (cd := cd_2234) mx_2234 rfl rfl 2 rfl ?_
          obtain ⟨g17, h⟩ := gpE h
          obtain ⟨r18, S19, h1, h⟩ := bnE h
          refine RR.callV (b := (o15 + 84)) (as := [.int v5, .int (1 : Int32)]) (rest := [.int (10 : Int32), .int v4, .ref 18]) (r1 := (some (.int r18))) (S1 := S19) mx_2234 rfl rfl mx_1405 rfl rfl (by decide) (Or.inl g17) (Nat.le_of_ble_eq_true rfl) (Nat.le_of_ble_eq_true rfl) (RC.deep (by omega) (s_o_tb_at (d := d) _ _ _ _ h1)) ?_
          show RR KO _ 2234 77 [(0, .ref 1), (1, .ref v1), (2, .int v2), (3, .int v3), (4, .int v4), (5, .int v5)] [.int r18, .int (10 : Int32), .int v4, .ref 18] S19 _ _
          refine RR.runs (pc' := 78) (lc' := [(0, .ref 1), (1, .ref v1), (2, .int v2), (3, .int v3), (4, .int v4), (5, .int v5)]) (st' := [.int (((10 : Int32) - r18)), .int v4, .ref 18]) (S1 := S19) (nL := 8) (cd := cd_2234) mx_2234 rfl rfl 1 rfl ?_
          obtain ⟨g, h⟩ := gnE h
          refine RR.gPN (c2 := (KO.1 18).1 = 1) (pc' := 79) (lc' := [(0, .ref 1), (1, .ref v1), (2, .int v2), (3, .int v3), (4, .int v4), (5, .int v5)]) (st' := []) (S1 := (wI S19 18 v4.toNatClampNeg (((10 : Int32) - r18)))) (nL := 8) (cd := cd_2234) mx_2234 rfl rfl rfl rfl g ?_
          obtain ⟨S20, eS20, h⟩ := ltE h
          rw [← eS20]
          refine RR.runs (pc' := 82) (lc' := [(4, .int ((v4 + (1 : Int32)))), (0, .ref 1), (1, .ref v1), (2, .int v2), (3, .int v3), (5, .int v5)]) (st' := []) (S1 := S20) (nL := 8) (cd := cd_2234) mx_2234 rfl rfl 1 rfl ?_
          obtain ⟨x21, ex21, h⟩ := ltE h
          rw [← ex21]
          refine RR.weak [(0, .ref 1), (1, .ref v1), (2, .int v2), (3, .int v3), (4, .int x21), (5, .int v5)] ⟨rfl, rfl, rfl, rfl, rfl, rfl, trivial⟩ ?_
          exact s_o_spared_82 _ (fun _ _ _ _ _ S h => ih _ _ _ _ _ S h) _ _ _ _ _ _ h
        · refine RR.c_ge (fun q => absurd q c) (fun _ => ?_)
          refine RR.weak [(0, .ref 1), (1, .ref v1), (2, .int v2), (3, .int v3), (4, .int v4), (5, .int v5)] ⟨rfl, rfl, rfl, rfl, rfl, rfl, trivial⟩ ?_
          exact s_o_spared_82 _ (fun _ _ _ _ _ S h => ih _ _ _ _ _ S h) _ _ _ _ _ _ h
    · refine RR.c_ge (fun q => absurd q c) (fun _ => ?_)
      refine RR.weak [(0, .ref 1), (3, .int v3), (4, .int v4)] ⟨rfl, rfl, rfl, trivial⟩ ?_
      exact s_o_spared_88 _ _ _ h
def o_spared (v1 : Nat) (v2 : Int32) (v3 : Int32) (S : St) : Re Int32 :=
  o_spared_6 FU v1 v2 v3 (0 : Int32) (0 : Int32) S
set_option maxRecDepth 100000 in
theorem s0_o_spared {d : Nat} {S' : St} {r : Int32} (v1 : Nat) (v2 : Int32) (v3 : Int32) (S : St) (h : o_spared v1 v2 v3 S = some (r, S')) : RR KO (d + 2) 2234 0 [(0, .ref 1), (1, .ref v1), (2, .int v2), (3, .int v3)] [] S (some (.int r)) S' := by
  unfold o_spared at h
  refine RR.runs (pc' := 6) (lc' := [(5, .int (0 : Int32)), (4, .int (0 : Int32)), (0, .ref 1), (1, .ref v1), (2, .int v2), (3, .int v3)]) (st' := []) (S1 := S) (nL := 8) (cd := cd_2234) mx_2234 rfl rfl 4 rfl ?_
  refine RR.weak [(0, .ref 1), (1, .ref v1), (2, .int v2), (3, .int v3), (4, .int (0 : Int32)), (5, .int (0 : Int32))] ⟨rfl, rfl, rfl, rfl, rfl, rfl, trivial⟩ ?_
  exact s_o_spared_6 _ _ _ _ _ _ _ h
theorem s_o_spared {d : Nat} {S' : St} {r : Int32} (v1 : Nat) (v2 : Int32) (v3 : Int32) (S : St) (h : o_spared v1 v2 v3 S = some (r, S')) : RC KO (d + 2) 2234 [.ref 1, .ref v1, .int v2, .int v3] S (some (.int r)) S' := RC.of rfl (s0_o_spared v1 v2 v3 S h)
-- NameOrchard lossOf (LNameOrchard$Standing;II)I
def o_lossOf_19 (S : St) : Re Int32 :=
  some ((0 : Int32), S)
set_option maxRecDepth 100000 in
theorem s_o_lossOf_19 {d : Nat} {S' : St} {r : Int32} (S : St) (h : o_lossOf_19 S = some (r, S')) : RR KO (d + 3) 2233 19 [] [] S (some (.int r)) S' := by
  unfold o_lossOf_19 at h
  refine RR.runs (pc' := 20) (lc' := []) (st' := [.int (0 : Int32)]) (S1 := S) (nL := 4) (cd := cd_2233) mx_2233 rfl rfl 1 rfl ?_
  cases h
  exact RR.reti mx_2233 rfl rfl rfl
def o_lossOf (v1 : Nat) (v2 : Int32) (v3 : Int32) (S : St) : Re Int32 :=
  if KO.1 v1 = (0, 5) then (
bn (o_sd_hangs v1 v2 S) fun r2 S3 =>
  if r2 = 0 then (
    o_lossOf_19 S3)
  else (
    oq (rQ S3 1 9) none fun o4 =>
    if KO.1 o4 = (0, 10) then (
bn (o_to_isDeaf o4 v2 S3) fun r6 S7 =>
    if r6 = 0 then (
      oq (rQ S7 1 9) none fun o8 =>
      if KO.1 o8 = (0, 10) then (
      if KO.1 (o8 + 80) = (0, 7) then (
bn (o_tb_at (o8 + 80) v2 (4 : Int32) S7) fun r11 S12 =>
      bn (o_spared v1 v2 v3 S12) fun r13 S14 =>
      some (((r11 * ((1000000 : Int32) - r13)) / (1000 : Int32)), S14)) else none) else none)
    else (
      o_lossOf_19 S7)) else none)) else none
set_option maxRecDepth 100000 in
theorem s0_o_lossOf {d : Nat} {S' : St} {r : Int32} (v1 : Nat) (v2 : Int32) (v3 : Int32) (S : St) (h : o_lossOf v1 v2 v3 S = some (r, S')) : RR KO (d + 3) 2233 0 [(0, .ref 1), (1, .ref v1), (2, .int v2), (3, .int v3)] [] S (some (.int r)) S' := by
  unfold o_lossOf at h
  refine RR.runs (pc' := 2) (lc' := [(0, .ref 1), (1, .ref v1), (2, .int v2), (3, .int v3)]) (st' := [.int v2, .ref v1]) (S1 := S) (nL := 4) (cd := cd_2233) mx_2233 rfl rfl 2 rfl ?_
  obtain ⟨g1, h⟩ := gpE h
  obtain ⟨r2, S3, h1, h⟩ := bnE h
  refine RR.callV (b := v1) (as := [.int v2]) (rest := []) (r1 := (some (.int r2))) (S1 := S3) mx_2233 rfl rfl mx_1003 rfl rfl (by decide) (Or.inl g1) (Nat.le_of_ble_eq_true rfl) (Nat.le_of_ble_eq_true rfl) (RC.deep (by omega) (s_o_sd_hangs (d := d) _ _ _ h1)) ?_
  show RR KO _ 2233 5 [(0, .ref 1), (1, .ref v1), (2, .int v2), (3, .int v3)] [.int r2] S3 _ _
  refine RR.runs (pc' := icm .eq r2 0 19 8) (lc' := [(0, .ref 1), (1, .ref v1), (2, .int v2), (3, .int v3)]) (st' := []) (S1 := S3) (nL := 4) (cd := cd_2233) mx_2233 rfl rfl 1 rfl ?_
  rcases ifE h with ⟨c, h⟩ | ⟨c, h⟩
  · refine RR.c_eq (fun _ => ?_) (fun q => absurd c q)
    refine RR.weak [] trivial ?_
    exact s_o_lossOf_19 _ h
  · refine RR.c_eq (fun q => absurd q c) (fun _ => ?_)
    refine RR.runs (pc' := 12) (lc' := [(0, .ref 1), (1, .ref v1), (2, .int v2), (3, .int v3)]) (st' := [qv (rQ S3 1 9)]) (S1 := S3) (nL := 4) (cd := cd_2233) mx_2233 rfl rfl 2 rfl ?_
    rcases oqE h with ⟨e1, h⟩ | ⟨o4, eo4, h⟩
    · cases h
    rw [eo4]
    refine RR.runs (pc' := 13) (lc' := [(0, .ref 1), (1, .ref v1), (2, .int v2), (3, .int v3)]) (st' := [.int v2, .ref o4]) (S1 := S3) (nL := 4) (cd := cd_2233) mx_2233 rfl rfl 1 rfl ?_
    obtain ⟨g5, h⟩ := gpE h
    obtain ⟨r6, S7, h1, h⟩ := bnE h
    refine RR.callV (b := o4) (as := [.int v2]) (rest := []) (r1 := (some (.int r6))) (S1 := S7) mx_2233 rfl rfl mx_2008 rfl rfl (by decide) (Or.inl g5) (Nat.le_of_ble_eq_true rfl) (Nat.le_of_ble_eq_true rfl) (RC.deep (by omega) (s_o_to_isDeaf (d := d) _ _ _ h1)) ?_
    show RR KO _ 2233 16 [(0, .ref 1), (1, .ref v1), (2, .int v2), (3, .int v3)] [.int r6] S7 _ _
    refine RR.runs (pc' := icm .eq r6 0 21 19) (lc' := [(0, .ref 1), (1, .ref v1), (2, .int v2), (3, .int v3)]) (st' := []) (S1 := S7) (nL := 4) (cd := cd_2233) mx_2233 rfl rfl 1 rfl ?_
    rcases ifE h with ⟨c, h⟩ | ⟨c, h⟩
    · refine RR.c_eq (fun _ => ?_) (fun q => absurd c q)
      refine RR.runs (pc' := 25) (lc' := [(0, .ref 1), (1, .ref v1), (2, .int v2), (3, .int v3)]) (st' := [qv (rQ S7 1 9)]) (S1 := S7) (nL := 4) (cd := cd_2233) mx_2233 rfl rfl 2 rfl ?_
      rcases oqE h with ⟨e1, h⟩ | ⟨o8, eo8, h⟩
      · cases h
      rw [eo8]
      obtain ⟨g9, h⟩ := gpE h
      refine RR.gPo (pc' := 28) (lc' := [(0, .ref 1), (1, .ref v1), (2, .int v2), (3, .int v3)]) (st' := [.ref (o8 + 80)]) (S1 := S7) (nL := 4) (cd := cd_2233) mx_2233 rfl rfl rfl ⟨g9, by decide, by decide⟩ ?_
      refine RR.runs (pc' := 30) (lc' := [(0, .ref 1), (1, .ref v1), (2, .int v2), (3, .int v3)]) (st' := [.int (4 : Int32), .int v2, .ref (o8 + 80)]) (S1 := S7) (nL := 4) (cd := cd_2233) mx_2233 rfl rfl 2 rfl ?_
      obtain ⟨g10, h⟩ := gpE h
      obtain ⟨r11, S12, h1, h⟩ := bnE h
      refine RR.callV (b := (o8 + 80)) (as := [.int v2, .int (4 : Int32)]) (rest := []) (r1 := (some (.int r11))) (S1 := S12) mx_2233 rfl rfl mx_1405 rfl rfl (by decide) (Or.inl g10) (Nat.le_of_ble_eq_true rfl) (Nat.le_of_ble_eq_true rfl) (RC.deep (by omega) (s_o_tb_at (d := d) _ _ _ _ h1)) ?_
      show RR KO _ 2233 33 [(0, .ref 1), (1, .ref v1), (2, .int v2), (3, .int v3)] [.int r11] S12 _ _
      refine RR.runs (pc' := 40) (lc' := [(0, .ref 1), (1, .ref v1), (2, .int v2), (3, .int v3)]) (st' := [.int v3, .int v2, .ref v1, .ref 1, .int (1000000 : Int32), .int r11]) (S1 := S12) (nL := 4) (cd := cd_2233) mx_2233 rfl rfl 5 rfl ?_
      obtain ⟨r13, S14, h1, h⟩ := bnE h
      refine RR.callV (b := 1) (as := [.ref v1, .int v2, .int v3]) (rest := [.int (1000000 : Int32), .int r11]) (r1 := (some (.int r13))) (S1 := S14) mx_2233 rfl rfl mx_2234 rfl rfl (by decide) (Or.inl rfl) (Nat.le_of_ble_eq_true rfl) (Nat.le_of_ble_eq_true rfl) (RC.deep (by omega) (s_o_spared (d := d) _ _ _ _ h1)) ?_
      show RR KO _ 2233 43 [(0, .ref 1), (1, .ref v1), (2, .int v2), (3, .int v3)] [.int r13, .int (1000000 : Int32), .int r11] S14 _ _
      refine RR.runs (pc' := 49) (lc' := [(0, .ref 1), (1, .ref v1), (2, .int v2), (3, .int v3)]) (st' := [.int (((r11 * ((1000000 : Int32) - r13)) / (1000 : Int32)))]) (S1 := S14) (nL := 4) (cd := cd_2233) mx_2233 rfl rfl 4 rfl ?_
      cases h
      exact RR.reti mx_2233 rfl rfl rfl
    · refine RR.c_eq (fun q => absurd q c) (fun _ => ?_)
      refine RR.weak [] trivial ?_
      exact s_o_lossOf_19 _ h
theorem s_o_lossOf {d : Nat} {S' : St} {r : Int32} (v1 : Nat) (v2 : Int32) (v3 : Int32) (S : St) (h : o_lossOf v1 v2 v3 S = some (r, S')) : RC KO (d + 3) 2233 [.ref 1, .ref v1, .int v2, .int v3] S (some (.int r)) S' := RC.of rfl (s0_o_lossOf v1 v2 v3 S h)
-- NameOrchard loss (I)I
def o_loss_11 (S : St) : Re Int32 :=
  some ((-1 : Int32), S)
set_option maxRecDepth 100000 in
theorem s_o_loss_11 {d : Nat} {S' : St} {r : Int32} (S : St) (h : o_loss_11 S = some (r, S')) : RR KO (d + 4) 2220 11 [] [] S (some (.int r)) S' := by
  unfold o_loss_11 at h
  refine RR.runs (pc' := 12) (lc' := []) (st' := [.int (-1 : Int32)]) (S1 := S) (nL := 4) (cd := cd_2220) mx_2220 rfl rfl 1 rfl ?_
  cases h
  exact RR.reti mx_2220 rfl rfl rfl
def o_loss_53 (v2 : Int32) (S : St) : Re Int32 :=
  some (v2, S)
set_option maxRecDepth 100000 in
theorem s_o_loss_53 {d : Nat} {S' : St} {r : Int32} (v2 : Int32) (S : St) (h : o_loss_53 v2 S = some (r, S')) : RR KO (d + 4) 2220 53 [(2, .int v2)] [] S (some (.int r)) S' := by
  unfold o_loss_53 at h
  refine RR.runs (pc' := 54) (lc' := [(2, .int v2)]) (st' := [.int v2]) (S1 := S) (nL := 4) (cd := cd_2220) mx_2220 rfl rfl 1 rfl ?_
  cases h
  exact RR.reti mx_2220 rfl rfl rfl
def o_loss_17 : Nat → Int32 → Int32 → Int32 → St → Re Int32
  | 0, _, _, _, _ => none
  | n + 1, v1, v2, v3, S =>
  oq (rQ S 1 9) none fun o1 =>
  if KO.1 o1 = (0, 10) then (
  if KO.1 (o1 + 80) = (0, 7) then (
bn (o_tb_size (o1 + 80) S) fun r4 S5 =>
  if v3 < r4 then (
    bn (o_lossOf 200 v3 v1 S5) fun r6 S7 =>
    lt' ((v2 + r6) : Int32) fun x8 =>
    lt' ((v3 + (1 : Int32)) : Int32) fun x9 =>
    o_loss_17 n v1 x8 x9 S7)
  else (
    o_loss_53 v2 S5)) else none) else none
set_option maxRecDepth 100000 in
theorem s_o_loss_17 {d : Nat} {S' : St} {r : Int32} : ∀ (n : Nat) (v1 : Int32) (v2 : Int32) (v3 : Int32) (S : St), o_loss_17 n v1 v2 v3 S = some (r, S') → RR KO (d + 4) 2220 17 [(0, .ref 1), (1, .int v1), (2, .int v2), (3, .int v3)] [] S (some (.int r)) S' := by
  intro n
  induction n with
  | zero => intro v1 v2 v3 S h; simp only [o_loss_17] at h; cases h
  | succ n ih =>
    intro v1 v2 v3 S h
    simp only [o_loss_17] at h
    refine RR.runs (pc' := 22) (lc' := [(0, .ref 1), (1, .int v1), (2, .int v2), (3, .int v3)]) (st' := [qv (rQ S 1 9), .int v3]) (S1 := S) (nL := 4) (cd := cd_2220) mx_2220 rfl rfl 3 rfl ?_
    rcases oqE h with ⟨e1, h⟩ | ⟨o1, eo1, h⟩
    · cases h
    rw [eo1]
    obtain ⟨g2, h⟩ := gpE h
    refine RR.gPo (pc' := 25) (lc' := [(0, .ref 1), (1, .int v1), (2, .int v2), (3, .int v3)]) (st' := [.ref (o1 + 80), .int v3]) (S1 := S) (nL := 4) (cd := cd_2220) mx_2220 rfl rfl rfl ⟨g2, by decide, by decide⟩ ?_
    obtain ⟨g3, h⟩ := gpE h
    obtain ⟨r4, S5, h1, h⟩ := bnE h
    refine RR.callV (b := (o1 + 80)) (as := []) (rest := [.int v3]) (r1 := (some (.int r4))) (S1 := S5) mx_2220 rfl rfl mx_1402 rfl rfl (by decide) (Or.inl g3) (Nat.le_of_ble_eq_true rfl) (Nat.le_of_ble_eq_true rfl) (RC.deep (by omega) (s_o_tb_size (d := d) _ _ h1)) ?_
    show RR KO _ 2220 28 [(0, .ref 1), (1, .int v1), (2, .int v2), (3, .int v3)] [.int r4, .int v3] S5 _ _
    refine RR.runs (pc' := icm .ge v3 r4 53 31) (lc' := [(0, .ref 1), (1, .int v1), (2, .int v2), (3, .int v3)]) (st' := []) (S1 := S5) (nL := 4) (cd := cd_2220) mx_2220 rfl rfl 1 rfl ?_
    rcases ifE h with ⟨c, h⟩ | ⟨c, h⟩
    · refine RR.c_ge (fun _ => ?_) (fun q => absurd c q)
      refine RR.runs (pc' := 42) (lc' := [(0, .ref 1), (1, .int v1), (2, .int v2), (3, .int v3)]) (st' := [.int v1, .int v3, .ref 200, .ref 1, .int v2]) (S1 := S5) (nL := 4) (cd := cd_2220) mx_2220 rfl rfl 7 rfl ?_
      obtain ⟨r6, S7, h1, h⟩ := bnE h
      refine RR.callV (b := 1) (as := [.ref 200, .int v3, .int v1]) (rest := [.int v2]) (r1 := (some (.int r6))) (S1 := S7) mx_2220 rfl rfl mx_2233 rfl rfl (by decide) (Or.inl rfl) (Nat.le_of_ble_eq_true rfl) (Nat.le_of_ble_eq_true rfl) (RC.deep (by omega) (s_o_lossOf (d := d) _ _ _ _ h1)) ?_
      show RR KO _ 2220 45 [(0, .ref 1), (1, .int v1), (2, .int v2), (3, .int v3)] [.int r6, .int v2] S7 _ _
      refine RR.runs (pc' := 47) (lc' := [(2, .int (v2 + r6)), (0, .ref 1), (1, .int v1), (3, .int v3)]) (st' := []) (S1 := S7) (nL := 4) (cd := cd_2220) mx_2220 rfl rfl 2 rfl ?_
      obtain ⟨x8, ex8, h⟩ := ltE h
      rw [← ex8]
      refine RR.runs (pc' := 50) (lc' := [(3, .int ((v3 + (1 : Int32)))), (2, .int x8), (0, .ref 1), (1, .int v1)]) (st' := []) (S1 := S7) (nL := 4) (cd := cd_2220) mx_2220 rfl rfl 1 rfl ?_
      obtain ⟨x9, ex9, h⟩ := ltE h
      rw [← ex9]
      refine RR.runs (pc' := 17) (lc' := [(3, .int x9), (2, .int x8), (0, .ref 1), (1, .int v1)]) (st' := []) (S1 := S7) (nL := 4) (cd := cd_2220) mx_2220 rfl rfl 1 rfl ?_
      refine RR.weak [(0, .ref 1), (1, .int v1), (2, .int x8), (3, .int x9)] ⟨rfl, rfl, rfl, rfl, trivial⟩ ?_
      exact ih _ _ _ _ h
    · refine RR.c_ge (fun q => absurd q c) (fun _ => ?_)
      refine RR.weak [(2, .int v2)] ⟨rfl, trivial⟩ ?_
      exact s_o_loss_53 _ _ h
def o_loss (v1 : Int32) (S : St) : Re Int32 :=
  if v1 < (1 : Int32) then (
    o_loss_11 S)
  else (
    if (30 : Int32) < v1 then (
      o_loss_11 S)
    else (
      o_loss_17 FU v1 (0 : Int32) (0 : Int32) S))
set_option maxRecDepth 100000 in
theorem s0_o_loss {d : Nat} {S' : St} {r : Int32} (v1 : Int32) (S : St) (h : o_loss v1 S = some (r, S')) : RR KO (d + 4) 2220 0 [(0, .ref 1), (1, .int v1)] [] S (some (.int r)) S' := by
  unfold o_loss at h
  refine RR.runs (pc' := icm .lt v1 (1 : Int32) 11 5) (lc' := [(0, .ref 1), (1, .int v1)]) (st' := []) (S1 := S) (nL := 4) (cd := cd_2220) mx_2220 rfl rfl 3 rfl ?_
  rcases ifE h with ⟨c, h⟩ | ⟨c, h⟩
  · refine RR.c_lt (fun _ => ?_) (fun q => absurd c q)
    refine RR.weak [] trivial ?_
    exact s_o_loss_11 _ h
  · refine RR.c_lt (fun q => absurd q c) (fun _ => ?_)
    refine RR.runs (pc' := icm .le v1 (30 : Int32) 13 11) (lc' := [(0, .ref 1), (1, .int v1)]) (st' := []) (S1 := S) (nL := 4) (cd := cd_2220) mx_2220 rfl rfl 3 rfl ?_
    rcases ifE h with ⟨c, h⟩ | ⟨c, h⟩
    · refine RR.c_le (fun _ => ?_) (fun q => absurd c q)
      refine RR.weak [] trivial ?_
      exact s_o_loss_11 _ h
    · refine RR.c_le (fun q => absurd q c) (fun _ => ?_)
      refine RR.runs (pc' := 17) (lc' := [(3, .int (0 : Int32)), (2, .int (0 : Int32)), (0, .ref 1), (1, .int v1)]) (st' := []) (S1 := S) (nL := 4) (cd := cd_2220) mx_2220 rfl rfl 4 rfl ?_
      refine RR.weak [(0, .ref 1), (1, .int v1), (2, .int (0 : Int32)), (3, .int (0 : Int32))] ⟨rfl, rfl, rfl, rfl, trivial⟩ ?_
      exact s_o_loss_17 _ _ _ _ _ h
theorem s_o_loss {d : Nat} {S' : St} {r : Int32} (v1 : Int32) (S : St) (h : o_loss v1 S = some (r, S')) : RC KO (d + 4) 2220 [.ref 1, .int v1] S (some (.int r)) S' := RC.of rfl (s0_o_loss v1 S h)
-- NameOrchard best (II)I
def o_best_25 (S : St) : Re Int32 :=
  some ((-1 : Int32), S)
set_option maxRecDepth 100000 in
theorem s_o_best_25 {d : Nat} {S' : St} {r : Int32} (S : St) (h : o_best_25 S = some (r, S')) : RR KO (d + 4) 2221 25 [] [] S (some (.int r)) S' := by
  unfold o_best_25 at h
  refine RR.runs (pc' := 26) (lc' := []) (st' := [.int (-1 : Int32)]) (S1 := S) (nL := 7) (cd := cd_2221) mx_2221 rfl rfl 1 rfl ?_
  cases h
  exact RR.reti mx_2221 rfl rfl rfl
def o_best_124 (k49 : Int32 → Int32 → Int32 → Int32 → Int32 → St → Re Int32) (v1 : Int32) (v2 : Int32) (v3 : Int32) (v4 : Int32) (v5 : Int32) (S : St) : Re Int32 :=
  lt' ((v5 + (1 : Int32)) : Int32) fun x1 =>
  k49 v1 v2 v3 v4 x1 S
set_option maxRecDepth 100000 in
theorem s_o_best_124 {d : Nat} (k49 : Int32 → Int32 → Int32 → Int32 → Int32 → St → Re Int32) {S' : St} {r : Int32} (b49 : ∀ (v1 : Int32) (v2 : Int32) (v3 : Int32) (v4 : Int32) (v5 : Int32) (S : St), k49 v1 v2 v3 v4 v5 S = some (r, S') → RR KO (d + 4) 2221 49 [(0, .ref 1), (1, .int v1), (2, .int v2), (3, .int v3), (4, .int v4), (5, .int v5)] [] S (some (.int r)) S') (v1 : Int32) (v2 : Int32) (v3 : Int32) (v4 : Int32) (v5 : Int32) (S : St) (h : o_best_124 k49 v1 v2 v3 v4 v5 S = some (r, S')) : RR KO (d + 4) 2221 124 [(0, .ref 1), (1, .int v1), (2, .int v2), (3, .int v3), (4, .int v4), (5, .int v5)] [] S (some (.int r)) S' := by
  unfold o_best_124 at h
  refine RR.runs (pc' := 127) (lc' := [(5, .int ((v5 + (1 : Int32)))), (0, .ref 1), (1, .int v1), (2, .int v2), (3, .int v3), (4, .int v4)]) (st' := []) (S1 := S) (nL := 7) (cd := cd_2221) mx_2221 rfl rfl 1 rfl ?_
  obtain ⟨x1, ex1, h⟩ := ltE h
  rw [← ex1]
  refine RR.runs (pc' := 49) (lc' := [(5, .int x1), (0, .ref 1), (1, .int v1), (2, .int v2), (3, .int v3), (4, .int v4)]) (st' := []) (S1 := S) (nL := 7) (cd := cd_2221) mx_2221 rfl rfl 1 rfl ?_
  refine RR.weak [(0, .ref 1), (1, .int v1), (2, .int v2), (3, .int v3), (4, .int v4), (5, .int x1)] ⟨rfl, rfl, rfl, rfl, rfl, rfl, trivial⟩ ?_
  exact b49 _ _ _ _ _ _ h
def o_best_117 (k49 : Int32 → Int32 → Int32 → Int32 → Int32 → St → Re Int32) (v1 : Int32) (v2 : Int32) (v5 : Int32) (v6 : Int32) (S : St) : Re Int32 :=
  o_best_124 k49 v1 v2 v5 v6 v5 S
set_option maxRecDepth 100000 in
theorem s_o_best_117 {d : Nat} (k49 : Int32 → Int32 → Int32 → Int32 → Int32 → St → Re Int32) {S' : St} {r : Int32} (b49 : ∀ (v1 : Int32) (v2 : Int32) (v3 : Int32) (v4 : Int32) (v5 : Int32) (S : St), k49 v1 v2 v3 v4 v5 S = some (r, S') → RR KO (d + 4) 2221 49 [(0, .ref 1), (1, .int v1), (2, .int v2), (3, .int v3), (4, .int v4), (5, .int v5)] [] S (some (.int r)) S') (v1 : Int32) (v2 : Int32) (v5 : Int32) (v6 : Int32) (S : St) (h : o_best_117 k49 v1 v2 v5 v6 S = some (r, S')) : RR KO (d + 4) 2221 117 [(0, .ref 1), (1, .int v1), (2, .int v2), (5, .int v5), (6, .int v6)] [] S (some (.int r)) S' := by
  unfold o_best_117 at h
  refine RR.runs (pc' := 124) (lc' := [(4, .int v6), (3, .int v5), (0, .ref 1), (1, .int v1), (2, .int v2), (5, .int v5), (6, .int v6)]) (st' := []) (S1 := S) (nL := 7) (cd := cd_2221) mx_2221 rfl rfl 4 rfl ?_
  refine RR.weak [(0, .ref 1), (1, .int v1), (2, .int v2), (3, .int v5), (4, .int v6), (5, .int v5)] ⟨rfl, rfl, rfl, rfl, rfl, rfl, trivial⟩ ?_
  exact s_o_best_124 _ b49 _ _ _ _ _ _ h
def o_best_130 (v3 : Int32) (S : St) : Re Int32 :=
  some (v3, S)
set_option maxRecDepth 100000 in
theorem s_o_best_130 {d : Nat} {S' : St} {r : Int32} (v3 : Int32) (S : St) (h : o_best_130 v3 S = some (r, S')) : RR KO (d + 4) 2221 130 [(3, .int v3)] [] S (some (.int r)) S' := by
  unfold o_best_130 at h
  refine RR.runs (pc' := 131) (lc' := [(3, .int v3)]) (st' := [.int v3]) (S1 := S) (nL := 7) (cd := cd_2221) mx_2221 rfl rfl 1 rfl ?_
  cases h
  exact RR.reti mx_2221 rfl rfl rfl
def o_best_49 : Nat → Int32 → Int32 → Int32 → Int32 → Int32 → St → Re Int32
  | 0, _, _, _, _, _, _ => none
  | n + 1, v1, v2, v3, v4, v5, S =>
  oq (rQ S 1 9) none fun o1 =>
  if KO.1 o1 = (0, 10) then (
  if KO.1 (o1 + 2) = (0, 2) then (
bn (o_na_size (o1 + 2) S) fun r4 S5 =>
  if v5 < r4 then (
    bn (o_sd_hasOther 200 v1 v5 S5) fun r6 S7 =>
    if r6 = 0 then (
      bn (o_sd_name 205 v1 v5 S7) fun r8 S9 =>
      bn (o_lossOf 205 v1 v2 S9) fun r10 S11 =>
      if v3 = (-1 : Int32) then (
        o_best_117 (o_best_49 n) v1 v2 v5 r10 S11)
      else (
        if r10 < v4 then (
          o_best_117 (o_best_49 n) v1 v2 v5 r10 S11)
        else (
          o_best_124 (o_best_49 n) v1 v2 v3 v4 v5 S11)))
    else (
      o_best_124 (o_best_49 n) v1 v2 v3 v4 v5 S7))
  else (
    o_best_130 v3 S5)) else none) else none
set_option maxRecDepth 100000 in
theorem s_o_best_49 {d : Nat} {S' : St} {r : Int32} : ∀ (n : Nat) (v1 : Int32) (v2 : Int32) (v3 : Int32) (v4 : Int32) (v5 : Int32) (S : St), o_best_49 n v1 v2 v3 v4 v5 S = some (r, S') → RR KO (d + 4) 2221 49 [(0, .ref 1), (1, .int v1), (2, .int v2), (3, .int v3), (4, .int v4), (5, .int v5)] [] S (some (.int r)) S' := by
  intro n
  induction n with
  | zero => intro v1 v2 v3 v4 v5 S h; simp only [o_best_49] at h; cases h
  | succ n ih =>
    intro v1 v2 v3 v4 v5 S h
    simp only [o_best_49] at h
    refine RR.runs (pc' := 55) (lc' := [(0, .ref 1), (1, .int v1), (2, .int v2), (3, .int v3), (4, .int v4), (5, .int v5)]) (st' := [qv (rQ S 1 9), .int v5]) (S1 := S) (nL := 7) (cd := cd_2221) mx_2221 rfl rfl 3 rfl ?_
    rcases oqE h with ⟨e1, h⟩ | ⟨o1, eo1, h⟩
    · cases h
    rw [eo1]
    obtain ⟨g2, h⟩ := gpE h
    refine RR.gPo (pc' := 58) (lc' := [(0, .ref 1), (1, .int v1), (2, .int v2), (3, .int v3), (4, .int v4), (5, .int v5)]) (st' := [.ref (o1 + 2), .int v5]) (S1 := S) (nL := 7) (cd := cd_2221) mx_2221 rfl rfl rfl ⟨g2, by decide, by decide⟩ ?_
    obtain ⟨g3, h⟩ := gpE h
    obtain ⟨r4, S5, h1, h⟩ := bnE h
    refine RR.callV (b := (o1 + 2)) (as := []) (rest := [.int v5]) (r1 := (some (.int r4))) (S1 := S5) mx_2221 rfl rfl mx_403 rfl rfl (by decide) (Or.inl g3) (Nat.le_of_ble_eq_true rfl) (Nat.le_of_ble_eq_true rfl) (RC.deep (by omega) (s_o_na_size (d := d) _ _ h1)) ?_
    show RR KO _ 2221 61 [(0, .ref 1), (1, .int v1), (2, .int v2), (3, .int v3), (4, .int v4), (5, .int v5)] [.int r4, .int v5] S5 _ _
    refine RR.runs (pc' := icm .ge v5 r4 130 64) (lc' := [(0, .ref 1), (1, .int v1), (2, .int v2), (3, .int v3), (4, .int v4), (5, .int v5)]) (st' := []) (S1 := S5) (nL := 7) (cd := cd_2221) mx_2221 rfl rfl 1 rfl ?_
    rcases ifE h with ⟨c, h⟩ | ⟨c, h⟩
    · refine RR.c_ge (fun _ => ?_) (fun q => absurd c q)
      refine RR.runs (pc' := 74) (lc' := [(0, .ref 1), (1, .int v1), (2, .int v2), (3, .int v3), (4, .int v4), (5, .int v5)]) (st' := [.int v5, .int v1, .ref 200]) (S1 := S5) (nL := 7) (cd := cd_2221) mx_2221 rfl rfl 5 rfl ?_
      obtain ⟨r6, S7, h1, h⟩ := bnE h
      refine RR.callV (b := 200) (as := [.int v1, .int v5]) (rest := []) (r1 := (some (.int r6))) (S1 := S7) mx_2221 rfl rfl mx_1007 rfl rfl (by decide) (Or.inl rfl) (Nat.le_of_ble_eq_true rfl) (Nat.le_of_ble_eq_true rfl) (RC.deep (by omega) (s_o_sd_hasOther (d := d) _ _ _ _ h1)) ?_
      show RR KO _ 2221 77 [(0, .ref 1), (1, .int v1), (2, .int v2), (3, .int v3), (4, .int v4), (5, .int v5)] [.int r6] S7 _ _
      refine RR.runs (pc' := icm .eq r6 0 83 80) (lc' := [(0, .ref 1), (1, .int v1), (2, .int v2), (3, .int v3), (4, .int v4), (5, .int v5)]) (st' := []) (S1 := S7) (nL := 7) (cd := cd_2221) mx_2221 rfl rfl 1 rfl ?_
      rcases ifE h with ⟨c, h⟩ | ⟨c, h⟩
      · refine RR.c_eq (fun _ => ?_) (fun q => absurd c q)
        refine RR.runs (pc' := 90) (lc' := [(0, .ref 1), (1, .int v1), (2, .int v2), (3, .int v3), (4, .int v4), (5, .int v5)]) (st' := [.int v5, .int v1, .ref 205]) (S1 := S7) (nL := 7) (cd := cd_2221) mx_2221 rfl rfl 4 rfl ?_
        obtain ⟨r8, S9, h1, h⟩ := bnE h
        refine RR.callV (b := 205) (as := [.int v1, .int v5]) (rest := []) (r1 := none) (S1 := S9) mx_2221 rfl rfl mx_1006 rfl rfl (by decide) (Or.inl rfl) (Nat.le_of_ble_eq_true rfl) (Nat.le_of_ble_eq_true rfl) (RC.deep (by omega) (s_o_sd_name (d := d) _ _ _ _ h1)) ?_
        show RR KO _ 2221 93 [(0, .ref 1), (1, .int v1), (2, .int v2), (3, .int v3), (4, .int v4), (5, .int v5)] [] S9 _ _
        refine RR.runs (pc' := 100) (lc' := [(0, .ref 1), (1, .int v1), (2, .int v2), (3, .int v3), (4, .int v4), (5, .int v5)]) (st' := [.int v2, .int v1, .ref 205, .ref 1]) (S1 := S9) (nL := 7) (cd := cd_2221) mx_2221 rfl rfl 5 rfl ?_
        obtain ⟨r10, S11, h1, h⟩ := bnE h
        refine RR.callV (b := 1) (as := [.ref 205, .int v1, .int v2]) (rest := []) (r1 := (some (.int r10))) (S1 := S11) mx_2221 rfl rfl mx_2233 rfl rfl (by decide) (Or.inl rfl) (Nat.le_of_ble_eq_true rfl) (Nat.le_of_ble_eq_true rfl) (RC.deep (by omega) (s_o_lossOf (d := d) _ _ _ _ h1)) ?_
        show RR KO _ 2221 103 [(0, .ref 1), (1, .int v1), (2, .int v2), (3, .int v3), (4, .int v4), (5, .int v5)] [.int r10] S11 _ _
        refine RR.runs (pc' := icm .eq v3 (-1 : Int32) 117 110) (lc' := [(6, .int r10), (0, .ref 1), (1, .int v1), (2, .int v2), (3, .int v3), (4, .int v4), (5, .int v5)]) (st' := []) (S1 := S11) (nL := 7) (cd := cd_2221) mx_2221 rfl rfl 4 rfl ?_
        rcases ifE h with ⟨c, h⟩ | ⟨c, h⟩
        · refine RR.c_eq (fun _ => ?_) (fun q => absurd c q)
          refine RR.weak [(0, .ref 1), (1, .int v1), (2, .int v2), (5, .int v5), (6, .int r10)] ⟨rfl, rfl, rfl, rfl, rfl, trivial⟩ ?_
          exact s_o_best_117 _ (fun _ _ _ _ _ S h => ih _ _ _ _ _ S h) _ _ _ _ _ h
        · refine RR.c_eq (fun q => absurd q c) (fun _ => ?_)
          refine RR.runs (pc' := icm .ge r10 v4 124 117) (lc' := [(6, .int r10), (0, .ref 1), (1, .int v1), (2, .int v2), (3, .int v3), (4, .int v4), (5, .int v5)]) (st' := []) (S1 := S11) (nL := 7) (cd := cd_2221) mx_2221 rfl rfl 3 rfl ?_
          rcases ifE h with ⟨c, h⟩ | ⟨c, h⟩
          · refine RR.c_ge (fun _ => ?_) (fun q => absurd c q)
            refine RR.weak [(0, .ref 1), (1, .int v1), (2, .int v2), (5, .int v5), (6, .int r10)] ⟨rfl, rfl, rfl, rfl, rfl, trivial⟩ ?_
            exact s_o_best_117 _ (fun _ _ _ _ _ S h => ih _ _ _ _ _ S h) _ _ _ _ _ h
          · refine RR.c_ge (fun q => absurd q c) (fun _ => ?_)
            refine RR.weak [(0, .ref 1), (1, .int v1), (2, .int v2), (3, .int v3), (4, .int v4), (5, .int v5)] ⟨rfl, rfl, rfl, rfl, rfl, rfl, trivial⟩ ?_
            exact s_o_best_124 _ (fun _ _ _ _ _ S h => ih _ _ _ _ _ S h) _ _ _ _ _ _ h
      · refine RR.c_eq (fun q => absurd q c) (fun _ => ?_)
        refine RR.runs (pc' := 124) (lc' := [(0, .ref 1), (1, .int v1), (2, .int v2), (3, .int v3), (4, .int v4), (5, .int v5)]) (st' := []) (S1 := S7) (nL := 7) (cd := cd_2221) mx_2221 rfl rfl 1 rfl ?_
        refine RR.weak [(0, .ref 1), (1, .int v1), (2, .int v2), (3, .int v3), (4, .int v4), (5, .int v5)] ⟨rfl, rfl, rfl, rfl, rfl, rfl, trivial⟩ ?_
        exact s_o_best_124 _ (fun _ _ _ _ _ S h => ih _ _ _ _ _ S h) _ _ _ _ _ _ h
    · refine RR.c_ge (fun q => absurd q c) (fun _ => ?_)
      refine RR.weak [(3, .int v3)] ⟨rfl, trivial⟩ ?_
      exact s_o_best_130 _ _ h
def o_best (v1 : Int32) (v2 : Int32) (S : St) : Re Int32 :=
  if v2 < (1 : Int32) then (
    o_best_25 S)
  else (
    if (30 : Int32) < v2 then (
      o_best_25 S)
    else (
      bn (o_sd_hangs 200 v1 S) fun r1 S2 =>
      if r1 = 0 then (
        o_best_25 S2)
      else (
        bn (o_sd_copy 205 200 S2) fun r3 S4 =>
        o_best_49 FU v1 v2 (-1 : Int32) (0 : Int32) (0 : Int32) S4)))
set_option maxRecDepth 100000 in
theorem s0_o_best {d : Nat} {S' : St} {r : Int32} (v1 : Int32) (v2 : Int32) (S : St) (h : o_best v1 v2 S = some (r, S')) : RR KO (d + 4) 2221 0 [(0, .ref 1), (1, .int v1), (2, .int v2)] [] S (some (.int r)) S' := by
  unfold o_best at h
  refine RR.runs (pc' := icm .lt v2 (1 : Int32) 25 5) (lc' := [(0, .ref 1), (1, .int v1), (2, .int v2)]) (st' := []) (S1 := S) (nL := 7) (cd := cd_2221) mx_2221 rfl rfl 3 rfl ?_
  rcases ifE h with ⟨c, h⟩ | ⟨c, h⟩
  · refine RR.c_lt (fun _ => ?_) (fun q => absurd c q)
    refine RR.weak [] trivial ?_
    exact s_o_best_25 _ h
  · refine RR.c_lt (fun q => absurd q c) (fun _ => ?_)
    refine RR.runs (pc' := icm .gt v2 (30 : Int32) 25 11) (lc' := [(0, .ref 1), (1, .int v1), (2, .int v2)]) (st' := []) (S1 := S) (nL := 7) (cd := cd_2221) mx_2221 rfl rfl 3 rfl ?_
    rcases ifE h with ⟨c, h⟩ | ⟨c, h⟩
    · refine RR.c_gt (fun _ => ?_) (fun q => absurd c q)
      refine RR.weak [] trivial ?_
      exact s_o_best_25 _ h
    · refine RR.c_gt (fun q => absurd q c) (fun _ => ?_)
      refine RR.runs (pc' := 19) (lc' := [(0, .ref 1), (1, .int v1), (2, .int v2)]) (st' := [.int v1, .ref 200]) (S1 := S) (nL := 7) (cd := cd_2221) mx_2221 rfl rfl 4 rfl ?_
      obtain ⟨r1, S2, h1, h⟩ := bnE h
      refine RR.callV (b := 200) (as := [.int v1]) (rest := []) (r1 := (some (.int r1))) (S1 := S2) mx_2221 rfl rfl mx_1003 rfl rfl (by decide) (Or.inl rfl) (Nat.le_of_ble_eq_true rfl) (Nat.le_of_ble_eq_true rfl) (RC.deep (by omega) (s_o_sd_hangs (d := d) _ _ _ h1)) ?_
      show RR KO _ 2221 22 [(0, .ref 1), (1, .int v1), (2, .int v2)] [.int r1] S2 _ _
      refine RR.runs (pc' := icm .ne r1 0 27 25) (lc' := [(0, .ref 1), (1, .int v1), (2, .int v2)]) (st' := []) (S1 := S2) (nL := 7) (cd := cd_2221) mx_2221 rfl rfl 1 rfl ?_
      rcases ifE h with ⟨c, h⟩ | ⟨c, h⟩
      · refine RR.c_ne (fun _ => ?_) (fun q => absurd c q)
        refine RR.weak [] trivial ?_
        exact s_o_best_25 _ h
      · refine RR.c_ne (fun q => absurd q c) (fun _ => ?_)
        refine RR.runs (pc' := 38) (lc' := [(0, .ref 1), (1, .int v1), (2, .int v2)]) (st' := [.ref 200, .ref 205]) (S1 := S2) (nL := 7) (cd := cd_2221) mx_2221 rfl rfl 5 rfl ?_
        obtain ⟨r3, S4, h1, h⟩ := bnE h
        refine RR.callV (b := 205) (as := [.ref 200]) (rest := []) (r1 := none) (S1 := S4) mx_2221 rfl rfl mx_1002 rfl rfl (by decide) (Or.inl rfl) (Nat.le_of_ble_eq_true rfl) (Nat.le_of_ble_eq_true rfl) (RC.deep (by omega) (s_o_sd_copy (d := d) _ _ _ h1)) ?_
        show RR KO _ 2221 41 [(0, .ref 1), (1, .int v1), (2, .int v2)] [] S4 _ _
        refine RR.runs (pc' := 49) (lc' := [(5, .int (0 : Int32)), (4, .int (0 : Int32)), (3, .int (-1 : Int32)), (0, .ref 1), (1, .int v1), (2, .int v2)]) (st' := []) (S1 := S4) (nL := 7) (cd := cd_2221) mx_2221 rfl rfl 6 rfl ?_
        refine RR.weak [(0, .ref 1), (1, .int v1), (2, .int v2), (3, .int (-1 : Int32)), (4, .int (0 : Int32)), (5, .int (0 : Int32))] ⟨rfl, rfl, rfl, rfl, rfl, rfl, trivial⟩ ?_
        exact s_o_best_49 _ _ _ _ _ _ _ h
theorem s_o_best {d : Nat} {S' : St} {r : Int32} (v1 : Int32) (v2 : Int32) (S : St) (h : o_best v1 v2 S = some (r, S')) : RC KO (d + 4) 2221 [.ref 1, .int v1, .int v2] S (some (.int r)) S' := RC.of rfl (s0_o_best v1 v2 S h)
