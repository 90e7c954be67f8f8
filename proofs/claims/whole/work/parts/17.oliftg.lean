/-! Methods of the class, lifted (laid by wip/whole/gen/klass.py) -/
-- NameOrchard isVoice (II)Z
def o_isVoice_25 (p0 : Int32) (S : St) : Re Int32 :=
  if isBo p0 = true then some (p0, S) else none
set_option maxRecDepth 100000 in
theorem s_o_isVoice_25 {d : Nat} {S' : St} {r : Int32} (p0 : Int32) (S : St) (h : o_isVoice_25 p0 S = some (r, S')) : RR KO (d + 0) 2235 25 [] [.int p0] S (some (.int r)) S' := by
  unfold o_isVoice_25 at h
  obtain ⟨g, h⟩ := gpE h
  cases h
  exact RR.retz mx_2235 rfl rfl rfl g
def o_isVoice_24 (S : St) : Re Int32 :=
  o_isVoice_25 (0 : Int32) S
set_option maxRecDepth 100000 in
theorem s_o_isVoice_24 {d : Nat} {S' : St} {r : Int32} (S : St) (h : o_isVoice_24 S = some (r, S')) : RR KO (d + 0) 2235 24 [] [] S (some (.int r)) S' := by
  unfold o_isVoice_24 at h
  refine RR.runs (pc' := 25) (lc' := []) (st' := [.int (0 : Int32)]) (S1 := S) (nL := 2) (cd := cd_2235) mx_2235 rfl rfl 1 rfl ?_
  refine RR.weak [] trivial ?_
  exact s_o_isVoice_25 _ _ h
def o_isVoice (v0 : Int32) (v1 : Int32) (S : St) : Re Int32 :=
  if v0 < 0 then (
    o_isVoice_24 S)
  else (
    if (11 : Int32) < v0 then (
      o_isVoice_24 S)
    else (
      if v1 < 0 then (
        o_isVoice_24 S)
      else (
        if (6 : Int32) < v1 then (
          o_isVoice_24 S)
        else (
          o_isVoice_25 (1 : Int32) S))))
set_option maxRecDepth 100000 in
theorem s0_o_isVoice {d : Nat} {S' : St} {r : Int32} (v0 : Int32) (v1 : Int32) (S : St) (h : o_isVoice v0 v1 S = some (r, S')) : RR KO (d + 0) 2235 0 [(0, .int v0), (1, .int v1)] [] S (some (.int r)) S' := by
  unfold o_isVoice at h
  refine RR.runs (pc' := icm .lt v0 0 24 4) (lc' := [(0, .int v0), (1, .int v1)]) (st' := []) (S1 := S) (nL := 2) (cd := cd_2235) mx_2235 rfl rfl 2 rfl ?_
  rcases ifE h with ⟨c, h⟩ | ⟨c, h⟩
  · refine RR.c_lt (fun _ => ?_) (fun q => absurd c q)
    refine RR.weak [] trivial ?_
    exact s_o_isVoice_24 _ h
  · refine RR.c_lt (fun q => absurd q c) (fun _ => ?_)
    refine RR.runs (pc' := icm .gt v0 (11 : Int32) 24 10) (lc' := [(0, .int v0), (1, .int v1)]) (st' := []) (S1 := S) (nL := 2) (cd := cd_2235) mx_2235 rfl rfl 3 rfl ?_
    rcases ifE h with ⟨c, h⟩ | ⟨c, h⟩
    · refine RR.c_gt (fun _ => ?_) (fun q => absurd c q)
      refine RR.weak [] trivial ?_
      exact s_o_isVoice_24 _ h
    · refine RR.c_gt (fun q => absurd q c) (fun _ => ?_)
      refine RR.runs (pc' := icm .lt v1 0 24 14) (lc' := [(0, .int v0), (1, .int v1)]) (st' := []) (S1 := S) (nL := 2) (cd := cd_2235) mx_2235 rfl rfl 2 rfl ?_
      rcases ifE h with ⟨c, h⟩ | ⟨c, h⟩
      · refine RR.c_lt (fun _ => ?_) (fun q => absurd c q)
        refine RR.weak [] trivial ?_
        exact s_o_isVoice_24 _ h
      · refine RR.c_lt (fun q => absurd q c) (fun _ => ?_)
        refine RR.runs (pc' := icm .gt v1 (6 : Int32) 24 20) (lc' := [(0, .int v0), (1, .int v1)]) (st' := []) (S1 := S) (nL := 2) (cd := cd_2235) mx_2235 rfl rfl 3 rfl ?_
        rcases ifE h with ⟨c, h⟩ | ⟨c, h⟩
        · refine RR.c_gt (fun _ => ?_) (fun q => absurd c q)
          refine RR.weak [] trivial ?_
          exact s_o_isVoice_24 _ h
        · refine RR.c_gt (fun q => absurd q c) (fun _ => ?_)
          refine RR.runs (pc' := 25) (lc' := [(0, .int v0), (1, .int v1)]) (st' := [.int (1 : Int32)]) (S1 := S) (nL := 2) (cd := cd_2235) mx_2235 rfl rfl 2 rfl ?_
          refine RR.weak [] trivial ?_
          exact s_o_isVoice_25 _ _ h
theorem s_o_isVoice {d : Nat} {S' : St} {r : Int32} (v0 : Int32) (v1 : Int32) (S : St) (h : o_isVoice v0 v1 S = some (r, S')) : RC KO (d + 0) 2235 [.int v0, .int v1] S (some (.int r)) S' := RC.of rfl (s0_o_isVoice v0 v1 S h)
-- NameOrchard stolen (III)I
def o_stolen_91 (v4 : Int32) (S : St) : Re Int32 :=
  oq (rQ S 1 9) none fun o1 =>
  if KO.1 o1 = (0, 10) then (
bn (o_to_worthOf o1 v4 S) fun r3 S4 =>
  some (r3, S4)) else none
set_option maxRecDepth 100000 in
theorem s_o_stolen_91 {d : Nat} {S' : St} {r : Int32} (v4 : Int32) (S : St) (h : o_stolen_91 v4 S = some (r, S')) : RR KO (d + 6) 2236 91 [(0, .ref 1), (4, .int v4)] [] S (some (.int r)) S' := by
  unfold o_stolen_91 at h
  refine RR.runs (pc' := 95) (lc' := [(0, .ref 1), (4, .int v4)]) (st' := [qv (rQ S 1 9)]) (S1 := S) (nL := 7) (cd := cd_2236) mx_2236 rfl rfl 2 rfl ?_
  rcases oqE h with ⟨e1, h⟩ | ⟨o1, eo1, h⟩
  · cases h
  rw [eo1]
  refine RR.runs (pc' := 97) (lc' := [(0, .ref 1), (4, .int v4)]) (st' := [.int v4, .ref o1]) (S1 := S) (nL := 7) (cd := cd_2236) mx_2236 rfl rfl 1 rfl ?_
  obtain ⟨g2, h⟩ := gpE h
  obtain ⟨r3, S4, h1, h⟩ := bnE h
  refine RR.callV (b := o1) (as := [.int v4]) (rest := []) (r1 := (some (.int r3))) (S1 := S4) mx_2236 rfl rfl mx_2016 rfl rfl (by decide) (Or.inl g2) (Nat.le_of_ble_eq_true rfl) (Nat.le_of_ble_eq_true rfl) (RC.deep (by omega) (s_o_to_worthOf (d := d) _ _ _ h1)) ?_
  show RR KO _ 2236 100 [(0, .ref 1), (4, .int v4)] [.int r3] S4 _ _
  cases h
  exact RR.reti mx_2236 rfl rfl rfl
def o_stolen_20 : Nat → Int32 → Int32 → Int32 → Int32 → Int32 → St → Re Int32
  | 0, _, _, _, _, _, _ => none
  | n + 1, v1, v2, v3, v4, v5, S =>
  oq (rQ S 1 9) none fun o1 =>
  if KO.1 o1 = (0, 10) then (
  if KO.1 (o1 + 86) = (0, 7) then (
bn (o_tb_at (o1 + 86) v1 (0 : Int32) S) fun r4 S5 =>
  if v5 < r4 then (
    oq (rQ S5 1 9) none fun o6 =>
    if KO.1 o6 = (0, 10) then (
    if KO.1 (o6 + 86) = (0, 7) then (
bn (o_tb_at (o6 + 86) v1 (((1 : Int32) + v5)) S5) fun r9 S10 =>
    oq (rQ S10 1 9) none fun o11 =>
    oq (rQ S10 1 9) none fun o12 =>
    if KO.1 o12 = (0, 10) then (
    if KO.1 (o12 + 80) = (0, 7) then (
bn (o_tb_at (o12 + 80) r9 (5 : Int32) S10) fun r15 S16 =>
    bn (o_sd_cry 205 o11 v2 v3 r15 S16) fun r17 S18 =>
    lt' ((v4 ||| r17) : Int32) fun x19 =>
    lt' ((v5 + (1 : Int32)) : Int32) fun x20 =>
    o_stolen_20 n v1 v2 v3 x19 x20 S18) else none) else none) else none) else none)
  else (
    o_stolen_91 v4 S5)) else none) else none
set_option maxRecDepth 100000 in
theorem s_o_stolen_20 {d : Nat} {S' : St} {r : Int32} : ∀ (n : Nat) (v1 : Int32) (v2 : Int32) (v3 : Int32) (v4 : Int32) (v5 : Int32) (S : St), o_stolen_20 n v1 v2 v3 v4 v5 S = some (r, S') → RR KO (d + 6) 2236 20 [(0, .ref 1), (1, .int v1), (2, .int v2), (3, .int v3), (4, .int v4), (5, .int v5)] [] S (some (.int r)) S' := by
  intro n
  induction n with
  | zero => intro v1 v2 v3 v4 v5 S h; simp only [o_stolen_20] at h; cases h
  | succ n ih =>
    intro v1 v2 v3 v4 v5 S h
    simp only [o_stolen_20] at h
    refine RR.runs (pc' := 26) (lc' := [(0, .ref 1), (1, .int v1), (2, .int v2), (3, .int v3), (4, .int v4), (5, .int v5)]) (st' := [qv (rQ S 1 9), .int v5]) (S1 := S) (nL := 7) (cd := cd_2236) mx_2236 rfl rfl 3 rfl ?_
    rcases oqE h with ⟨e1, h⟩ | ⟨o1, eo1, h⟩
    · cases h
    rw [eo1]
    obtain ⟨g2, h⟩ := gpE h
    refine RR.gPo (pc' := 29) (lc' := [(0, .ref 1), (1, .int v1), (2, .int v2), (3, .int v3), (4, .int v4), (5, .int v5)]) (st' := [.ref (o1 + 86), .int v5]) (S1 := S) (nL := 7) (cd := cd_2236) mx_2236 rfl rfl rfl ⟨g2, by decide, by decide⟩ ?_
    refine RR.runs (pc' := 31) (lc' := [(0, .ref 1), (1, .int v1), (2, .int v2), (3, .int v3), (4, .int v4), (5, .int v5)]) (st' := [.int (0 : Int32), .int v1, .ref (o1 + 86), .int v5]) (S1 := S) (nL := 7) (cd := cd_2236) mx_2236 rfl rfl 2 rfl ?_
    obtain ⟨g3, h⟩ := gpE h
    obtain ⟨r4, S5, h1, h⟩ := bnE h
    refine RR.callV (b := (o1 + 86)) (as := [.int v1, .int (0 : Int32)]) (rest := [.int v5]) (r1 := (some (.int r4))) (S1 := S5) mx_2236 rfl rfl mx_1405 rfl rfl (by decide) (Or.inl g3) (Nat.le_of_ble_eq_true rfl) (Nat.le_of_ble_eq_true rfl) (RC.deep (by omega) (s_o_tb_at (d := d) _ _ _ _ h1)) ?_
    show RR KO _ 2236 34 [(0, .ref 1), (1, .int v1), (2, .int v2), (3, .int v3), (4, .int v4), (5, .int v5)] [.int r4, .int v5] S5 _ _
    refine RR.runs (pc' := icm .ge v5 r4 91 37) (lc' := [(0, .ref 1), (1, .int v1), (2, .int v2), (3, .int v3), (4, .int v4), (5, .int v5)]) (st' := []) (S1 := S5) (nL := 7) (cd := cd_2236) mx_2236 rfl rfl 1 rfl ?_
    rcases ifE h with ⟨c, h⟩ | ⟨c, h⟩
    · refine RR.c_ge (fun _ => ?_) (fun q => absurd c q)
      refine RR.runs (pc' := 41) (lc' := [(0, .ref 1), (1, .int v1), (2, .int v2), (3, .int v3), (4, .int v4), (5, .int v5)]) (st' := [qv (rQ S5 1 9)]) (S1 := S5) (nL := 7) (cd := cd_2236) mx_2236 rfl rfl 2 rfl ?_
      rcases oqE h with ⟨e1, h⟩ | ⟨o6, eo6, h⟩
      · cases h
      rw [eo6]
      obtain ⟨g7, h⟩ := gpE h
      refine RR.gPo (pc' := 44) (lc' := [(0, .ref 1), (1, .int v1), (2, .int v2), (3, .int v3), (4, .int v4), (5, .int v5)]) (st' := [.ref (o6 + 86)]) (S1 := S5) (nL := 7) (cd := cd_2236) mx_2236 rfl rfl rfl ⟨g7, by decide, by decide⟩ ?_
      refine RR.runs (pc' := 49) (lc' := [(0, .ref 1), (1, .int v1), (2, .int v2), (3, .int v3), (4, .int v4), (5, .int v5)]) (st' := [.int (((1 : Int32) + v5)), .int v1, .ref (o6 + 86)]) (S1 := S5) (nL := 7) (cd := cd_2236) mx_2236 rfl rfl 4 rfl ?_
      obtain ⟨g8, h⟩ := gpE h
      obtain ⟨r9, S10, h1, h⟩ := bnE h
      refine RR.callV (b := (o6 + 86)) (as := [.int v1, .int (((1 : Int32) + v5))]) (rest := []) (r1 := (some (.int r9))) (S1 := S10) mx_2236 rfl rfl mx_1405 rfl rfl (by decide) (Or.inl g8) (Nat.le_of_ble_eq_true rfl) (Nat.le_of_ble_eq_true rfl) (RC.deep (by omega) (s_o_tb_at (d := d) _ _ _ _ h1)) ?_
      show RR KO _ 2236 52 [(0, .ref 1), (1, .int v1), (2, .int v2), (3, .int v3), (4, .int v4), (5, .int v5)] [.int r9] S10 _ _
      refine RR.runs (pc' := 64) (lc' := [(6, .int r9), (0, .ref 1), (1, .int v1), (2, .int v2), (3, .int v3), (4, .int v4), (5, .int v5)]) (st' := [qv (rQ S10 1 9), .ref 205, .int v4]) (S1 := S10) (nL := 7) (cd := cd_2236) mx_2236 rfl rfl 6 rfl ?_
      rcases oqE h with ⟨e1, h⟩ | ⟨o11, eo11, h⟩
      · cases h
      rw [eo11]
      refine RR.runs (pc' := 70) (lc' := [(6, .int r9), (0, .ref 1), (1, .int v1), (2, .int v2), (3, .int v3), (4, .int v4), (5, .int v5)]) (st' := [qv (rQ S10 1 9), .int v3, .int v2, .ref o11, .ref 205, .int v4]) (S1 := S10) (nL := 7) (cd := cd_2236) mx_2236 rfl rfl 4 rfl ?_
      rcases oqE h with ⟨e1, h⟩ | ⟨o12, eo12, h⟩
      · cases h
      rw [eo12]
      obtain ⟨g13, h⟩ := gpE h
      refine RR.gPo (pc' := 73) (lc' := [(6, .int r9), (0, .ref 1), (1, .int v1), (2, .int v2), (3, .int v3), (4, .int v4), (5, .int v5)]) (st' := [.ref (o12 + 80), .int v3, .int v2, .ref o11, .ref 205, .int v4]) (S1 := S10) (nL := 7) (cd := cd_2236) mx_2236 rfl rfl rfl ⟨g13, by decide, by decide⟩ ?_
      refine RR.runs (pc' := 76) (lc' := [(6, .int r9), (0, .ref 1), (1, .int v1), (2, .int v2), (3, .int v3), (4, .int v4), (5, .int v5)]) (st' := [.int (5 : Int32), .int r9, .ref (o12 + 80), .int v3, .int v2, .ref o11, .ref 205, .int v4]) (S1 := S10) (nL := 7) (cd := cd_2236) mx_2236 rfl rfl 2 rfl ?_
      obtain ⟨g14, h⟩ := gpE h
      obtain ⟨r15, S16, h1, h⟩ := bnE h
      refine RR.callV (b := (o12 + 80)) (as := [.int r9, .int (5 : Int32)]) (rest := [.int v3, .int v2, .ref o11, .ref 205, .int v4]) (r1 := (some (.int r15))) (S1 := S16) mx_2236 rfl rfl mx_1405 rfl rfl (by decide) (Or.inl g14) (Nat.le_of_ble_eq_true rfl) (Nat.le_of_ble_eq_true rfl) (RC.deep (by omega) (s_o_tb_at (d := d) _ _ _ _ h1)) ?_
      show RR KO _ 2236 79 [(6, .int r9), (0, .ref 1), (1, .int v1), (2, .int v2), (3, .int v3), (4, .int v4), (5, .int v5)] [.int r15, .int v3, .int v2, .ref o11, .ref 205, .int v4] S16 _ _
      obtain ⟨r17, S18, h1, h⟩ := bnE h
      refine RR.callV (b := 205) (as := [.ref o11, .int v2, .int v3, .int r15]) (rest := [.int v4]) (r1 := (some (.int r17))) (S1 := S18) mx_2236 rfl rfl mx_1011 rfl rfl (by decide) (Or.inl rfl) (Nat.le_of_ble_eq_true rfl) (Nat.le_of_ble_eq_true rfl) (RC.deep (by omega) (s_o_sd_cry (d := d) _ _ _ _ _ _ h1)) ?_
      show RR KO _ 2236 82 [(6, .int r9), (0, .ref 1), (1, .int v1), (2, .int v2), (3, .int v3), (4, .int v4), (5, .int v5)] [.int r17, .int v4] S18 _ _
      refine RR.runs (pc' := 85) (lc' := [(4, .int (v4 ||| r17)), (6, .int r9), (0, .ref 1), (1, .int v1), (2, .int v2), (3, .int v3), (5, .int v5)]) (st' := []) (S1 := S18) (nL := 7) (cd := cd_2236) mx_2236 rfl rfl 2 rfl ?_
      obtain ⟨x19, ex19, h⟩ := ltE h
      rw [← ex19]
      refine RR.runs (pc' := 88) (lc' := [(5, .int ((v5 + (1 : Int32)))), (4, .int x19), (6, .int r9), (0, .ref 1), (1, .int v1), (2, .int v2), (3, .int v3)]) (st' := []) (S1 := S18) (nL := 7) (cd := cd_2236) mx_2236 rfl rfl 1 rfl ?_
      obtain ⟨x20, ex20, h⟩ := ltE h
      rw [← ex20]
      refine RR.runs (pc' := 20) (lc' := [(5, .int x20), (4, .int x19), (6, .int r9), (0, .ref 1), (1, .int v1), (2, .int v2), (3, .int v3)]) (st' := []) (S1 := S18) (nL := 7) (cd := cd_2236) mx_2236 rfl rfl 1 rfl ?_
      refine RR.weak [(0, .ref 1), (1, .int v1), (2, .int v2), (3, .int v3), (4, .int x19), (5, .int x20)] ⟨rfl, rfl, rfl, rfl, rfl, rfl, trivial⟩ ?_
      exact ih _ _ _ _ _ _ h
    · refine RR.c_ge (fun q => absurd q c) (fun _ => ?_)
      refine RR.weak [(0, .ref 1), (4, .int v4)] ⟨rfl, rfl, trivial⟩ ?_
      exact s_o_stolen_91 _ _ h
def o_stolen (v1 : Int32) (v2 : Int32) (v3 : Int32) (S : St) : Re Int32 :=
  bn (o_sd_copy 205 200 S) fun r1 S2 =>
  o_stolen_20 FU v1 v2 v3 (0 : Int32) (0 : Int32) S2
set_option maxRecDepth 100000 in
theorem s0_o_stolen {d : Nat} {S' : St} {r : Int32} (v1 : Int32) (v2 : Int32) (v3 : Int32) (S : St) (h : o_stolen v1 v2 v3 S = some (r, S')) : RR KO (d + 6) 2236 0 [(0, .ref 1), (1, .int v1), (2, .int v2), (3, .int v3)] [] S (some (.int r)) S' := by
  unfold o_stolen at h
  refine RR.runs (pc' := 11) (lc' := [(0, .ref 1), (1, .int v1), (2, .int v2), (3, .int v3)]) (st' := [.ref 200, .ref 205]) (S1 := S) (nL := 7) (cd := cd_2236) mx_2236 rfl rfl 5 rfl ?_
  obtain ⟨r1, S2, h1, h⟩ := bnE h
  refine RR.callV (b := 205) (as := [.ref 200]) (rest := []) (r1 := none) (S1 := S2) mx_2236 rfl rfl mx_1002 rfl rfl (by decide) (Or.inl rfl) (Nat.le_of_ble_eq_true rfl) (Nat.le_of_ble_eq_true rfl) (RC.deep (by omega) (s_o_sd_copy (d := d) _ _ _ h1)) ?_
  show RR KO _ 2236 14 [(0, .ref 1), (1, .int v1), (2, .int v2), (3, .int v3)] [] S2 _ _
  refine RR.runs (pc' := 20) (lc' := [(5, .int (0 : Int32)), (4, .int (0 : Int32)), (0, .ref 1), (1, .int v1), (2, .int v2), (3, .int v3)]) (st' := []) (S1 := S2) (nL := 7) (cd := cd_2236) mx_2236 rfl rfl 4 rfl ?_
  refine RR.weak [(0, .ref 1), (1, .int v1), (2, .int v2), (3, .int v3), (4, .int (0 : Int32)), (5, .int (0 : Int32))] ⟨rfl, rfl, rfl, rfl, rfl, rfl, trivial⟩ ?_
  exact s_o_stolen_20 _ _ _ _ _ _ _ h
theorem s_o_stolen {d : Nat} {S' : St} {r : Int32} (v1 : Int32) (v2 : Int32) (v3 : Int32) (S : St) (h : o_stolen v1 v2 v3 S = some (r, S')) : RC KO (d + 6) 2236 [.ref 1, .int v1, .int v2, .int v3] S (some (.int r)) S' := RC.of rfl (s0_o_stolen v1 v2 v3 S h)
-- NameOrchard hide (II)I
def o_hide_24 (S : St) : Re Int32 :=
  some ((-1 : Int32), S)
set_option maxRecDepth 100000 in
theorem s_o_hide_24 {d : Nat} {S' : St} {r : Int32} (S : St) (h : o_hide_24 S = some (r, S')) : RR KO (d + 7) 2223 24 [] [] S (some (.int r)) S' := by
  unfold o_hide_24 at h
  refine RR.runs (pc' := 25) (lc' := []) (st' := [.int (-1 : Int32)]) (S1 := S) (nL := 9) (cd := cd_2223) mx_2223 rfl rfl 1 rfl ?_
  cases h
  exact RR.reti mx_2223 rfl rfl rfl
def o_hide_78 (k47 : Int32 → Int32 → Int32 → Int32 → Int32 → Int32 → Int32 → Int32 → St → Re Int32) (v1 : Int32) (v2 : Int32) (v3 : Int32) (v4 : Int32) (v5 : Int32) (v6 : Int32) (v8 : Int32) (p0 : Int32) (S : St) : Re Int32 :=
  lt' ((v8 + (1 : Int32)) : Int32) fun x1 =>
  k47 v1 v2 v3 v4 v5 v6 p0 x1 S
set_option maxRecDepth 100000 in
theorem s_o_hide_78 {d : Nat} (k47 : Int32 → Int32 → Int32 → Int32 → Int32 → Int32 → Int32 → Int32 → St → Re Int32) {S' : St} {r : Int32} (b47 : ∀ (v1 : Int32) (v2 : Int32) (v3 : Int32) (v4 : Int32) (v5 : Int32) (v6 : Int32) (v7 : Int32) (v8 : Int32) (S : St), k47 v1 v2 v3 v4 v5 v6 v7 v8 S = some (r, S') → RR KO (d + 7) 2223 47 [(0, .ref 1), (1, .int v1), (2, .int v2), (3, .int v3), (4, .int v4), (5, .int v5), (6, .int v6), (7, .int v7), (8, .int v8)] [] S (some (.int r)) S') (v1 : Int32) (v2 : Int32) (v3 : Int32) (v4 : Int32) (v5 : Int32) (v6 : Int32) (v8 : Int32) (p0 : Int32) (S : St) (h : o_hide_78 k47 v1 v2 v3 v4 v5 v6 v8 p0 S = some (r, S')) : RR KO (d + 7) 2223 78 [(0, .ref 1), (1, .int v1), (2, .int v2), (3, .int v3), (4, .int v4), (5, .int v5), (6, .int v6), (8, .int v8)] [.int p0] S (some (.int r)) S' := by
  unfold o_hide_78 at h
  refine RR.runs (pc' := 83) (lc' := [(8, .int ((v8 + (1 : Int32)))), (7, .int p0), (0, .ref 1), (1, .int v1), (2, .int v2), (3, .int v3), (4, .int v4), (5, .int v5), (6, .int v6)]) (st' := []) (S1 := S) (nL := 9) (cd := cd_2223) mx_2223 rfl rfl 2 rfl ?_
  obtain ⟨x1, ex1, h⟩ := ltE h
  rw [← ex1]
  refine RR.runs (pc' := 47) (lc' := [(8, .int x1), (7, .int p0), (0, .ref 1), (1, .int v1), (2, .int v2), (3, .int v3), (4, .int v4), (5, .int v5), (6, .int v6)]) (st' := []) (S1 := S) (nL := 9) (cd := cd_2223) mx_2223 rfl rfl 1 rfl ?_
  refine RR.weak [(0, .ref 1), (1, .int v1), (2, .int v2), (3, .int v3), (4, .int v4), (5, .int v5), (6, .int v6), (7, .int p0), (8, .int x1)] ⟨rfl, rfl, rfl, rfl, rfl, rfl, rfl, rfl, rfl, trivial⟩ ?_
  exact b47 _ _ _ _ _ _ _ _ _ h
def o_hide_107 (k35 : Int32 → Int32 → Int32 → Int32 → Int32 → Int32 → St → Re Int32) (v1 : Int32) (v2 : Int32) (v3 : Int32) (v4 : Int32) (v5 : Int32) (v6 : Int32) (S : St) : Re Int32 :=
  lt' ((v6 + (1 : Int32)) : Int32) fun x1 =>
  k35 v1 v2 v3 v4 v5 x1 S
set_option maxRecDepth 100000 in
theorem s_o_hide_107 {d : Nat} (k35 : Int32 → Int32 → Int32 → Int32 → Int32 → Int32 → St → Re Int32) {S' : St} {r : Int32} (b35 : ∀ (v1 : Int32) (v2 : Int32) (v3 : Int32) (v4 : Int32) (v5 : Int32) (v6 : Int32) (S : St), k35 v1 v2 v3 v4 v5 v6 S = some (r, S') → RR KO (d + 7) 2223 35 [(0, .ref 1), (1, .int v1), (2, .int v2), (3, .int v3), (4, .int v4), (5, .int v5), (6, .int v6)] [] S (some (.int r)) S') (v1 : Int32) (v2 : Int32) (v3 : Int32) (v4 : Int32) (v5 : Int32) (v6 : Int32) (S : St) (h : o_hide_107 k35 v1 v2 v3 v4 v5 v6 S = some (r, S')) : RR KO (d + 7) 2223 107 [(0, .ref 1), (1, .int v1), (2, .int v2), (3, .int v3), (4, .int v4), (5, .int v5), (6, .int v6)] [] S (some (.int r)) S' := by
  unfold o_hide_107 at h
  refine RR.runs (pc' := 110) (lc' := [(6, .int ((v6 + (1 : Int32)))), (0, .ref 1), (1, .int v1), (2, .int v2), (3, .int v3), (4, .int v4), (5, .int v5)]) (st' := []) (S1 := S) (nL := 9) (cd := cd_2223) mx_2223 rfl rfl 1 rfl ?_
  obtain ⟨x1, ex1, h⟩ := ltE h
  rw [← ex1]
  refine RR.runs (pc' := 35) (lc' := [(6, .int x1), (0, .ref 1), (1, .int v1), (2, .int v2), (3, .int v3), (4, .int v4), (5, .int v5)]) (st' := []) (S1 := S) (nL := 9) (cd := cd_2223) mx_2223 rfl rfl 1 rfl ?_
  refine RR.weak [(0, .ref 1), (1, .int v1), (2, .int v2), (3, .int v3), (4, .int v4), (5, .int v5), (6, .int x1)] ⟨rfl, rfl, rfl, rfl, rfl, rfl, rfl, trivial⟩ ?_
  exact b35 _ _ _ _ _ _ _ h
def o_hide_99 (k35 : Int32 → Int32 → Int32 → Int32 → Int32 → Int32 → St → Re Int32) (v1 : Int32) (v2 : Int32) (v3 : Int32) (v6 : Int32) (v7 : Int32) (S : St) : Re Int32 :=
  o_hide_107 k35 v1 v2 v3 v6 v7 v6 S
set_option maxRecDepth 100000 in
theorem s_o_hide_99 {d : Nat} (k35 : Int32 → Int32 → Int32 → Int32 → Int32 → Int32 → St → Re Int32) {S' : St} {r : Int32} (b35 : ∀ (v1 : Int32) (v2 : Int32) (v3 : Int32) (v4 : Int32) (v5 : Int32) (v6 : Int32) (S : St), k35 v1 v2 v3 v4 v5 v6 S = some (r, S') → RR KO (d + 7) 2223 35 [(0, .ref 1), (1, .int v1), (2, .int v2), (3, .int v3), (4, .int v4), (5, .int v5), (6, .int v6)] [] S (some (.int r)) S') (v1 : Int32) (v2 : Int32) (v3 : Int32) (v6 : Int32) (v7 : Int32) (S : St) (h : o_hide_99 k35 v1 v2 v3 v6 v7 S = some (r, S')) : RR KO (d + 7) 2223 99 [(0, .ref 1), (1, .int v1), (2, .int v2), (3, .int v3), (6, .int v6), (7, .int v7)] [] S (some (.int r)) S' := by
  unfold o_hide_99 at h
  refine RR.runs (pc' := 107) (lc' := [(5, .int v7), (4, .int v6), (0, .ref 1), (1, .int v1), (2, .int v2), (3, .int v3), (6, .int v6), (7, .int v7)]) (st' := []) (S1 := S) (nL := 9) (cd := cd_2223) mx_2223 rfl rfl 4 rfl ?_
  refine RR.weak [(0, .ref 1), (1, .int v1), (2, .int v2), (3, .int v3), (4, .int v6), (5, .int v7), (6, .int v6)] ⟨rfl, rfl, rfl, rfl, rfl, rfl, rfl, trivial⟩ ?_
  exact s_o_hide_107 _ b35 _ _ _ _ _ _ _ h
def o_hide_86 (k35 : Int32 → Int32 → Int32 → Int32 → Int32 → Int32 → St → Re Int32) (v1 : Int32) (v2 : Int32) (v3 : Int32) (v4 : Int32) (v5 : Int32) (v6 : Int32) (v7 : Int32) (S : St) : Re Int32 :=
  if v4 = (-1 : Int32) then (
    o_hide_99 k35 v1 v2 v3 v6 v7 S)
  else (
    if v7 < v5 then (
      o_hide_99 k35 v1 v2 v3 v6 v7 S)
    else (
      o_hide_107 k35 v1 v2 v3 v4 v5 v6 S))
set_option maxRecDepth 100000 in
theorem s_o_hide_86 {d : Nat} (k35 : Int32 → Int32 → Int32 → Int32 → Int32 → Int32 → St → Re Int32) {S' : St} {r : Int32} (b35 : ∀ (v1 : Int32) (v2 : Int32) (v3 : Int32) (v4 : Int32) (v5 : Int32) (v6 : Int32) (S : St), k35 v1 v2 v3 v4 v5 v6 S = some (r, S') → RR KO (d + 7) 2223 35 [(0, .ref 1), (1, .int v1), (2, .int v2), (3, .int v3), (4, .int v4), (5, .int v5), (6, .int v6)] [] S (some (.int r)) S') (v1 : Int32) (v2 : Int32) (v3 : Int32) (v4 : Int32) (v5 : Int32) (v6 : Int32) (v7 : Int32) (S : St) (h : o_hide_86 k35 v1 v2 v3 v4 v5 v6 v7 S = some (r, S')) : RR KO (d + 7) 2223 86 [(0, .ref 1), (1, .int v1), (2, .int v2), (3, .int v3), (4, .int v4), (5, .int v5), (6, .int v6), (7, .int v7)] [] S (some (.int r)) S' := by
  unfold o_hide_86 at h
  refine RR.runs (pc' := icm .eq v4 (-1 : Int32) 99 92) (lc' := [(0, .ref 1), (1, .int v1), (2, .int v2), (3, .int v3), (4, .int v4), (5, .int v5), (6, .int v6), (7, .int v7)]) (st' := []) (S1 := S) (nL := 9) (cd := cd_2223) mx_2223 rfl rfl 3 rfl ?_
  rcases ifE h with ⟨c, h⟩ | ⟨c, h⟩
  · refine RR.c_eq (fun _ => ?_) (fun q => absurd c q)
    refine RR.weak [(0, .ref 1), (1, .int v1), (2, .int v2), (3, .int v3), (6, .int v6), (7, .int v7)] ⟨rfl, rfl, rfl, rfl, rfl, rfl, trivial⟩ ?_
    exact s_o_hide_99 _ b35 _ _ _ _ _ _ h
  · refine RR.c_eq (fun q => absurd q c) (fun _ => ?_)
    refine RR.runs (pc' := icm .ge v7 v5 107 99) (lc' := [(0, .ref 1), (1, .int v1), (2, .int v2), (3, .int v3), (4, .int v4), (5, .int v5), (6, .int v6), (7, .int v7)]) (st' := []) (S1 := S) (nL := 9) (cd := cd_2223) mx_2223 rfl rfl 3 rfl ?_
    rcases ifE h with ⟨c, h⟩ | ⟨c, h⟩
    · refine RR.c_ge (fun _ => ?_) (fun q => absurd c q)
      refine RR.weak [(0, .ref 1), (1, .int v1), (2, .int v2), (3, .int v3), (6, .int v6), (7, .int v7)] ⟨rfl, rfl, rfl, rfl, rfl, rfl, trivial⟩ ?_
      exact s_o_hide_99 _ b35 _ _ _ _ _ _ h
    · refine RR.c_ge (fun q => absurd q c) (fun _ => ?_)
      refine RR.weak [(0, .ref 1), (1, .int v1), (2, .int v2), (3, .int v3), (4, .int v4), (5, .int v5), (6, .int v6)] ⟨rfl, rfl, rfl, rfl, rfl, rfl, rfl, trivial⟩ ?_
      exact s_o_hide_107 _ b35 _ _ _ _ _ _ _ h
def o_hide_47 (k35 : Int32 → Int32 → Int32 → Int32 → Int32 → Int32 → St → Re Int32) : Nat → Int32 → Int32 → Int32 → Int32 → Int32 → Int32 → Int32 → Int32 → St → Re Int32
  | 0, _, _, _, _, _, _, _, _, _ => none
  | n + 1, v1, v2, v3, v4, v5, v6, v7, v8, S =>
  if v8 < v3 then (
    if v8 = v6 then (
      o_hide_78 (o_hide_47 k35 n) v1 v2 v3 v4 v5 v6 v8 v7 S)
    else (
      bn (o_stolen v8 v1 v2 S) fun r1 S2 =>
      bn (o_j_max v7 r1 S2) fun r3 S4 =>
      o_hide_78 (o_hide_47 k35 n) v1 v2 v3 v4 v5 v6 v8 r3 S4))
  else (
    o_hide_86 k35 v1 v2 v3 v4 v5 v6 v7 S)
set_option maxRecDepth 100000 in
theorem s_o_hide_47 {d : Nat} (k35 : Int32 → Int32 → Int32 → Int32 → Int32 → Int32 → St → Re Int32) {S' : St} {r : Int32} (b35 : ∀ (v1 : Int32) (v2 : Int32) (v3 : Int32) (v4 : Int32) (v5 : Int32) (v6 : Int32) (S : St), k35 v1 v2 v3 v4 v5 v6 S = some (r, S') → RR KO (d + 7) 2223 35 [(0, .ref 1), (1, .int v1), (2, .int v2), (3, .int v3), (4, .int v4), (5, .int v5), (6, .int v6)] [] S (some (.int r)) S') : ∀ (n : Nat) (v1 : Int32) (v2 : Int32) (v3 : Int32) (v4 : Int32) (v5 : Int32) (v6 : Int32) (v7 : Int32) (v8 : Int32) (S : St), o_hide_47 k35 n v1 v2 v3 v4 v5 v6 v7 v8 S = some (r, S') → RR KO (d + 7) 2223 47 [(0, .ref 1), (1, .int v1), (2, .int v2), (3, .int v3), (4, .int v4), (5, .int v5), (6, .int v6), (7, .int v7), (8, .int v8)] [] S (some (.int r)) S' := by
  intro n
  induction n with
  | zero => intro v1 v2 v3 v4 v5 v6 v7 v8 S h; simp only [o_hide_47] at h; cases h
  | succ n ih =>
    intro v1 v2 v3 v4 v5 v6 v7 v8 S h
    simp only [o_hide_47] at h
    refine RR.runs (pc' := icm .ge v8 v3 86 53) (lc' := [(0, .ref 1), (1, .int v1), (2, .int v2), (3, .int v3), (4, .int v4), (5, .int v5), (6, .int v6), (7, .int v7), (8, .int v8)]) (st' := []) (S1 := S) (nL := 9) (cd := cd_2223) mx_2223 rfl rfl 3 rfl ?_
    rcases ifE h with ⟨c, h⟩ | ⟨c, h⟩
    · refine RR.c_ge (fun _ => ?_) (fun q => absurd c q)
      refine RR.runs (pc' := icm .ne v8 v6 65 60) (lc' := [(0, .ref 1), (1, .int v1), (2, .int v2), (3, .int v3), (4, .int v4), (5, .int v5), (6, .int v6), (7, .int v7), (8, .int v8)]) (st' := []) (S1 := S) (nL := 9) (cd := cd_2223) mx_2223 rfl rfl 3 rfl ?_
      rcases ifE h with ⟨c, h⟩ | ⟨c, h⟩
      · refine RR.c_ne (fun _ => ?_) (fun q => absurd c q)
        refine RR.runs (pc' := 78) (lc' := [(0, .ref 1), (1, .int v1), (2, .int v2), (3, .int v3), (4, .int v4), (5, .int v5), (6, .int v6), (7, .int v7), (8, .int v8)]) (st' := [.int v7]) (S1 := S) (nL := 9) (cd := cd_2223) mx_2223 rfl rfl 2 rfl ?_
        refine RR.weak [(0, .ref 1), (1, .int v1), (2, .int v2), (3, .int v3), (4, .int v4), (5, .int v5), (6, .int v6), (8, .int v8)] ⟨rfl, rfl, rfl, rfl, rfl, rfl, rfl, rfl, trivial⟩ ?_
        exact s_o_hide_78 _ (fun _ _ _ _ _ _ _ _ S h => ih _ _ _ _ _ _ _ _ S h) _ _ _ _ _ _ _ _ _ h
      · refine RR.c_ne (fun q => absurd q c) (fun _ => ?_)
        refine RR.runs (pc' := 72) (lc' := [(0, .ref 1), (1, .int v1), (2, .int v2), (3, .int v3), (4, .int v4), (5, .int v5), (6, .int v6), (7, .int v7), (8, .int v8)]) (st' := [.int v2, .int v1, .int v8, .ref 1, .int v7]) (S1 := S) (nL := 9) (cd := cd_2223) mx_2223 rfl rfl 5 rfl ?_
        obtain ⟨r1, S2, h1, h⟩ := bnE h
        refine RR.callV (b := 1) (as := [.int v8, .int v1, .int v2]) (rest := [.int v7]) (r1 := (some (.int r1))) (S1 := S2) mx_2223 rfl rfl mx_2236 rfl rfl (by decide) (Or.inl rfl) (Nat.le_of_ble_eq_true rfl) (Nat.le_of_ble_eq_true rfl) (RC.deep (by omega) (s_o_stolen (d := d) _ _ _ _ h1)) ?_
        show RR KO _ 2223 75 [(0, .ref 1), (1, .int v1), (2, .int v2), (3, .int v3), (4, .int v4), (5, .int v5), (6, .int v6), (7, .int v7), (8, .int v8)] [.int r1, .int v7] S2 _ _
        obtain ⟨r3, S4, h1, h⟩ := bnE h
        refine RR.callS (as := [.int v7, .int r1]) (rest := []) (r1 := (some (.int r3))) (S1 := S4) mx_2223 rfl rfl mx_2601 rfl rfl (by decide) (Nat.le_of_ble_eq_true rfl) (Nat.le_of_ble_eq_true rfl) (Nat.le_of_ble_eq_true rfl) (RC.deep (by omega) (s_o_j_max (d := d) _ _ _ h1)) ?_
        show RR KO _ 2223 78 [(0, .ref 1), (1, .int v1), (2, .int v2), (3, .int v3), (4, .int v4), (5, .int v5), (6, .int v6), (7, .int v7), (8, .int v8)] [.int r3] S4 _ _
        refine RR.weak [(0, .ref 1), (1, .int v1), (2, .int v2), (3, .int v3), (4, .int v4), (5, .int v5), (6, .int v6), (8, .int v8)] ⟨rfl, rfl, rfl, rfl, rfl, rfl, rfl, rfl, trivial⟩ ?_
        exact s_o_hide_78 _ (fun _ _ _ _ _ _ _ _ S h => ih _ _ _ _ _ _ _ _ S h) _ _ _ _ _ _ _ _ _ h
    · refine RR.c_ge (fun q => absurd q c) (fun _ => ?_)
      refine RR.weak [(0, .ref 1), (1, .int v1), (2, .int v2), (3, .int v3), (4, .int v4), (5, .int v5), (6, .int v6), (7, .int v7)] ⟨rfl, rfl, rfl, rfl, rfl, rfl, rfl, rfl, trivial⟩ ?_
      exact s_o_hide_86 _ b35 _ _ _ _ _ _ _ _ h
def o_hide_113 (v4 : Int32) (S : St) : Re Int32 :=
  some (v4, S)
set_option maxRecDepth 100000 in
theorem s_o_hide_113 {d : Nat} {S' : St} {r : Int32} (v4 : Int32) (S : St) (h : o_hide_113 v4 S = some (r, S')) : RR KO (d + 7) 2223 113 [(4, .int v4)] [] S (some (.int r)) S' := by
  unfold o_hide_113 at h
  refine RR.runs (pc' := 115) (lc' := [(4, .int v4)]) (st' := [.int v4]) (S1 := S) (nL := 9) (cd := cd_2223) mx_2223 rfl rfl 1 rfl ?_
  cases h
  exact RR.reti mx_2223 rfl rfl rfl
def o_hide_35 : Nat → Int32 → Int32 → Int32 → Int32 → Int32 → Int32 → St → Re Int32
  | 0, _, _, _, _, _, _, _ => none
  | n + 1, v1, v2, v3, v4, v5, v6, S =>
  if v6 < v3 then (
    o_hide_47 (o_hide_35 n) FU v1 v2 v3 v4 v5 v6 (0 : Int32) (0 : Int32) S)
  else (
    o_hide_113 v4 S)
set_option maxRecDepth 100000 in
theorem s_o_hide_35 {d : Nat} {S' : St} {r : Int32} : ∀ (n : Nat) (v1 : Int32) (v2 : Int32) (v3 : Int32) (v4 : Int32) (v5 : Int32) (v6 : Int32) (S : St), o_hide_35 n v1 v2 v3 v4 v5 v6 S = some (r, S') → RR KO (d + 7) 2223 35 [(0, .ref 1), (1, .int v1), (2, .int v2), (3, .int v3), (4, .int v4), (5, .int v5), (6, .int v6)] [] S (some (.int r)) S' := by
  intro n
  induction n with
  | zero => intro v1 v2 v3 v4 v5 v6 S h; simp only [o_hide_35] at h; cases h
  | succ n ih =>
    intro v1 v2 v3 v4 v5 v6 S h
    simp only [o_hide_35] at h
    refine RR.runs (pc' := icm .ge v6 v3 113 41) (lc' := [(0, .ref 1), (1, .int v1), (2, .int v2), (3, .int v3), (4, .int v4), (5, .int v5), (6, .int v6)]) (st' := []) (S1 := S) (nL := 9) (cd := cd_2223) mx_2223 rfl rfl 3 rfl ?_
    rcases ifE h with ⟨c, h⟩ | ⟨c, h⟩
    · refine RR.c_ge (fun _ => ?_) (fun q => absurd c q)
      refine RR.runs (pc' := 47) (lc' := [(8, .int (0 : Int32)), (7, .int (0 : Int32)), (0, .ref 1), (1, .int v1), (2, .int v2), (3, .int v3), (4, .int v4), (5, .int v5), (6, .int v6)]) (st' := []) (S1 := S) (nL := 9) (cd := cd_2223) mx_2223 rfl rfl 4 rfl ?_
      refine RR.weak [(0, .ref 1), (1, .int v1), (2, .int v2), (3, .int v3), (4, .int v4), (5, .int v5), (6, .int v6), (7, .int (0 : Int32)), (8, .int (0 : Int32))] ⟨rfl, rfl, rfl, rfl, rfl, rfl, rfl, rfl, rfl, trivial⟩ ?_
      exact s_o_hide_47 _ (fun _ _ _ _ _ _ S h => ih _ _ _ _ _ _ S h) _ _ _ _ _ _ _ _ _ _ h
    · refine RR.c_ge (fun q => absurd q c) (fun _ => ?_)
      refine RR.weak [(4, .int v4)] ⟨rfl, trivial⟩ ?_
      exact s_o_hide_113 _ _ h
def o_hide (v1 : Int32) (v2 : Int32) (S : St) : Re Int32 :=
  oq (rQ S 1 9) none fun o1 =>
  if KO.1 o1 = (0, 10) then (
  if KO.1 (o1 + 86) = (0, 7) then (
bn (o_tb_size (o1 + 86) S) fun r4 S5 =>
  if r4 < (2 : Int32) then (
    o_hide_24 S5)
  else (
    bn (o_isVoice v1 v2 S5) fun r6 S7 =>
    if r6 = 0 then (
      o_hide_24 S7)
    else (
      o_hide_35 FU v1 v2 r4 (-1 : Int32) (0 : Int32) (0 : Int32) S7))) else none) else none
set_option maxRecDepth 100000 in
theorem s0_o_hide {d : Nat} {S' : St} {r : Int32} (v1 : Int32) (v2 : Int32) (S : St) (h : o_hide v1 v2 S = some (r, S')) : RR KO (d + 7) 2223 0 [(0, .ref 1), (1, .int v1), (2, .int v2)] [] S (some (.int r)) S' := by
  unfold o_hide at h
  refine RR.runs (pc' := 4) (lc' := [(0, .ref 1), (1, .int v1), (2, .int v2)]) (st' := [qv (rQ S 1 9)]) (S1 := S) (nL := 9) (cd := cd_2223) mx_2223 rfl rfl 2 rfl ?_
  rcases oqE h with ⟨e1, h⟩ | ⟨o1, eo1, h⟩
  · cases h
  rw [eo1]
  obtain ⟨g2, h⟩ := gpE h
  refine RR.gPo (pc' := 7) (lc' := [(0, .ref 1), (1, .int v1), (2, .int v2)]) (st' := [.ref (o1 + 86)]) (S1 := S) (nL := 9) (cd := cd_2223) mx_2223 rfl rfl rfl ⟨g2, by decide, by decide⟩ ?_
  obtain ⟨g3, h⟩ := gpE h
  obtain ⟨r4, S5, h1, h⟩ := bnE h
  refine RR.callV (b := (o1 + 86)) (as := []) (rest := []) (r1 := (some (.int r4))) (S1 := S5) mx_2223 rfl rfl mx_1402 rfl rfl (by decide) (Or.inl g3) (Nat.le_of_ble_eq_true rfl) (Nat.le_of_ble_eq_true rfl) (RC.deep (by omega) (s_o_tb_size (d := d) _ _ h1)) ?_
  show RR KO _ 2223 10 [(0, .ref 1), (1, .int v1), (2, .int v2)] [.int r4] S5 _ _
  refine RR.runs (pc' := icm .lt r4 (2 : Int32) 24 16) (lc' := [(3, .int r4), (0, .ref 1), (1, .int v1), (2, .int v2)]) (st' := []) (S1 := S5) (nL := 9) (cd := cd_2223) mx_2223 rfl rfl 4 rfl ?_
  rcases ifE h with ⟨c, h⟩ | ⟨c, h⟩
  · refine RR.c_lt (fun _ => ?_) (fun q => absurd c q)
    refine RR.weak [] trivial ?_
    exact s_o_hide_24 _ h
  · refine RR.c_lt (fun q => absurd q c) (fun _ => ?_)
    refine RR.runs (pc' := 18) (lc' := [(3, .int r4), (0, .ref 1), (1, .int v1), (2, .int v2)]) (st' := [.int v2, .int v1]) (S1 := S5) (nL := 9) (cd := cd_2223) mx_2223 rfl rfl 2 rfl ?_
    obtain ⟨r6, S7, h1, h⟩ := bnE h
    refine RR.callS (as := [.int v1, .int v2]) (rest := []) (r1 := (some (.int r6))) (S1 := S7) mx_2223 rfl rfl mx_2235 rfl rfl (by decide) (Nat.le_of_ble_eq_true rfl) (Nat.le_of_ble_eq_true rfl) (Nat.le_of_ble_eq_true rfl) (RC.deep (by omega) (s_o_isVoice (d := d) _ _ _ h1)) ?_
    show RR KO _ 2223 21 [(3, .int r4), (0, .ref 1), (1, .int v1), (2, .int v2)] [.int r6] S7 _ _
    refine RR.runs (pc' := icm .ne r6 0 26 24) (lc' := [(3, .int r4), (0, .ref 1), (1, .int v1), (2, .int v2)]) (st' := []) (S1 := S7) (nL := 9) (cd := cd_2223) mx_2223 rfl rfl 1 rfl ?_
    rcases ifE h with ⟨c, h⟩ | ⟨c, h⟩
    · refine RR.c_ne (fun _ => ?_) (fun q => absurd c q)
      refine RR.weak [] trivial ?_
      exact s_o_hide_24 _ h
    · refine RR.c_ne (fun q => absurd q c) (fun _ => ?_)
      refine RR.runs (pc' := 35) (lc' := [(6, .int (0 : Int32)), (5, .int (0 : Int32)), (4, .int (-1 : Int32)), (3, .int r4), (0, .ref 1), (1, .int v1), (2, .int v2)]) (st' := []) (S1 := S7) (nL := 9) (cd := cd_2223) mx_2223 rfl rfl 6 rfl ?_
      refine RR.weak [(0, .ref 1), (1, .int v1), (2, .int v2), (3, .int r4), (4, .int (-1 : Int32)), (5, .int (0 : Int32)), (6, .int (0 : Int32))] ⟨rfl, rfl, rfl, rfl, rfl, rfl, rfl, trivial⟩ ?_
      exact s_o_hide_35 _ _ _ _ _ _ _ _ h
theorem s_o_hide {d : Nat} {S' : St} {r : Int32} (v1 : Int32) (v2 : Int32) (S : St) (h : o_hide v1 v2 S = some (r, S')) : RC KO (d + 7) 2223 [.ref 1, .int v1, .int v2] S (some (.int r)) S' := RC.of rfl (s0_o_hide v1 v2 S h)
-- NameOrchard bannAt (III)I
def o_bannAt_24 (p0 : Int32) (S : St) : Re Int32 :=
  some (p0, S)
set_option maxRecDepth 100000 in
theorem s_o_bannAt_24 {d : Nat} {S' : St} {r : Int32} (p0 : Int32) (S : St) (h : o_bannAt_24 p0 S = some (r, S')) : RR KO (d + 0) 2237 24 [] [.int p0] S (some (.int r)) S' := by
  unfold o_bannAt_24 at h
  cases h
  exact RR.reti mx_2237 rfl rfl rfl
def o_bannAt_23 (S : St) : Re Int32 :=
  o_bannAt_24 (-1 : Int32) S
set_option maxRecDepth 100000 in
theorem s_o_bannAt_23 {d : Nat} {S' : St} {r : Int32} (S : St) (h : o_bannAt_23 S = some (r, S')) : RR KO (d + 0) 2237 23 [] [] S (some (.int r)) S' := by
  unfold o_bannAt_23 at h
  refine RR.runs (pc' := 24) (lc' := []) (st' := [.int (-1 : Int32)]) (S1 := S) (nL := 3) (cd := cd_2237) mx_2237 rfl rfl 1 rfl ?_
  refine RR.weak [] trivial ?_
  exact s_o_bannAt_24 _ _ h
def o_bannAt (v0 : Int32) (v1 : Int32) (v2 : Int32) (S : St) : Re Int32 :=
  if v2 < 0 then (
    o_bannAt_23 S)
  else (
    if v2 < v1 then (
      o_bannAt_24 (((v0 >>> (((2 : Int32) * ((v1 - (1 : Int32)) - v2)) &&& 31)) &&& (3 : Int32))) S)
    else (
      o_bannAt_23 S))
set_option maxRecDepth 100000 in
theorem s0_o_bannAt {d : Nat} {S' : St} {r : Int32} (v0 : Int32) (v1 : Int32) (v2 : Int32) (S : St) (h : o_bannAt v0 v1 v2 S = some (r, S')) : RR KO (d + 0) 2237 0 [(0, .int v0), (1, .int v1), (2, .int v2)] [] S (some (.int r)) S' := by
  unfold o_bannAt at h
  refine RR.runs (pc' := icm .lt v2 0 23 4) (lc' := [(0, .int v0), (1, .int v1), (2, .int v2)]) (st' := []) (S1 := S) (nL := 3) (cd := cd_2237) mx_2237 rfl rfl 2 rfl ?_
  rcases ifE h with ⟨c, h⟩ | ⟨c, h⟩
  · refine RR.c_lt (fun _ => ?_) (fun q => absurd c q)
    refine RR.weak [] trivial ?_
    exact s_o_bannAt_23 _ h
  · refine RR.c_lt (fun q => absurd q c) (fun _ => ?_)
    refine RR.runs (pc' := icm .ge v2 v1 23 9) (lc' := [(0, .int v0), (1, .int v1), (2, .int v2)]) (st' := []) (S1 := S) (nL := 3) (cd := cd_2237) mx_2237 rfl rfl 3 rfl ?_
    rcases ifE h with ⟨c, h⟩ | ⟨c, h⟩
    · refine RR.c_ge (fun _ => ?_) (fun q => absurd c q)
      refine RR.runs (pc' := 24) (lc' := [(0, .int v0), (1, .int v1), (2, .int v2)]) (st' := [.int (((v0 >>> (((2 : Int32) * ((v1 - (1 : Int32)) - v2)) &&& 31)) &&& (3 : Int32)))]) (S1 := S) (nL := 3) (cd := cd_2237) mx_2237 rfl rfl 12 rfl ?_
      refine RR.weak [] trivial ?_
      exact s_o_bannAt_24 _ _ h
    · refine RR.c_ge (fun q => absurd q c) (fun _ => ?_)
      refine RR.weak [] trivial ?_
      exact s_o_bannAt_23 _ h
theorem s_o_bannAt {d : Nat} {S' : St} {r : Int32} (v0 : Int32) (v1 : Int32) (v2 : Int32) (S : St) (h : o_bannAt v0 v1 v2 S = some (r, S')) : RC KO (d + 0) 2237 [.int v0, .int v1, .int v2] S (some (.int r)) S' := RC.of rfl (s0_o_bannAt v0 v1 v2 S h)
-- NameOrchard isOrder (II)Z
def o_isOrder_40 (p0 : Int32) (S : St) : Re Int32 :=
  if isBo p0 = true then some (p0, S) else none
set_option maxRecDepth 100000 in
theorem s_o_isOrder_40 {d : Nat} {S' : St} {r : Int32} (p0 : Int32) (S : St) (h : o_isOrder_40 p0 S = some (r, S')) : RR KO (d + 1) 2238 40 [] [.int p0] S (some (.int r)) S' := by
  unfold o_isOrder_40 at h
  obtain ⟨g, h⟩ := gpE h
  cases h
  exact RR.retz mx_2238 rfl rfl rfl g
def o_isOrder_26 (v1 : Int32) (v2 : Int32) (S : St) : Re Int32 :=
  if v2 = (((1 : Int32) <<< (v1 &&& 31)) - (1 : Int32)) then (
    o_isOrder_40 (1 : Int32) S)
  else (
    o_isOrder_40 (0 : Int32) S)
set_option maxRecDepth 100000 in
theorem s_o_isOrder_26 {d : Nat} {S' : St} {r : Int32} (v1 : Int32) (v2 : Int32) (S : St) (h : o_isOrder_26 v1 v2 S = some (r, S')) : RR KO (d + 1) 2238 26 [(1, .int v1), (2, .int v2)] [] S (some (.int r)) S' := by
  unfold o_isOrder_26 at h
  refine RR.runs (pc' := icm .ne v2 ((((1 : Int32) <<< (v1 &&& 31)) - (1 : Int32))) 39 35) (lc' := [(1, .int v1), (2, .int v2)]) (st' := []) (S1 := S) (nL := 4) (cd := cd_2238) mx_2238 rfl rfl 7 rfl ?_
  rcases ifE h with ⟨c, h⟩ | ⟨c, h⟩
  · refine RR.c_ne (fun _ => ?_) (fun q => absurd c q)
    refine RR.runs (pc' := 40) (lc' := [(1, .int v1), (2, .int v2)]) (st' := [.int (1 : Int32)]) (S1 := S) (nL := 4) (cd := cd_2238) mx_2238 rfl rfl 2 rfl ?_
    refine RR.weak [] trivial ?_
    exact s_o_isOrder_40 _ _ h
  · refine RR.c_ne (fun q => absurd q c) (fun _ => ?_)
    refine RR.runs (pc' := 40) (lc' := [(1, .int v1), (2, .int v2)]) (st' := [.int (0 : Int32)]) (S1 := S) (nL := 4) (cd := cd_2238) mx_2238 rfl rfl 1 rfl ?_
    refine RR.weak [] trivial ?_
    exact s_o_isOrder_40 _ _ h
def o_isOrder_4 : Nat → Int32 → Int32 → Int32 → Int32 → St → Re Int32
  | 0, _, _, _, _, _ => none
  | n + 1, v0, v1, v2, v3, S =>
  if v3 < v1 then (
    bn (o_bannAt v0 v1 v3 S) fun r1 S2 =>
    lt' ((v2 ||| ((1 : Int32) <<< (r1 &&& 31))) : Int32) fun x3 =>
    lt' ((v3 + (1 : Int32)) : Int32) fun x4 =>
    o_isOrder_4 n v0 v1 x3 x4 S2)
  else (
    o_isOrder_26 v1 v2 S)
set_option maxRecDepth 100000 in
theorem s_o_isOrder_4 {d : Nat} {S' : St} {r : Int32} : ∀ (n : Nat) (v0 : Int32) (v1 : Int32) (v2 : Int32) (v3 : Int32) (S : St), o_isOrder_4 n v0 v1 v2 v3 S = some (r, S') → RR KO (d + 1) 2238 4 [(0, .int v0), (1, .int v1), (2, .int v2), (3, .int v3)] [] S (some (.int r)) S' := by
  intro n
  induction n with
  | zero => intro v0 v1 v2 v3 S h; simp only [o_isOrder_4] at h; cases h
  | succ n ih =>
    intro v0 v1 v2 v3 S h
    simp only [o_isOrder_4] at h
    refine RR.runs (pc' := icm .ge v3 v1 26 9) (lc' := [(0, .int v0), (1, .int v1), (2, .int v2), (3, .int v3)]) (st' := []) (S1 := S) (nL := 4) (cd := cd_2238) mx_2238 rfl rfl 3 rfl ?_
    rcases ifE h with ⟨c, h⟩ | ⟨c, h⟩
    · refine RR.c_ge (fun _ => ?_) (fun q => absurd c q)
      refine RR.runs (pc' := 14) (lc' := [(0, .int v0), (1, .int v1), (2, .int v2), (3, .int v3)]) (st' := [.int v3, .int v1, .int v0, .int (1 : Int32), .int v2]) (S1 := S) (nL := 4) (cd := cd_2238) mx_2238 rfl rfl 5 rfl ?_
      obtain ⟨r1, S2, h1, h⟩ := bnE h
      refine RR.callS (as := [.int v0, .int v1, .int v3]) (rest := [.int (1 : Int32), .int v2]) (r1 := (some (.int r1))) (S1 := S2) mx_2238 rfl rfl mx_2237 rfl rfl (by decide) (Nat.le_of_ble_eq_true rfl) (Nat.le_of_ble_eq_true rfl) (Nat.le_of_ble_eq_true rfl) (RC.deep (by omega) (s_o_bannAt (d := d) _ _ _ _ h1)) ?_
      show RR KO _ 2238 17 [(0, .int v0), (1, .int v1), (2, .int v2), (3, .int v3)] [.int r1, .int (1 : Int32), .int v2] S2 _ _
      refine RR.runs (pc' := 20) (lc' := [(2, .int ((v2 ||| ((1 : Int32) <<< (r1 &&& 31))))), (0, .int v0), (1, .int v1), (3, .int v3)]) (st' := []) (S1 := S2) (nL := 4) (cd := cd_2238) mx_2238 rfl rfl 3 rfl ?_
      obtain ⟨x3, ex3, h⟩ := ltE h
      rw [← ex3]
      refine RR.runs (pc' := 23) (lc' := [(3, .int ((v3 + (1 : Int32)))), (2, .int x3), (0, .int v0), (1, .int v1)]) (st' := []) (S1 := S2) (nL := 4) (cd := cd_2238) mx_2238 rfl rfl 1 rfl ?_
      obtain ⟨x4, ex4, h⟩ := ltE h
      rw [← ex4]
      refine RR.runs (pc' := 4) (lc' := [(3, .int x4), (2, .int x3), (0, .int v0), (1, .int v1)]) (st' := []) (S1 := S2) (nL := 4) (cd := cd_2238) mx_2238 rfl rfl 1 rfl ?_
      refine RR.weak [(0, .int v0), (1, .int v1), (2, .int x3), (3, .int x4)] ⟨rfl, rfl, rfl, rfl, trivial⟩ ?_
      exact ih _ _ _ _ _ h
    · refine RR.c_ge (fun q => absurd q c) (fun _ => ?_)
      refine RR.weak [(1, .int v1), (2, .int v2)] ⟨rfl, rfl, trivial⟩ ?_
      exact s_o_isOrder_26 _ _ _ h
def o_isOrder (v0 : Int32) (v1 : Int32) (S : St) : Re Int32 :=
  o_isOrder_4 FU v0 v1 (0 : Int32) (0 : Int32) S
set_option maxRecDepth 100000 in
theorem s0_o_isOrder {d : Nat} {S' : St} {r : Int32} (v0 : Int32) (v1 : Int32) (S : St) (h : o_isOrder v0 v1 S = some (r, S')) : RR KO (d + 1) 2238 0 [(0, .int v0), (1, .int v1)] [] S (some (.int r)) S' := by
  unfold o_isOrder at h
  refine RR.runs (pc' := 4) (lc' := [(3, .int (0 : Int32)), (2, .int (0 : Int32)), (0, .int v0), (1, .int v1)]) (st' := []) (S1 := S) (nL := 4) (cd := cd_2238) mx_2238 rfl rfl 4 rfl ?_
  refine RR.weak [(0, .int v0), (1, .int v1), (2, .int (0 : Int32)), (3, .int (0 : Int32))] ⟨rfl, rfl, rfl, rfl, trivial⟩ ?_
  exact s_o_isOrder_4 _ _ _ _ _ _ h
theorem s_o_isOrder {d : Nat} {S' : St} {r : Int32} (v0 : Int32) (v1 : Int32) (S : St) (h : o_isOrder v0 v1 S = some (r, S')) : RC KO (d + 1) 2238 [.int v0, .int v1] S (some (.int r)) S' := RC.of rfl (s0_o_isOrder v0 v1 S h)
-- NameOrchard lostByBanns (III)I
def o_lostByBanns_129 (S : St) : Re Int32 :=
  some (((rI S 205 4) - (rI S 200 4)), S)
set_option maxRecDepth 100000 in
theorem s_o_lostByBanns_129 {d : Nat} {S' : St} {r : Int32} (S : St) (h : o_lostByBanns_129 S = some (r, S')) : RR KO (d + 6) 2239 129 [(0, .ref 1)] [] S (some (.int r)) S' := by
  unfold o_lostByBanns_129 at h
  refine RR.runs (pc' := 147) (lc' := [(0, .ref 1)]) (st' := [.int (((rI S 205 4) - (rI S 200 4)))]) (S1 := S) (nL := 7) (cd := cd_2239) mx_2239 rfl rfl 8 rfl ?_
  cases h
  exact RR.reti mx_2239 rfl rfl rfl
def o_lostByBanns_29 : Nat → Int32 → Int32 → Int32 → Int32 → Int32 → St → Re Int32
  | 0, _, _, _, _, _, _ => none
  | n + 1, v1, v2, v3, v4, v5, S =>
  if v5 < v4 then (
    bn (o_bannAt v1 v4 v5 S) fun r1 S2 =>
    lt' (wI S2 205 3 (((rI S2 200 3) + ((7 : Int32) * v5)))) fun S3 =>
    oq (rQ S3 1 9) none fun o4 =>
    oq (rQ S3 1 9) none fun o5 =>
    if KO.1 o5 = (0, 10) then (
    if KO.1 (o5 + 88) = (0, 7) then (
bn (o_tb_at (o5 + 88) r1 (0 : Int32) S3) fun r8 S9 =>
    bn (o_sd_cry 205 o4 v2 v3 r8 S9) fun r10 S11 =>
    oq (rQ S11 1 9) none fun o12 =>
    oq (rQ S11 1 9) none fun o13 =>
    if KO.1 o13 = (0, 10) then (
    if KO.1 (o13 + 88) = (0, 7) then (
bn (o_tb_at (o13 + 88) r1 (1 : Int32) S11) fun r16 S17 =>
    bn (o_sd_cry 205 o12 v2 v3 r16 S17) fun r18 S19 =>
    lt' ((v5 + (1 : Int32)) : Int32) fun x20 =>
    o_lostByBanns_29 n v1 v2 v3 v4 x20 S19) else none) else none) else none) else none)
  else (
    o_lostByBanns_129 S)
set_option maxRecDepth 100000 in
theorem s_o_lostByBanns_29 {d : Nat} {S' : St} {r : Int32} : ∀ (n : Nat) (v1 : Int32) (v2 : Int32) (v3 : Int32) (v4 : Int32) (v5 : Int32) (S : St), o_lostByBanns_29 n v1 v2 v3 v4 v5 S = some (r, S') → RR KO (d + 6) 2239 29 [(0, .ref 1), (1, .int v1), (2, .int v2), (3, .int v3), (4, .int v4), (5, .int v5)] [] S (some (.int r)) S' := by
  intro n
  induction n with
  | zero => intro v1 v2 v3 v4 v5 S h; simp only [o_lostByBanns_29] at h; cases h
  | succ n ih =>
    intro v1 v2 v3 v4 v5 S h
    simp only [o_lostByBanns_29] at h
    refine RR.runs (pc' := icm .ge v5 v4 129 36) (lc' := [(0, .ref 1), (1, .int v1), (2, .int v2), (3, .int v3), (4, .int v4), (5, .int v5)]) (st' := []) (S1 := S) (nL := 7) (cd := cd_2239) mx_2239 rfl rfl 3 rfl ?_
    rcases ifE h with ⟨c, h⟩ | ⟨c, h⟩
    · refine RR.c_ge (fun _ => ?_) (fun q => absurd c q)
      refine RR.runs (pc' := 41) (lc' := [(0, .ref 1), (1, .int v1), (2, .int v2), (3, .int v3), (4, .int v4), (5, .int v5)]) (st' := [.int v5, .int v4, .int v1]) (S1 := S) (nL := 7) (cd := cd_2239) mx_2239 rfl rfl 3 rfl ?_
      obtain ⟨r1, S2, h1, h⟩ := bnE h
      refine RR.callS (as := [.int v1, .int v4, .int v5]) (rest := []) (r1 := (some (.int r1))) (S1 := S2) mx_2239 rfl rfl mx_2237 rfl rfl (by decide) (Nat.le_of_ble_eq_true rfl) (Nat.le_of_ble_eq_true rfl) (Nat.le_of_ble_eq_true rfl) (RC.deep (by omega) (s_o_bannAt (d := d) _ _ _ _ h1)) ?_
      show RR KO _ 2239 44 [(0, .ref 1), (1, .int v1), (2, .int v2), (3, .int v3), (4, .int v4), (5, .int v5)] [.int r1] S2 _ _
      refine RR.runs (pc' := 69) (lc' := [(6, .int r1), (0, .ref 1), (1, .int v1), (2, .int v2), (3, .int v3), (4, .int v4), (5, .int v5)]) (st' := []) (S1 := (wI S2 205 3 (((rI S2 200 3) + ((7 : Int32) * v5))))) (nL := 7) (cd := cd_2239) mx_2239 rfl rfl 12 rfl ?_
      obtain ⟨S3, eS3, h⟩ := ltE h
      rw [← eS3]
      refine RR.runs (pc' := 77) (lc' := [(6, .int r1), (0, .ref 1), (1, .int v1), (2, .int v2), (3, .int v3), (4, .int v4), (5, .int v5)]) (st' := [qv (rQ S3 1 9), .ref 205]) (S1 := S3) (nL := 7) (cd := cd_2239) mx_2239 rfl rfl 4 rfl ?_
      rcases oqE h with ⟨e1, h⟩ | ⟨o4, eo4, h⟩
      · cases h
      rw [eo4]
      refine RR.runs (pc' := 83) (lc' := [(6, .int r1), (0, .ref 1), (1, .int v1), (2, .int v2), (3, .int v3), (4, .int v4), (5, .int v5)]) (st' := [qv (rQ S3 1 9), .int v3, .int v2, .ref o4, .ref 205]) (S1 := S3) (nL := 7) (cd := cd_2239) mx_2239 rfl rfl 4 rfl ?_
      rcases oqE h with ⟨e1, h⟩ | ⟨o5, eo5, h⟩
      · cases h
      rw [eo5]
      obtain ⟨g6, h⟩ := gpE h
      refine RR.gPo (pc' := 86) (lc' := [(6, .int r1), (0, .ref 1), (1, .int v1), (2, .int v2), (3, .int v3), (4, .int v4), (5, .int v5)]) (st' := [.ref (o5 + 88), .int v3, .int v2, .ref o4, .ref 205]) (S1 := S3) (nL := 7) (cd := cd_2239) mx_2239 rfl rfl rfl ⟨g6, by decide, by decide⟩ ?_
      refine RR.runs (pc' := 89) (lc' := [(6, .int r1), (0, .ref 1), (1, .int v1), (2, .int v2), (3, .int v3), (4, .int v4), (5, .int v5)]) (st' := [.int (0 : Int32), .int r1, .ref (o5 + 88), .int v3, .int v2, .ref o4, .ref 205]) (S1 := S3) (nL := 7) (cd := cd_2239) mx_2239 rfl rfl 2 rfl ?_
      obtain ⟨g7, h⟩ := gpE h
      obtain ⟨r8, S9, h1, h⟩ := bnE h
      refine RR.callV (b := (o5 + 88)) (as := [.int r1, .int (0 : Int32)]) (rest := [.int v3, .int v2, .ref o4, .ref 205]) (r1 := (some (.int r8))) (S1 := S9) mx_2239 rfl rfl mx_1405 rfl rfl (by decide) (Or.inl g7) (Nat.le_of_ble_eq_true rfl) (Nat.le_of_ble_eq_true rfl) (RC.deep (by omega) (s_o_tb_at (d := d) _ _ _ _ h1)) ?_
      show RR KO _ 2239 92 [(6, .int r1), (0, .ref 1), (1, .int v1), (2, .int v2), (3, .int v3), (4, .int v4), (5, .int v5)] [.int r8, .int v3, .int v2, .ref o4, .ref 205] S9 _ _
      obtain ⟨r10, S11, h1, h⟩ := bnE h
      refine RR.callV (b := 205) (as := [.ref o4, .int v2, .int v3, .int r8]) (rest := []) (r1 := (some (.int r10))) (S1 := S11) mx_2239 rfl rfl mx_1011 rfl rfl (by decide) (Or.inl rfl) (Nat.le_of_ble_eq_true rfl) (Nat.le_of_ble_eq_true rfl) (RC.deep (by omega) (s_o_sd_cry (d := d) _ _ _ _ _ _ h1)) ?_
      show RR KO _ 2239 95 [(6, .int r1), (0, .ref 1), (1, .int v1), (2, .int v2), (3, .int v3), (4, .int v4), (5, .int v5)] [.int r10] S11 _ _
      refine RR.runs (pc' := 104) (lc' := [(6, .int r1), (0, .ref 1), (1, .int v1), (2, .int v2), (3, .int v3), (4, .int v4), (5, .int v5)]) (st' := [qv (rQ S11 1 9), .ref 205]) (S1 := S11) (nL := 7) (cd := cd_2239) mx_2239 rfl rfl 5 rfl ?_
      rcases oqE h with ⟨e1, h⟩ | ⟨o12, eo12, h⟩
      · cases h
      rw [eo12]
      refine RR.runs (pc' := 110) (lc' := [(6, .int r1), (0, .ref 1), (1, .int v1), (2, .int v2), (3, .int v3), (4, .int v4), (5, .int v5)]) (st' := [qv (rQ S11 1 9), .int v3, .int v2, .ref o12, .ref 205]) (S1 := S11) (nL := 7) (cd := cd_2239) mx_2239 rfl rfl 4 rfl ?_
      rcases oqE h with ⟨e1, h⟩ | ⟨o13, eo13, h⟩
      · cases h
      rw [eo13]
      obtain ⟨g14, h⟩ := gpE h
      refine RR.gPo (pc' := 113) (lc' := [(6, .int r1), (0, .ref 1), (1, .int v1), (2, .int v2), (3, .int v3), (4, .int v4), (5, .int v5)]) (st' := [.ref (o13 + 88), .int v3, .int v2, .ref o12, .ref 205]) (S1 := S11) (nL := 7) (cd := cd_2239) mx_2239 rfl rfl rfl ⟨g14, by decide, by decide⟩ ?_
      refine RR.runs (pc' := 116) (lc' := [(6, .int r1), (0, .ref 1), (1, .int v1), (2, .int v2), (3, .int v3), (4, .int v4), (5, .int v5)]) (st' := [.int (1 : Int32), .int r1, .ref (o13 + 88), .int v3, .int v2, .ref o12, .ref 205]) (S1 := S11) (nL := 7) (cd := cd_2239) mx_2239 rfl rfl 2 rfl ?_
      obtain ⟨g15, h⟩ := gpE h
      obtain ⟨r16, S17, h1, h⟩ := bnE h
      refine RR.callV (b := (o13 + 88)) (as := [.int r1, .int (1 : Int32)]) (rest := [.int v3, .int v2, .ref o12, .ref 205]) (r1 := (some (.int r16))) (S1 := S17) mx_2239 rfl rfl mx_1405 rfl rfl (by decide) (Or.inl g15) (Nat.le_of_ble_eq_true rfl) (Nat.le_of_ble_eq_true rfl) (RC.deep (by omega) (s_o_tb_at (d := d) _ _ _ _ h1)) ?_
      show RR KO _ 2239 119 [(6, .int r1), (0, .ref 1), (1, .int v1), (2, .int v2), (3, .int v3), (4, .int v4), (5, .int v5)] [.int r16, .int v3, .int v2, .ref o12, .ref 205] S17 _ _
      obtain ⟨r18, S19, h1, h⟩ := bnE h
      refine RR.callV (b := 205) (as := [.ref o12, .int v2, .int v3, .int r16]) (rest := []) (r1 := (some (.int r18))) (S1 := S19) mx_2239 rfl rfl mx_1011 rfl rfl (by decide) (Or.inl rfl) (Nat.le_of_ble_eq_true rfl) (Nat.le_of_ble_eq_true rfl) (RC.deep (by omega) (s_o_sd_cry (d := d) _ _ _ _ _ _ h1)) ?_
      show RR KO _ 2239 122 [(6, .int r1), (0, .ref 1), (1, .int v1), (2, .int v2), (3, .int v3), (4, .int v4), (5, .int v5)] [.int r18] S19 _ _
      refine RR.runs (pc' := 126) (lc' := [(5, .int ((v5 + (1 : Int32)))), (6, .int r1), (0, .ref 1), (1, .int v1), (2, .int v2), (3, .int v3), (4, .int v4)]) (st' := []) (S1 := S19) (nL := 7) (cd := cd_2239) mx_2239 rfl rfl 2 rfl ?_
      obtain ⟨x20, ex20, h⟩ := ltE h
      rw [← ex20]
      refine RR.runs (pc' := 29) (lc' := [(5, .int x20), (6, .int r1), (0, .ref 1), (1, .int v1), (2, .int v2), (3, .int v3), (4, .int v4)]) (st' := []) (S1 := S19) (nL := 7) (cd := cd_2239) mx_2239 rfl rfl 1 rfl ?_
      refine RR.weak [(0, .ref 1), (1, .int v1), (2, .int v2), (3, .int v3), (4, .int v4), (5, .int x20)] ⟨rfl, rfl, rfl, rfl, rfl, rfl, trivial⟩ ?_
      exact ih _ _ _ _ _ _ h
    · refine RR.c_ge (fun q => absurd q c) (fun _ => ?_)
      refine RR.weak [(0, .ref 1)] ⟨rfl, trivial⟩ ?_
      exact s_o_lostByBanns_129 _ h
def o_lostByBanns (v1 : Int32) (v2 : Int32) (v3 : Int32) (S : St) : Re Int32 :=
  oq (rQ S 1 9) none fun o1 =>
  if KO.1 o1 = (0, 10) then (
  if KO.1 (o1 + 88) = (0, 7) then (
bn (o_tb_size (o1 + 88) S) fun r4 S5 =>
  bn (o_sd_copy 205 200 S5) fun r6 S7 =>
  o_lostByBanns_29 FU v1 v2 v3 r4 (0 : Int32) S7) else none) else none
set_option maxRecDepth 100000 in
theorem s0_o_lostByBanns {d : Nat} {S' : St} {r : Int32} (v1 : Int32) (v2 : Int32) (v3 : Int32) (S : St) (h : o_lostByBanns v1 v2 v3 S = some (r, S')) : RR KO (d + 6) 2239 0 [(0, .ref 1), (1, .int v1), (2, .int v2), (3, .int v3)] [] S (some (.int r)) S' := by
  unfold o_lostByBanns at h
  refine RR.runs (pc' := 4) (lc' := [(0, .ref 1), (1, .int v1), (2, .int v2), (3, .int v3)]) (st' := [qv (rQ S 1 9)]) (S1 := S) (nL := 7) (cd := cd_2239) mx_2239 rfl rfl 2 rfl ?_
  rcases oqE h with ⟨e1, h⟩ | ⟨o1, eo1, h⟩
  · cases h
  rw [eo1]
  obtain ⟨g2, h⟩ := gpE h
  refine RR.gPo (pc' := 7) (lc' := [(0, .ref 1), (1, .int v1), (2, .int v2), (3, .int v3)]) (st' := [.ref (o1 + 88)]) (S1 := S) (nL := 7) (cd := cd_2239) mx_2239 rfl rfl rfl ⟨g2, by decide, by decide⟩ ?_
  obtain ⟨g3, h⟩ := gpE h
  obtain ⟨r4, S5, h1, h⟩ := bnE h
  refine RR.callV (b := (o1 + 88)) (as := []) (rest := []) (r1 := (some (.int r4))) (S1 := S5) mx_2239 rfl rfl mx_1402 rfl rfl (by decide) (Or.inl g3) (Nat.le_of_ble_eq_true rfl) (Nat.le_of_ble_eq_true rfl) (RC.deep (by omega) (s_o_tb_size (d := d) _ _ h1)) ?_
  show RR KO _ 2239 10 [(0, .ref 1), (1, .int v1), (2, .int v2), (3, .int v3)] [.int r4] S5 _ _
  refine RR.runs (pc' := 23) (lc' := [(4, .int r4), (0, .ref 1), (1, .int v1), (2, .int v2), (3, .int v3)]) (st' := [.ref 200, .ref 205]) (S1 := S5) (nL := 7) (cd := cd_2239) mx_2239 rfl rfl 6 rfl ?_
  obtain ⟨r6, S7, h1, h⟩ := bnE h
  refine RR.callV (b := 205) (as := [.ref 200]) (rest := []) (r1 := none) (S1 := S7) mx_2239 rfl rfl mx_1002 rfl rfl (by decide) (Or.inl rfl) (Nat.le_of_ble_eq_true rfl) (Nat.le_of_ble_eq_true rfl) (RC.deep (by omega) (s_o_sd_copy (d := d) _ _ _ h1)) ?_
  show RR KO _ 2239 26 [(4, .int r4), (0, .ref 1), (1, .int v1), (2, .int v2), (3, .int v3)] [] S7 _ _
  refine RR.runs (pc' := 29) (lc' := [(5, .int (0 : Int32)), (4, .int r4), (0, .ref 1), (1, .int v1), (2, .int v2), (3, .int v3)]) (st' := []) (S1 := S7) (nL := 7) (cd := cd_2239) mx_2239 rfl rfl 2 rfl ?_
  refine RR.weak [(0, .ref 1), (1, .int v1), (2, .int v2), (3, .int v3), (4, .int r4), (5, .int (0 : Int32))] ⟨rfl, rfl, rfl, rfl, rfl, rfl, trivial⟩ ?_
  exact s_o_lostByBanns_29 _ _ _ _ _ _ _ h
theorem s_o_lostByBanns {d : Nat} {S' : St} {r : Int32} (v1 : Int32) (v2 : Int32) (v3 : Int32) (S : St) (h : o_lostByBanns v1 v2 v3 S = some (r, S')) : RC KO (d + 6) 2239 [.ref 1, .int v1, .int v2, .int v3] S (some (.int r)) S' := RC.of rfl (s0_o_lostByBanns v1 v2 v3 S h)
-- NameOrchard banns (III)I
def o_banns_35 (S : St) : Re Int32 :=
  some ((-1 : Int32), S)
set_option maxRecDepth 100000 in
theorem s_o_banns_35 {d : Nat} {S' : St} {r : Int32} (S : St) (h : o_banns_35 S = some (r, S')) : RR KO (d + 7) 2224 35 [] [] S (some (.int r)) S' := by
  unfold o_banns_35 at h
  refine RR.runs (pc' := 36) (lc' := []) (st' := [.int (-1 : Int32)]) (S1 := S) (nL := 9) (cd := cd_2224) mx_2224 rfl rfl 1 rfl ?_
  cases h
  exact RR.reti mx_2224 rfl rfl rfl
def o_banns_101 (k46 : Int32 → Int32 → Int32 → Int32 → Int32 → Int32 → Int32 → St → Re Int32) (v1 : Int32) (v2 : Int32) (v3 : Int32) (v4 : Int32) (v5 : Int32) (v6 : Int32) (v7 : Int32) (S : St) : Re Int32 :=
  lt' ((v7 + (1 : Int32)) : Int32) fun x1 =>
  k46 v1 v2 v3 v4 v5 v6 x1 S
set_option maxRecDepth 100000 in
theorem s_o_banns_101 {d : Nat} (k46 : Int32 → Int32 → Int32 → Int32 → Int32 → Int32 → Int32 → St → Re Int32) {S' : St} {r : Int32} (b46 : ∀ (v1 : Int32) (v2 : Int32) (v3 : Int32) (v4 : Int32) (v5 : Int32) (v6 : Int32) (v7 : Int32) (S : St), k46 v1 v2 v3 v4 v5 v6 v7 S = some (r, S') → RR KO (d + 7) 2224 46 [(0, .ref 1), (1, .int v1), (2, .int v2), (3, .int v3), (4, .int v4), (5, .int v5), (6, .int v6), (7, .int v7)] [] S (some (.int r)) S') (v1 : Int32) (v2 : Int32) (v3 : Int32) (v4 : Int32) (v5 : Int32) (v6 : Int32) (v7 : Int32) (S : St) (h : o_banns_101 k46 v1 v2 v3 v4 v5 v6 v7 S = some (r, S')) : RR KO (d + 7) 2224 101 [(0, .ref 1), (1, .int v1), (2, .int v2), (3, .int v3), (4, .int v4), (5, .int v5), (6, .int v6), (7, .int v7)] [] S (some (.int r)) S' := by
  unfold o_banns_101 at h
  refine RR.runs (pc' := 104) (lc' := [(7, .int ((v7 + (1 : Int32)))), (0, .ref 1), (1, .int v1), (2, .int v2), (3, .int v3), (4, .int v4), (5, .int v5), (6, .int v6)]) (st' := []) (S1 := S) (nL := 9) (cd := cd_2224) mx_2224 rfl rfl 1 rfl ?_
  obtain ⟨x1, ex1, h⟩ := ltE h
  rw [← ex1]
  refine RR.runs (pc' := 46) (lc' := [(7, .int x1), (0, .ref 1), (1, .int v1), (2, .int v2), (3, .int v3), (4, .int v4), (5, .int v5), (6, .int v6)]) (st' := []) (S1 := S) (nL := 9) (cd := cd_2224) mx_2224 rfl rfl 1 rfl ?_
  refine RR.weak [(0, .ref 1), (1, .int v1), (2, .int v2), (3, .int v3), (4, .int v4), (5, .int v5), (6, .int v6), (7, .int x1)] ⟨rfl, rfl, rfl, rfl, rfl, rfl, rfl, rfl, trivial⟩ ?_
  exact b46 _ _ _ _ _ _ _ _ h
def o_banns_93 (k46 : Int32 → Int32 → Int32 → Int32 → Int32 → Int32 → Int32 → St → Re Int32) (v1 : Int32) (v2 : Int32) (v3 : Int32) (v4 : Int32) (v7 : Int32) (v8 : Int32) (S : St) : Re Int32 :=
  o_banns_101 k46 v1 v2 v3 v4 v7 v8 v7 S
set_option maxRecDepth 100000 in
theorem s_o_banns_93 {d : Nat} (k46 : Int32 → Int32 → Int32 → Int32 → Int32 → Int32 → Int32 → St → Re Int32) {S' : St} {r : Int32} (b46 : ∀ (v1 : Int32) (v2 : Int32) (v3 : Int32) (v4 : Int32) (v5 : Int32) (v6 : Int32) (v7 : Int32) (S : St), k46 v1 v2 v3 v4 v5 v6 v7 S = some (r, S') → RR KO (d + 7) 2224 46 [(0, .ref 1), (1, .int v1), (2, .int v2), (3, .int v3), (4, .int v4), (5, .int v5), (6, .int v6), (7, .int v7)] [] S (some (.int r)) S') (v1 : Int32) (v2 : Int32) (v3 : Int32) (v4 : Int32) (v7 : Int32) (v8 : Int32) (S : St) (h : o_banns_93 k46 v1 v2 v3 v4 v7 v8 S = some (r, S')) : RR KO (d + 7) 2224 93 [(0, .ref 1), (1, .int v1), (2, .int v2), (3, .int v3), (4, .int v4), (7, .int v7), (8, .int v8)] [] S (some (.int r)) S' := by
  unfold o_banns_93 at h
  refine RR.runs (pc' := 101) (lc' := [(6, .int v8), (5, .int v7), (0, .ref 1), (1, .int v1), (2, .int v2), (3, .int v3), (4, .int v4), (7, .int v7), (8, .int v8)]) (st' := []) (S1 := S) (nL := 9) (cd := cd_2224) mx_2224 rfl rfl 4 rfl ?_
  refine RR.weak [(0, .ref 1), (1, .int v1), (2, .int v2), (3, .int v3), (4, .int v4), (5, .int v7), (6, .int v8), (7, .int v7)] ⟨rfl, rfl, rfl, rfl, rfl, rfl, rfl, rfl, trivial⟩ ?_
  exact s_o_banns_101 _ b46 _ _ _ _ _ _ _ _ h
def o_banns_126 (p0 : Int32) (S : St) : Re Int32 :=
  some (p0, S)
set_option maxRecDepth 100000 in
theorem s_o_banns_126 {d : Nat} {S' : St} {r : Int32} (p0 : Int32) (S : St) (h : o_banns_126 p0 S = some (r, S')) : RR KO (d + 7) 2224 126 [] [.int p0] S (some (.int r)) S' := by
  unfold o_banns_126 at h
  cases h
  exact RR.reti mx_2224 rfl rfl rfl
def o_banns_107 (v3 : Int32) (v4 : Int32) (v5 : Int32) (v6 : Int32) (S : St) : Re Int32 :=
  if v3 = 0 then (
    o_banns_126 v6 S)
  else (
    bn (o_bannAt v5 v4 ((v3 - (1 : Int32))) S) fun r1 S2 =>
    o_banns_126 r1 S2)
set_option maxRecDepth 100000 in
theorem s_o_banns_107 {d : Nat} {S' : St} {r : Int32} (v3 : Int32) (v4 : Int32) (v5 : Int32) (v6 : Int32) (S : St) (h : o_banns_107 v3 v4 v5 v6 S = some (r, S')) : RR KO (d + 7) 2224 107 [(3, .int v3), (4, .int v4), (5, .int v5), (6, .int v6)] [] S (some (.int r)) S' := by
  unfold o_banns_107 at h
  refine RR.runs (pc' := icm .ne v3 0 116 111) (lc' := [(3, .int v3), (4, .int v4), (5, .int v5), (6, .int v6)]) (st' := []) (S1 := S) (nL := 9) (cd := cd_2224) mx_2224 rfl rfl 2 rfl ?_
  rcases ifE h with ⟨c, h⟩ | ⟨c, h⟩
  · refine RR.c_ne (fun _ => ?_) (fun q => absurd c q)
    refine RR.runs (pc' := 126) (lc' := [(3, .int v3), (4, .int v4), (5, .int v5), (6, .int v6)]) (st' := [.int v6]) (S1 := S) (nL := 9) (cd := cd_2224) mx_2224 rfl rfl 2 rfl ?_
    refine RR.weak [] trivial ?_
    exact s_o_banns_126 _ _ h
  · refine RR.c_ne (fun q => absurd q c) (fun _ => ?_)
    refine RR.runs (pc' := 123) (lc' := [(3, .int v3), (4, .int v4), (5, .int v5), (6, .int v6)]) (st' := [.int ((v3 - (1 : Int32))), .int v4, .int v5]) (S1 := S) (nL := 9) (cd := cd_2224) mx_2224 rfl rfl 5 rfl ?_
    obtain ⟨r1, S2, h1, h⟩ := bnE h
    refine RR.callS (as := [.int v5, .int v4, .int ((v3 - (1 : Int32)))]) (rest := []) (r1 := (some (.int r1))) (S1 := S2) mx_2224 rfl rfl mx_2237 rfl rfl (by decide) (Nat.le_of_ble_eq_true rfl) (Nat.le_of_ble_eq_true rfl) (Nat.le_of_ble_eq_true rfl) (RC.deep (by omega) (s_o_bannAt (d := d) _ _ _ _ h1)) ?_
    show RR KO _ 2224 126 [(3, .int v3), (4, .int v4), (5, .int v5), (6, .int v6)] [.int r1] S2 _ _
    refine RR.weak [] trivial ?_
    exact s_o_banns_126 _ _ h
def o_banns_46 : Nat → Int32 → Int32 → Int32 → Int32 → Int32 → Int32 → Int32 → St → Re Int32
  | 0, _, _, _, _, _, _, _, _ => none
  | n + 1, v1, v2, v3, v4, v5, v6, v7, S =>
  if v7 < ((1 : Int32) <<< (((2 : Int32) * v4) &&& 31)) then (
    bn (o_isOrder v7 v4 S) fun r1 S2 =>
    if r1 = 0 then (
      o_banns_101 (o_banns_46 n) v1 v2 v3 v4 v5 v6 v7 S2)
    else (
      bn (o_lostByBanns v7 v1 v2 S2) fun r3 S4 =>
      if v5 = (-1 : Int32) then (
        o_banns_93 (o_banns_46 n) v1 v2 v3 v4 v7 r3 S4)
      else (
        if r3 < v6 then (
          o_banns_93 (o_banns_46 n) v1 v2 v3 v4 v7 r3 S4)
        else (
          o_banns_101 (o_banns_46 n) v1 v2 v3 v4 v5 v6 v7 S4))))
  else (
    o_banns_107 v3 v4 v5 v6 S)
set_option maxRecDepth 100000 in
theorem s_o_banns_46 {d : Nat} {S' : St} {r : Int32} : ∀ (n : Nat) (v1 : Int32) (v2 : Int32) (v3 : Int32) (v4 : Int32) (v5 : Int32) (v6 : Int32) (v7 : Int32) (S : St), o_banns_46 n v1 v2 v3 v4 v5 v6 v7 S = some (r, S') → RR KO (d + 7) 2224 46 [(0, .ref 1), (1, .int v1), (2, .int v2), (3, .int v3), (4, .int v4), (5, .int v5), (6, .int v6), (7, .int v7)] [] S (some (.int r)) S' := by
  intro n
  induction n with
  | zero => intro v1 v2 v3 v4 v5 v6 v7 S h; simp only [o_banns_46] at h; cases h
  | succ n ih =>
    intro v1 v2 v3 v4 v5 v6 v7 S h
    simp only [o_banns_46] at h
    refine RR.runs (pc' := icm .ge v7 (((1 : Int32) <<< (((2 : Int32) * v4) &&& 31))) 107 57) (lc' := [(0, .ref 1), (1, .int v1), (2, .int v2), (3, .int v3), (4, .int v4), (5, .int v5), (6, .int v6), (7, .int v7)]) (st' := []) (S1 := S) (nL := 9) (cd := cd_2224) mx_2224 rfl rfl 7 rfl ?_
    rcases ifE h with ⟨c, h⟩ | ⟨c, h⟩
    · refine RR.c_ge (fun _ => ?_) (fun q => absurd c q)
      refine RR.runs (pc' := 61) (lc' := [(0, .ref 1), (1, .int v1), (2, .int v2), (3, .int v3), (4, .int v4), (5, .int v5), (6, .int v6), (7, .int v7)]) (st' := [.int v4, .int v7]) (S1 := S) (nL := 9) (cd := cd_2224) mx_2224 rfl rfl 2 rfl ?_
      obtain ⟨r1, S2, h1, h⟩ := bnE h
      refine RR.callS (as := [.int v7, .int v4]) (rest := []) (r1 := (some (.int r1))) (S1 := S2) mx_2224 rfl rfl mx_2238 rfl rfl (by decide) (Nat.le_of_ble_eq_true rfl) (Nat.le_of_ble_eq_true rfl) (Nat.le_of_ble_eq_true rfl) (RC.deep (by omega) (s_o_isOrder (d := d) _ _ _ h1)) ?_
      show RR KO _ 2224 64 [(0, .ref 1), (1, .int v1), (2, .int v2), (3, .int v3), (4, .int v4), (5, .int v5), (6, .int v6), (7, .int v7)] [.int r1] S2 _ _
      refine RR.runs (pc' := icm .ne r1 0 70 67) (lc' := [(0, .ref 1), (1, .int v1), (2, .int v2), (3, .int v3), (4, .int v4), (5, .int v5), (6, .int v6), (7, .int v7)]) (st' := []) (S1 := S2) (nL := 9) (cd := cd_2224) mx_2224 rfl rfl 1 rfl ?_
      rcases ifE h with ⟨c, h⟩ | ⟨c, h⟩
      · refine RR.c_ne (fun _ => ?_) (fun q => absurd c q)
        refine RR.runs (pc' := 101) (lc' := [(0, .ref 1), (1, .int v1), (2, .int v2), (3, .int v3), (4, .int v4), (5, .int v5), (6, .int v6), (7, .int v7)]) (st' := []) (S1 := S2) (nL := 9) (cd := cd_2224) mx_2224 rfl rfl 1 rfl ?_
        refine RR.weak [(0, .ref 1), (1, .int v1), (2, .int v2), (3, .int v3), (4, .int v4), (5, .int v5), (6, .int v6), (7, .int v7)] ⟨rfl, rfl, rfl, rfl, rfl, rfl, rfl, rfl, trivial⟩ ?_
        exact s_o_banns_101 _ (fun _ _ _ _ _ _ _ S h => ih _ _ _ _ _ _ _ S h) _ _ _ _ _ _ _ _ h
      · refine RR.c_ne (fun q => absurd q c) (fun _ => ?_)
        refine RR.runs (pc' := 75) (lc' := [(0, .ref 1), (1, .int v1), (2, .int v2), (3, .int v3), (4, .int v4), (5, .int v5), (6, .int v6), (7, .int v7)]) (st' := [.int v2, .int v1, .int v7, .ref 1]) (S1 := S2) (nL := 9) (cd := cd_2224) mx_2224 rfl rfl 4 rfl ?_
        obtain ⟨r3, S4, h1, h⟩ := bnE h
        refine RR.callV (b := 1) (as := [.int v7, .int v1, .int v2]) (rest := []) (r1 := (some (.int r3))) (S1 := S4) mx_2224 rfl rfl mx_2239 rfl rfl (by decide) (Or.inl rfl) (Nat.le_of_ble_eq_true rfl) (Nat.le_of_ble_eq_true rfl) (RC.deep (by omega) (s_o_lostByBanns (d := d) _ _ _ _ h1)) ?_
        show RR KO _ 2224 78 [(0, .ref 1), (1, .int v1), (2, .int v2), (3, .int v3), (4, .int v4), (5, .int v5), (6, .int v6), (7, .int v7)] [.int r3] S4 _ _
        refine RR.runs (pc' := icm .eq v5 (-1 : Int32) 93 86) (lc' := [(8, .int r3), (0, .ref 1), (1, .int v1), (2, .int v2), (3, .int v3), (4, .int v4), (5, .int v5), (6, .int v6), (7, .int v7)]) (st' := []) (S1 := S4) (nL := 9) (cd := cd_2224) mx_2224 rfl rfl 4 rfl ?_
        rcases ifE h with ⟨c, h⟩ | ⟨c, h⟩
        · refine RR.c_eq (fun _ => ?_) (fun q => absurd c q)
          refine RR.weak [(0, .ref 1), (1, .int v1), (2, .int v2), (3, .int v3), (4, .int v4), (7, .int v7), (8, .int r3)] ⟨rfl, rfl, rfl, rfl, rfl, rfl, rfl, trivial⟩ ?_
          exact s_o_banns_93 _ (fun _ _ _ _ _ _ _ S h => ih _ _ _ _ _ _ _ S h) _ _ _ _ _ _ _ h
        · refine RR.c_eq (fun q => absurd q c) (fun _ => ?_)
          refine RR.runs (pc' := icm .ge r3 v6 101 93) (lc' := [(8, .int r3), (0, .ref 1), (1, .int v1), (2, .int v2), (3, .int v3), (4, .int v4), (5, .int v5), (6, .int v6), (7, .int v7)]) (st' := []) (S1 := S4) (nL := 9) (cd := cd_2224) mx_2224 rfl rfl 3 rfl ?_
          rcases ifE h with ⟨c, h⟩ | ⟨c, h⟩
          · refine RR.c_ge (fun _ => ?_) (fun q => absurd c q)
            refine RR.weak [(0, .ref 1), (1, .int v1), (2, .int v2), (3, .int v3), (4, .int v4), (7, .int v7), (8, .int r3)] ⟨rfl, rfl, rfl, rfl, rfl, rfl, rfl, trivial⟩ ?_
            exact s_o_banns_93 _ (fun _ _ _ _ _ _ _ S h => ih _ _ _ _ _ _ _ S h) _ _ _ _ _ _ _ h
          · refine RR.c_ge (fun q => absurd q c) (fun _ => ?_)
            refine RR.weak [(0, .ref 1), (1, .int v1), (2, .int v2), (3, .int v3), (4, .int v4), (5, .int v5), (6, .int v6), (7, .int v7)] ⟨rfl, rfl, rfl, rfl, rfl, rfl, rfl, rfl, trivial⟩ ?_
            exact s_o_banns_101 _ (fun _ _ _ _ _ _ _ S h => ih _ _ _ _ _ _ _ S h) _ _ _ _ _ _ _ _ h
    · refine RR.c_ge (fun q => absurd q c) (fun _ => ?_)
      refine RR.weak [(3, .int v3), (4, .int v4), (5, .int v5), (6, .int v6)] ⟨rfl, rfl, rfl, rfl, trivial⟩ ?_
      exact s_o_banns_107 _ _ _ _ _ h
def o_banns (v1 : Int32) (v2 : Int32) (v3 : Int32) (S : St) : Re Int32 :=
  oq (rQ S 1 9) none fun o1 =>
  if KO.1 o1 = (0, 10) then (
  if KO.1 (o1 + 88) = (0, 7) then (
bn (o_tb_size (o1 + 88) S) fun r4 S5 =>
  if r4 = 0 then (
    o_banns_35 S5)
  else (
    bn (o_isVoice v1 v2 S5) fun r6 S7 =>
    if r6 = 0 then (
      o_banns_35 S7)
    else (
      if v3 < 0 then (
        o_banns_35 S7)
      else (
        if r4 < v3 then (
          o_banns_35 S7)
        else (
          o_banns_46 FU v1 v2 v3 r4 (-1 : Int32) (0 : Int32) (0 : Int32) S7))))) else none) else none
set_option maxRecDepth 100000 in
theorem s0_o_banns {d : Nat} {S' : St} {r : Int32} (v1 : Int32) (v2 : Int32) (v3 : Int32) (S : St) (h : o_banns v1 v2 v3 S = some (r, S')) : RR KO (d + 7) 2224 0 [(0, .ref 1), (1, .int v1), (2, .int v2), (3, .int v3)] [] S (some (.int r)) S' := by
  unfold o_banns at h
  refine RR.runs (pc' := 4) (lc' := [(0, .ref 1), (1, .int v1), (2, .int v2), (3, .int v3)]) (st' := [qv (rQ S 1 9)]) (S1 := S) (nL := 9) (cd := cd_2224) mx_2224 rfl rfl 2 rfl ?_
  rcases oqE h with ⟨e1, h⟩ | ⟨o1, eo1, h⟩
  · cases h
  rw [eo1]
  obtain ⟨g2, h⟩ := gpE h
  refine RR.gPo (pc' := 7) (lc' := [(0, .ref 1), (1, .int v1), (2, .int v2), (3, .int v3)]) (st' := [.ref (o1 + 88)]) (S1 := S) (nL := 9) (cd := cd_2224) mx_2224 rfl rfl rfl ⟨g2, by decide, by decide⟩ ?_
  obtain ⟨g3, h⟩ := gpE h
  obtain ⟨r4, S5, h1, h⟩ := bnE h
  refine RR.callV (b := (o1 + 88)) (as := []) (rest := []) (r1 := (some (.int r4))) (S1 := S5) mx_2224 rfl rfl mx_1402 rfl rfl (by decide) (Or.inl g3) (Nat.le_of_ble_eq_true rfl) (Nat.le_of_ble_eq_true rfl) (RC.deep (by omega) (s_o_tb_size (d := d) _ _ h1)) ?_
  show RR KO _ 2224 10 [(0, .ref 1), (1, .int v1), (2, .int v2), (3, .int v3)] [.int r4] S5 _ _
  refine RR.runs (pc' := icm .eq r4 0 35 17) (lc' := [(4, .int r4), (0, .ref 1), (1, .int v1), (2, .int v2), (3, .int v3)]) (st' := []) (S1 := S5) (nL := 9) (cd := cd_2224) mx_2224 rfl rfl 3 rfl ?_
  rcases ifE h with ⟨c, h⟩ | ⟨c, h⟩
  · refine RR.c_eq (fun _ => ?_) (fun q => absurd c q)
    refine RR.weak [] trivial ?_
    exact s_o_banns_35 _ h
  · refine RR.c_eq (fun q => absurd q c) (fun _ => ?_)
    refine RR.runs (pc' := 19) (lc' := [(4, .int r4), (0, .ref 1), (1, .int v1), (2, .int v2), (3, .int v3)]) (st' := [.int v2, .int v1]) (S1 := S5) (nL := 9) (cd := cd_2224) mx_2224 rfl rfl 2 rfl ?_
    obtain ⟨r6, S7, h1, h⟩ := bnE h
    refine RR.callS (as := [.int v1, .int v2]) (rest := []) (r1 := (some (.int r6))) (S1 := S7) mx_2224 rfl rfl mx_2235 rfl rfl (by decide) (Nat.le_of_ble_eq_true rfl) (Nat.le_of_ble_eq_true rfl) (Nat.le_of_ble_eq_true rfl) (RC.deep (by omega) (s_o_isVoice (d := d) _ _ _ h1)) ?_
    show RR KO _ 2224 22 [(4, .int r4), (0, .ref 1), (1, .int v1), (2, .int v2), (3, .int v3)] [.int r6] S7 _ _
    refine RR.runs (pc' := icm .eq r6 0 35 25) (lc' := [(4, .int r4), (0, .ref 1), (1, .int v1), (2, .int v2), (3, .int v3)]) (st' := []) (S1 := S7) (nL := 9) (cd := cd_2224) mx_2224 rfl rfl 1 rfl ?_
    rcases ifE h with ⟨c, h⟩ | ⟨c, h⟩
    · refine RR.c_eq (fun _ => ?_) (fun q => absurd c q)
      refine RR.weak [] trivial ?_
      exact s_o_banns_35 _ h
    · refine RR.c_eq (fun q => absurd q c) (fun _ => ?_)
      refine RR.runs (pc' := icm .lt v3 0 35 29) (lc' := [(4, .int r4), (0, .ref 1), (1, .int v1), (2, .int v2), (3, .int v3)]) (st' := []) (S1 := S7) (nL := 9) (cd := cd_2224) mx_2224 rfl rfl 2 rfl ?_
      rcases ifE h with ⟨c, h⟩ | ⟨c, h⟩
      · refine RR.c_lt (fun _ => ?_) (fun q => absurd c q)
        refine RR.weak [] trivial ?_
        exact s_o_banns_35 _ h
      · refine RR.c_lt (fun q => absurd q c) (fun _ => ?_)
        refine RR.runs (pc' := icm .le v3 r4 37 35) (lc' := [(4, .int r4), (0, .ref 1), (1, .int v1), (2, .int v2), (3, .int v3)]) (st' := []) (S1 := S7) (nL := 9) (cd := cd_2224) mx_2224 rfl rfl 3 rfl ?_
        rcases ifE h with ⟨c, h⟩ | ⟨c, h⟩
        · refine RR.c_le (fun _ => ?_) (fun q => absurd c q)
          refine RR.weak [] trivial ?_
          exact s_o_banns_35 _ h
        · refine RR.c_le (fun q => absurd q c) (fun _ => ?_)
          refine RR.runs (pc' := 46) (lc' := [(7, .int (0 : Int32)), (6, .int (0 : Int32)), (5, .int (-1 : Int32)), (4, .int r4), (0, .ref 1), (1, .int v1), (2, .int v2), (3, .int v3)]) (st' := []) (S1 := S7) (nL := 9) (cd := cd_2224) mx_2224 rfl rfl 6 rfl ?_
          refine RR.weak [(0, .ref 1), (1, .int v1), (2, .int v2), (3, .int v3), (4, .int r4), (5, .int (-1 : Int32)), (6, .int (0 : Int32)), (7, .int (0 : Int32))] ⟨rfl, rfl, rfl, rfl, rfl, rfl, rfl, rfl, trivial⟩ ?_
          exact s_o_banns_46 _ _ _ _ _ _ _ _ _ h
theorem s_o_banns {d : Nat} {S' : St} {r : Int32} (v1 : Int32) (v2 : Int32) (v3 : Int32) (S : St) (h : o_banns v1 v2 v3 S = some (r, S')) : RC KO (d + 7) 2224 [.ref 1, .int v1, .int v2, .int v3] S (some (.int r)) S' := RC.of rfl (s0_o_banns v1 v2 v3 S h)
-- NameOrchard drawStrangers ()I
def o_drawStrangers_80 (k4 : Int32 → Int32 → St → Re Int32) (v1 : Int32) (v2 : Int32) (S : St) : Re Int32 :=
  lt' ((v2 + (1 : Int32)) : Int32) fun x1 =>
  k4 v1 x1 S
set_option maxRecDepth 100000 in
theorem s_o_drawStrangers_80 {d : Nat} (k4 : Int32 → Int32 → St → Re Int32) {S' : St} {r : Int32} (b4 : ∀ (v1 : Int32) (v2 : Int32) (S : St), k4 v1 v2 S = some (r, S') → RR KO (d + 6) 2240 4 [(0, .ref 1), (1, .int v1), (2, .int v2)] [] S (some (.int r)) S') (v1 : Int32) (v2 : Int32) (S : St) (h : o_drawStrangers_80 k4 v1 v2 S = some (r, S')) : RR KO (d + 6) 2240 80 [(0, .ref 1), (1, .int v1), (2, .int v2)] [] S (some (.int r)) S' := by
  unfold o_drawStrangers_80 at h
  refine RR.runs (pc' := 83) (lc' := [(2, .int ((v2 + (1 : Int32)))), (0, .ref 1), (1, .int v1)]) (st' := []) (S1 := S) (nL := 4) (cd := cd_2240) mx_2240 rfl rfl 1 rfl ?_
  obtain ⟨x1, ex1, h⟩ := ltE h
  rw [← ex1]
  refine RR.runs (pc' := 4) (lc' := [(2, .int x1), (0, .ref 1), (1, .int v1)]) (st' := []) (S1 := S) (nL := 4) (cd := cd_2240) mx_2240 rfl rfl 1 rfl ?_
  refine RR.weak [(0, .ref 1), (1, .int v1), (2, .int x1)] ⟨rfl, rfl, rfl, trivial⟩ ?_
  exact b4 _ _ _ h
def o_drawStrangers_86 (v1 : Int32) (S : St) : Re Int32 :=
  some (v1, S)
set_option maxRecDepth 100000 in
theorem s_o_drawStrangers_86 {d : Nat} {S' : St} {r : Int32} (v1 : Int32) (S : St) (h : o_drawStrangers_86 v1 S = some (r, S')) : RR KO (d + 6) 2240 86 [(1, .int v1)] [] S (some (.int r)) S' := by
  unfold o_drawStrangers_86 at h
  refine RR.runs (pc' := 87) (lc' := [(1, .int v1)]) (st' := [.int v1]) (S1 := S) (nL := 4) (cd := cd_2240) mx_2240 rfl rfl 1 rfl ?_
  cases h
  exact RR.reti mx_2240 rfl rfl rfl
def o_drawStrangers_4 : Nat → Int32 → Int32 → St → Re Int32
  | 0, _, _, _ => none
  | n + 1, v1, v2, S =>
  oq (rQ S 1 9) none fun o1 =>
  if KO.1 o1 = (0, 10) then (
  if KO.1 (o1 + 84) = (0, 7) then (
bn (o_tb_size (o1 + 84) S) fun r4 S5 =>
  if v2 < r4 then (
    bn (o_dr_below (10 : Int32) S5) fun r6 S7 =>
    oq (rQ S7 1 9) none fun o8 =>
    if KO.1 o8 = (0, 10) then (
    if KO.1 (o8 + 84) = (0, 7) then (
bn (o_tb_at (o8 + 84) v2 (1 : Int32) S7) fun r11 S12 =>
    if r6 < r11 then (
      bn (o_dr_below (12 : Int32) S12) fun r13 S14 =>
      oq (rQ S14 1 9) none fun o15 =>
      oq (rQ S14 1 9) none fun o16 =>
      if KO.1 o16 = (0, 10) then (
      if KO.1 (o16 + 84) = (0, 7) then (
bn (o_tb_at (o16 + 84) v2 (0 : Int32) S14) fun r19 S20 =>
      bn (o_sd_cry 205 o15 r13 (3 : Int32) r19 S20) fun r21 S22 =>
      lt' ((v1 ||| r21) : Int32) fun x23 =>
      o_drawStrangers_80 (o_drawStrangers_4 n) x23 v2 S22) else none) else none)
    else (
      o_drawStrangers_80 (o_drawStrangers_4 n) v1 v2 S12)) else none) else none)
  else (
    o_drawStrangers_86 v1 S5)) else none) else none
set_option maxRecDepth 100000 in
theorem s_o_drawStrangers_4 {d : Nat} {S' : St} {r : Int32} : ∀ (n : Nat) (v1 : Int32) (v2 : Int32) (S : St), o_drawStrangers_4 n v1 v2 S = some (r, S') → RR KO (d + 6) 2240 4 [(0, .ref 1), (1, .int v1), (2, .int v2)] [] S (some (.int r)) S' := by
  intro n
  induction n with
  | zero => intro v1 v2 S h; simp only [o_drawStrangers_4] at h; cases h
  | succ n ih =>
    intro v1 v2 S h
    simp only [o_drawStrangers_4] at h
    refine RR.runs (pc' := 9) (lc' := [(0, .ref 1), (1, .int v1), (2, .int v2)]) (st' := [qv (rQ S 1 9), .int v2]) (S1 := S) (nL := 4) (cd := cd_2240) mx_2240 rfl rfl 3 rfl ?_
    rcases oqE h with ⟨e1, h⟩ | ⟨o1, eo1, h⟩
    · cases h
    rw [eo1]
    obtain ⟨g2, h⟩ := gpE h
    refine RR.gPo (pc' := 12) (lc' := [(0, .ref 1), (1, .int v1), (2, .int v2)]) (st' := [.ref (o1 + 84), .int v2]) (S1 := S) (nL := 4) (cd := cd_2240) mx_2240 rfl rfl rfl ⟨g2, by decide, by decide⟩ ?_
    obtain ⟨g3, h⟩ := gpE h
    obtain ⟨r4, S5, h1, h⟩ := bnE h
    refine RR.callV (b := (o1 + 84)) (as := []) (rest := [.int v2]) (r1 := (some (.int r4))) (S1 := S5) mx_2240 rfl rfl mx_1402 rfl rfl (by decide) (Or.inl g3) (Nat.le_of_ble_eq_true rfl) (Nat.le_of_ble_eq_true rfl) (RC.deep (by omega) (s_o_tb_size (d := d) _ _ h1)) ?_
    show RR KO _ 2240 15 [(0, .ref 1), (1, .int v1), (2, .int v2)] [.int r4, .int v2] S5 _ _
    refine RR.runs (pc' := icm .ge v2 r4 86 18) (lc' := [(0, .ref 1), (1, .int v1), (2, .int v2)]) (st' := []) (S1 := S5) (nL := 4) (cd := cd_2240) mx_2240 rfl rfl 1 rfl ?_
    rcases ifE h with ⟨c, h⟩ | ⟨c, h⟩
    · refine RR.c_ge (fun _ => ?_) (fun q => absurd c q)
      refine RR.runs (pc' := 24) (lc' := [(0, .ref 1), (1, .int v1), (2, .int v2)]) (st' := [.int (10 : Int32), .ref 15]) (S1 := S5) (nL := 4) (cd := cd_2240) mx_2240 rfl rfl 3 rfl ?_
      obtain ⟨r6, S7, h1, h⟩ := bnE h
      refine RR.callV (b := 15) (as := [.int (10 : Int32)]) (rest := []) (r1 := (some (.int r6))) (S1 := S7) mx_2240 rfl rfl mx_2 rfl rfl (by decide) (Or.inl rfl) (Nat.le_of_ble_eq_true rfl) (Nat.le_of_ble_eq_true rfl) (RC.deep (by omega) (s_o_dr_below (d := d) _ _ h1)) ?_
      show RR KO _ 2240 27 [(0, .ref 1), (1, .int v1), (2, .int v2)] [.int r6] S7 _ _
      refine RR.runs (pc' := 31) (lc' := [(0, .ref 1), (1, .int v1), (2, .int v2)]) (st' := [qv (rQ S7 1 9), .int r6]) (S1 := S7) (nL := 4) (cd := cd_2240) mx_2240 rfl rfl 2 rfl ?_
      rcases oqE h with ⟨e1, h⟩ | ⟨o8, eo8, h⟩
      · cases h
      rw [eo8]
      obtain ⟨g9, h⟩ := gpE h
      refine RR.gPo (pc' := 34) (lc' := [(0, .ref 1), (1, .int v1), (2, .int v2)]) (st' := [.ref (o8 + 84), .int r6]) (S1 := S7) (nL := 4) (cd := cd_2240) mx_2240 rfl rfl rfl ⟨g9, by decide, by decide⟩ ?_
      refine RR.runs (pc' := 36) (lc' := [(0, .ref 1), (1, .int v1), (2, .int v2)]) (st' := [.int (1 : Int32), .int v2, .ref (o8 + 84), .int r6]) (S1 := S7) (nL := 4) (cd := cd_2240) mx_2240 rfl rfl 2 rfl ?_
      obtain ⟨g10, h⟩ := gpE h
      obtain ⟨r11, S12, h1, h⟩ := bnE h
      refine RR.callV (b := (o8 + 84)) (as := [.int v2, .int (1 : Int32)]) (rest := [.int r6]) (r1 := (some (.int r11))) (S1 := S12) mx_2240 rfl rfl mx_1405 rfl rfl (by decide) (Or.inl g10) (Nat.le_of_ble_eq_true rfl) (Nat.le_of_ble_eq_true rfl) (RC.deep (by omega) (s_o_tb_at (d := d) _ _ _ _ h1)) ?_
      show RR KO _ 2240 39 [(0, .ref 1), (1, .int v1), (2, .int v2)] [.int r11, .int r6] S12 _ _
      refine RR.runs (pc' := icm .ge r6 r11 80 42) (lc' := [(0, .ref 1), (1, .int v1), (2, .int v2)]) (st' := []) (S1 := S12) (nL := 4) (cd := cd_2240) mx_2240 rfl rfl 1 rfl ?_
      rcases ifE h with ⟨c, h⟩ | ⟨c, h⟩
      · refine RR.c_ge (fun _ => ?_) (fun q => absurd c q)
        refine RR.runs (pc' := 48) (lc' := [(0, .ref 1), (1, .int v1), (2, .int v2)]) (st' := [.int (12 : Int32), .ref 15]) (S1 := S12) (nL := 4) (cd := cd_2240) mx_2240 rfl rfl 3 rfl ?_
        obtain ⟨r13, S14, h1, h⟩ := bnE h
        refine RR.callV (b := 15) (as := [.int (12 : Int32)]) (rest := []) (r1 := (some (.int r13))) (S1 := S14) mx_2240 rfl rfl mx_2 rfl rfl (by decide) (Or.inl rfl) (Nat.le_of_ble_eq_true rfl) (Nat.le_of_ble_eq_true rfl) (RC.deep (by omega) (s_o_dr_below (d := d) _ _ h1)) ?_
        show RR KO _ 2240 51 [(0, .ref 1), (1, .int v1), (2, .int v2)] [.int r13] S14 _ _
        refine RR.runs (pc' := 61) (lc' := [(3, .int r13), (0, .ref 1), (1, .int v1), (2, .int v2)]) (st' := [qv (rQ S14 1 9), .ref 205, .int v1]) (S1 := S14) (nL := 4) (cd := cd_2240) mx_2240 rfl rfl 6 rfl ?_
        rcases oqE h with ⟨e1, h⟩ | ⟨o15, eo15, h⟩
        · cases h
        rw [eo15]
        refine RR.runs (pc' := 67) (lc' := [(3, .int r13), (0, .ref 1), (1, .int v1), (2, .int v2)]) (st' := [qv (rQ S14 1 9), .int (3 : Int32), .int r13, .ref o15, .ref 205, .int v1]) (S1 := S14) (nL := 4) (cd := cd_2240) mx_2240 rfl rfl 4 rfl ?_
        rcases oqE h with ⟨e1, h⟩ | ⟨o16, eo16, h⟩
        · cases h
        rw [eo16]
        obtain ⟨g17, h⟩ := gpE h
        refine RR.gPo (pc' := 70) (lc' := [(3, .int r13), (0, .ref 1), (1, .int v1), (2, .int v2)]) (st' := [.ref (o16 + 84), .int (3 : Int32), .int r13, .ref o15, .ref 205, .int v1]) (S1 := S14) (nL := 4) (cd := cd_2240) mx_2240 rfl rfl rfl ⟨g17, by decide, by decide⟩ ?_
        refine RR.runs (pc' := 72) (lc' := [(3, .int r13), (0, .ref 1), (1, .int v1), (2, .int v2)]) (st' := [.int (0 : Int32), .int v2, .ref (o16 + 84), .int (3 : Int32), .int r13, .ref o15, .ref 205, .int v1]) (S1 := S14) (nL := 4) (cd := cd_2240) mx_2240 rfl rfl 2 rfl ?_
        obtain ⟨g18, h⟩ := gpE h
        obtain ⟨r19, S20, h1, h⟩ := bnE h
        refine RR.callV (b := (o16 + 84)) (as := [.int v2, .int (0 : Int32)]) (rest := [.int (3 : Int32), .int r13, .ref o15, .ref 205, .int v1]) (r1 := (some (.int r19))) (S1 := S20) mx_2240 rfl rfl mx_1405 rfl rfl (by decide) (Or.inl g18) (Nat.le_of_ble_eq_true rfl) (Nat.le_of_ble_eq_true rfl) (RC.deep (by omega) (s_o_tb_at (d := d) _ _ _ _ h1)) ?_
        show RR KO _ 2240 75 [(3, .int r13), (0, .ref 1), (1, .int v1), (2, .int v2)] [.int r19, .int (3 : Int32), .int r13, .ref o15, .ref 205, .int v1] S20 _ _
        obtain ⟨r21, S22, h1, h⟩ := bnE h
        refine RR.callV (b := 205) (as := [.ref o15, .int r13, .int (3 : Int32), .int r19]) (rest := [.int v1]) (r1 := (some (.int r21))) (S1 := S22) mx_2240 rfl rfl mx_1011 rfl rfl (by decide) (Or.inl rfl) (Nat.le_of_ble_eq_true rfl) (Nat.le_of_ble_eq_true rfl) (RC.deep (by omega) (s_o_sd_cry (d := d) _ _ _ _ _ _ h1)) ?_
        show RR KO _ 2240 78 [(3, .int r13), (0, .ref 1), (1, .int v1), (2, .int v2)] [.int r21, .int v1] S22 _ _
        refine RR.runs (pc' := 80) (lc' := [(1, .int (v1 ||| r21)), (3, .int r13), (0, .ref 1), (2, .int v2)]) (st' := []) (S1 := S22) (nL := 4) (cd := cd_2240) mx_2240 rfl rfl 2 rfl ?_
        obtain ⟨x23, ex23, h⟩ := ltE h
        rw [← ex23]
        refine RR.weak [(0, .ref 1), (1, .int x23), (2, .int v2)] ⟨rfl, rfl, rfl, trivial⟩ ?_
        exact s_o_drawStrangers_80 _ (fun _ _ S h => ih _ _ S h) _ _ _ h
      · refine RR.c_ge (fun q => absurd q c) (fun _ => ?_)
        refine RR.weak [(0, .ref 1), (1, .int v1), (2, .int v2)] ⟨rfl, rfl, rfl, trivial⟩ ?_
        exact s_o_drawStrangers_80 _ (fun _ _ S h => ih _ _ S h) _ _ _ h
    · refine RR.c_ge (fun q => absurd q c) (fun _ => ?_)
      refine RR.weak [(1, .int v1)] ⟨rfl, trivial⟩ ?_
      exact s_o_drawStrangers_86 _ _ h
def o_drawStrangers (S : St) : Re Int32 :=
  o_drawStrangers_4 FU (0 : Int32) (0 : Int32) S
set_option maxRecDepth 100000 in
theorem s0_o_drawStrangers {d : Nat} {S' : St} {r : Int32} (S : St) (h : o_drawStrangers S = some (r, S')) : RR KO (d + 6) 2240 0 [(0, .ref 1)] [] S (some (.int r)) S' := by
  unfold o_drawStrangers at h
  refine RR.runs (pc' := 4) (lc' := [(2, .int (0 : Int32)), (1, .int (0 : Int32)), (0, .ref 1)]) (st' := []) (S1 := S) (nL := 4) (cd := cd_2240) mx_2240 rfl rfl 4 rfl ?_
  refine RR.weak [(0, .ref 1), (1, .int (0 : Int32)), (2, .int (0 : Int32))] ⟨rfl, rfl, rfl, trivial⟩ ?_
  exact s_o_drawStrangers_4 _ _ _ _ h
theorem s_o_drawStrangers {d : Nat} {S' : St} {r : Int32} (S : St) (h : o_drawStrangers S = some (r, S')) : RC KO (d + 6) 2240 [.ref 1] S (some (.int r)) S' := RC.of rfl (s0_o_drawStrangers S h)
-- NameOrchard drawPerson ()I
def o_drawPerson_26 (S : St) : Re Int32 :=
  some ((0 : Int32), S)
set_option maxRecDepth 100000 in
theorem s_o_drawPerson_26 {d : Nat} {S' : St} {r : Int32} (S : St) (h : o_drawPerson_26 S = some (r, S')) : RR KO (d + 6) 2241 26 [] [] S (some (.int r)) S' := by
  unfold o_drawPerson_26 at h
  refine RR.runs (pc' := 27) (lc' := []) (st' := [.int (0 : Int32)]) (S1 := S) (nL := 3) (cd := cd_2241) mx_2241 rfl rfl 1 rfl ?_
  cases h
  exact RR.reti mx_2241 rfl rfl rfl
def o_drawPerson (S : St) : Re Int32 :=
  oq (rQ S 1 9) none fun o1 =>
  if KO.1 o1 = (0, 10) then (
  if KO.1 (o1 + 82) = (0, 7) then (
bn (o_tb_size (o1 + 82) S) fun r4 S5 =>
  if r4 = 0 then (
    o_drawPerson_26 S5)
  else (
    oq (rQ S5 1 9) none fun o6 =>
    if KO.1 o6 = (0, 10) then (
    if KO.1 (o6 + 2) = (0, 2) then (
bn (o_na_size (o6 + 2) S5) fun r9 S10 =>
    if r9 = 0 then (
      o_drawPerson_26 S10)
    else (
      oq (rQ S10 1 9) none fun o11 =>
      if KO.1 o11 = (0, 10) then (
      if KO.1 (o11 + 82) = (0, 7) then (
bn (o_tb_size (o11 + 82) S10) fun r14 S15 =>
      bn (o_dr_below r14 S15) fun r16 S17 =>
      oq (rQ S17 1 9) none fun o18 =>
      if KO.1 o18 = (0, 10) then (
      if KO.1 (o18 + 2) = (0, 2) then (
bn (o_na_size (o18 + 2) S17) fun r21 S22 =>
      bn (o_dr_below r21 S22) fun r23 S24 =>
      oq (rQ S24 1 9) none fun o25 =>
      if KO.1 o25 = (0, 10) then (
bn (o_to_canSay o25 r16 r23 S24) fun r27 S28 =>
      if r27 = 0 then (
        some ((0 : Int32), S28))
      else (
        oq (rQ S28 1 9) none fun o29 =>
        oq (rQ S28 1 9) none fun o30 =>
        if KO.1 o30 = (0, 10) then (
bn (o_to_laneOf o30 r16 S28) fun r32 S33 =>
        oq (rQ S33 1 9) none fun o34 =>
        if KO.1 o34 = (0, 10) then (
bn (o_to_loudOf o34 r16 S33) fun r36 S37 =>
        bn (o_sd_cry 205 o29 r32 r36 r23 S37) fun r38 S39 =>
        some (r38, S39)) else none) else none)) else none) else none) else none) else none) else none)) else none) else none)) else none) else none
set_option maxRecDepth 100000 in
theorem s0_o_drawPerson {d : Nat} {S' : St} {r : Int32} (S : St) (h : o_drawPerson S = some (r, S')) : RR KO (d + 6) 2241 0 [(0, .ref 1)] [] S (some (.int r)) S' := by
  unfold o_drawPerson at h
  refine RR.runs (pc' := 4) (lc' := [(0, .ref 1)]) (st' := [qv (rQ S 1 9)]) (S1 := S) (nL := 3) (cd := cd_2241) mx_2241 rfl rfl 2 rfl ?_
  rcases oqE h with ⟨e1, h⟩ | ⟨o1, eo1, h⟩
  · cases h
  rw [eo1]
  obtain ⟨g2, h⟩ := gpE h
  refine RR.gPo (pc' := 7) (lc' := [(0, .ref 1)]) (st' := [.ref (o1 + 82)]) (S1 := S) (nL := 3) (cd := cd_2241) mx_2241 rfl rfl rfl ⟨g2, by decide, by decide⟩ ?_
  obtain ⟨g3, h⟩ := gpE h
  obtain ⟨r4, S5, h1, h⟩ := bnE h
  refine RR.callV (b := (o1 + 82)) (as := []) (rest := []) (r1 := (some (.int r4))) (S1 := S5) mx_2241 rfl rfl mx_1402 rfl rfl (by decide) (Or.inl g3) (Nat.le_of_ble_eq_true rfl) (Nat.le_of_ble_eq_true rfl) (RC.deep (by omega) (s_o_tb_size (d := d) _ _ h1)) ?_
  show RR KO _ 2241 10 [(0, .ref 1)] [.int r4] S5 _ _
  refine RR.runs (pc' := icm .eq r4 0 26 13) (lc' := [(0, .ref 1)]) (st' := []) (S1 := S5) (nL := 3) (cd := cd_2241) mx_2241 rfl rfl 1 rfl ?_
  rcases ifE h with ⟨c, h⟩ | ⟨c, h⟩
  · refine RR.c_eq (fun _ => ?_) (fun q => absurd c q)
    refine RR.weak [] trivial ?_
    exact s_o_drawPerson_26 _ h
  · refine RR.c_eq (fun q => absurd q c) (fun _ => ?_)
    refine RR.runs (pc' := 17) (lc' := [(0, .ref 1)]) (st' := [qv (rQ S5 1 9)]) (S1 := S5) (nL := 3) (cd := cd_2241) mx_2241 rfl rfl 2 rfl ?_
    rcases oqE h with ⟨e1, h⟩ | ⟨o6, eo6, h⟩
    · cases h
    rw [eo6]
    obtain ⟨g7, h⟩ := gpE h
    refine RR.gPo (pc' := 20) (lc' := [(0, .ref 1)]) (st' := [.ref (o6 + 2)]) (S1 := S5) (nL := 3) (cd := cd_2241) mx_2241 rfl rfl rfl ⟨g7, by decide, by decide⟩ ?_
    obtain ⟨g8, h⟩ := gpE h
    obtain ⟨r9, S10, h1, h⟩ := bnE h
    refine RR.callV (b := (o6 + 2)) (as := []) (rest := []) (r1 := (some (.int r9))) (S1 := S10) mx_2241 rfl rfl mx_403 rfl rfl (by decide) (Or.inl g8) (Nat.le_of_ble_eq_true rfl) (Nat.le_of_ble_eq_true rfl) (RC.deep (by omega) (s_o_na_size (d := d) _ _ h1)) ?_
    show RR KO _ 2241 23 [(0, .ref 1)] [.int r9] S10 _ _
    refine RR.runs (pc' := icm .ne r9 0 28 26) (lc' := [(0, .ref 1)]) (st' := []) (S1 := S10) (nL := 3) (cd := cd_2241) mx_2241 rfl rfl 1 rfl ?_
    rcases ifE h with ⟨c, h⟩ | ⟨c, h⟩
    · refine RR.c_ne (fun _ => ?_) (fun q => absurd c q)
      refine RR.weak [] trivial ?_
      exact s_o_drawPerson_26 _ h
    · refine RR.c_ne (fun q => absurd q c) (fun _ => ?_)
      refine RR.runs (pc' := 36) (lc' := [(0, .ref 1)]) (st' := [qv (rQ S10 1 9), .ref 15]) (S1 := S10) (nL := 3) (cd := cd_2241) mx_2241 rfl rfl 4 rfl ?_
      rcases oqE h with ⟨e1, h⟩ | ⟨o11, eo11, h⟩
      · cases h
      rw [eo11]
      obtain ⟨g12, h⟩ := gpE h
      refine RR.gPo (pc' := 39) (lc' := [(0, .ref 1)]) (st' := [.ref (o11 + 82), .ref 15]) (S1 := S10) (nL := 3) (cd := cd_2241) mx_2241 rfl rfl rfl ⟨g12, by decide, by decide⟩ ?_
      obtain ⟨g13, h⟩ := gpE h
      obtain ⟨r14, S15, h1, h⟩ := bnE h
      refine RR.callV (b := (o11 + 82)) (as := []) (rest := [.ref 15]) (r1 := (some (.int r14))) (S1 := S15) mx_2241 rfl rfl mx_1402 rfl rfl (by decide) (Or.inl g13) (Nat.le_of_ble_eq_true rfl) (Nat.le_of_ble_eq_true rfl) (RC.deep (by omega) (s_o_tb_size (d := d) _ _ h1)) ?_
      show RR KO _ 2241 42 [(0, .ref 1)] [.int r14, .ref 15] S15 _ _
      obtain ⟨r16, S17, h1, h⟩ := bnE h
      refine RR.callV (b := 15) (as := [.int r14]) (rest := []) (r1 := (some (.int r16))) (S1 := S17) mx_2241 rfl rfl mx_2 rfl rfl (by decide) (Or.inl rfl) (Nat.le_of_ble_eq_true rfl) (Nat.le_of_ble_eq_true rfl) (RC.deep (by omega) (s_o_dr_below (d := d) _ _ h1)) ?_
      show RR KO _ 2241 45 [(0, .ref 1)] [.int r16] S17 _ _
      refine RR.runs (pc' := 54) (lc' := [(1, .int r16), (0, .ref 1)]) (st' := [qv (rQ S17 1 9), .ref 15]) (S1 := S17) (nL := 3) (cd := cd_2241) mx_2241 rfl rfl 5 rfl ?_
      rcases oqE h with ⟨e1, h⟩ | ⟨o18, eo18, h⟩
      · cases h
      rw [eo18]
      obtain ⟨g19, h⟩ := gpE h
      refine RR.gPo (pc' := 57) (lc' := [(1, .int r16), (0, .ref 1)]) (st' := [.ref (o18 + 2), .ref 15]) (S1 := S17) (nL := 3) (cd := cd_2241) mx_2241 rfl rfl rfl ⟨g19, by decide, by decide⟩ ?_
      obtain ⟨g20, h⟩ := gpE h
      obtain ⟨r21, S22, h1, h⟩ := bnE h
      refine RR.callV (b := (o18 + 2)) (as := []) (rest := [.ref 15]) (r1 := (some (.int r21))) (S1 := S22) mx_2241 rfl rfl mx_403 rfl rfl (by decide) (Or.inl g20) (Nat.le_of_ble_eq_true rfl) (Nat.le_of_ble_eq_true rfl) (RC.deep (by omega) (s_o_na_size (d := d) _ _ h1)) ?_
      show RR KO _ 2241 60 [(1, .int r16), (0, .ref 1)] [.int r21, .ref 15] S22 _ _
      obtain ⟨r23, S24, h1, h⟩ := bnE h
      refine RR.callV (b := 15) (as := [.int r21]) (rest := []) (r1 := (some (.int r23))) (S1 := S24) mx_2241 rfl rfl mx_2 rfl rfl (by decide) (Or.inl rfl) (Nat.le_of_ble_eq_true rfl) (Nat.le_of_ble_eq_true rfl) (RC.deep (by omega) (s_o_dr_below (d := d) _ _ h1)) ?_
      show RR KO _ 2241 63 [(1, .int r16), (0, .ref 1)] [.int r23] S24 _ _
      refine RR.runs (pc' := 68) (lc' := [(2, .int r23), (1, .int r16), (0, .ref 1)]) (st' := [qv (rQ S24 1 9)]) (S1 := S24) (nL := 3) (cd := cd_2241) mx_2241 rfl rfl 3 rfl ?_
      rcases oqE h with ⟨e1, h⟩ | ⟨o25, eo25, h⟩
      · cases h
      rw [eo25]
      refine RR.runs (pc' := 70) (lc' := [(2, .int r23), (1, .int r16), (0, .ref 1)]) (st' := [.int r23, .int r16, .ref o25]) (S1 := S24) (nL := 3) (cd := cd_2241) mx_2241 rfl rfl 2 rfl ?_
      obtain ⟨g26, h⟩ := gpE h
      obtain ⟨r27, S28, h1, h⟩ := bnE h
      refine RR.callV (b := o25) (as := [.int r16, .int r23]) (rest := []) (r1 := (some (.int r27))) (S1 := S28) mx_2241 rfl rfl mx_2010 rfl rfl (by decide) (Or.inl g26) (Nat.le_of_ble_eq_true rfl) (Nat.le_of_ble_eq_true rfl) (RC.deep (by omega) (s_o_to_canSay (d := d) _ _ _ _ h1)) ?_
      show RR KO _ 2241 73 [(2, .int r23), (1, .int r16), (0, .ref 1)] [.int r27] S28 _ _
      refine RR.runs (pc' := icm .ne r27 0 78 76) (lc' := [(2, .int r23), (1, .int r16), (0, .ref 1)]) (st' := []) (S1 := S28) (nL := 3) (cd := cd_2241) mx_2241 rfl rfl 1 rfl ?_
      rcases ifE h with ⟨c, h⟩ | ⟨c, h⟩
      · refine RR.c_ne (fun _ => ?_) (fun q => absurd c q)
        refine RR.runs (pc' := 77) (lc' := [(2, .int r23), (1, .int r16), (0, .ref 1)]) (st' := [.int (0 : Int32)]) (S1 := S28) (nL := 3) (cd := cd_2241) mx_2241 rfl rfl 1 rfl ?_
        cases h
        exact RR.reti mx_2241 rfl rfl rfl
      · refine RR.c_ne (fun q => absurd q c) (fun _ => ?_)
        refine RR.runs (pc' := 86) (lc' := [(2, .int r23), (1, .int r16), (0, .ref 1)]) (st' := [qv (rQ S28 1 9), .ref 205]) (S1 := S28) (nL := 3) (cd := cd_2241) mx_2241 rfl rfl 4 rfl ?_
        rcases oqE h with ⟨e1, h⟩ | ⟨o29, eo29, h⟩
        · cases h
        rw [eo29]
        refine RR.runs (pc' := 90) (lc' := [(2, .int r23), (1, .int r16), (0, .ref 1)]) (st' := [qv (rQ S28 1 9), .ref o29, .ref 205]) (S1 := S28) (nL := 3) (cd := cd_2241) mx_2241 rfl rfl 2 rfl ?_
        rcases oqE h with ⟨e1, h⟩ | ⟨o30, eo30, h⟩
        · cases h
        rw [eo30]
        refine RR.runs (pc' := 91) (lc' := [(2, .int r23), (1, .int r16), (0, .ref 1)]) (st' := [.int r16, .ref o30, .ref o29, .ref 205]) (S1 := S28) (nL := 3) (cd := cd_2241) mx_2241 rfl rfl 1 rfl ?_
        obtain ⟨g31, h⟩ := gpE h
        obtain ⟨r32, S33, h1, h⟩ := bnE h
        refine RR.callV (b := o30) (as := [.int r16]) (rest := [.ref o29, .ref 205]) (r1 := (some (.int r32))) (S1 := S33) mx_2241 rfl rfl mx_2011 rfl rfl (by decide) (Or.inl g31) (Nat.le_of_ble_eq_true rfl) (Nat.le_of_ble_eq_true rfl) (RC.deep (by omega) (s_o_to_laneOf (d := d) _ _ _ h1)) ?_
        show RR KO _ 2241 94 [(2, .int r23), (1, .int r16), (0, .ref 1)] [.int r32, .ref o29, .ref 205] S33 _ _
        refine RR.runs (pc' := 98) (lc' := [(2, .int r23), (1, .int r16), (0, .ref 1)]) (st' := [qv (rQ S33 1 9), .int r32, .ref o29, .ref 205]) (S1 := S33) (nL := 3) (cd := cd_2241) mx_2241 rfl rfl 2 rfl ?_
        rcases oqE h with ⟨e1, h⟩ | ⟨o34, eo34, h⟩
        · cases h
        rw [eo34]
        refine RR.runs (pc' := 99) (lc' := [(2, .int r23), (1, .int r16), (0, .ref 1)]) (st' := [.int r16, .ref o34, .int r32, .ref o29, .ref 205]) (S1 := S33) (nL := 3) (cd := cd_2241) mx_2241 rfl rfl 1 rfl ?_
        obtain ⟨g35, h⟩ := gpE h
        obtain ⟨r36, S37, h1, h⟩ := bnE h
        refine RR.callV (b := o34) (as := [.int r16]) (rest := [.int r32, .ref o29, .ref 205]) (r1 := (some (.int r36))) (S1 := S37) mx_2241 rfl rfl mx_2012 rfl rfl (by decide) (Or.inl g35) (Nat.le_of_ble_eq_true rfl) (Nat.le_of_ble_eq_true rfl) (RC.deep (by omega) (s_o_to_loudOf (d := d) _ _ _ h1)) ?_
        show RR KO _ 2241 102 [(2, .int r23), (1, .int r16), (0, .ref 1)] [.int r36, .int r32, .ref o29, .ref 205] S37 _ _
        refine RR.runs (pc' := 103) (lc' := [(2, .int r23), (1, .int r16), (0, .ref 1)]) (st' := [.int r23, .int r36, .int r32, .ref o29, .ref 205]) (S1 := S37) (nL := 3) (cd := cd_2241) mx_2241 rfl rfl 1 rfl ?_
        obtain ⟨r38, S39, h1, h⟩ := bnE h
        refine RR.callV (b := 205) (as := [.ref o29, .int r32, .int r36, .int r23]) (rest := []) (r1 := (some (.int r38))) (S1 := S39) mx_2241 rfl rfl mx_1011 rfl rfl (by decide) (Or.inl rfl) (Nat.le_of_ble_eq_true rfl) (Nat.le_of_ble_eq_true rfl) (RC.deep (by omega) (s_o_sd_cry (d := d) _ _ _ _ _ _ h1)) ?_
        show RR KO _ 2241 106 [(2, .int r23), (1, .int r16), (0, .ref 1)] [.int r38] S39 _ _
        cases h
        exact RR.reti mx_2241 rfl rfl rfl
theorem s_o_drawPerson {d : Nat} {S' : St} {r : Int32} (S : St) (h : o_drawPerson S = some (r, S')) : RC KO (d + 6) 2241 [.ref 1] S (some (.int r)) S' := RC.of rfl (s0_o_drawPerson S h)
-- java/lang/Integer bitCount (I)I
def o_j_bitCount (v0 : Int32) (S : St) : Re Int32 :=
  lt' ((v0 - ((v0.toUInt32 >>> ((1 : Int32).toUInt32 &&& Int32.toUInt32 31)).toInt32 &&& (1431655765 : Int32))) : Int32) fun x1 =>
  lt' (((x1 &&& (858993459 : Int32)) + ((x1.toUInt32 >>> ((2 : Int32).toUInt32 &&& Int32.toUInt32 31)).toInt32 &&& (858993459 : Int32))) : Int32) fun x2 =>
  lt' (((x2 + (x2.toUInt32 >>> ((4 : Int32).toUInt32 &&& Int32.toUInt32 31)).toInt32) &&& (252645135 : Int32)) : Int32) fun x3 =>
  lt' ((x3 + (x3.toUInt32 >>> ((8 : Int32).toUInt32 &&& Int32.toUInt32 31)).toInt32) : Int32) fun x4 =>
  lt' ((x4 + (x4.toUInt32 >>> ((16 : Int32).toUInt32 &&& Int32.toUInt32 31)).toInt32) : Int32) fun x5 =>
  some ((x5 &&& (63 : Int32)), S)
set_option maxRecDepth 100000 in
theorem s0_o_j_bitCount {d : Nat} {S' : St} {r : Int32} (v0 : Int32) (S : St) (h : o_j_bitCount v0 S = some (r, S')) : RR KO (d + 0) 3000 0 [(0, .int v0)] [] S (some (.int r)) S' := by
  unfold o_j_bitCount at h
  refine RR.runs (pc' := 10) (lc' := [(0, .int ((v0 - ((v0.toUInt32 >>> ((1 : Int32).toUInt32 &&& Int32.toUInt32 31)).toInt32 &&& (1431655765 : Int32)))))]) (st' := []) (S1 := S) (nL := 1) (cd := cd_3000) mx_3000 rfl rfl 8 rfl ?_
  obtain ⟨x1, ex1, h⟩ := ltE h
  rw [← ex1]
  refine RR.runs (pc' := 24) (lc' := [(0, .int (((x1 &&& (858993459 : Int32)) + ((x1.toUInt32 >>> ((2 : Int32).toUInt32 &&& Int32.toUInt32 31)).toInt32 &&& (858993459 : Int32)))))]) (st' := []) (S1 := S) (nL := 1) (cd := cd_3000) mx_3000 rfl rfl 10 rfl ?_
  obtain ⟨x2, ex2, h⟩ := ltE h
  rw [← ex2]
  refine RR.runs (pc' := 34) (lc' := [(0, .int (((x2 + (x2.toUInt32 >>> ((4 : Int32).toUInt32 &&& Int32.toUInt32 31)).toInt32) &&& (252645135 : Int32))))]) (st' := []) (S1 := S) (nL := 1) (cd := cd_3000) mx_3000 rfl rfl 8 rfl ?_
  obtain ⟨x3, ex3, h⟩ := ltE h
  rw [← ex3]
  refine RR.runs (pc' := 41) (lc' := [(0, .int ((x3 + (x3.toUInt32 >>> ((8 : Int32).toUInt32 &&& Int32.toUInt32 31)).toInt32)))]) (st' := []) (S1 := S) (nL := 1) (cd := cd_3000) mx_3000 rfl rfl 6 rfl ?_
  obtain ⟨x4, ex4, h⟩ := ltE h
  rw [← ex4]
  refine RR.runs (pc' := 48) (lc' := [(0, .int ((x4 + (x4.toUInt32 >>> ((16 : Int32).toUInt32 &&& Int32.toUInt32 31)).toInt32)))]) (st' := []) (S1 := S) (nL := 1) (cd := cd_3000) mx_3000 rfl rfl 6 rfl ?_
  obtain ⟨x5, ex5, h⟩ := ltE h
  rw [← ex5]
  refine RR.runs (pc' := 52) (lc' := [(0, .int x5)]) (st' := [.int ((x5 &&& (63 : Int32)))]) (S1 := S) (nL := 1) (cd := cd_3000) mx_3000 rfl rfl 3 rfl ?_
  cases h
  exact RR.reti mx_3000 rfl rfl rfl
theorem s_o_j_bitCount {d : Nat} {S' : St} {r : Int32} (v0 : Int32) (S : St) (h : o_j_bitCount v0 S = some (r, S')) : RC KO (d + 0) 3000 [.int v0] S (some (.int r)) S' := RC.of rfl (s0_o_j_bitCount v0 S h)
-- java/lang/Integer numberOfTrailingZeros (I)I
def o_j_numberOfTrailingZeros_74 (v0 : Int32) (v1 : Int32) (S : St) : Re Int32 :=
  some ((v1 + (v0.toUInt32 >>> ((1 : Int32).toUInt32 &&& Int32.toUInt32 31)).toInt32), S)
set_option maxRecDepth 100000 in
theorem s_o_j_numberOfTrailingZeros_74 {d : Nat} {S' : St} {r : Int32} (v0 : Int32) (v1 : Int32) (S : St) (h : o_j_numberOfTrailingZeros_74 v0 v1 S = some (r, S')) : RR KO (d + 0) 3001 74 [(0, .int v0), (1, .int v1)] [] S (some (.int r)) S' := by
  unfold o_j_numberOfTrailingZeros_74 at h
  refine RR.runs (pc' := 79) (lc' := [(0, .int v0), (1, .int v1)]) (st' := [.int ((v1 + (v0.toUInt32 >>> ((1 : Int32).toUInt32 &&& Int32.toUInt32 31)).toInt32))]) (S1 := S) (nL := 2) (cd := cd_3001) mx_3001 rfl rfl 5 rfl ?_
  cases h
  exact RR.reti mx_3001 rfl rfl rfl
def o_j_numberOfTrailingZeros_62 (v0 : Int32) (v1 : Int32) (S : St) : Re Int32 :=
  if (4 : Int32) < v0 then (
    lt' ((v1 + (2 : Int32)) : Int32) fun x1 =>
    lt' ((v0.toUInt32 >>> ((2 : Int32).toUInt32 &&& Int32.toUInt32 31)).toInt32 : Int32) fun x2 =>
    o_j_numberOfTrailingZeros_74 x2 x1 S)
  else (
    o_j_numberOfTrailingZeros_74 v0 v1 S)
set_option maxRecDepth 100000 in
theorem s_o_j_numberOfTrailingZeros_62 {d : Nat} {S' : St} {r : Int32} (v0 : Int32) (v1 : Int32) (S : St) (h : o_j_numberOfTrailingZeros_62 v0 v1 S = some (r, S')) : RR KO (d + 0) 3001 62 [(0, .int v0), (1, .int v1)] [] S (some (.int r)) S' := by
  unfold o_j_numberOfTrailingZeros_62 at h
  refine RR.runs (pc' := icm .le v0 (4 : Int32) 74 67) (lc' := [(0, .int v0), (1, .int v1)]) (st' := []) (S1 := S) (nL := 2) (cd := cd_3001) mx_3001 rfl rfl 3 rfl ?_
  rcases ifE h with ⟨c, h⟩ | ⟨c, h⟩
  · refine RR.c_le (fun _ => ?_) (fun q => absurd c q)
    refine RR.runs (pc' := 70) (lc' := [(1, .int ((v1 + (2 : Int32)))), (0, .int v0)]) (st' := []) (S1 := S) (nL := 2) (cd := cd_3001) mx_3001 rfl rfl 1 rfl ?_
    obtain ⟨x1, ex1, h⟩ := ltE h
    rw [← ex1]
    refine RR.runs (pc' := 74) (lc' := [(0, .int ((v0.toUInt32 >>> ((2 : Int32).toUInt32 &&& Int32.toUInt32 31)).toInt32)), (1, .int x1)]) (st' := []) (S1 := S) (nL := 2) (cd := cd_3001) mx_3001 rfl rfl 4 rfl ?_
    obtain ⟨x2, ex2, h⟩ := ltE h
    rw [← ex2]
    refine RR.weak [(0, .int x2), (1, .int x1)] ⟨rfl, rfl, trivial⟩ ?_
    exact s_o_j_numberOfTrailingZeros_74 _ _ _ h
  · refine RR.c_le (fun q => absurd q c) (fun _ => ?_)
    refine RR.weak [(0, .int v0), (1, .int v1)] ⟨rfl, rfl, trivial⟩ ?_
    exact s_o_j_numberOfTrailingZeros_74 _ _ _ h
def o_j_numberOfTrailingZeros_49 (v0 : Int32) (v1 : Int32) (S : St) : Re Int32 :=
  if (16 : Int32) < v0 then (
    lt' ((v1 + (4 : Int32)) : Int32) fun x1 =>
    lt' ((v0.toUInt32 >>> ((4 : Int32).toUInt32 &&& Int32.toUInt32 31)).toInt32 : Int32) fun x2 =>
    o_j_numberOfTrailingZeros_62 x2 x1 S)
  else (
    o_j_numberOfTrailingZeros_62 v0 v1 S)
set_option maxRecDepth 100000 in
theorem s_o_j_numberOfTrailingZeros_49 {d : Nat} {S' : St} {r : Int32} (v0 : Int32) (v1 : Int32) (S : St) (h : o_j_numberOfTrailingZeros_49 v0 v1 S = some (r, S')) : RR KO (d + 0) 3001 49 [(0, .int v0), (1, .int v1)] [] S (some (.int r)) S' := by
  unfold o_j_numberOfTrailingZeros_49 at h
  refine RR.runs (pc' := icm .le v0 (16 : Int32) 62 55) (lc' := [(0, .int v0), (1, .int v1)]) (st' := []) (S1 := S) (nL := 2) (cd := cd_3001) mx_3001 rfl rfl 3 rfl ?_
  rcases ifE h with ⟨c, h⟩ | ⟨c, h⟩
  · refine RR.c_le (fun _ => ?_) (fun q => absurd c q)
    refine RR.runs (pc' := 58) (lc' := [(1, .int ((v1 + (4 : Int32)))), (0, .int v0)]) (st' := []) (S1 := S) (nL := 2) (cd := cd_3001) mx_3001 rfl rfl 1 rfl ?_
    obtain ⟨x1, ex1, h⟩ := ltE h
    rw [← ex1]
    refine RR.runs (pc' := 62) (lc' := [(0, .int ((v0.toUInt32 >>> ((4 : Int32).toUInt32 &&& Int32.toUInt32 31)).toInt32)), (1, .int x1)]) (st' := []) (S1 := S) (nL := 2) (cd := cd_3001) mx_3001 rfl rfl 4 rfl ?_
    obtain ⟨x2, ex2, h⟩ := ltE h
    rw [← ex2]
    refine RR.weak [(0, .int x2), (1, .int x1)] ⟨rfl, rfl, trivial⟩ ?_
    exact s_o_j_numberOfTrailingZeros_62 _ _ _ h
  · refine RR.c_le (fun q => absurd q c) (fun _ => ?_)
    refine RR.weak [(0, .int v0), (1, .int v1)] ⟨rfl, rfl, trivial⟩ ?_
    exact s_o_j_numberOfTrailingZeros_62 _ _ _ h
def o_j_numberOfTrailingZeros_34 (v0 : Int32) (v1 : Int32) (S : St) : Re Int32 :=
  if (256 : Int32) < v0 then (
    lt' ((v1 + (8 : Int32)) : Int32) fun x1 =>
    lt' ((v0.toUInt32 >>> ((8 : Int32).toUInt32 &&& Int32.toUInt32 31)).toInt32 : Int32) fun x2 =>
    o_j_numberOfTrailingZeros_49 x2 x1 S)
  else (
    o_j_numberOfTrailingZeros_49 v0 v1 S)
set_option maxRecDepth 100000 in
theorem s_o_j_numberOfTrailingZeros_34 {d : Nat} {S' : St} {r : Int32} (v0 : Int32) (v1 : Int32) (S : St) (h : o_j_numberOfTrailingZeros_34 v0 v1 S = some (r, S')) : RR KO (d + 0) 3001 34 [(0, .int v0), (1, .int v1)] [] S (some (.int r)) S' := by
  unfold o_j_numberOfTrailingZeros_34 at h
  refine RR.runs (pc' := icm .le v0 (256 : Int32) 49 41) (lc' := [(0, .int v0), (1, .int v1)]) (st' := []) (S1 := S) (nL := 2) (cd := cd_3001) mx_3001 rfl rfl 3 rfl ?_
  rcases ifE h with ⟨c, h⟩ | ⟨c, h⟩
  · refine RR.c_le (fun _ => ?_) (fun q => absurd c q)
    refine RR.runs (pc' := 44) (lc' := [(1, .int ((v1 + (8 : Int32)))), (0, .int v0)]) (st' := []) (S1 := S) (nL := 2) (cd := cd_3001) mx_3001 rfl rfl 1 rfl ?_
    obtain ⟨x1, ex1, h⟩ := ltE h
    rw [← ex1]
    refine RR.runs (pc' := 49) (lc' := [(0, .int ((v0.toUInt32 >>> ((8 : Int32).toUInt32 &&& Int32.toUInt32 31)).toInt32)), (1, .int x1)]) (st' := []) (S1 := S) (nL := 2) (cd := cd_3001) mx_3001 rfl rfl 4 rfl ?_
    obtain ⟨x2, ex2, h⟩ := ltE h
    rw [← ex2]
    refine RR.weak [(0, .int x2), (1, .int x1)] ⟨rfl, rfl, trivial⟩ ?_
    exact s_o_j_numberOfTrailingZeros_49 _ _ _ h
  · refine RR.c_le (fun q => absurd q c) (fun _ => ?_)
    refine RR.weak [(0, .int v0), (1, .int v1)] ⟨rfl, rfl, trivial⟩ ?_
    exact s_o_j_numberOfTrailingZeros_49 _ _ _ h
def o_j_numberOfTrailingZeros (v0 : Int32) (S : St) : Re Int32 :=
  lt' (((v0 ^^^ (-1 : Int32)) &&& (v0 - (1 : Int32))) : Int32) fun x1 =>
  if 0 < x1 then (
    if (65536 : Int32) < x1 then (
      lt' (((1 : Int32) + (16 : Int32)) : Int32) fun x2 =>
      lt' ((x1.toUInt32 >>> ((16 : Int32).toUInt32 &&& Int32.toUInt32 31)).toInt32 : Int32) fun x3 =>
      o_j_numberOfTrailingZeros_34 x3 x2 S)
    else (
      o_j_numberOfTrailingZeros_34 x1 (1 : Int32) S))
  else (
    some ((x1 &&& (32 : Int32)), S))
set_option maxRecDepth 100000 in
theorem s0_o_j_numberOfTrailingZeros {d : Nat} {S' : St} {r : Int32} (v0 : Int32) (S : St) (h : o_j_numberOfTrailingZeros v0 S = some (r, S')) : RR KO (d + 0) 3001 0 [(0, .int v0)] [] S (some (.int r)) S' := by
  unfold o_j_numberOfTrailingZeros at h
  refine RR.runs (pc' := 8) (lc' := [(0, .int (((v0 ^^^ (-1 : Int32)) &&& (v0 - (1 : Int32)))))]) (st' := []) (S1 := S) (nL := 2) (cd := cd_3001) mx_3001 rfl rfl 8 rfl ?_
  obtain ⟨x1, ex1, h⟩ := ltE h
  rw [← ex1]
  refine RR.runs (pc' := icm .gt x1 0 17 12) (lc' := [(0, .int x1)]) (st' := []) (S1 := S) (nL := 2) (cd := cd_3001) mx_3001 rfl rfl 2 rfl ?_
  rcases ifE h with ⟨c, h⟩ | ⟨c, h⟩
  · refine RR.c_gt (fun _ => ?_) (fun q => absurd c q)
    refine RR.runs (pc' := icm .le x1 (65536 : Int32) 34 26) (lc' := [(1, .int (1 : Int32)), (0, .int x1)]) (st' := []) (S1 := S) (nL := 2) (cd := cd_3001) mx_3001 rfl rfl 5 rfl ?_
    rcases ifE h with ⟨c, h⟩ | ⟨c, h⟩
    · refine RR.c_le (fun _ => ?_) (fun q => absurd c q)
      refine RR.runs (pc' := 29) (lc' := [(1, .int (((1 : Int32) + (16 : Int32)))), (0, .int x1)]) (st' := []) (S1 := S) (nL := 2) (cd := cd_3001) mx_3001 rfl rfl 1 rfl ?_
      obtain ⟨x2, ex2, h⟩ := ltE h
      rw [← ex2]
      refine RR.runs (pc' := 34) (lc' := [(0, .int ((x1.toUInt32 >>> ((16 : Int32).toUInt32 &&& Int32.toUInt32 31)).toInt32)), (1, .int x2)]) (st' := []) (S1 := S) (nL := 2) (cd := cd_3001) mx_3001 rfl rfl 4 rfl ?_
      obtain ⟨x3, ex3, h⟩ := ltE h
      rw [← ex3]
      refine RR.weak [(0, .int x3), (1, .int x2)] ⟨rfl, rfl, trivial⟩ ?_
      exact s_o_j_numberOfTrailingZeros_34 _ _ _ h
    · refine RR.c_le (fun q => absurd q c) (fun _ => ?_)
      refine RR.weak [(0, .int x1), (1, .int (1 : Int32))] ⟨rfl, rfl, trivial⟩ ?_
      exact s_o_j_numberOfTrailingZeros_34 _ _ _ h
  · refine RR.c_gt (fun q => absurd q c) (fun _ => ?_)
    refine RR.runs (pc' := 16) (lc' := [(0, .int x1)]) (st' := [.int ((x1 &&& (32 : Int32)))]) (S1 := S) (nL := 2) (cd := cd_3001) mx_3001 rfl rfl 3 rfl ?_
    cases h
    exact RR.reti mx_3001 rfl rfl rfl
theorem s_o_j_numberOfTrailingZeros {d : Nat} {S' : St} {r : Int32} (v0 : Int32) (S : St) (h : o_j_numberOfTrailingZeros v0 S = some (r, S')) : RC KO (d + 0) 3001 [.int v0] S (some (.int r)) S' := RC.of rfl (s0_o_j_numberOfTrailingZeros v0 S h)
-- NameOrchard pickFirstRipe ()V
def o_pickFirstRipe_55 (S : St) : Re Unit :=
  some ((), S)
set_option maxRecDepth 100000 in
theorem s_o_pickFirstRipe_55 {d : Nat} {S' : St} {r : Unit} (S : St) (h : o_pickFirstRipe_55 S = some (r, S')) : RR KO (d + 5) 2242 55 [] [] S none S' := by
  unfold o_pickFirstRipe_55 at h
  cases h
  exact RR.retv mx_2242 rfl rfl rfl
def o_pickFirstRipe (S : St) : Re Unit :=
  oq (rQ S 1 9) none fun o1 =>
  if KO.1 o1 = (0, 10) then (
bn (o_to_unripe o1 (rI S 205 3) S) fun r3 S4 =>
  lt' (((rI S 205 1) &&& (r3 ^^^ (-1 : Int32))) : Int32) fun x5 =>
  if x5 = 0 then (
    o_pickFirstRipe_55 S4)
  else (
    if (rI S4 205 5) = 0 then (
      oq (rQ S4 1 9) none fun o6 =>
      bn (o_j_numberOfTrailingZeros x5 S4) fun r7 S8 =>
      bn (o_sd_take 205 o6 r7 S8) fun r9 S10 =>
      o_pickFirstRipe_55 S10)
    else (
      o_pickFirstRipe_55 S4))) else none
set_option maxRecDepth 100000 in
theorem s0_o_pickFirstRipe {d : Nat} {S' : St} {r : Unit} (S : St) (h : o_pickFirstRipe S = some (r, S')) : RR KO (d + 5) 2242 0 [(0, .ref 1)] [] S none S' := by
  unfold o_pickFirstRipe at h
  refine RR.runs (pc' := 11) (lc' := [(0, .ref 1)]) (st' := [qv (rQ S 1 9), .int (rI S 205 1)]) (S1 := S) (nL := 2) (cd := cd_2242) mx_2242 rfl rfl 5 rfl ?_
  rcases oqE h with ⟨e1, h⟩ | ⟨o1, eo1, h⟩
  · cases h
  rw [eo1]
  refine RR.runs (pc' := 18) (lc' := [(0, .ref 1)]) (st' := [.int (rI S 205 3), .ref o1, .int (rI S 205 1)]) (S1 := S) (nL := 2) (cd := cd_2242) mx_2242 rfl rfl 3 rfl ?_
  obtain ⟨g2, h⟩ := gpE h
  obtain ⟨r3, S4, h1, h⟩ := bnE h
  refine RR.callV (b := o1) (as := [.int (rI S 205 3)]) (rest := [.int (rI S 205 1)]) (r1 := (some (.int r3))) (S1 := S4) mx_2242 rfl rfl mx_2017 rfl rfl (by decide) (Or.inl g2) (Nat.le_of_ble_eq_true rfl) (Nat.le_of_ble_eq_true rfl) (RC.deep (by omega) (s_o_to_unripe (d := d) _ _ _ h1)) ?_
  show RR KO _ 2242 21 [(0, .ref 1)] [.int r3, .int (rI S 205 1)] S4 _ _
  refine RR.runs (pc' := 25) (lc' := [(1, .int (((rI S 205 1) &&& (r3 ^^^ (-1 : Int32))))), (0, .ref 1)]) (st' := []) (S1 := S4) (nL := 2) (cd := cd_2242) mx_2242 rfl rfl 4 rfl ?_
  obtain ⟨x5, ex5, h⟩ := ltE h
  rw [← ex5]
  refine RR.runs (pc' := icm .eq x5 0 55 29) (lc' := [(1, .int x5), (0, .ref 1)]) (st' := []) (S1 := S4) (nL := 2) (cd := cd_2242) mx_2242 rfl rfl 2 rfl ?_
  rcases ifE h with ⟨c, h⟩ | ⟨c, h⟩
  · refine RR.c_eq (fun _ => ?_) (fun q => absurd c q)
    refine RR.weak [] trivial ?_
    exact s_o_pickFirstRipe_55 _ h
  · refine RR.c_eq (fun q => absurd q c) (fun _ => ?_)
    refine RR.runs (pc' := icm .ne (rI S4 205 5) 0 55 39) (lc' := [(1, .int x5), (0, .ref 1)]) (st' := []) (S1 := S4) (nL := 2) (cd := cd_2242) mx_2242 rfl rfl 4 rfl ?_
    rcases ifE h with ⟨c, h⟩ | ⟨c, h⟩
    · refine RR.c_ne (fun _ => ?_) (fun q => absurd c q)
      refine RR.runs (pc' := 47) (lc' := [(1, .int x5), (0, .ref 1)]) (st' := [qv (rQ S4 1 9), .ref 205]) (S1 := S4) (nL := 2) (cd := cd_2242) mx_2242 rfl rfl 4 rfl ?_
      rcases oqE h with ⟨e1, h⟩ | ⟨o6, eo6, h⟩
      · cases h
      rw [eo6]
      refine RR.runs (pc' := 48) (lc' := [(1, .int x5), (0, .ref 1)]) (st' := [.int x5, .ref o6, .ref 205]) (S1 := S4) (nL := 2) (cd := cd_2242) mx_2242 rfl rfl 1 rfl ?_
      obtain ⟨r7, S8, h1, h⟩ := bnE h
      refine RR.callS (as := [.int x5]) (rest := [.ref o6, .ref 205]) (r1 := (some (.int r7))) (S1 := S8) mx_2242 rfl rfl mx_3001 rfl rfl (by decide) (Nat.le_of_ble_eq_true rfl) (Nat.le_of_ble_eq_true rfl) (Nat.le_of_ble_eq_true rfl) (RC.deep (by omega) (s_o_j_numberOfTrailingZeros (d := d) _ _ h1)) ?_
      show RR KO _ 2242 51 [(1, .int x5), (0, .ref 1)] [.int r7, .ref o6, .ref 205] S8 _ _
      obtain ⟨r9, S10, h1, h⟩ := bnE h
      refine RR.callV (b := 205) (as := [.ref o6, .int r7]) (rest := []) (r1 := (some (.int r9))) (S1 := S10) mx_2242 rfl rfl mx_1013 rfl rfl (by decide) (Or.inl rfl) (Nat.le_of_ble_eq_true rfl) (Nat.le_of_ble_eq_true rfl) (RC.deep (by omega) (s_o_sd_take (d := d) _ _ _ _ h1)) ?_
      show RR KO _ 2242 54 [(1, .int x5), (0, .ref 1)] [.int r9] S10 _ _
      refine RR.runs (pc' := 55) (lc' := [(1, .int x5), (0, .ref 1)]) (st' := []) (S1 := S10) (nL := 2) (cd := cd_2242) mx_2242 rfl rfl 1 rfl ?_
      refine RR.weak [] trivial ?_
      exact s_o_pickFirstRipe_55 _ h
    · refine RR.c_ne (fun q => absurd q c) (fun _ => ?_)
      refine RR.weak [] trivial ?_
      exact s_o_pickFirstRipe_55 _ h
theorem s_o_pickFirstRipe {d : Nat} {S' : St} {r : Unit} (S : St) (h : o_pickFirstRipe S = some (r, S')) : RC KO (d + 5) 2242 [.ref 1] S none S' := RC.of rfl (s0_o_pickFirstRipe S h)
-- NameOrchard years (III)I
def o_years_31 (S : St) : Re Int32 :=
  some ((-1 : Int32), S)
set_option maxRecDepth 100000 in
theorem s_o_years_31 {d : Nat} {S' : St} {r : Int32} (S : St) (h : o_years_31 S = some (r, S')) : RR KO (d + 7) 2225 31 [] [] S (some (.int r)) S' := by
  unfold o_years_31 at h
  refine RR.runs (pc' := 32) (lc' := []) (st' := [.int (-1 : Int32)]) (S1 := S) (nL := 8) (cd := cd_2225) mx_2225 rfl rfl 1 rfl ?_
  cases h
  exact RR.reti mx_2225 rfl rfl rfl
def o_years_167 (p0 : Int32) (S : St) : Re Int32 :=
  some (p0, S)
set_option maxRecDepth 100000 in
theorem s_o_years_167 {d : Nat} {S' : St} {r : Int32} (p0 : Int32) (S : St) (h : o_years_167 p0 S = some (r, S')) : RR KO (d + 7) 2225 167 [] [.int p0] S (some (.int r)) S' := by
  unfold o_years_167 at h
  cases h
  exact RR.reti mx_2225 rfl rfl rfl
def o_years_124 (v3 : Int32) (v4 : Int32) (S : St) : Re Int32 :=
  if v3 = 0 then (
    some (((rI S 205 4) - (rI S 200 4)), S))
  else (
    if v3 = (1 : Int32) then (
      o_years_167 v4 S)
    else (
      bn (o_j_bitCount (rI S 205 1) S) fun r1 S2 =>
      o_years_167 r1 S2))
set_option maxRecDepth 100000 in
theorem s_o_years_124 {d : Nat} {S' : St} {r : Int32} (v3 : Int32) (v4 : Int32) (S : St) (h : o_years_124 v3 v4 S = some (r, S')) : RR KO (d + 7) 2225 124 [(0, .ref 1), (3, .int v3), (4, .int v4)] [] S (some (.int r)) S' := by
  unfold o_years_124 at h
  refine RR.runs (pc' := icm .ne v3 0 147 128) (lc' := [(0, .ref 1), (3, .int v3), (4, .int v4)]) (st' := []) (S1 := S) (nL := 8) (cd := cd_2225) mx_2225 rfl rfl 2 rfl ?_
  rcases ifE h with ⟨c, h⟩ | ⟨c, h⟩
  · refine RR.c_ne (fun _ => ?_) (fun q => absurd c q)
    refine RR.runs (pc' := 146) (lc' := [(0, .ref 1), (3, .int v3), (4, .int v4)]) (st' := [.int (((rI S 205 4) - (rI S 200 4)))]) (S1 := S) (nL := 8) (cd := cd_2225) mx_2225 rfl rfl 8 rfl ?_
    cases h
    exact RR.reti mx_2225 rfl rfl rfl
  · refine RR.c_ne (fun q => absurd q c) (fun _ => ?_)
    refine RR.runs (pc' := icm .ne v3 (1 : Int32) 157 152) (lc' := [(0, .ref 1), (3, .int v3), (4, .int v4)]) (st' := []) (S1 := S) (nL := 8) (cd := cd_2225) mx_2225 rfl rfl 3 rfl ?_
    rcases ifE h with ⟨c, h⟩ | ⟨c, h⟩
    · refine RR.c_ne (fun _ => ?_) (fun q => absurd c q)
      refine RR.runs (pc' := 167) (lc' := [(0, .ref 1), (3, .int v3), (4, .int v4)]) (st' := [.int v4]) (S1 := S) (nL := 8) (cd := cd_2225) mx_2225 rfl rfl 2 rfl ?_
      refine RR.weak [] trivial ?_
      exact s_o_years_167 _ _ h
    · refine RR.c_ne (fun q => absurd q c) (fun _ => ?_)
      refine RR.runs (pc' := 164) (lc' := [(0, .ref 1), (3, .int v3), (4, .int v4)]) (st' := [.int (rI S 205 1)]) (S1 := S) (nL := 8) (cd := cd_2225) mx_2225 rfl rfl 3 rfl ?_
      obtain ⟨r1, S2, h1, h⟩ := bnE h
      refine RR.callS (as := [.int (rI S 205 1)]) (rest := []) (r1 := (some (.int r1))) (S1 := S2) mx_2225 rfl rfl mx_3000 rfl rfl (by decide) (Nat.le_of_ble_eq_true rfl) (Nat.le_of_ble_eq_true rfl) (Nat.le_of_ble_eq_true rfl) (RC.deep (by omega) (s_o_j_bitCount (d := d) _ _ h1)) ?_
      show RR KO _ 2225 167 [(0, .ref 1), (3, .int v3), (4, .int v4)] [.int r1] S2 _ _
      refine RR.weak [] trivial ?_
      exact s_o_years_167 _ _ h
def o_years_61 : Nat → Int32 → Int32 → Int32 → Int32 → St → Re Int32
  | 0, _, _, _, _, _ => none
  | n + 1, v2, v3, v4, v5, S =>
  if v5 < v2 then (
    oq (rQ S 1 9) none fun o1 =>
    if KO.1 o1 = (0, 10) then (
bn (o_to_unripe o1 (rI S 205 3) S) fun r3 S4 =>
    bn (o_drawStrangers S4) fun r5 S6 =>
    bn (o_drawPerson S6) fun r7 S8 =>
    lt' ((r5 ||| r7) : Int32) fun x9 =>
    bn (o_j_bitCount (x9 &&& r3) S8) fun r10 S11 =>
    lt' ((v4 + r10) : Int32) fun x12 =>
    bn (o_pickFirstRipe S11) fun r13 S14 =>
    bn (o_sd_nextDay 205 S14) fun r15 S16 =>
    lt' ((v5 + (1 : Int32)) : Int32) fun x17 =>
    o_years_61 n v2 v3 x12 x17 S16) else none)
  else (
    o_years_124 v3 v4 S)
set_option maxRecDepth 100000 in
theorem s_o_years_61 {d : Nat} {S' : St} {r : Int32} : ∀ (n : Nat) (v2 : Int32) (v3 : Int32) (v4 : Int32) (v5 : Int32) (S : St), o_years_61 n v2 v3 v4 v5 S = some (r, S') → RR KO (d + 7) 2225 61 [(0, .ref 1), (2, .int v2), (3, .int v3), (4, .int v4), (5, .int v5)] [] S (some (.int r)) S' := by
  intro n
  induction n with
  | zero => intro v2 v3 v4 v5 S h; simp only [o_years_61] at h; cases h
  | succ n ih =>
    intro v2 v3 v4 v5 S h
    simp only [o_years_61] at h
    refine RR.runs (pc' := icm .ge v5 v2 124 67) (lc' := [(0, .ref 1), (2, .int v2), (3, .int v3), (4, .int v4), (5, .int v5)]) (st' := []) (S1 := S) (nL := 8) (cd := cd_2225) mx_2225 rfl rfl 3 rfl ?_
    rcases ifE h with ⟨c, h⟩ | ⟨c, h⟩
    · refine RR.c_ge (fun _ => ?_) (fun q => absurd c q)
      refine RR.runs (pc' := 71) (lc' := [(0, .ref 1), (2, .int v2), (3, .int v3), (4, .int v4), (5, .int v5)]) (st' := [qv (rQ S 1 9)]) (S1 := S) (nL := 8) (cd := cd_2225) mx_2225 rfl rfl 2 rfl ?_
      rcases oqE h with ⟨e1, h⟩ | ⟨o1, eo1, h⟩
      · cases h
      rw [eo1]
      refine RR.runs (pc' := 78) (lc' := [(0, .ref 1), (2, .int v2), (3, .int v3), (4, .int v4), (5, .int v5)]) (st' := [.int (rI S 205 3), .ref o1]) (S1 := S) (nL := 8) (cd := cd_2225) mx_2225 rfl rfl 3 rfl ?_
      obtain ⟨g2, h⟩ := gpE h
      obtain ⟨r3, S4, h1, h⟩ := bnE h
      refine RR.callV (b := o1) (as := [.int (rI S 205 3)]) (rest := []) (r1 := (some (.int r3))) (S1 := S4) mx_2225 rfl rfl mx_2017 rfl rfl (by decide) (Or.inl g2) (Nat.le_of_ble_eq_true rfl) (Nat.le_of_ble_eq_true rfl) (RC.deep (by omega) (s_o_to_unripe (d := d) _ _ _ h1)) ?_
      show RR KO _ 2225 81 [(0, .ref 1), (2, .int v2), (3, .int v3), (4, .int v4), (5, .int v5)] [.int r3] S4 _ _
      refine RR.runs (pc' := 84) (lc' := [(6, .int r3), (0, .ref 1), (2, .int v2), (3, .int v3), (4, .int v4), (5, .int v5)]) (st' := [.ref 1]) (S1 := S4) (nL := 8) (cd := cd_2225) mx_2225 rfl rfl 2 rfl ?_
      obtain ⟨r5, S6, h1, h⟩ := bnE h
      refine RR.callV (b := 1) (as := []) (rest := []) (r1 := (some (.int r5))) (S1 := S6) mx_2225 rfl rfl mx_2240 rfl rfl (by decide) (Or.inl rfl) (Nat.le_of_ble_eq_true rfl) (Nat.le_of_ble_eq_true rfl) (RC.deep (by omega) (s_o_drawStrangers (d := d) _ h1)) ?_
      show RR KO _ 2225 87 [(6, .int r3), (0, .ref 1), (2, .int v2), (3, .int v3), (4, .int v4), (5, .int v5)] [.int r5] S6 _ _
      refine RR.runs (pc' := 88) (lc' := [(6, .int r3), (0, .ref 1), (2, .int v2), (3, .int v3), (4, .int v4), (5, .int v5)]) (st' := [.ref 1, .int r5]) (S1 := S6) (nL := 8) (cd := cd_2225) mx_2225 rfl rfl 1 rfl ?_
      obtain ⟨r7, S8, h1, h⟩ := bnE h
      refine RR.callV (b := 1) (as := []) (rest := [.int r5]) (r1 := (some (.int r7))) (S1 := S8) mx_2225 rfl rfl mx_2241 rfl rfl (by decide) (Or.inl rfl) (Nat.le_of_ble_eq_true rfl) (Nat.le_of_ble_eq_true rfl) (RC.deep (by omega) (s_o_drawPerson (d := d) _ h1)) ?_
      show RR KO _ 2225 91 [(6, .int r3), (0, .ref 1), (2, .int v2), (3, .int v3), (4, .int v4), (5, .int v5)] [.int r7, .int r5] S8 _ _
      refine RR.runs (pc' := 94) (lc' := [(7, .int (r5 ||| r7)), (6, .int r3), (0, .ref 1), (2, .int v2), (3, .int v3), (4, .int v4), (5, .int v5)]) (st' := []) (S1 := S8) (nL := 8) (cd := cd_2225) mx_2225 rfl rfl 2 rfl ?_
      obtain ⟨x9, ex9, h⟩ := ltE h
      rw [← ex9]
      refine RR.runs (pc' := 101) (lc' := [(7, .int x9), (6, .int r3), (0, .ref 1), (2, .int v2), (3, .int v3), (4, .int v4), (5, .int v5)]) (st' := [.int (x9 &&& r3), .int v4]) (S1 := S8) (nL := 8) (cd := cd_2225) mx_2225 rfl rfl 4 rfl ?_
      obtain ⟨r10, S11, h1, h⟩ := bnE h
      refine RR.callS (as := [.int (x9 &&& r3)]) (rest := [.int v4]) (r1 := (some (.int r10))) (S1 := S11) mx_2225 rfl rfl mx_3000 rfl rfl (by decide) (Nat.le_of_ble_eq_true rfl) (Nat.le_of_ble_eq_true rfl) (Nat.le_of_ble_eq_true rfl) (RC.deep (by omega) (s_o_j_bitCount (d := d) _ _ h1)) ?_
      show RR KO _ 2225 104 [(7, .int x9), (6, .int r3), (0, .ref 1), (2, .int v2), (3, .int v3), (4, .int v4), (5, .int v5)] [.int r10, .int v4] S11 _ _
      refine RR.runs (pc' := 107) (lc' := [(4, .int (v4 + r10)), (7, .int x9), (6, .int r3), (0, .ref 1), (2, .int v2), (3, .int v3), (5, .int v5)]) (st' := []) (S1 := S11) (nL := 8) (cd := cd_2225) mx_2225 rfl rfl 2 rfl ?_
      obtain ⟨x12, ex12, h⟩ := ltE h
      rw [← ex12]
      refine RR.runs (pc' := 108) (lc' := [(4, .int x12), (7, .int x9), (6, .int r3), (0, .ref 1), (2, .int v2), (3, .int v3), (5, .int v5)]) (st' := [.ref 1]) (S1 := S11) (nL := 8) (cd := cd_2225) mx_2225 rfl rfl 1 rfl ?_
      obtain ⟨r13, S14, h1, h⟩ := bnE h
      refine RR.callV (b := 1) (as := []) (rest := []) (r1 := none) (S1 := S14) mx_2225 rfl rfl mx_2242 rfl rfl (by decide) (Or.inl rfl) (Nat.le_of_ble_eq_true rfl) (Nat.le_of_ble_eq_true rfl) (RC.deep (by omega) (s_o_pickFirstRipe (d := d) _ h1)) ?_
      show RR KO _ 2225 111 [(4, .int x12), (7, .int x9), (6, .int r3), (0, .ref 1), (2, .int v2), (3, .int v3), (5, .int v5)] [] S14 _ _
      refine RR.runs (pc' := 115) (lc' := [(4, .int x12), (7, .int x9), (6, .int r3), (0, .ref 1), (2, .int v2), (3, .int v3), (5, .int v5)]) (st' := [.ref 205]) (S1 := S14) (nL := 8) (cd := cd_2225) mx_2225 rfl rfl 2 rfl ?_
      obtain ⟨r15, S16, h1, h⟩ := bnE h
      refine RR.callV (b := 205) (as := []) (rest := []) (r1 := none) (S1 := S16) mx_2225 rfl rfl mx_1014 rfl rfl (by decide) (Or.inl rfl) (Nat.le_of_ble_eq_true rfl) (Nat.le_of_ble_eq_true rfl) (RC.deep (by omega) (s_o_sd_nextDay (d := d) _ _ h1)) ?_
      show RR KO _ 2225 118 [(4, .int x12), (7, .int x9), (6, .int r3), (0, .ref 1), (2, .int v2), (3, .int v3), (5, .int v5)] [] S16 _ _
      refine RR.runs (pc' := 121) (lc' := [(5, .int ((v5 + (1 : Int32)))), (4, .int x12), (7, .int x9), (6, .int r3), (0, .ref 1), (2, .int v2), (3, .int v3)]) (st' := []) (S1 := S16) (nL := 8) (cd := cd_2225) mx_2225 rfl rfl 1 rfl ?_
      obtain ⟨x17, ex17, h⟩ := ltE h
      rw [← ex17]
      refine RR.runs (pc' := 61) (lc' := [(5, .int x17), (4, .int x12), (7, .int x9), (6, .int r3), (0, .ref 1), (2, .int v2), (3, .int v3)]) (st' := []) (S1 := S16) (nL := 8) (cd := cd_2225) mx_2225 rfl rfl 1 rfl ?_
      refine RR.weak [(0, .ref 1), (2, .int v2), (3, .int v3), (4, .int x12), (5, .int x17)] ⟨rfl, rfl, rfl, rfl, rfl, trivial⟩ ?_
      exact ih _ _ _ _ _ h
    · refine RR.c_ge (fun q => absurd q c) (fun _ => ?_)
      refine RR.weak [(0, .ref 1), (3, .int v3), (4, .int v4)] ⟨rfl, rfl, rfl, trivial⟩ ?_
      exact s_o_years_124 _ _ _ h
def o_years (v1 : Int32) (v2 : Int32) (v3 : Int32) (S : St) : Re Int32 :=
  if v1 < 0 then (
    o_years_31 S)
  else (
    if (9999 : Int32) < v1 then (
      o_years_31 S)
    else (
      if v2 < (1 : Int32) then (
        o_years_31 S)
      else (
        if (60 : Int32) < v2 then (
          o_years_31 S)
        else (
          if v3 < 0 then (
            o_years_31 S)
          else (
            if (2 : Int32) < v3 then (
              o_years_31 S)
            else (
              bn (o_sd_copy 205 200 S) fun r1 S2 =>
              bn (o_dr_begin v1 S2) fun r3 S4 =>
              o_years_61 FU v2 v3 (0 : Int32) (0 : Int32) S4))))))
set_option maxRecDepth 100000 in
theorem s0_o_years {d : Nat} {S' : St} {r : Int32} (v1 : Int32) (v2 : Int32) (v3 : Int32) (S : St) (h : o_years v1 v2 v3 S = some (r, S')) : RR KO (d + 7) 2225 0 [(0, .ref 1), (1, .int v1), (2, .int v2), (3, .int v3)] [] S (some (.int r)) S' := by
  unfold o_years at h
  refine RR.runs (pc' := icm .lt v1 0 31 4) (lc' := [(0, .ref 1), (1, .int v1), (2, .int v2), (3, .int v3)]) (st' := []) (S1 := S) (nL := 8) (cd := cd_2225) mx_2225 rfl rfl 2 rfl ?_
  rcases ifE h with ⟨c, h⟩ | ⟨c, h⟩
  · refine RR.c_lt (fun _ => ?_) (fun q => absurd c q)
    refine RR.weak [] trivial ?_
    exact s_o_years_31 _ h
  · refine RR.c_lt (fun q => absurd q c) (fun _ => ?_)
    refine RR.runs (pc' := icm .gt v1 (9999 : Int32) 31 11) (lc' := [(0, .ref 1), (1, .int v1), (2, .int v2), (3, .int v3)]) (st' := []) (S1 := S) (nL := 8) (cd := cd_2225) mx_2225 rfl rfl 3 rfl ?_
    rcases ifE h with ⟨c, h⟩ | ⟨c, h⟩
    · refine RR.c_gt (fun _ => ?_) (fun q => absurd c q)
      refine RR.weak [] trivial ?_
      exact s_o_years_31 _ h
    · refine RR.c_gt (fun q => absurd q c) (fun _ => ?_)
      refine RR.runs (pc' := icm .lt v2 (1 : Int32) 31 16) (lc' := [(0, .ref 1), (1, .int v1), (2, .int v2), (3, .int v3)]) (st' := []) (S1 := S) (nL := 8) (cd := cd_2225) mx_2225 rfl rfl 3 rfl ?_
      rcases ifE h with ⟨c, h⟩ | ⟨c, h⟩
      · refine RR.c_lt (fun _ => ?_) (fun q => absurd c q)
        refine RR.weak [] trivial ?_
        exact s_o_years_31 _ h
      · refine RR.c_lt (fun q => absurd q c) (fun _ => ?_)
        refine RR.runs (pc' := icm .gt v2 (60 : Int32) 31 22) (lc' := [(0, .ref 1), (1, .int v1), (2, .int v2), (3, .int v3)]) (st' := []) (S1 := S) (nL := 8) (cd := cd_2225) mx_2225 rfl rfl 3 rfl ?_
        rcases ifE h with ⟨c, h⟩ | ⟨c, h⟩
        · refine RR.c_gt (fun _ => ?_) (fun q => absurd c q)
          refine RR.weak [] trivial ?_
          exact s_o_years_31 _ h
        · refine RR.c_gt (fun q => absurd q c) (fun _ => ?_)
          refine RR.runs (pc' := icm .lt v3 0 31 26) (lc' := [(0, .ref 1), (1, .int v1), (2, .int v2), (3, .int v3)]) (st' := []) (S1 := S) (nL := 8) (cd := cd_2225) mx_2225 rfl rfl 2 rfl ?_
          rcases ifE h with ⟨c, h⟩ | ⟨c, h⟩
          · refine RR.c_lt (fun _ => ?_) (fun q => absurd c q)
            refine RR.weak [] trivial ?_
            exact s_o_years_31 _ h
          · refine RR.c_lt (fun q => absurd q c) (fun _ => ?_)
            refine RR.runs (pc' := icm .le v3 (2 : Int32) 33 31) (lc' := [(0, .ref 1), (1, .int v1), (2, .int v2), (3, .int v3)]) (st' := []) (S1 := S) (nL := 8) (cd := cd_2225) mx_2225 rfl rfl 3 rfl ?_
            rcases ifE h with ⟨c, h⟩ | ⟨c, h⟩
            · refine RR.c_le (fun _ => ?_) (fun q => absurd c q)
              refine RR.weak [] trivial ?_
              exact s_o_years_31 _ h
            · refine RR.c_le (fun q => absurd q c) (fun _ => ?_)
              refine RR.runs (pc' := 44) (lc' := [(0, .ref 1), (1, .int v1), (2, .int v2), (3, .int v3)]) (st' := [.ref 200, .ref 205]) (S1 := S) (nL := 8) (cd := cd_2225) mx_2225 rfl rfl 5 rfl ?_
              obtain ⟨r1, S2, h1, h⟩ := bnE h
              refine RR.callV (b := 205) (as := [.ref 200]) (rest := []) (r1 := none) (S1 := S2) mx_2225 rfl rfl mx_1002 rfl rfl (by decide) (Or.inl rfl) (Nat.le_of_ble_eq_true rfl) (Nat.le_of_ble_eq_true rfl) (RC.deep (by omega) (s_o_sd_copy (d := d) _ _ _ h1)) ?_
              show RR KO _ 2225 47 [(0, .ref 1), (1, .int v1), (2, .int v2), (3, .int v3)] [] S2 _ _
              refine RR.runs (pc' := 52) (lc' := [(0, .ref 1), (1, .int v1), (2, .int v2), (3, .int v3)]) (st' := [.int v1, .ref 15]) (S1 := S2) (nL := 8) (cd := cd_2225) mx_2225 rfl rfl 3 rfl ?_
              obtain ⟨r3, S4, h1, h⟩ := bnE h
              refine RR.callV (b := 15) (as := [.int v1]) (rest := []) (r1 := none) (S1 := S4) mx_2225 rfl rfl mx_1 rfl rfl (by decide) (Or.inl rfl) (Nat.le_of_ble_eq_true rfl) (Nat.le_of_ble_eq_true rfl) (RC.deep (by omega) (s_o_dr_begin (d := d) _ _ h1)) ?_
              show RR KO _ 2225 55 [(0, .ref 1), (1, .int v1), (2, .int v2), (3, .int v3)] [] S4 _ _
              refine RR.runs (pc' := 61) (lc' := [(5, .int (0 : Int32)), (4, .int (0 : Int32)), (0, .ref 1), (1, .int v1), (2, .int v2), (3, .int v3)]) (st' := []) (S1 := S4) (nL := 8) (cd := cd_2225) mx_2225 rfl rfl 4 rfl ?_
              refine RR.weak [(0, .ref 1), (2, .int v2), (3, .int v3), (4, .int (0 : Int32)), (5, .int (0 : Int32))] ⟨rfl, rfl, rfl, rfl, rfl, trivial⟩ ?_
              exact s_o_years_61 _ _ _ _ _ _ h
theorem s_o_years {d : Nat} {S' : St} {r : Int32} (v1 : Int32) (v2 : Int32) (v3 : Int32) (S : St) (h : o_years v1 v2 v3 S = some (r, S')) : RC KO (d + 7) 2225 [.ref 1, .int v1, .int v2, .int v3] S (some (.int r)) S' := RC.of rfl (s0_o_years v1 v2 v3 S h)
-- NameOrchard mark (IZ)Z
def o_mark_13 (S : St) : Re Int32 :=
  some ((0 : Int32), S)
set_option maxRecDepth 100000 in
theorem s_o_mark_13 {d : Nat} {S' : St} {r : Int32} (S : St) (h : o_mark_13 S = some (r, S')) : RR KO (d + 3) 2226 13 [] [] S (some (.int r)) S' := by
  unfold o_mark_13 at h
  refine RR.runs (pc' := 14) (lc' := []) (st' := [.int (0 : Int32)]) (S1 := S) (nL := 4) (cd := cd_2226) mx_2226 rfl rfl 1 rfl ?_
  cases h
  exact RR.retz mx_2226 rfl rfl rfl rfl
def o_mark_83 (S : St) : Re Int32 :=
  some ((1 : Int32), S)
set_option maxRecDepth 100000 in
theorem s_o_mark_83 {d : Nat} {S' : St} {r : Int32} (S : St) (h : o_mark_83 S = some (r, S')) : RR KO (d + 3) 2226 83 [] [] S (some (.int r)) S' := by
  unfold o_mark_83 at h
  refine RR.runs (pc' := 84) (lc' := []) (st' := [.int (1 : Int32)]) (S1 := S) (nL := 4) (cd := cd_2226) mx_2226 rfl rfl 1 rfl ?_
  cases h
  exact RR.retz mx_2226 rfl rfl rfl rfl
def o_mark_43 (v1 : Int32) (v2 : Int32) (v3 : Nat) (S : St) : Re Int32 :=
  if v2 = 0 then (
    if KO.1 v3 = (0, 6) then (
bn (o_sa_copy v3 70 S) fun r2 S3 =>
    lt' (wI S3 1 12 (((rI S3 1 12) ||| ((1 : Int32) <<< (v1 &&& 31))))) fun S4 =>
    o_mark_83 S4) else none)
  else (
    bn (o_sa_copy 70 v3 S) fun r5 S6 =>
    lt' (wI S6 1 11 (0 : Int32)) fun S7 =>
    o_mark_83 S7)
set_option maxRecDepth 100000 in
theorem s_o_mark_43 {d : Nat} {S' : St} {r : Int32} (v1 : Int32) (v2 : Int32) (v3 : Nat) (S : St) (h : o_mark_43 v1 v2 v3 S = some (r, S')) : RR KO (d + 3) 2226 43 [(0, .ref 1), (1, .int v1), (2, .int v2), (3, .ref v3)] [] S (some (.int r)) S' := by
  unfold o_mark_43 at h
  refine RR.runs (pc' := icm .eq v2 0 63 47) (lc' := [(0, .ref 1), (1, .int v1), (2, .int v2), (3, .ref v3)]) (st' := []) (S1 := S) (nL := 4) (cd := cd_2226) mx_2226 rfl rfl 2 rfl ?_
  rcases ifE h with ⟨c, h⟩ | ⟨c, h⟩
  · refine RR.c_eq (fun _ => ?_) (fun q => absurd c q)
    refine RR.runs (pc' := 68) (lc' := [(0, .ref 1), (1, .int v1), (2, .int v2), (3, .ref v3)]) (st' := [.ref 70, .ref v3]) (S1 := S) (nL := 4) (cd := cd_2226) mx_2226 rfl rfl 3 rfl ?_
    obtain ⟨g1, h⟩ := gpE h
    obtain ⟨r2, S3, h1, h⟩ := bnE h
    refine RR.callV (b := v3) (as := [.ref 70]) (rest := []) (r1 := none) (S1 := S3) mx_2226 rfl rfl mx_1202 rfl rfl (by decide) (Or.inl g1) (Nat.le_of_ble_eq_true rfl) (Nat.le_of_ble_eq_true rfl) (RC.deep (by omega) (s_o_sa_copy (d := d) _ _ _ h1)) ?_
    show RR KO _ 2226 71 [(0, .ref 1), (1, .int v1), (2, .int v2), (3, .ref v3)] [] S3 _ _
    refine RR.runs (pc' := 83) (lc' := [(0, .ref 1), (1, .int v1), (2, .int v2), (3, .ref v3)]) (st' := []) (S1 := (wI S3 1 12 (((rI S3 1 12) ||| ((1 : Int32) <<< (v1 &&& 31)))))) (nL := 4) (cd := cd_2226) mx_2226 rfl rfl 8 rfl ?_
    obtain ⟨S4, eS4, h⟩ := ltE h
    rw [← eS4]
    refine RR.weak [] trivial ?_
    exact s_o_mark_83 _ h
  · refine RR.c_eq (fun q => absurd q c) (fun _ => ?_)
    refine RR.runs (pc' := 52) (lc' := [(0, .ref 1), (1, .int v1), (2, .int v2), (3, .ref v3)]) (st' := [.ref v3, .ref 70]) (S1 := S) (nL := 4) (cd := cd_2226) mx_2226 rfl rfl 3 rfl ?_
    obtain ⟨r5, S6, h1, h⟩ := bnE h
    refine RR.callV (b := 70) (as := [.ref v3]) (rest := []) (r1 := none) (S1 := S6) mx_2226 rfl rfl mx_1202 rfl rfl (by decide) (Or.inl rfl) (Nat.le_of_ble_eq_true rfl) (Nat.le_of_ble_eq_true rfl) (RC.deep (by omega) (s_o_sa_copy (d := d) _ _ _ h1)) ?_
    show RR KO _ 2226 55 [(0, .ref 1), (1, .int v1), (2, .int v2), (3, .ref v3)] [] S6 _ _
    refine RR.runs (pc' := 60) (lc' := [(0, .ref 1), (1, .int v1), (2, .int v2), (3, .ref v3)]) (st' := []) (S1 := (wI S6 1 11 (0 : Int32))) (nL := 4) (cd := cd_2226) mx_2226 rfl rfl 3 rfl ?_
    obtain ⟨S7, eS7, h⟩ := ltE h
    rw [← eS7]
    refine RR.runs (pc' := 83) (lc' := [(0, .ref 1), (1, .int v1), (2, .int v2), (3, .ref v3)]) (st' := []) (S1 := S7) (nL := 4) (cd := cd_2226) mx_2226 rfl rfl 1 rfl ?_
    refine RR.weak [] trivial ?_
    exact s_o_mark_83 _ h
def o_mark_41 (S : St) : Re Int32 :=
  some ((0 : Int32), S)
set_option maxRecDepth 100000 in
theorem s_o_mark_41 {d : Nat} {S' : St} {r : Int32} (S : St) (h : o_mark_41 S = some (r, S')) : RR KO (d + 3) 2226 41 [] [] S (some (.int r)) S' := by
  unfold o_mark_41 at h
  refine RR.runs (pc' := 42) (lc' := []) (st' := [.int (0 : Int32)]) (S1 := S) (nL := 4) (cd := cd_2226) mx_2226 rfl rfl 1 rfl ?_
  cases h
  exact RR.retz mx_2226 rfl rfl rfl rfl
def o_mark (v1 : Int32) (v2 : Int32) (S : St) : Re Int32 :=
  if v1 < 0 then (
    o_mark_13 S)
  else (
    if v1 < (4 : Int32) then (
      if v1 < 0 ∨ 4 ≤ v1.toNatClampNeg then none else
      oq (rQ S 16 v1.toNatClampNeg) none fun o1 =>
      if v2 = 0 then (
        o_mark_43 v1 v2 o1 S)
      else (
        if (((rI S 1 12) >>> (v1 &&& 31)) &&& (1 : Int32)) = 0 then (
          o_mark_41 S)
        else (
          o_mark_43 v1 v2 o1 S)))
    else (
      o_mark_13 S))
set_option maxRecDepth 100000 in
theorem s0_o_mark {d : Nat} {S' : St} {r : Int32} (v1 : Int32) (v2 : Int32) (S : St) (h : o_mark v1 v2 S = some (r, S')) : RR KO (d + 3) 2226 0 [(0, .ref 1), (1, .int v1), (2, .int v2)] [] S (some (.int r)) S' := by
  unfold o_mark at h
  refine RR.runs (pc' := icm .lt v1 0 13 4) (lc' := [(0, .ref 1), (1, .int v1), (2, .int v2)]) (st' := []) (S1 := S) (nL := 4) (cd := cd_2226) mx_2226 rfl rfl 2 rfl ?_
  rcases ifE h with ⟨c, h⟩ | ⟨c, h⟩
  · refine RR.c_lt (fun _ => ?_) (fun q => absurd c q)
    refine RR.weak [] trivial ?_
    exact s_o_mark_13 _ h
  · refine RR.c_lt (fun q => absurd q c) (fun _ => ?_)
    refine RR.runs (pc' := icm .lt v1 (4 : Int32) 15 13) (lc' := [(0, .ref 1), (1, .int v1), (2, .int v2)]) (st' := []) (S1 := S) (nL := 4) (cd := cd_2226) mx_2226 rfl rfl 5 rfl ?_
    rcases ifE h with ⟨c, h⟩ | ⟨c, h⟩
    · refine RR.c_lt (fun _ => ?_) (fun q => absurd c q)
      refine RR.runs (pc' := 20) (lc' := [(0, .ref 1), (1, .int v1), (2, .int v2)]) (st' := [.int v1, .ref 16]) (S1 := S) (nL := 4) (cd := cd_2226) mx_2226 rfl rfl 3 rfl ?_
      obtain ⟨g, h⟩ := gnE h
      refine RR.gPN (c2 := 5 ≤ (KO.1 16).1 ∧ (KO.1 16).1 < 8) (pc' := 21) (lc' := [(0, .ref 1), (1, .int v1), (2, .int v2)]) (st' := [qv (rQ S 16 v1.toNatClampNeg)]) (S1 := S) (nL := 4) (cd := cd_2226) mx_2226 rfl rfl rfl ⟨by decide, by decide⟩ g ?_
      rcases oqE h with ⟨e1, h⟩ | ⟨o1, eo1, h⟩
      · cases h
      rw [eo1]
      refine RR.runs (pc' := icm .eq v2 0 43 30) (lc' := [(3, .ref o1), (0, .ref 1), (1, .int v1), (2, .int v2)]) (st' := []) (S1 := S) (nL := 4) (cd := cd_2226) mx_2226 rfl rfl 5 rfl ?_
      rcases ifE h with ⟨c, h⟩ | ⟨c, h⟩
      · refine RR.c_eq (fun _ => ?_) (fun q => absurd c q)
        refine RR.weak [(0, .ref 1), (1, .int v1), (2, .int v2), (3, .ref o1)] ⟨rfl, rfl, rfl, rfl, trivial⟩ ?_
        exact s_o_mark_43 _ _ _ _ h
      · refine RR.c_eq (fun q => absurd q c) (fun _ => ?_)
        refine RR.runs (pc' := icm .ne ((((rI S 1 12) >>> (v1 &&& 31)) &&& (1 : Int32))) 0 43 41) (lc' := [(3, .ref o1), (0, .ref 1), (1, .int v1), (2, .int v2)]) (st' := []) (S1 := S) (nL := 4) (cd := cd_2226) mx_2226 rfl rfl 7 rfl ?_
        rcases ifE h with ⟨c, h⟩ | ⟨c, h⟩
        · refine RR.c_ne (fun _ => ?_) (fun q => absurd c q)
          refine RR.weak [] trivial ?_
          exact s_o_mark_41 _ h
        · refine RR.c_ne (fun q => absurd q c) (fun _ => ?_)
          refine RR.weak [(0, .ref 1), (1, .int v1), (2, .int v2), (3, .ref o1)] ⟨rfl, rfl, rfl, rfl, trivial⟩ ?_
          exact s_o_mark_43 _ _ _ _ h
    · refine RR.c_lt (fun q => absurd q c) (fun _ => ?_)
      refine RR.weak [] trivial ?_
      exact s_o_mark_13 _ h
theorem s_o_mark {d : Nat} {S' : St} {r : Int32} (v1 : Int32) (v2 : Int32) (S : St) (h : o_mark v1 v2 S = some (r, S')) : RC KO (d + 3) 2226 [.ref 1, .int v1, .int v2] S (some (.int r)) S' := RC.of rfl (s0_o_mark v1 v2 S h)
-- NameOrchard count (I)I
def o_count_245 (p0 : Int32) (S : St) : Re Int32 :=
  some (p0, S)
set_option maxRecDepth 100000 in
theorem s_o_count_245 {d : Nat} {S' : St} {r : Int32} (p0 : Int32) (S : St) (h : o_count_245 p0 S = some (r, S')) : RR KO (d + 1) 2227 245 [] [.int p0] S (some (.int r)) S' := by
  unfold o_count_245 at h
  cases h
  exact RR.reti mx_2227 rfl rfl rfl
def o_count (v1 : Int32) (S : St) : Re Int32 :=
  if v1.toInt = 0 then (
    oq (rQ S 1 9) none fun o1 =>
    if KO.1 o1 = (0, 10) then (
    if KO.1 (o1 + 80) = (0, 7) then (
bn (o_tb_size (o1 + 80) S) fun r4 S5 =>
    some (r4, S5)) else none) else none) else (
  if v1.toInt = 1 then (
    oq (rQ S 1 9) none fun o6 =>
    if KO.1 o6 = (0, 10) then (
    if KO.1 (o6 + 2) = (0, 2) then (
bn (o_na_size (o6 + 2) S) fun r9 S10 =>
    some (r9, S10)) else none) else none) else (
  if v1.toInt = 2 then (
    oq (rQ S 1 9) none fun o11 =>
    if KO.1 o11 = (0, 10) then (
    if KO.1 (o11 + 82) = (0, 7) then (
bn (o_tb_size (o11 + 82) S) fun r14 S15 =>
    some (r14, S15)) else none) else none) else (
  if v1.toInt = 3 then (
    oq (rQ S 1 9) none fun o16 =>
    if KO.1 o16 = (0, 10) then (
    if KO.1 (o16 + 84) = (0, 7) then (
bn (o_tb_size (o16 + 84) S) fun r19 S20 =>
    some (r19, S20)) else none) else none) else (
  if v1.toInt = 4 then (
    oq (rQ S 1 9) none fun o21 =>
    if KO.1 o21 = (0, 10) then (
    if KO.1 (o21 + 86) = (0, 7) then (
bn (o_tb_size (o21 + 86) S) fun r24 S25 =>
    some (r24, S25)) else none) else none) else (
  if v1.toInt = 5 then (
    oq (rQ S 1 9) none fun o26 =>
    if KO.1 o26 = (0, 10) then (
    if KO.1 (o26 + 88) = (0, 7) then (
bn (o_tb_size (o26 + 88) S) fun r29 S30 =>
    some (r29, S30)) else none) else none) else (
  if v1.toInt = 6 then (
    bn (o_j_bitCount (rI S 200 1) S) fun r31 S32 =>
    some (r31, S32)) else (
  if v1.toInt = 7 then (
    some ((rI S 200 3), S)) else (
  if v1.toInt = 8 then (
    some ((rI S 200 4), S)) else (
  if v1.toInt = 9 then (
    bn (o_tb_size 111 S) fun r33 S34 =>
    some (r33, S34)) else (
  if v1.toInt = 10 then (
    bn (o_j_bitCount (rI S 70 3) S) fun r35 S36 =>
    some (r35, S36)) else (
  if v1.toInt = 11 then (
    bn (o_tb_size 116 S) fun r37 S38 =>
    some (r37, S38)) else (
  if v1.toInt = 12 then (
    some ((rI S 1 11), S)) else (
  if v1.toInt = 13 then (
    some ((rI S 3 1), S)) else (
  if v1.toInt = 14 then (
    if (rI S 200 5) = 0 then (
      o_count_245 (0 : Int32) S)
    else (
      o_count_245 (1 : Int32) S)) else (
    some ((-1 : Int32), S))))))))))))))))
set_option maxRecDepth 100000 in
theorem s0_o_count {d : Nat} {S' : St} {r : Int32} (v1 : Int32) (S : St) (h : o_count v1 S = some (r, S')) : RR KO (d + 1) 2227 0 [(0, .ref 1), (1, .int v1)] [] S (some (.int r)) S' := by
  unfold o_count at h
  refine RR.runs (pc' := swt v1 1 245 0 [75, 86, 97, 108, 119, 130, 141, 155, 166, 177, 188, 199, 210, 215, 226]) (lc' := [(0, .ref 1), (1, .int v1)]) (st' := []) (S1 := S) (nL := 2) (cd := cd_2227) mx_2227 rfl rfl 2 rfl ?_
  rcases ifE h with ⟨c, h⟩ | ⟨c, h⟩
  · refine RR.sw 76 rfl (fun _ => ?_) (fun q => absurd c q)
    refine RR.runs (pc' := 80) (lc' := [(0, .ref 1), (1, .int v1)]) (st' := [qv (rQ S 1 9)]) (S1 := S) (nL := 2) (cd := cd_2227) mx_2227 rfl rfl 2 rfl ?_
    rcases oqE h with ⟨e1, h⟩ | ⟨o1, eo1, h⟩
    · cases h
    rw [eo1]
    obtain ⟨g2, h⟩ := gpE h
    refine RR.gPo (pc' := 83) (lc' := [(0, .ref 1), (1, .int v1)]) (st' := [.ref (o1 + 80)]) (S1 := S) (nL := 2) (cd := cd_2227) mx_2227 rfl rfl rfl ⟨g2, by decide, by decide⟩ ?_
    obtain ⟨g3, h⟩ := gpE h
    obtain ⟨r4, S5, h1, h⟩ := bnE h
    refine RR.callV (b := (o1 + 80)) (as := []) (rest := []) (r1 := (some (.int r4))) (S1 := S5) mx_2227 rfl rfl mx_1402 rfl rfl (by decide) (Or.inl g3) (Nat.le_of_ble_eq_true rfl) (Nat.le_of_ble_eq_true rfl) (RC.deep (by omega) (s_o_tb_size (d := d) _ _ h1)) ?_
    show RR KO _ 2227 86 [(0, .ref 1), (1, .int v1)] [.int r4] S5 _ _
    cases h
    exact RR.reti mx_2227 rfl rfl rfl
  refine RR.sw 76 rfl (fun q => absurd q c) (fun _ => ?_)
  rcases ifE h with ⟨c, h⟩ | ⟨c, h⟩
  · refine RR.sw 87 rfl (fun _ => ?_) (fun q => absurd c q)
    refine RR.runs (pc' := 91) (lc' := [(0, .ref 1), (1, .int v1)]) (st' := [qv (rQ S 1 9)]) (S1 := S) (nL := 2) (cd := cd_2227) mx_2227 rfl rfl 2 rfl ?_
    rcases oqE h with ⟨e1, h⟩ | ⟨o6, eo6, h⟩
    · cases h
    rw [eo6]
    obtain ⟨g7, h⟩ := gpE h
    refine RR.gPo (pc' := 94) (lc' := [(0, .ref 1), (1, .int v1)]) (st' := [.ref (o6 + 2)]) (S1 := S) (nL := 2) (cd := cd_2227) mx_2227 rfl rfl rfl ⟨g7, by decide, by decide⟩ ?_
    obtain ⟨g8, h⟩ := gpE h
    obtain ⟨r9, S10, h1, h⟩ := bnE h
    refine RR.callV (b := (o6 + 2)) (as := []) (rest := []) (r1 := (some (.int r9))) (S1 := S10) mx_2227 rfl rfl mx_403 rfl rfl (by decide) (Or.inl g8) (Nat.le_of_ble_eq_true rfl) (Nat.le_of_ble_eq_true rfl) (RC.deep (by omega) (s_o_na_size (d := d) _ _ h1)) ?_
    show RR KO _ 2227 97 [(0, .ref 1), (1, .int v1)] [.int r9] S10 _ _
    cases h
    exact RR.reti mx_2227 rfl rfl rfl
  refine RR.sw 87 rfl (fun q => absurd q c) (fun _ => ?_)
  rcases ifE h with ⟨c, h⟩ | ⟨c, h⟩
  · refine RR.sw 98 rfl (fun _ => ?_) (fun q => absurd c q)
    refine RR.runs (pc' := 102) (lc' := [(0, .ref 1), (1, .int v1)]) (st' := [qv (rQ S 1 9)]) (S1 := S) (nL := 2) (cd := cd_2227) mx_2227 rfl rfl 2 rfl ?_
    rcases oqE h with ⟨e1, h⟩ | ⟨o11, eo11, h⟩
    · cases h
    rw [eo11]
    obtain ⟨g12, h⟩ := gpE h
    refine RR.gPo (pc' := 105) (lc' := [(0, .ref 1), (1, .int v1)]) (st' := [.ref (o11 + 82)]) (S1 := S) (nL := 2) (cd := cd_2227) mx_2227 rfl rfl rfl ⟨g12, by decide, by decide⟩ ?_
    obtain ⟨g13, h⟩ := gpE h
    obtain ⟨r14, S15, h1, h⟩ := bnE h
    refine RR.callV (b := (o11 + 82)) (as := []) (rest := []) (r1 := (some (.int r14))) (S1 := S15) mx_2227 rfl rfl mx_1402 rfl rfl (by decide) (Or.inl g13) (Nat.le_of_ble_eq_true rfl) (Nat.le_of_ble_eq_true rfl) (RC.deep (by omega) (s_o_tb_size (d := d) _ _ h1)) ?_
    show RR KO _ 2227 108 [(0, .ref 1), (1, .int v1)] [.int r14] S15 _ _
    cases h
    exact RR.reti mx_2227 rfl rfl rfl
  refine RR.sw 98 rfl (fun q => absurd q c) (fun _ => ?_)
  rcases ifE h with ⟨c, h⟩ | ⟨c, h⟩
  · refine RR.sw 109 rfl (fun _ => ?_) (fun q => absurd c q)
    refine RR.runs (pc' := 113) (lc' := [(0, .ref 1), (1, .int v1)]) (st' := [qv (rQ S 1 9)]) (S1 := S) (nL := 2) (cd := cd_2227) mx_2227 rfl rfl 2 rfl ?_
    rcases oqE h with ⟨e1, h⟩ | ⟨o16, eo16, h⟩
    · cases h
    rw [eo16]
    obtain ⟨g17, h⟩ := gpE h
    refine RR.gPo (pc' := 116) (lc' := [(0, .ref 1), (1, .int v1)]) (st' := [.ref (o16 + 84)]) (S1 := S) (nL := 2) (cd := cd_2227) mx_2227 rfl rfl rfl ⟨g17, by decide, by decide⟩ ?_
    obtain ⟨g18, h⟩ := gpE h
    obtain ⟨r19, S20, h1, h⟩ := bnE h
    refine RR.callV (b := (o16 + 84)) (as := []) (rest := []) (r1 := (some (.int r19))) (S1 := S20) mx_2227 rfl rfl mx_1402 rfl rfl (by decide) (Or.inl g18) (Nat.le_of_ble_eq_true rfl) (Nat.le_of_ble_eq_true rfl) (RC.deep (by omega) (s_o_tb_size (d := d) _ _ h1)) ?_
    show RR KO _ 2227 119 [(0, .ref 1), (1, .int v1)] [.int r19] S20 _ _
    cases h
    exact RR.reti mx_2227 rfl rfl rfl
  refine RR.sw 109 rfl (fun q => absurd q c) (fun _ => ?_)
  rcases ifE h with ⟨c, h⟩ | ⟨c, h⟩
  · refine RR.sw 120 rfl (fun _ => ?_) (fun q => absurd c q)
    refine RR.runs (pc' := 124) (lc' := [(0, .ref 1), (1, .int v1)]) (st' := [qv (rQ S 1 9)]) (S1 := S) (nL := 2) (cd := cd_2227) mx_2227 rfl rfl 2 rfl ?_
    rcases oqE h with ⟨e1, h⟩ | ⟨o21, eo21, h⟩
    · cases h
    rw [eo21]
    obtain ⟨g22, h⟩ := gpE h
    refine RR.gPo (pc' := 127) (lc' := [(0, .ref 1), (1, .int v1)]) (st' := [.ref (o21 + 86)]) (S1 := S) (nL := 2) (cd := cd_2227) mx_2227 rfl rfl rfl ⟨g22, by decide, by decide⟩ ?_
    obtain ⟨g23, h⟩ := gpE h
    obtain ⟨r24, S25, h1, h⟩ := bnE h
    refine RR.callV (b := (o21 + 86)) (as := []) (rest := []) (r1 := (some (.int r24))) (S1 := S25) mx_2227 rfl rfl mx_1402 rfl rfl (by decide) (Or.inl g23) (Nat.le_of_ble_eq_true rfl) (Nat.le_of_ble_eq_true rfl) (RC.deep (by omega) (s_o_tb_size (d := d) _ _ h1)) ?_
    show RR KO _ 2227 130 [(0, .ref 1), (1, .int v1)] [.int r24] S25 _ _
    cases h
    exact RR.reti mx_2227 rfl rfl rfl
  refine RR.sw 120 rfl (fun q => absurd q c) (fun _ => ?_)
  rcases ifE h with ⟨c, h⟩ | ⟨c, h⟩
  · refine RR.sw 131 rfl (fun _ => ?_) (fun q => absurd c q)
    refine RR.runs (pc' := 135) (lc' := [(0, .ref 1), (1, .int v1)]) (st' := [qv (rQ S 1 9)]) (S1 := S) (nL := 2) (cd := cd_2227) mx_2227 rfl rfl 2 rfl ?_
    rcases oqE h with ⟨e1, h⟩ | ⟨o26, eo26, h⟩
    · cases h
    rw [eo26]
    obtain ⟨g27, h⟩ := gpE h
    refine RR.gPo (pc' := 138) (lc' := [(0, .ref 1), (1, .int v1)]) (st' := [.ref (o26 + 88)]) (S1 := S) (nL := 2) (cd := cd_2227) mx_2227 rfl rfl rfl ⟨g27, by decide, by decide⟩ ?_
    obtain ⟨g28, h⟩ := gpE h
    obtain ⟨r29, S30, h1, h⟩ := bnE h
    refine RR.callV (b := (o26 + 88)) (as := []) (rest := []) (r1 := (some (.int r29))) (S1 := S30) mx_2227 rfl rfl mx_1402 rfl rfl (by decide) (Or.inl g28) (Nat.le_of_ble_eq_true rfl) (Nat.le_of_ble_eq_true rfl) (RC.deep (by omega) (s_o_tb_size (d := d) _ _ h1)) ?_
    show RR KO _ 2227 141 [(0, .ref 1), (1, .int v1)] [.int r29] S30 _ _
    cases h
    exact RR.reti mx_2227 rfl rfl rfl
  refine RR.sw 131 rfl (fun q => absurd q c) (fun _ => ?_)
  rcases ifE h with ⟨c, h⟩ | ⟨c, h⟩
  · refine RR.sw 142 rfl (fun _ => ?_) (fun q => absurd c q)
    refine RR.runs (pc' := 152) (lc' := [(0, .ref 1), (1, .int v1)]) (st' := [.int (rI S 200 1)]) (S1 := S) (nL := 2) (cd := cd_2227) mx_2227 rfl rfl 4 rfl ?_
    obtain ⟨r31, S32, h1, h⟩ := bnE h
    refine RR.callS (as := [.int (rI S 200 1)]) (rest := []) (r1 := (some (.int r31))) (S1 := S32) mx_2227 rfl rfl mx_3000 rfl rfl (by decide) (Nat.le_of_ble_eq_true rfl) (Nat.le_of_ble_eq_true rfl) (Nat.le_of_ble_eq_true rfl) (RC.deep (by omega) (s_o_j_bitCount (d := d) _ _ h1)) ?_
    show RR KO _ 2227 155 [(0, .ref 1), (1, .int v1)] [.int r31] S32 _ _
    cases h
    exact RR.reti mx_2227 rfl rfl rfl
  refine RR.sw 142 rfl (fun q => absurd q c) (fun _ => ?_)
  rcases ifE h with ⟨c, h⟩ | ⟨c, h⟩
  · refine RR.sw 156 rfl (fun _ => ?_) (fun q => absurd c q)
    refine RR.runs (pc' := 166) (lc' := [(0, .ref 1), (1, .int v1)]) (st' := [.int (rI S 200 3)]) (S1 := S) (nL := 2) (cd := cd_2227) mx_2227 rfl rfl 4 rfl ?_
    cases h
    exact RR.reti mx_2227 rfl rfl rfl
  refine RR.sw 156 rfl (fun q => absurd q c) (fun _ => ?_)
  rcases ifE h with ⟨c, h⟩ | ⟨c, h⟩
  · refine RR.sw 167 rfl (fun _ => ?_) (fun q => absurd c q)
    refine RR.runs (pc' := 177) (lc' := [(0, .ref 1), (1, .int v1)]) (st' := [.int (rI S 200 4)]) (S1 := S) (nL := 2) (cd := cd_2227) mx_2227 rfl rfl 4 rfl ?_
    cases h
    exact RR.reti mx_2227 rfl rfl rfl
  refine RR.sw 167 rfl (fun q => absurd q c) (fun _ => ?_)
  rcases ifE h with ⟨c, h⟩ | ⟨c, h⟩
  · refine RR.sw 178 rfl (fun _ => ?_) (fun q => absurd c q)
    refine RR.runs (pc' := 185) (lc' := [(0, .ref 1), (1, .int v1)]) (st' := [.ref 111]) (S1 := S) (nL := 2) (cd := cd_2227) mx_2227 rfl rfl 3 rfl ?_
    obtain ⟨r33, S34, h1, h⟩ := bnE h
    refine RR.callV (b := 111) (as := []) (rest := []) (r1 := (some (.int r33))) (S1 := S34) mx_2227 rfl rfl mx_1402 rfl rfl (by decide) (Or.inl rfl) (Nat.le_of_ble_eq_true rfl) (Nat.le_of_ble_eq_true rfl) (RC.deep (by omega) (s_o_tb_size (d := d) _ _ h1)) ?_
    show RR KO _ 2227 188 [(0, .ref 1), (1, .int v1)] [.int r33] S34 _ _
    cases h
    exact RR.reti mx_2227 rfl rfl rfl
  refine RR.sw 178 rfl (fun q => absurd q c) (fun _ => ?_)
  rcases ifE h with ⟨c, h⟩ | ⟨c, h⟩
  · refine RR.sw 189 rfl (fun _ => ?_) (fun q => absurd c q)
    refine RR.runs (pc' := 196) (lc' := [(0, .ref 1), (1, .int v1)]) (st' := [.int (rI S 70 3)]) (S1 := S) (nL := 2) (cd := cd_2227) mx_2227 rfl rfl 3 rfl ?_
    obtain ⟨r35, S36, h1, h⟩ := bnE h
    refine RR.callS (as := [.int (rI S 70 3)]) (rest := []) (r1 := (some (.int r35))) (S1 := S36) mx_2227 rfl rfl mx_3000 rfl rfl (by decide) (Nat.le_of_ble_eq_true rfl) (Nat.le_of_ble_eq_true rfl) (Nat.le_of_ble_eq_true rfl) (RC.deep (by omega) (s_o_j_bitCount (d := d) _ _ h1)) ?_
    show RR KO _ 2227 199 [(0, .ref 1), (1, .int v1)] [.int r35] S36 _ _
    cases h
    exact RR.reti mx_2227 rfl rfl rfl
  refine RR.sw 189 rfl (fun q => absurd q c) (fun _ => ?_)
  rcases ifE h with ⟨c, h⟩ | ⟨c, h⟩
  · refine RR.sw 200 rfl (fun _ => ?_) (fun q => absurd c q)
    refine RR.runs (pc' := 207) (lc' := [(0, .ref 1), (1, .int v1)]) (st' := [.ref 116]) (S1 := S) (nL := 2) (cd := cd_2227) mx_2227 rfl rfl 3 rfl ?_
    obtain ⟨r37, S38, h1, h⟩ := bnE h
    refine RR.callV (b := 116) (as := []) (rest := []) (r1 := (some (.int r37))) (S1 := S38) mx_2227 rfl rfl mx_1402 rfl rfl (by decide) (Or.inl rfl) (Nat.le_of_ble_eq_true rfl) (Nat.le_of_ble_eq_true rfl) (RC.deep (by omega) (s_o_tb_size (d := d) _ _ h1)) ?_
    show RR KO _ 2227 210 [(0, .ref 1), (1, .int v1)] [.int r37] S38 _ _
    cases h
    exact RR.reti mx_2227 rfl rfl rfl
  refine RR.sw 200 rfl (fun q => absurd q c) (fun _ => ?_)
  rcases ifE h with ⟨c, h⟩ | ⟨c, h⟩
  · refine RR.sw 211 rfl (fun _ => ?_) (fun q => absurd c q)
    refine RR.runs (pc' := 215) (lc' := [(0, .ref 1), (1, .int v1)]) (st' := [.int (rI S 1 11)]) (S1 := S) (nL := 2) (cd := cd_2227) mx_2227 rfl rfl 2 rfl ?_
    cases h
    exact RR.reti mx_2227 rfl rfl rfl
  refine RR.sw 211 rfl (fun q => absurd q c) (fun _ => ?_)
  rcases ifE h with ⟨c, h⟩ | ⟨c, h⟩
  · refine RR.sw 216 rfl (fun _ => ?_) (fun q => absurd c q)
    refine RR.runs (pc' := 226) (lc' := [(0, .ref 1), (1, .int v1)]) (st' := [.int (rI S 3 1)]) (S1 := S) (nL := 2) (cd := cd_2227) mx_2227 rfl rfl 4 rfl ?_
    cases h
    exact RR.reti mx_2227 rfl rfl rfl
  refine RR.sw 216 rfl (fun q => absurd q c) (fun _ => ?_)
  rcases ifE h with ⟨c, h⟩ | ⟨c, h⟩
  · refine RR.sw 227 rfl (fun _ => ?_) (fun q => absurd c q)
    refine RR.runs (pc' := icm .eq (rI S 200 5) 0 244 240) (lc' := [(0, .ref 1), (1, .int v1)]) (st' := []) (S1 := S) (nL := 2) (cd := cd_2227) mx_2227 rfl rfl 5 rfl ?_
    rcases ifE h with ⟨c, h⟩ | ⟨c, h⟩
    · refine RR.c_eq (fun _ => ?_) (fun q => absurd c q)
      refine RR.runs (pc' := 245) (lc' := [(0, .ref 1), (1, .int v1)]) (st' := [.int (0 : Int32)]) (S1 := S) (nL := 2) (cd := cd_2227) mx_2227 rfl rfl 1 rfl ?_
      refine RR.weak [] trivial ?_
      exact s_o_count_245 _ _ h
    · refine RR.c_eq (fun q => absurd q c) (fun _ => ?_)
      refine RR.runs (pc' := 245) (lc' := [(0, .ref 1), (1, .int v1)]) (st' := [.int (1 : Int32)]) (S1 := S) (nL := 2) (cd := cd_2227) mx_2227 rfl rfl 2 rfl ?_
      refine RR.weak [] trivial ?_
      exact s_o_count_245 _ _ h
  refine RR.sw 227 rfl (fun q => absurd q c) (fun _ => ?_)
  refine RR.sw0 246 rfl ?_
  refine RR.runs (pc' := 247) (lc' := [(0, .ref 1), (1, .int v1)]) (st' := [.int (-1 : Int32)]) (S1 := S) (nL := 2) (cd := cd_2227) mx_2227 rfl rfl 1 rfl ?_
  cases h
  exact RR.reti mx_2227 rfl rfl rfl
theorem s_o_count {d : Nat} {S' : St} {r : Int32} (v1 : Int32) (S : St) (h : o_count v1 S = some (r, S')) : RC KO (d + 1) 2227 [.ref 1, .int v1] S (some (.int r)) S' := RC.of rfl (s0_o_count v1 S h)
