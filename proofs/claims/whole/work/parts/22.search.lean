/-! Search()'s own loop, lifted (laid by wip/whole/gen/search.py) -/
def ksL : List (Nat × Nat) := [(99, 0), (0, 11), (0, 3), (0, 8), (2, 1000), (0, 4), (1, 80), (1, 80), (1, 80), (1, 30), (1, 30), (1, 1024), (4, 923), (4, 923), (4, 923), (99, 0), (99, 0), (99, 0), (99, 0), (99, 0), (99, 0), (99, 0), (99, 0), (99, 0), (99, 0), (99, 0), (99, 0), (99, 0), (99, 0), (99, 0), (99, 0), (99, 0), (99, 0), (99, 0), (99, 0), (99, 0), (99, 0), (99, 0), (99, 0), (99, 0), (99, 0), (99, 0), (99, 0), (99, 0), (99, 0), (99, 0), (99, 0), (99, 0), (99, 0), (99, 0), (99, 0), (99, 0), (99, 0), (99, 0), (99, 0), (99, 0), (99, 0), (99, 0), (99, 0), (99, 0), (99, 0), (99, 0), (99, 0), (99, 0), (99, 0), (99, 0), (99, 0), (99, 0), (99, 0), (99, 0), (0, 6), (99, 0), (99, 0), (99, 0), (99, 0), (99, 0), (99, 0), (99, 0), (99, 0), (99, 0), (99, 0), (99, 0), (99, 0), (99, 0), (99, 0), (99, 0), (99, 0), (99, 0), (99, 0), (99, 0), (99, 0), (99, 0), (99, 0), (99, 0), (99, 0), (99, 0), (99, 0), (99, 0), (99, 0), (99, 0), (99, 0), (99, 0), (99, 0), (99, 0), (99, 0), (99, 0), (99, 0), (99, 0), (99, 0), (99, 0), (0, 7), (0, 7), (99, 0), (99, 0), (99, 0), (99, 0), (0, 7), (99, 0), (99, 0), (99, 0), (99, 0), (99, 0), (99, 0), (99, 0), (99, 0), (99, 0), (99, 0), (99, 0), (99, 0), (99, 0), (99, 0), (99, 0), (99, 0), (99, 0), (99, 0), (99, 0), (99, 0), (99, 0), (99, 0), (99, 0), (1, 120), (1, 120), (99, 0), (99, 0), (99, 0), (99, 0), (1, 36), (99, 0), (99, 0), (99, 0), (99, 0), (99, 0), (99, 0), (99, 0), (99, 0), (99, 0), (99, 0), (99, 0), (99, 0), (99, 0), (99, 0), (99, 0), (99, 0), (99, 0), (99, 0), (99, 0), (99, 0), (99, 0), (99, 0), (99, 0), (99, 0), (99, 0), (99, 0), (99, 0), (99, 0), (99, 0), (99, 0), (99, 0), (99, 0), (99, 0), (99, 0), (99, 0), (99, 0), (99, 0), (99, 0), (99, 0), (99, 0), (99, 0), (99, 0), (99, 0), (99, 0), (99, 0), (99, 0), (99, 0), (99, 0), (99, 0), (99, 0), (99, 0), (99, 0), (99, 0), (0, 5), (99, 0), (99, 0), (99, 0), (99, 0), (0, 5), (99, 0), (99, 0), (99, 0), (99, 0), (99, 0), (99, 0), (99, 0), (99, 0), (99, 0), (99, 0), (99, 0), (99, 0), (99, 0), (99, 0), (99, 0), (99, 0), (99, 0), (99, 0), (99, 0), (99, 0), (99, 0), (99, 0), (99, 0), (99, 0), (1, 10), (99, 0), (99, 0), (99, 0), (99, 0), (1, 10), (99, 0), (99, 0), (99, 0), (99, 0), (99, 0), (99, 0), (99, 0), (99, 0), (99, 0), (99, 0), (99, 0), (99, 0), (99, 0), (99, 0), (99, 0), (99, 0), (99, 0), (99, 0), (99, 0), (99, 0), (99, 0), (99, 0), (99, 0), (99, 0)]
def KS : Cfg := (fun a => if a < 260 then ksL.getD a (99, 0) else (99, 0), fun c a z => if c = 4 ∧ a = 5 ∧ z = 5 then some 11 else none, fun _ _ _ => none)
theorem mx_800 : mX 800 = some ((⟨kN 4, "<init>", "()V"⟩, prog_7_method_1_code, 4, none, 4), cd_800) := rfl
def i_se_init_136 (k84 : Int32 → Int32 → St → Re Unit) (v1 : Int32) (v2 : Int32) (S : St) : Re Unit :=
  lt' ((v1 * (3 : Int32)) : Int32) fun x1 =>
  lt' ((v2 + (1 : Int32)) : Int32) fun x2 =>
  k84 x1 x2 S
set_option maxRecDepth 100000 in
theorem s_i_se_init_136 {d : Nat} (k84 : Int32 → Int32 → St → Re Unit) {S' : St} {r : Unit} (b84 : ∀ (v1 : Int32) (v2 : Int32) (S : St), k84 v1 v2 S = some (r, S') → RR KS (d + 0) 800 84 [(0, .ref 5), (1, .int v1), (2, .int v2)] [] S none S') (v1 : Int32) (v2 : Int32) (S : St) (h : i_se_init_136 k84 v1 v2 S = some (r, S')) : RR KS (d + 0) 800 136 [(0, .ref 5), (1, .int v1), (2, .int v2)] [] S none S' := by
  unfold i_se_init_136 at h
  refine RR.runs (pc' := 140) (lc' := [(1, .int ((v1 * (3 : Int32)))), (0, .ref 5), (2, .int v2)]) (st' := []) (S1 := S) (nL := 4) (cd := cd_800) mx_800 rfl rfl 4 rfl ?_
  obtain ⟨x1, ex1, h⟩ := ltE h
  rw [← ex1]
  refine RR.runs (pc' := 143) (lc' := [(2, .int ((v2 + (1 : Int32)))), (1, .int x1), (0, .ref 5)]) (st' := []) (S1 := S) (nL := 4) (cd := cd_800) mx_800 rfl rfl 1 rfl ?_
  obtain ⟨x2, ex2, h⟩ := ltE h
  rw [← ex2]
  refine RR.runs (pc' := 84) (lc' := [(2, .int x2), (1, .int x1), (0, .ref 5)]) (st' := []) (S1 := S) (nL := 4) (cd := cd_800) mx_800 rfl rfl 1 rfl ?_
  refine RR.weak [(0, .ref 5), (1, .int x1), (2, .int x2)] ⟨rfl, rfl, rfl, trivial⟩ ?_
  exact b84 _ _ _ h
def i_se_init_92 (k84 : Int32 → Int32 → St → Re Unit) : Nat → Int32 → Int32 → Int32 → St → Re Unit
  | 0, _, _, _, _ => none
  | n + 1, v1, v2, v3, S =>
  if v3 < ((1 : Int32) <<< (v2 &&& 31)) then (
    if (v3 + ((1 : Int32) <<< (v2 &&& 31))) < (1024 : Int32) then (
      if v3 < 0 ∨ 1024 ≤ v3.toNatClampNeg then none else
      if (v3 + ((1 : Int32) <<< (v2 &&& 31))) < 0 ∨ 1024 ≤ ((v3 + ((1 : Int32) <<< (v2 &&& 31)))).toNatClampNeg then none else
      lt' (wI S 11 ((v3 + ((1 : Int32) <<< (v2 &&& 31)))).toNatClampNeg (((rI S 11 v3.toNatClampNeg) + v1))) fun S1 =>
      lt' ((v3 + (1 : Int32)) : Int32) fun x2 =>
      i_se_init_92 k84 n v1 v2 x2 S1)
    else (
      i_se_init_136 k84 v1 v2 S))
  else (
    i_se_init_136 k84 v1 v2 S)
set_option maxRecDepth 100000 in
theorem s_i_se_init_92 {d : Nat} (k84 : Int32 → Int32 → St → Re Unit) {S' : St} {r : Unit} (b84 : ∀ (v1 : Int32) (v2 : Int32) (S : St), k84 v1 v2 S = some (r, S') → RR KS (d + 0) 800 84 [(0, .ref 5), (1, .int v1), (2, .int v2)] [] S none S') : ∀ (n : Nat) (v1 : Int32) (v2 : Int32) (v3 : Int32) (S : St), i_se_init_92 k84 n v1 v2 v3 S = some (r, S') → RR KS (d + 0) 800 92 [(0, .ref 5), (1, .int v1), (2, .int v2), (3, .int v3)] [] S none S' := by
  intro n
  induction n with
  | zero => intro v1 v2 v3 S h; simp only [i_se_init_92] at h; cases h
  | succ n ih =>
    intro v1 v2 v3 S h
    simp only [i_se_init_92] at h
    refine RR.runs (pc' := icm .ge v3 (((1 : Int32) <<< (v2 &&& 31))) 136 99) (lc' := [(0, .ref 5), (1, .int v1), (2, .int v2), (3, .int v3)]) (st' := []) (S1 := S) (nL := 4) (cd := cd_800) mx_800 rfl rfl 5 rfl ?_
    rcases ifE h with ⟨c, h⟩ | ⟨c, h⟩
    · refine RR.c_ge (fun _ => ?_) (fun q => absurd c q)
      refine RR.runs (pc' := icm .ge ((v3 + ((1 : Int32) <<< (v2 &&& 31)))) (1024 : Int32) 136 112) (lc' := [(0, .ref 5), (1, .int v1), (2, .int v2), (3, .int v3)]) (st' := []) (S1 := S) (nL := 4) (cd := cd_800) mx_800 rfl rfl 9 rfl ?_
      rcases ifE h with ⟨c, h⟩ | ⟨c, h⟩
      · refine RR.c_ge (fun _ => ?_) (fun q => absurd c q)
        refine RR.runs (pc' := 126) (lc' := [(0, .ref 5), (1, .int v1), (2, .int v2), (3, .int v3)]) (st' := [.int v3, .ref 11, .int ((v3 + ((1 : Int32) <<< (v2 &&& 31)))), .ref 11]) (S1 := S) (nL := 4) (cd := cd_800) mx_800 rfl rfl 10 rfl ?_
        obtain ⟨g, h⟩ := gnE h
        refine RR.gPN (c2 := (KS.1 11).1 = 1) (pc' := 127) (lc' := [(0, .ref 5), (1, .int v1), (2, .int v2), (3, .int v3)]) (st' := [.int (rI S 11 v3.toNatClampNeg), .int ((v3 + ((1 : Int32) <<< (v2 &&& 31)))), .ref 11]) (S1 := S) (nL := 4) (cd := cd_800) mx_800 rfl rfl rfl rfl g ?_
        refine RR.runs (pc' := 129) (lc' := [(0, .ref 5), (1, .int v1), (2, .int v2), (3, .int v3)]) (st' := [.int (((rI S 11 v3.toNatClampNeg) + v1)), .int ((v3 + ((1 : Int32) <<< (v2 &&& 31)))), .ref 11]) (S1 := S) (nL := 4) (cd := cd_800) mx_800 rfl rfl 2 rfl ?_
        obtain ⟨g, h⟩ := gnE h
        refine RR.gPN (c2 := (KS.1 11).1 = 1) (pc' := 130) (lc' := [(0, .ref 5), (1, .int v1), (2, .int v2), (3, .int v3)]) (st' := []) (S1 := (wI S 11 ((v3 + ((1 : Int32) <<< (v2 &&& 31)))).toNatClampNeg (((rI S 11 v3.toNatClampNeg) + v1)))) (nL := 4) (cd := cd_800) mx_800 rfl rfl rfl rfl g ?_
        obtain ⟨S1, eS1, h⟩ := ltE h
        rw [← eS1]
        refine RR.runs (pc' := 133) (lc' := [(3, .int ((v3 + (1 : Int32)))), (0, .ref 5), (1, .int v1), (2, .int v2)]) (st' := []) (S1 := S1) (nL := 4) (cd := cd_800) mx_800 rfl rfl 1 rfl ?_
        obtain ⟨x2, ex2, h⟩ := ltE h
        rw [← ex2]
        refine RR.runs (pc' := 92) (lc' := [(3, .int x2), (0, .ref 5), (1, .int v1), (2, .int v2)]) (st' := []) (S1 := S1) (nL := 4) (cd := cd_800) mx_800 rfl rfl 1 rfl ?_
        refine RR.weak [(0, .ref 5), (1, .int v1), (2, .int v2), (3, .int x2)] ⟨rfl, rfl, rfl, rfl, trivial⟩ ?_
        exact ih _ _ _ _ h
      · refine RR.c_ge (fun q => absurd q c) (fun _ => ?_)
        refine RR.weak [(0, .ref 5), (1, .int v1), (2, .int v2)] ⟨rfl, rfl, rfl, trivial⟩ ?_
        exact s_i_se_init_136 _ b84 _ _ _ h
    · refine RR.c_ge (fun q => absurd q c) (fun _ => ?_)
      refine RR.weak [(0, .ref 5), (1, .int v1), (2, .int v2)] ⟨rfl, rfl, rfl, trivial⟩ ?_
      exact s_i_se_init_136 _ b84 _ _ _ h
def i_se_init_146 (S : St) : Re Unit :=
  some ((), S)
set_option maxRecDepth 100000 in
theorem s_i_se_init_146 {d : Nat} {S' : St} {r : Unit} (S : St) (h : i_se_init_146 S = some (r, S')) : RR KS (d + 0) 800 146 [] [] S none S' := by
  unfold i_se_init_146 at h
  cases h
  exact RR.retv mx_800 rfl rfl rfl
def i_se_init_84 : Nat → Int32 → Int32 → St → Re Unit
  | 0, _, _, _ => none
  | n + 1, v1, v2, S =>
  if v2 < (10 : Int32) then (
    i_se_init_92 (i_se_init_84 n) FU v1 v2 (0 : Int32) S)
  else (
    i_se_init_146 S)
set_option maxRecDepth 100000 in
theorem s_i_se_init_84 {d : Nat} {S' : St} {r : Unit} : ∀ (n : Nat) (v1 : Int32) (v2 : Int32) (S : St), i_se_init_84 n v1 v2 S = some (r, S') → RR KS (d + 0) 800 84 [(0, .ref 5), (1, .int v1), (2, .int v2)] [] S none S' := by
  intro n
  induction n with
  | zero => intro v1 v2 S h; simp only [i_se_init_84] at h; cases h
  | succ n ih =>
    intro v1 v2 S h
    simp only [i_se_init_84] at h
    refine RR.runs (pc' := icm .ge v2 (10 : Int32) 146 90) (lc' := [(0, .ref 5), (1, .int v1), (2, .int v2)]) (st' := []) (S1 := S) (nL := 4) (cd := cd_800) mx_800 rfl rfl 3 rfl ?_
    rcases ifE h with ⟨c, h⟩ | ⟨c, h⟩
    · refine RR.c_ge (fun _ => ?_) (fun q => absurd c q)
      refine RR.runs (pc' := 92) (lc' := [(3, .int (0 : Int32)), (0, .ref 5), (1, .int v1), (2, .int v2)]) (st' := []) (S1 := S) (nL := 4) (cd := cd_800) mx_800 rfl rfl 2 rfl ?_
      refine RR.weak [(0, .ref 5), (1, .int v1), (2, .int v2), (3, .int (0 : Int32))] ⟨rfl, rfl, rfl, rfl, trivial⟩ ?_
      exact s_i_se_init_92 _ (fun _ _ S h => ih _ _ S h) _ _ _ _ _ h
    · refine RR.c_ge (fun q => absurd q c) (fun _ => ?_)
      refine RR.weak [] trivial ?_
      exact s_i_se_init_146 _ h
def i_se_init_80 (S : St) : Re Unit :=
  i_se_init_84 FU (1 : Int32) (0 : Int32) S
set_option maxRecDepth 100000 in
theorem s_i_se_init_80 {d : Nat} {S' : St} {r : Unit} (S : St) (h : i_se_init_80 S = some (r, S')) : RR KS (d + 0) 800 80 [(0, .ref 5)] [] S none S' := by
  unfold i_se_init_80 at h
  refine RR.runs (pc' := 84) (lc' := [(2, .int (0 : Int32)), (1, .int (1 : Int32)), (0, .ref 5)]) (st' := []) (S1 := S) (nL := 4) (cd := cd_800) mx_800 rfl rfl 4 rfl ?_
  refine RR.weak [(0, .ref 5), (1, .int (1 : Int32)), (2, .int (0 : Int32))] ⟨rfl, rfl, rfl, trivial⟩ ?_
  exact s_i_se_init_84 _ _ _ _ h
theorem mx_2200 : mX 2200 = some ((⟨kN 11, "<init>", "()V"⟩, prog_1_method_1_code, 2, none, 11), cd_2200) := rfl
def o_no_init_174 (S : St) : Re Unit :=
  oq (rQ S 1 9) none fun o1 =>
  if KO.1 o1 = (0, 10) then (
bn (o_to_settle o1 S) fun r3 S4 =>
  oq (rQ S4 1 10) none fun o5 =>
  if KO.1 o5 = (0, 10) then (
bn (o_to_settle o5 S4) fun r7 S8 =>
  oq (rQ S8 1 9) none fun o9 =>
  bn (o_sa_begin 70 o9 S8) fun r10 S11 =>
  some ((), S11)) else none) else none
set_option maxRecDepth 100000 in
theorem s_o_no_init_174 {d : Nat} {S' : St} {r : Unit} (S : St) (h : o_no_init_174 S = some (r, S')) : RR KO (d + 5) 2200 174 [(0, .ref 1)] [] S none S' := by
  unfold o_no_init_174 at h
  refine RR.runs (pc' := 178) (lc' := [(0, .ref 1)]) (st' := [qv (rQ S 1 9)]) (S1 := S) (nL := 2) (cd := cd_2200) mx_2200 rfl rfl 2 rfl ?_
  rcases oqE h with ⟨e1, h⟩ | ⟨o1, eo1, h⟩
  · cases h
  rw [eo1]
  obtain ⟨g2, h⟩ := gpE h
  obtain ⟨r3, S4, h1, h⟩ := bnE h
  refine RR.callV (b := o1) (as := []) (rest := []) (r1 := none) (S1 := S4) mx_2200 rfl rfl mx_2002 rfl rfl (by decide) (Or.inl g2) (Nat.le_of_ble_eq_true rfl) (Nat.le_of_ble_eq_true rfl) (RC.deep (by omega) (s_o_to_settle (d := d) _ _ h1)) ?_
  show RR KO _ 2200 181 [(0, .ref 1)] [] S4 _ _
  refine RR.runs (pc' := 185) (lc' := [(0, .ref 1)]) (st' := [qv (rQ S4 1 10)]) (S1 := S4) (nL := 2) (cd := cd_2200) mx_2200 rfl rfl 2 rfl ?_
  rcases oqE h with ⟨e1, h⟩ | ⟨o5, eo5, h⟩
  · cases h
  rw [eo5]
  obtain ⟨g6, h⟩ := gpE h
  obtain ⟨r7, S8, h1, h⟩ := bnE h
  refine RR.callV (b := o5) (as := []) (rest := []) (r1 := none) (S1 := S8) mx_2200 rfl rfl mx_2002 rfl rfl (by decide) (Or.inl g6) (Nat.le_of_ble_eq_true rfl) (Nat.le_of_ble_eq_true rfl) (RC.deep (by omega) (s_o_to_settle (d := d) _ _ h1)) ?_
  show RR KO _ 2200 188 [(0, .ref 1)] [] S8 _ _
  refine RR.runs (pc' := 196) (lc' := [(0, .ref 1)]) (st' := [qv (rQ S8 1 9), .ref 70]) (S1 := S8) (nL := 2) (cd := cd_2200) mx_2200 rfl rfl 4 rfl ?_
  rcases oqE h with ⟨e1, h⟩ | ⟨o9, eo9, h⟩
  · cases h
  rw [eo9]
  obtain ⟨r10, S11, h1, h⟩ := bnE h
  refine RR.callV (b := 70) (as := [.ref o9]) (rest := []) (r1 := none) (S1 := S11) mx_2200 rfl rfl mx_1201 rfl rfl (by decide) (Or.inl rfl) (Nat.le_of_ble_eq_true rfl) (Nat.le_of_ble_eq_true rfl) (RC.deep (by omega) (s_o_sa_begin (d := d) _ _ _ h1)) ?_
  show RR KO _ 2200 199 [(0, .ref 1)] [] S11 _ _
  cases h
  exact RR.retv mx_2200 rfl rfl rfl
