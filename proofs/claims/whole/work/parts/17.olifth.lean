/-! Methods of the class, lifted (laid by wip/whole/gen/klass.py) -/
-- NameOrchard$Search explore (LNameOrchard$Told;IIIII)V
def o_se_explore_193 (rec : Nat → Int32 → Int32 → Int32 → Int32 → Int32 → St → Re Unit) (k73 : Nat → Int32 → Int32 → Int32 → Int32 → Int32 → Int32 → St → Re Unit) (v1 : Nat) (v2 : Int32) (v3 : Int32) (v4 : Int32) (v5 : Int32) (v6 : Int32) (v7 : Int32) (S : St) : Re Unit :=
  lt' ((v7 + (1 : Int32)) : Int32) fun x1 =>
  k73 v1 v2 v3 v4 v5 v6 x1 S
set_option maxRecDepth 100000 in
theorem s_o_se_explore_193 {d : Nat} (rec : Nat → Int32 → Int32 → Int32 → Int32 → Int32 → St → Re Unit) (k73 : Nat → Int32 → Int32 → Int32 → Int32 → Int32 → Int32 → St → Re Unit) {S' : St} {r : Unit} (hrec : ∀ (v1 : Nat) (v2 : Int32) (v3 : Int32) (v4 : Int32) (v5 : Int32) (v6 : Int32) (S : St) (r : Unit) (S' : St), rec v1 v2 v3 v4 v5 v6 S = some (r, S') → RC KO (d + 0) 806 [.ref 5, .ref v1, .int v2, .int v3, .int v4, .int v5, .int v6] S none S') (b73 : ∀ (v1 : Nat) (v2 : Int32) (v3 : Int32) (v4 : Int32) (v5 : Int32) (v6 : Int32) (v7 : Int32) (S : St), k73 v1 v2 v3 v4 v5 v6 v7 S = some (r, S') → RR KO (d + 1) 806 73 [(0, .ref 5), (1, .ref v1), (2, .int v2), (3, .int v3), (4, .int v4), (5, .int v5), (6, .int v6), (7, .int v7)] [] S none S') (v1 : Nat) (v2 : Int32) (v3 : Int32) (v4 : Int32) (v5 : Int32) (v6 : Int32) (v7 : Int32) (S : St) (h : o_se_explore_193 rec k73 v1 v2 v3 v4 v5 v6 v7 S = some (r, S')) : RR KO (d + 1) 806 193 [(0, .ref 5), (1, .ref v1), (2, .int v2), (3, .int v3), (4, .int v4), (5, .int v5), (6, .int v6), (7, .int v7)] [] S none S' := by
  unfold o_se_explore_193 at h
  refine RR.runs (pc' := 196) (lc' := [(7, .int ((v7 + (1 : Int32)))), (0, .ref 5), (1, .ref v1), (2, .int v2), (3, .int v3), (4, .int v4), (5, .int v5), (6, .int v6)]) (st' := []) (S1 := S) (nL := 12) (cd := cd_806) mx_806 rfl rfl 1 rfl ?_
  obtain ⟨x1, ex1, h⟩ := ltE h
  rw [← ex1]
  refine RR.runs (pc' := 73) (lc' := [(7, .int x1), (0, .ref 5), (1, .ref v1), (2, .int v2), (3, .int v3), (4, .int v4), (5, .int v5), (6, .int v6)]) (st' := []) (S1 := S) (nL := 12) (cd := cd_806) mx_806 rfl rfl 1 rfl ?_
  refine RR.weak [(0, .ref 5), (1, .ref v1), (2, .int v2), (3, .int v3), (4, .int v4), (5, .int v5), (6, .int v6), (7, .int x1)] ⟨rfl, rfl, rfl, rfl, rfl, rfl, rfl, rfl, trivial⟩ ?_
  exact b73 _ _ _ _ _ _ _ _ h
def o_se_explore_190 (rec : Nat → Int32 → Int32 → Int32 → Int32 → Int32 → St → Re Unit) (k73 : Nat → Int32 → Int32 → Int32 → Int32 → Int32 → Int32 → St → Re Unit) (v1 : Nat) (v2 : Int32) (v3 : Int32) (v4 : Int32) (v5 : Int32) (v6 : Int32) (v7 : Int32) (p0 : Int32) (p1 : Int32) (p2 : Int32) (p3 : Int32) (p4 : Int32) (p5 : Nat) (S : St) : Re Unit :=
  bn (rec p5 p4 p3 p2 p1 p0 S) fun r1 S2 =>
  o_se_explore_193 rec k73 v1 v2 v3 v4 v5 v6 v7 S2
set_option maxRecDepth 100000 in
theorem s_o_se_explore_190 {d : Nat} (rec : Nat → Int32 → Int32 → Int32 → Int32 → Int32 → St → Re Unit) (k73 : Nat → Int32 → Int32 → Int32 → Int32 → Int32 → Int32 → St → Re Unit) {S' : St} {r : Unit} (hrec : ∀ (v1 : Nat) (v2 : Int32) (v3 : Int32) (v4 : Int32) (v5 : Int32) (v6 : Int32) (S : St) (r : Unit) (S' : St), rec v1 v2 v3 v4 v5 v6 S = some (r, S') → RC KO (d + 0) 806 [.ref 5, .ref v1, .int v2, .int v3, .int v4, .int v5, .int v6] S none S') (b73 : ∀ (v1 : Nat) (v2 : Int32) (v3 : Int32) (v4 : Int32) (v5 : Int32) (v6 : Int32) (v7 : Int32) (S : St), k73 v1 v2 v3 v4 v5 v6 v7 S = some (r, S') → RR KO (d + 1) 806 73 [(0, .ref 5), (1, .ref v1), (2, .int v2), (3, .int v3), (4, .int v4), (5, .int v5), (6, .int v6), (7, .int v7)] [] S none S') (v1 : Nat) (v2 : Int32) (v3 : Int32) (v4 : Int32) (v5 : Int32) (v6 : Int32) (v7 : Int32) (p0 : Int32) (p1 : Int32) (p2 : Int32) (p3 : Int32) (p4 : Int32) (p5 : Nat) (S : St) (h : o_se_explore_190 rec k73 v1 v2 v3 v4 v5 v6 v7 p0 p1 p2 p3 p4 p5 S = some (r, S')) : RR KO (d + 1) 806 190 [(0, .ref 5), (1, .ref v1), (2, .int v2), (3, .int v3), (4, .int v4), (5, .int v5), (6, .int v6), (7, .int v7)] [.int p0, .int p1, .int p2, .int p3, .int p4, .ref p5, .ref 5] S none S' := by
  unfold o_se_explore_190 at h
  obtain ⟨r1, S2, h1, h⟩ := bnE h
  refine RR.callV (b := 5) (as := [.ref p5, .int p4, .int p3, .int p2, .int p1, .int p0]) (rest := []) (r1 := none) (S1 := S2) mx_806 rfl rfl mx_806 rfl rfl (by decide) (Or.inl rfl) (Nat.le_of_ble_eq_true rfl) (Nat.le_of_ble_eq_true rfl) (hrec _ _ _ _ _ _ _ _ _ h1) ?_
  show RR KO _ 806 193 [(0, .ref 5), (1, .ref v1), (2, .int v2), (3, .int v3), (4, .int v4), (5, .int v5), (6, .int v6), (7, .int v7)] [] S2 _ _
  refine RR.weak [(0, .ref 5), (1, .ref v1), (2, .int v2), (3, .int v3), (4, .int v4), (5, .int v5), (6, .int v6), (7, .int v7)] ⟨rfl, rfl, rfl, rfl, rfl, rfl, rfl, rfl, trivial⟩ ?_
  exact s_o_se_explore_193 _ _ hrec b73 _ _ _ _ _ _ _ _ h
def o_se_explore_148 (rec : Nat → Int32 → Int32 → Int32 → Int32 → Int32 → St → Re Unit) (k73 : Nat → Int32 → Int32 → Int32 → Int32 → Int32 → Int32 → St → Re Unit) (v1 : Nat) (v2 : Int32) (v3 : Int32) (v4 : Int32) (v5 : Int32) (v6 : Int32) (v7 : Int32) (v8 : Int32) (v9 : Int32) (v10 : Int32) (S : St) : Re Unit :=
  bn (o_se_sum 9 v2 v8 S) fun r1 S2 =>
  lt' ((v5 + r1) : Int32) fun x3 =>
  if v2 = 0 then (
    if v7 < 0 ∨ 80 ≤ v7.toNatClampNeg then none else
    o_se_explore_190 rec k73 v1 v2 v3 v4 v5 v6 v7 (rI S2 8 v7.toNatClampNeg) x3 v10 v9 ((v2 + (1 : Int32))) v1 S2)
  else (
    o_se_explore_190 rec k73 v1 v2 v3 v4 v5 v6 v7 v6 x3 v10 v9 ((v2 + (1 : Int32))) v1 S2)
set_option maxRecDepth 100000 in
theorem s_o_se_explore_148 {d : Nat} (rec : Nat → Int32 → Int32 → Int32 → Int32 → Int32 → St → Re Unit) (k73 : Nat → Int32 → Int32 → Int32 → Int32 → Int32 → Int32 → St → Re Unit) {S' : St} {r : Unit} (hrec : ∀ (v1 : Nat) (v2 : Int32) (v3 : Int32) (v4 : Int32) (v5 : Int32) (v6 : Int32) (S : St) (r : Unit) (S' : St), rec v1 v2 v3 v4 v5 v6 S = some (r, S') → RC KO (d + 0) 806 [.ref 5, .ref v1, .int v2, .int v3, .int v4, .int v5, .int v6] S none S') (b73 : ∀ (v1 : Nat) (v2 : Int32) (v3 : Int32) (v4 : Int32) (v5 : Int32) (v6 : Int32) (v7 : Int32) (S : St), k73 v1 v2 v3 v4 v5 v6 v7 S = some (r, S') → RR KO (d + 1) 806 73 [(0, .ref 5), (1, .ref v1), (2, .int v2), (3, .int v3), (4, .int v4), (5, .int v5), (6, .int v6), (7, .int v7)] [] S none S') (v1 : Nat) (v2 : Int32) (v3 : Int32) (v4 : Int32) (v5 : Int32) (v6 : Int32) (v7 : Int32) (v8 : Int32) (v9 : Int32) (v10 : Int32) (S : St) (h : o_se_explore_148 rec k73 v1 v2 v3 v4 v5 v6 v7 v8 v9 v10 S = some (r, S')) : RR KO (d + 1) 806 148 [(0, .ref 5), (1, .ref v1), (2, .int v2), (3, .int v3), (4, .int v4), (5, .int v5), (6, .int v6), (7, .int v7), (8, .int v8), (9, .int v9), (10, .int v10)] [] S none S' := by
  unfold o_se_explore_148 at h
  refine RR.runs (pc' := 157) (lc' := [(0, .ref 5), (1, .ref v1), (2, .int v2), (3, .int v3), (4, .int v4), (5, .int v5), (6, .int v6), (7, .int v7), (8, .int v8), (9, .int v9), (10, .int v10)]) (st' := [.int v8, .int v2, .ref 9, .int v5]) (S1 := S) (nL := 12) (cd := cd_806) mx_806 rfl rfl 5 rfl ?_
  obtain ⟨r1, S2, h1, h⟩ := bnE h
  refine RR.callS (as := [.ref 9, .int v2, .int v8]) (rest := [.int v5]) (r1 := (some (.int r1))) (S1 := S2) mx_806 rfl rfl mx_805 rfl rfl (by decide) (Nat.le_of_ble_eq_true rfl) (Nat.le_of_ble_eq_true rfl) (Nat.le_of_ble_eq_true rfl) (RC.deep (by omega) (s_o_se_sum (d := d) _ _ _ _ h1)) ?_
  show RR KO _ 806 160 [(0, .ref 5), (1, .ref v1), (2, .int v2), (3, .int v3), (4, .int v4), (5, .int v5), (6, .int v6), (7, .int v7), (8, .int v8), (9, .int v9), (10, .int v10)] [.int r1, .int v5] S2 _ _
  refine RR.runs (pc' := 163) (lc' := [(11, .int (v5 + r1)), (0, .ref 5), (1, .ref v1), (2, .int v2), (3, .int v3), (4, .int v4), (5, .int v5), (6, .int v6), (7, .int v7), (8, .int v8), (9, .int v9), (10, .int v10)]) (st' := []) (S1 := S2) (nL := 12) (cd := cd_806) mx_806 rfl rfl 2 rfl ?_
  obtain ⟨x3, ex3, h⟩ := ltE h
  rw [← ex3]
  refine RR.runs (pc' := icm .ne v2 0 188 178) (lc' := [(11, .int x3), (0, .ref 5), (1, .ref v1), (2, .int v2), (3, .int v3), (4, .int v4), (5, .int v5), (6, .int v6), (7, .int v7), (8, .int v8), (9, .int v9), (10, .int v10)]) (st' := [.int x3, .int v10, .int v9, .int ((v2 + (1 : Int32))), .ref v1, .ref 5]) (S1 := S2) (nL := 12) (cd := cd_806) mx_806 rfl rfl 10 rfl ?_
  rcases ifE h with ⟨c, h⟩ | ⟨c, h⟩
  · refine RR.c_ne (fun _ => ?_) (fun q => absurd c q)
    refine RR.runs (pc' := 184) (lc' := [(11, .int x3), (0, .ref 5), (1, .ref v1), (2, .int v2), (3, .int v3), (4, .int v4), (5, .int v5), (6, .int v6), (7, .int v7), (8, .int v8), (9, .int v9), (10, .int v10)]) (st' := [.int v7, .ref 8, .int x3, .int v10, .int v9, .int ((v2 + (1 : Int32))), .ref v1, .ref 5]) (S1 := S2) (nL := 12) (cd := cd_806) mx_806 rfl rfl 3 rfl ?_
    obtain ⟨g, h⟩ := gnE h
    refine RR.gPN (c2 := (KO.1 8).1 = 1) (pc' := 185) (lc' := [(11, .int x3), (0, .ref 5), (1, .ref v1), (2, .int v2), (3, .int v3), (4, .int v4), (5, .int v5), (6, .int v6), (7, .int v7), (8, .int v8), (9, .int v9), (10, .int v10)]) (st' := [.int (rI S2 8 v7.toNatClampNeg), .int x3, .int v10, .int v9, .int ((v2 + (1 : Int32))), .ref v1, .ref 5]) (S1 := S2) (nL := 12) (cd := cd_806) mx_806 rfl rfl rfl rfl g ?_
    refine RR.runs (pc' := 190) (lc' := [(11, .int x3), (0, .ref 5), (1, .ref v1), (2, .int v2), (3, .int v3), (4, .int v4), (5, .int v5), (6, .int v6), (7, .int v7), (8, .int v8), (9, .int v9), (10, .int v10)]) (st' := [.int (rI S2 8 v7.toNatClampNeg), .int x3, .int v10, .int v9, .int ((v2 + (1 : Int32))), .ref v1, .ref 5]) (S1 := S2) (nL := 12) (cd := cd_806) mx_806 rfl rfl 1 rfl ?_
    refine RR.weak [(0, .ref 5), (1, .ref v1), (2, .int v2), (3, .int v3), (4, .int v4), (5, .int v5), (6, .int v6), (7, .int v7)] ⟨rfl, rfl, rfl, rfl, rfl, rfl, rfl, rfl, trivial⟩ ?_
    exact s_o_se_explore_190 _ _ hrec b73 _ _ _ _ _ _ _ _ _ _ _ _ _ _ h
  · refine RR.c_ne (fun q => absurd q c) (fun _ => ?_)
    refine RR.runs (pc' := 190) (lc' := [(11, .int x3), (0, .ref 5), (1, .ref v1), (2, .int v2), (3, .int v3), (4, .int v4), (5, .int v5), (6, .int v6), (7, .int v7), (8, .int v8), (9, .int v9), (10, .int v10)]) (st' := [.int v6, .int x3, .int v10, .int v9, .int ((v2 + (1 : Int32))), .ref v1, .ref 5]) (S1 := S2) (nL := 12) (cd := cd_806) mx_806 rfl rfl 1 rfl ?_
    refine RR.weak [(0, .ref 5), (1, .ref v1), (2, .int v2), (3, .int v3), (4, .int v4), (5, .int v5), (6, .int v6), (7, .int v7)] ⟨rfl, rfl, rfl, rfl, rfl, rfl, rfl, rfl, trivial⟩ ?_
    exact s_o_se_explore_190 _ _ hrec b73 _ _ _ _ _ _ _ _ _ _ _ _ _ _ h
def o_se_explore_199 (rec : Nat → Int32 → Int32 → Int32 → Int32 → Int32 → St → Re Unit) (S : St) : Re Unit :=
  some ((), S)
set_option maxRecDepth 100000 in
theorem s_o_se_explore_199 {d : Nat} (rec : Nat → Int32 → Int32 → Int32 → Int32 → Int32 → St → Re Unit) {S' : St} {r : Unit} (hrec : ∀ (v1 : Nat) (v2 : Int32) (v3 : Int32) (v4 : Int32) (v5 : Int32) (v6 : Int32) (S : St) (r : Unit) (S' : St), rec v1 v2 v3 v4 v5 v6 S = some (r, S') → RC KO (d + 0) 806 [.ref 5, .ref v1, .int v2, .int v3, .int v4, .int v5, .int v6] S none S') (S : St) (h : o_se_explore_199 rec S = some (r, S')) : RR KO (d + 1) 806 199 [] [] S none S' := by
  unfold o_se_explore_199 at h
  cases h
  exact RR.retv mx_806 rfl rfl rfl
def o_se_explore_73 (rec : Nat → Int32 → Int32 → Int32 → Int32 → Int32 → St → Re Unit) : Nat → Nat → Int32 → Int32 → Int32 → Int32 → Int32 → Int32 → St → Re Unit
  | 0, _, _, _, _, _, _, _, _ => none
  | n + 1, v1, v2, v3, v4, v5, v6, v7, S =>
  if v7 < (rI S 5 9) then (
    if v7 < (80 : Int32) then (
      if v7 < 0 ∨ 80 ≤ v7.toNatClampNeg then none else
      if v7 < 0 ∨ 80 ≤ v7.toNatClampNeg then none else
      if KO.1 v1 = (0, 10) then (
bn (o_to_felled v1 v3 v4 (rI S 6 v7.toNatClampNeg) (rI S 7 v7.toNatClampNeg) S) fun r2 S3 =>
      lt' ((v3 &&& (r2 ^^^ (-1 : Int32))) : Int32) fun x4 =>
      if v7 < 0 ∨ 80 ≤ v7.toNatClampNeg then none else
      lt' (((v4 ||| (rI S3 7 v7.toNatClampNeg)) &&& x4) : Int32) fun x5 =>
      if x4 = v3 then (
        if x5 = v4 then (
          o_se_explore_193 rec (o_se_explore_73 rec n) v1 v2 v3 v4 v5 v6 v7 S3)
        else (
          o_se_explore_148 rec (o_se_explore_73 rec n) v1 v2 v3 v4 v5 v6 v7 r2 x4 x5 S3))
      else (
        o_se_explore_148 rec (o_se_explore_73 rec n) v1 v2 v3 v4 v5 v6 v7 r2 x4 x5 S3)) else none)
    else (
      o_se_explore_199 rec S))
  else (
    o_se_explore_199 rec S)
set_option maxRecDepth 100000 in
theorem s_o_se_explore_73 {d : Nat} (rec : Nat → Int32 → Int32 → Int32 → Int32 → Int32 → St → Re Unit) {S' : St} {r : Unit} (hrec : ∀ (v1 : Nat) (v2 : Int32) (v3 : Int32) (v4 : Int32) (v5 : Int32) (v6 : Int32) (S : St) (r : Unit) (S' : St), rec v1 v2 v3 v4 v5 v6 S = some (r, S') → RC KO (d + 0) 806 [.ref 5, .ref v1, .int v2, .int v3, .int v4, .int v5, .int v6] S none S') : ∀ (n : Nat) (v1 : Nat) (v2 : Int32) (v3 : Int32) (v4 : Int32) (v5 : Int32) (v6 : Int32) (v7 : Int32) (S : St), o_se_explore_73 rec n v1 v2 v3 v4 v5 v6 v7 S = some (r, S') → RR KO (d + 1) 806 73 [(0, .ref 5), (1, .ref v1), (2, .int v2), (3, .int v3), (4, .int v4), (5, .int v5), (6, .int v6), (7, .int v7)] [] S none S' := by
  intro n
  induction n with
  | zero => intro v1 v2 v3 v4 v5 v6 v7 S h; simp only [o_se_explore_73] at h; cases h
  | succ n ih =>
    intro v1 v2 v3 v4 v5 v6 v7 S h
    simp only [o_se_explore_73] at h
    refine RR.runs (pc' := icm .ge v7 (rI S 5 9) 199 82) (lc' := [(0, .ref 5), (1, .ref v1), (2, .int v2), (3, .int v3), (4, .int v4), (5, .int v5), (6, .int v6), (7, .int v7)]) (st' := []) (S1 := S) (nL := 12) (cd := cd_806) mx_806 rfl rfl 4 rfl ?_
    rcases ifE h with ⟨c, h⟩ | ⟨c, h⟩
    · refine RR.c_ge (fun _ => ?_) (fun q => absurd c q)
      refine RR.runs (pc' := icm .ge v7 (80 : Int32) 199 89) (lc' := [(0, .ref 5), (1, .ref v1), (2, .int v2), (3, .int v3), (4, .int v4), (5, .int v5), (6, .int v6), (7, .int v7)]) (st' := []) (S1 := S) (nL := 12) (cd := cd_806) mx_806 rfl rfl 3 rfl ?_
      rcases ifE h with ⟨c, h⟩ | ⟨c, h⟩
      · refine RR.c_ge (fun _ => ?_) (fun q => absurd c q)
        refine RR.runs (pc' := 99) (lc' := [(0, .ref 5), (1, .ref v1), (2, .int v2), (3, .int v3), (4, .int v4), (5, .int v5), (6, .int v6), (7, .int v7)]) (st' := [.int v7, .ref 6, .int v4, .int v3, .ref v1]) (S1 := S) (nL := 12) (cd := cd_806) mx_806 rfl rfl 6 rfl ?_
        obtain ⟨g, h⟩ := gnE h
        refine RR.gPN (c2 := (KO.1 6).1 = 1) (pc' := 100) (lc' := [(0, .ref 5), (1, .ref v1), (2, .int v2), (3, .int v3), (4, .int v4), (5, .int v5), (6, .int v6), (7, .int v7)]) (st' := [.int (rI S 6 v7.toNatClampNeg), .int v4, .int v3, .ref v1]) (S1 := S) (nL := 12) (cd := cd_806) mx_806 rfl rfl rfl rfl g ?_
        refine RR.runs (pc' := 106) (lc' := [(0, .ref 5), (1, .ref v1), (2, .int v2), (3, .int v3), (4, .int v4), (5, .int v5), (6, .int v6), (7, .int v7)]) (st' := [.int v7, .ref 7, .int (rI S 6 v7.toNatClampNeg), .int v4, .int v3, .ref v1]) (S1 := S) (nL := 12) (cd := cd_806) mx_806 rfl rfl 3 rfl ?_
        obtain ⟨g, h⟩ := gnE h
        refine RR.gPN (c2 := (KO.1 7).1 = 1) (pc' := 107) (lc' := [(0, .ref 5), (1, .ref v1), (2, .int v2), (3, .int v3), (4, .int v4), (5, .int v5), (6, .int v6), (7, .int v7)]) (st' := [.int (rI S 7 v7.toNatClampNeg), .int (rI S 6 v7.toNatClampNeg), .int v4, .int v3, .ref v1]) (S1 := S) (nL := 12) (cd := cd_806) mx_806 rfl rfl rfl rfl g ?_
        obtain ⟨g1, h⟩ := gpE h
        obtain ⟨r2, S3, h1, h⟩ := bnE h
        refine RR.callV (b := v1) (as := [.int v3, .int v4, .int (rI S 6 v7.toNatClampNeg), .int (rI S 7 v7.toNatClampNeg)]) (rest := []) (r1 := (some (.int r2))) (S1 := S3) mx_806 rfl rfl mx_2019 rfl rfl (by decide) (Or.inl g1) (Nat.le_of_ble_eq_true rfl) (Nat.le_of_ble_eq_true rfl) (RC.deep (by omega) (s_o_to_felled (d := d) _ _ _ _ _ _ h1)) ?_
        show RR KO _ 806 110 [(0, .ref 5), (1, .ref v1), (2, .int v2), (3, .int v3), (4, .int v4), (5, .int v5), (6, .int v6), (7, .int v7)] [.int r2] S3 _ _
        refine RR.runs (pc' := 120) (lc' := [(9, .int ((v3 &&& (r2 ^^^ (-1 : Int32))))), (8, .int r2), (0, .ref 5), (1, .ref v1), (2, .int v2), (3, .int v3), (4, .int v4), (5, .int v5), (6, .int v6), (7, .int v7)]) (st' := []) (S1 := S3) (nL := 12) (cd := cd_806) mx_806 rfl rfl 7 rfl ?_
        obtain ⟨x4, ex4, h⟩ := ltE h
        rw [← ex4]
        refine RR.runs (pc' := 128) (lc' := [(9, .int x4), (8, .int r2), (0, .ref 5), (1, .ref v1), (2, .int v2), (3, .int v3), (4, .int v4), (5, .int v5), (6, .int v6), (7, .int v7)]) (st' := [.int v7, .ref 7, .int v4]) (S1 := S3) (nL := 12) (cd := cd_806) mx_806 rfl rfl 4 rfl ?_
        obtain ⟨g, h⟩ := gnE h
        refine RR.gPN (c2 := (KO.1 7).1 = 1) (pc' := 129) (lc' := [(9, .int x4), (8, .int r2), (0, .ref 5), (1, .ref v1), (2, .int v2), (3, .int v3), (4, .int v4), (5, .int v5), (6, .int v6), (7, .int v7)]) (st' := [.int (rI S3 7 v7.toNatClampNeg), .int v4]) (S1 := S3) (nL := 12) (cd := cd_806) mx_806 rfl rfl rfl rfl g ?_
        refine RR.runs (pc' := 135) (lc' := [(10, .int (((v4 ||| (rI S3 7 v7.toNatClampNeg)) &&& x4))), (9, .int x4), (8, .int r2), (0, .ref 5), (1, .ref v1), (2, .int v2), (3, .int v3), (4, .int v4), (5, .int v5), (6, .int v6), (7, .int v7)]) (st' := []) (S1 := S3) (nL := 12) (cd := cd_806) mx_806 rfl rfl 4 rfl ?_
        obtain ⟨x5, ex5, h⟩ := ltE h
        rw [← ex5]
        refine RR.runs (pc' := icm .ne x4 v3 148 141) (lc' := [(10, .int x5), (9, .int x4), (8, .int r2), (0, .ref 5), (1, .ref v1), (2, .int v2), (3, .int v3), (4, .int v4), (5, .int v5), (6, .int v6), (7, .int v7)]) (st' := []) (S1 := S3) (nL := 12) (cd := cd_806) mx_806 rfl rfl 3 rfl ?_
        rcases ifE h with ⟨c, h⟩ | ⟨c, h⟩
        · refine RR.c_ne (fun _ => ?_) (fun q => absurd c q)
          refine RR.runs (pc' := icm .eq x5 v4 193 148) (lc' := [(10, .int x5), (9, .int x4), (8, .int r2), (0, .ref 5), (1, .ref v1), (2, .int v2), (3, .int v3), (4, .int v4), (5, .int v5), (6, .int v6), (7, .int v7)]) (st' := []) (S1 := S3) (nL := 12) (cd := cd_806) mx_806 rfl rfl 3 rfl ?_
          rcases ifE h with ⟨c, h⟩ | ⟨c, h⟩
          · refine RR.c_eq (fun _ => ?_) (fun q => absurd c q)
            refine RR.weak [(0, .ref 5), (1, .ref v1), (2, .int v2), (3, .int v3), (4, .int v4), (5, .int v5), (6, .int v6), (7, .int v7)] ⟨rfl, rfl, rfl, rfl, rfl, rfl, rfl, rfl, trivial⟩ ?_
            exact s_o_se_explore_193 _ _ hrec (fun _ _ _ _ _ _ _ S h => ih _ _ _ _ _ _ _ S h) _ _ _ _ _ _ _ _ h
          · refine RR.c_eq (fun q => absurd q c) (fun _ => ?_)
            refine RR.weak [(0, .ref 5), (1, .ref v1), (2, .int v2), (3, .int v3), (4, .int v4), (5, .int v5), (6, .int v6), (7, .int v7), (8, .int r2), (9, .int x4), (10, .int x5)] ⟨rfl, rfl, rfl, rfl, rfl, rfl, rfl, rfl, rfl, rfl, rfl, trivial⟩ ?_
            exact s_o_se_explore_148 _ _ hrec (fun _ _ _ _ _ _ _ S h => ih _ _ _ _ _ _ _ S h) _ _ _ _ _ _ _ _ _ _ _ h
        · refine RR.c_ne (fun q => absurd q c) (fun _ => ?_)
          refine RR.weak [(0, .ref 5), (1, .ref v1), (2, .int v2), (3, .int v3), (4, .int v4), (5, .int v5), (6, .int v6), (7, .int v7), (8, .int r2), (9, .int x4), (10, .int x5)] ⟨rfl, rfl, rfl, rfl, rfl, rfl, rfl, rfl, rfl, rfl, rfl, trivial⟩ ?_
          exact s_o_se_explore_148 _ _ hrec (fun _ _ _ _ _ _ _ S h => ih _ _ _ _ _ _ _ S h) _ _ _ _ _ _ _ _ _ _ _ h
      · refine RR.c_ge (fun q => absurd q c) (fun _ => ?_)
        refine RR.weak [] trivial ?_
        exact s_o_se_explore_199 _ hrec _ h
    · refine RR.c_ge (fun q => absurd q c) (fun _ => ?_)
      refine RR.weak [] trivial ?_
      exact s_o_se_explore_199 _ hrec _ h
def o_se_explore_34 (rec : Nat → Int32 → Int32 → Int32 → Int32 → Int32 → St → Re Unit) (S : St) : Re Unit :=
  some ((), S)
set_option maxRecDepth 100000 in
theorem s_o_se_explore_34 {d : Nat} (rec : Nat → Int32 → Int32 → Int32 → Int32 → Int32 → St → Re Unit) {S' : St} {r : Unit} (hrec : ∀ (v1 : Nat) (v2 : Int32) (v3 : Int32) (v4 : Int32) (v5 : Int32) (v6 : Int32) (S : St) (r : Unit) (S' : St), rec v1 v2 v3 v4 v5 v6 S = some (r, S') → RC KO (d + 0) 806 [.ref 5, .ref v1, .int v2, .int v3, .int v4, .int v5, .int v6] S none S') (S : St) (h : o_se_explore_34 rec S = some (r, S')) : RR KO (d + 1) 806 34 [] [] S none S' := by
  unfold o_se_explore_34 at h
  cases h
  exact RR.retv mx_806 rfl rfl rfl
def o_se_explore_13 (rec : Nat → Int32 → Int32 → Int32 → Int32 → Int32 → St → Re Unit) (v5 : Int32) (v6 : Int32) (S : St) : Re Unit :=
  if (rI S 5 11) < v5 then (
    lt' (wI S 5 11 v5) fun S1 =>
    lt' (wI S1 5 12 v6) fun S2 =>
    o_se_explore_34 rec S2)
  else (
    o_se_explore_34 rec S)
set_option maxRecDepth 100000 in
theorem s_o_se_explore_13 {d : Nat} (rec : Nat → Int32 → Int32 → Int32 → Int32 → Int32 → St → Re Unit) {S' : St} {r : Unit} (hrec : ∀ (v1 : Nat) (v2 : Int32) (v3 : Int32) (v4 : Int32) (v5 : Int32) (v6 : Int32) (S : St) (r : Unit) (S' : St), rec v1 v2 v3 v4 v5 v6 S = some (r, S') → RC KO (d + 0) 806 [.ref 5, .ref v1, .int v2, .int v3, .int v4, .int v5, .int v6] S none S') (v5 : Int32) (v6 : Int32) (S : St) (h : o_se_explore_13 rec v5 v6 S = some (r, S')) : RR KO (d + 1) 806 13 [(0, .ref 5), (5, .int v5), (6, .int v6)] [] S none S' := by
  unfold o_se_explore_13 at h
  refine RR.runs (pc' := icm .le v5 (rI S 5 11) 34 22) (lc' := [(0, .ref 5), (5, .int v5), (6, .int v6)]) (st' := []) (S1 := S) (nL := 12) (cd := cd_806) mx_806 rfl rfl 4 rfl ?_
  rcases ifE h with ⟨c, h⟩ | ⟨c, h⟩
  · refine RR.c_le (fun _ => ?_) (fun q => absurd c q)
    refine RR.runs (pc' := 28) (lc' := [(0, .ref 5), (5, .int v5), (6, .int v6)]) (st' := []) (S1 := (wI S 5 11 v5)) (nL := 12) (cd := cd_806) mx_806 rfl rfl 3 rfl ?_
    obtain ⟨S1, eS1, h⟩ := ltE h
    rw [← eS1]
    refine RR.runs (pc' := 34) (lc' := [(0, .ref 5), (5, .int v5), (6, .int v6)]) (st' := []) (S1 := (wI S1 5 12 v6)) (nL := 12) (cd := cd_806) mx_806 rfl rfl 3 rfl ?_
    obtain ⟨S2, eS2, h⟩ := ltE h
    rw [← eS2]
    refine RR.weak [] trivial ?_
    exact s_o_se_explore_34 _ hrec _ h
  · refine RR.c_le (fun q => absurd q c) (fun _ => ?_)
    refine RR.weak [] trivial ?_
    exact s_o_se_explore_34 _ hrec _ h
def o_se_explore_b (rec : Nat → Int32 → Int32 → Int32 → Int32 → Int32 → St → Re Unit) (v1 : Nat) (v2 : Int32) (v3 : Int32) (v4 : Int32) (v5 : Int32) (v6 : Int32) (S : St) : Re Unit :=
  if v2 < (rI S 5 10) then (
    if v2 < (3 : Int32) then (
      bn (o_se_sum 10 v2 v3 S) fun r1 S2 =>
      if (rI S2 5 11) < (v5 + r1) then (
        bn (rec v1 ((v2 + (1 : Int32))) v3 v4 v5 v6 S2) fun r3 S4 =>
        o_se_explore_73 rec FU v1 v2 v3 v4 v5 v6 (0 : Int32) S4)
      else (
        some ((), S2)))
    else (
      o_se_explore_13 rec v5 v6 S))
  else (
    o_se_explore_13 rec v5 v6 S)
set_option maxRecDepth 100000 in
theorem s0_o_se_explore {d : Nat} (rec : Nat → Int32 → Int32 → Int32 → Int32 → Int32 → St → Re Unit) {S' : St} {r : Unit} (hrec : ∀ (v1 : Nat) (v2 : Int32) (v3 : Int32) (v4 : Int32) (v5 : Int32) (v6 : Int32) (S : St) (r : Unit) (S' : St), rec v1 v2 v3 v4 v5 v6 S = some (r, S') → RC KO (d + 0) 806 [.ref 5, .ref v1, .int v2, .int v3, .int v4, .int v5, .int v6] S none S') (v1 : Nat) (v2 : Int32) (v3 : Int32) (v4 : Int32) (v5 : Int32) (v6 : Int32) (S : St) (h : o_se_explore_b rec v1 v2 v3 v4 v5 v6 S = some (r, S')) : RR KO (d + 1) 806 0 [(0, .ref 5), (1, .ref v1), (2, .int v2), (3, .int v3), (4, .int v4), (5, .int v5), (6, .int v6)] [] S none S' := by
  unfold o_se_explore_b at h
  refine RR.runs (pc' := icm .ge v2 (rI S 5 10) 13 8) (lc' := [(0, .ref 5), (1, .ref v1), (2, .int v2), (3, .int v3), (4, .int v4), (5, .int v5), (6, .int v6)]) (st' := []) (S1 := S) (nL := 12) (cd := cd_806) mx_806 rfl rfl 4 rfl ?_
  rcases ifE h with ⟨c, h⟩ | ⟨c, h⟩
  · refine RR.c_ge (fun _ => ?_) (fun q => absurd c q)
    refine RR.runs (pc' := icm .lt v2 (3 : Int32) 35 13) (lc' := [(0, .ref 5), (1, .ref v1), (2, .int v2), (3, .int v3), (4, .int v4), (5, .int v5), (6, .int v6)]) (st' := []) (S1 := S) (nL := 12) (cd := cd_806) mx_806 rfl rfl 3 rfl ?_
    rcases ifE h with ⟨c, h⟩ | ⟨c, h⟩
    · refine RR.c_lt (fun _ => ?_) (fun q => absurd c q)
      refine RR.runs (pc' := 43) (lc' := [(0, .ref 5), (1, .ref v1), (2, .int v2), (3, .int v3), (4, .int v4), (5, .int v5), (6, .int v6)]) (st' := [.int v3, .int v2, .ref 10, .int v5]) (S1 := S) (nL := 12) (cd := cd_806) mx_806 rfl rfl 5 rfl ?_
      obtain ⟨r1, S2, h1, h⟩ := bnE h
      refine RR.callS (as := [.ref 10, .int v2, .int v3]) (rest := [.int v5]) (r1 := (some (.int r1))) (S1 := S2) mx_806 rfl rfl mx_805 rfl rfl (by decide) (Nat.le_of_ble_eq_true rfl) (Nat.le_of_ble_eq_true rfl) (Nat.le_of_ble_eq_true rfl) (RC.deep (by omega) (s_o_se_sum (d := d) _ _ _ _ h1)) ?_
      show RR KO _ 806 46 [(0, .ref 5), (1, .ref v1), (2, .int v2), (3, .int v3), (4, .int v4), (5, .int v5), (6, .int v6)] [.int r1, .int v5] S2 _ _
      refine RR.runs (pc' := icm .gt (v5 + r1) (rI S2 5 11) 55 54) (lc' := [(0, .ref 5), (1, .ref v1), (2, .int v2), (3, .int v3), (4, .int v4), (5, .int v5), (6, .int v6)]) (st' := []) (S1 := S2) (nL := 12) (cd := cd_806) mx_806 rfl rfl 4 rfl ?_
      rcases ifE h with ⟨c, h⟩ | ⟨c, h⟩
      · refine RR.c_gt (fun _ => ?_) (fun q => absurd c q)
        refine RR.runs (pc' := 67) (lc' := [(0, .ref 5), (1, .ref v1), (2, .int v2), (3, .int v3), (4, .int v4), (5, .int v5), (6, .int v6)]) (st' := [.int v6, .int v5, .int v4, .int v3, .int ((v2 + (1 : Int32))), .ref v1, .ref 5]) (S1 := S2) (nL := 12) (cd := cd_806) mx_806 rfl rfl 9 rfl ?_
        obtain ⟨r3, S4, h1, h⟩ := bnE h
        refine RR.callV (b := 5) (as := [.ref v1, .int ((v2 + (1 : Int32))), .int v3, .int v4, .int v5, .int v6]) (rest := []) (r1 := none) (S1 := S4) mx_806 rfl rfl mx_806 rfl rfl (by decide) (Or.inl rfl) (Nat.le_of_ble_eq_true rfl) (Nat.le_of_ble_eq_true rfl) (hrec _ _ _ _ _ _ _ _ _ h1) ?_
        show RR KO _ 806 70 [(0, .ref 5), (1, .ref v1), (2, .int v2), (3, .int v3), (4, .int v4), (5, .int v5), (6, .int v6)] [] S4 _ _
        refine RR.runs (pc' := 73) (lc' := [(7, .int (0 : Int32)), (0, .ref 5), (1, .ref v1), (2, .int v2), (3, .int v3), (4, .int v4), (5, .int v5), (6, .int v6)]) (st' := []) (S1 := S4) (nL := 12) (cd := cd_806) mx_806 rfl rfl 2 rfl ?_
        refine RR.weak [(0, .ref 5), (1, .ref v1), (2, .int v2), (3, .int v3), (4, .int v4), (5, .int v5), (6, .int v6), (7, .int (0 : Int32))] ⟨rfl, rfl, rfl, rfl, rfl, rfl, rfl, rfl, trivial⟩ ?_
        exact s_o_se_explore_73 _ hrec _ _ _ _ _ _ _ _ _ h
      · refine RR.c_gt (fun q => absurd q c) (fun _ => ?_)
        cases h
        exact RR.retv mx_806 rfl rfl rfl
    · refine RR.c_lt (fun q => absurd q c) (fun _ => ?_)
      refine RR.weak [(0, .ref 5), (5, .int v5), (6, .int v6)] ⟨rfl, rfl, rfl, trivial⟩ ?_
      exact s_o_se_explore_13 _ hrec _ _ _ h
  · refine RR.c_ge (fun q => absurd q c) (fun _ => ?_)
    refine RR.weak [(0, .ref 5), (5, .int v5), (6, .int v6)] ⟨rfl, rfl, rfl, trivial⟩ ?_
    exact s_o_se_explore_13 _ hrec _ _ _ h
def o_se_explore : Nat → Nat → Int32 → Int32 → Int32 → Int32 → Int32 → St → Re Unit
  | 0, _, _, _, _, _, _, _ => none
  | n + 1, v1, v2, v3, v4, v5, v6, S => o_se_explore_b (o_se_explore n) v1 v2 v3 v4 v5 v6 S
theorem sn_o_se_explore : ∀ (n : Nat) {d : Nat} (v1 : Nat) (v2 : Int32) (v3 : Int32) (v4 : Int32) (v5 : Int32) (v6 : Int32) (S : St) (r : Unit) (S' : St), o_se_explore n v1 v2 v3 v4 v5 v6 S = some (r, S') → RC KO (d + n + 0) 806 [.ref 5, .ref v1, .int v2, .int v3, .int v4, .int v5, .int v6] S none S' := by
  intro n
  induction n with
  | zero => intro d v1 v2 v3 v4 v5 v6 S r S' h; simp only [o_se_explore] at h; cases h
  | succ n ih =>
    intro d v1 v2 v3 v4 v5 v6 S r S' h
    simp only [o_se_explore] at h
    have h9 : RR KO (d + n + 1) 806 0 [(0, .ref 5), (1, .ref v1), (2, .int v2), (3, .int v3), (4, .int v4), (5, .int v5), (6, .int v6)] [] S none S' := s0_o_se_explore (d := d + n) (o_se_explore n) (fun _ _ _ _ _ _ S r S' h => ih _ _ _ _ _ _ S r S' h) v1 v2 v3 v4 v5 v6 S h
    have e9 : d + (n + 1) + 0 = d + n + 1 := by omega
    rw [e9]
    exact RC.of rfl h9
theorem s_o_se_explore {d : Nat} {S' : St} {r : Unit} (v1 : Nat) (v2 : Int32) (v3 : Int32) (v4 : Int32) (v5 : Int32) (v6 : Int32) (S : St) (h : o_se_explore 8 v1 v2 v3 v4 v5 v6 S = some (r, S')) : RC KO (d + 8) 806 [.ref 5, .ref v1, .int v2, .int v3, .int v4, .int v5, .int v6] S none S' := sn_o_se_explore 8 (d := d) v1 v2 v3 v4 v5 v6 S r S' h
-- NameOrchard$Search harvest (LNameOrchard$Told;LNameOrchard$Standing;I)V
def o_se_harvest (v1 : Nat) (v2 : Nat) (v3 : Int32) (S : St) : Re Unit :=
  bn (o_se_gather v1 v2 S) fun r1 S2 =>
  bn (o_j_min (3 : Int32) v3 S2) fun r3 S4 =>
  bn (o_j_max (0 : Int32) r3 S4) fun r5 S6 =>
  lt' (wI S6 5 10 r5) fun S7 =>
  lt' (wI S7 5 11 (-1 : Int32)) fun S8 =>
  lt' (wI S8 5 12 (-1 : Int32)) fun S9 =>
  if KO.1 v2 = (0, 5) then (
  bn (o_se_appraise v1 (rI S9 v2 3) S9) fun r11 S12 =>
      bn (o_se_explore 8 v1 (0 : Int32) (rI S12 v2 1) (rI S12 v2 2) (0 : Int32) (-1 : Int32) S12) fun r13 S14 =>
  some ((), S14)) else none
set_option maxRecDepth 100000 in
theorem s0_o_se_harvest {d : Nat} {S' : St} {r : Unit} (v1 : Nat) (v2 : Nat) (v3 : Int32) (S : St) (h : o_se_harvest v1 v2 v3 S = some (r, S')) : RR KO (d + 9) 803 0 [(0, .ref 5), (1, .ref v1), (2, .ref v2), (3, .int v3)] [] S none S' := by
  unfold o_se_harvest at h
  refine RR.runs (pc' := 3) (lc' := [(0, .ref 5), (1, .ref v1), (2, .ref v2), (3, .int v3)]) (st' := [.ref v2, .ref v1, .ref 5]) (S1 := S) (nL := 4) (cd := cd_803) mx_803 rfl rfl 3 rfl ?_
  obtain ⟨r1, S2, h1, h⟩ := bnE h
  refine RR.callV (b := 5) (as := [.ref v1, .ref v2]) (rest := []) (r1 := none) (S1 := S2) mx_803 rfl rfl mx_801 rfl rfl (by decide) (Or.inl rfl) (Nat.le_of_ble_eq_true rfl) (Nat.le_of_ble_eq_true rfl) (RC.deep (by omega) (s_o_se_gather (d := d) _ _ _ h1)) ?_
  show RR KO _ 803 6 [(0, .ref 5), (1, .ref v1), (2, .ref v2), (3, .int v3)] [] S2 _ _
  refine RR.runs (pc' := 10) (lc' := [(0, .ref 5), (1, .ref v1), (2, .ref v2), (3, .int v3)]) (st' := [.int v3, .int (3 : Int32), .int (0 : Int32), .ref 5]) (S1 := S2) (nL := 4) (cd := cd_803) mx_803 rfl rfl 4 rfl ?_
  obtain ⟨r3, S4, h1, h⟩ := bnE h
  refine RR.callS (as := [.int (3 : Int32), .int v3]) (rest := [.int (0 : Int32), .ref 5]) (r1 := (some (.int r3))) (S1 := S4) mx_803 rfl rfl mx_2600 rfl rfl (by decide) (Nat.le_of_ble_eq_true rfl) (Nat.le_of_ble_eq_true rfl) (Nat.le_of_ble_eq_true rfl) (RC.deep (by omega) (s_o_j_min (d := d) _ _ _ h1)) ?_
  show RR KO _ 803 13 [(0, .ref 5), (1, .ref v1), (2, .ref v2), (3, .int v3)] [.int r3, .int (0 : Int32), .ref 5] S4 _ _
  obtain ⟨r5, S6, h1, h⟩ := bnE h
  refine RR.callS (as := [.int (0 : Int32), .int r3]) (rest := [.ref 5]) (r1 := (some (.int r5))) (S1 := S6) mx_803 rfl rfl mx_2601 rfl rfl (by decide) (Nat.le_of_ble_eq_true rfl) (Nat.le_of_ble_eq_true rfl) (Nat.le_of_ble_eq_true rfl) (RC.deep (by omega) (s_o_j_max (d := d) _ _ _ h1)) ?_
  show RR KO _ 803 16 [(0, .ref 5), (1, .ref v1), (2, .ref v2), (3, .int v3)] [.int r5, .ref 5] S6 _ _
  refine RR.runs (pc' := 19) (lc' := [(0, .ref 5), (1, .ref v1), (2, .ref v2), (3, .int v3)]) (st' := []) (S1 := (wI S6 5 10 r5)) (nL := 4) (cd := cd_803) mx_803 rfl rfl 1 rfl ?_
  obtain ⟨S7, eS7, h⟩ := ltE h
  rw [← eS7]
  refine RR.runs (pc' := 24) (lc' := [(0, .ref 5), (1, .ref v1), (2, .ref v2), (3, .int v3)]) (st' := []) (S1 := (wI S7 5 11 (-1 : Int32))) (nL := 4) (cd := cd_803) mx_803 rfl rfl 3 rfl ?_
  obtain ⟨S8, eS8, h⟩ := ltE h
  rw [← eS8]
  refine RR.runs (pc' := 29) (lc' := [(0, .ref 5), (1, .ref v1), (2, .ref v2), (3, .int v3)]) (st' := []) (S1 := (wI S8 5 12 (-1 : Int32))) (nL := 4) (cd := cd_803) mx_803 rfl rfl 3 rfl ?_
  obtain ⟨S9, eS9, h⟩ := ltE h
  rw [← eS9]
  refine RR.runs (pc' := 32) (lc' := [(0, .ref 5), (1, .ref v1), (2, .ref v2), (3, .int v3)]) (st' := [.ref v2, .ref v1, .ref 5]) (S1 := S9) (nL := 4) (cd := cd_803) mx_803 rfl rfl 3 rfl ?_
  obtain ⟨g10, h⟩ := gpE h
  refine RR.gPo (pc' := 35) (lc' := [(0, .ref 5), (1, .ref v1), (2, .ref v2), (3, .int v3)]) (st' := [.int (rI S9 v2 3), .ref v1, .ref 5]) (S1 := S9) (nL := 4) (cd := cd_803) mx_803 rfl rfl rfl ⟨g10, by decide, by decide⟩ ?_
  obtain ⟨r11, S12, h1, h⟩ := bnE h
  refine RR.callV (b := 5) (as := [.ref v1, .int (rI S9 v2 3)]) (rest := []) (r1 := none) (S1 := S12) mx_803 rfl rfl mx_804 rfl rfl (by decide) (Or.inl rfl) (Nat.le_of_ble_eq_true rfl) (Nat.le_of_ble_eq_true rfl) (RC.deep (by omega) (s_o_se_appraise (d := d) _ _ _ h1)) ?_
  show RR KO _ 803 38 [(0, .ref 5), (1, .ref v1), (2, .ref v2), (3, .int v3)] [] S12 _ _
  refine RR.runs (pc' := 42) (lc' := [(0, .ref 5), (1, .ref v1), (2, .ref v2), (3, .int v3)]) (st' := [.ref v2, .int (0 : Int32), .ref v1, .ref 5]) (S1 := S12) (nL := 4) (cd := cd_803) mx_803 rfl rfl 4 rfl ?_
  refine RR.gPo (pc' := 45) (lc' := [(0, .ref 5), (1, .ref v1), (2, .ref v2), (3, .int v3)]) (st' := [.int (rI S12 v2 1), .int (0 : Int32), .ref v1, .ref 5]) (S1 := S12) (nL := 4) (cd := cd_803) mx_803 rfl rfl rfl ⟨g10, by decide, by decide⟩ ?_
  refine RR.runs (pc' := 46) (lc' := [(0, .ref 5), (1, .ref v1), (2, .ref v2), (3, .int v3)]) (st' := [.ref v2, .int (rI S12 v2 1), .int (0 : Int32), .ref v1, .ref 5]) (S1 := S12) (nL := 4) (cd := cd_803) mx_803 rfl rfl 1 rfl ?_
  refine RR.gPo (pc' := 49) (lc' := [(0, .ref 5), (1, .ref v1), (2, .ref v2), (3, .int v3)]) (st' := [.int (rI S12 v2 2), .int (rI S12 v2 1), .int (0 : Int32), .ref v1, .ref 5]) (S1 := S12) (nL := 4) (cd := cd_803) mx_803 rfl rfl rfl ⟨g10, by decide, by decide⟩ ?_
  refine RR.runs (pc' := 51) (lc' := [(0, .ref 5), (1, .ref v1), (2, .ref v2), (3, .int v3)]) (st' := [.int (-1 : Int32), .int (0 : Int32), .int (rI S12 v2 2), .int (rI S12 v2 1), .int (0 : Int32), .ref v1, .ref 5]) (S1 := S12) (nL := 4) (cd := cd_803) mx_803 rfl rfl 2 rfl ?_
  obtain ⟨r13, S14, h1, h⟩ := bnE h
  refine RR.callV (b := 5) (as := [.ref v1, .int (0 : Int32), .int (rI S12 v2 1), .int (rI S12 v2 2), .int (0 : Int32), .int (-1 : Int32)]) (rest := []) (r1 := none) (S1 := S14) mx_803 rfl rfl mx_806 rfl rfl (by decide) (Or.inl rfl) (Nat.le_of_ble_eq_true rfl) (Nat.le_of_ble_eq_true rfl) (RC.deep (by omega) (s_o_se_explore (d := d) _ _ _ _ _ _ _ h1)) ?_
  show RR KO _ 803 54 [(0, .ref 5), (1, .ref v1), (2, .ref v2), (3, .int v3)] [] S14 _ _
  cases h
  exact RR.retv mx_803 rfl rfl rfl
theorem s_o_se_harvest {d : Nat} {S' : St} {r : Unit} (v1 : Nat) (v2 : Nat) (v3 : Int32) (S : St) (h : o_se_harvest v1 v2 v3 S = some (r, S')) : RC KO (d + 9) 803 [.ref 5, .ref v1, .ref v2, .int v3] S none S' := RC.of rfl (s0_o_se_harvest v1 v2 v3 S h)
-- NameOrchard crop (II)I
def o_crop_18 (S : St) : Re Int32 :=
  some ((-2 : Int32), S)
set_option maxRecDepth 100000 in
theorem s_o_crop_18 {d : Nat} {S' : St} {r : Int32} (S : St) (h : o_crop_18 S = some (r, S')) : RR KO (d + 10) 2214 18 [] [] S (some (.int r)) S' := by
  unfold o_crop_18 at h
  refine RR.runs (pc' := 20) (lc' := []) (st' := [.int (-2 : Int32)]) (S1 := S) (nL := 3) (cd := cd_2214) mx_2214 rfl rfl 1 rfl ?_
  cases h
  exact RR.reti mx_2214 rfl rfl rfl
def o_crop_61 (p0 : Int32) (S : St) : Re Int32 :=
  some (p0, S)
set_option maxRecDepth 100000 in
theorem s_o_crop_61 {d : Nat} {S' : St} {r : Int32} (p0 : Int32) (S : St) (h : o_crop_61 p0 S = some (r, S')) : RR KO (d + 10) 2214 61 [] [.int p0] S (some (.int r)) S' := by
  unfold o_crop_61 at h
  cases h
  exact RR.reti mx_2214 rfl rfl rfl
def o_crop (v1 : Int32) (v2 : Int32) (S : St) : Re Int32 :=
  if v1 < 0 then (
    o_crop_18 S)
  else (
    if (3 : Int32) < v1 then (
      o_crop_18 S)
    else (
      if v2 < 0 then (
        o_crop_18 S)
      else (
        if (1 : Int32) < v2 then (
          o_crop_18 S)
        else (
          oq (rQ S 1 9) none fun o1 =>
          bn (o_se_harvest o1 200 v1 S) fun r2 S3 =>
          if v2 = 0 then (
            o_crop_61 (rI S3 5 11) S3)
          else (
            o_crop_61 (rI S3 5 12) S3)))))
set_option maxRecDepth 100000 in
theorem s0_o_crop {d : Nat} {S' : St} {r : Int32} (v1 : Int32) (v2 : Int32) (S : St) (h : o_crop v1 v2 S = some (r, S')) : RR KO (d + 10) 2214 0 [(0, .ref 1), (1, .int v1), (2, .int v2)] [] S (some (.int r)) S' := by
  unfold o_crop at h
  refine RR.runs (pc' := icm .lt v1 0 18 4) (lc' := [(0, .ref 1), (1, .int v1), (2, .int v2)]) (st' := []) (S1 := S) (nL := 3) (cd := cd_2214) mx_2214 rfl rfl 2 rfl ?_
  rcases ifE h with ⟨c, h⟩ | ⟨c, h⟩
  · refine RR.c_lt (fun _ => ?_) (fun q => absurd c q)
    refine RR.weak [] trivial ?_
    exact s_o_crop_18 _ h
  · refine RR.c_lt (fun q => absurd q c) (fun _ => ?_)
    refine RR.runs (pc' := icm .gt v1 (3 : Int32) 18 9) (lc' := [(0, .ref 1), (1, .int v1), (2, .int v2)]) (st' := []) (S1 := S) (nL := 3) (cd := cd_2214) mx_2214 rfl rfl 3 rfl ?_
    rcases ifE h with ⟨c, h⟩ | ⟨c, h⟩
    · refine RR.c_gt (fun _ => ?_) (fun q => absurd c q)
      refine RR.weak [] trivial ?_
      exact s_o_crop_18 _ h
    · refine RR.c_gt (fun q => absurd q c) (fun _ => ?_)
      refine RR.runs (pc' := icm .lt v2 0 18 13) (lc' := [(0, .ref 1), (1, .int v1), (2, .int v2)]) (st' := []) (S1 := S) (nL := 3) (cd := cd_2214) mx_2214 rfl rfl 2 rfl ?_
      rcases ifE h with ⟨c, h⟩ | ⟨c, h⟩
      · refine RR.c_lt (fun _ => ?_) (fun q => absurd c q)
        refine RR.weak [] trivial ?_
        exact s_o_crop_18 _ h
      · refine RR.c_lt (fun q => absurd q c) (fun _ => ?_)
        refine RR.runs (pc' := icm .le v2 (1 : Int32) 21 18) (lc' := [(0, .ref 1), (1, .int v1), (2, .int v2)]) (st' := []) (S1 := S) (nL := 3) (cd := cd_2214) mx_2214 rfl rfl 3 rfl ?_
        rcases ifE h with ⟨c, h⟩ | ⟨c, h⟩
        · refine RR.c_le (fun _ => ?_) (fun q => absurd c q)
          refine RR.weak [] trivial ?_
          exact s_o_crop_18 _ h
        · refine RR.c_le (fun q => absurd q c) (fun _ => ?_)
          refine RR.runs (pc' := 29) (lc' := [(0, .ref 1), (1, .int v1), (2, .int v2)]) (st' := [qv (rQ S 1 9), .ref 5]) (S1 := S) (nL := 3) (cd := cd_2214) mx_2214 rfl rfl 4 rfl ?_
          rcases oqE h with ⟨e1, h⟩ | ⟨o1, eo1, h⟩
          · cases h
          rw [eo1]
          refine RR.runs (pc' := 37) (lc' := [(0, .ref 1), (1, .int v1), (2, .int v2)]) (st' := [.int v1, .ref 200, .ref o1, .ref 5]) (S1 := S) (nL := 3) (cd := cd_2214) mx_2214 rfl rfl 4 rfl ?_
          obtain ⟨r2, S3, h1, h⟩ := bnE h
          refine RR.callV (b := 5) (as := [.ref o1, .ref 200, .int v1]) (rest := []) (r1 := none) (S1 := S3) mx_2214 rfl rfl mx_803 rfl rfl (by decide) (Or.inl rfl) (Nat.le_of_ble_eq_true rfl) (Nat.le_of_ble_eq_true rfl) (RC.deep (by omega) (s_o_se_harvest (d := d) _ _ _ _ h1)) ?_
          show RR KO _ 2214 40 [(0, .ref 1), (1, .int v1), (2, .int v2)] [] S3 _ _
          refine RR.runs (pc' := icm .ne v2 0 54 44) (lc' := [(0, .ref 1), (1, .int v1), (2, .int v2)]) (st' := []) (S1 := S3) (nL := 3) (cd := cd_2214) mx_2214 rfl rfl 2 rfl ?_
          rcases ifE h with ⟨c, h⟩ | ⟨c, h⟩
          · refine RR.c_ne (fun _ => ?_) (fun q => absurd c q)
            refine RR.runs (pc' := 61) (lc' := [(0, .ref 1), (1, .int v1), (2, .int v2)]) (st' := [.int (rI S3 5 11)]) (S1 := S3) (nL := 3) (cd := cd_2214) mx_2214 rfl rfl 4 rfl ?_
            refine RR.weak [] trivial ?_
            exact s_o_crop_61 _ _ h
          · refine RR.c_ne (fun q => absurd q c) (fun _ => ?_)
            refine RR.runs (pc' := 61) (lc' := [(0, .ref 1), (1, .int v1), (2, .int v2)]) (st' := [.int (rI S3 5 12)]) (S1 := S3) (nL := 3) (cd := cd_2214) mx_2214 rfl rfl 3 rfl ?_
            refine RR.weak [] trivial ?_
            exact s_o_crop_61 _ _ h
theorem s_o_crop {d : Nat} {S' : St} {r : Int32} (v1 : Int32) (v2 : Int32) (S : St) (h : o_crop v1 v2 S = some (r, S')) : RC KO (d + 10) 2214 [.ref 1, .int v1, .int v2] S (some (.int r)) S' := RC.of rfl (s0_o_crop v1 v2 S h)
