/-! Methods of the reference, lifted (laid by wip/whole/gen/model.py) -/
-- lossOf (I)I
def m_lossOf_131 (k4 : Int32 → Int32 → Int32 → St → Re Int32) (v1 : Int32) (v2 : Int32) (v3 : Int32) (S : St) : Re Int32 :=
  lt' ((v3 + (1 : Int32)) : Int32) fun x1 =>
  k4 v1 v2 x1 S
set_option maxRecDepth 100000 in
theorem s_m_lossOf_131 {d : Nat} (k4 : Int32 → Int32 → Int32 → St → Re Int32) {S' : St} {r : Int32} (b4 : ∀ (v1 : Int32) (v2 : Int32) (v3 : Int32) (S : St), k4 v1 v2 v3 S = some (r, S') → RR KM (d + 1) 2495 4 [(0, .ref 500), (1, .int v1), (2, .int v2), (3, .int v3)] [] S (some (.int r)) S') (v1 : Int32) (v2 : Int32) (v3 : Int32) (S : St) (h : m_lossOf_131 k4 v1 v2 v3 S = some (r, S')) : RR KM (d + 1) 2495 131 [(0, .ref 500), (1, .int v1), (2, .int v2), (3, .int v3)] [] S (some (.int r)) S' := by
  unfold m_lossOf_131 at h
  refine RR.runs (pc' := 134) (lc' := [(3, .int ((v3 + (1 : Int32)))), (0, .ref 500), (1, .int v1), (2, .int v2)]) (st' := []) (S1 := S) (nL := 7) (cd := cd_2495) mx_2495 rfl rfl 1 rfl ?_
  obtain ⟨x1, ex1, h⟩ := ltE h
  rw [← ex1]
  refine RR.runs (pc' := 4) (lc' := [(3, .int x1), (0, .ref 500), (1, .int v1), (2, .int v2)]) (st' := []) (S1 := S) (nL := 7) (cd := cd_2495) mx_2495 rfl rfl 1 rfl ?_
  refine RR.weak [(0, .ref 500), (1, .int v1), (2, .int v2), (3, .int x1)] ⟨rfl, rfl, rfl, rfl, trivial⟩ ?_
  exact b4 _ _ _ _ h
def m_lossOf_96 (k52 : Int32 → Int32 → Int32 → Int32 → Int32 → Int32 → St → Re Int32) (v1 : Int32) (v2 : Int32) (v3 : Int32) (v4 : Int32) (v5 : Int32) (v6 : Int32) (S : St) : Re Int32 :=
  lt' ((v6 + (1 : Int32)) : Int32) fun x1 =>
  k52 v1 v2 v3 v4 v5 x1 S
set_option maxRecDepth 100000 in
theorem s_m_lossOf_96 {d : Nat} (k52 : Int32 → Int32 → Int32 → Int32 → Int32 → Int32 → St → Re Int32) {S' : St} {r : Int32} (b52 : ∀ (v1 : Int32) (v2 : Int32) (v3 : Int32) (v4 : Int32) (v5 : Int32) (v6 : Int32) (S : St), k52 v1 v2 v3 v4 v5 v6 S = some (r, S') → RR KM (d + 1) 2495 52 [(0, .ref 500), (1, .int v1), (2, .int v2), (3, .int v3), (4, .int v4), (5, .int v5), (6, .int v6)] [] S (some (.int r)) S') (v1 : Int32) (v2 : Int32) (v3 : Int32) (v4 : Int32) (v5 : Int32) (v6 : Int32) (S : St) (h : m_lossOf_96 k52 v1 v2 v3 v4 v5 v6 S = some (r, S')) : RR KM (d + 1) 2495 96 [(0, .ref 500), (1, .int v1), (2, .int v2), (3, .int v3), (4, .int v4), (5, .int v5), (6, .int v6)] [] S (some (.int r)) S' := by
  unfold m_lossOf_96 at h
  refine RR.runs (pc' := 99) (lc' := [(6, .int ((v6 + (1 : Int32)))), (0, .ref 500), (1, .int v1), (2, .int v2), (3, .int v3), (4, .int v4), (5, .int v5)]) (st' := []) (S1 := S) (nL := 7) (cd := cd_2495) mx_2495 rfl rfl 1 rfl ?_
  obtain ⟨x1, ex1, h⟩ := ltE h
  rw [← ex1]
  refine RR.runs (pc' := 52) (lc' := [(6, .int x1), (0, .ref 500), (1, .int v1), (2, .int v2), (3, .int v3), (4, .int v4), (5, .int v5)]) (st' := []) (S1 := S) (nL := 7) (cd := cd_2495) mx_2495 rfl rfl 1 rfl ?_
  refine RR.weak [(0, .ref 500), (1, .int v1), (2, .int v2), (3, .int v3), (4, .int v4), (5, .int v5), (6, .int x1)] ⟨rfl, rfl, rfl, rfl, rfl, rfl, rfl, trivial⟩ ?_
  exact b52 _ _ _ _ _ _ _ h
def m_lossOf_102 (k43 : Int32 → Int32 → Int32 → Int32 → Int32 → St → Re Int32) (v1 : Int32) (v2 : Int32) (v3 : Int32) (v4 : Int32) (v5 : Int32) (S : St) : Re Int32 :=
  lt' ((v5 + (1 : Int32)) : Int32) fun x1 =>
  k43 v1 v2 v3 v4 x1 S
set_option maxRecDepth 100000 in
theorem s_m_lossOf_102 {d : Nat} (k43 : Int32 → Int32 → Int32 → Int32 → Int32 → St → Re Int32) {S' : St} {r : Int32} (b43 : ∀ (v1 : Int32) (v2 : Int32) (v3 : Int32) (v4 : Int32) (v5 : Int32) (S : St), k43 v1 v2 v3 v4 v5 S = some (r, S') → RR KM (d + 1) 2495 43 [(0, .ref 500), (1, .int v1), (2, .int v2), (3, .int v3), (4, .int v4), (5, .int v5)] [] S (some (.int r)) S') (v1 : Int32) (v2 : Int32) (v3 : Int32) (v4 : Int32) (v5 : Int32) (S : St) (h : m_lossOf_102 k43 v1 v2 v3 v4 v5 S = some (r, S')) : RR KM (d + 1) 2495 102 [(0, .ref 500), (1, .int v1), (2, .int v2), (3, .int v3), (4, .int v4), (5, .int v5)] [] S (some (.int r)) S' := by
  unfold m_lossOf_102 at h
  refine RR.runs (pc' := 105) (lc' := [(5, .int ((v5 + (1 : Int32)))), (0, .ref 500), (1, .int v1), (2, .int v2), (3, .int v3), (4, .int v4)]) (st' := []) (S1 := S) (nL := 7) (cd := cd_2495) mx_2495 rfl rfl 1 rfl ?_
  obtain ⟨x1, ex1, h⟩ := ltE h
  rw [← ex1]
  refine RR.runs (pc' := 43) (lc' := [(5, .int x1), (0, .ref 500), (1, .int v1), (2, .int v2), (3, .int v3), (4, .int v4)]) (st' := []) (S1 := S) (nL := 7) (cd := cd_2495) mx_2495 rfl rfl 1 rfl ?_
  refine RR.weak [(0, .ref 500), (1, .int v1), (2, .int v2), (3, .int v3), (4, .int v4), (5, .int x1)] ⟨rfl, rfl, rfl, rfl, rfl, rfl, trivial⟩ ?_
  exact b43 _ _ _ _ _ _ h
def m_lossOf_52 (k43 : Int32 → Int32 → Int32 → Int32 → Int32 → St → Re Int32) : Nat → Int32 → Int32 → Int32 → Int32 → Int32 → Int32 → St → Re Int32
  | 0, _, _, _, _, _, _, _ => none
  | n + 1, v1, v2, v3, v4, v5, v6, S =>
  if (3 : Int32) < 0 ∨ 12 ≤ (3 : Int32).toNatClampNeg then none else
  if v6 < (rI S 502 (3 : Int32).toNatClampNeg) then (
    if v6 < 0 ∨ 12 ≤ v6.toNatClampNeg then none else
    bn (m_soundsLike (rI S 515 v6.toNatClampNeg) v3 S) fun r1 S2 =>
    if r1 = 0 then (
      m_lossOf_96 (m_lossOf_52 k43 n) v1 v2 v3 v4 v5 v6 S2)
    else (
      if v6 < 0 ∨ 12 ≤ v6.toNatClampNeg then none else
      lt' (((v4 * ((10 : Int32) - (rI S2 516 v6.toNatClampNeg))) / (10 : Int32)) : Int32) fun x3 =>
      m_lossOf_96 (m_lossOf_52 k43 n) v1 v2 v3 x3 v5 v6 S2))
  else (
    m_lossOf_102 k43 v1 v2 v3 v4 v5 S)
set_option maxRecDepth 100000 in
theorem s_m_lossOf_52 {d : Nat} (k43 : Int32 → Int32 → Int32 → Int32 → Int32 → St → Re Int32) {S' : St} {r : Int32} (b43 : ∀ (v1 : Int32) (v2 : Int32) (v3 : Int32) (v4 : Int32) (v5 : Int32) (S : St), k43 v1 v2 v3 v4 v5 S = some (r, S') → RR KM (d + 1) 2495 43 [(0, .ref 500), (1, .int v1), (2, .int v2), (3, .int v3), (4, .int v4), (5, .int v5)] [] S (some (.int r)) S') : ∀ (n : Nat) (v1 : Int32) (v2 : Int32) (v3 : Int32) (v4 : Int32) (v5 : Int32) (v6 : Int32) (S : St), m_lossOf_52 k43 n v1 v2 v3 v4 v5 v6 S = some (r, S') → RR KM (d + 1) 2495 52 [(0, .ref 500), (1, .int v1), (2, .int v2), (3, .int v3), (4, .int v4), (5, .int v5), (6, .int v6)] [] S (some (.int r)) S' := by
  intro n
  induction n with
  | zero => intro v1 v2 v3 v4 v5 v6 S h; simp only [m_lossOf_52] at h; cases h
  | succ n ih =>
    intro v1 v2 v3 v4 v5 v6 S h
    simp only [m_lossOf_52] at h
    refine RR.runs (pc' := 59) (lc' := [(0, .ref 500), (1, .int v1), (2, .int v2), (3, .int v3), (4, .int v4), (5, .int v5), (6, .int v6)]) (st' := [.int (3 : Int32), .ref 502, .int v6]) (S1 := S) (nL := 7) (cd := cd_2495) mx_2495 rfl rfl 4 rfl ?_
    obtain ⟨g, h⟩ := gnE h
    refine RR.gPN (c2 := (KM.1 502).1 = 1) (pc' := 60) (lc' := [(0, .ref 500), (1, .int v1), (2, .int v2), (3, .int v3), (4, .int v4), (5, .int v5), (6, .int v6)]) (st' := [.int ((rI S 502 (3 : Int32).toNatClampNeg)), .int v6]) (S1 := S) (nL := 7) (cd := cd_2495) mx_2495 rfl rfl rfl rfl g ?_
    refine RR.runs (pc' := icm .ge v6 ((rI S 502 (3 : Int32).toNatClampNeg)) 102 63) (lc' := [(0, .ref 500), (1, .int v1), (2, .int v2), (3, .int v3), (4, .int v4), (5, .int v5), (6, .int v6)]) (st' := []) (S1 := S) (nL := 7) (cd := cd_2495) mx_2495 rfl rfl 1 rfl ?_
    rcases ifE h with ⟨c, h⟩ | ⟨c, h⟩
    · refine RR.c_ge (fun _ => ?_) (fun q => absurd c q)
      refine RR.runs (pc' := 70) (lc' := [(0, .ref 500), (1, .int v1), (2, .int v2), (3, .int v3), (4, .int v4), (5, .int v5), (6, .int v6)]) (st' := [.int v6, .ref 515, .ref 500]) (S1 := S) (nL := 7) (cd := cd_2495) mx_2495 rfl rfl 4 rfl ?_
      obtain ⟨g, h⟩ := gnE h
      refine RR.gPN (c2 := (KM.1 515).1 = 1) (pc' := 71) (lc' := [(0, .ref 500), (1, .int v1), (2, .int v2), (3, .int v3), (4, .int v4), (5, .int v5), (6, .int v6)]) (st' := [.int (rI S 515 v6.toNatClampNeg), .ref 500]) (S1 := S) (nL := 7) (cd := cd_2495) mx_2495 rfl rfl rfl rfl g ?_
      refine RR.runs (pc' := 72) (lc' := [(0, .ref 500), (1, .int v1), (2, .int v2), (3, .int v3), (4, .int v4), (5, .int v5), (6, .int v6)]) (st' := [.int v3, .int (rI S 515 v6.toNatClampNeg), .ref 500]) (S1 := S) (nL := 7) (cd := cd_2495) mx_2495 rfl rfl 1 rfl ?_
      obtain ⟨r1, S2, h1, h⟩ := bnE h
      refine RR.callV (b := 500) (as := [.int (rI S 515 v6.toNatClampNeg), .int v3]) (rest := []) (r1 := (some (.int r1))) (S1 := S2) mx_2495 rfl rfl mx_2463 rfl rfl (by decide) (Or.inl rfl) (Nat.le_of_ble_eq_true rfl) (Nat.le_of_ble_eq_true rfl) (RC.deep (by omega) (s_m_soundsLike (d := d) _ _ _ h1)) ?_
      show RR KM _ 2495 75 [(0, .ref 500), (1, .int v1), (2, .int v2), (3, .int v3), (4, .int v4), (5, .int v5), (6, .int v6)] [.int r1] S2 _ _
      refine RR.runs (pc' := icm .eq r1 0 96 78) (lc' := [(0, .ref 500), (1, .int v1), (2, .int v2), (3, .int v3), (4, .int v4), (5, .int v5), (6, .int v6)]) (st' := []) (S1 := S2) (nL := 7) (cd := cd_2495) mx_2495 rfl rfl 1 rfl ?_
      rcases ifE h with ⟨c, h⟩ | ⟨c, h⟩
      · refine RR.c_eq (fun _ => ?_) (fun q => absurd c q)
        refine RR.weak [(0, .ref 500), (1, .int v1), (2, .int v2), (3, .int v3), (4, .int v4), (5, .int v5), (6, .int v6)] ⟨rfl, rfl, rfl, rfl, rfl, rfl, rfl, trivial⟩ ?_
        exact s_m_lossOf_96 _ (fun _ _ _ _ _ _ S h => ih _ _ _ _ _ _ S h) _ _ _ _ _ _ _ h
      · refine RR.c_eq (fun q => absurd q c) (fun _ => ?_)
        refine RR.runs (pc' := 88) (lc' := [(0, .ref 500), (1, .int v1), (2, .int v2), (3, .int v3), (4, .int v4), (5, .int v5), (6, .int v6)]) (st' := [.int v6, .ref 516, .int (10 : Int32), .int v4]) (S1 := S2) (nL := 7) (cd := cd_2495) mx_2495 rfl rfl 5 rfl ?_
        obtain ⟨g, h⟩ := gnE h
        refine RR.gPN (c2 := (KM.1 516).1 = 1) (pc' := 89) (lc' := [(0, .ref 500), (1, .int v1), (2, .int v2), (3, .int v3), (4, .int v4), (5, .int v5), (6, .int v6)]) (st' := [.int (rI S2 516 v6.toNatClampNeg), .int (10 : Int32), .int v4]) (S1 := S2) (nL := 7) (cd := cd_2495) mx_2495 rfl rfl rfl rfl g ?_
        refine RR.runs (pc' := 96) (lc' := [(4, .int (((v4 * ((10 : Int32) - (rI S2 516 v6.toNatClampNeg))) / (10 : Int32)))), (0, .ref 500), (1, .int v1), (2, .int v2), (3, .int v3), (5, .int v5), (6, .int v6)]) (st' := []) (S1 := S2) (nL := 7) (cd := cd_2495) mx_2495 rfl rfl 5 rfl ?_
        obtain ⟨x3, ex3, h⟩ := ltE h
        rw [← ex3]
        refine RR.weak [(0, .ref 500), (1, .int v1), (2, .int v2), (3, .int v3), (4, .int x3), (5, .int v5), (6, .int v6)] ⟨rfl, rfl, rfl, rfl, rfl, rfl, rfl, trivial⟩ ?_
        exact s_m_lossOf_96 _ (fun _ _ _ _ _ _ S h => ih _ _ _ _ _ _ S h) _ _ _ _ _ _ _ h
    · refine RR.c_ge (fun q => absurd q c) (fun _ => ?_)
      refine RR.weak [(0, .ref 500), (1, .int v1), (2, .int v2), (3, .int v3), (4, .int v4), (5, .int v5)] ⟨rfl, rfl, rfl, rfl, rfl, rfl, trivial⟩ ?_
      exact s_m_lossOf_102 _ b43 _ _ _ _ _ _ h
def m_lossOf_108 (k4 : Int32 → Int32 → Int32 → St → Re Int32) (v1 : Int32) (v2 : Int32) (v3 : Int32) (v4 : Int32) (S : St) : Re Int32 :=
  if v3 < 0 ∨ 20 ≤ v3.toNatClampNeg then none else
  lt' ((v2 + ((((rI S 510 v3.toNatClampNeg).toInt64 * (((1000000 : Int32) - v4)).toInt64) / (1000 : Int64))).toInt32) : Int32) fun x1 =>
  m_lossOf_131 k4 v1 x1 v3 S
set_option maxRecDepth 100000 in
theorem s_m_lossOf_108 {d : Nat} (k4 : Int32 → Int32 → Int32 → St → Re Int32) {S' : St} {r : Int32} (b4 : ∀ (v1 : Int32) (v2 : Int32) (v3 : Int32) (S : St), k4 v1 v2 v3 S = some (r, S') → RR KM (d + 1) 2495 4 [(0, .ref 500), (1, .int v1), (2, .int v2), (3, .int v3)] [] S (some (.int r)) S') (v1 : Int32) (v2 : Int32) (v3 : Int32) (v4 : Int32) (S : St) (h : m_lossOf_108 k4 v1 v2 v3 v4 S = some (r, S')) : RR KM (d + 1) 2495 108 [(0, .ref 500), (1, .int v1), (2, .int v2), (3, .int v3), (4, .int v4)] [] S (some (.int r)) S' := by
  unfold m_lossOf_108 at h
  refine RR.runs (pc' := 114) (lc' := [(0, .ref 500), (1, .int v1), (2, .int v2), (3, .int v3), (4, .int v4)]) (st' := [.int v3, .ref 510, .int v2]) (S1 := S) (nL := 7) (cd := cd_2495) mx_2495 rfl rfl 4 rfl ?_
  obtain ⟨g, h⟩ := gnE h
  refine RR.gPN (c2 := (KM.1 510).1 = 1) (pc' := 115) (lc' := [(0, .ref 500), (1, .int v1), (2, .int v2), (3, .int v3), (4, .int v4)]) (st' := [.int (rI S 510 v3.toNatClampNeg), .int v2]) (S1 := S) (nL := 7) (cd := cd_2495) mx_2495 rfl rfl rfl rfl g ?_
  refine RR.runs (pc' := 131) (lc' := [(2, .int ((v2 + ((((rI S 510 v3.toNatClampNeg).toInt64 * (((1000000 : Int32) - v4)).toInt64) / (1000 : Int64))).toInt32))), (0, .ref 500), (1, .int v1), (3, .int v3), (4, .int v4)]) (st' := []) (S1 := S) (nL := 7) (cd := cd_2495) mx_2495 rfl rfl 11 rfl ?_
  obtain ⟨x1, ex1, h⟩ := ltE h
  rw [← ex1]
  refine RR.weak [(0, .ref 500), (1, .int v1), (2, .int x1), (3, .int v3)] ⟨rfl, rfl, rfl, rfl, trivial⟩ ?_
  exact s_m_lossOf_131 _ b4 _ _ _ _ h
def m_lossOf_43 (k4 : Int32 → Int32 → Int32 → St → Re Int32) : Nat → Int32 → Int32 → Int32 → Int32 → Int32 → St → Re Int32
  | 0, _, _, _, _, _, _ => none
  | n + 1, v1, v2, v3, v4, v5, S =>
  if v5 < v1 then (
    m_lossOf_52 (m_lossOf_43 k4 n) FU v1 v2 v3 v4 v5 (0 : Int32) S)
  else (
    m_lossOf_108 k4 v1 v2 v3 v4 S)
set_option maxRecDepth 100000 in
theorem s_m_lossOf_43 {d : Nat} (k4 : Int32 → Int32 → Int32 → St → Re Int32) {S' : St} {r : Int32} (b4 : ∀ (v1 : Int32) (v2 : Int32) (v3 : Int32) (S : St), k4 v1 v2 v3 S = some (r, S') → RR KM (d + 1) 2495 4 [(0, .ref 500), (1, .int v1), (2, .int v2), (3, .int v3)] [] S (some (.int r)) S') : ∀ (n : Nat) (v1 : Int32) (v2 : Int32) (v3 : Int32) (v4 : Int32) (v5 : Int32) (S : St), m_lossOf_43 k4 n v1 v2 v3 v4 v5 S = some (r, S') → RR KM (d + 1) 2495 43 [(0, .ref 500), (1, .int v1), (2, .int v2), (3, .int v3), (4, .int v4), (5, .int v5)] [] S (some (.int r)) S' := by
  intro n
  induction n with
  | zero => intro v1 v2 v3 v4 v5 S h; simp only [m_lossOf_43] at h; cases h
  | succ n ih =>
    intro v1 v2 v3 v4 v5 S h
    simp only [m_lossOf_43] at h
    refine RR.runs (pc' := icm .ge v5 v1 108 49) (lc' := [(0, .ref 500), (1, .int v1), (2, .int v2), (3, .int v3), (4, .int v4), (5, .int v5)]) (st' := []) (S1 := S) (nL := 7) (cd := cd_2495) mx_2495 rfl rfl 3 rfl ?_
    rcases ifE h with ⟨c, h⟩ | ⟨c, h⟩
    · refine RR.c_ge (fun _ => ?_) (fun q => absurd c q)
      refine RR.runs (pc' := 52) (lc' := [(6, .int (0 : Int32)), (0, .ref 500), (1, .int v1), (2, .int v2), (3, .int v3), (4, .int v4), (5, .int v5)]) (st' := []) (S1 := S) (nL := 7) (cd := cd_2495) mx_2495 rfl rfl 2 rfl ?_
      refine RR.weak [(0, .ref 500), (1, .int v1), (2, .int v2), (3, .int v3), (4, .int v4), (5, .int v5), (6, .int (0 : Int32))] ⟨rfl, rfl, rfl, rfl, rfl, rfl, rfl, trivial⟩ ?_
      exact s_m_lossOf_52 _ (fun _ _ _ _ _ S h => ih _ _ _ _ _ S h) _ _ _ _ _ _ _ _ h
    · refine RR.c_ge (fun q => absurd q c) (fun _ => ?_)
      refine RR.weak [(0, .ref 500), (1, .int v1), (2, .int v2), (3, .int v3), (4, .int v4)] ⟨rfl, rfl, rfl, rfl, rfl, trivial⟩ ?_
      exact s_m_lossOf_108 _ b4 _ _ _ _ _ h
def m_lossOf_137 (v2 : Int32) (S : St) : Re Int32 :=
  some (v2, S)
set_option maxRecDepth 100000 in
theorem s_m_lossOf_137 {d : Nat} {S' : St} {r : Int32} (v2 : Int32) (S : St) (h : m_lossOf_137 v2 S = some (r, S')) : RR KM (d + 1) 2495 137 [(2, .int v2)] [] S (some (.int r)) S' := by
  unfold m_lossOf_137 at h
  refine RR.runs (pc' := 138) (lc' := [(2, .int v2)]) (st' := [.int v2]) (S1 := S) (nL := 7) (cd := cd_2495) mx_2495 rfl rfl 1 rfl ?_
  cases h
  exact RR.reti mx_2495 rfl rfl rfl
def m_lossOf_4 : Nat → Int32 → Int32 → Int32 → St → Re Int32
  | 0, _, _, _, _ => none
  | n + 1, v1, v2, v3, S =>
  if (0 : Int32) < 0 ∨ 12 ≤ (0 : Int32).toNatClampNeg then none else
  if v3 < (rI S 502 (0 : Int32).toNatClampNeg) then (
    bn (m_hangs v3 S) fun r1 S2 =>
    if r1 = 0 then (
      m_lossOf_131 (m_lossOf_4 n) v1 v2 v3 S2)
    else (
      if v3 < 0 ∨ 20 ≤ v3.toNatClampNeg then none else
      if (rI S2 506 v3.toNatClampNeg) = (3 : Int32) then (
        m_lossOf_131 (m_lossOf_4 n) v1 v2 v3 S2)
      else (
        m_lossOf_43 (m_lossOf_4 n) FU v1 v2 v3 (1000000 : Int32) (0 : Int32) S2)))
  else (
    m_lossOf_137 v2 S)
set_option maxRecDepth 100000 in
theorem s_m_lossOf_4 {d : Nat} {S' : St} {r : Int32} : ∀ (n : Nat) (v1 : Int32) (v2 : Int32) (v3 : Int32) (S : St), m_lossOf_4 n v1 v2 v3 S = some (r, S') → RR KM (d + 1) 2495 4 [(0, .ref 500), (1, .int v1), (2, .int v2), (3, .int v3)] [] S (some (.int r)) S' := by
  intro n
  induction n with
  | zero => intro v1 v2 v3 S h; simp only [m_lossOf_4] at h; cases h
  | succ n ih =>
    intro v1 v2 v3 S h
    simp only [m_lossOf_4] at h
    refine RR.runs (pc' := 10) (lc' := [(0, .ref 500), (1, .int v1), (2, .int v2), (3, .int v3)]) (st' := [.int (0 : Int32), .ref 502, .int v3]) (S1 := S) (nL := 7) (cd := cd_2495) mx_2495 rfl rfl 4 rfl ?_
    obtain ⟨g, h⟩ := gnE h
    refine RR.gPN (c2 := (KM.1 502).1 = 1) (pc' := 11) (lc' := [(0, .ref 500), (1, .int v1), (2, .int v2), (3, .int v3)]) (st' := [.int ((rI S 502 (0 : Int32).toNatClampNeg)), .int v3]) (S1 := S) (nL := 7) (cd := cd_2495) mx_2495 rfl rfl rfl rfl g ?_
    refine RR.runs (pc' := icm .ge v3 ((rI S 502 (0 : Int32).toNatClampNeg)) 137 14) (lc' := [(0, .ref 500), (1, .int v1), (2, .int v2), (3, .int v3)]) (st' := []) (S1 := S) (nL := 7) (cd := cd_2495) mx_2495 rfl rfl 1 rfl ?_
    rcases ifE h with ⟨c, h⟩ | ⟨c, h⟩
    · refine RR.c_ge (fun _ => ?_) (fun q => absurd c q)
      refine RR.runs (pc' := 16) (lc' := [(0, .ref 500), (1, .int v1), (2, .int v2), (3, .int v3)]) (st' := [.int v3, .ref 500]) (S1 := S) (nL := 7) (cd := cd_2495) mx_2495 rfl rfl 2 rfl ?_
      obtain ⟨r1, S2, h1, h⟩ := bnE h
      refine RR.callV (b := 500) (as := [.int v3]) (rest := []) (r1 := (some (.int r1))) (S1 := S2) mx_2495 rfl rfl mx_2458 rfl rfl (by decide) (Or.inl rfl) (Nat.le_of_ble_eq_true rfl) (Nat.le_of_ble_eq_true rfl) (RC.deep (by omega) (s_m_hangs (d := d) _ _ h1)) ?_
      show RR KM _ 2495 19 [(0, .ref 500), (1, .int v1), (2, .int v2), (3, .int v3)] [.int r1] S2 _ _
      refine RR.runs (pc' := icm .eq r1 0 131 22) (lc' := [(0, .ref 500), (1, .int v1), (2, .int v2), (3, .int v3)]) (st' := []) (S1 := S2) (nL := 7) (cd := cd_2495) mx_2495 rfl rfl 1 rfl ?_
      rcases ifE h with ⟨c, h⟩ | ⟨c, h⟩
      · refine RR.c_eq (fun _ => ?_) (fun q => absurd c q)
        refine RR.weak [(0, .ref 500), (1, .int v1), (2, .int v2), (3, .int v3)] ⟨rfl, rfl, rfl, rfl, trivial⟩ ?_
        exact s_m_lossOf_131 _ (fun _ _ _ S h => ih _ _ _ S h) _ _ _ _ h
      · refine RR.c_eq (fun q => absurd q c) (fun _ => ?_)
        refine RR.runs (pc' := 27) (lc' := [(0, .ref 500), (1, .int v1), (2, .int v2), (3, .int v3)]) (st' := [.int v3, .ref 506]) (S1 := S2) (nL := 7) (cd := cd_2495) mx_2495 rfl rfl 3 rfl ?_
        obtain ⟨g, h⟩ := gnE h
        refine RR.gPN (c2 := (KM.1 506).1 = 1) (pc' := 28) (lc' := [(0, .ref 500), (1, .int v1), (2, .int v2), (3, .int v3)]) (st' := [.int (rI S2 506 v3.toNatClampNeg)]) (S1 := S2) (nL := 7) (cd := cd_2495) mx_2495 rfl rfl rfl rfl g ?_
        refine RR.runs (pc' := icm .ne (rI S2 506 v3.toNatClampNeg) (3 : Int32) 35 32) (lc' := [(0, .ref 500), (1, .int v1), (2, .int v2), (3, .int v3)]) (st' := []) (S1 := S2) (nL := 7) (cd := cd_2495) mx_2495 rfl rfl 2 rfl ?_
        rcases ifE h with ⟨c, h⟩ | ⟨c, h⟩
        · refine RR.c_ne (fun _ => ?_) (fun q => absurd c q)
          refine RR.runs (pc' := 131) (lc' := [(0, .ref 500), (1, .int v1), (2, .int v2), (3, .int v3)]) (st' := []) (S1 := S2) (nL := 7) (cd := cd_2495) mx_2495 rfl rfl 1 rfl ?_
          refine RR.weak [(0, .ref 500), (1, .int v1), (2, .int v2), (3, .int v3)] ⟨rfl, rfl, rfl, rfl, trivial⟩ ?_
          exact s_m_lossOf_131 _ (fun _ _ _ S h => ih _ _ _ S h) _ _ _ _ h
        · refine RR.c_ne (fun q => absurd q c) (fun _ => ?_)
          refine RR.runs (pc' := 43) (lc' := [(5, .int (0 : Int32)), (4, .int (1000000 : Int32)), (0, .ref 500), (1, .int v1), (2, .int v2), (3, .int v3)]) (st' := []) (S1 := S2) (nL := 7) (cd := cd_2495) mx_2495 rfl rfl 4 rfl ?_
          refine RR.weak [(0, .ref 500), (1, .int v1), (2, .int v2), (3, .int v3), (4, .int (1000000 : Int32)), (5, .int (0 : Int32))] ⟨rfl, rfl, rfl, rfl, rfl, rfl, trivial⟩ ?_
          exact s_m_lossOf_43 _ (fun _ _ _ S h => ih _ _ _ S h) _ _ _ _ _ _ _ h
    · refine RR.c_ge (fun q => absurd q c) (fun _ => ?_)
      refine RR.weak [(2, .int v2)] ⟨rfl, trivial⟩ ?_
      exact s_m_lossOf_137 _ _ h
def m_lossOf (v1 : Int32) (S : St) : Re Int32 :=
  m_lossOf_4 FU v1 (0 : Int32) (0 : Int32) S
set_option maxRecDepth 100000 in
theorem s0_m_lossOf {d : Nat} {S' : St} {r : Int32} (v1 : Int32) (S : St) (h : m_lossOf v1 S = some (r, S')) : RR KM (d + 1) 2495 0 [(0, .ref 500), (1, .int v1)] [] S (some (.int r)) S' := by
  unfold m_lossOf at h
  refine RR.runs (pc' := 4) (lc' := [(3, .int (0 : Int32)), (2, .int (0 : Int32)), (0, .ref 500), (1, .int v1)]) (st' := []) (S1 := S) (nL := 7) (cd := cd_2495) mx_2495 rfl rfl 4 rfl ?_
  refine RR.weak [(0, .ref 500), (1, .int v1), (2, .int (0 : Int32)), (3, .int (0 : Int32))] ⟨rfl, rfl, rfl, rfl, trivial⟩ ?_
  exact s_m_lossOf_4 _ _ _ _ _ h
theorem s_m_lossOf {d : Nat} {S' : St} {r : Int32} (v1 : Int32) (S : St) (h : m_lossOf v1 S = some (r, S')) : RC KM (d + 1) 2495 [.ref 500, .int v1] S (some (.int r)) S' := RC.of rfl (s0_m_lossOf v1 S h)
-- loss (I)I
def m_loss_24 (p0 : Int32) (S : St) : Re Int32 :=
  some (p0, S)
set_option maxRecDepth 100000 in
theorem s_m_loss_24 {d : Nat} {S' : St} {r : Int32} (p0 : Int32) (S : St) (h : m_loss_24 p0 S = some (r, S')) : RR KM (d + 2) 2496 24 [] [.int p0] S (some (.int r)) S' := by
  unfold m_loss_24 at h
  cases h
  exact RR.reti mx_2496 rfl rfl rfl
def m_loss (v1 : Int32) (S : St) : Re Int32 :=
  lt' (wI S 500 0 (0 : Int32)) fun S1 =>
  bn (m_within v1 (1 : Int32) (30 : Int32) S1) fun r2 S3 =>
  if r2 = 0 then (
    m_loss_24 (-1 : Int32) S3)
  else (
    bn (m_lossOf v1 S3) fun r4 S5 =>
    m_loss_24 r4 S5)
set_option maxRecDepth 100000 in
theorem s0_m_loss {d : Nat} {S' : St} {r : Int32} (v1 : Int32) (S : St) (h : m_loss v1 S = some (r, S')) : RR KM (d + 2) 2496 0 [(0, .ref 500), (1, .int v1)] [] S (some (.int r)) S' := by
  unfold m_loss at h
  refine RR.runs (pc' := 5) (lc' := [(0, .ref 500), (1, .int v1)]) (st' := []) (S1 := (wI S 500 0 (0 : Int32))) (nL := 2) (cd := cd_2496) mx_2496 rfl rfl 3 rfl ?_
  obtain ⟨S1, eS1, h⟩ := ltE h
  rw [← eS1]
  refine RR.runs (pc' := 9) (lc' := [(0, .ref 500), (1, .int v1)]) (st' := [.int (30 : Int32), .int (1 : Int32), .int v1]) (S1 := S1) (nL := 2) (cd := cd_2496) mx_2496 rfl rfl 3 rfl ?_
  obtain ⟨r2, S3, h1, h⟩ := bnE h
  refine RR.callS (as := [.int v1, .int (1 : Int32), .int (30 : Int32)]) (rest := []) (r1 := (some (.int r2))) (S1 := S3) mx_2496 rfl rfl mx_2402 rfl rfl (by decide) (Nat.le_of_ble_eq_true rfl) (Nat.le_of_ble_eq_true rfl) (Nat.le_of_ble_eq_true rfl) (RC.deep (by omega) (s_m_within (d := d) _ _ _ _ h1)) ?_
  show RR KM _ 2496 12 [(0, .ref 500), (1, .int v1)] [.int r2] S3 _ _
  refine RR.runs (pc' := icm .eq r2 0 23 15) (lc' := [(0, .ref 500), (1, .int v1)]) (st' := []) (S1 := S3) (nL := 2) (cd := cd_2496) mx_2496 rfl rfl 1 rfl ?_
  rcases ifE h with ⟨c, h⟩ | ⟨c, h⟩
  · refine RR.c_eq (fun _ => ?_) (fun q => absurd c q)
    refine RR.runs (pc' := 24) (lc' := [(0, .ref 500), (1, .int v1)]) (st' := [.int (-1 : Int32)]) (S1 := S3) (nL := 2) (cd := cd_2496) mx_2496 rfl rfl 1 rfl ?_
    refine RR.weak [] trivial ?_
    exact s_m_loss_24 _ _ h
  · refine RR.c_eq (fun q => absurd q c) (fun _ => ?_)
    refine RR.runs (pc' := 17) (lc' := [(0, .ref 500), (1, .int v1)]) (st' := [.int v1, .ref 500]) (S1 := S3) (nL := 2) (cd := cd_2496) mx_2496 rfl rfl 2 rfl ?_
    obtain ⟨r4, S5, h1, h⟩ := bnE h
    refine RR.callV (b := 500) (as := [.int v1]) (rest := []) (r1 := (some (.int r4))) (S1 := S5) mx_2496 rfl rfl mx_2495 rfl rfl (by decide) (Or.inl rfl) (Nat.le_of_ble_eq_true rfl) (Nat.le_of_ble_eq_true rfl) (RC.deep (by omega) (s_m_lossOf (d := d) _ _ h1)) ?_
    show RR KM _ 2496 20 [(0, .ref 500), (1, .int v1)] [.int r4] S5 _ _
    refine RR.runs (pc' := 24) (lc' := [(0, .ref 500), (1, .int v1)]) (st' := [.int r4]) (S1 := S5) (nL := 2) (cd := cd_2496) mx_2496 rfl rfl 1 rfl ?_
    refine RR.weak [] trivial ?_
    exact s_m_loss_24 _ _ h
theorem s_m_loss {d : Nat} {S' : St} {r : Int32} (v1 : Int32) (S : St) (h : m_loss v1 S = some (r, S')) : RC KM (d + 2) 2496 [.ref 500, .int v1] S (some (.int r)) S' := RC.of rfl (s0_m_loss v1 S h)
-- best (II)I
def m_best_31 (S : St) : Re Int32 :=
  some ((-1 : Int32), S)
set_option maxRecDepth 100000 in
theorem s_m_best_31 {d : Nat} {S' : St} {r : Int32} (S : St) (h : m_best_31 S = some (r, S')) : RR KM (d + 2) 2497 31 [] [] S (some (.int r)) S' := by
  unfold m_best_31 at h
  refine RR.runs (pc' := 32) (lc' := []) (st' := [.int (-1 : Int32)]) (S1 := S) (nL := 8) (cd := cd_2497) mx_2497 rfl rfl 1 rfl ?_
  cases h
  exact RR.reti mx_2497 rfl rfl rfl
def m_best_115 (k51 : Int32 → Int32 → Int32 → Int32 → Int32 → Int32 → St → Re Int32) (v1 : Int32) (v2 : Int32) (v3 : Int32) (v4 : Int32) (v5 : Int32) (v6 : Int32) (S : St) : Re Int32 :=
  lt' ((v6 + (1 : Int32)) : Int32) fun x1 =>
  k51 v1 v2 v3 v4 v5 x1 S
set_option maxRecDepth 100000 in
theorem s_m_best_115 {d : Nat} (k51 : Int32 → Int32 → Int32 → Int32 → Int32 → Int32 → St → Re Int32) {S' : St} {r : Int32} (b51 : ∀ (v1 : Int32) (v2 : Int32) (v3 : Int32) (v4 : Int32) (v5 : Int32) (v6 : Int32) (S : St), k51 v1 v2 v3 v4 v5 v6 S = some (r, S') → RR KM (d + 2) 2497 51 [(0, .ref 500), (1, .int v1), (2, .int v2), (3, .int v3), (4, .int v4), (5, .int v5), (6, .int v6)] [] S (some (.int r)) S') (v1 : Int32) (v2 : Int32) (v3 : Int32) (v4 : Int32) (v5 : Int32) (v6 : Int32) (S : St) (h : m_best_115 k51 v1 v2 v3 v4 v5 v6 S = some (r, S')) : RR KM (d + 2) 2497 115 [(0, .ref 500), (1, .int v1), (2, .int v2), (3, .int v3), (4, .int v4), (5, .int v5), (6, .int v6)] [] S (some (.int r)) S' := by
  unfold m_best_115 at h
  refine RR.runs (pc' := 118) (lc' := [(6, .int ((v6 + (1 : Int32)))), (0, .ref 500), (1, .int v1), (2, .int v2), (3, .int v3), (4, .int v4), (5, .int v5)]) (st' := []) (S1 := S) (nL := 8) (cd := cd_2497) mx_2497 rfl rfl 1 rfl ?_
  obtain ⟨x1, ex1, h⟩ := ltE h
  rw [← ex1]
  refine RR.runs (pc' := 51) (lc' := [(6, .int x1), (0, .ref 500), (1, .int v1), (2, .int v2), (3, .int v3), (4, .int v4), (5, .int v5)]) (st' := []) (S1 := S) (nL := 8) (cd := cd_2497) mx_2497 rfl rfl 1 rfl ?_
  refine RR.weak [(0, .ref 500), (1, .int v1), (2, .int v2), (3, .int v3), (4, .int v4), (5, .int v5), (6, .int x1)] ⟨rfl, rfl, rfl, rfl, rfl, rfl, rfl, trivial⟩ ?_
  exact b51 _ _ _ _ _ _ _ h
def m_best_107 (k51 : Int32 → Int32 → Int32 → Int32 → Int32 → Int32 → St → Re Int32) (v1 : Int32) (v2 : Int32) (v3 : Int32) (v6 : Int32) (v7 : Int32) (S : St) : Re Int32 :=
  m_best_115 k51 v1 v2 v3 v6 v7 v6 S
set_option maxRecDepth 100000 in
theorem s_m_best_107 {d : Nat} (k51 : Int32 → Int32 → Int32 → Int32 → Int32 → Int32 → St → Re Int32) {S' : St} {r : Int32} (b51 : ∀ (v1 : Int32) (v2 : Int32) (v3 : Int32) (v4 : Int32) (v5 : Int32) (v6 : Int32) (S : St), k51 v1 v2 v3 v4 v5 v6 S = some (r, S') → RR KM (d + 2) 2497 51 [(0, .ref 500), (1, .int v1), (2, .int v2), (3, .int v3), (4, .int v4), (5, .int v5), (6, .int v6)] [] S (some (.int r)) S') (v1 : Int32) (v2 : Int32) (v3 : Int32) (v6 : Int32) (v7 : Int32) (S : St) (h : m_best_107 k51 v1 v2 v3 v6 v7 S = some (r, S')) : RR KM (d + 2) 2497 107 [(0, .ref 500), (1, .int v1), (2, .int v2), (3, .int v3), (6, .int v6), (7, .int v7)] [] S (some (.int r)) S' := by
  unfold m_best_107 at h
  refine RR.runs (pc' := 115) (lc' := [(5, .int v7), (4, .int v6), (0, .ref 500), (1, .int v1), (2, .int v2), (3, .int v3), (6, .int v6), (7, .int v7)]) (st' := []) (S1 := S) (nL := 8) (cd := cd_2497) mx_2497 rfl rfl 4 rfl ?_
  refine RR.weak [(0, .ref 500), (1, .int v1), (2, .int v2), (3, .int v3), (4, .int v6), (5, .int v7), (6, .int v6)] ⟨rfl, rfl, rfl, rfl, rfl, rfl, rfl, trivial⟩ ?_
  exact s_m_best_115 _ b51 _ _ _ _ _ _ _ h
def m_best_121 (v1 : Int32) (v3 : Int32) (v4 : Int32) (S : St) : Re Int32 :=
  if ((5 : Int32) + v1) < 0 ∨ 15 ≤ (((5 : Int32) + v1)).toNatClampNeg then none else
  lt' (wI S 553 (((5 : Int32) + v1)).toNatClampNeg v3) fun S1 =>
  some (v4, S1)
set_option maxRecDepth 100000 in
theorem s_m_best_121 {d : Nat} {S' : St} {r : Int32} (v1 : Int32) (v3 : Int32) (v4 : Int32) (S : St) (h : m_best_121 v1 v3 v4 S = some (r, S')) : RR KM (d + 2) 2497 121 [(0, .ref 500), (1, .int v1), (3, .int v3), (4, .int v4)] [] S (some (.int r)) S' := by
  unfold m_best_121 at h
  refine RR.runs (pc' := 129) (lc' := [(0, .ref 500), (1, .int v1), (3, .int v3), (4, .int v4)]) (st' := [.int v3, .int (((5 : Int32) + v1)), .ref 553]) (S1 := S) (nL := 8) (cd := cd_2497) mx_2497 rfl rfl 6 rfl ?_
  obtain ⟨g, h⟩ := gnE h
  refine RR.gPN (c2 := (KM.1 553).1 = 1) (pc' := 130) (lc' := [(0, .ref 500), (1, .int v1), (3, .int v3), (4, .int v4)]) (st' := []) (S1 := (wI S 553 (((5 : Int32) + v1)).toNatClampNeg v3)) (nL := 8) (cd := cd_2497) mx_2497 rfl rfl rfl rfl g ?_
  obtain ⟨S1, eS1, h⟩ := ltE h
  rw [← eS1]
  refine RR.runs (pc' := 132) (lc' := [(0, .ref 500), (1, .int v1), (3, .int v3), (4, .int v4)]) (st' := [.int v4]) (S1 := S1) (nL := 8) (cd := cd_2497) mx_2497 rfl rfl 1 rfl ?_
  cases h
  exact RR.reti mx_2497 rfl rfl rfl
def m_best_51 : Nat → Int32 → Int32 → Int32 → Int32 → Int32 → Int32 → St → Re Int32
  | 0, _, _, _, _, _, _, _ => none
  | n + 1, v1, v2, v3, v4, v5, v6, S =>
  if (1 : Int32) < 0 ∨ 12 ≤ (1 : Int32).toNatClampNeg then none else
  if v6 < (rI S 502 (1 : Int32).toNatClampNeg) then (
    bn (m_isFree v6 v1 S) fun r1 S2 =>
    if r1 = 0 then (
      m_best_115 (m_best_51 n) v1 v2 v3 v4 v5 v6 S2)
    else (
      if ((5 : Int32) + v1) < 0 ∨ 15 ≤ (((5 : Int32) + v1)).toNatClampNeg then none else
      lt' (wI S2 553 (((5 : Int32) + v1)).toNatClampNeg v6) fun S3 =>
      bn (m_lossOf v2 S3) fun r4 S5 =>
      if v4 < 0 then (
        m_best_107 (m_best_51 n) v1 v2 v3 v6 r4 S5)
      else (
        if r4 < v5 then (
          m_best_107 (m_best_51 n) v1 v2 v3 v6 r4 S5)
        else (
          m_best_115 (m_best_51 n) v1 v2 v3 v4 v5 v6 S5))))
  else (
    m_best_121 v1 v3 v4 S)
set_option maxRecDepth 100000 in
theorem s_m_best_51 {d : Nat} {S' : St} {r : Int32} : ∀ (n : Nat) (v1 : Int32) (v2 : Int32) (v3 : Int32) (v4 : Int32) (v5 : Int32) (v6 : Int32) (S : St), m_best_51 n v1 v2 v3 v4 v5 v6 S = some (r, S') → RR KM (d + 2) 2497 51 [(0, .ref 500), (1, .int v1), (2, .int v2), (3, .int v3), (4, .int v4), (5, .int v5), (6, .int v6)] [] S (some (.int r)) S' := by
  intro n
  induction n with
  | zero => intro v1 v2 v3 v4 v5 v6 S h; simp only [m_best_51] at h; cases h
  | succ n ih =>
    intro v1 v2 v3 v4 v5 v6 S h
    simp only [m_best_51] at h
    refine RR.runs (pc' := 58) (lc' := [(0, .ref 500), (1, .int v1), (2, .int v2), (3, .int v3), (4, .int v4), (5, .int v5), (6, .int v6)]) (st' := [.int (1 : Int32), .ref 502, .int v6]) (S1 := S) (nL := 8) (cd := cd_2497) mx_2497 rfl rfl 4 rfl ?_
    obtain ⟨g, h⟩ := gnE h
    refine RR.gPN (c2 := (KM.1 502).1 = 1) (pc' := 59) (lc' := [(0, .ref 500), (1, .int v1), (2, .int v2), (3, .int v3), (4, .int v4), (5, .int v5), (6, .int v6)]) (st' := [.int ((rI S 502 (1 : Int32).toNatClampNeg)), .int v6]) (S1 := S) (nL := 8) (cd := cd_2497) mx_2497 rfl rfl rfl rfl g ?_
    refine RR.runs (pc' := icm .ge v6 ((rI S 502 (1 : Int32).toNatClampNeg)) 121 62) (lc' := [(0, .ref 500), (1, .int v1), (2, .int v2), (3, .int v3), (4, .int v4), (5, .int v5), (6, .int v6)]) (st' := []) (S1 := S) (nL := 8) (cd := cd_2497) mx_2497 rfl rfl 1 rfl ?_
    rcases ifE h with ⟨c, h⟩ | ⟨c, h⟩
    · refine RR.c_ge (fun _ => ?_) (fun q => absurd c q)
      refine RR.runs (pc' := 66) (lc' := [(0, .ref 500), (1, .int v1), (2, .int v2), (3, .int v3), (4, .int v4), (5, .int v5), (6, .int v6)]) (st' := [.int v1, .int v6, .ref 500]) (S1 := S) (nL := 8) (cd := cd_2497) mx_2497 rfl rfl 3 rfl ?_
      obtain ⟨r1, S2, h1, h⟩ := bnE h
      refine RR.callV (b := 500) (as := [.int v6, .int v1]) (rest := []) (r1 := (some (.int r1))) (S1 := S2) mx_2497 rfl rfl mx_2475 rfl rfl (by decide) (Or.inl rfl) (Nat.le_of_ble_eq_true rfl) (Nat.le_of_ble_eq_true rfl) (RC.deep (by omega) (s_m_isFree (d := d) _ _ _ h1)) ?_
      show RR KM _ 2497 69 [(0, .ref 500), (1, .int v1), (2, .int v2), (3, .int v3), (4, .int v4), (5, .int v5), (6, .int v6)] [.int r1] S2 _ _
      refine RR.runs (pc' := icm .ne r1 0 75 72) (lc' := [(0, .ref 500), (1, .int v1), (2, .int v2), (3, .int v3), (4, .int v4), (5, .int v5), (6, .int v6)]) (st' := []) (S1 := S2) (nL := 8) (cd := cd_2497) mx_2497 rfl rfl 1 rfl ?_
      rcases ifE h with ⟨c, h⟩ | ⟨c, h⟩
      · refine RR.c_ne (fun _ => ?_) (fun q => absurd c q)
        refine RR.runs (pc' := 115) (lc' := [(0, .ref 500), (1, .int v1), (2, .int v2), (3, .int v3), (4, .int v4), (5, .int v5), (6, .int v6)]) (st' := []) (S1 := S2) (nL := 8) (cd := cd_2497) mx_2497 rfl rfl 1 rfl ?_
        refine RR.weak [(0, .ref 500), (1, .int v1), (2, .int v2), (3, .int v3), (4, .int v4), (5, .int v5), (6, .int v6)] ⟨rfl, rfl, rfl, rfl, rfl, rfl, rfl, trivial⟩ ?_
        exact s_m_best_115 _ (fun _ _ _ _ _ _ S h => ih _ _ _ _ _ _ S h) _ _ _ _ _ _ _ h
      · refine RR.c_ne (fun q => absurd q c) (fun _ => ?_)
        refine RR.runs (pc' := 84) (lc' := [(0, .ref 500), (1, .int v1), (2, .int v2), (3, .int v3), (4, .int v4), (5, .int v5), (6, .int v6)]) (st' := [.int v6, .int (((5 : Int32) + v1)), .ref 553]) (S1 := S2) (nL := 8) (cd := cd_2497) mx_2497 rfl rfl 6 rfl ?_
        obtain ⟨g, h⟩ := gnE h
        refine RR.gPN (c2 := (KM.1 553).1 = 1) (pc' := 85) (lc' := [(0, .ref 500), (1, .int v1), (2, .int v2), (3, .int v3), (4, .int v4), (5, .int v5), (6, .int v6)]) (st' := []) (S1 := (wI S2 553 (((5 : Int32) + v1)).toNatClampNeg v6)) (nL := 8) (cd := cd_2497) mx_2497 rfl rfl rfl rfl g ?_
        obtain ⟨S3, eS3, h⟩ := ltE h
        rw [← eS3]
        refine RR.runs (pc' := 87) (lc' := [(0, .ref 500), (1, .int v1), (2, .int v2), (3, .int v3), (4, .int v4), (5, .int v5), (6, .int v6)]) (st' := [.int v2, .ref 500]) (S1 := S3) (nL := 8) (cd := cd_2497) mx_2497 rfl rfl 2 rfl ?_
        obtain ⟨r4, S5, h1, h⟩ := bnE h
        refine RR.callV (b := 500) (as := [.int v2]) (rest := []) (r1 := (some (.int r4))) (S1 := S5) mx_2497 rfl rfl mx_2495 rfl rfl (by decide) (Or.inl rfl) (Nat.le_of_ble_eq_true rfl) (Nat.le_of_ble_eq_true rfl) (RC.deep (by omega) (s_m_lossOf (d := d) _ _ h1)) ?_
        show RR KM _ 2497 90 [(0, .ref 500), (1, .int v1), (2, .int v2), (3, .int v3), (4, .int v4), (5, .int v5), (6, .int v6)] [.int r4] S5 _ _
        refine RR.runs (pc' := icm .lt v4 0 107 97) (lc' := [(7, .int r4), (0, .ref 500), (1, .int v1), (2, .int v2), (3, .int v3), (4, .int v4), (5, .int v5), (6, .int v6)]) (st' := []) (S1 := S5) (nL := 8) (cd := cd_2497) mx_2497 rfl rfl 3 rfl ?_
        rcases ifE h with ⟨c, h⟩ | ⟨c, h⟩
        · refine RR.c_lt (fun _ => ?_) (fun q => absurd c q)
          refine RR.weak [(0, .ref 500), (1, .int v1), (2, .int v2), (3, .int v3), (6, .int v6), (7, .int r4)] ⟨rfl, rfl, rfl, rfl, rfl, rfl, trivial⟩ ?_
          exact s_m_best_107 _ (fun _ _ _ _ _ _ S h => ih _ _ _ _ _ _ S h) _ _ _ _ _ _ h
        · refine RR.c_lt (fun q => absurd q c) (fun _ => ?_)
          refine RR.runs (pc' := icm .lt r4 v5 107 104) (lc' := [(7, .int r4), (0, .ref 500), (1, .int v1), (2, .int v2), (3, .int v3), (4, .int v4), (5, .int v5), (6, .int v6)]) (st' := []) (S1 := S5) (nL := 8) (cd := cd_2497) mx_2497 rfl rfl 3 rfl ?_
          rcases ifE h with ⟨c, h⟩ | ⟨c, h⟩
          · refine RR.c_lt (fun _ => ?_) (fun q => absurd c q)
            refine RR.weak [(0, .ref 500), (1, .int v1), (2, .int v2), (3, .int v3), (6, .int v6), (7, .int r4)] ⟨rfl, rfl, rfl, rfl, rfl, rfl, trivial⟩ ?_
            exact s_m_best_107 _ (fun _ _ _ _ _ _ S h => ih _ _ _ _ _ _ S h) _ _ _ _ _ _ h
          · refine RR.c_lt (fun q => absurd q c) (fun _ => ?_)
            refine RR.runs (pc' := 115) (lc' := [(7, .int r4), (0, .ref 500), (1, .int v1), (2, .int v2), (3, .int v3), (4, .int v4), (5, .int v5), (6, .int v6)]) (st' := []) (S1 := S5) (nL := 8) (cd := cd_2497) mx_2497 rfl rfl 1 rfl ?_
            refine RR.weak [(0, .ref 500), (1, .int v1), (2, .int v2), (3, .int v3), (4, .int v4), (5, .int v5), (6, .int v6)] ⟨rfl, rfl, rfl, rfl, rfl, rfl, rfl, trivial⟩ ?_
            exact s_m_best_115 _ (fun _ _ _ _ _ _ S h => ih _ _ _ _ _ _ S h) _ _ _ _ _ _ _ h
    · refine RR.c_ge (fun q => absurd q c) (fun _ => ?_)
      refine RR.weak [(0, .ref 500), (1, .int v1), (3, .int v3), (4, .int v4)] ⟨rfl, rfl, rfl, rfl, trivial⟩ ?_
      exact s_m_best_121 _ _ _ _ h
def m_best (v1 : Int32) (v2 : Int32) (S : St) : Re Int32 :=
  lt' (wI S 500 0 (0 : Int32)) fun S1 =>
  bn (m_isApple v1 S1) fun r2 S3 =>
  if r2 = 0 then (
    m_best_31 S3)
  else (
    bn (m_hangs v1 S3) fun r4 S5 =>
    if r4 = 0 then (
      m_best_31 S5)
    else (
      bn (m_within v2 (1 : Int32) (30 : Int32) S5) fun r6 S7 =>
      if r6 = 0 then (
        m_best_31 S7)
      else (
        if ((5 : Int32) + v1) < 0 ∨ 15 ≤ (((5 : Int32) + v1)).toNatClampNeg then none else
        lt' ((rI S7 553 (((5 : Int32) + v1)).toNatClampNeg) : Int32) fun x8 =>
        m_best_51 FU v1 v2 x8 (-1 : Int32) (0 : Int32) (0 : Int32) S7)))
set_option maxRecDepth 100000 in
theorem s0_m_best {d : Nat} {S' : St} {r : Int32} (v1 : Int32) (v2 : Int32) (S : St) (h : m_best v1 v2 S = some (r, S')) : RR KM (d + 2) 2497 0 [(0, .ref 500), (1, .int v1), (2, .int v2)] [] S (some (.int r)) S' := by
  unfold m_best at h
  refine RR.runs (pc' := 5) (lc' := [(0, .ref 500), (1, .int v1), (2, .int v2)]) (st' := []) (S1 := (wI S 500 0 (0 : Int32))) (nL := 8) (cd := cd_2497) mx_2497 rfl rfl 3 rfl ?_
  obtain ⟨S1, eS1, h⟩ := ltE h
  rw [← eS1]
  refine RR.runs (pc' := 7) (lc' := [(0, .ref 500), (1, .int v1), (2, .int v2)]) (st' := [.int v1, .ref 500]) (S1 := S1) (nL := 8) (cd := cd_2497) mx_2497 rfl rfl 2 rfl ?_
  obtain ⟨r2, S3, h1, h⟩ := bnE h
  refine RR.callV (b := 500) (as := [.int v1]) (rest := []) (r1 := (some (.int r2))) (S1 := S3) mx_2497 rfl rfl mx_2455 rfl rfl (by decide) (Or.inl rfl) (Nat.le_of_ble_eq_true rfl) (Nat.le_of_ble_eq_true rfl) (RC.deep (by omega) (s_m_isApple (d := d) _ _ h1)) ?_
  show RR KM _ 2497 10 [(0, .ref 500), (1, .int v1), (2, .int v2)] [.int r2] S3 _ _
  refine RR.runs (pc' := icm .eq r2 0 31 13) (lc' := [(0, .ref 500), (1, .int v1), (2, .int v2)]) (st' := []) (S1 := S3) (nL := 8) (cd := cd_2497) mx_2497 rfl rfl 1 rfl ?_
  rcases ifE h with ⟨c, h⟩ | ⟨c, h⟩
  · refine RR.c_eq (fun _ => ?_) (fun q => absurd c q)
    refine RR.weak [] trivial ?_
    exact s_m_best_31 _ h
  · refine RR.c_eq (fun q => absurd q c) (fun _ => ?_)
    refine RR.runs (pc' := 15) (lc' := [(0, .ref 500), (1, .int v1), (2, .int v2)]) (st' := [.int v1, .ref 500]) (S1 := S3) (nL := 8) (cd := cd_2497) mx_2497 rfl rfl 2 rfl ?_
    obtain ⟨r4, S5, h1, h⟩ := bnE h
    refine RR.callV (b := 500) (as := [.int v1]) (rest := []) (r1 := (some (.int r4))) (S1 := S5) mx_2497 rfl rfl mx_2458 rfl rfl (by decide) (Or.inl rfl) (Nat.le_of_ble_eq_true rfl) (Nat.le_of_ble_eq_true rfl) (RC.deep (by omega) (s_m_hangs (d := d) _ _ h1)) ?_
    show RR KM _ 2497 18 [(0, .ref 500), (1, .int v1), (2, .int v2)] [.int r4] S5 _ _
    refine RR.runs (pc' := icm .eq r4 0 31 21) (lc' := [(0, .ref 500), (1, .int v1), (2, .int v2)]) (st' := []) (S1 := S5) (nL := 8) (cd := cd_2497) mx_2497 rfl rfl 1 rfl ?_
    rcases ifE h with ⟨c, h⟩ | ⟨c, h⟩
    · refine RR.c_eq (fun _ => ?_) (fun q => absurd c q)
      refine RR.weak [] trivial ?_
      exact s_m_best_31 _ h
    · refine RR.c_eq (fun q => absurd q c) (fun _ => ?_)
      refine RR.runs (pc' := 25) (lc' := [(0, .ref 500), (1, .int v1), (2, .int v2)]) (st' := [.int (30 : Int32), .int (1 : Int32), .int v2]) (S1 := S5) (nL := 8) (cd := cd_2497) mx_2497 rfl rfl 3 rfl ?_
      obtain ⟨r6, S7, h1, h⟩ := bnE h
      refine RR.callS (as := [.int v2, .int (1 : Int32), .int (30 : Int32)]) (rest := []) (r1 := (some (.int r6))) (S1 := S7) mx_2497 rfl rfl mx_2402 rfl rfl (by decide) (Nat.le_of_ble_eq_true rfl) (Nat.le_of_ble_eq_true rfl) (Nat.le_of_ble_eq_true rfl) (RC.deep (by omega) (s_m_within (d := d) _ _ _ _ h1)) ?_
      show RR KM _ 2497 28 [(0, .ref 500), (1, .int v1), (2, .int v2)] [.int r6] S7 _ _
      refine RR.runs (pc' := icm .ne r6 0 33 31) (lc' := [(0, .ref 500), (1, .int v1), (2, .int v2)]) (st' := []) (S1 := S7) (nL := 8) (cd := cd_2497) mx_2497 rfl rfl 1 rfl ?_
      rcases ifE h with ⟨c, h⟩ | ⟨c, h⟩
      · refine RR.c_ne (fun _ => ?_) (fun q => absurd c q)
        refine RR.weak [] trivial ?_
        exact s_m_best_31 _ h
      · refine RR.c_ne (fun q => absurd q c) (fun _ => ?_)
        refine RR.runs (pc' := 40) (lc' := [(0, .ref 500), (1, .int v1), (2, .int v2)]) (st' := [.int (((5 : Int32) + v1)), .ref 553]) (S1 := S7) (nL := 8) (cd := cd_2497) mx_2497 rfl rfl 5 rfl ?_
        obtain ⟨g, h⟩ := gnE h
        refine RR.gPN (c2 := (KM.1 553).1 = 1) (pc' := 41) (lc' := [(0, .ref 500), (1, .int v1), (2, .int v2)]) (st' := [.int ((rI S7 553 (((5 : Int32) + v1)).toNatClampNeg))]) (S1 := S7) (nL := 8) (cd := cd_2497) mx_2497 rfl rfl rfl rfl g ?_
        refine RR.runs (pc' := 42) (lc' := [(3, .int ((rI S7 553 (((5 : Int32) + v1)).toNatClampNeg))), (0, .ref 500), (1, .int v1), (2, .int v2)]) (st' := []) (S1 := S7) (nL := 8) (cd := cd_2497) mx_2497 rfl rfl 1 rfl ?_
        obtain ⟨x8, ex8, h⟩ := ltE h
        rw [← ex8]
        refine RR.runs (pc' := 51) (lc' := [(6, .int (0 : Int32)), (5, .int (0 : Int32)), (4, .int (-1 : Int32)), (3, .int x8), (0, .ref 500), (1, .int v1), (2, .int v2)]) (st' := []) (S1 := S7) (nL := 8) (cd := cd_2497) mx_2497 rfl rfl 6 rfl ?_
        refine RR.weak [(0, .ref 500), (1, .int v1), (2, .int v2), (3, .int x8), (4, .int (-1 : Int32)), (5, .int (0 : Int32)), (6, .int (0 : Int32))] ⟨rfl, rfl, rfl, rfl, rfl, rfl, rfl, trivial⟩ ?_
        exact s_m_best_51 _ _ _ _ _ _ _ _ h
theorem s_m_best {d : Nat} {S' : St} {r : Int32} (v1 : Int32) (v2 : Int32) (S : St) (h : m_best v1 v2 S = some (r, S')) : RC KM (d + 2) 2497 [.ref 500, .int v1, .int v2] S (some (.int r)) S' := RC.of rfl (s0_m_best v1 v2 S h)
-- thiefOf (III)I
def m_thiefOf_127 (k92 : Int32 → Int32 → Int32 → Int32 → Int32 → Int32 → Int32 → Int32 → Int32 → St → Re Int32) (v1 : Int32) (v2 : Int32) (v3 : Int32) (v4 : Int32) (v5 : Int32) (v7 : Int32) (v8 : Int32) (v9 : Int32) (p0 : Int32) (p1 : Int32) (S : St) : Re Int32 :=
  lt' ((p1 + p0) : Int32) fun x1 =>
  lt' ((v9 + (1 : Int32)) : Int32) fun x2 =>
  k92 v1 v2 v3 v4 v5 x1 v7 v8 x2 S
set_option maxRecDepth 100000 in
theorem s_m_thiefOf_127 {d : Nat} (k92 : Int32 → Int32 → Int32 → Int32 → Int32 → Int32 → Int32 → Int32 → Int32 → St → Re Int32) {S' : St} {r : Int32} (b92 : ∀ (v1 : Int32) (v2 : Int32) (v3 : Int32) (v4 : Int32) (v5 : Int32) (v6 : Int32) (v7 : Int32) (v8 : Int32) (v9 : Int32) (S : St), k92 v1 v2 v3 v4 v5 v6 v7 v8 v9 S = some (r, S') → RR KM (d + 2) 2498 92 [(0, .ref 500), (1, .int v1), (2, .int v2), (3, .int v3), (4, .int v4), (5, .int v5), (6, .int v6), (7, .int v7), (8, .int v8), (9, .int v9)] [] S (some (.int r)) S') (v1 : Int32) (v2 : Int32) (v3 : Int32) (v4 : Int32) (v5 : Int32) (v7 : Int32) (v8 : Int32) (v9 : Int32) (p0 : Int32) (p1 : Int32) (S : St) (h : m_thiefOf_127 k92 v1 v2 v3 v4 v5 v7 v8 v9 p0 p1 S = some (r, S')) : RR KM (d + 2) 2498 127 [(0, .ref 500), (1, .int v1), (2, .int v2), (3, .int v3), (4, .int v4), (5, .int v5), (7, .int v7), (8, .int v8), (9, .int v9)] [.int p0, .int p1] S (some (.int r)) S' := by
  unfold m_thiefOf_127 at h
  refine RR.runs (pc' := 130) (lc' := [(6, .int (p1 + p0)), (0, .ref 500), (1, .int v1), (2, .int v2), (3, .int v3), (4, .int v4), (5, .int v5), (7, .int v7), (8, .int v8), (9, .int v9)]) (st' := []) (S1 := S) (nL := 10) (cd := cd_2498) mx_2498 rfl rfl 2 rfl ?_
  obtain ⟨x1, ex1, h⟩ := ltE h
  rw [← ex1]
  refine RR.runs (pc' := 133) (lc' := [(9, .int ((v9 + (1 : Int32)))), (6, .int x1), (0, .ref 500), (1, .int v1), (2, .int v2), (3, .int v3), (4, .int v4), (5, .int v5), (7, .int v7), (8, .int v8)]) (st' := []) (S1 := S) (nL := 10) (cd := cd_2498) mx_2498 rfl rfl 1 rfl ?_
  obtain ⟨x2, ex2, h⟩ := ltE h
  rw [← ex2]
  refine RR.runs (pc' := 92) (lc' := [(9, .int x2), (6, .int x1), (0, .ref 500), (1, .int v1), (2, .int v2), (3, .int v3), (4, .int v4), (5, .int v5), (7, .int v7), (8, .int v8)]) (st' := []) (S1 := S) (nL := 10) (cd := cd_2498) mx_2498 rfl rfl 1 rfl ?_
  refine RR.weak [(0, .ref 500), (1, .int v1), (2, .int v2), (3, .int v3), (4, .int v4), (5, .int v5), (6, .int x1), (7, .int v7), (8, .int v8), (9, .int x2)] ⟨rfl, rfl, rfl, rfl, rfl, rfl, rfl, rfl, rfl, rfl, trivial⟩ ?_
  exact b92 _ _ _ _ _ _ _ _ _ _ h
def m_thiefOf_136 (k22 : Int32 → Int32 → Int32 → Int32 → Int32 → Int32 → Int32 → St → Re Int32) (v1 : Int32) (v2 : Int32) (v3 : Int32) (v4 : Int32) (v5 : Int32) (v6 : Int32) (v7 : Int32) (S : St) : Re Int32 :=
  lt' ((v7 + (1 : Int32)) : Int32) fun x1 =>
  k22 v1 v2 v3 v4 v5 v6 x1 S
set_option maxRecDepth 100000 in
theorem s_m_thiefOf_136 {d : Nat} (k22 : Int32 → Int32 → Int32 → Int32 → Int32 → Int32 → Int32 → St → Re Int32) {S' : St} {r : Int32} (b22 : ∀ (v1 : Int32) (v2 : Int32) (v3 : Int32) (v4 : Int32) (v5 : Int32) (v6 : Int32) (v7 : Int32) (S : St), k22 v1 v2 v3 v4 v5 v6 v7 S = some (r, S') → RR KM (d + 2) 2498 22 [(0, .ref 500), (1, .int v1), (2, .int v2), (3, .int v3), (4, .int v4), (5, .int v5), (6, .int v6), (7, .int v7)] [] S (some (.int r)) S') (v1 : Int32) (v2 : Int32) (v3 : Int32) (v4 : Int32) (v5 : Int32) (v6 : Int32) (v7 : Int32) (S : St) (h : m_thiefOf_136 k22 v1 v2 v3 v4 v5 v6 v7 S = some (r, S')) : RR KM (d + 2) 2498 136 [(0, .ref 500), (1, .int v1), (2, .int v2), (3, .int v3), (4, .int v4), (5, .int v5), (6, .int v6), (7, .int v7)] [] S (some (.int r)) S' := by
  unfold m_thiefOf_136 at h
  refine RR.runs (pc' := 139) (lc' := [(7, .int ((v7 + (1 : Int32)))), (0, .ref 500), (1, .int v1), (2, .int v2), (3, .int v3), (4, .int v4), (5, .int v5), (6, .int v6)]) (st' := []) (S1 := S) (nL := 10) (cd := cd_2498) mx_2498 rfl rfl 1 rfl ?_
  obtain ⟨x1, ex1, h⟩ := ltE h
  rw [← ex1]
  refine RR.runs (pc' := 22) (lc' := [(7, .int x1), (0, .ref 500), (1, .int v1), (2, .int v2), (3, .int v3), (4, .int v4), (5, .int v5), (6, .int v6)]) (st' := []) (S1 := S) (nL := 10) (cd := cd_2498) mx_2498 rfl rfl 1 rfl ?_
  refine RR.weak [(0, .ref 500), (1, .int v1), (2, .int v2), (3, .int v3), (4, .int v4), (5, .int v5), (6, .int v6), (7, .int x1)] ⟨rfl, rfl, rfl, rfl, rfl, rfl, rfl, rfl, trivial⟩ ?_
  exact b22 _ _ _ _ _ _ _ _ h
def m_thiefOf_92 (k22 : Int32 → Int32 → Int32 → Int32 → Int32 → Int32 → Int32 → St → Re Int32) : Nat → Int32 → Int32 → Int32 → Int32 → Int32 → Int32 → Int32 → Int32 → Int32 → St → Re Int32
  | 0, _, _, _, _, _, _, _, _, _, _ => none
  | n + 1, v1, v2, v3, v4, v5, v6, v7, v8, v9, S =>
  if (0 : Int32) < 0 ∨ 12 ≤ (0 : Int32).toNatClampNeg then none else
  if v9 < (rI S 502 (0 : Int32).toNatClampNeg) then (
    if ((v8 >>> (v9 &&& 31)) &&& (1 : Int32)) = (1 : Int32) then (
      if v9 < 0 ∨ 20 ≤ v9.toNatClampNeg then none else
      m_thiefOf_127 (m_thiefOf_92 k22 n) v1 v2 v3 v4 v5 v7 v8 v9 (rI S 510 v9.toNatClampNeg) v6 S)
    else (
      m_thiefOf_127 (m_thiefOf_92 k22 n) v1 v2 v3 v4 v5 v7 v8 v9 (0 : Int32) v6 S))
  else (
    m_thiefOf_136 k22 v1 v2 v3 v4 v5 v6 v7 S)
set_option maxRecDepth 100000 in
theorem s_m_thiefOf_92 {d : Nat} (k22 : Int32 → Int32 → Int32 → Int32 → Int32 → Int32 → Int32 → St → Re Int32) {S' : St} {r : Int32} (b22 : ∀ (v1 : Int32) (v2 : Int32) (v3 : Int32) (v4 : Int32) (v5 : Int32) (v6 : Int32) (v7 : Int32) (S : St), k22 v1 v2 v3 v4 v5 v6 v7 S = some (r, S') → RR KM (d + 2) 2498 22 [(0, .ref 500), (1, .int v1), (2, .int v2), (3, .int v3), (4, .int v4), (5, .int v5), (6, .int v6), (7, .int v7)] [] S (some (.int r)) S') : ∀ (n : Nat) (v1 : Int32) (v2 : Int32) (v3 : Int32) (v4 : Int32) (v5 : Int32) (v6 : Int32) (v7 : Int32) (v8 : Int32) (v9 : Int32) (S : St), m_thiefOf_92 k22 n v1 v2 v3 v4 v5 v6 v7 v8 v9 S = some (r, S') → RR KM (d + 2) 2498 92 [(0, .ref 500), (1, .int v1), (2, .int v2), (3, .int v3), (4, .int v4), (5, .int v5), (6, .int v6), (7, .int v7), (8, .int v8), (9, .int v9)] [] S (some (.int r)) S' := by
  intro n
  induction n with
  | zero => intro v1 v2 v3 v4 v5 v6 v7 v8 v9 S h; simp only [m_thiefOf_92] at h; cases h
  | succ n ih =>
    intro v1 v2 v3 v4 v5 v6 v7 v8 v9 S h
    simp only [m_thiefOf_92] at h
    refine RR.runs (pc' := 99) (lc' := [(0, .ref 500), (1, .int v1), (2, .int v2), (3, .int v3), (4, .int v4), (5, .int v5), (6, .int v6), (7, .int v7), (8, .int v8), (9, .int v9)]) (st' := [.int (0 : Int32), .ref 502, .int v9]) (S1 := S) (nL := 10) (cd := cd_2498) mx_2498 rfl rfl 4 rfl ?_
    obtain ⟨g, h⟩ := gnE h
    refine RR.gPN (c2 := (KM.1 502).1 = 1) (pc' := 100) (lc' := [(0, .ref 500), (1, .int v1), (2, .int v2), (3, .int v3), (4, .int v4), (5, .int v5), (6, .int v6), (7, .int v7), (8, .int v8), (9, .int v9)]) (st' := [.int ((rI S 502 (0 : Int32).toNatClampNeg)), .int v9]) (S1 := S) (nL := 10) (cd := cd_2498) mx_2498 rfl rfl rfl rfl g ?_
    refine RR.runs (pc' := icm .ge v9 ((rI S 502 (0 : Int32).toNatClampNeg)) 136 103) (lc' := [(0, .ref 500), (1, .int v1), (2, .int v2), (3, .int v3), (4, .int v4), (5, .int v5), (6, .int v6), (7, .int v7), (8, .int v8), (9, .int v9)]) (st' := []) (S1 := S) (nL := 10) (cd := cd_2498) mx_2498 rfl rfl 1 rfl ?_
    rcases ifE h with ⟨c, h⟩ | ⟨c, h⟩
    · refine RR.c_ge (fun _ => ?_) (fun q => absurd c q)
      refine RR.runs (pc' := icm .ne (((v8 >>> (v9 &&& 31)) &&& (1 : Int32))) (1 : Int32) 126 116) (lc' := [(0, .ref 500), (1, .int v1), (2, .int v2), (3, .int v3), (4, .int v4), (5, .int v5), (6, .int v6), (7, .int v7), (8, .int v8), (9, .int v9)]) (st' := [.int v6]) (S1 := S) (nL := 10) (cd := cd_2498) mx_2498 rfl rfl 8 rfl ?_
      rcases ifE h with ⟨c, h⟩ | ⟨c, h⟩
      · refine RR.c_ne (fun _ => ?_) (fun q => absurd c q)
        refine RR.runs (pc' := 122) (lc' := [(0, .ref 500), (1, .int v1), (2, .int v2), (3, .int v3), (4, .int v4), (5, .int v5), (6, .int v6), (7, .int v7), (8, .int v8), (9, .int v9)]) (st' := [.int v9, .ref 510, .int v6]) (S1 := S) (nL := 10) (cd := cd_2498) mx_2498 rfl rfl 3 rfl ?_
        obtain ⟨g, h⟩ := gnE h
        refine RR.gPN (c2 := (KM.1 510).1 = 1) (pc' := 123) (lc' := [(0, .ref 500), (1, .int v1), (2, .int v2), (3, .int v3), (4, .int v4), (5, .int v5), (6, .int v6), (7, .int v7), (8, .int v8), (9, .int v9)]) (st' := [.int (rI S 510 v9.toNatClampNeg), .int v6]) (S1 := S) (nL := 10) (cd := cd_2498) mx_2498 rfl rfl rfl rfl g ?_
        refine RR.runs (pc' := 127) (lc' := [(0, .ref 500), (1, .int v1), (2, .int v2), (3, .int v3), (4, .int v4), (5, .int v5), (6, .int v6), (7, .int v7), (8, .int v8), (9, .int v9)]) (st' := [.int (rI S 510 v9.toNatClampNeg), .int v6]) (S1 := S) (nL := 10) (cd := cd_2498) mx_2498 rfl rfl 1 rfl ?_
        refine RR.weak [(0, .ref 500), (1, .int v1), (2, .int v2), (3, .int v3), (4, .int v4), (5, .int v5), (7, .int v7), (8, .int v8), (9, .int v9)] ⟨rfl, rfl, rfl, rfl, rfl, rfl, rfl, rfl, rfl, trivial⟩ ?_
        exact s_m_thiefOf_127 _ (fun _ _ _ _ _ _ _ _ _ S h => ih _ _ _ _ _ _ _ _ _ S h) _ _ _ _ _ _ _ _ _ _ _ h
      · refine RR.c_ne (fun q => absurd q c) (fun _ => ?_)
        refine RR.runs (pc' := 127) (lc' := [(0, .ref 500), (1, .int v1), (2, .int v2), (3, .int v3), (4, .int v4), (5, .int v5), (6, .int v6), (7, .int v7), (8, .int v8), (9, .int v9)]) (st' := [.int (0 : Int32), .int v6]) (S1 := S) (nL := 10) (cd := cd_2498) mx_2498 rfl rfl 1 rfl ?_
        refine RR.weak [(0, .ref 500), (1, .int v1), (2, .int v2), (3, .int v3), (4, .int v4), (5, .int v5), (7, .int v7), (8, .int v8), (9, .int v9)] ⟨rfl, rfl, rfl, rfl, rfl, rfl, rfl, rfl, rfl, trivial⟩ ?_
        exact s_m_thiefOf_127 _ (fun _ _ _ _ _ _ _ _ _ S h => ih _ _ _ _ _ _ _ _ _ S h) _ _ _ _ _ _ _ _ _ _ _ h
    · refine RR.c_ge (fun q => absurd q c) (fun _ => ?_)
      refine RR.weak [(0, .ref 500), (1, .int v1), (2, .int v2), (3, .int v3), (4, .int v4), (5, .int v5), (6, .int v6), (7, .int v7)] ⟨rfl, rfl, rfl, rfl, rfl, rfl, rfl, rfl, trivial⟩ ?_
      exact s_m_thiefOf_136 _ b22 _ _ _ _ _ _ _ _ h
def m_thiefOf_142 (v6 : Int32) (S : St) : Re Int32 :=
  some (v6, S)
set_option maxRecDepth 100000 in
theorem s_m_thiefOf_142 {d : Nat} {S' : St} {r : Int32} (v6 : Int32) (S : St) (h : m_thiefOf_142 v6 S = some (r, S')) : RR KM (d + 2) 2498 142 [(6, .int v6)] [] S (some (.int r)) S' := by
  unfold m_thiefOf_142 at h
  refine RR.runs (pc' := 144) (lc' := [(6, .int v6)]) (st' := [.int v6]) (S1 := S) (nL := 10) (cd := cd_2498) mx_2498 rfl rfl 1 rfl ?_
  cases h
  exact RR.reti mx_2498 rfl rfl rfl
def m_thiefOf_22 : Nat → Int32 → Int32 → Int32 → Int32 → Int32 → Int32 → Int32 → St → Re Int32
  | 0, _, _, _, _, _, _, _, _ => none
  | n + 1, v1, v2, v3, v4, v5, v6, v7, S =>
  if v1 < 0 ∨ 8 ≤ v1.toNatClampNeg then none else
  if v7 < (rI S 518 v1.toNatClampNeg) then (
    if (((10 : Int32) * v1) + v7) < 0 ∨ 80 ≤ ((((10 : Int32) * v1) + v7)).toNatClampNeg then none else
    if (rI S 517 ((((10 : Int32) * v1) + v7)).toNatClampNeg) < 0 ∨ 20 ≤ ((rI S 517 ((((10 : Int32) * v1) + v7)).toNatClampNeg)).toNatClampNeg then none else
    bn (m_hears ((rI S 505 ((rI S 517 ((((10 : Int32) * v1) + v7)).toNatClampNeg)).toNatClampNeg)) v2 v3 S) fun r1 S2 =>
    bn (m_fallsBy v4 v5 (rI S2 500 70) (rI S2 500 71) S2) fun r3 S4 =>
    lt' ((v4 &&& (r3 ^^^ (-1 : Int32))) : Int32) fun x5 =>
    lt' ((rI S4 500 72) : Int32) fun x6 =>
    m_thiefOf_92 (m_thiefOf_22 n) FU v1 v2 v3 x5 x6 v6 v7 r3 (0 : Int32) S4)
  else (
    m_thiefOf_142 v6 S)
set_option maxRecDepth 100000 in
theorem s_m_thiefOf_22 {d : Nat} {S' : St} {r : Int32} : ∀ (n : Nat) (v1 : Int32) (v2 : Int32) (v3 : Int32) (v4 : Int32) (v5 : Int32) (v6 : Int32) (v7 : Int32) (S : St), m_thiefOf_22 n v1 v2 v3 v4 v5 v6 v7 S = some (r, S') → RR KM (d + 2) 2498 22 [(0, .ref 500), (1, .int v1), (2, .int v2), (3, .int v3), (4, .int v4), (5, .int v5), (6, .int v6), (7, .int v7)] [] S (some (.int r)) S' := by
  intro n
  induction n with
  | zero => intro v1 v2 v3 v4 v5 v6 v7 S h; simp only [m_thiefOf_22] at h; cases h
  | succ n ih =>
    intro v1 v2 v3 v4 v5 v6 v7 S h
    simp only [m_thiefOf_22] at h
    refine RR.runs (pc' := 29) (lc' := [(0, .ref 500), (1, .int v1), (2, .int v2), (3, .int v3), (4, .int v4), (5, .int v5), (6, .int v6), (7, .int v7)]) (st' := [.int v1, .ref 518, .int v7]) (S1 := S) (nL := 10) (cd := cd_2498) mx_2498 rfl rfl 4 rfl ?_
    obtain ⟨g, h⟩ := gnE h
    refine RR.gPN (c2 := (KM.1 518).1 = 1) (pc' := 30) (lc' := [(0, .ref 500), (1, .int v1), (2, .int v2), (3, .int v3), (4, .int v4), (5, .int v5), (6, .int v6), (7, .int v7)]) (st' := [.int (rI S 518 v1.toNatClampNeg), .int v7]) (S1 := S) (nL := 10) (cd := cd_2498) mx_2498 rfl rfl rfl rfl g ?_
    refine RR.runs (pc' := icm .ge v7 (rI S 518 v1.toNatClampNeg) 142 33) (lc' := [(0, .ref 500), (1, .int v1), (2, .int v2), (3, .int v3), (4, .int v4), (5, .int v5), (6, .int v6), (7, .int v7)]) (st' := []) (S1 := S) (nL := 10) (cd := cd_2498) mx_2498 rfl rfl 1 rfl ?_
    rcases ifE h with ⟨c, h⟩ | ⟨c, h⟩
    · refine RR.c_ge (fun _ => ?_) (fun q => absurd c q)
      refine RR.runs (pc' := 49) (lc' := [(0, .ref 500), (1, .int v1), (2, .int v2), (3, .int v3), (4, .int v4), (5, .int v5), (6, .int v6), (7, .int v7)]) (st' := [.int ((((10 : Int32) * v1) + v7)), .ref 517, .ref 505, .ref 500]) (S1 := S) (nL := 10) (cd := cd_2498) mx_2498 rfl rfl 10 rfl ?_
      obtain ⟨g, h⟩ := gnE h
      refine RR.gPN (c2 := (KM.1 517).1 = 1) (pc' := 50) (lc' := [(0, .ref 500), (1, .int v1), (2, .int v2), (3, .int v3), (4, .int v4), (5, .int v5), (6, .int v6), (7, .int v7)]) (st' := [.int ((rI S 517 ((((10 : Int32) * v1) + v7)).toNatClampNeg)), .ref 505, .ref 500]) (S1 := S) (nL := 10) (cd := cd_2498) mx_2498 rfl rfl rfl rfl g ?_
      obtain ⟨g, h⟩ := gnE h
      refine RR.gPN (c2 := (KM.1 505).1 = 1) (pc' := 51) (lc' := [(0, .ref 500), (1, .int v1), (2, .int v2), (3, .int v3), (4, .int v4), (5, .int v5), (6, .int v6), (7, .int v7)]) (st' := [.int ((rI S 505 ((rI S 517 ((((10 : Int32) * v1) + v7)).toNatClampNeg)).toNatClampNeg)), .ref 500]) (S1 := S) (nL := 10) (cd := cd_2498) mx_2498 rfl rfl rfl rfl g ?_
      refine RR.runs (pc' := 53) (lc' := [(0, .ref 500), (1, .int v1), (2, .int v2), (3, .int v3), (4, .int v4), (5, .int v5), (6, .int v6), (7, .int v7)]) (st' := [.int v3, .int v2, .int ((rI S 505 ((rI S 517 ((((10 : Int32) * v1) + v7)).toNatClampNeg)).toNatClampNeg)), .ref 500]) (S1 := S) (nL := 10) (cd := cd_2498) mx_2498 rfl rfl 2 rfl ?_
      obtain ⟨r1, S2, h1, h⟩ := bnE h
      refine RR.callV (b := 500) (as := [.int ((rI S 505 ((rI S 517 ((((10 : Int32) * v1) + v7)).toNatClampNeg)).toNatClampNeg)), .int v2, .int v3]) (rest := []) (r1 := none) (S1 := S2) mx_2498 rfl rfl mx_2464 rfl rfl (by decide) (Or.inl rfl) (Nat.le_of_ble_eq_true rfl) (Nat.le_of_ble_eq_true rfl) (RC.deep (by omega) (s_m_hears (d := d) _ _ _ _ h1)) ?_
      show RR KM _ 2498 56 [(0, .ref 500), (1, .int v1), (2, .int v2), (3, .int v3), (4, .int v4), (5, .int v5), (6, .int v6), (7, .int v7)] [] S2 _ _
      refine RR.runs (pc' := 69) (lc' := [(0, .ref 500), (1, .int v1), (2, .int v2), (3, .int v3), (4, .int v4), (5, .int v5), (6, .int v6), (7, .int v7)]) (st' := [.int (rI S2 500 71), .int (rI S2 500 70), .int v5, .int v4, .ref 500]) (S1 := S2) (nL := 10) (cd := cd_2498) mx_2498 rfl rfl 7 rfl ?_
      obtain ⟨r3, S4, h1, h⟩ := bnE h
      refine RR.callV (b := 500) (as := [.int v4, .int v5, .int (rI S2 500 70), .int (rI S2 500 71)]) (rest := []) (r1 := (some (.int r3))) (S1 := S4) mx_2498 rfl rfl mx_2466 rfl rfl (by decide) (Or.inl rfl) (Nat.le_of_ble_eq_true rfl) (Nat.le_of_ble_eq_true rfl) (RC.deep (by omega) (s_m_fallsBy (d := d) _ _ _ _ _ h1)) ?_
      show RR KM _ 2498 72 [(0, .ref 500), (1, .int v1), (2, .int v2), (3, .int v3), (4, .int v4), (5, .int v5), (6, .int v6), (7, .int v7)] [.int r3] S4 _ _
      refine RR.runs (pc' := 83) (lc' := [(4, .int ((v4 &&& (r3 ^^^ (-1 : Int32))))), (8, .int r3), (0, .ref 500), (1, .int v1), (2, .int v2), (3, .int v3), (5, .int v5), (6, .int v6), (7, .int v7)]) (st' := []) (S1 := S4) (nL := 10) (cd := cd_2498) mx_2498 rfl rfl 7 rfl ?_
      obtain ⟨x5, ex5, h⟩ := ltE h
      rw [← ex5]
      refine RR.runs (pc' := 89) (lc' := [(5, .int (rI S4 500 72)), (4, .int x5), (8, .int r3), (0, .ref 500), (1, .int v1), (2, .int v2), (3, .int v3), (6, .int v6), (7, .int v7)]) (st' := []) (S1 := S4) (nL := 10) (cd := cd_2498) mx_2498 rfl rfl 3 rfl ?_
      obtain ⟨x6, ex6, h⟩ := ltE h
      rw [← ex6]
      refine RR.runs (pc' := 92) (lc' := [(9, .int (0 : Int32)), (5, .int x6), (4, .int x5), (8, .int r3), (0, .ref 500), (1, .int v1), (2, .int v2), (3, .int v3), (6, .int v6), (7, .int v7)]) (st' := []) (S1 := S4) (nL := 10) (cd := cd_2498) mx_2498 rfl rfl 2 rfl ?_
      refine RR.weak [(0, .ref 500), (1, .int v1), (2, .int v2), (3, .int v3), (4, .int x5), (5, .int x6), (6, .int v6), (7, .int v7), (8, .int r3), (9, .int (0 : Int32))] ⟨rfl, rfl, rfl, rfl, rfl, rfl, rfl, rfl, rfl, rfl, trivial⟩ ?_
      exact s_m_thiefOf_92 _ (fun _ _ _ _ _ _ _ S h => ih _ _ _ _ _ _ _ S h) _ _ _ _ _ _ _ _ _ _ _ h
    · refine RR.c_ge (fun q => absurd q c) (fun _ => ?_)
      refine RR.weak [(6, .int v6)] ⟨rfl, trivial⟩ ?_
      exact s_m_thiefOf_142 _ _ h
def m_thiefOf (v1 : Int32) (v2 : Int32) (v3 : Int32) (S : St) : Re Int32 :=
  if (0 : Int32) < 0 ∨ 15 ≤ (0 : Int32).toNatClampNeg then none else
  lt' ((rI S 553 (0 : Int32).toNatClampNeg) : Int32) fun x1 =>
  if (1 : Int32) < 0 ∨ 15 ≤ (1 : Int32).toNatClampNeg then none else
  lt' ((rI S 553 (1 : Int32).toNatClampNeg) : Int32) fun x2 =>
  m_thiefOf_22 FU v1 v2 v3 x1 x2 (0 : Int32) (0 : Int32) S
set_option maxRecDepth 100000 in
theorem s0_m_thiefOf {d : Nat} {S' : St} {r : Int32} (v1 : Int32) (v2 : Int32) (v3 : Int32) (S : St) (h : m_thiefOf v1 v2 v3 S = some (r, S')) : RR KM (d + 2) 2498 0 [(0, .ref 500), (1, .int v1), (2, .int v2), (3, .int v3)] [] S (some (.int r)) S' := by
  unfold m_thiefOf at h
  refine RR.runs (pc' := 5) (lc' := [(0, .ref 500), (1, .int v1), (2, .int v2), (3, .int v3)]) (st' := [.int (0 : Int32), .ref 553]) (S1 := S) (nL := 10) (cd := cd_2498) mx_2498 rfl rfl 3 rfl ?_
  obtain ⟨g, h⟩ := gnE h
  refine RR.gPN (c2 := (KM.1 553).1 = 1) (pc' := 6) (lc' := [(0, .ref 500), (1, .int v1), (2, .int v2), (3, .int v3)]) (st' := [.int ((rI S 553 (0 : Int32).toNatClampNeg))]) (S1 := S) (nL := 10) (cd := cd_2498) mx_2498 rfl rfl rfl rfl g ?_
  refine RR.runs (pc' := 8) (lc' := [(4, .int ((rI S 553 (0 : Int32).toNatClampNeg))), (0, .ref 500), (1, .int v1), (2, .int v2), (3, .int v3)]) (st' := []) (S1 := S) (nL := 10) (cd := cd_2498) mx_2498 rfl rfl 1 rfl ?_
  obtain ⟨x1, ex1, h⟩ := ltE h
  rw [← ex1]
  refine RR.runs (pc' := 13) (lc' := [(4, .int x1), (0, .ref 500), (1, .int v1), (2, .int v2), (3, .int v3)]) (st' := [.int (1 : Int32), .ref 553]) (S1 := S) (nL := 10) (cd := cd_2498) mx_2498 rfl rfl 3 rfl ?_
  obtain ⟨g, h⟩ := gnE h
  refine RR.gPN (c2 := (KM.1 553).1 = 1) (pc' := 14) (lc' := [(4, .int x1), (0, .ref 500), (1, .int v1), (2, .int v2), (3, .int v3)]) (st' := [.int ((rI S 553 (1 : Int32).toNatClampNeg))]) (S1 := S) (nL := 10) (cd := cd_2498) mx_2498 rfl rfl rfl rfl g ?_
  refine RR.runs (pc' := 16) (lc' := [(5, .int ((rI S 553 (1 : Int32).toNatClampNeg))), (4, .int x1), (0, .ref 500), (1, .int v1), (2, .int v2), (3, .int v3)]) (st' := []) (S1 := S) (nL := 10) (cd := cd_2498) mx_2498 rfl rfl 1 rfl ?_
  obtain ⟨x2, ex2, h⟩ := ltE h
  rw [← ex2]
  refine RR.runs (pc' := 22) (lc' := [(7, .int (0 : Int32)), (6, .int (0 : Int32)), (5, .int x2), (4, .int x1), (0, .ref 500), (1, .int v1), (2, .int v2), (3, .int v3)]) (st' := []) (S1 := S) (nL := 10) (cd := cd_2498) mx_2498 rfl rfl 4 rfl ?_
  refine RR.weak [(0, .ref 500), (1, .int v1), (2, .int v2), (3, .int v3), (4, .int x1), (5, .int x2), (6, .int (0 : Int32)), (7, .int (0 : Int32))] ⟨rfl, rfl, rfl, rfl, rfl, rfl, rfl, rfl, trivial⟩ ?_
  exact s_m_thiefOf_22 _ _ _ _ _ _ _ _ _ h
theorem s_m_thiefOf {d : Nat} {S' : St} {r : Int32} (v1 : Int32) (v2 : Int32) (v3 : Int32) (S : St) (h : m_thiefOf v1 v2 v3 S = some (r, S')) : RC KM (d + 2) 2498 [.ref 500, .int v1, .int v2, .int v3] S (some (.int r)) S' := RC.of rfl (s0_m_thiefOf v1 v2 v3 S h)
-- isVoice (II)Z
def m_isVoice_25 (p0 : Int32) (S : St) : Re Int32 :=
  if isBo p0 = true then some (p0, S) else none
set_option maxRecDepth 100000 in
theorem s_m_isVoice_25 {d : Nat} {S' : St} {r : Int32} (p0 : Int32) (S : St) (h : m_isVoice_25 p0 S = some (r, S')) : RR KM (d + 1) 2499 25 [] [.int p0] S (some (.int r)) S' := by
  unfold m_isVoice_25 at h
  obtain ⟨g, h⟩ := gpE h
  cases h
  exact RR.retz mx_2499 rfl rfl rfl g
def m_isVoice_24 (S : St) : Re Int32 :=
  m_isVoice_25 (0 : Int32) S
set_option maxRecDepth 100000 in
theorem s_m_isVoice_24 {d : Nat} {S' : St} {r : Int32} (S : St) (h : m_isVoice_24 S = some (r, S')) : RR KM (d + 1) 2499 24 [] [] S (some (.int r)) S' := by
  unfold m_isVoice_24 at h
  refine RR.runs (pc' := 25) (lc' := []) (st' := [.int (0 : Int32)]) (S1 := S) (nL := 2) (cd := cd_2499) mx_2499 rfl rfl 1 rfl ?_
  refine RR.weak [] trivial ?_
  exact s_m_isVoice_25 _ _ h
def m_isVoice (v0 : Int32) (v1 : Int32) (S : St) : Re Int32 :=
  bn (m_within v0 (0 : Int32) (11 : Int32) S) fun r1 S2 =>
  if r1 = 0 then (
    m_isVoice_24 S2)
  else (
    bn (m_within v1 (0 : Int32) (6 : Int32) S2) fun r3 S4 =>
    if r3 = 0 then (
      m_isVoice_24 S4)
    else (
      m_isVoice_25 (1 : Int32) S4))
set_option maxRecDepth 100000 in
theorem s0_m_isVoice {d : Nat} {S' : St} {r : Int32} (v0 : Int32) (v1 : Int32) (S : St) (h : m_isVoice v0 v1 S = some (r, S')) : RR KM (d + 1) 2499 0 [(0, .int v0), (1, .int v1)] [] S (some (.int r)) S' := by
  unfold m_isVoice at h
  refine RR.runs (pc' := 4) (lc' := [(0, .int v0), (1, .int v1)]) (st' := [.int (11 : Int32), .int (0 : Int32), .int v0]) (S1 := S) (nL := 2) (cd := cd_2499) mx_2499 rfl rfl 3 rfl ?_
  obtain ⟨r1, S2, h1, h⟩ := bnE h
  refine RR.callS (as := [.int v0, .int (0 : Int32), .int (11 : Int32)]) (rest := []) (r1 := (some (.int r1))) (S1 := S2) mx_2499 rfl rfl mx_2402 rfl rfl (by decide) (Nat.le_of_ble_eq_true rfl) (Nat.le_of_ble_eq_true rfl) (Nat.le_of_ble_eq_true rfl) (RC.deep (by omega) (s_m_within (d := d) _ _ _ _ h1)) ?_
  show RR KM _ 2499 7 [(0, .int v0), (1, .int v1)] [.int r1] S2 _ _
  refine RR.runs (pc' := icm .eq r1 0 24 10) (lc' := [(0, .int v0), (1, .int v1)]) (st' := []) (S1 := S2) (nL := 2) (cd := cd_2499) mx_2499 rfl rfl 1 rfl ?_
  rcases ifE h with ⟨c, h⟩ | ⟨c, h⟩
  · refine RR.c_eq (fun _ => ?_) (fun q => absurd c q)
    refine RR.weak [] trivial ?_
    exact s_m_isVoice_24 _ h
  · refine RR.c_eq (fun q => absurd q c) (fun _ => ?_)
    refine RR.runs (pc' := 14) (lc' := [(0, .int v0), (1, .int v1)]) (st' := [.int (6 : Int32), .int (0 : Int32), .int v1]) (S1 := S2) (nL := 2) (cd := cd_2499) mx_2499 rfl rfl 3 rfl ?_
    obtain ⟨r3, S4, h1, h⟩ := bnE h
    refine RR.callS (as := [.int v1, .int (0 : Int32), .int (6 : Int32)]) (rest := []) (r1 := (some (.int r3))) (S1 := S4) mx_2499 rfl rfl mx_2402 rfl rfl (by decide) (Nat.le_of_ble_eq_true rfl) (Nat.le_of_ble_eq_true rfl) (Nat.le_of_ble_eq_true rfl) (RC.deep (by omega) (s_m_within (d := d) _ _ _ _ h1)) ?_
    show RR KM _ 2499 17 [(0, .int v0), (1, .int v1)] [.int r3] S4 _ _
    refine RR.runs (pc' := icm .eq r3 0 24 20) (lc' := [(0, .int v0), (1, .int v1)]) (st' := []) (S1 := S4) (nL := 2) (cd := cd_2499) mx_2499 rfl rfl 1 rfl ?_
    rcases ifE h with ⟨c, h⟩ | ⟨c, h⟩
    · refine RR.c_eq (fun _ => ?_) (fun q => absurd c q)
      refine RR.weak [] trivial ?_
      exact s_m_isVoice_24 _ h
    · refine RR.c_eq (fun q => absurd q c) (fun _ => ?_)
      refine RR.runs (pc' := 25) (lc' := [(0, .int v0), (1, .int v1)]) (st' := [.int (1 : Int32)]) (S1 := S4) (nL := 2) (cd := cd_2499) mx_2499 rfl rfl 2 rfl ?_
      refine RR.weak [] trivial ?_
      exact s_m_isVoice_25 _ _ h
theorem s_m_isVoice {d : Nat} {S' : St} {r : Int32} (v0 : Int32) (v1 : Int32) (S : St) (h : m_isVoice v0 v1 S = some (r, S')) : RC KM (d + 1) 2499 [.int v0, .int v1] S (some (.int r)) S' := RC.of rfl (s0_m_isVoice v0 v1 S h)
-- thief (III)I
def m_thief_50 (p0 : Int32) (S : St) : Re Int32 :=
  some (p0, S)
set_option maxRecDepth 100000 in
theorem s_m_thief_50 {d : Nat} {S' : St} {r : Int32} (p0 : Int32) (S : St) (h : m_thief_50 p0 S = some (r, S')) : RR KM (d + 3) 2500 50 [] [.int p0] S (some (.int r)) S' := by
  unfold m_thief_50 at h
  cases h
  exact RR.reti mx_2500 rfl rfl rfl
def m_thief_28 (v1 : Int32) (v2 : Int32) (v3 : Int32) (p0 : Int32) (S : St) : Re Int32 :=
  lt' (wI S 500 0 p0) fun S1 =>
  if (rI S1 500 0) = (1 : Int32) then (
    m_thief_50 (0 : Int32) S1)
  else (
    bn (m_thiefOf v1 v2 v3 S1) fun r2 S3 =>
    m_thief_50 r2 S3)
set_option maxRecDepth 100000 in
theorem s_m_thief_28 {d : Nat} {S' : St} {r : Int32} (v1 : Int32) (v2 : Int32) (v3 : Int32) (p0 : Int32) (S : St) (h : m_thief_28 v1 v2 v3 p0 S = some (r, S')) : RR KM (d + 3) 2500 28 [(0, .ref 500), (1, .int v1), (2, .int v2), (3, .int v3)] [.int p0, .ref 500] S (some (.int r)) S' := by
  unfold m_thief_28 at h
  refine RR.runs (pc' := 31) (lc' := [(0, .ref 500), (1, .int v1), (2, .int v2), (3, .int v3)]) (st' := []) (S1 := (wI S 500 0 p0)) (nL := 4) (cd := cd_2500) mx_2500 rfl rfl 1 rfl ?_
  obtain ⟨S1, eS1, h⟩ := ltE h
  rw [← eS1]
  refine RR.runs (pc' := icm .ne (rI S1 500 0) (1 : Int32) 43 39) (lc' := [(0, .ref 500), (1, .int v1), (2, .int v2), (3, .int v3)]) (st' := []) (S1 := S1) (nL := 4) (cd := cd_2500) mx_2500 rfl rfl 4 rfl ?_
  rcases ifE h with ⟨c, h⟩ | ⟨c, h⟩
  · refine RR.c_ne (fun _ => ?_) (fun q => absurd c q)
    refine RR.runs (pc' := 50) (lc' := [(0, .ref 500), (1, .int v1), (2, .int v2), (3, .int v3)]) (st' := [.int (0 : Int32)]) (S1 := S1) (nL := 4) (cd := cd_2500) mx_2500 rfl rfl 2 rfl ?_
    refine RR.weak [] trivial ?_
    exact s_m_thief_50 _ _ h
  · refine RR.c_ne (fun q => absurd q c) (fun _ => ?_)
    refine RR.runs (pc' := 47) (lc' := [(0, .ref 500), (1, .int v1), (2, .int v2), (3, .int v3)]) (st' := [.int v3, .int v2, .int v1, .ref 500]) (S1 := S1) (nL := 4) (cd := cd_2500) mx_2500 rfl rfl 4 rfl ?_
    obtain ⟨r2, S3, h1, h⟩ := bnE h
    refine RR.callV (b := 500) (as := [.int v1, .int v2, .int v3]) (rest := []) (r1 := (some (.int r2))) (S1 := S3) mx_2500 rfl rfl mx_2498 rfl rfl (by decide) (Or.inl rfl) (Nat.le_of_ble_eq_true rfl) (Nat.le_of_ble_eq_true rfl) (RC.deep (by omega) (s_m_thiefOf (d := d) _ _ _ _ h1)) ?_
    show RR KM _ 2500 50 [(0, .ref 500), (1, .int v1), (2, .int v2), (3, .int v3)] [.int r2] S3 _ _
    refine RR.weak [] trivial ?_
    exact s_m_thief_50 _ _ h
def m_thief_27 (v1 : Int32) (v2 : Int32) (v3 : Int32) (S : St) : Re Int32 :=
  m_thief_28 v1 v2 v3 (1 : Int32) S
set_option maxRecDepth 100000 in
theorem s_m_thief_27 {d : Nat} {S' : St} {r : Int32} (v1 : Int32) (v2 : Int32) (v3 : Int32) (S : St) (h : m_thief_27 v1 v2 v3 S = some (r, S')) : RR KM (d + 3) 2500 27 [(0, .ref 500), (1, .int v1), (2, .int v2), (3, .int v3)] [.ref 500] S (some (.int r)) S' := by
  unfold m_thief_27 at h
  refine RR.runs (pc' := 28) (lc' := [(0, .ref 500), (1, .int v1), (2, .int v2), (3, .int v3)]) (st' := [.int (1 : Int32), .ref 500]) (S1 := S) (nL := 4) (cd := cd_2500) mx_2500 rfl rfl 1 rfl ?_
  refine RR.weak [(0, .ref 500), (1, .int v1), (2, .int v2), (3, .int v3)] ⟨rfl, rfl, rfl, rfl, trivial⟩ ?_
  exact s_m_thief_28 _ _ _ _ _ h
def m_thief (v1 : Int32) (v2 : Int32) (v3 : Int32) (S : St) : Re Int32 :=
  if v1 < 0 then (
    m_thief_27 v1 v2 v3 S)
  else (
    if (4 : Int32) < 0 ∨ 12 ≤ (4 : Int32).toNatClampNeg then none else
    if v1 < (rI S 502 (4 : Int32).toNatClampNeg) then (
      bn (m_isVoice v2 v3 S) fun r1 S2 =>
      if r1 = 0 then (
        m_thief_27 v1 v2 v3 S2)
      else (
        m_thief_28 v1 v2 v3 (0 : Int32) S2))
    else (
      m_thief_27 v1 v2 v3 S))
set_option maxRecDepth 100000 in
theorem s0_m_thief {d : Nat} {S' : St} {r : Int32} (v1 : Int32) (v2 : Int32) (v3 : Int32) (S : St) (h : m_thief v1 v2 v3 S = some (r, S')) : RR KM (d + 3) 2500 0 [(0, .ref 500), (1, .int v1), (2, .int v2), (3, .int v3)] [] S (some (.int r)) S' := by
  unfold m_thief at h
  refine RR.runs (pc' := icm .lt v1 0 27 5) (lc' := [(0, .ref 500), (1, .int v1), (2, .int v2), (3, .int v3)]) (st' := [.ref 500]) (S1 := S) (nL := 4) (cd := cd_2500) mx_2500 rfl rfl 3 rfl ?_
  rcases ifE h with ⟨c, h⟩ | ⟨c, h⟩
  · refine RR.c_lt (fun _ => ?_) (fun q => absurd c q)
    refine RR.weak [(0, .ref 500), (1, .int v1), (2, .int v2), (3, .int v3)] ⟨rfl, rfl, rfl, rfl, trivial⟩ ?_
    exact s_m_thief_27 _ _ _ _ h
  · refine RR.c_lt (fun q => absurd q c) (fun _ => ?_)
    refine RR.runs (pc' := 11) (lc' := [(0, .ref 500), (1, .int v1), (2, .int v2), (3, .int v3)]) (st' := [.int (4 : Int32), .ref 502, .int v1, .ref 500]) (S1 := S) (nL := 4) (cd := cd_2500) mx_2500 rfl rfl 4 rfl ?_
    obtain ⟨g, h⟩ := gnE h
    refine RR.gPN (c2 := (KM.1 502).1 = 1) (pc' := 12) (lc' := [(0, .ref 500), (1, .int v1), (2, .int v2), (3, .int v3)]) (st' := [.int ((rI S 502 (4 : Int32).toNatClampNeg)), .int v1, .ref 500]) (S1 := S) (nL := 4) (cd := cd_2500) mx_2500 rfl rfl rfl rfl g ?_
    refine RR.runs (pc' := icm .ge v1 ((rI S 502 (4 : Int32).toNatClampNeg)) 27 15) (lc' := [(0, .ref 500), (1, .int v1), (2, .int v2), (3, .int v3)]) (st' := [.ref 500]) (S1 := S) (nL := 4) (cd := cd_2500) mx_2500 rfl rfl 1 rfl ?_
    rcases ifE h with ⟨c, h⟩ | ⟨c, h⟩
    · refine RR.c_ge (fun _ => ?_) (fun q => absurd c q)
      refine RR.runs (pc' := 17) (lc' := [(0, .ref 500), (1, .int v1), (2, .int v2), (3, .int v3)]) (st' := [.int v3, .int v2, .ref 500]) (S1 := S) (nL := 4) (cd := cd_2500) mx_2500 rfl rfl 2 rfl ?_
      obtain ⟨r1, S2, h1, h⟩ := bnE h
      refine RR.callS (as := [.int v2, .int v3]) (rest := [.ref 500]) (r1 := (some (.int r1))) (S1 := S2) mx_2500 rfl rfl mx_2499 rfl rfl (by decide) (Nat.le_of_ble_eq_true rfl) (Nat.le_of_ble_eq_true rfl) (Nat.le_of_ble_eq_true rfl) (RC.deep (by omega) (s_m_isVoice (d := d) _ _ _ h1)) ?_
      show RR KM _ 2500 20 [(0, .ref 500), (1, .int v1), (2, .int v2), (3, .int v3)] [.int r1, .ref 500] S2 _ _
      refine RR.runs (pc' := icm .eq r1 0 27 23) (lc' := [(0, .ref 500), (1, .int v1), (2, .int v2), (3, .int v3)]) (st' := [.ref 500]) (S1 := S2) (nL := 4) (cd := cd_2500) mx_2500 rfl rfl 1 rfl ?_
      rcases ifE h with ⟨c, h⟩ | ⟨c, h⟩
      · refine RR.c_eq (fun _ => ?_) (fun q => absurd c q)
        refine RR.weak [(0, .ref 500), (1, .int v1), (2, .int v2), (3, .int v3)] ⟨rfl, rfl, rfl, rfl, trivial⟩ ?_
        exact s_m_thief_27 _ _ _ _ h
      · refine RR.c_eq (fun q => absurd q c) (fun _ => ?_)
        refine RR.runs (pc' := 28) (lc' := [(0, .ref 500), (1, .int v1), (2, .int v2), (3, .int v3)]) (st' := [.int (0 : Int32), .ref 500]) (S1 := S2) (nL := 4) (cd := cd_2500) mx_2500 rfl rfl 2 rfl ?_
        refine RR.weak [(0, .ref 500), (1, .int v1), (2, .int v2), (3, .int v3)] ⟨rfl, rfl, rfl, rfl, trivial⟩ ?_
        exact s_m_thief_28 _ _ _ _ _ h
    · refine RR.c_ge (fun q => absurd q c) (fun _ => ?_)
      refine RR.weak [(0, .ref 500), (1, .int v1), (2, .int v2), (3, .int v3)] ⟨rfl, rfl, rfl, rfl, trivial⟩ ?_
      exact s_m_thief_27 _ _ _ _ h
theorem s_m_thief {d : Nat} {S' : St} {r : Int32} (v1 : Int32) (v2 : Int32) (v3 : Int32) (S : St) (h : m_thief v1 v2 v3 S = some (r, S')) : RC KM (d + 3) 2500 [.ref 500, .int v1, .int v2, .int v3] S (some (.int r)) S' := RC.of rfl (s0_m_thief v1 v2 v3 S h)
-- max (II)I
def m_max_10 (p0 : Int32) (S : St) : Re Int32 :=
  some (p0, S)
set_option maxRecDepth 100000 in
theorem s_m_max_10 {d : Nat} {S' : St} {r : Int32} (p0 : Int32) (S : St) (h : m_max_10 p0 S = some (r, S')) : RR KM (d + 0) 2601 10 [] [.int p0] S (some (.int r)) S' := by
  unfold m_max_10 at h
  cases h
  exact RR.reti mx_2601 rfl rfl rfl
def m_max (v0 : Int32) (v1 : Int32) (S : St) : Re Int32 :=
  if v0 < v1 then (
    m_max_10 v1 S)
  else (
    m_max_10 v0 S)
set_option maxRecDepth 100000 in
theorem s0_m_max {d : Nat} {S' : St} {r : Int32} (v0 : Int32) (v1 : Int32) (S : St) (h : m_max v0 v1 S = some (r, S')) : RR KM (d + 0) 2601 0 [(0, .int v0), (1, .int v1)] [] S (some (.int r)) S' := by
  unfold m_max at h
  refine RR.runs (pc' := icm .lt v0 v1 9 5) (lc' := [(0, .int v0), (1, .int v1)]) (st' := []) (S1 := S) (nL := 2) (cd := cd_2601) mx_2601 rfl rfl 3 rfl ?_
  rcases ifE h with ⟨c, h⟩ | ⟨c, h⟩
  · refine RR.c_lt (fun _ => ?_) (fun q => absurd c q)
    refine RR.runs (pc' := 10) (lc' := [(0, .int v0), (1, .int v1)]) (st' := [.int v1]) (S1 := S) (nL := 2) (cd := cd_2601) mx_2601 rfl rfl 1 rfl ?_
    refine RR.weak [] trivial ?_
    exact s_m_max_10 _ _ h
  · refine RR.c_lt (fun q => absurd q c) (fun _ => ?_)
    refine RR.runs (pc' := 10) (lc' := [(0, .int v0), (1, .int v1)]) (st' := [.int v0]) (S1 := S) (nL := 2) (cd := cd_2601) mx_2601 rfl rfl 2 rfl ?_
    refine RR.weak [] trivial ?_
    exact s_m_max_10 _ _ h
theorem s_m_max {d : Nat} {S' : St} {r : Int32} (v0 : Int32) (v1 : Int32) (S : St) (h : m_max v0 v1 S = some (r, S')) : RC KM (d + 0) 2601 [.int v0, .int v1] S (some (.int r)) S' := RC.of rfl (s0_m_max v0 v1 S h)
-- hide (II)I
def m_hide_23 (S : St) : Re Int32 :=
  some ((-1 : Int32), S)
set_option maxRecDepth 100000 in
theorem s_m_hide_23 {d : Nat} {S' : St} {r : Int32} (S : St) (h : m_hide_23 S = some (r, S')) : RR KM (d + 3) 2501 23 [] [] S (some (.int r)) S' := by
  unfold m_hide_23 at h
  refine RR.runs (pc' := 24) (lc' := []) (st' := [.int (-1 : Int32)]) (S1 := S) (nL := 8) (cd := cd_2501) mx_2501 rfl rfl 1 rfl ?_
  cases h
  exact RR.reti mx_2501 rfl rfl rfl
def m_hide_83 (k50 : Int32 → Int32 → Int32 → Int32 → Int32 → Int32 → Int32 → St → Re Int32) (v1 : Int32) (v2 : Int32) (v3 : Int32) (v4 : Int32) (v5 : Int32) (v6 : Int32) (v7 : Int32) (S : St) : Re Int32 :=
  lt' ((v7 + (1 : Int32)) : Int32) fun x1 =>
  k50 v1 v2 v3 v4 v5 v6 x1 S
set_option maxRecDepth 100000 in
theorem s_m_hide_83 {d : Nat} (k50 : Int32 → Int32 → Int32 → Int32 → Int32 → Int32 → Int32 → St → Re Int32) {S' : St} {r : Int32} (b50 : ∀ (v1 : Int32) (v2 : Int32) (v3 : Int32) (v4 : Int32) (v5 : Int32) (v6 : Int32) (v7 : Int32) (S : St), k50 v1 v2 v3 v4 v5 v6 v7 S = some (r, S') → RR KM (d + 3) 2501 50 [(0, .ref 500), (1, .int v1), (2, .int v2), (3, .int v3), (4, .int v4), (5, .int v5), (6, .int v6), (7, .int v7)] [] S (some (.int r)) S') (v1 : Int32) (v2 : Int32) (v3 : Int32) (v4 : Int32) (v5 : Int32) (v6 : Int32) (v7 : Int32) (S : St) (h : m_hide_83 k50 v1 v2 v3 v4 v5 v6 v7 S = some (r, S')) : RR KM (d + 3) 2501 83 [(0, .ref 500), (1, .int v1), (2, .int v2), (3, .int v3), (4, .int v4), (5, .int v5), (6, .int v6), (7, .int v7)] [] S (some (.int r)) S' := by
  unfold m_hide_83 at h
  refine RR.runs (pc' := 86) (lc' := [(7, .int ((v7 + (1 : Int32)))), (0, .ref 500), (1, .int v1), (2, .int v2), (3, .int v3), (4, .int v4), (5, .int v5), (6, .int v6)]) (st' := []) (S1 := S) (nL := 8) (cd := cd_2501) mx_2501 rfl rfl 1 rfl ?_
  obtain ⟨x1, ex1, h⟩ := ltE h
  rw [← ex1]
  refine RR.runs (pc' := 50) (lc' := [(7, .int x1), (0, .ref 500), (1, .int v1), (2, .int v2), (3, .int v3), (4, .int v4), (5, .int v5), (6, .int v6)]) (st' := []) (S1 := S) (nL := 8) (cd := cd_2501) mx_2501 rfl rfl 1 rfl ?_
  refine RR.weak [(0, .ref 500), (1, .int v1), (2, .int v2), (3, .int v3), (4, .int v4), (5, .int v5), (6, .int v6), (7, .int x1)] ⟨rfl, rfl, rfl, rfl, rfl, rfl, rfl, rfl, trivial⟩ ?_
  exact b50 _ _ _ _ _ _ _ _ h
def m_hide_110 (k33 : Int32 → Int32 → Int32 → Int32 → Int32 → St → Re Int32) (v1 : Int32) (v2 : Int32) (v3 : Int32) (v4 : Int32) (v5 : Int32) (S : St) : Re Int32 :=
  lt' ((v5 + (1 : Int32)) : Int32) fun x1 =>
  k33 v1 v2 v3 v4 x1 S
set_option maxRecDepth 100000 in
theorem s_m_hide_110 {d : Nat} (k33 : Int32 → Int32 → Int32 → Int32 → Int32 → St → Re Int32) {S' : St} {r : Int32} (b33 : ∀ (v1 : Int32) (v2 : Int32) (v3 : Int32) (v4 : Int32) (v5 : Int32) (S : St), k33 v1 v2 v3 v4 v5 S = some (r, S') → RR KM (d + 3) 2501 33 [(0, .ref 500), (1, .int v1), (2, .int v2), (3, .int v3), (4, .int v4), (5, .int v5)] [] S (some (.int r)) S') (v1 : Int32) (v2 : Int32) (v3 : Int32) (v4 : Int32) (v5 : Int32) (S : St) (h : m_hide_110 k33 v1 v2 v3 v4 v5 S = some (r, S')) : RR KM (d + 3) 2501 110 [(0, .ref 500), (1, .int v1), (2, .int v2), (3, .int v3), (4, .int v4), (5, .int v5)] [] S (some (.int r)) S' := by
  unfold m_hide_110 at h
  refine RR.runs (pc' := 113) (lc' := [(5, .int ((v5 + (1 : Int32)))), (0, .ref 500), (1, .int v1), (2, .int v2), (3, .int v3), (4, .int v4)]) (st' := []) (S1 := S) (nL := 8) (cd := cd_2501) mx_2501 rfl rfl 1 rfl ?_
  obtain ⟨x1, ex1, h⟩ := ltE h
  rw [← ex1]
  refine RR.runs (pc' := 33) (lc' := [(5, .int x1), (0, .ref 500), (1, .int v1), (2, .int v2), (3, .int v3), (4, .int v4)]) (st' := []) (S1 := S) (nL := 8) (cd := cd_2501) mx_2501 rfl rfl 1 rfl ?_
  refine RR.weak [(0, .ref 500), (1, .int v1), (2, .int v2), (3, .int v3), (4, .int v4), (5, .int x1)] ⟨rfl, rfl, rfl, rfl, rfl, rfl, trivial⟩ ?_
  exact b33 _ _ _ _ _ _ h
def m_hide_103 (k33 : Int32 → Int32 → Int32 → Int32 → Int32 → St → Re Int32) (v1 : Int32) (v2 : Int32) (v5 : Int32) (v6 : Int32) (S : St) : Re Int32 :=
  m_hide_110 k33 v1 v2 v5 v6 v5 S
set_option maxRecDepth 100000 in
theorem s_m_hide_103 {d : Nat} (k33 : Int32 → Int32 → Int32 → Int32 → Int32 → St → Re Int32) {S' : St} {r : Int32} (b33 : ∀ (v1 : Int32) (v2 : Int32) (v3 : Int32) (v4 : Int32) (v5 : Int32) (S : St), k33 v1 v2 v3 v4 v5 S = some (r, S') → RR KM (d + 3) 2501 33 [(0, .ref 500), (1, .int v1), (2, .int v2), (3, .int v3), (4, .int v4), (5, .int v5)] [] S (some (.int r)) S') (v1 : Int32) (v2 : Int32) (v5 : Int32) (v6 : Int32) (S : St) (h : m_hide_103 k33 v1 v2 v5 v6 S = some (r, S')) : RR KM (d + 3) 2501 103 [(0, .ref 500), (1, .int v1), (2, .int v2), (5, .int v5), (6, .int v6)] [] S (some (.int r)) S' := by
  unfold m_hide_103 at h
  refine RR.runs (pc' := 110) (lc' := [(4, .int v6), (3, .int v5), (0, .ref 500), (1, .int v1), (2, .int v2), (5, .int v5), (6, .int v6)]) (st' := []) (S1 := S) (nL := 8) (cd := cd_2501) mx_2501 rfl rfl 4 rfl ?_
  refine RR.weak [(0, .ref 500), (1, .int v1), (2, .int v2), (3, .int v5), (4, .int v6), (5, .int v5)] ⟨rfl, rfl, rfl, rfl, rfl, rfl, trivial⟩ ?_
  exact s_m_hide_110 _ b33 _ _ _ _ _ _ h
def m_hide_89 (k33 : Int32 → Int32 → Int32 → Int32 → Int32 → St → Re Int32) (v1 : Int32) (v2 : Int32) (v3 : Int32) (v4 : Int32) (v5 : Int32) (v6 : Int32) (S : St) : Re Int32 :=
  if v3 < 0 then (
    m_hide_103 k33 v1 v2 v5 v6 S)
  else (
    if v6 < v4 then (
      m_hide_103 k33 v1 v2 v5 v6 S)
    else (
      m_hide_110 k33 v1 v2 v3 v4 v5 S))
set_option maxRecDepth 100000 in
theorem s_m_hide_89 {d : Nat} (k33 : Int32 → Int32 → Int32 → Int32 → Int32 → St → Re Int32) {S' : St} {r : Int32} (b33 : ∀ (v1 : Int32) (v2 : Int32) (v3 : Int32) (v4 : Int32) (v5 : Int32) (S : St), k33 v1 v2 v3 v4 v5 S = some (r, S') → RR KM (d + 3) 2501 33 [(0, .ref 500), (1, .int v1), (2, .int v2), (3, .int v3), (4, .int v4), (5, .int v5)] [] S (some (.int r)) S') (v1 : Int32) (v2 : Int32) (v3 : Int32) (v4 : Int32) (v5 : Int32) (v6 : Int32) (S : St) (h : m_hide_89 k33 v1 v2 v3 v4 v5 v6 S = some (r, S')) : RR KM (d + 3) 2501 89 [(0, .ref 500), (1, .int v1), (2, .int v2), (3, .int v3), (4, .int v4), (5, .int v5), (6, .int v6)] [] S (some (.int r)) S' := by
  unfold m_hide_89 at h
  refine RR.runs (pc' := icm .lt v3 0 103 93) (lc' := [(0, .ref 500), (1, .int v1), (2, .int v2), (3, .int v3), (4, .int v4), (5, .int v5), (6, .int v6)]) (st' := []) (S1 := S) (nL := 8) (cd := cd_2501) mx_2501 rfl rfl 2 rfl ?_
  rcases ifE h with ⟨c, h⟩ | ⟨c, h⟩
  · refine RR.c_lt (fun _ => ?_) (fun q => absurd c q)
    refine RR.weak [(0, .ref 500), (1, .int v1), (2, .int v2), (5, .int v5), (6, .int v6)] ⟨rfl, rfl, rfl, rfl, rfl, trivial⟩ ?_
    exact s_m_hide_103 _ b33 _ _ _ _ _ h
  · refine RR.c_lt (fun q => absurd q c) (fun _ => ?_)
    refine RR.runs (pc' := icm .lt v6 v4 103 100) (lc' := [(0, .ref 500), (1, .int v1), (2, .int v2), (3, .int v3), (4, .int v4), (5, .int v5), (6, .int v6)]) (st' := []) (S1 := S) (nL := 8) (cd := cd_2501) mx_2501 rfl rfl 3 rfl ?_
    rcases ifE h with ⟨c, h⟩ | ⟨c, h⟩
    · refine RR.c_lt (fun _ => ?_) (fun q => absurd c q)
      refine RR.weak [(0, .ref 500), (1, .int v1), (2, .int v2), (5, .int v5), (6, .int v6)] ⟨rfl, rfl, rfl, rfl, rfl, trivial⟩ ?_
      exact s_m_hide_103 _ b33 _ _ _ _ _ h
    · refine RR.c_lt (fun q => absurd q c) (fun _ => ?_)
      refine RR.runs (pc' := 110) (lc' := [(0, .ref 500), (1, .int v1), (2, .int v2), (3, .int v3), (4, .int v4), (5, .int v5), (6, .int v6)]) (st' := []) (S1 := S) (nL := 8) (cd := cd_2501) mx_2501 rfl rfl 1 rfl ?_
      refine RR.weak [(0, .ref 500), (1, .int v1), (2, .int v2), (3, .int v3), (4, .int v4), (5, .int v5)] ⟨rfl, rfl, rfl, rfl, rfl, rfl, trivial⟩ ?_
      exact s_m_hide_110 _ b33 _ _ _ _ _ _ h
def m_hide_50 (k33 : Int32 → Int32 → Int32 → Int32 → Int32 → St → Re Int32) : Nat → Int32 → Int32 → Int32 → Int32 → Int32 → Int32 → Int32 → St → Re Int32
  | 0, _, _, _, _, _, _, _, _ => none
  | n + 1, v1, v2, v3, v4, v5, v6, v7, S =>
  if (4 : Int32) < 0 ∨ 12 ≤ (4 : Int32).toNatClampNeg then none else
  if v7 < (rI S 502 (4 : Int32).toNatClampNeg) then (
    if v7 = v5 then (
      m_hide_83 (m_hide_50 k33 n) v1 v2 v3 v4 v5 v6 v7 S)
    else (
      bn (m_thiefOf v7 v1 v2 S) fun r1 S2 =>
      bn (m_max v6 r1 S2) fun r3 S4 =>
      m_hide_83 (m_hide_50 k33 n) v1 v2 v3 v4 v5 r3 v7 S4))
  else (
    m_hide_89 k33 v1 v2 v3 v4 v5 v6 S)
set_option maxRecDepth 100000 in
theorem s_m_hide_50 {d : Nat} (k33 : Int32 → Int32 → Int32 → Int32 → Int32 → St → Re Int32) {S' : St} {r : Int32} (b33 : ∀ (v1 : Int32) (v2 : Int32) (v3 : Int32) (v4 : Int32) (v5 : Int32) (S : St), k33 v1 v2 v3 v4 v5 S = some (r, S') → RR KM (d + 3) 2501 33 [(0, .ref 500), (1, .int v1), (2, .int v2), (3, .int v3), (4, .int v4), (5, .int v5)] [] S (some (.int r)) S') : ∀ (n : Nat) (v1 : Int32) (v2 : Int32) (v3 : Int32) (v4 : Int32) (v5 : Int32) (v6 : Int32) (v7 : Int32) (S : St), m_hide_50 k33 n v1 v2 v3 v4 v5 v6 v7 S = some (r, S') → RR KM (d + 3) 2501 50 [(0, .ref 500), (1, .int v1), (2, .int v2), (3, .int v3), (4, .int v4), (5, .int v5), (6, .int v6), (7, .int v7)] [] S (some (.int r)) S' := by
  intro n
  induction n with
  | zero => intro v1 v2 v3 v4 v5 v6 v7 S h; simp only [m_hide_50] at h; cases h
  | succ n ih =>
    intro v1 v2 v3 v4 v5 v6 v7 S h
    simp only [m_hide_50] at h
    refine RR.runs (pc' := 57) (lc' := [(0, .ref 500), (1, .int v1), (2, .int v2), (3, .int v3), (4, .int v4), (5, .int v5), (6, .int v6), (7, .int v7)]) (st' := [.int (4 : Int32), .ref 502, .int v7]) (S1 := S) (nL := 8) (cd := cd_2501) mx_2501 rfl rfl 4 rfl ?_
    obtain ⟨g, h⟩ := gnE h
    refine RR.gPN (c2 := (KM.1 502).1 = 1) (pc' := 58) (lc' := [(0, .ref 500), (1, .int v1), (2, .int v2), (3, .int v3), (4, .int v4), (5, .int v5), (6, .int v6), (7, .int v7)]) (st' := [.int ((rI S 502 (4 : Int32).toNatClampNeg)), .int v7]) (S1 := S) (nL := 8) (cd := cd_2501) mx_2501 rfl rfl rfl rfl g ?_
    refine RR.runs (pc' := icm .ge v7 ((rI S 502 (4 : Int32).toNatClampNeg)) 89 61) (lc' := [(0, .ref 500), (1, .int v1), (2, .int v2), (3, .int v3), (4, .int v4), (5, .int v5), (6, .int v6), (7, .int v7)]) (st' := []) (S1 := S) (nL := 8) (cd := cd_2501) mx_2501 rfl rfl 1 rfl ?_
    rcases ifE h with ⟨c, h⟩ | ⟨c, h⟩
    · refine RR.c_ge (fun _ => ?_) (fun q => absurd c q)
      refine RR.runs (pc' := icm .eq v7 v5 83 68) (lc' := [(0, .ref 500), (1, .int v1), (2, .int v2), (3, .int v3), (4, .int v4), (5, .int v5), (6, .int v6), (7, .int v7)]) (st' := []) (S1 := S) (nL := 8) (cd := cd_2501) mx_2501 rfl rfl 3 rfl ?_
      rcases ifE h with ⟨c, h⟩ | ⟨c, h⟩
      · refine RR.c_eq (fun _ => ?_) (fun q => absurd c q)
        refine RR.weak [(0, .ref 500), (1, .int v1), (2, .int v2), (3, .int v3), (4, .int v4), (5, .int v5), (6, .int v6), (7, .int v7)] ⟨rfl, rfl, rfl, rfl, rfl, rfl, rfl, rfl, trivial⟩ ?_
        exact s_m_hide_83 _ (fun _ _ _ _ _ _ _ S h => ih _ _ _ _ _ _ _ S h) _ _ _ _ _ _ _ _ h
      · refine RR.c_eq (fun q => absurd q c) (fun _ => ?_)
        refine RR.runs (pc' := 75) (lc' := [(0, .ref 500), (1, .int v1), (2, .int v2), (3, .int v3), (4, .int v4), (5, .int v5), (6, .int v6), (7, .int v7)]) (st' := [.int v2, .int v1, .int v7, .ref 500, .int v6]) (S1 := S) (nL := 8) (cd := cd_2501) mx_2501 rfl rfl 5 rfl ?_
        obtain ⟨r1, S2, h1, h⟩ := bnE h
        refine RR.callV (b := 500) (as := [.int v7, .int v1, .int v2]) (rest := [.int v6]) (r1 := (some (.int r1))) (S1 := S2) mx_2501 rfl rfl mx_2498 rfl rfl (by decide) (Or.inl rfl) (Nat.le_of_ble_eq_true rfl) (Nat.le_of_ble_eq_true rfl) (RC.deep (by omega) (s_m_thiefOf (d := d) _ _ _ _ h1)) ?_
        show RR KM _ 2501 78 [(0, .ref 500), (1, .int v1), (2, .int v2), (3, .int v3), (4, .int v4), (5, .int v5), (6, .int v6), (7, .int v7)] [.int r1, .int v6] S2 _ _
        obtain ⟨r3, S4, h1, h⟩ := bnE h
        refine RR.callS (as := [.int v6, .int r1]) (rest := []) (r1 := (some (.int r3))) (S1 := S4) mx_2501 rfl rfl mx_2601 rfl rfl (by decide) (Nat.le_of_ble_eq_true rfl) (Nat.le_of_ble_eq_true rfl) (Nat.le_of_ble_eq_true rfl) (RC.deep (by omega) (s_m_max (d := d) _ _ _ h1)) ?_
        show RR KM _ 2501 81 [(0, .ref 500), (1, .int v1), (2, .int v2), (3, .int v3), (4, .int v4), (5, .int v5), (6, .int v6), (7, .int v7)] [.int r3] S4 _ _
        refine RR.runs (pc' := 83) (lc' := [(6, .int r3), (0, .ref 500), (1, .int v1), (2, .int v2), (3, .int v3), (4, .int v4), (5, .int v5), (7, .int v7)]) (st' := []) (S1 := S4) (nL := 8) (cd := cd_2501) mx_2501 rfl rfl 1 rfl ?_
        refine RR.weak [(0, .ref 500), (1, .int v1), (2, .int v2), (3, .int v3), (4, .int v4), (5, .int v5), (6, .int r3), (7, .int v7)] ⟨rfl, rfl, rfl, rfl, rfl, rfl, rfl, rfl, trivial⟩ ?_
        exact s_m_hide_83 _ (fun _ _ _ _ _ _ _ S h => ih _ _ _ _ _ _ _ S h) _ _ _ _ _ _ _ _ h
    · refine RR.c_ge (fun q => absurd q c) (fun _ => ?_)
      refine RR.weak [(0, .ref 500), (1, .int v1), (2, .int v2), (3, .int v3), (4, .int v4), (5, .int v5), (6, .int v6)] ⟨rfl, rfl, rfl, rfl, rfl, rfl, rfl, trivial⟩ ?_
      exact s_m_hide_89 _ b33 _ _ _ _ _ _ _ h
def m_hide_116 (v3 : Int32) (S : St) : Re Int32 :=
  some (v3, S)
set_option maxRecDepth 100000 in
theorem s_m_hide_116 {d : Nat} {S' : St} {r : Int32} (v3 : Int32) (S : St) (h : m_hide_116 v3 S = some (r, S')) : RR KM (d + 3) 2501 116 [(3, .int v3)] [] S (some (.int r)) S' := by
  unfold m_hide_116 at h
  refine RR.runs (pc' := 117) (lc' := [(3, .int v3)]) (st' := [.int v3]) (S1 := S) (nL := 8) (cd := cd_2501) mx_2501 rfl rfl 1 rfl ?_
  cases h
  exact RR.reti mx_2501 rfl rfl rfl
def m_hide_33 : Nat → Int32 → Int32 → Int32 → Int32 → Int32 → St → Re Int32
  | 0, _, _, _, _, _, _ => none
  | n + 1, v1, v2, v3, v4, v5, S =>
  if (4 : Int32) < 0 ∨ 12 ≤ (4 : Int32).toNatClampNeg then none else
  if v5 < (rI S 502 (4 : Int32).toNatClampNeg) then (
    m_hide_50 (m_hide_33 n) FU v1 v2 v3 v4 v5 (0 : Int32) (0 : Int32) S)
  else (
    m_hide_116 v3 S)
set_option maxRecDepth 100000 in
theorem s_m_hide_33 {d : Nat} {S' : St} {r : Int32} : ∀ (n : Nat) (v1 : Int32) (v2 : Int32) (v3 : Int32) (v4 : Int32) (v5 : Int32) (S : St), m_hide_33 n v1 v2 v3 v4 v5 S = some (r, S') → RR KM (d + 3) 2501 33 [(0, .ref 500), (1, .int v1), (2, .int v2), (3, .int v3), (4, .int v4), (5, .int v5)] [] S (some (.int r)) S' := by
  intro n
  induction n with
  | zero => intro v1 v2 v3 v4 v5 S h; simp only [m_hide_33] at h; cases h
  | succ n ih =>
    intro v1 v2 v3 v4 v5 S h
    simp only [m_hide_33] at h
    refine RR.runs (pc' := 40) (lc' := [(0, .ref 500), (1, .int v1), (2, .int v2), (3, .int v3), (4, .int v4), (5, .int v5)]) (st' := [.int (4 : Int32), .ref 502, .int v5]) (S1 := S) (nL := 8) (cd := cd_2501) mx_2501 rfl rfl 4 rfl ?_
    obtain ⟨g, h⟩ := gnE h
    refine RR.gPN (c2 := (KM.1 502).1 = 1) (pc' := 41) (lc' := [(0, .ref 500), (1, .int v1), (2, .int v2), (3, .int v3), (4, .int v4), (5, .int v5)]) (st' := [.int ((rI S 502 (4 : Int32).toNatClampNeg)), .int v5]) (S1 := S) (nL := 8) (cd := cd_2501) mx_2501 rfl rfl rfl rfl g ?_
    refine RR.runs (pc' := icm .ge v5 ((rI S 502 (4 : Int32).toNatClampNeg)) 116 44) (lc' := [(0, .ref 500), (1, .int v1), (2, .int v2), (3, .int v3), (4, .int v4), (5, .int v5)]) (st' := []) (S1 := S) (nL := 8) (cd := cd_2501) mx_2501 rfl rfl 1 rfl ?_
    rcases ifE h with ⟨c, h⟩ | ⟨c, h⟩
    · refine RR.c_ge (fun _ => ?_) (fun q => absurd c q)
      refine RR.runs (pc' := 50) (lc' := [(7, .int (0 : Int32)), (6, .int (0 : Int32)), (0, .ref 500), (1, .int v1), (2, .int v2), (3, .int v3), (4, .int v4), (5, .int v5)]) (st' := []) (S1 := S) (nL := 8) (cd := cd_2501) mx_2501 rfl rfl 4 rfl ?_
      refine RR.weak [(0, .ref 500), (1, .int v1), (2, .int v2), (3, .int v3), (4, .int v4), (5, .int v5), (6, .int (0 : Int32)), (7, .int (0 : Int32))] ⟨rfl, rfl, rfl, rfl, rfl, rfl, rfl, rfl, trivial⟩ ?_
      exact s_m_hide_50 _ (fun _ _ _ _ _ S h => ih _ _ _ _ _ S h) _ _ _ _ _ _ _ _ _ h
    · refine RR.c_ge (fun q => absurd q c) (fun _ => ?_)
      refine RR.weak [(3, .int v3)] ⟨rfl, trivial⟩ ?_
      exact s_m_hide_116 _ _ h
def m_hide (v1 : Int32) (v2 : Int32) (S : St) : Re Int32 :=
  lt' (wI S 500 0 (0 : Int32)) fun S1 =>
  bn (m_isVoice v1 v2 S1) fun r2 S3 =>
  if r2 = 0 then (
    m_hide_23 S3)
  else (
    if (4 : Int32) < 0 ∨ 12 ≤ (4 : Int32).toNatClampNeg then none else
    if (rI S3 502 (4 : Int32).toNatClampNeg) < (2 : Int32) then (
      m_hide_23 S3)
    else (
      m_hide_33 FU v1 v2 (-1 : Int32) (0 : Int32) (0 : Int32) S3))
set_option maxRecDepth 100000 in
theorem s0_m_hide {d : Nat} {S' : St} {r : Int32} (v1 : Int32) (v2 : Int32) (S : St) (h : m_hide v1 v2 S = some (r, S')) : RR KM (d + 3) 2501 0 [(0, .ref 500), (1, .int v1), (2, .int v2)] [] S (some (.int r)) S' := by
  unfold m_hide at h
  refine RR.runs (pc' := 5) (lc' := [(0, .ref 500), (1, .int v1), (2, .int v2)]) (st' := []) (S1 := (wI S 500 0 (0 : Int32))) (nL := 8) (cd := cd_2501) mx_2501 rfl rfl 3 rfl ?_
  obtain ⟨S1, eS1, h⟩ := ltE h
  rw [← eS1]
  refine RR.runs (pc' := 7) (lc' := [(0, .ref 500), (1, .int v1), (2, .int v2)]) (st' := [.int v2, .int v1]) (S1 := S1) (nL := 8) (cd := cd_2501) mx_2501 rfl rfl 2 rfl ?_
  obtain ⟨r2, S3, h1, h⟩ := bnE h
  refine RR.callS (as := [.int v1, .int v2]) (rest := []) (r1 := (some (.int r2))) (S1 := S3) mx_2501 rfl rfl mx_2499 rfl rfl (by decide) (Nat.le_of_ble_eq_true rfl) (Nat.le_of_ble_eq_true rfl) (Nat.le_of_ble_eq_true rfl) (RC.deep (by omega) (s_m_isVoice (d := d) _ _ _ h1)) ?_
  show RR KM _ 2501 10 [(0, .ref 500), (1, .int v1), (2, .int v2)] [.int r2] S3 _ _
  refine RR.runs (pc' := icm .eq r2 0 23 13) (lc' := [(0, .ref 500), (1, .int v1), (2, .int v2)]) (st' := []) (S1 := S3) (nL := 8) (cd := cd_2501) mx_2501 rfl rfl 1 rfl ?_
  rcases ifE h with ⟨c, h⟩ | ⟨c, h⟩
  · refine RR.c_eq (fun _ => ?_) (fun q => absurd c q)
    refine RR.weak [] trivial ?_
    exact s_m_hide_23 _ h
  · refine RR.c_eq (fun q => absurd q c) (fun _ => ?_)
    refine RR.runs (pc' := 18) (lc' := [(0, .ref 500), (1, .int v1), (2, .int v2)]) (st' := [.int (4 : Int32), .ref 502]) (S1 := S3) (nL := 8) (cd := cd_2501) mx_2501 rfl rfl 3 rfl ?_
    obtain ⟨g, h⟩ := gnE h
    refine RR.gPN (c2 := (KM.1 502).1 = 1) (pc' := 19) (lc' := [(0, .ref 500), (1, .int v1), (2, .int v2)]) (st' := [.int ((rI S3 502 (4 : Int32).toNatClampNeg))]) (S1 := S3) (nL := 8) (cd := cd_2501) mx_2501 rfl rfl rfl rfl g ?_
    refine RR.runs (pc' := icm .ge ((rI S3 502 (4 : Int32).toNatClampNeg)) (2 : Int32) 25 23) (lc' := [(0, .ref 500), (1, .int v1), (2, .int v2)]) (st' := []) (S1 := S3) (nL := 8) (cd := cd_2501) mx_2501 rfl rfl 2 rfl ?_
    rcases ifE h with ⟨c, h⟩ | ⟨c, h⟩
    · refine RR.c_ge (fun _ => ?_) (fun q => absurd c q)
      refine RR.weak [] trivial ?_
      exact s_m_hide_23 _ h
    · refine RR.c_ge (fun q => absurd q c) (fun _ => ?_)
      refine RR.runs (pc' := 33) (lc' := [(5, .int (0 : Int32)), (4, .int (0 : Int32)), (3, .int (-1 : Int32)), (0, .ref 500), (1, .int v1), (2, .int v2)]) (st' := []) (S1 := S3) (nL := 8) (cd := cd_2501) mx_2501 rfl rfl 6 rfl ?_
      refine RR.weak [(0, .ref 500), (1, .int v1), (2, .int v2), (3, .int (-1 : Int32)), (4, .int (0 : Int32)), (5, .int (0 : Int32))] ⟨rfl, rfl, rfl, rfl, rfl, rfl, trivial⟩ ?_
      exact s_m_hide_33 _ _ _ _ _ _ _ h
theorem s_m_hide {d : Nat} {S' : St} {r : Int32} (v1 : Int32) (v2 : Int32) (S : St) (h : m_hide v1 v2 S = some (r, S')) : RC KM (d + 3) 2501 [.ref 500, .int v1, .int v2] S (some (.int r)) S' := RC.of rfl (s0_m_hide v1 v2 S h)
-- draws (I)I
def m_draws (v1 : Int32) (S : St) : Re Int32 :=
  lt' (wJ S 500 86 (((((rJ S 500 86) * (1103515245 : Int64)) + (12345 : Int64)) - (((rJ S 500 86) * (1103515245 : Int64)) + (12345 : Int64)) / (2147483648 : Int64) * (2147483648 : Int64)))) fun S1 =>
  if v1.toInt64 = 0 then none else
  some (((((rJ S1 500 86) / (65536 : Int64)) - ((rJ S1 500 86) / (65536 : Int64)) / v1.toInt64 * v1.toInt64)).toInt32, S1)
set_option maxRecDepth 100000 in
theorem s0_m_draws {d : Nat} {S' : St} {r : Int32} (v1 : Int32) (S : St) (h : m_draws v1 S = some (r, S')) : RR KM (d + 0) 2504 0 [(0, .ref 500), (1, .int v1)] [] S (some (.int r)) S' := by
  unfold m_draws at h
  refine RR.runs (pc' := 20) (lc' := [(0, .ref 500), (1, .int v1)]) (st' := []) (S1 := (wJ S 500 86 (((((rJ S 500 86) * (1103515245 : Int64)) + (12345 : Int64)) - (((rJ S 500 86) * (1103515245 : Int64)) + (12345 : Int64)) / (2147483648 : Int64) * (2147483648 : Int64))))) (nL := 2) (cd := cd_2504) mx_2504 rfl rfl 10 rfl ?_
  obtain ⟨S1, eS1, h⟩ := ltE h
  rw [← eS1]
  refine RR.runs (pc' := 30) (lc' := [(0, .ref 500), (1, .int v1)]) (st' := [.long v1.toInt64, .long (((rJ S1 500 86) / (65536 : Int64)))]) (S1 := S1) (nL := 2) (cd := cd_2504) mx_2504 rfl rfl 6 rfl ?_
  obtain ⟨g, h⟩ := gnE h
  refine RR.gN (pc' := 31) (lc' := [(0, .ref 500), (1, .int v1)]) (st' := [.long ((((rJ S1 500 86) / (65536 : Int64)) - ((rJ S1 500 86) / (65536 : Int64)) / v1.toInt64 * v1.toInt64))]) (S1 := S1) (nL := 2) (cd := cd_2504) mx_2504 rfl rfl rfl g ?_
  refine RR.runs (pc' := 32) (lc' := [(0, .ref 500), (1, .int v1)]) (st' := [.int (((((rJ S1 500 86) / (65536 : Int64)) - ((rJ S1 500 86) / (65536 : Int64)) / v1.toInt64 * v1.toInt64)).toInt32)]) (S1 := S1) (nL := 2) (cd := cd_2504) mx_2504 rfl rfl 1 rfl ?_
  cases h
  exact RR.reti mx_2504 rfl rfl rfl
theorem s_m_draws {d : Nat} {S' : St} {r : Int32} (v1 : Int32) (S : St) (h : m_draws v1 S = some (r, S')) : RC KM (d + 0) 2504 [.ref 500, .int v1] S (some (.int r)) S' := RC.of rfl (s0_m_draws v1 S h)
-- livesDay ()I
def m_livesDay_53 (k4 : Int32 → Int32 → St → Re Int32) (v1 : Int32) (v2 : Int32) (S : St) : Re Int32 :=
  lt' ((v2 + (1 : Int32)) : Int32) fun x1 =>
  k4 v1 x1 S
set_option maxRecDepth 100000 in
theorem s_m_livesDay_53 {d : Nat} (k4 : Int32 → Int32 → St → Re Int32) {S' : St} {r : Int32} (b4 : ∀ (v1 : Int32) (v2 : Int32) (S : St), k4 v1 v2 S = some (r, S') → RR KM (d + 6) 2505 4 [(0, .ref 500), (1, .int v1), (2, .int v2)] [] S (some (.int r)) S') (v1 : Int32) (v2 : Int32) (S : St) (h : m_livesDay_53 k4 v1 v2 S = some (r, S')) : RR KM (d + 6) 2505 53 [(0, .ref 500), (1, .int v1), (2, .int v2)] [] S (some (.int r)) S' := by
  unfold m_livesDay_53 at h
  refine RR.runs (pc' := 56) (lc' := [(2, .int ((v2 + (1 : Int32)))), (0, .ref 500), (1, .int v1)]) (st' := []) (S1 := S) (nL := 4) (cd := cd_2505) mx_2505 rfl rfl 1 rfl ?_
  obtain ⟨x1, ex1, h⟩ := ltE h
  rw [← ex1]
  refine RR.runs (pc' := 4) (lc' := [(2, .int x1), (0, .ref 500), (1, .int v1)]) (st' := []) (S1 := S) (nL := 4) (cd := cd_2505) mx_2505 rfl rfl 1 rfl ?_
  refine RR.weak [(0, .ref 500), (1, .int v1), (2, .int x1)] ⟨rfl, rfl, rfl, trivial⟩ ?_
  exact b4 _ _ _ h
def m_livesDay_167 (k134 : Int32 → Int32 → St → Re Int32) (v1 : Int32) (v2 : Int32) (S : St) : Re Int32 :=
  lt' ((v2 + (1 : Int32)) : Int32) fun x1 =>
  k134 v1 x1 S
set_option maxRecDepth 100000 in
theorem s_m_livesDay_167 {d : Nat} (k134 : Int32 → Int32 → St → Re Int32) {S' : St} {r : Int32} (b134 : ∀ (v1 : Int32) (v2 : Int32) (S : St), k134 v1 v2 S = some (r, S') → RR KM (d + 6) 2505 134 [(0, .ref 500), (1, .int v1), (2, .int v2)] [] S (some (.int r)) S') (v1 : Int32) (v2 : Int32) (S : St) (h : m_livesDay_167 k134 v1 v2 S = some (r, S')) : RR KM (d + 6) 2505 167 [(0, .ref 500), (1, .int v1), (2, .int v2)] [] S (some (.int r)) S' := by
  unfold m_livesDay_167 at h
  refine RR.runs (pc' := 170) (lc' := [(2, .int ((v2 + (1 : Int32)))), (0, .ref 500), (1, .int v1)]) (st' := []) (S1 := S) (nL := 4) (cd := cd_2505) mx_2505 rfl rfl 1 rfl ?_
  obtain ⟨x1, ex1, h⟩ := ltE h
  rw [← ex1]
  refine RR.runs (pc' := 134) (lc' := [(2, .int x1), (0, .ref 500), (1, .int v1)]) (st' := []) (S1 := S) (nL := 4) (cd := cd_2505) mx_2505 rfl rfl 1 rfl ?_
  refine RR.weak [(0, .ref 500), (1, .int v1), (2, .int x1)] ⟨rfl, rfl, rfl, trivial⟩ ?_
  exact b134 _ _ _ h
def m_livesDay_189 (v1 : Int32) (S : St) : Re Int32 :=
  bn (m_passes S) fun r1 S2 =>
  some (v1, S2)
set_option maxRecDepth 100000 in
theorem s_m_livesDay_189 {d : Nat} {S' : St} {r : Int32} (v1 : Int32) (S : St) (h : m_livesDay_189 v1 S = some (r, S')) : RR KM (d + 6) 2505 189 [(0, .ref 500), (1, .int v1)] [] S (some (.int r)) S' := by
  unfold m_livesDay_189 at h
  refine RR.runs (pc' := 190) (lc' := [(0, .ref 500), (1, .int v1)]) (st' := [.ref 500]) (S1 := S) (nL := 4) (cd := cd_2505) mx_2505 rfl rfl 1 rfl ?_
  obtain ⟨r1, S2, h1, h⟩ := bnE h
  refine RR.callV (b := 500) (as := []) (rest := []) (r1 := none) (S1 := S2) mx_2505 rfl rfl mx_2477 rfl rfl (by decide) (Or.inl rfl) (Nat.le_of_ble_eq_true rfl) (Nat.le_of_ble_eq_true rfl) (RC.deep (by omega) (s_m_passes (d := d) _ h1)) ?_
  show RR KM _ 2505 193 [(0, .ref 500), (1, .int v1)] [] S2 _ _
  refine RR.runs (pc' := 194) (lc' := [(0, .ref 500), (1, .int v1)]) (st' := [.int v1]) (S1 := S2) (nL := 4) (cd := cd_2505) mx_2505 rfl rfl 1 rfl ?_
  cases h
  exact RR.reti mx_2505 rfl rfl rfl
def m_livesDay_173 (v1 : Int32) (v2 : Int32) (S : St) : Re Int32 :=
  if (0 : Int32) < 0 ∨ 12 ≤ (0 : Int32).toNatClampNeg then none else
  if v2 < (rI S 502 (0 : Int32).toNatClampNeg) then (
    bn (m_picks v2 S) fun r1 S2 =>
    m_livesDay_189 v1 S2)
  else (
    m_livesDay_189 v1 S)
set_option maxRecDepth 100000 in
theorem s_m_livesDay_173 {d : Nat} {S' : St} {r : Int32} (v1 : Int32) (v2 : Int32) (S : St) (h : m_livesDay_173 v1 v2 S = some (r, S')) : RR KM (d + 6) 2505 173 [(0, .ref 500), (1, .int v1), (2, .int v2)] [] S (some (.int r)) S' := by
  unfold m_livesDay_173 at h
  refine RR.runs (pc' := 179) (lc' := [(0, .ref 500), (1, .int v1), (2, .int v2)]) (st' := [.int (0 : Int32), .ref 502, .int v2]) (S1 := S) (nL := 4) (cd := cd_2505) mx_2505 rfl rfl 4 rfl ?_
  obtain ⟨g, h⟩ := gnE h
  refine RR.gPN (c2 := (KM.1 502).1 = 1) (pc' := 180) (lc' := [(0, .ref 500), (1, .int v1), (2, .int v2)]) (st' := [.int ((rI S 502 (0 : Int32).toNatClampNeg)), .int v2]) (S1 := S) (nL := 4) (cd := cd_2505) mx_2505 rfl rfl rfl rfl g ?_
  refine RR.runs (pc' := icm .ge v2 ((rI S 502 (0 : Int32).toNatClampNeg)) 189 183) (lc' := [(0, .ref 500), (1, .int v1), (2, .int v2)]) (st' := []) (S1 := S) (nL := 4) (cd := cd_2505) mx_2505 rfl rfl 1 rfl ?_
  rcases ifE h with ⟨c, h⟩ | ⟨c, h⟩
  · refine RR.c_ge (fun _ => ?_) (fun q => absurd c q)
    refine RR.runs (pc' := 185) (lc' := [(0, .ref 500), (1, .int v1), (2, .int v2)]) (st' := [.int v2, .ref 500]) (S1 := S) (nL := 4) (cd := cd_2505) mx_2505 rfl rfl 2 rfl ?_
    obtain ⟨r1, S2, h1, h⟩ := bnE h
    refine RR.callV (b := 500) (as := [.int v2]) (rest := []) (r1 := (some (.int r1))) (S1 := S2) mx_2505 rfl rfl mx_2473 rfl rfl (by decide) (Or.inl rfl) (Nat.le_of_ble_eq_true rfl) (Nat.le_of_ble_eq_true rfl) (RC.deep (by omega) (s_m_picks (d := d) _ _ h1)) ?_
    show RR KM _ 2505 188 [(0, .ref 500), (1, .int v1), (2, .int v2)] [.int r1] S2 _ _
    refine RR.runs (pc' := 189) (lc' := [(0, .ref 500), (1, .int v1), (2, .int v2)]) (st' := []) (S1 := S2) (nL := 4) (cd := cd_2505) mx_2505 rfl rfl 1 rfl ?_
    refine RR.weak [(0, .ref 500), (1, .int v1)] ⟨rfl, rfl, trivial⟩ ?_
    exact s_m_livesDay_189 _ _ h
  · refine RR.c_ge (fun q => absurd q c) (fun _ => ?_)
    refine RR.weak [(0, .ref 500), (1, .int v1)] ⟨rfl, rfl, trivial⟩ ?_
    exact s_m_livesDay_189 _ _ h
def m_livesDay_134 : Nat → Int32 → Int32 → St → Re Int32
  | 0, _, _, _ => none
  | n + 1, v1, v2, S =>
  if (0 : Int32) < 0 ∨ 12 ≤ (0 : Int32).toNatClampNeg then none else
  if v2 < (rI S 502 (0 : Int32).toNatClampNeg) then (
    bn (m_canPick v2 S) fun r1 S2 =>
    if r1 = 0 then (
      m_livesDay_167 (m_livesDay_134 n) v1 v2 S2)
    else (
      if (2 : Int32) < 0 ∨ 15 ≤ (2 : Int32).toNatClampNeg then none else
      if v2 < 0 ∨ 20 ≤ v2.toNatClampNeg then none else
      if (rI S2 553 (2 : Int32).toNatClampNeg) < (rI S2 509 v2.toNatClampNeg) then (
        m_livesDay_167 (m_livesDay_134 n) v1 v2 S2)
      else (
        m_livesDay_173 v1 v2 S2)))
  else (
    m_livesDay_173 v1 v2 S)
set_option maxRecDepth 100000 in
theorem s_m_livesDay_134 {d : Nat} {S' : St} {r : Int32} : ∀ (n : Nat) (v1 : Int32) (v2 : Int32) (S : St), m_livesDay_134 n v1 v2 S = some (r, S') → RR KM (d + 6) 2505 134 [(0, .ref 500), (1, .int v1), (2, .int v2)] [] S (some (.int r)) S' := by
  intro n
  induction n with
  | zero => intro v1 v2 S h; simp only [m_livesDay_134] at h; cases h
  | succ n ih =>
    intro v1 v2 S h
    simp only [m_livesDay_134] at h
    refine RR.runs (pc' := 140) (lc' := [(0, .ref 500), (1, .int v1), (2, .int v2)]) (st' := [.int (0 : Int32), .ref 502, .int v2]) (S1 := S) (nL := 4) (cd := cd_2505) mx_2505 rfl rfl 4 rfl ?_
    obtain ⟨g, h⟩ := gnE h
    refine RR.gPN (c2 := (KM.1 502).1 = 1) (pc' := 141) (lc' := [(0, .ref 500), (1, .int v1), (2, .int v2)]) (st' := [.int ((rI S 502 (0 : Int32).toNatClampNeg)), .int v2]) (S1 := S) (nL := 4) (cd := cd_2505) mx_2505 rfl rfl rfl rfl g ?_
    refine RR.runs (pc' := icm .ge v2 ((rI S 502 (0 : Int32).toNatClampNeg)) 173 144) (lc' := [(0, .ref 500), (1, .int v1), (2, .int v2)]) (st' := []) (S1 := S) (nL := 4) (cd := cd_2505) mx_2505 rfl rfl 1 rfl ?_
    rcases ifE h with ⟨c, h⟩ | ⟨c, h⟩
    · refine RR.c_ge (fun _ => ?_) (fun q => absurd c q)
      refine RR.runs (pc' := 146) (lc' := [(0, .ref 500), (1, .int v1), (2, .int v2)]) (st' := [.int v2, .ref 500]) (S1 := S) (nL := 4) (cd := cd_2505) mx_2505 rfl rfl 2 rfl ?_
      obtain ⟨r1, S2, h1, h⟩ := bnE h
      refine RR.callV (b := 500) (as := [.int v2]) (rest := []) (r1 := (some (.int r1))) (S1 := S2) mx_2505 rfl rfl mx_2472 rfl rfl (by decide) (Or.inl rfl) (Nat.le_of_ble_eq_true rfl) (Nat.le_of_ble_eq_true rfl) (RC.deep (by omega) (s_m_canPick (d := d) _ _ h1)) ?_
      show RR KM _ 2505 149 [(0, .ref 500), (1, .int v1), (2, .int v2)] [.int r1] S2 _ _
      refine RR.runs (pc' := icm .eq r1 0 167 152) (lc' := [(0, .ref 500), (1, .int v1), (2, .int v2)]) (st' := []) (S1 := S2) (nL := 4) (cd := cd_2505) mx_2505 rfl rfl 1 rfl ?_
      rcases ifE h with ⟨c, h⟩ | ⟨c, h⟩
      · refine RR.c_eq (fun _ => ?_) (fun q => absurd c q)
        refine RR.weak [(0, .ref 500), (1, .int v1), (2, .int v2)] ⟨rfl, rfl, rfl, trivial⟩ ?_
        exact s_m_livesDay_167 _ (fun _ _ S h => ih _ _ S h) _ _ _ h
      · refine RR.c_eq (fun q => absurd q c) (fun _ => ?_)
        refine RR.runs (pc' := 157) (lc' := [(0, .ref 500), (1, .int v1), (2, .int v2)]) (st' := [.int (2 : Int32), .ref 553]) (S1 := S2) (nL := 4) (cd := cd_2505) mx_2505 rfl rfl 3 rfl ?_
        obtain ⟨g, h⟩ := gnE h
        refine RR.gPN (c2 := (KM.1 553).1 = 1) (pc' := 158) (lc' := [(0, .ref 500), (1, .int v1), (2, .int v2)]) (st' := [.int ((rI S2 553 (2 : Int32).toNatClampNeg))]) (S1 := S2) (nL := 4) (cd := cd_2505) mx_2505 rfl rfl rfl rfl g ?_
        refine RR.runs (pc' := 163) (lc' := [(0, .ref 500), (1, .int v1), (2, .int v2)]) (st' := [.int v2, .ref 509, .int ((rI S2 553 (2 : Int32).toNatClampNeg))]) (S1 := S2) (nL := 4) (cd := cd_2505) mx_2505 rfl rfl 3 rfl ?_
        obtain ⟨g, h⟩ := gnE h
        refine RR.gPN (c2 := (KM.1 509).1 = 1) (pc' := 164) (lc' := [(0, .ref 500), (1, .int v1), (2, .int v2)]) (st' := [.int (rI S2 509 v2.toNatClampNeg), .int ((rI S2 553 (2 : Int32).toNatClampNeg))]) (S1 := S2) (nL := 4) (cd := cd_2505) mx_2505 rfl rfl rfl rfl g ?_
        refine RR.runs (pc' := icm .ge ((rI S2 553 (2 : Int32).toNatClampNeg)) (rI S2 509 v2.toNatClampNeg) 173 167) (lc' := [(0, .ref 500), (1, .int v1), (2, .int v2)]) (st' := []) (S1 := S2) (nL := 4) (cd := cd_2505) mx_2505 rfl rfl 1 rfl ?_
        rcases ifE h with ⟨c, h⟩ | ⟨c, h⟩
        · refine RR.c_ge (fun _ => ?_) (fun q => absurd c q)
          refine RR.weak [(0, .ref 500), (1, .int v1), (2, .int v2)] ⟨rfl, rfl, rfl, trivial⟩ ?_
          exact s_m_livesDay_167 _ (fun _ _ S h => ih _ _ S h) _ _ _ h
        · refine RR.c_ge (fun q => absurd q c) (fun _ => ?_)
          refine RR.weak [(0, .ref 500), (1, .int v1), (2, .int v2)] ⟨rfl, rfl, rfl, trivial⟩ ?_
          exact s_m_livesDay_173 _ _ _ h
    · refine RR.c_ge (fun q => absurd q c) (fun _ => ?_)
      refine RR.weak [(0, .ref 500), (1, .int v1), (2, .int v2)] ⟨rfl, rfl, rfl, trivial⟩ ?_
      exact s_m_livesDay_173 _ _ _ h
def m_livesDay_132 (v1 : Int32) (S : St) : Re Int32 :=
  m_livesDay_134 FU v1 (0 : Int32) S
set_option maxRecDepth 100000 in
theorem s_m_livesDay_132 {d : Nat} {S' : St} {r : Int32} (v1 : Int32) (S : St) (h : m_livesDay_132 v1 S = some (r, S')) : RR KM (d + 6) 2505 132 [(0, .ref 500), (1, .int v1)] [] S (some (.int r)) S' := by
  unfold m_livesDay_132 at h
  refine RR.runs (pc' := 134) (lc' := [(2, .int (0 : Int32)), (0, .ref 500), (1, .int v1)]) (st' := []) (S1 := S) (nL := 4) (cd := cd_2505) mx_2505 rfl rfl 2 rfl ?_
  refine RR.weak [(0, .ref 500), (1, .int v1), (2, .int (0 : Int32))] ⟨rfl, rfl, rfl, trivial⟩ ?_
  exact s_m_livesDay_134 _ _ _ _ h
def m_livesDay_59 (v1 : Int32) (S : St) : Re Int32 :=
  if (2 : Int32) < 0 ∨ 12 ≤ (2 : Int32).toNatClampNeg then none else
  if 0 < (rI S 502 (2 : Int32).toNatClampNeg) then (
    if (1 : Int32) < 0 ∨ 12 ≤ (1 : Int32).toNatClampNeg then none else
    if 0 < (rI S 502 (1 : Int32).toNatClampNeg) then (
      if (2 : Int32) < 0 ∨ 12 ≤ (2 : Int32).toNatClampNeg then none else
      bn (m_draws ((rI S 502 (2 : Int32).toNatClampNeg)) S) fun r1 S2 =>
      if (1 : Int32) < 0 ∨ 12 ≤ (1 : Int32).toNatClampNeg then none else
      bn (m_draws ((rI S2 502 (1 : Int32).toNatClampNeg)) S2) fun r3 S4 =>
      bn (m_isSaid r1 r3 S4) fun r5 S6 =>
      if r5 = 0 then (
        m_livesDay_132 v1 S6)
      else (
        if r1 < 0 ∨ 10 ≤ r1.toNatClampNeg then none else
        if r1 < 0 ∨ 10 ≤ r1.toNatClampNeg then none else
        bn (m_calls r3 (rI S6 512 r1.toNatClampNeg) (rI S6 513 r1.toNatClampNeg) S6) fun r7 S8 =>
        bn (m_greenOf r7 S8) fun r9 S10 =>
        lt' ((v1 + r9) : Int32) fun x11 =>
        m_livesDay_132 x11 S10))
    else (
      m_livesDay_132 v1 S))
  else (
    m_livesDay_132 v1 S)
set_option maxRecDepth 100000 in
theorem s_m_livesDay_59 {d : Nat} {S' : St} {r : Int32} (v1 : Int32) (S : St) (h : m_livesDay_59 v1 S = some (r, S')) : RR KM (d + 6) 2505 59 [(0, .ref 500), (1, .int v1)] [] S (some (.int r)) S' := by
  unfold m_livesDay_59 at h
  refine RR.runs (pc' := 64) (lc' := [(0, .ref 500), (1, .int v1)]) (st' := [.int (2 : Int32), .ref 502]) (S1 := S) (nL := 4) (cd := cd_2505) mx_2505 rfl rfl 3 rfl ?_
  obtain ⟨g, h⟩ := gnE h
  refine RR.gPN (c2 := (KM.1 502).1 = 1) (pc' := 65) (lc' := [(0, .ref 500), (1, .int v1)]) (st' := [.int ((rI S 502 (2 : Int32).toNatClampNeg))]) (S1 := S) (nL := 4) (cd := cd_2505) mx_2505 rfl rfl rfl rfl g ?_
  refine RR.runs (pc' := icm .le ((rI S 502 (2 : Int32).toNatClampNeg)) 0 132 68) (lc' := [(0, .ref 500), (1, .int v1)]) (st' := []) (S1 := S) (nL := 4) (cd := cd_2505) mx_2505 rfl rfl 1 rfl ?_
  rcases ifE h with ⟨c, h⟩ | ⟨c, h⟩
  · refine RR.c_le (fun _ => ?_) (fun q => absurd c q)
    refine RR.runs (pc' := 73) (lc' := [(0, .ref 500), (1, .int v1)]) (st' := [.int (1 : Int32), .ref 502]) (S1 := S) (nL := 4) (cd := cd_2505) mx_2505 rfl rfl 3 rfl ?_
    obtain ⟨g, h⟩ := gnE h
    refine RR.gPN (c2 := (KM.1 502).1 = 1) (pc' := 74) (lc' := [(0, .ref 500), (1, .int v1)]) (st' := [.int ((rI S 502 (1 : Int32).toNatClampNeg))]) (S1 := S) (nL := 4) (cd := cd_2505) mx_2505 rfl rfl rfl rfl g ?_
    refine RR.runs (pc' := icm .le ((rI S 502 (1 : Int32).toNatClampNeg)) 0 132 77) (lc' := [(0, .ref 500), (1, .int v1)]) (st' := []) (S1 := S) (nL := 4) (cd := cd_2505) mx_2505 rfl rfl 1 rfl ?_
    rcases ifE h with ⟨c, h⟩ | ⟨c, h⟩
    · refine RR.c_le (fun _ => ?_) (fun q => absurd c q)
      refine RR.runs (pc' := 83) (lc' := [(0, .ref 500), (1, .int v1)]) (st' := [.int (2 : Int32), .ref 502, .ref 500]) (S1 := S) (nL := 4) (cd := cd_2505) mx_2505 rfl rfl 4 rfl ?_
      obtain ⟨g, h⟩ := gnE h
      refine RR.gPN (c2 := (KM.1 502).1 = 1) (pc' := 84) (lc' := [(0, .ref 500), (1, .int v1)]) (st' := [.int ((rI S 502 (2 : Int32).toNatClampNeg)), .ref 500]) (S1 := S) (nL := 4) (cd := cd_2505) mx_2505 rfl rfl rfl rfl g ?_
      obtain ⟨r1, S2, h1, h⟩ := bnE h
      refine RR.callV (b := 500) (as := [.int ((rI S 502 (2 : Int32).toNatClampNeg))]) (rest := []) (r1 := (some (.int r1))) (S1 := S2) mx_2505 rfl rfl mx_2504 rfl rfl (by decide) (Or.inl rfl) (Nat.le_of_ble_eq_true rfl) (Nat.le_of_ble_eq_true rfl) (RC.deep (by omega) (s_m_draws (d := d) _ _ h1)) ?_
      show RR KM _ 2505 87 [(0, .ref 500), (1, .int v1)] [.int r1] S2 _ _
      refine RR.runs (pc' := 94) (lc' := [(2, .int r1), (0, .ref 500), (1, .int v1)]) (st' := [.int (1 : Int32), .ref 502, .ref 500]) (S1 := S2) (nL := 4) (cd := cd_2505) mx_2505 rfl rfl 5 rfl ?_
      obtain ⟨g, h⟩ := gnE h
      refine RR.gPN (c2 := (KM.1 502).1 = 1) (pc' := 95) (lc' := [(2, .int r1), (0, .ref 500), (1, .int v1)]) (st' := [.int ((rI S2 502 (1 : Int32).toNatClampNeg)), .ref 500]) (S1 := S2) (nL := 4) (cd := cd_2505) mx_2505 rfl rfl rfl rfl g ?_
      obtain ⟨r3, S4, h1, h⟩ := bnE h
      refine RR.callV (b := 500) (as := [.int ((rI S2 502 (1 : Int32).toNatClampNeg))]) (rest := []) (r1 := (some (.int r3))) (S1 := S4) mx_2505 rfl rfl mx_2504 rfl rfl (by decide) (Or.inl rfl) (Nat.le_of_ble_eq_true rfl) (Nat.le_of_ble_eq_true rfl) (RC.deep (by omega) (s_m_draws (d := d) _ _ h1)) ?_
      show RR KM _ 2505 98 [(2, .int r1), (0, .ref 500), (1, .int v1)] [.int r3] S4 _ _
      refine RR.runs (pc' := 102) (lc' := [(3, .int r3), (2, .int r1), (0, .ref 500), (1, .int v1)]) (st' := [.int r3, .int r1, .ref 500]) (S1 := S4) (nL := 4) (cd := cd_2505) mx_2505 rfl rfl 4 rfl ?_
      obtain ⟨r5, S6, h1, h⟩ := bnE h
      refine RR.callV (b := 500) (as := [.int r1, .int r3]) (rest := []) (r1 := (some (.int r5))) (S1 := S6) mx_2505 rfl rfl mx_2447 rfl rfl (by decide) (Or.inl rfl) (Nat.le_of_ble_eq_true rfl) (Nat.le_of_ble_eq_true rfl) (RC.deep (by omega) (s_m_isSaid (d := d) _ _ _ h1)) ?_
      show RR KM _ 2505 105 [(3, .int r3), (2, .int r1), (0, .ref 500), (1, .int v1)] [.int r5] S6 _ _
      refine RR.runs (pc' := icm .eq r5 0 132 108) (lc' := [(3, .int r3), (2, .int r1), (0, .ref 500), (1, .int v1)]) (st' := []) (S1 := S6) (nL := 4) (cd := cd_2505) mx_2505 rfl rfl 1 rfl ?_
      rcases ifE h with ⟨c, h⟩ | ⟨c, h⟩
      · refine RR.c_eq (fun _ => ?_) (fun q => absurd c q)
        refine RR.weak [(0, .ref 500), (1, .int v1)] ⟨rfl, rfl, trivial⟩ ?_
        exact s_m_livesDay_132 _ _ h
      · refine RR.c_eq (fun q => absurd q c) (fun _ => ?_)
        refine RR.runs (pc' := 117) (lc' := [(3, .int r3), (2, .int r1), (0, .ref 500), (1, .int v1)]) (st' := [.int r1, .ref 512, .int r3, .ref 500, .ref 500, .int v1]) (S1 := S6) (nL := 4) (cd := cd_2505) mx_2505 rfl rfl 7 rfl ?_
        obtain ⟨g, h⟩ := gnE h
        refine RR.gPN (c2 := (KM.1 512).1 = 1) (pc' := 118) (lc' := [(3, .int r3), (2, .int r1), (0, .ref 500), (1, .int v1)]) (st' := [.int (rI S6 512 r1.toNatClampNeg), .int r3, .ref 500, .ref 500, .int v1]) (S1 := S6) (nL := 4) (cd := cd_2505) mx_2505 rfl rfl rfl rfl g ?_
        refine RR.runs (pc' := 123) (lc' := [(3, .int r3), (2, .int r1), (0, .ref 500), (1, .int v1)]) (st' := [.int r1, .ref 513, .int (rI S6 512 r1.toNatClampNeg), .int r3, .ref 500, .ref 500, .int v1]) (S1 := S6) (nL := 4) (cd := cd_2505) mx_2505 rfl rfl 3 rfl ?_
        obtain ⟨g, h⟩ := gnE h
        refine RR.gPN (c2 := (KM.1 513).1 = 1) (pc' := 124) (lc' := [(3, .int r3), (2, .int r1), (0, .ref 500), (1, .int v1)]) (st' := [.int (rI S6 513 r1.toNatClampNeg), .int (rI S6 512 r1.toNatClampNeg), .int r3, .ref 500, .ref 500, .int v1]) (S1 := S6) (nL := 4) (cd := cd_2505) mx_2505 rfl rfl rfl rfl g ?_
        obtain ⟨r7, S8, h1, h⟩ := bnE h
        refine RR.callV (b := 500) (as := [.int r3, .int (rI S6 512 r1.toNatClampNeg), .int (rI S6 513 r1.toNatClampNeg)]) (rest := [.ref 500, .int v1]) (r1 := (some (.int r7))) (S1 := S8) mx_2505 rfl rfl mx_2468 rfl rfl (by decide) (Or.inl rfl) (Nat.le_of_ble_eq_true rfl) (Nat.le_of_ble_eq_true rfl) (RC.deep (by omega) (s_m_calls (d := d) _ _ _ _ h1)) ?_
        show RR KM _ 2505 127 [(3, .int r3), (2, .int r1), (0, .ref 500), (1, .int v1)] [.int r7, .ref 500, .int v1] S8 _ _
        obtain ⟨r9, S10, h1, h⟩ := bnE h
        refine RR.callV (b := 500) (as := [.int r7]) (rest := [.int v1]) (r1 := (some (.int r9))) (S1 := S10) mx_2505 rfl rfl mx_2480 rfl rfl (by decide) (Or.inl rfl) (Nat.le_of_ble_eq_true rfl) (Nat.le_of_ble_eq_true rfl) (RC.deep (by omega) (s_m_greenOf (d := d) _ _ h1)) ?_
        show RR KM _ 2505 130 [(3, .int r3), (2, .int r1), (0, .ref 500), (1, .int v1)] [.int r9, .int v1] S10 _ _
        refine RR.runs (pc' := 132) (lc' := [(1, .int (v1 + r9)), (3, .int r3), (2, .int r1), (0, .ref 500)]) (st' := []) (S1 := S10) (nL := 4) (cd := cd_2505) mx_2505 rfl rfl 2 rfl ?_
        obtain ⟨x11, ex11, h⟩ := ltE h
        rw [← ex11]
        refine RR.weak [(0, .ref 500), (1, .int x11)] ⟨rfl, rfl, trivial⟩ ?_
        exact s_m_livesDay_132 _ _ h
    · refine RR.c_le (fun q => absurd q c) (fun _ => ?_)
      refine RR.weak [(0, .ref 500), (1, .int v1)] ⟨rfl, rfl, trivial⟩ ?_
      exact s_m_livesDay_132 _ _ h
  · refine RR.c_le (fun q => absurd q c) (fun _ => ?_)
    refine RR.weak [(0, .ref 500), (1, .int v1)] ⟨rfl, rfl, trivial⟩ ?_
    exact s_m_livesDay_132 _ _ h
def m_livesDay_4 : Nat → Int32 → Int32 → St → Re Int32
  | 0, _, _, _ => none
  | n + 1, v1, v2, S =>
  if (3 : Int32) < 0 ∨ 12 ≤ (3 : Int32).toNatClampNeg then none else
  if v2 < (rI S 502 (3 : Int32).toNatClampNeg) then (
    bn (m_draws (10 : Int32) S) fun r1 S2 =>
    if v2 < 0 ∨ 12 ≤ v2.toNatClampNeg then none else
    if r1 < (rI S2 516 v2.toNatClampNeg) then (
      if v2 < 0 ∨ 12 ≤ v2.toNatClampNeg then none else
      bn (m_draws (12 : Int32) S2) fun r3 S4 =>
      bn (m_calls (rI S2 515 v2.toNatClampNeg) r3 (3 : Int32) S4) fun r5 S6 =>
      bn (m_greenOf r5 S6) fun r7 S8 =>
      lt' ((v1 + r7) : Int32) fun x9 =>
      m_livesDay_53 (m_livesDay_4 n) x9 v2 S8)
    else (
      m_livesDay_53 (m_livesDay_4 n) v1 v2 S2))
  else (
    m_livesDay_59 v1 S)
set_option maxRecDepth 100000 in
theorem s_m_livesDay_4 {d : Nat} {S' : St} {r : Int32} : ∀ (n : Nat) (v1 : Int32) (v2 : Int32) (S : St), m_livesDay_4 n v1 v2 S = some (r, S') → RR KM (d + 6) 2505 4 [(0, .ref 500), (1, .int v1), (2, .int v2)] [] S (some (.int r)) S' := by
  intro n
  induction n with
  | zero => intro v1 v2 S h; simp only [m_livesDay_4] at h; cases h
  | succ n ih =>
    intro v1 v2 S h
    simp only [m_livesDay_4] at h
    refine RR.runs (pc' := 10) (lc' := [(0, .ref 500), (1, .int v1), (2, .int v2)]) (st' := [.int (3 : Int32), .ref 502, .int v2]) (S1 := S) (nL := 4) (cd := cd_2505) mx_2505 rfl rfl 4 rfl ?_
    obtain ⟨g, h⟩ := gnE h
    refine RR.gPN (c2 := (KM.1 502).1 = 1) (pc' := 11) (lc' := [(0, .ref 500), (1, .int v1), (2, .int v2)]) (st' := [.int ((rI S 502 (3 : Int32).toNatClampNeg)), .int v2]) (S1 := S) (nL := 4) (cd := cd_2505) mx_2505 rfl rfl rfl rfl g ?_
    refine RR.runs (pc' := icm .ge v2 ((rI S 502 (3 : Int32).toNatClampNeg)) 59 14) (lc' := [(0, .ref 500), (1, .int v1), (2, .int v2)]) (st' := []) (S1 := S) (nL := 4) (cd := cd_2505) mx_2505 rfl rfl 1 rfl ?_
    rcases ifE h with ⟨c, h⟩ | ⟨c, h⟩
    · refine RR.c_ge (fun _ => ?_) (fun q => absurd c q)
      refine RR.runs (pc' := 17) (lc' := [(0, .ref 500), (1, .int v1), (2, .int v2)]) (st' := [.int (10 : Int32), .ref 500]) (S1 := S) (nL := 4) (cd := cd_2505) mx_2505 rfl rfl 2 rfl ?_
      obtain ⟨r1, S2, h1, h⟩ := bnE h
      refine RR.callV (b := 500) (as := [.int (10 : Int32)]) (rest := []) (r1 := (some (.int r1))) (S1 := S2) mx_2505 rfl rfl mx_2504 rfl rfl (by decide) (Or.inl rfl) (Nat.le_of_ble_eq_true rfl) (Nat.le_of_ble_eq_true rfl) (RC.deep (by omega) (s_m_draws (d := d) _ _ h1)) ?_
      show RR KM _ 2505 20 [(0, .ref 500), (1, .int v1), (2, .int v2)] [.int r1] S2 _ _
      refine RR.runs (pc' := 25) (lc' := [(0, .ref 500), (1, .int v1), (2, .int v2)]) (st' := [.int v2, .ref 516, .int r1]) (S1 := S2) (nL := 4) (cd := cd_2505) mx_2505 rfl rfl 3 rfl ?_
      obtain ⟨g, h⟩ := gnE h
      refine RR.gPN (c2 := (KM.1 516).1 = 1) (pc' := 26) (lc' := [(0, .ref 500), (1, .int v1), (2, .int v2)]) (st' := [.int (rI S2 516 v2.toNatClampNeg), .int r1]) (S1 := S2) (nL := 4) (cd := cd_2505) mx_2505 rfl rfl rfl rfl g ?_
      refine RR.runs (pc' := icm .ge r1 (rI S2 516 v2.toNatClampNeg) 53 29) (lc' := [(0, .ref 500), (1, .int v1), (2, .int v2)]) (st' := []) (S1 := S2) (nL := 4) (cd := cd_2505) mx_2505 rfl rfl 1 rfl ?_
      rcases ifE h with ⟨c, h⟩ | ⟨c, h⟩
      · refine RR.c_ge (fun _ => ?_) (fun q => absurd c q)
        refine RR.runs (pc' := 37) (lc' := [(0, .ref 500), (1, .int v1), (2, .int v2)]) (st' := [.int v2, .ref 515, .ref 500, .ref 500, .int v1]) (S1 := S2) (nL := 4) (cd := cd_2505) mx_2505 rfl rfl 6 rfl ?_
        obtain ⟨g, h⟩ := gnE h
        refine RR.gPN (c2 := (KM.1 515).1 = 1) (pc' := 38) (lc' := [(0, .ref 500), (1, .int v1), (2, .int v2)]) (st' := [.int (rI S2 515 v2.toNatClampNeg), .ref 500, .ref 500, .int v1]) (S1 := S2) (nL := 4) (cd := cd_2505) mx_2505 rfl rfl rfl rfl g ?_
        refine RR.runs (pc' := 41) (lc' := [(0, .ref 500), (1, .int v1), (2, .int v2)]) (st' := [.int (12 : Int32), .ref 500, .int (rI S2 515 v2.toNatClampNeg), .ref 500, .ref 500, .int v1]) (S1 := S2) (nL := 4) (cd := cd_2505) mx_2505 rfl rfl 2 rfl ?_
        obtain ⟨r3, S4, h1, h⟩ := bnE h
        refine RR.callV (b := 500) (as := [.int (12 : Int32)]) (rest := [.int (rI S2 515 v2.toNatClampNeg), .ref 500, .ref 500, .int v1]) (r1 := (some (.int r3))) (S1 := S4) mx_2505 rfl rfl mx_2504 rfl rfl (by decide) (Or.inl rfl) (Nat.le_of_ble_eq_true rfl) (Nat.le_of_ble_eq_true rfl) (RC.deep (by omega) (s_m_draws (d := d) _ _ h1)) ?_
        show RR KM _ 2505 44 [(0, .ref 500), (1, .int v1), (2, .int v2)] [.int r3, .int (rI S2 515 v2.toNatClampNeg), .ref 500, .ref 500, .int v1] S4 _ _
        refine RR.runs (pc' := 45) (lc' := [(0, .ref 500), (1, .int v1), (2, .int v2)]) (st' := [.int (3 : Int32), .int r3, .int (rI S2 515 v2.toNatClampNeg), .ref 500, .ref 500, .int v1]) (S1 := S4) (nL := 4) (cd := cd_2505) mx_2505 rfl rfl 1 rfl ?_
        obtain ⟨r5, S6, h1, h⟩ := bnE h
        refine RR.callV (b := 500) (as := [.int (rI S2 515 v2.toNatClampNeg), .int r3, .int (3 : Int32)]) (rest := [.ref 500, .int v1]) (r1 := (some (.int r5))) (S1 := S6) mx_2505 rfl rfl mx_2468 rfl rfl (by decide) (Or.inl rfl) (Nat.le_of_ble_eq_true rfl) (Nat.le_of_ble_eq_true rfl) (RC.deep (by omega) (s_m_calls (d := d) _ _ _ _ h1)) ?_
        show RR KM _ 2505 48 [(0, .ref 500), (1, .int v1), (2, .int v2)] [.int r5, .ref 500, .int v1] S6 _ _
        obtain ⟨r7, S8, h1, h⟩ := bnE h
        refine RR.callV (b := 500) (as := [.int r5]) (rest := [.int v1]) (r1 := (some (.int r7))) (S1 := S8) mx_2505 rfl rfl mx_2480 rfl rfl (by decide) (Or.inl rfl) (Nat.le_of_ble_eq_true rfl) (Nat.le_of_ble_eq_true rfl) (RC.deep (by omega) (s_m_greenOf (d := d) _ _ h1)) ?_
        show RR KM _ 2505 51 [(0, .ref 500), (1, .int v1), (2, .int v2)] [.int r7, .int v1] S8 _ _
        refine RR.runs (pc' := 53) (lc' := [(1, .int (v1 + r7)), (0, .ref 500), (2, .int v2)]) (st' := []) (S1 := S8) (nL := 4) (cd := cd_2505) mx_2505 rfl rfl 2 rfl ?_
        obtain ⟨x9, ex9, h⟩ := ltE h
        rw [← ex9]
        refine RR.weak [(0, .ref 500), (1, .int x9), (2, .int v2)] ⟨rfl, rfl, rfl, trivial⟩ ?_
        exact s_m_livesDay_53 _ (fun _ _ S h => ih _ _ S h) _ _ _ h
      · refine RR.c_ge (fun q => absurd q c) (fun _ => ?_)
        refine RR.weak [(0, .ref 500), (1, .int v1), (2, .int v2)] ⟨rfl, rfl, rfl, trivial⟩ ?_
        exact s_m_livesDay_53 _ (fun _ _ S h => ih _ _ S h) _ _ _ h
    · refine RR.c_ge (fun q => absurd q c) (fun _ => ?_)
      refine RR.weak [(0, .ref 500), (1, .int v1)] ⟨rfl, rfl, trivial⟩ ?_
      exact s_m_livesDay_59 _ _ h
def m_livesDay (S : St) : Re Int32 :=
  m_livesDay_4 FU (0 : Int32) (0 : Int32) S
set_option maxRecDepth 100000 in
theorem s0_m_livesDay {d : Nat} {S' : St} {r : Int32} (S : St) (h : m_livesDay S = some (r, S')) : RR KM (d + 6) 2505 0 [(0, .ref 500)] [] S (some (.int r)) S' := by
  unfold m_livesDay at h
  refine RR.runs (pc' := 4) (lc' := [(2, .int (0 : Int32)), (1, .int (0 : Int32)), (0, .ref 500)]) (st' := []) (S1 := S) (nL := 4) (cd := cd_2505) mx_2505 rfl rfl 4 rfl ?_
  refine RR.weak [(0, .ref 500), (1, .int (0 : Int32)), (2, .int (0 : Int32))] ⟨rfl, rfl, rfl, trivial⟩ ?_
  exact s_m_livesDay_4 _ _ _ _ h
theorem s_m_livesDay {d : Nat} {S' : St} {r : Int32} (S : St) (h : m_livesDay S = some (r, S')) : RC KM (d + 6) 2505 [.ref 500] S (some (.int r)) S' := RC.of rfl (s0_m_livesDay S h)
-- years (III)I
def m_years_35 (S : St) : Re Int32 :=
  some ((-1 : Int32), S)
set_option maxRecDepth 100000 in
theorem s_m_years_35 {d : Nat} {S' : St} {r : Int32} (S : St) (h : m_years_35 S = some (r, S')) : RR KM (d + 7) 2506 35 [] [] S (some (.int r)) S' := by
  unfold m_years_35 at h
  refine RR.runs (pc' := 36) (lc' := []) (st' := [.int (-1 : Int32)]) (S1 := S) (nL := 6) (cd := cd_2506) mx_2506 rfl rfl 1 rfl ?_
  cases h
  exact RR.reti mx_2506 rfl rfl rfl
def m_years_122 (p0 : Int32) (S : St) : Re Int32 :=
  bn (m_copies 554 (0 : Int32) 553 (0 : Int32) S) fun r1 S2 =>
  some (p0, S2)
set_option maxRecDepth 100000 in
theorem s_m_years_122 {d : Nat} {S' : St} {r : Int32} (p0 : Int32) (S : St) (h : m_years_122 p0 S = some (r, S')) : RR KM (d + 7) 2506 122 [(0, .ref 500)] [.int p0] S (some (.int r)) S' := by
  unfold m_years_122 at h
  refine RR.runs (pc' := 134) (lc' := [(5, .int p0), (0, .ref 500)]) (st' := [.int (0 : Int32), .ref 553, .int (0 : Int32), .ref 554]) (S1 := S) (nL := 6) (cd := cd_2506) mx_2506 rfl rfl 7 rfl ?_
  obtain ⟨r1, S2, h1, h⟩ := bnE h
  refine RR.callS (as := [.ref 554, .int (0 : Int32), .ref 553, .int (0 : Int32)]) (rest := []) (r1 := none) (S1 := S2) mx_2506 rfl rfl mx_2448 rfl rfl (by decide) (Nat.le_of_ble_eq_true rfl) (Nat.le_of_ble_eq_true rfl) (Nat.le_of_ble_eq_true rfl) (RC.deep (by omega) (s_m_copies (d := d) _ _ _ _ _ h1)) ?_
  show RR KM _ 2506 137 [(5, .int p0), (0, .ref 500)] [] S2 _ _
  refine RR.runs (pc' := 139) (lc' := [(5, .int p0), (0, .ref 500)]) (st' := [.int p0]) (S1 := S2) (nL := 6) (cd := cd_2506) mx_2506 rfl rfl 1 rfl ?_
  cases h
  exact RR.reti mx_2506 rfl rfl rfl
def m_years_83 (v3 : Int32) (v4 : Int32) (S : St) : Re Int32 :=
  if v3 = 0 then (
    if (4 : Int32) < 0 ∨ 15 ≤ (4 : Int32).toNatClampNeg then none else
    if (4 : Int32) < 0 ∨ 15 ≤ (4 : Int32).toNatClampNeg then none else
    m_years_122 (((rI S 553 (4 : Int32).toNatClampNeg) - (rI S 554 (4 : Int32).toNatClampNeg))) S)
  else (
    if v3 = (1 : Int32) then (
      m_years_122 v4 S)
    else (
      if (0 : Int32) < 0 ∨ 15 ≤ (0 : Int32).toNatClampNeg then none else
      bn (m_bits ((rI S 553 (0 : Int32).toNatClampNeg)) S) fun r1 S2 =>
      m_years_122 r1 S2))
set_option maxRecDepth 100000 in
theorem s_m_years_83 {d : Nat} {S' : St} {r : Int32} (v3 : Int32) (v4 : Int32) (S : St) (h : m_years_83 v3 v4 S = some (r, S')) : RR KM (d + 7) 2506 83 [(0, .ref 500), (3, .int v3), (4, .int v4)] [] S (some (.int r)) S' := by
  unfold m_years_83 at h
  refine RR.runs (pc' := icm .ne v3 0 103 87) (lc' := [(0, .ref 500), (3, .int v3), (4, .int v4)]) (st' := []) (S1 := S) (nL := 6) (cd := cd_2506) mx_2506 rfl rfl 2 rfl ?_
  rcases ifE h with ⟨c, h⟩ | ⟨c, h⟩
  · refine RR.c_ne (fun _ => ?_) (fun q => absurd c q)
    refine RR.runs (pc' := 92) (lc' := [(0, .ref 500), (3, .int v3), (4, .int v4)]) (st' := [.int (4 : Int32), .ref 553]) (S1 := S) (nL := 6) (cd := cd_2506) mx_2506 rfl rfl 3 rfl ?_
    obtain ⟨g, h⟩ := gnE h
    refine RR.gPN (c2 := (KM.1 553).1 = 1) (pc' := 93) (lc' := [(0, .ref 500), (3, .int v3), (4, .int v4)]) (st' := [.int ((rI S 553 (4 : Int32).toNatClampNeg))]) (S1 := S) (nL := 6) (cd := cd_2506) mx_2506 rfl rfl rfl rfl g ?_
    refine RR.runs (pc' := 98) (lc' := [(0, .ref 500), (3, .int v3), (4, .int v4)]) (st' := [.int (4 : Int32), .ref 554, .int ((rI S 553 (4 : Int32).toNatClampNeg))]) (S1 := S) (nL := 6) (cd := cd_2506) mx_2506 rfl rfl 3 rfl ?_
    obtain ⟨g, h⟩ := gnE h
    refine RR.gPN (c2 := (KM.1 554).1 = 1) (pc' := 99) (lc' := [(0, .ref 500), (3, .int v3), (4, .int v4)]) (st' := [.int ((rI S 554 (4 : Int32).toNatClampNeg)), .int ((rI S 553 (4 : Int32).toNatClampNeg))]) (S1 := S) (nL := 6) (cd := cd_2506) mx_2506 rfl rfl rfl rfl g ?_
    refine RR.runs (pc' := 122) (lc' := [(0, .ref 500), (3, .int v3), (4, .int v4)]) (st' := [.int (((rI S 553 (4 : Int32).toNatClampNeg) - (rI S 554 (4 : Int32).toNatClampNeg)))]) (S1 := S) (nL := 6) (cd := cd_2506) mx_2506 rfl rfl 2 rfl ?_
    refine RR.weak [(0, .ref 500)] ⟨rfl, trivial⟩ ?_
    exact s_m_years_122 _ _ h
  · refine RR.c_ne (fun q => absurd q c) (fun _ => ?_)
    refine RR.runs (pc' := icm .ne v3 (1 : Int32) 113 108) (lc' := [(0, .ref 500), (3, .int v3), (4, .int v4)]) (st' := []) (S1 := S) (nL := 6) (cd := cd_2506) mx_2506 rfl rfl 3 rfl ?_
    rcases ifE h with ⟨c, h⟩ | ⟨c, h⟩
    · refine RR.c_ne (fun _ => ?_) (fun q => absurd c q)
      refine RR.runs (pc' := 122) (lc' := [(0, .ref 500), (3, .int v3), (4, .int v4)]) (st' := [.int v4]) (S1 := S) (nL := 6) (cd := cd_2506) mx_2506 rfl rfl 2 rfl ?_
      refine RR.weak [(0, .ref 500)] ⟨rfl, trivial⟩ ?_
      exact s_m_years_122 _ _ h
    · refine RR.c_ne (fun q => absurd q c) (fun _ => ?_)
      refine RR.runs (pc' := 118) (lc' := [(0, .ref 500), (3, .int v3), (4, .int v4)]) (st' := [.int (0 : Int32), .ref 553]) (S1 := S) (nL := 6) (cd := cd_2506) mx_2506 rfl rfl 3 rfl ?_
      obtain ⟨g, h⟩ := gnE h
      refine RR.gPN (c2 := (KM.1 553).1 = 1) (pc' := 119) (lc' := [(0, .ref 500), (3, .int v3), (4, .int v4)]) (st' := [.int ((rI S 553 (0 : Int32).toNatClampNeg))]) (S1 := S) (nL := 6) (cd := cd_2506) mx_2506 rfl rfl rfl rfl g ?_
      obtain ⟨r1, S2, h1, h⟩ := bnE h
      refine RR.callS (as := [.int ((rI S 553 (0 : Int32).toNatClampNeg))]) (rest := []) (r1 := (some (.int r1))) (S1 := S2) mx_2506 rfl rfl mx_2405 rfl rfl (by decide) (Nat.le_of_ble_eq_true rfl) (Nat.le_of_ble_eq_true rfl) (Nat.le_of_ble_eq_true rfl) (RC.deep (by omega) (s_m_bits (d := d) _ _ h1)) ?_
      show RR KM _ 2506 122 [(0, .ref 500), (3, .int v3), (4, .int v4)] [.int r1] S2 _ _
      refine RR.weak [(0, .ref 500)] ⟨rfl, trivial⟩ ?_
      exact s_m_years_122 _ _ h
def m_years_62 : Nat → Int32 → Int32 → Int32 → Int32 → St → Re Int32
  | 0, _, _, _, _, _ => none
  | n + 1, v2, v3, v4, v5, S =>
  if v5 < v2 then (
    bn (m_livesDay S) fun r1 S2 =>
    lt' ((v4 + r1) : Int32) fun x3 =>
    lt' ((v5 + (1 : Int32)) : Int32) fun x4 =>
    m_years_62 n v2 v3 x3 x4 S2)
  else (
    m_years_83 v3 v4 S)
set_option maxRecDepth 100000 in
theorem s_m_years_62 {d : Nat} {S' : St} {r : Int32} : ∀ (n : Nat) (v2 : Int32) (v3 : Int32) (v4 : Int32) (v5 : Int32) (S : St), m_years_62 n v2 v3 v4 v5 S = some (r, S') → RR KM (d + 7) 2506 62 [(0, .ref 500), (2, .int v2), (3, .int v3), (4, .int v4), (5, .int v5)] [] S (some (.int r)) S' := by
  intro n
  induction n with
  | zero => intro v2 v3 v4 v5 S h; simp only [m_years_62] at h; cases h
  | succ n ih =>
    intro v2 v3 v4 v5 S h
    simp only [m_years_62] at h
    refine RR.runs (pc' := icm .ge v5 v2 83 68) (lc' := [(0, .ref 500), (2, .int v2), (3, .int v3), (4, .int v4), (5, .int v5)]) (st' := []) (S1 := S) (nL := 6) (cd := cd_2506) mx_2506 rfl rfl 3 rfl ?_
    rcases ifE h with ⟨c, h⟩ | ⟨c, h⟩
    · refine RR.c_ge (fun _ => ?_) (fun q => absurd c q)
      refine RR.runs (pc' := 71) (lc' := [(0, .ref 500), (2, .int v2), (3, .int v3), (4, .int v4), (5, .int v5)]) (st' := [.ref 500, .int v4]) (S1 := S) (nL := 6) (cd := cd_2506) mx_2506 rfl rfl 2 rfl ?_
      obtain ⟨r1, S2, h1, h⟩ := bnE h
      refine RR.callV (b := 500) (as := []) (rest := [.int v4]) (r1 := (some (.int r1))) (S1 := S2) mx_2506 rfl rfl mx_2505 rfl rfl (by decide) (Or.inl rfl) (Nat.le_of_ble_eq_true rfl) (Nat.le_of_ble_eq_true rfl) (RC.deep (by omega) (s_m_livesDay (d := d) _ h1)) ?_
      show RR KM _ 2506 74 [(0, .ref 500), (2, .int v2), (3, .int v3), (4, .int v4), (5, .int v5)] [.int r1, .int v4] S2 _ _
      refine RR.runs (pc' := 77) (lc' := [(4, .int (v4 + r1)), (0, .ref 500), (2, .int v2), (3, .int v3), (5, .int v5)]) (st' := []) (S1 := S2) (nL := 6) (cd := cd_2506) mx_2506 rfl rfl 2 rfl ?_
      obtain ⟨x3, ex3, h⟩ := ltE h
      rw [← ex3]
      refine RR.runs (pc' := 80) (lc' := [(5, .int ((v5 + (1 : Int32)))), (4, .int x3), (0, .ref 500), (2, .int v2), (3, .int v3)]) (st' := []) (S1 := S2) (nL := 6) (cd := cd_2506) mx_2506 rfl rfl 1 rfl ?_
      obtain ⟨x4, ex4, h⟩ := ltE h
      rw [← ex4]
      refine RR.runs (pc' := 62) (lc' := [(5, .int x4), (4, .int x3), (0, .ref 500), (2, .int v2), (3, .int v3)]) (st' := []) (S1 := S2) (nL := 6) (cd := cd_2506) mx_2506 rfl rfl 1 rfl ?_
      refine RR.weak [(0, .ref 500), (2, .int v2), (3, .int v3), (4, .int x3), (5, .int x4)] ⟨rfl, rfl, rfl, rfl, rfl, trivial⟩ ?_
      exact ih _ _ _ _ _ h
    · refine RR.c_ge (fun q => absurd q c) (fun _ => ?_)
      refine RR.weak [(0, .ref 500), (3, .int v3), (4, .int v4)] ⟨rfl, rfl, rfl, trivial⟩ ?_
      exact s_m_years_83 _ _ _ h
def m_years (v1 : Int32) (v2 : Int32) (v3 : Int32) (S : St) : Re Int32 :=
  lt' (wI S 500 0 (0 : Int32)) fun S1 =>
  bn (m_within v1 (0 : Int32) (9999 : Int32) S1) fun r2 S3 =>
  if r2 = 0 then (
    m_years_35 S3)
  else (
    bn (m_within v2 (1 : Int32) (60 : Int32) S3) fun r4 S5 =>
    if r4 = 0 then (
      m_years_35 S5)
    else (
      bn (m_within v3 (0 : Int32) (2 : Int32) S5) fun r6 S7 =>
      if r6 = 0 then (
        m_years_35 S7)
      else (
        lt' (wJ S7 500 86 v1.toInt64) fun S8 =>
        bn (m_copies 553 (0 : Int32) 554 (0 : Int32) S8) fun r9 S10 =>
        m_years_62 FU v2 v3 (0 : Int32) (0 : Int32) S10)))
set_option maxRecDepth 100000 in
theorem s0_m_years {d : Nat} {S' : St} {r : Int32} (v1 : Int32) (v2 : Int32) (v3 : Int32) (S : St) (h : m_years v1 v2 v3 S = some (r, S')) : RR KM (d + 7) 2506 0 [(0, .ref 500), (1, .int v1), (2, .int v2), (3, .int v3)] [] S (some (.int r)) S' := by
  unfold m_years at h
  refine RR.runs (pc' := 5) (lc' := [(0, .ref 500), (1, .int v1), (2, .int v2), (3, .int v3)]) (st' := []) (S1 := (wI S 500 0 (0 : Int32))) (nL := 6) (cd := cd_2506) mx_2506 rfl rfl 3 rfl ?_
  obtain ⟨S1, eS1, h⟩ := ltE h
  rw [← eS1]
  refine RR.runs (pc' := 10) (lc' := [(0, .ref 500), (1, .int v1), (2, .int v2), (3, .int v3)]) (st' := [.int (9999 : Int32), .int (0 : Int32), .int v1]) (S1 := S1) (nL := 6) (cd := cd_2506) mx_2506 rfl rfl 3 rfl ?_
  obtain ⟨r2, S3, h1, h⟩ := bnE h
  refine RR.callS (as := [.int v1, .int (0 : Int32), .int (9999 : Int32)]) (rest := []) (r1 := (some (.int r2))) (S1 := S3) mx_2506 rfl rfl mx_2402 rfl rfl (by decide) (Nat.le_of_ble_eq_true rfl) (Nat.le_of_ble_eq_true rfl) (Nat.le_of_ble_eq_true rfl) (RC.deep (by omega) (s_m_within (d := d) _ _ _ _ h1)) ?_
  show RR KM _ 2506 13 [(0, .ref 500), (1, .int v1), (2, .int v2), (3, .int v3)] [.int r2] S3 _ _
  refine RR.runs (pc' := icm .eq r2 0 35 16) (lc' := [(0, .ref 500), (1, .int v1), (2, .int v2), (3, .int v3)]) (st' := []) (S1 := S3) (nL := 6) (cd := cd_2506) mx_2506 rfl rfl 1 rfl ?_
  rcases ifE h with ⟨c, h⟩ | ⟨c, h⟩
  · refine RR.c_eq (fun _ => ?_) (fun q => absurd c q)
    refine RR.weak [] trivial ?_
    exact s_m_years_35 _ h
  · refine RR.c_eq (fun q => absurd q c) (fun _ => ?_)
    refine RR.runs (pc' := 20) (lc' := [(0, .ref 500), (1, .int v1), (2, .int v2), (3, .int v3)]) (st' := [.int (60 : Int32), .int (1 : Int32), .int v2]) (S1 := S3) (nL := 6) (cd := cd_2506) mx_2506 rfl rfl 3 rfl ?_
    obtain ⟨r4, S5, h1, h⟩ := bnE h
    refine RR.callS (as := [.int v2, .int (1 : Int32), .int (60 : Int32)]) (rest := []) (r1 := (some (.int r4))) (S1 := S5) mx_2506 rfl rfl mx_2402 rfl rfl (by decide) (Nat.le_of_ble_eq_true rfl) (Nat.le_of_ble_eq_true rfl) (Nat.le_of_ble_eq_true rfl) (RC.deep (by omega) (s_m_within (d := d) _ _ _ _ h1)) ?_
    show RR KM _ 2506 23 [(0, .ref 500), (1, .int v1), (2, .int v2), (3, .int v3)] [.int r4] S5 _ _
    refine RR.runs (pc' := icm .eq r4 0 35 26) (lc' := [(0, .ref 500), (1, .int v1), (2, .int v2), (3, .int v3)]) (st' := []) (S1 := S5) (nL := 6) (cd := cd_2506) mx_2506 rfl rfl 1 rfl ?_
    rcases ifE h with ⟨c, h⟩ | ⟨c, h⟩
    · refine RR.c_eq (fun _ => ?_) (fun q => absurd c q)
      refine RR.weak [] trivial ?_
      exact s_m_years_35 _ h
    · refine RR.c_eq (fun q => absurd q c) (fun _ => ?_)
      refine RR.runs (pc' := 29) (lc' := [(0, .ref 500), (1, .int v1), (2, .int v2), (3, .int v3)]) (st' := [.int (2 : Int32), .int (0 : Int32), .int v3]) (S1 := S5) (nL := 6) (cd := cd_2506) mx_2506 rfl rfl 3 rfl ?_
      obtain ⟨r6, S7, h1, h⟩ := bnE h
      refine RR.callS (as := [.int v3, .int (0 : Int32), .int (2 : Int32)]) (rest := []) (r1 := (some (.int r6))) (S1 := S7) mx_2506 rfl rfl mx_2402 rfl rfl (by decide) (Nat.le_of_ble_eq_true rfl) (Nat.le_of_ble_eq_true rfl) (Nat.le_of_ble_eq_true rfl) (RC.deep (by omega) (s_m_within (d := d) _ _ _ _ h1)) ?_
      show RR KM _ 2506 32 [(0, .ref 500), (1, .int v1), (2, .int v2), (3, .int v3)] [.int r6] S7 _ _
      refine RR.runs (pc' := icm .ne r6 0 37 35) (lc' := [(0, .ref 500), (1, .int v1), (2, .int v2), (3, .int v3)]) (st' := []) (S1 := S7) (nL := 6) (cd := cd_2506) mx_2506 rfl rfl 1 rfl ?_
      rcases ifE h with ⟨c, h⟩ | ⟨c, h⟩
      · refine RR.c_ne (fun _ => ?_) (fun q => absurd c q)
        refine RR.weak [] trivial ?_
        exact s_m_years_35 _ h
      · refine RR.c_ne (fun q => absurd q c) (fun _ => ?_)
        refine RR.runs (pc' := 43) (lc' := [(0, .ref 500), (1, .int v1), (2, .int v2), (3, .int v3)]) (st' := []) (S1 := (wJ S7 500 86 v1.toInt64)) (nL := 6) (cd := cd_2506) mx_2506 rfl rfl 4 rfl ?_
        obtain ⟨S8, eS8, h⟩ := ltE h
        rw [← eS8]
        refine RR.runs (pc' := 53) (lc' := [(0, .ref 500), (1, .int v1), (2, .int v2), (3, .int v3)]) (st' := [.int (0 : Int32), .ref 554, .int (0 : Int32), .ref 553]) (S1 := S8) (nL := 6) (cd := cd_2506) mx_2506 rfl rfl 6 rfl ?_
        obtain ⟨r9, S10, h1, h⟩ := bnE h
        refine RR.callS (as := [.ref 553, .int (0 : Int32), .ref 554, .int (0 : Int32)]) (rest := []) (r1 := none) (S1 := S10) mx_2506 rfl rfl mx_2448 rfl rfl (by decide) (Nat.le_of_ble_eq_true rfl) (Nat.le_of_ble_eq_true rfl) (Nat.le_of_ble_eq_true rfl) (RC.deep (by omega) (s_m_copies (d := d) _ _ _ _ _ h1)) ?_
        show RR KM _ 2506 56 [(0, .ref 500), (1, .int v1), (2, .int v2), (3, .int v3)] [] S10 _ _
        refine RR.runs (pc' := 62) (lc' := [(5, .int (0 : Int32)), (4, .int (0 : Int32)), (0, .ref 500), (1, .int v1), (2, .int v2), (3, .int v3)]) (st' := []) (S1 := S10) (nL := 6) (cd := cd_2506) mx_2506 rfl rfl 4 rfl ?_
        refine RR.weak [(0, .ref 500), (2, .int v2), (3, .int v3), (4, .int (0 : Int32)), (5, .int (0 : Int32))] ⟨rfl, rfl, rfl, rfl, rfl, trivial⟩ ?_
        exact s_m_years_62 _ _ _ _ _ _ h
theorem s_m_years {d : Nat} {S' : St} {r : Int32} (v1 : Int32) (v2 : Int32) (v3 : Int32) (S : St) (h : m_years v1 v2 v3 S = some (r, S')) : RC KM (d + 7) 2506 [.ref 500, .int v1, .int v2, .int v3] S (some (.int r)) S' := RC.of rfl (s0_m_years v1 v2 v3 S h)
-- mark (IZ)Z
def m_mark_27 (S : St) : Re Int32 :=
  some ((0 : Int32), S)
set_option maxRecDepth 100000 in
theorem s_m_mark_27 {d : Nat} {S' : St} {r : Int32} (S : St) (h : m_mark_27 S = some (r, S')) : RR KM (d + 1) 2507 27 [] [] S (some (.int r)) S' := by
  unfold m_mark_27 at h
  refine RR.runs (pc' := 28) (lc' := []) (st' := [.int (0 : Int32)]) (S1 := S) (nL := 5) (cd := cd_2507) mx_2507 rfl rfl 1 rfl ?_
  cases h
  exact RR.retz mx_2507 rfl rfl rfl rfl
def m_mark_119 (S : St) : Re Int32 :=
  some ((1 : Int32), S)
set_option maxRecDepth 100000 in
theorem s_m_mark_119 {d : Nat} {S' : St} {r : Int32} (S : St) (h : m_mark_119 S = some (r, S')) : RR KM (d + 1) 2507 119 [] [] S (some (.int r)) S' := by
  unfold m_mark_119 at h
  refine RR.runs (pc' := 120) (lc' := []) (st' := [.int (1 : Int32)]) (S1 := S) (nL := 5) (cd := cd_2507) mx_2507 rfl rfl 1 rfl ?_
  cases h
  exact RR.retz mx_2507 rfl rfl rfl rfl
def m_mark_59 (v1 : Int32) (v2 : Int32) (v3 : Int32) (p0 : Int32) (S : St) : Re Int32 :=
  bn (m_laysLines v3 p0 S) fun r1 S2 =>
  bn (m_laysTold v3 p0 S2) fun r3 S4 =>
  if v2 = 0 then (
    bn (m_copies 553 (0 : Int32) 555 (((15 : Int32) * v1)) S4) fun r5 S6 =>
    m_mark_119 S6)
  else (
    bn (m_copies 555 (((15 : Int32) * v1)) 553 (0 : Int32) S4) fun r7 S8 =>
    lt' (wI S8 500 69 (0 : Int32)) fun S9 =>
    m_mark_119 S9)
set_option maxRecDepth 100000 in
theorem s_m_mark_59 {d : Nat} {S' : St} {r : Int32} (v1 : Int32) (v2 : Int32) (v3 : Int32) (p0 : Int32) (S : St) (h : m_mark_59 v1 v2 v3 p0 S = some (r, S')) : RR KM (d + 1) 2507 59 [(0, .ref 500), (1, .int v1), (2, .int v2), (3, .int v3)] [.int p0] S (some (.int r)) S' := by
  unfold m_mark_59 at h
  refine RR.runs (pc' := 65) (lc' := [(4, .int p0), (0, .ref 500), (1, .int v1), (2, .int v2), (3, .int v3)]) (st' := [.int p0, .int v3, .ref 500]) (S1 := S) (nL := 5) (cd := cd_2507) mx_2507 rfl rfl 4 rfl ?_
  obtain ⟨r1, S2, h1, h⟩ := bnE h
  refine RR.callV (b := 500) (as := [.int v3, .int p0]) (rest := []) (r1 := none) (S1 := S2) mx_2507 rfl rfl mx_2450 rfl rfl (by decide) (Or.inl rfl) (Nat.le_of_ble_eq_true rfl) (Nat.le_of_ble_eq_true rfl) (RC.deep (by omega) (s_m_laysLines (d := d) _ _ _ h1)) ?_
  show RR KM _ 2507 68 [(4, .int p0), (0, .ref 500), (1, .int v1), (2, .int v2), (3, .int v3)] [] S2 _ _
  refine RR.runs (pc' := 72) (lc' := [(4, .int p0), (0, .ref 500), (1, .int v1), (2, .int v2), (3, .int v3)]) (st' := [.int p0, .int v3, .ref 500]) (S1 := S2) (nL := 5) (cd := cd_2507) mx_2507 rfl rfl 3 rfl ?_
  obtain ⟨r3, S4, h1, h⟩ := bnE h
  refine RR.callV (b := 500) (as := [.int v3, .int p0]) (rest := []) (r1 := none) (S1 := S4) mx_2507 rfl rfl mx_2451 rfl rfl (by decide) (Or.inl rfl) (Nat.le_of_ble_eq_true rfl) (Nat.le_of_ble_eq_true rfl) (RC.deep (by omega) (s_m_laysTold (d := d) _ _ _ h1)) ?_
  show RR KM _ 2507 75 [(4, .int p0), (0, .ref 500), (1, .int v1), (2, .int v2), (3, .int v3)] [] S4 _ _
  refine RR.runs (pc' := icm .eq v2 0 103 79) (lc' := [(4, .int p0), (0, .ref 500), (1, .int v1), (2, .int v2), (3, .int v3)]) (st' := []) (S1 := S4) (nL := 5) (cd := cd_2507) mx_2507 rfl rfl 2 rfl ?_
  rcases ifE h with ⟨c, h⟩ | ⟨c, h⟩
  · refine RR.c_eq (fun _ => ?_) (fun q => absurd c q)
    refine RR.runs (pc' := 116) (lc' := [(4, .int p0), (0, .ref 500), (1, .int v1), (2, .int v2), (3, .int v3)]) (st' := [.int (((15 : Int32) * v1)), .ref 555, .int (0 : Int32), .ref 553]) (S1 := S4) (nL := 5) (cd := cd_2507) mx_2507 rfl rfl 8 rfl ?_
    obtain ⟨r5, S6, h1, h⟩ := bnE h
    refine RR.callS (as := [.ref 553, .int (0 : Int32), .ref 555, .int (((15 : Int32) * v1))]) (rest := []) (r1 := none) (S1 := S6) mx_2507 rfl rfl mx_2448 rfl rfl (by decide) (Nat.le_of_ble_eq_true rfl) (Nat.le_of_ble_eq_true rfl) (Nat.le_of_ble_eq_true rfl) (RC.deep (by omega) (s_m_copies (d := d) _ _ _ _ _ h1)) ?_
    show RR KM _ 2507 119 [(4, .int p0), (0, .ref 500), (1, .int v1), (2, .int v2), (3, .int v3)] [] S6 _ _
    refine RR.weak [] trivial ?_
    exact s_m_mark_119 _ h
  · refine RR.c_eq (fun q => absurd q c) (fun _ => ?_)
    refine RR.runs (pc' := 92) (lc' := [(4, .int p0), (0, .ref 500), (1, .int v1), (2, .int v2), (3, .int v3)]) (st' := [.int (0 : Int32), .ref 553, .int (((15 : Int32) * v1)), .ref 555]) (S1 := S4) (nL := 5) (cd := cd_2507) mx_2507 rfl rfl 8 rfl ?_
    obtain ⟨r7, S8, h1, h⟩ := bnE h
    refine RR.callS (as := [.ref 555, .int (((15 : Int32) * v1)), .ref 553, .int (0 : Int32)]) (rest := []) (r1 := none) (S1 := S8) mx_2507 rfl rfl mx_2448 rfl rfl (by decide) (Nat.le_of_ble_eq_true rfl) (Nat.le_of_ble_eq_true rfl) (Nat.le_of_ble_eq_true rfl) (RC.deep (by omega) (s_m_copies (d := d) _ _ _ _ _ h1)) ?_
    show RR KM _ 2507 95 [(4, .int p0), (0, .ref 500), (1, .int v1), (2, .int v2), (3, .int v3)] [] S8 _ _
    refine RR.runs (pc' := 100) (lc' := [(4, .int p0), (0, .ref 500), (1, .int v1), (2, .int v2), (3, .int v3)]) (st' := []) (S1 := (wI S8 500 69 (0 : Int32))) (nL := 5) (cd := cd_2507) mx_2507 rfl rfl 3 rfl ?_
    obtain ⟨S9, eS9, h⟩ := ltE h
    rw [← eS9]
    refine RR.runs (pc' := 119) (lc' := [(4, .int p0), (0, .ref 500), (1, .int v1), (2, .int v2), (3, .int v3)]) (st' := []) (S1 := S9) (nL := 5) (cd := cd_2507) mx_2507 rfl rfl 1 rfl ?_
    refine RR.weak [] trivial ?_
    exact s_m_mark_119 _ h
def m_mark_47 (v1 : Int32) (v2 : Int32) (p0 : Int32) (S : St) : Re Int32 :=
  if v2 = 0 then (
    m_mark_59 v1 v2 p0 (((1 : Int32) + v1)) S)
  else (
    m_mark_59 v1 v2 p0 (0 : Int32) S)
set_option maxRecDepth 100000 in
theorem s_m_mark_47 {d : Nat} {S' : St} {r : Int32} (v1 : Int32) (v2 : Int32) (p0 : Int32) (S : St) (h : m_mark_47 v1 v2 p0 S = some (r, S')) : RR KM (d + 1) 2507 47 [(0, .ref 500), (1, .int v1), (2, .int v2)] [.int p0] S (some (.int r)) S' := by
  unfold m_mark_47 at h
  refine RR.runs (pc' := icm .eq v2 0 56 52) (lc' := [(3, .int p0), (0, .ref 500), (1, .int v1), (2, .int v2)]) (st' := []) (S1 := S) (nL := 5) (cd := cd_2507) mx_2507 rfl rfl 3 rfl ?_
  rcases ifE h with ⟨c, h⟩ | ⟨c, h⟩
  · refine RR.c_eq (fun _ => ?_) (fun q => absurd c q)
    refine RR.runs (pc' := 59) (lc' := [(3, .int p0), (0, .ref 500), (1, .int v1), (2, .int v2)]) (st' := [.int (((1 : Int32) + v1))]) (S1 := S) (nL := 5) (cd := cd_2507) mx_2507 rfl rfl 3 rfl ?_
    refine RR.weak [(0, .ref 500), (1, .int v1), (2, .int v2), (3, .int p0)] ⟨rfl, rfl, rfl, rfl, trivial⟩ ?_
    exact s_m_mark_59 _ _ _ _ _ h
  · refine RR.c_eq (fun q => absurd q c) (fun _ => ?_)
    refine RR.runs (pc' := 59) (lc' := [(3, .int p0), (0, .ref 500), (1, .int v1), (2, .int v2)]) (st' := [.int (0 : Int32)]) (S1 := S) (nL := 5) (cd := cd_2507) mx_2507 rfl rfl 2 rfl ?_
    refine RR.weak [(0, .ref 500), (1, .int v1), (2, .int v2), (3, .int p0)] ⟨rfl, rfl, rfl, rfl, trivial⟩ ?_
    exact s_m_mark_59 _ _ _ _ _ h
def m_mark_29 (v1 : Int32) (v2 : Int32) (S : St) : Re Int32 :=
  if v1 < 0 ∨ 4 ≤ v1.toNatClampNeg then none else
  lt' (wI S 557 v1.toNatClampNeg ((vp_nar .boolean (1 : Int32)))) fun S1 =>
  if v2 = 0 then (
    m_mark_47 v1 v2 (0 : Int32) S1)
  else (
    m_mark_47 v1 v2 (((1 : Int32) + v1)) S1)
set_option maxRecDepth 100000 in
theorem s_m_mark_29 {d : Nat} {S' : St} {r : Int32} (v1 : Int32) (v2 : Int32) (S : St) (h : m_mark_29 v1 v2 S = some (r, S')) : RR KM (d + 1) 2507 29 [(0, .ref 500), (1, .int v1), (2, .int v2)] [] S (some (.int r)) S' := by
  unfold m_mark_29 at h
  refine RR.runs (pc' := 35) (lc' := [(0, .ref 500), (1, .int v1), (2, .int v2)]) (st' := [.int (1 : Int32), .int v1, .ref 557]) (S1 := S) (nL := 5) (cd := cd_2507) mx_2507 rfl rfl 4 rfl ?_
  obtain ⟨g, h⟩ := gnE h
  refine RR.gPN (c2 := (KM.1 557).1 = 3) (pc' := 36) (lc' := [(0, .ref 500), (1, .int v1), (2, .int v2)]) (st' := []) (S1 := (wI S 557 v1.toNatClampNeg ((vp_nar .boolean (1 : Int32))))) (nL := 5) (cd := cd_2507) mx_2507 rfl rfl rfl rfl g ?_
  obtain ⟨S1, eS1, h⟩ := ltE h
  rw [← eS1]
  refine RR.runs (pc' := icm .eq v2 0 46 40) (lc' := [(0, .ref 500), (1, .int v1), (2, .int v2)]) (st' := []) (S1 := S1) (nL := 5) (cd := cd_2507) mx_2507 rfl rfl 2 rfl ?_
  rcases ifE h with ⟨c, h⟩ | ⟨c, h⟩
  · refine RR.c_eq (fun _ => ?_) (fun q => absurd c q)
    refine RR.runs (pc' := 47) (lc' := [(0, .ref 500), (1, .int v1), (2, .int v2)]) (st' := [.int (0 : Int32)]) (S1 := S1) (nL := 5) (cd := cd_2507) mx_2507 rfl rfl 1 rfl ?_
    refine RR.weak [(0, .ref 500), (1, .int v1), (2, .int v2)] ⟨rfl, rfl, rfl, trivial⟩ ?_
    exact s_m_mark_47 _ _ _ _ h
  · refine RR.c_eq (fun q => absurd q c) (fun _ => ?_)
    refine RR.runs (pc' := 47) (lc' := [(0, .ref 500), (1, .int v1), (2, .int v2)]) (st' := [.int (((1 : Int32) + v1))]) (S1 := S1) (nL := 5) (cd := cd_2507) mx_2507 rfl rfl 4 rfl ?_
    refine RR.weak [(0, .ref 500), (1, .int v1), (2, .int v2)] ⟨rfl, rfl, rfl, trivial⟩ ?_
    exact s_m_mark_47 _ _ _ _ h
def m_mark (v1 : Int32) (v2 : Int32) (S : St) : Re Int32 :=
  lt' (wI S 500 0 (0 : Int32)) fun S1 =>
  bn (m_within v1 (0 : Int32) (3 : Int32) S1) fun r2 S3 =>
  if r2 = 0 then (
    m_mark_27 S3)
  else (
    if v2 = 0 then (
      m_mark_29 v1 v2 S3)
    else (
      if v1 < 0 ∨ 4 ≤ v1.toNatClampNeg then none else
      if (rI S3 557 v1.toNatClampNeg) = 0 then (
        m_mark_27 S3)
      else (
        m_mark_29 v1 v2 S3)))
set_option maxRecDepth 100000 in
theorem s0_m_mark {d : Nat} {S' : St} {r : Int32} (v1 : Int32) (v2 : Int32) (S : St) (h : m_mark v1 v2 S = some (r, S')) : RR KM (d + 1) 2507 0 [(0, .ref 500), (1, .int v1), (2, .int v2)] [] S (some (.int r)) S' := by
  unfold m_mark at h
  refine RR.runs (pc' := 5) (lc' := [(0, .ref 500), (1, .int v1), (2, .int v2)]) (st' := []) (S1 := (wI S 500 0 (0 : Int32))) (nL := 5) (cd := cd_2507) mx_2507 rfl rfl 3 rfl ?_
  obtain ⟨S1, eS1, h⟩ := ltE h
  rw [← eS1]
  refine RR.runs (pc' := 8) (lc' := [(0, .ref 500), (1, .int v1), (2, .int v2)]) (st' := [.int (3 : Int32), .int (0 : Int32), .int v1]) (S1 := S1) (nL := 5) (cd := cd_2507) mx_2507 rfl rfl 3 rfl ?_
  obtain ⟨r2, S3, h1, h⟩ := bnE h
  refine RR.callS (as := [.int v1, .int (0 : Int32), .int (3 : Int32)]) (rest := []) (r1 := (some (.int r2))) (S1 := S3) mx_2507 rfl rfl mx_2402 rfl rfl (by decide) (Nat.le_of_ble_eq_true rfl) (Nat.le_of_ble_eq_true rfl) (Nat.le_of_ble_eq_true rfl) (RC.deep (by omega) (s_m_within (d := d) _ _ _ _ h1)) ?_
  show RR KM _ 2507 11 [(0, .ref 500), (1, .int v1), (2, .int v2)] [.int r2] S3 _ _
  refine RR.runs (pc' := icm .eq r2 0 27 14) (lc' := [(0, .ref 500), (1, .int v1), (2, .int v2)]) (st' := []) (S1 := S3) (nL := 5) (cd := cd_2507) mx_2507 rfl rfl 1 rfl ?_
  rcases ifE h with ⟨c, h⟩ | ⟨c, h⟩
  · refine RR.c_eq (fun _ => ?_) (fun q => absurd c q)
    refine RR.weak [] trivial ?_
    exact s_m_mark_27 _ h
  · refine RR.c_eq (fun q => absurd q c) (fun _ => ?_)
    refine RR.runs (pc' := icm .eq v2 0 29 18) (lc' := [(0, .ref 500), (1, .int v1), (2, .int v2)]) (st' := []) (S1 := S3) (nL := 5) (cd := cd_2507) mx_2507 rfl rfl 2 rfl ?_
    rcases ifE h with ⟨c, h⟩ | ⟨c, h⟩
    · refine RR.c_eq (fun _ => ?_) (fun q => absurd c q)
      refine RR.weak [(0, .ref 500), (1, .int v1), (2, .int v2)] ⟨rfl, rfl, rfl, trivial⟩ ?_
      exact s_m_mark_29 _ _ _ h
    · refine RR.c_eq (fun q => absurd q c) (fun _ => ?_)
      refine RR.runs (pc' := 23) (lc' := [(0, .ref 500), (1, .int v1), (2, .int v2)]) (st' := [.int v1, .ref 557]) (S1 := S3) (nL := 5) (cd := cd_2507) mx_2507 rfl rfl 3 rfl ?_
      obtain ⟨g, h⟩ := gnE h
      refine RR.gPN (c2 := (KM.1 557).1 = 3) (pc' := 24) (lc' := [(0, .ref 500), (1, .int v1), (2, .int v2)]) (st' := [.int (rI S3 557 v1.toNatClampNeg)]) (S1 := S3) (nL := 5) (cd := cd_2507) mx_2507 rfl rfl rfl rfl g ?_
      refine RR.runs (pc' := icm .ne (rI S3 557 v1.toNatClampNeg) 0 29 27) (lc' := [(0, .ref 500), (1, .int v1), (2, .int v2)]) (st' := []) (S1 := S3) (nL := 5) (cd := cd_2507) mx_2507 rfl rfl 1 rfl ?_
      rcases ifE h with ⟨c, h⟩ | ⟨c, h⟩
      · refine RR.c_ne (fun _ => ?_) (fun q => absurd c q)
        refine RR.weak [] trivial ?_
        exact s_m_mark_27 _ h
      · refine RR.c_ne (fun q => absurd q c) (fun _ => ?_)
        refine RR.weak [(0, .ref 500), (1, .int v1), (2, .int v2)] ⟨rfl, rfl, rfl, trivial⟩ ?_
        exact s_m_mark_29 _ _ _ h
theorem s_m_mark {d : Nat} {S' : St} {r : Int32} (v1 : Int32) (v2 : Int32) (S : St) (h : m_mark v1 v2 S = some (r, S')) : RC KM (d + 1) 2507 [.ref 500, .int v1, .int v2] S (some (.int r)) S' := RC.of rfl (s0_m_mark v1 v2 S h)
-- count (I)I
def m_count_75 (p0 : Int32) (S : St) : Re Int32 :=
  some (p0, S)
set_option maxRecDepth 100000 in
theorem s_m_count_75 {d : Nat} {S' : St} {r : Int32} (p0 : Int32) (S : St) (h : m_count_75 p0 S = some (r, S')) : RR KM (d + 1) 2508 75 [] [.int p0] S (some (.int r)) S' := by
  unfold m_count_75 at h
  cases h
  exact RR.reti mx_2508 rfl rfl rfl
def m_count_121 (p0 : Int32) (S : St) : Re Int32 :=
  some (p0, S)
set_option maxRecDepth 100000 in
theorem s_m_count_121 {d : Nat} {S' : St} {r : Int32} (p0 : Int32) (S : St) (h : m_count_121 p0 S = some (r, S')) : RR KM (d + 1) 2508 121 [] [.int p0] S (some (.int r)) S' := by
  unfold m_count_121 at h
  cases h
  exact RR.reti mx_2508 rfl rfl rfl
def m_count_154 (p0 : Int32) (S : St) : Re Int32 :=
  some (p0, S)
set_option maxRecDepth 100000 in
theorem s_m_count_154 {d : Nat} {S' : St} {r : Int32} (p0 : Int32) (S : St) (h : m_count_154 p0 S = some (r, S')) : RR KM (d + 1) 2508 154 [] [.int p0] S (some (.int r)) S' := by
  unfold m_count_154 at h
  cases h
  exact RR.reti mx_2508 rfl rfl rfl
def m_count (v1 : Int32) (S : St) : Re Int32 :=
  lt' (wI S 500 0 (0 : Int32)) fun S1 =>
  bn (m_within v1 (0 : Int32) (14 : Int32) S1) fun r2 S3 =>
  if r2 = 0 then (
    some ((-1 : Int32), S3))
  else (
    if v1 < (6 : Int32) then (
      if v1 < 0 ∨ 12 ≤ v1.toNatClampNeg then none else
      some ((rI S3 502 v1.toNatClampNeg), S3))
    else (
      if v1 < (9 : Int32) then (
        if v1 = (6 : Int32) then (
          if (0 : Int32) < 0 ∨ 15 ≤ (0 : Int32).toNatClampNeg then none else
          bn (m_bits ((rI S3 553 (0 : Int32).toNatClampNeg)) S3) fun r4 S5 =>
          m_count_75 r4 S5)
        else (
          if v1 = (7 : Int32) then (
            if (2 : Int32) < 0 ∨ 15 ≤ (2 : Int32).toNatClampNeg then none else
            m_count_75 ((rI S3 553 (2 : Int32).toNatClampNeg)) S3)
          else (
            if (4 : Int32) < 0 ∨ 15 ≤ (4 : Int32).toNatClampNeg then none else
            m_count_75 ((rI S3 553 (4 : Int32).toNatClampNeg)) S3)))
      else (
        if v1 < (12 : Int32) then (
          if v1 = (9 : Int32) then (
            if (0 : Int32) < 0 ∨ 6 ≤ (0 : Int32).toNatClampNeg then none else
            m_count_121 ((rI S3 543 (0 : Int32).toNatClampNeg)) S3)
          else (
            if v1 = (10 : Int32) then (
              if (0 : Int32) < 0 ∨ 5 ≤ (0 : Int32).toNatClampNeg then none else
              bn (m_bits ((rI S3 547 (0 : Int32).toNatClampNeg)) S3) fun r6 S7 =>
              m_count_121 r6 S7)
            else (
              if (0 : Int32) < 0 ∨ 5 ≤ (0 : Int32).toNatClampNeg then none else
              m_count_121 ((rI S3 549 (0 : Int32).toNatClampNeg)) S3)))
        else (
          if v1 = (12 : Int32) then (
            m_count_154 (rI S3 500 69) S3)
          else (
            if v1 = (13 : Int32) then (
              m_count_154 (rI S3 500 1) S3)
            else (
              if (3 : Int32) < 0 ∨ 15 ≤ (3 : Int32).toNatClampNeg then none else
              m_count_154 ((rI S3 553 (3 : Int32).toNatClampNeg)) S3))))))
set_option maxRecDepth 100000 in
theorem s0_m_count {d : Nat} {S' : St} {r : Int32} (v1 : Int32) (S : St) (h : m_count v1 S = some (r, S')) : RR KM (d + 1) 2508 0 [(0, .ref 500), (1, .int v1)] [] S (some (.int r)) S' := by
  unfold m_count at h
  refine RR.runs (pc' := 5) (lc' := [(0, .ref 500), (1, .int v1)]) (st' := []) (S1 := (wI S 500 0 (0 : Int32))) (nL := 2) (cd := cd_2508) mx_2508 rfl rfl 3 rfl ?_
  obtain ⟨S1, eS1, h⟩ := ltE h
  rw [← eS1]
  refine RR.runs (pc' := 9) (lc' := [(0, .ref 500), (1, .int v1)]) (st' := [.int (14 : Int32), .int (0 : Int32), .int v1]) (S1 := S1) (nL := 2) (cd := cd_2508) mx_2508 rfl rfl 3 rfl ?_
  obtain ⟨r2, S3, h1, h⟩ := bnE h
  refine RR.callS (as := [.int v1, .int (0 : Int32), .int (14 : Int32)]) (rest := []) (r1 := (some (.int r2))) (S1 := S3) mx_2508 rfl rfl mx_2402 rfl rfl (by decide) (Nat.le_of_ble_eq_true rfl) (Nat.le_of_ble_eq_true rfl) (Nat.le_of_ble_eq_true rfl) (RC.deep (by omega) (s_m_within (d := d) _ _ _ _ h1)) ?_
  show RR KM _ 2508 12 [(0, .ref 500), (1, .int v1)] [.int r2] S3 _ _
  refine RR.runs (pc' := icm .ne r2 0 17 15) (lc' := [(0, .ref 500), (1, .int v1)]) (st' := []) (S1 := S3) (nL := 2) (cd := cd_2508) mx_2508 rfl rfl 1 rfl ?_
  rcases ifE h with ⟨c, h⟩ | ⟨c, h⟩
  · refine RR.c_ne (fun _ => ?_) (fun q => absurd c q)
    refine RR.runs (pc' := 16) (lc' := [(0, .ref 500), (1, .int v1)]) (st' := [.int (-1 : Int32)]) (S1 := S3) (nL := 2) (cd := cd_2508) mx_2508 rfl rfl 1 rfl ?_
    cases h
    exact RR.reti mx_2508 rfl rfl rfl
  · refine RR.c_ne (fun q => absurd q c) (fun _ => ?_)
    refine RR.runs (pc' := icm .ge v1 (6 : Int32) 30 23) (lc' := [(0, .ref 500), (1, .int v1)]) (st' := []) (S1 := S3) (nL := 2) (cd := cd_2508) mx_2508 rfl rfl 3 rfl ?_
    rcases ifE h with ⟨c, h⟩ | ⟨c, h⟩
    · refine RR.c_ge (fun _ => ?_) (fun q => absurd c q)
      refine RR.runs (pc' := 28) (lc' := [(0, .ref 500), (1, .int v1)]) (st' := [.int v1, .ref 502]) (S1 := S3) (nL := 2) (cd := cd_2508) mx_2508 rfl rfl 3 rfl ?_
      obtain ⟨g, h⟩ := gnE h
      refine RR.gPN (c2 := (KM.1 502).1 = 1) (pc' := 29) (lc' := [(0, .ref 500), (1, .int v1)]) (st' := [.int (rI S3 502 v1.toNatClampNeg)]) (S1 := S3) (nL := 2) (cd := cd_2508) mx_2508 rfl rfl rfl rfl g ?_
      cases h
      exact RR.reti mx_2508 rfl rfl rfl
    · refine RR.c_ge (fun q => absurd q c) (fun _ => ?_)
      refine RR.runs (pc' := icm .ge v1 (9 : Int32) 76 36) (lc' := [(0, .ref 500), (1, .int v1)]) (st' := []) (S1 := S3) (nL := 2) (cd := cd_2508) mx_2508 rfl rfl 3 rfl ?_
      rcases ifE h with ⟨c, h⟩ | ⟨c, h⟩
      · refine RR.c_ge (fun _ => ?_) (fun q => absurd c q)
        refine RR.runs (pc' := icm .ne v1 (6 : Int32) 54 42) (lc' := [(0, .ref 500), (1, .int v1)]) (st' := []) (S1 := S3) (nL := 2) (cd := cd_2508) mx_2508 rfl rfl 3 rfl ?_
        rcases ifE h with ⟨c, h⟩ | ⟨c, h⟩
        · refine RR.c_ne (fun _ => ?_) (fun q => absurd c q)
          refine RR.runs (pc' := 47) (lc' := [(0, .ref 500), (1, .int v1)]) (st' := [.int (0 : Int32), .ref 553]) (S1 := S3) (nL := 2) (cd := cd_2508) mx_2508 rfl rfl 3 rfl ?_
          obtain ⟨g, h⟩ := gnE h
          refine RR.gPN (c2 := (KM.1 553).1 = 1) (pc' := 48) (lc' := [(0, .ref 500), (1, .int v1)]) (st' := [.int ((rI S3 553 (0 : Int32).toNatClampNeg))]) (S1 := S3) (nL := 2) (cd := cd_2508) mx_2508 rfl rfl rfl rfl g ?_
          obtain ⟨r4, S5, h1, h⟩ := bnE h
          refine RR.callS (as := [.int ((rI S3 553 (0 : Int32).toNatClampNeg))]) (rest := []) (r1 := (some (.int r4))) (S1 := S5) mx_2508 rfl rfl mx_2405 rfl rfl (by decide) (Nat.le_of_ble_eq_true rfl) (Nat.le_of_ble_eq_true rfl) (Nat.le_of_ble_eq_true rfl) (RC.deep (by omega) (s_m_bits (d := d) _ _ h1)) ?_
          show RR KM _ 2508 51 [(0, .ref 500), (1, .int v1)] [.int r4] S5 _ _
          refine RR.runs (pc' := 75) (lc' := [(0, .ref 500), (1, .int v1)]) (st' := [.int r4]) (S1 := S5) (nL := 2) (cd := cd_2508) mx_2508 rfl rfl 1 rfl ?_
          refine RR.weak [] trivial ?_
          exact s_m_count_75 _ _ h
        · refine RR.c_ne (fun q => absurd q c) (fun _ => ?_)
          refine RR.runs (pc' := icm .ne v1 (7 : Int32) 69 60) (lc' := [(0, .ref 500), (1, .int v1)]) (st' := []) (S1 := S3) (nL := 2) (cd := cd_2508) mx_2508 rfl rfl 3 rfl ?_
          rcases ifE h with ⟨c, h⟩ | ⟨c, h⟩
          · refine RR.c_ne (fun _ => ?_) (fun q => absurd c q)
            refine RR.runs (pc' := 65) (lc' := [(0, .ref 500), (1, .int v1)]) (st' := [.int (2 : Int32), .ref 553]) (S1 := S3) (nL := 2) (cd := cd_2508) mx_2508 rfl rfl 3 rfl ?_
            obtain ⟨g, h⟩ := gnE h
            refine RR.gPN (c2 := (KM.1 553).1 = 1) (pc' := 66) (lc' := [(0, .ref 500), (1, .int v1)]) (st' := [.int ((rI S3 553 (2 : Int32).toNatClampNeg))]) (S1 := S3) (nL := 2) (cd := cd_2508) mx_2508 rfl rfl rfl rfl g ?_
            refine RR.runs (pc' := 75) (lc' := [(0, .ref 500), (1, .int v1)]) (st' := [.int ((rI S3 553 (2 : Int32).toNatClampNeg))]) (S1 := S3) (nL := 2) (cd := cd_2508) mx_2508 rfl rfl 1 rfl ?_
            refine RR.weak [] trivial ?_
            exact s_m_count_75 _ _ h
          · refine RR.c_ne (fun q => absurd q c) (fun _ => ?_)
            refine RR.runs (pc' := 74) (lc' := [(0, .ref 500), (1, .int v1)]) (st' := [.int (4 : Int32), .ref 553]) (S1 := S3) (nL := 2) (cd := cd_2508) mx_2508 rfl rfl 3 rfl ?_
            obtain ⟨g, h⟩ := gnE h
            refine RR.gPN (c2 := (KM.1 553).1 = 1) (pc' := 75) (lc' := [(0, .ref 500), (1, .int v1)]) (st' := [.int ((rI S3 553 (4 : Int32).toNatClampNeg))]) (S1 := S3) (nL := 2) (cd := cd_2508) mx_2508 rfl rfl rfl rfl g ?_
            refine RR.weak [] trivial ?_
            exact s_m_count_75 _ _ h
      · refine RR.c_ge (fun q => absurd q c) (fun _ => ?_)
        refine RR.runs (pc' := icm .ge v1 (12 : Int32) 122 82) (lc' := [(0, .ref 500), (1, .int v1)]) (st' := []) (S1 := S3) (nL := 2) (cd := cd_2508) mx_2508 rfl rfl 3 rfl ?_
        rcases ifE h with ⟨c, h⟩ | ⟨c, h⟩
        · refine RR.c_ge (fun _ => ?_) (fun q => absurd c q)
          refine RR.runs (pc' := icm .ne v1 (9 : Int32) 97 88) (lc' := [(0, .ref 500), (1, .int v1)]) (st' := []) (S1 := S3) (nL := 2) (cd := cd_2508) mx_2508 rfl rfl 3 rfl ?_
          rcases ifE h with ⟨c, h⟩ | ⟨c, h⟩
          · refine RR.c_ne (fun _ => ?_) (fun q => absurd c q)
            refine RR.runs (pc' := 93) (lc' := [(0, .ref 500), (1, .int v1)]) (st' := [.int (0 : Int32), .ref 543]) (S1 := S3) (nL := 2) (cd := cd_2508) mx_2508 rfl rfl 3 rfl ?_
            obtain ⟨g, h⟩ := gnE h
            refine RR.gPN (c2 := (KM.1 543).1 = 1) (pc' := 94) (lc' := [(0, .ref 500), (1, .int v1)]) (st' := [.int ((rI S3 543 (0 : Int32).toNatClampNeg))]) (S1 := S3) (nL := 2) (cd := cd_2508) mx_2508 rfl rfl rfl rfl g ?_
            refine RR.runs (pc' := 121) (lc' := [(0, .ref 500), (1, .int v1)]) (st' := [.int ((rI S3 543 (0 : Int32).toNatClampNeg))]) (S1 := S3) (nL := 2) (cd := cd_2508) mx_2508 rfl rfl 1 rfl ?_
            refine RR.weak [] trivial ?_
            exact s_m_count_121 _ _ h
          · refine RR.c_ne (fun q => absurd q c) (fun _ => ?_)
            refine RR.runs (pc' := icm .ne v1 (10 : Int32) 115 103) (lc' := [(0, .ref 500), (1, .int v1)]) (st' := []) (S1 := S3) (nL := 2) (cd := cd_2508) mx_2508 rfl rfl 3 rfl ?_
            rcases ifE h with ⟨c, h⟩ | ⟨c, h⟩
            · refine RR.c_ne (fun _ => ?_) (fun q => absurd c q)
              refine RR.runs (pc' := 108) (lc' := [(0, .ref 500), (1, .int v1)]) (st' := [.int (0 : Int32), .ref 547]) (S1 := S3) (nL := 2) (cd := cd_2508) mx_2508 rfl rfl 3 rfl ?_
              obtain ⟨g, h⟩ := gnE h
              refine RR.gPN (c2 := (KM.1 547).1 = 1) (pc' := 109) (lc' := [(0, .ref 500), (1, .int v1)]) (st' := [.int ((rI S3 547 (0 : Int32).toNatClampNeg))]) (S1 := S3) (nL := 2) (cd := cd_2508) mx_2508 rfl rfl rfl rfl g ?_
              obtain ⟨r6, S7, h1, h⟩ := bnE h
              refine RR.callS (as := [.int ((rI S3 547 (0 : Int32).toNatClampNeg))]) (rest := []) (r1 := (some (.int r6))) (S1 := S7) mx_2508 rfl rfl mx_2405 rfl rfl (by decide) (Nat.le_of_ble_eq_true rfl) (Nat.le_of_ble_eq_true rfl) (Nat.le_of_ble_eq_true rfl) (RC.deep (by omega) (s_m_bits (d := d) _ _ h1)) ?_
              show RR KM _ 2508 112 [(0, .ref 500), (1, .int v1)] [.int r6] S7 _ _
              refine RR.runs (pc' := 121) (lc' := [(0, .ref 500), (1, .int v1)]) (st' := [.int r6]) (S1 := S7) (nL := 2) (cd := cd_2508) mx_2508 rfl rfl 1 rfl ?_
              refine RR.weak [] trivial ?_
              exact s_m_count_121 _ _ h
            · refine RR.c_ne (fun q => absurd q c) (fun _ => ?_)
              refine RR.runs (pc' := 120) (lc' := [(0, .ref 500), (1, .int v1)]) (st' := [.int (0 : Int32), .ref 549]) (S1 := S3) (nL := 2) (cd := cd_2508) mx_2508 rfl rfl 3 rfl ?_
              obtain ⟨g, h⟩ := gnE h
              refine RR.gPN (c2 := (KM.1 549).1 = 1) (pc' := 121) (lc' := [(0, .ref 500), (1, .int v1)]) (st' := [.int ((rI S3 549 (0 : Int32).toNatClampNeg))]) (S1 := S3) (nL := 2) (cd := cd_2508) mx_2508 rfl rfl rfl rfl g ?_
              refine RR.weak [] trivial ?_
              exact s_m_count_121 _ _ h
        · refine RR.c_ge (fun q => absurd q c) (fun _ => ?_)
          refine RR.runs (pc' := icm .ne v1 (12 : Int32) 135 128) (lc' := [(0, .ref 500), (1, .int v1)]) (st' := []) (S1 := S3) (nL := 2) (cd := cd_2508) mx_2508 rfl rfl 3 rfl ?_
          rcases ifE h with ⟨c, h⟩ | ⟨c, h⟩
          · refine RR.c_ne (fun _ => ?_) (fun q => absurd c q)
            refine RR.runs (pc' := 154) (lc' := [(0, .ref 500), (1, .int v1)]) (st' := [.int (rI S3 500 69)]) (S1 := S3) (nL := 2) (cd := cd_2508) mx_2508 rfl rfl 3 rfl ?_
            refine RR.weak [] trivial ?_
            exact s_m_count_154 _ _ h
          · refine RR.c_ne (fun q => absurd q c) (fun _ => ?_)
            refine RR.runs (pc' := icm .ne v1 (13 : Int32) 148 141) (lc' := [(0, .ref 500), (1, .int v1)]) (st' := []) (S1 := S3) (nL := 2) (cd := cd_2508) mx_2508 rfl rfl 3 rfl ?_
            rcases ifE h with ⟨c, h⟩ | ⟨c, h⟩
            · refine RR.c_ne (fun _ => ?_) (fun q => absurd c q)
              refine RR.runs (pc' := 154) (lc' := [(0, .ref 500), (1, .int v1)]) (st' := [.int (rI S3 500 1)]) (S1 := S3) (nL := 2) (cd := cd_2508) mx_2508 rfl rfl 3 rfl ?_
              refine RR.weak [] trivial ?_
              exact s_m_count_154 _ _ h
            · refine RR.c_ne (fun q => absurd q c) (fun _ => ?_)
              refine RR.runs (pc' := 153) (lc' := [(0, .ref 500), (1, .int v1)]) (st' := [.int (3 : Int32), .ref 553]) (S1 := S3) (nL := 2) (cd := cd_2508) mx_2508 rfl rfl 3 rfl ?_
              obtain ⟨g, h⟩ := gnE h
              refine RR.gPN (c2 := (KM.1 553).1 = 1) (pc' := 154) (lc' := [(0, .ref 500), (1, .int v1)]) (st' := [.int ((rI S3 553 (3 : Int32).toNatClampNeg))]) (S1 := S3) (nL := 2) (cd := cd_2508) mx_2508 rfl rfl rfl rfl g ?_
              refine RR.weak [] trivial ?_
              exact s_m_count_154 _ _ h
theorem s_m_count {d : Nat} {S' : St} {r : Int32} (v1 : Int32) (S : St) (h : m_count v1 S = some (r, S')) : RC KM (d + 1) 2508 [.ref 500, .int v1] S (some (.int r)) S' := RC.of rfl (s0_m_count v1 S h)
