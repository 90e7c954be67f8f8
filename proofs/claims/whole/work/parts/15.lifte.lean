/-! Methods of the reference, lifted (laid by wip/whole/gen/model.py) -/
-- passes ()V
def m_passes (S : St) : Re Unit :=
  if (2 : Int32) < 0 ∨ 15 ≤ (2 : Int32).toNatClampNeg then none else
  if (2 : Int32) < 0 ∨ 15 ≤ (2 : Int32).toNatClampNeg then none else
  lt' (wI S 553 (2 : Int32).toNatClampNeg (((rI S 553 (2 : Int32).toNatClampNeg) + (1 : Int32)))) fun S1 =>
  if (3 : Int32) < 0 ∨ 15 ≤ (3 : Int32).toNatClampNeg then none else
  lt' (wI S1 553 (3 : Int32).toNatClampNeg (0 : Int32)) fun S2 =>
  some ((), S2)
set_option maxRecDepth 100000 in
theorem s0_m_passes {d : Nat} {S' : St} {r : Unit} (S : St) (h : m_passes S = some (r, S')) : RR KM (d + 0) 2477 0 [(0, .ref 500)] [] S none S' := by
  unfold m_passes at h
  refine RR.runs (pc' := 6) (lc' := [(0, .ref 500)]) (st' := [.int (2 : Int32), .ref 553, .int (2 : Int32), .ref 553]) (S1 := S) (nL := 1) (cd := cd_2477) mx_2477 rfl rfl 4 rfl ?_
  obtain ⟨g, h⟩ := gnE h
  refine RR.gPN (c2 := (KM.1 553).1 = 1) (pc' := 7) (lc' := [(0, .ref 500)]) (st' := [.int ((rI S 553 (2 : Int32).toNatClampNeg)), .int (2 : Int32), .ref 553]) (S1 := S) (nL := 1) (cd := cd_2477) mx_2477 rfl rfl rfl rfl g ?_
  refine RR.runs (pc' := 9) (lc' := [(0, .ref 500)]) (st' := [.int (((rI S 553 (2 : Int32).toNatClampNeg) + (1 : Int32))), .int (2 : Int32), .ref 553]) (S1 := S) (nL := 1) (cd := cd_2477) mx_2477 rfl rfl 2 rfl ?_
  obtain ⟨g, h⟩ := gnE h
  refine RR.gPN (c2 := (KM.1 553).1 = 1) (pc' := 10) (lc' := [(0, .ref 500)]) (st' := []) (S1 := (wI S 553 (2 : Int32).toNatClampNeg (((rI S 553 (2 : Int32).toNatClampNeg) + (1 : Int32))))) (nL := 1) (cd := cd_2477) mx_2477 rfl rfl rfl rfl g ?_
  obtain ⟨S1, eS1, h⟩ := ltE h
  rw [← eS1]
  refine RR.runs (pc' := 16) (lc' := [(0, .ref 500)]) (st' := [.int (0 : Int32), .int (3 : Int32), .ref 553]) (S1 := S1) (nL := 1) (cd := cd_2477) mx_2477 rfl rfl 4 rfl ?_
  obtain ⟨g, h⟩ := gnE h
  refine RR.gPN (c2 := (KM.1 553).1 = 1) (pc' := 17) (lc' := [(0, .ref 500)]) (st' := []) (S1 := (wI S1 553 (3 : Int32).toNatClampNeg (0 : Int32))) (nL := 1) (cd := cd_2477) mx_2477 rfl rfl rfl rfl g ?_
  obtain ⟨S2, eS2, h⟩ := ltE h
  rw [← eS2]
  cases h
  exact RR.retv mx_2477 rfl rfl rfl
theorem s_m_passes {d : Nat} {S' : St} {r : Unit} (S : St) (h : m_passes S = some (r, S')) : RC KM (d + 0) 2477 [.ref 500] S none S' := RC.of rfl (s0_m_passes S h)
-- pass (I)I
def m_pass_38 (S : St) : Re Int32 :=
  if (2 : Int32) < 0 ∨ 15 ≤ (2 : Int32).toNatClampNeg then none else
  some ((rI S 553 (2 : Int32).toNatClampNeg), S)
set_option maxRecDepth 100000 in
theorem s_m_pass_38 {d : Nat} {S' : St} {r : Int32} (S : St) (h : m_pass_38 S = some (r, S')) : RR KM (d + 2) 2478 38 [(0, .ref 500)] [] S (some (.int r)) S' := by
  unfold m_pass_38 at h
  refine RR.runs (pc' := 43) (lc' := [(0, .ref 500)]) (st' := [.int (2 : Int32), .ref 553]) (S1 := S) (nL := 3) (cd := cd_2478) mx_2478 rfl rfl 3 rfl ?_
  obtain ⟨g, h⟩ := gnE h
  refine RR.gPN (c2 := (KM.1 553).1 = 1) (pc' := 44) (lc' := [(0, .ref 500)]) (st' := [.int ((rI S 553 (2 : Int32).toNatClampNeg))]) (S1 := S) (nL := 3) (cd := cd_2478) mx_2478 rfl rfl rfl rfl g ?_
  cases h
  exact RR.reti mx_2478 rfl rfl rfl
def m_pass_23 : Nat → Int32 → Int32 → St → Re Int32
  | 0, _, _, _ => none
  | n + 1, v1, v2, S =>
  if v2 < v1 then (
    bn (m_passes S) fun r1 S2 =>
    lt' ((v2 + (1 : Int32)) : Int32) fun x3 =>
    m_pass_23 n v1 x3 S2)
  else (
    m_pass_38 S)
set_option maxRecDepth 100000 in
theorem s_m_pass_23 {d : Nat} {S' : St} {r : Int32} : ∀ (n : Nat) (v1 : Int32) (v2 : Int32) (S : St), m_pass_23 n v1 v2 S = some (r, S') → RR KM (d + 2) 2478 23 [(0, .ref 500), (1, .int v1), (2, .int v2)] [] S (some (.int r)) S' := by
  intro n
  induction n with
  | zero => intro v1 v2 S h; simp only [m_pass_23] at h; cases h
  | succ n ih =>
    intro v1 v2 S h
    simp only [m_pass_23] at h
    refine RR.runs (pc' := icm .ge v2 v1 38 28) (lc' := [(0, .ref 500), (1, .int v1), (2, .int v2)]) (st' := []) (S1 := S) (nL := 3) (cd := cd_2478) mx_2478 rfl rfl 3 rfl ?_
    rcases ifE h with ⟨c, h⟩ | ⟨c, h⟩
    · refine RR.c_ge (fun _ => ?_) (fun q => absurd c q)
      refine RR.runs (pc' := 29) (lc' := [(0, .ref 500), (1, .int v1), (2, .int v2)]) (st' := [.ref 500]) (S1 := S) (nL := 3) (cd := cd_2478) mx_2478 rfl rfl 1 rfl ?_
      obtain ⟨r1, S2, h1, h⟩ := bnE h
      refine RR.callV (b := 500) (as := []) (rest := []) (r1 := none) (S1 := S2) mx_2478 rfl rfl mx_2477 rfl rfl (by decide) (Or.inl rfl) (Nat.le_of_ble_eq_true rfl) (Nat.le_of_ble_eq_true rfl) (RC.deep (by omega) (s_m_passes (d := d) _ h1)) ?_
      show RR KM _ 2478 32 [(0, .ref 500), (1, .int v1), (2, .int v2)] [] S2 _ _
      refine RR.runs (pc' := 35) (lc' := [(2, .int ((v2 + (1 : Int32)))), (0, .ref 500), (1, .int v1)]) (st' := []) (S1 := S2) (nL := 3) (cd := cd_2478) mx_2478 rfl rfl 1 rfl ?_
      obtain ⟨x3, ex3, h⟩ := ltE h
      rw [← ex3]
      refine RR.runs (pc' := 23) (lc' := [(2, .int x3), (0, .ref 500), (1, .int v1)]) (st' := []) (S1 := S2) (nL := 3) (cd := cd_2478) mx_2478 rfl rfl 1 rfl ?_
      refine RR.weak [(0, .ref 500), (1, .int v1), (2, .int x3)] ⟨rfl, rfl, rfl, trivial⟩ ?_
      exact ih _ _ _ h
    · refine RR.c_ge (fun q => absurd q c) (fun _ => ?_)
      refine RR.weak [(0, .ref 500)] ⟨rfl, trivial⟩ ?_
      exact s_m_pass_38 _ h
def m_pass (v1 : Int32) (S : St) : Re Int32 :=
  lt' (wI S 500 0 (0 : Int32)) fun S1 =>
  bn (m_within v1 (1 : Int32) (30 : Int32) S1) fun r2 S3 =>
  if r2 = 0 then (
    some ((-1 : Int32), S3))
  else (
    bn (m_keeps S3) fun r4 S5 =>
    m_pass_23 FU v1 (0 : Int32) S5)
set_option maxRecDepth 100000 in
theorem s0_m_pass {d : Nat} {S' : St} {r : Int32} (v1 : Int32) (S : St) (h : m_pass v1 S = some (r, S')) : RR KM (d + 2) 2478 0 [(0, .ref 500), (1, .int v1)] [] S (some (.int r)) S' := by
  unfold m_pass at h
  refine RR.runs (pc' := 5) (lc' := [(0, .ref 500), (1, .int v1)]) (st' := []) (S1 := (wI S 500 0 (0 : Int32))) (nL := 3) (cd := cd_2478) mx_2478 rfl rfl 3 rfl ?_
  obtain ⟨S1, eS1, h⟩ := ltE h
  rw [← eS1]
  refine RR.runs (pc' := 9) (lc' := [(0, .ref 500), (1, .int v1)]) (st' := [.int (30 : Int32), .int (1 : Int32), .int v1]) (S1 := S1) (nL := 3) (cd := cd_2478) mx_2478 rfl rfl 3 rfl ?_
  obtain ⟨r2, S3, h1, h⟩ := bnE h
  refine RR.callS (as := [.int v1, .int (1 : Int32), .int (30 : Int32)]) (rest := []) (r1 := (some (.int r2))) (S1 := S3) mx_2478 rfl rfl mx_2402 rfl rfl (by decide) (Nat.le_of_ble_eq_true rfl) (Nat.le_of_ble_eq_true rfl) (Nat.le_of_ble_eq_true rfl) (RC.deep (by omega) (s_m_within (d := d) _ _ _ _ h1)) ?_
  show RR KM _ 2478 12 [(0, .ref 500), (1, .int v1)] [.int r2] S3 _ _
  refine RR.runs (pc' := icm .ne r2 0 17 15) (lc' := [(0, .ref 500), (1, .int v1)]) (st' := []) (S1 := S3) (nL := 3) (cd := cd_2478) mx_2478 rfl rfl 1 rfl ?_
  rcases ifE h with ⟨c, h⟩ | ⟨c, h⟩
  · refine RR.c_ne (fun _ => ?_) (fun q => absurd c q)
    refine RR.runs (pc' := 16) (lc' := [(0, .ref 500), (1, .int v1)]) (st' := [.int (-1 : Int32)]) (S1 := S3) (nL := 3) (cd := cd_2478) mx_2478 rfl rfl 1 rfl ?_
    cases h
    exact RR.reti mx_2478 rfl rfl rfl
  · refine RR.c_ne (fun q => absurd q c) (fun _ => ?_)
    refine RR.runs (pc' := 18) (lc' := [(0, .ref 500), (1, .int v1)]) (st' := [.ref 500]) (S1 := S3) (nL := 3) (cd := cd_2478) mx_2478 rfl rfl 1 rfl ?_
    obtain ⟨r4, S5, h1, h⟩ := bnE h
    refine RR.callV (b := 500) (as := []) (rest := []) (r1 := none) (S1 := S5) mx_2478 rfl rfl mx_2470 rfl rfl (by decide) (Or.inl rfl) (Nat.le_of_ble_eq_true rfl) (Nat.le_of_ble_eq_true rfl) (RC.deep (by omega) (s_m_keeps (d := d) _ h1)) ?_
    show RR KM _ 2478 21 [(0, .ref 500), (1, .int v1)] [] S5 _ _
    refine RR.runs (pc' := 23) (lc' := [(2, .int (0 : Int32)), (0, .ref 500), (1, .int v1)]) (st' := []) (S1 := S5) (nL := 3) (cd := cd_2478) mx_2478 rfl rfl 2 rfl ?_
    refine RR.weak [(0, .ref 500), (1, .int v1), (2, .int (0 : Int32))] ⟨rfl, rfl, rfl, trivial⟩ ?_
    exact s_m_pass_23 _ _ _ _ h
theorem s_m_pass {d : Nat} {S' : St} {r : Int32} (v1 : Int32) (S : St) (h : m_pass v1 S = some (r, S')) : RC KM (d + 2) 2478 [.ref 500, .int v1] S (some (.int r)) S' := RC.of rfl (s0_m_pass v1 S h)
-- undo ()Z
def m_undo (S : St) : Re Int32 :=
  lt' (wI S 500 0 (0 : Int32)) fun S1 =>
  if (rI S1 500 69) = 0 then (
    some ((0 : Int32), S1))
  else (
    lt' (wI S1 500 69 (((rI S1 500 69) - (1 : Int32)))) fun S2 =>
    bn (m_copies 556 (((15 : Int32) * (rI S2 500 69))) 553 (0 : Int32) S2) fun r3 S4 =>
    some ((1 : Int32), S4))
set_option maxRecDepth 100000 in
theorem s0_m_undo {d : Nat} {S' : St} {r : Int32} (S : St) (h : m_undo S = some (r, S')) : RR KM (d + 1) 2479 0 [(0, .ref 500)] [] S (some (.int r)) S' := by
  unfold m_undo at h
  refine RR.runs (pc' := 5) (lc' := [(0, .ref 500)]) (st' := []) (S1 := (wI S 500 0 (0 : Int32))) (nL := 1) (cd := cd_2479) mx_2479 rfl rfl 3 rfl ?_
  obtain ⟨S1, eS1, h⟩ := ltE h
  rw [← eS1]
  refine RR.runs (pc' := icm .ne (rI S1 500 69) 0 14 12) (lc' := [(0, .ref 500)]) (st' := []) (S1 := S1) (nL := 1) (cd := cd_2479) mx_2479 rfl rfl 3 rfl ?_
  rcases ifE h with ⟨c, h⟩ | ⟨c, h⟩
  · refine RR.c_ne (fun _ => ?_) (fun q => absurd c q)
    refine RR.runs (pc' := 13) (lc' := [(0, .ref 500)]) (st' := [.int (0 : Int32)]) (S1 := S1) (nL := 1) (cd := cd_2479) mx_2479 rfl rfl 1 rfl ?_
    cases h
    exact RR.retz mx_2479 rfl rfl rfl rfl
  · refine RR.c_ne (fun q => absurd q c) (fun _ => ?_)
    refine RR.runs (pc' := 24) (lc' := [(0, .ref 500)]) (st' := []) (S1 := (wI S1 500 69 (((rI S1 500 69) - (1 : Int32))))) (nL := 1) (cd := cd_2479) mx_2479 rfl rfl 6 rfl ?_
    obtain ⟨S2, eS2, h⟩ := ltE h
    rw [← eS2]
    refine RR.runs (pc' := 40) (lc' := [(0, .ref 500)]) (st' := [.int (0 : Int32), .ref 553, .int (((15 : Int32) * (rI S2 500 69))), .ref 556]) (S1 := S2) (nL := 1) (cd := cd_2479) mx_2479 rfl rfl 9 rfl ?_
    obtain ⟨r3, S4, h1, h⟩ := bnE h
    refine RR.callS (as := [.ref 556, .int (((15 : Int32) * (rI S2 500 69))), .ref 553, .int (0 : Int32)]) (rest := []) (r1 := none) (S1 := S4) mx_2479 rfl rfl mx_2448 rfl rfl (by decide) (Nat.le_of_ble_eq_true rfl) (Nat.le_of_ble_eq_true rfl) (Nat.le_of_ble_eq_true rfl) (RC.deep (by omega) (s_m_copies (d := d) _ _ _ _ _ h1)) ?_
    show RR KM _ 2479 43 [(0, .ref 500)] [] S4 _ _
    refine RR.runs (pc' := 44) (lc' := [(0, .ref 500)]) (st' := [.int (1 : Int32)]) (S1 := S4) (nL := 1) (cd := cd_2479) mx_2479 rfl rfl 1 rfl ?_
    cases h
    exact RR.retz mx_2479 rfl rfl rfl rfl
theorem s_m_undo {d : Nat} {S' : St} {r : Int32} (S : St) (h : m_undo S = some (r, S')) : RC KM (d + 1) 2479 [.ref 500] S (some (.int r)) S' := RC.of rfl (s0_m_undo S h)
-- greenOf (I)I
def m_greenOf_44 (k4 : Int32 → Int32 → Int32 → St → Re Int32) (v1 : Int32) (v3 : Int32) (p0 : Int32) (p1 : Int32) (S : St) : Re Int32 :=
  lt' ((p1 + p0) : Int32) fun x1 =>
  lt' ((v3 + (1 : Int32)) : Int32) fun x2 =>
  k4 v1 x1 x2 S
set_option maxRecDepth 100000 in
theorem s_m_greenOf_44 {d : Nat} (k4 : Int32 → Int32 → Int32 → St → Re Int32) {S' : St} {r : Int32} (b4 : ∀ (v1 : Int32) (v2 : Int32) (v3 : Int32) (S : St), k4 v1 v2 v3 S = some (r, S') → RR KM (d + 0) 2480 4 [(0, .ref 500), (1, .int v1), (2, .int v2), (3, .int v3)] [] S (some (.int r)) S') (v1 : Int32) (v3 : Int32) (p0 : Int32) (p1 : Int32) (S : St) (h : m_greenOf_44 k4 v1 v3 p0 p1 S = some (r, S')) : RR KM (d + 0) 2480 44 [(0, .ref 500), (1, .int v1), (3, .int v3)] [.int p0, .int p1] S (some (.int r)) S' := by
  unfold m_greenOf_44 at h
  refine RR.runs (pc' := 46) (lc' := [(2, .int (p1 + p0)), (0, .ref 500), (1, .int v1), (3, .int v3)]) (st' := []) (S1 := S) (nL := 4) (cd := cd_2480) mx_2480 rfl rfl 2 rfl ?_
  obtain ⟨x1, ex1, h⟩ := ltE h
  rw [← ex1]
  refine RR.runs (pc' := 49) (lc' := [(3, .int ((v3 + (1 : Int32)))), (2, .int x1), (0, .ref 500), (1, .int v1)]) (st' := []) (S1 := S) (nL := 4) (cd := cd_2480) mx_2480 rfl rfl 1 rfl ?_
  obtain ⟨x2, ex2, h⟩ := ltE h
  rw [← ex2]
  refine RR.runs (pc' := 4) (lc' := [(3, .int x2), (2, .int x1), (0, .ref 500), (1, .int v1)]) (st' := []) (S1 := S) (nL := 4) (cd := cd_2480) mx_2480 rfl rfl 1 rfl ?_
  refine RR.weak [(0, .ref 500), (1, .int v1), (2, .int x1), (3, .int x2)] ⟨rfl, rfl, rfl, rfl, trivial⟩ ?_
  exact b4 _ _ _ _ h
def m_greenOf_43 (k4 : Int32 → Int32 → Int32 → St → Re Int32) (v1 : Int32) (v3 : Int32) (p0 : Int32) (S : St) : Re Int32 :=
  m_greenOf_44 k4 v1 v3 (0 : Int32) p0 S
set_option maxRecDepth 100000 in
theorem s_m_greenOf_43 {d : Nat} (k4 : Int32 → Int32 → Int32 → St → Re Int32) {S' : St} {r : Int32} (b4 : ∀ (v1 : Int32) (v2 : Int32) (v3 : Int32) (S : St), k4 v1 v2 v3 S = some (r, S') → RR KM (d + 0) 2480 4 [(0, .ref 500), (1, .int v1), (2, .int v2), (3, .int v3)] [] S (some (.int r)) S') (v1 : Int32) (v3 : Int32) (p0 : Int32) (S : St) (h : m_greenOf_43 k4 v1 v3 p0 S = some (r, S')) : RR KM (d + 0) 2480 43 [(0, .ref 500), (1, .int v1), (3, .int v3)] [.int p0] S (some (.int r)) S' := by
  unfold m_greenOf_43 at h
  refine RR.runs (pc' := 44) (lc' := [(0, .ref 500), (1, .int v1), (3, .int v3)]) (st' := [.int (0 : Int32), .int p0]) (S1 := S) (nL := 4) (cd := cd_2480) mx_2480 rfl rfl 1 rfl ?_
  refine RR.weak [(0, .ref 500), (1, .int v1), (3, .int v3)] ⟨rfl, rfl, rfl, trivial⟩ ?_
  exact s_m_greenOf_44 _ b4 _ _ _ _ _ h
def m_greenOf_52 (v2 : Int32) (S : St) : Re Int32 :=
  some (v2, S)
set_option maxRecDepth 100000 in
theorem s_m_greenOf_52 {d : Nat} {S' : St} {r : Int32} (v2 : Int32) (S : St) (h : m_greenOf_52 v2 S = some (r, S')) : RR KM (d + 0) 2480 52 [(2, .int v2)] [] S (some (.int r)) S' := by
  unfold m_greenOf_52 at h
  refine RR.runs (pc' := 53) (lc' := [(2, .int v2)]) (st' := [.int v2]) (S1 := S) (nL := 4) (cd := cd_2480) mx_2480 rfl rfl 1 rfl ?_
  cases h
  exact RR.reti mx_2480 rfl rfl rfl
def m_greenOf_4 : Nat → Int32 → Int32 → Int32 → St → Re Int32
  | 0, _, _, _, _ => none
  | n + 1, v1, v2, v3, S =>
  if (0 : Int32) < 0 ∨ 12 ≤ (0 : Int32).toNatClampNeg then none else
  if v3 < (rI S 502 (0 : Int32).toNatClampNeg) then (
    if ((v1 >>> (v3 &&& 31)) &&& (1 : Int32)) = (1 : Int32) then (
      if (2 : Int32) < 0 ∨ 15 ≤ (2 : Int32).toNatClampNeg then none else
      if v3 < 0 ∨ 20 ≤ v3.toNatClampNeg then none else
      if (rI S 553 (2 : Int32).toNatClampNeg) < (rI S 509 v3.toNatClampNeg) then (
        m_greenOf_44 (m_greenOf_4 n) v1 v3 (1 : Int32) v2 S)
      else (
        m_greenOf_43 (m_greenOf_4 n) v1 v3 v2 S))
    else (
      m_greenOf_43 (m_greenOf_4 n) v1 v3 v2 S))
  else (
    m_greenOf_52 v2 S)
set_option maxRecDepth 100000 in
theorem s_m_greenOf_4 {d : Nat} {S' : St} {r : Int32} : ∀ (n : Nat) (v1 : Int32) (v2 : Int32) (v3 : Int32) (S : St), m_greenOf_4 n v1 v2 v3 S = some (r, S') → RR KM (d + 0) 2480 4 [(0, .ref 500), (1, .int v1), (2, .int v2), (3, .int v3)] [] S (some (.int r)) S' := by
  intro n
  induction n with
  | zero => intro v1 v2 v3 S h; simp only [m_greenOf_4] at h; cases h
  | succ n ih =>
    intro v1 v2 v3 S h
    simp only [m_greenOf_4] at h
    refine RR.runs (pc' := 10) (lc' := [(0, .ref 500), (1, .int v1), (2, .int v2), (3, .int v3)]) (st' := [.int (0 : Int32), .ref 502, .int v3]) (S1 := S) (nL := 4) (cd := cd_2480) mx_2480 rfl rfl 4 rfl ?_
    obtain ⟨g, h⟩ := gnE h
    refine RR.gPN (c2 := (KM.1 502).1 = 1) (pc' := 11) (lc' := [(0, .ref 500), (1, .int v1), (2, .int v2), (3, .int v3)]) (st' := [.int ((rI S 502 (0 : Int32).toNatClampNeg)), .int v3]) (S1 := S) (nL := 4) (cd := cd_2480) mx_2480 rfl rfl rfl rfl g ?_
    refine RR.runs (pc' := icm .ge v3 ((rI S 502 (0 : Int32).toNatClampNeg)) 52 14) (lc' := [(0, .ref 500), (1, .int v1), (2, .int v2), (3, .int v3)]) (st' := []) (S1 := S) (nL := 4) (cd := cd_2480) mx_2480 rfl rfl 1 rfl ?_
    rcases ifE h with ⟨c, h⟩ | ⟨c, h⟩
    · refine RR.c_ge (fun _ => ?_) (fun q => absurd c q)
      refine RR.runs (pc' := icm .ne (((v1 >>> (v3 &&& 31)) &&& (1 : Int32))) (1 : Int32) 43 24) (lc' := [(0, .ref 500), (1, .int v1), (2, .int v2), (3, .int v3)]) (st' := [.int v2]) (S1 := S) (nL := 4) (cd := cd_2480) mx_2480 rfl rfl 8 rfl ?_
      rcases ifE h with ⟨c, h⟩ | ⟨c, h⟩
      · refine RR.c_ne (fun _ => ?_) (fun q => absurd c q)
        refine RR.runs (pc' := 29) (lc' := [(0, .ref 500), (1, .int v1), (2, .int v2), (3, .int v3)]) (st' := [.int (2 : Int32), .ref 553, .int v2]) (S1 := S) (nL := 4) (cd := cd_2480) mx_2480 rfl rfl 3 rfl ?_
        obtain ⟨g, h⟩ := gnE h
        refine RR.gPN (c2 := (KM.1 553).1 = 1) (pc' := 30) (lc' := [(0, .ref 500), (1, .int v1), (2, .int v2), (3, .int v3)]) (st' := [.int ((rI S 553 (2 : Int32).toNatClampNeg)), .int v2]) (S1 := S) (nL := 4) (cd := cd_2480) mx_2480 rfl rfl rfl rfl g ?_
        refine RR.runs (pc' := 35) (lc' := [(0, .ref 500), (1, .int v1), (2, .int v2), (3, .int v3)]) (st' := [.int v3, .ref 509, .int ((rI S 553 (2 : Int32).toNatClampNeg)), .int v2]) (S1 := S) (nL := 4) (cd := cd_2480) mx_2480 rfl rfl 3 rfl ?_
        obtain ⟨g, h⟩ := gnE h
        refine RR.gPN (c2 := (KM.1 509).1 = 1) (pc' := 36) (lc' := [(0, .ref 500), (1, .int v1), (2, .int v2), (3, .int v3)]) (st' := [.int (rI S 509 v3.toNatClampNeg), .int ((rI S 553 (2 : Int32).toNatClampNeg)), .int v2]) (S1 := S) (nL := 4) (cd := cd_2480) mx_2480 rfl rfl rfl rfl g ?_
        refine RR.runs (pc' := icm .ge ((rI S 553 (2 : Int32).toNatClampNeg)) (rI S 509 v3.toNatClampNeg) 43 39) (lc' := [(0, .ref 500), (1, .int v1), (2, .int v2), (3, .int v3)]) (st' := [.int v2]) (S1 := S) (nL := 4) (cd := cd_2480) mx_2480 rfl rfl 1 rfl ?_
        rcases ifE h with ⟨c, h⟩ | ⟨c, h⟩
        · refine RR.c_ge (fun _ => ?_) (fun q => absurd c q)
          refine RR.runs (pc' := 44) (lc' := [(0, .ref 500), (1, .int v1), (2, .int v2), (3, .int v3)]) (st' := [.int (1 : Int32), .int v2]) (S1 := S) (nL := 4) (cd := cd_2480) mx_2480 rfl rfl 2 rfl ?_
          refine RR.weak [(0, .ref 500), (1, .int v1), (3, .int v3)] ⟨rfl, rfl, rfl, trivial⟩ ?_
          exact s_m_greenOf_44 _ (fun _ _ _ S h => ih _ _ _ S h) _ _ _ _ _ h
        · refine RR.c_ge (fun q => absurd q c) (fun _ => ?_)
          refine RR.weak [(0, .ref 500), (1, .int v1), (3, .int v3)] ⟨rfl, rfl, rfl, trivial⟩ ?_
          exact s_m_greenOf_43 _ (fun _ _ _ S h => ih _ _ _ S h) _ _ _ _ h
      · refine RR.c_ne (fun q => absurd q c) (fun _ => ?_)
        refine RR.weak [(0, .ref 500), (1, .int v1), (3, .int v3)] ⟨rfl, rfl, rfl, trivial⟩ ?_
        exact s_m_greenOf_43 _ (fun _ _ _ S h => ih _ _ _ S h) _ _ _ _ h
    · refine RR.c_ge (fun q => absurd q c) (fun _ => ?_)
      refine RR.weak [(2, .int v2)] ⟨rfl, trivial⟩ ?_
      exact s_m_greenOf_52 _ _ h
def m_greenOf (v1 : Int32) (S : St) : Re Int32 :=
  m_greenOf_4 FU v1 (0 : Int32) (0 : Int32) S
set_option maxRecDepth 100000 in
theorem s0_m_greenOf {d : Nat} {S' : St} {r : Int32} (v1 : Int32) (S : St) (h : m_greenOf v1 S = some (r, S')) : RR KM (d + 0) 2480 0 [(0, .ref 500), (1, .int v1)] [] S (some (.int r)) S' := by
  unfold m_greenOf at h
  refine RR.runs (pc' := 4) (lc' := [(3, .int (0 : Int32)), (2, .int (0 : Int32)), (0, .ref 500), (1, .int v1)]) (st' := []) (S1 := S) (nL := 4) (cd := cd_2480) mx_2480 rfl rfl 4 rfl ?_
  refine RR.weak [(0, .ref 500), (1, .int v1), (2, .int (0 : Int32)), (3, .int (0 : Int32))] ⟨rfl, rfl, rfl, rfl, trivial⟩ ?_
  exact s_m_greenOf_4 _ _ _ _ _ h
theorem s_m_greenOf {d : Nat} {S' : St} {r : Int32} (v1 : Int32) (S : St) (h : m_greenOf v1 S = some (r, S')) : RC KM (d + 0) 2480 [.ref 500, .int v1] S (some (.int r)) S' := RC.of rfl (s0_m_greenOf v1 S h)
-- goes (I)Z
def m_goes_125 (p0 : Int32) (S : St) : Re Int32 :=
  if isBo p0 = true then (
lt' (wI S 500 73 p0) fun S1 =>
  some ((1 : Int32), S1)) else none
set_option maxRecDepth 100000 in
theorem s_m_goes_125 {d : Nat} {S' : St} {r : Int32} (p0 : Int32) (S : St) (h : m_goes_125 p0 S = some (r, S')) : RR KM (d + 6) 2481 125 [] [.int p0, .ref 500] S (some (.int r)) S' := by
  unfold m_goes_125 at h
  obtain ⟨g2, h⟩ := gpE h
  refine RR.gP (pc' := 128) (lc' := []) (st' := []) (S1 := (wI S 500 73 p0)) (nL := 2) (cd := cd_2481) mx_2481 rfl rfl rfl g2 ?_
  obtain ⟨S1, eS1, h⟩ := ltE h
  rw [← eS1]
  refine RR.runs (pc' := 129) (lc' := []) (st' := [.int (1 : Int32)]) (S1 := S1) (nL := 2) (cd := cd_2481) mx_2481 rfl rfl 1 rfl ?_
  cases h
  exact RR.retz mx_2481 rfl rfl rfl rfl
def m_goes (v1 : Int32) (S : St) : Re Int32 :=
  lt' (wI S 500 73 (0 : Int32)) fun S1 =>
  if v1 < 0 ∨ 240 ≤ v1.toNatClampNeg then none else
  if (rI S1 544 v1.toNatClampNeg) = (2 : Int32) then (
    bn (m_passes S1) fun r2 S3 =>
    some ((1 : Int32), S3))
  else (
    if v1 < 0 ∨ 240 ≤ v1.toNatClampNeg then none else
    if (rI S1 544 v1.toNatClampNeg) = (1 : Int32) then (
      if v1 < 0 ∨ 240 ≤ v1.toNatClampNeg then none else
      bn (m_canPick (rI S1 546 v1.toNatClampNeg) S1) fun r4 S5 =>
      if r4 = 0 then (
        some ((0 : Int32), S5))
      else (
        if v1 < 0 ∨ 240 ≤ v1.toNatClampNeg then none else
        bn (m_picks (rI S5 546 v1.toNatClampNeg) S5) fun r6 S7 =>
        some ((1 : Int32), S7)))
    else (
      if v1 < 0 ∨ 240 ≤ v1.toNatClampNeg then none else
      if v1 < 0 ∨ 240 ≤ v1.toNatClampNeg then none else
      bn (m_isSaid (rI S1 545 v1.toNatClampNeg) (rI S1 546 v1.toNatClampNeg) S1) fun r8 S9 =>
      if r8 = 0 then (
        some ((0 : Int32), S9))
      else (
        if v1 < 0 ∨ 240 ≤ v1.toNatClampNeg then none else
        if v1 < 0 ∨ 240 ≤ v1.toNatClampNeg then none else
        if (rI S9 545 v1.toNatClampNeg) < 0 ∨ 10 ≤ (rI S9 545 v1.toNatClampNeg).toNatClampNeg then none else
        if v1 < 0 ∨ 240 ≤ v1.toNatClampNeg then none else
        if (rI S9 545 v1.toNatClampNeg) < 0 ∨ 10 ≤ (rI S9 545 v1.toNatClampNeg).toNatClampNeg then none else
        bn (m_calls (rI S9 546 v1.toNatClampNeg) ((rI S9 512 (rI S9 545 v1.toNatClampNeg).toNatClampNeg)) ((rI S9 513 (rI S9 545 v1.toNatClampNeg).toNatClampNeg)) S9) fun r10 S11 =>
        bn (m_greenOf r10 S11) fun r12 S13 =>
        if 0 < r12 then (
          m_goes_125 (1 : Int32) S13)
        else (
          m_goes_125 (0 : Int32) S13))))
set_option maxRecDepth 100000 in
theorem s0_m_goes {d : Nat} {S' : St} {r : Int32} (v1 : Int32) (S : St) (h : m_goes v1 S = some (r, S')) : RR KM (d + 6) 2481 0 [(0, .ref 500), (1, .int v1)] [] S (some (.int r)) S' := by
  unfold m_goes at h
  refine RR.runs (pc' := 5) (lc' := [(0, .ref 500), (1, .int v1)]) (st' := []) (S1 := (wI S 500 73 (0 : Int32))) (nL := 2) (cd := cd_2481) mx_2481 rfl rfl 3 rfl ?_
  obtain ⟨S1, eS1, h⟩ := ltE h
  rw [← eS1]
  refine RR.runs (pc' := 10) (lc' := [(0, .ref 500), (1, .int v1)]) (st' := [.int v1, .ref 544]) (S1 := S1) (nL := 2) (cd := cd_2481) mx_2481 rfl rfl 3 rfl ?_
  obtain ⟨g, h⟩ := gnE h
  refine RR.gPN (c2 := (KM.1 544).1 = 1) (pc' := 11) (lc' := [(0, .ref 500), (1, .int v1)]) (st' := [.int (rI S1 544 v1.toNatClampNeg)]) (S1 := S1) (nL := 2) (cd := cd_2481) mx_2481 rfl rfl rfl rfl g ?_
  refine RR.runs (pc' := icm .ne (rI S1 544 v1.toNatClampNeg) (2 : Int32) 21 15) (lc' := [(0, .ref 500), (1, .int v1)]) (st' := []) (S1 := S1) (nL := 2) (cd := cd_2481) mx_2481 rfl rfl 2 rfl ?_
  rcases ifE h with ⟨c, h⟩ | ⟨c, h⟩
  · refine RR.c_ne (fun _ => ?_) (fun q => absurd c q)
    refine RR.runs (pc' := 16) (lc' := [(0, .ref 500), (1, .int v1)]) (st' := [.ref 500]) (S1 := S1) (nL := 2) (cd := cd_2481) mx_2481 rfl rfl 1 rfl ?_
    obtain ⟨r2, S3, h1, h⟩ := bnE h
    refine RR.callV (b := 500) (as := []) (rest := []) (r1 := none) (S1 := S3) mx_2481 rfl rfl mx_2477 rfl rfl (by decide) (Or.inl rfl) (Nat.le_of_ble_eq_true rfl) (Nat.le_of_ble_eq_true rfl) (RC.deep (by omega) (s_m_passes (d := d) _ h1)) ?_
    show RR KM _ 2481 19 [(0, .ref 500), (1, .int v1)] [] S3 _ _
    refine RR.runs (pc' := 20) (lc' := [(0, .ref 500), (1, .int v1)]) (st' := [.int (1 : Int32)]) (S1 := S3) (nL := 2) (cd := cd_2481) mx_2481 rfl rfl 1 rfl ?_
    cases h
    exact RR.retz mx_2481 rfl rfl rfl rfl
  · refine RR.c_ne (fun q => absurd q c) (fun _ => ?_)
    refine RR.runs (pc' := 26) (lc' := [(0, .ref 500), (1, .int v1)]) (st' := [.int v1, .ref 544]) (S1 := S1) (nL := 2) (cd := cd_2481) mx_2481 rfl rfl 3 rfl ?_
    obtain ⟨g, h⟩ := gnE h
    refine RR.gPN (c2 := (KM.1 544).1 = 1) (pc' := 27) (lc' := [(0, .ref 500), (1, .int v1)]) (st' := [.int (rI S1 544 v1.toNatClampNeg)]) (S1 := S1) (nL := 2) (cd := cd_2481) mx_2481 rfl rfl rfl rfl g ?_
    refine RR.runs (pc' := icm .ne (rI S1 544 v1.toNatClampNeg) (1 : Int32) 59 31) (lc' := [(0, .ref 500), (1, .int v1)]) (st' := []) (S1 := S1) (nL := 2) (cd := cd_2481) mx_2481 rfl rfl 2 rfl ?_
    rcases ifE h with ⟨c, h⟩ | ⟨c, h⟩
    · refine RR.c_ne (fun _ => ?_) (fun q => absurd c q)
      refine RR.runs (pc' := 37) (lc' := [(0, .ref 500), (1, .int v1)]) (st' := [.int v1, .ref 546, .ref 500]) (S1 := S1) (nL := 2) (cd := cd_2481) mx_2481 rfl rfl 4 rfl ?_
      obtain ⟨g, h⟩ := gnE h
      refine RR.gPN (c2 := (KM.1 546).1 = 1) (pc' := 38) (lc' := [(0, .ref 500), (1, .int v1)]) (st' := [.int (rI S1 546 v1.toNatClampNeg), .ref 500]) (S1 := S1) (nL := 2) (cd := cd_2481) mx_2481 rfl rfl rfl rfl g ?_
      obtain ⟨r4, S5, h1, h⟩ := bnE h
      refine RR.callV (b := 500) (as := [.int (rI S1 546 v1.toNatClampNeg)]) (rest := []) (r1 := (some (.int r4))) (S1 := S5) mx_2481 rfl rfl mx_2472 rfl rfl (by decide) (Or.inl rfl) (Nat.le_of_ble_eq_true rfl) (Nat.le_of_ble_eq_true rfl) (RC.deep (by omega) (s_m_canPick (d := d) _ _ h1)) ?_
      show RR KM _ 2481 41 [(0, .ref 500), (1, .int v1)] [.int r4] S5 _ _
      refine RR.runs (pc' := icm .ne r4 0 46 44) (lc' := [(0, .ref 500), (1, .int v1)]) (st' := []) (S1 := S5) (nL := 2) (cd := cd_2481) mx_2481 rfl rfl 1 rfl ?_
      rcases ifE h with ⟨c, h⟩ | ⟨c, h⟩
      · refine RR.c_ne (fun _ => ?_) (fun q => absurd c q)
        refine RR.runs (pc' := 45) (lc' := [(0, .ref 500), (1, .int v1)]) (st' := [.int (0 : Int32)]) (S1 := S5) (nL := 2) (cd := cd_2481) mx_2481 rfl rfl 1 rfl ?_
        cases h
        exact RR.retz mx_2481 rfl rfl rfl rfl
      · refine RR.c_ne (fun q => absurd q c) (fun _ => ?_)
        refine RR.runs (pc' := 52) (lc' := [(0, .ref 500), (1, .int v1)]) (st' := [.int v1, .ref 546, .ref 500]) (S1 := S5) (nL := 2) (cd := cd_2481) mx_2481 rfl rfl 4 rfl ?_
        obtain ⟨g, h⟩ := gnE h
        refine RR.gPN (c2 := (KM.1 546).1 = 1) (pc' := 53) (lc' := [(0, .ref 500), (1, .int v1)]) (st' := [.int (rI S5 546 v1.toNatClampNeg), .ref 500]) (S1 := S5) (nL := 2) (cd := cd_2481) mx_2481 rfl rfl rfl rfl g ?_
        obtain ⟨r6, S7, h1, h⟩ := bnE h
        refine RR.callV (b := 500) (as := [.int (rI S5 546 v1.toNatClampNeg)]) (rest := []) (r1 := (some (.int r6))) (S1 := S7) mx_2481 rfl rfl mx_2473 rfl rfl (by decide) (Or.inl rfl) (Nat.le_of_ble_eq_true rfl) (Nat.le_of_ble_eq_true rfl) (RC.deep (by omega) (s_m_picks (d := d) _ _ h1)) ?_
        show RR KM _ 2481 56 [(0, .ref 500), (1, .int v1)] [.int r6] S7 _ _
        refine RR.runs (pc' := 58) (lc' := [(0, .ref 500), (1, .int v1)]) (st' := [.int (1 : Int32)]) (S1 := S7) (nL := 2) (cd := cd_2481) mx_2481 rfl rfl 2 rfl ?_
        cases h
        exact RR.retz mx_2481 rfl rfl rfl rfl
    · refine RR.c_ne (fun q => absurd q c) (fun _ => ?_)
      refine RR.runs (pc' := 65) (lc' := [(0, .ref 500), (1, .int v1)]) (st' := [.int v1, .ref 545, .ref 500]) (S1 := S1) (nL := 2) (cd := cd_2481) mx_2481 rfl rfl 4 rfl ?_
      obtain ⟨g, h⟩ := gnE h
      refine RR.gPN (c2 := (KM.1 545).1 = 1) (pc' := 66) (lc' := [(0, .ref 500), (1, .int v1)]) (st' := [.int (rI S1 545 v1.toNatClampNeg), .ref 500]) (S1 := S1) (nL := 2) (cd := cd_2481) mx_2481 rfl rfl rfl rfl g ?_
      refine RR.runs (pc' := 71) (lc' := [(0, .ref 500), (1, .int v1)]) (st' := [.int v1, .ref 546, .int (rI S1 545 v1.toNatClampNeg), .ref 500]) (S1 := S1) (nL := 2) (cd := cd_2481) mx_2481 rfl rfl 3 rfl ?_
      obtain ⟨g, h⟩ := gnE h
      refine RR.gPN (c2 := (KM.1 546).1 = 1) (pc' := 72) (lc' := [(0, .ref 500), (1, .int v1)]) (st' := [.int (rI S1 546 v1.toNatClampNeg), .int (rI S1 545 v1.toNatClampNeg), .ref 500]) (S1 := S1) (nL := 2) (cd := cd_2481) mx_2481 rfl rfl rfl rfl g ?_
      obtain ⟨r8, S9, h1, h⟩ := bnE h
      refine RR.callV (b := 500) (as := [.int (rI S1 545 v1.toNatClampNeg), .int (rI S1 546 v1.toNatClampNeg)]) (rest := []) (r1 := (some (.int r8))) (S1 := S9) mx_2481 rfl rfl mx_2447 rfl rfl (by decide) (Or.inl rfl) (Nat.le_of_ble_eq_true rfl) (Nat.le_of_ble_eq_true rfl) (RC.deep (by omega) (s_m_isSaid (d := d) _ _ _ h1)) ?_
      show RR KM _ 2481 75 [(0, .ref 500), (1, .int v1)] [.int r8] S9 _ _
      refine RR.runs (pc' := icm .ne r8 0 80 78) (lc' := [(0, .ref 500), (1, .int v1)]) (st' := []) (S1 := S9) (nL := 2) (cd := cd_2481) mx_2481 rfl rfl 1 rfl ?_
      rcases ifE h with ⟨c, h⟩ | ⟨c, h⟩
      · refine RR.c_ne (fun _ => ?_) (fun q => absurd c q)
        refine RR.runs (pc' := 79) (lc' := [(0, .ref 500), (1, .int v1)]) (st' := [.int (0 : Int32)]) (S1 := S9) (nL := 2) (cd := cd_2481) mx_2481 rfl rfl 1 rfl ?_
        cases h
        exact RR.retz mx_2481 rfl rfl rfl rfl
      · refine RR.c_ne (fun q => absurd q c) (fun _ => ?_)
        refine RR.runs (pc' := 88) (lc' := [(0, .ref 500), (1, .int v1)]) (st' := [.int v1, .ref 546, .ref 500, .ref 500, .ref 500]) (S1 := S9) (nL := 2) (cd := cd_2481) mx_2481 rfl rfl 6 rfl ?_
        obtain ⟨g, h⟩ := gnE h
        refine RR.gPN (c2 := (KM.1 546).1 = 1) (pc' := 89) (lc' := [(0, .ref 500), (1, .int v1)]) (st' := [.int (rI S9 546 v1.toNatClampNeg), .ref 500, .ref 500, .ref 500]) (S1 := S9) (nL := 2) (cd := cd_2481) mx_2481 rfl rfl rfl rfl g ?_
        refine RR.runs (pc' := 98) (lc' := [(0, .ref 500), (1, .int v1)]) (st' := [.int v1, .ref 545, .ref 512, .int (rI S9 546 v1.toNatClampNeg), .ref 500, .ref 500, .ref 500]) (S1 := S9) (nL := 2) (cd := cd_2481) mx_2481 rfl rfl 5 rfl ?_
        obtain ⟨g, h⟩ := gnE h
        refine RR.gPN (c2 := (KM.1 545).1 = 1) (pc' := 99) (lc' := [(0, .ref 500), (1, .int v1)]) (st' := [.int (rI S9 545 v1.toNatClampNeg), .ref 512, .int (rI S9 546 v1.toNatClampNeg), .ref 500, .ref 500, .ref 500]) (S1 := S9) (nL := 2) (cd := cd_2481) mx_2481 rfl rfl rfl rfl g ?_
        obtain ⟨g, h⟩ := gnE h
        refine RR.gPN (c2 := (KM.1 512).1 = 1) (pc' := 100) (lc' := [(0, .ref 500), (1, .int v1)]) (st' := [.int ((rI S9 512 (rI S9 545 v1.toNatClampNeg).toNatClampNeg)), .int (rI S9 546 v1.toNatClampNeg), .ref 500, .ref 500, .ref 500]) (S1 := S9) (nL := 2) (cd := cd_2481) mx_2481 rfl rfl rfl rfl g ?_
        refine RR.runs (pc' := 109) (lc' := [(0, .ref 500), (1, .int v1)]) (st' := [.int v1, .ref 545, .ref 513, .int ((rI S9 512 (rI S9 545 v1.toNatClampNeg).toNatClampNeg)), .int (rI S9 546 v1.toNatClampNeg), .ref 500, .ref 500, .ref 500]) (S1 := S9) (nL := 2) (cd := cd_2481) mx_2481 rfl rfl 5 rfl ?_
        obtain ⟨g, h⟩ := gnE h
        refine RR.gPN (c2 := (KM.1 545).1 = 1) (pc' := 110) (lc' := [(0, .ref 500), (1, .int v1)]) (st' := [.int (rI S9 545 v1.toNatClampNeg), .ref 513, .int ((rI S9 512 (rI S9 545 v1.toNatClampNeg).toNatClampNeg)), .int (rI S9 546 v1.toNatClampNeg), .ref 500, .ref 500, .ref 500]) (S1 := S9) (nL := 2) (cd := cd_2481) mx_2481 rfl rfl rfl rfl g ?_
        obtain ⟨g, h⟩ := gnE h
        refine RR.gPN (c2 := (KM.1 513).1 = 1) (pc' := 111) (lc' := [(0, .ref 500), (1, .int v1)]) (st' := [.int ((rI S9 513 (rI S9 545 v1.toNatClampNeg).toNatClampNeg)), .int ((rI S9 512 (rI S9 545 v1.toNatClampNeg).toNatClampNeg)), .int (rI S9 546 v1.toNatClampNeg), .ref 500, .ref 500, .ref 500]) (S1 := S9) (nL := 2) (cd := cd_2481) mx_2481 rfl rfl rfl rfl g ?_
        obtain ⟨r10, S11, h1, h⟩ := bnE h
        refine RR.callV (b := 500) (as := [.int (rI S9 546 v1.toNatClampNeg), .int ((rI S9 512 (rI S9 545 v1.toNatClampNeg).toNatClampNeg)), .int ((rI S9 513 (rI S9 545 v1.toNatClampNeg).toNatClampNeg))]) (rest := [.ref 500, .ref 500]) (r1 := (some (.int r10))) (S1 := S11) mx_2481 rfl rfl mx_2468 rfl rfl (by decide) (Or.inl rfl) (Nat.le_of_ble_eq_true rfl) (Nat.le_of_ble_eq_true rfl) (RC.deep (by omega) (s_m_calls (d := d) _ _ _ _ h1)) ?_
        show RR KM _ 2481 114 [(0, .ref 500), (1, .int v1)] [.int r10, .ref 500, .ref 500] S11 _ _
        obtain ⟨r12, S13, h1, h⟩ := bnE h
        refine RR.callV (b := 500) (as := [.int r10]) (rest := [.ref 500]) (r1 := (some (.int r12))) (S1 := S13) mx_2481 rfl rfl mx_2480 rfl rfl (by decide) (Or.inl rfl) (Nat.le_of_ble_eq_true rfl) (Nat.le_of_ble_eq_true rfl) (RC.deep (by omega) (s_m_greenOf (d := d) _ _ h1)) ?_
        show RR KM _ 2481 117 [(0, .ref 500), (1, .int v1)] [.int r12, .ref 500] S13 _ _
        refine RR.runs (pc' := icm .le r12 0 124 120) (lc' := [(0, .ref 500), (1, .int v1)]) (st' := [.ref 500]) (S1 := S13) (nL := 2) (cd := cd_2481) mx_2481 rfl rfl 1 rfl ?_
        rcases ifE h with ⟨c, h⟩ | ⟨c, h⟩
        · refine RR.c_le (fun _ => ?_) (fun q => absurd c q)
          refine RR.runs (pc' := 125) (lc' := [(0, .ref 500), (1, .int v1)]) (st' := [.int (1 : Int32), .ref 500]) (S1 := S13) (nL := 2) (cd := cd_2481) mx_2481 rfl rfl 2 rfl ?_
          refine RR.weak [] trivial ?_
          exact s_m_goes_125 _ _ h
        · refine RR.c_le (fun q => absurd q c) (fun _ => ?_)
          refine RR.runs (pc' := 125) (lc' := [(0, .ref 500), (1, .int v1)]) (st' := [.int (0 : Int32), .ref 500]) (S1 := S13) (nL := 2) (cd := cd_2481) mx_2481 rfl rfl 1 rfl ?_
          refine RR.weak [] trivial ?_
          exact s_m_goes_125 _ _ h
theorem s_m_goes {d : Nat} {S' : St} {r : Int32} (v1 : Int32) (S : St) (h : m_goes v1 S = some (r, S')) : RC KM (d + 6) 2481 [.ref 500, .int v1] S (some (.int r)) S' := RC.of rfl (s0_m_goes v1 S h)
-- judged (I)I
def m_judged_82 (k41 : Int32 → Int32 → Int32 → Int32 → St → Re Int32) (v1 : Int32) (v2 : Int32) (v3 : Int32) (v4 : Int32) (S : St) : Re Int32 :=
  lt' ((v4 + (1 : Int32)) : Int32) fun x1 =>
  k41 v1 v2 v3 x1 S
set_option maxRecDepth 100000 in
theorem s_m_judged_82 {d : Nat} (k41 : Int32 → Int32 → Int32 → Int32 → St → Re Int32) {S' : St} {r : Int32} (b41 : ∀ (v1 : Int32) (v2 : Int32) (v3 : Int32) (v4 : Int32) (S : St), k41 v1 v2 v3 v4 S = some (r, S') → RR KM (d + 7) 2482 41 [(0, .ref 500), (1, .int v1), (2, .int v2), (3, .int v3), (4, .int v4)] [] S (some (.int r)) S') (v1 : Int32) (v2 : Int32) (v3 : Int32) (v4 : Int32) (S : St) (h : m_judged_82 k41 v1 v2 v3 v4 S = some (r, S')) : RR KM (d + 7) 2482 82 [(0, .ref 500), (1, .int v1), (2, .int v2), (3, .int v3), (4, .int v4)] [] S (some (.int r)) S' := by
  unfold m_judged_82 at h
  refine RR.runs (pc' := 85) (lc' := [(4, .int ((v4 + (1 : Int32)))), (0, .ref 500), (1, .int v1), (2, .int v2), (3, .int v3)]) (st' := []) (S1 := S) (nL := 5) (cd := cd_2482) mx_2482 rfl rfl 1 rfl ?_
  obtain ⟨x1, ex1, h⟩ := ltE h
  rw [← ex1]
  refine RR.runs (pc' := 41) (lc' := [(4, .int x1), (0, .ref 500), (1, .int v1), (2, .int v2), (3, .int v3)]) (st' := []) (S1 := S) (nL := 5) (cd := cd_2482) mx_2482 rfl rfl 1 rfl ?_
  refine RR.weak [(0, .ref 500), (1, .int v1), (2, .int v2), (3, .int v3), (4, .int x1)] ⟨rfl, rfl, rfl, rfl, rfl, trivial⟩ ?_
  exact b41 _ _ _ _ _ h
def m_judged_68 (k41 : Int32 → Int32 → Int32 → Int32 → St → Re Int32) (v1 : Int32) (v2 : Int32) (v3 : Int32) (v4 : Int32) (S : St) : Re Int32 :=
  if (rI S 500 73) = 0 then (
    m_judged_82 k41 v1 v2 v3 v4 S)
  else (
    if v3 < 0 then (
      m_judged_82 k41 v1 v2 v4 v4 S)
    else (
      m_judged_82 k41 v1 v2 v3 v4 S))
set_option maxRecDepth 100000 in
theorem s_m_judged_68 {d : Nat} (k41 : Int32 → Int32 → Int32 → Int32 → St → Re Int32) {S' : St} {r : Int32} (b41 : ∀ (v1 : Int32) (v2 : Int32) (v3 : Int32) (v4 : Int32) (S : St), k41 v1 v2 v3 v4 S = some (r, S') → RR KM (d + 7) 2482 41 [(0, .ref 500), (1, .int v1), (2, .int v2), (3, .int v3), (4, .int v4)] [] S (some (.int r)) S') (v1 : Int32) (v2 : Int32) (v3 : Int32) (v4 : Int32) (S : St) (h : m_judged_68 k41 v1 v2 v3 v4 S = some (r, S')) : RR KM (d + 7) 2482 68 [(0, .ref 500), (1, .int v1), (2, .int v2), (3, .int v3), (4, .int v4)] [] S (some (.int r)) S' := by
  unfold m_judged_68 at h
  refine RR.runs (pc' := icm .eq (rI S 500 73) 0 82 75) (lc' := [(0, .ref 500), (1, .int v1), (2, .int v2), (3, .int v3), (4, .int v4)]) (st' := []) (S1 := S) (nL := 5) (cd := cd_2482) mx_2482 rfl rfl 3 rfl ?_
  rcases ifE h with ⟨c, h⟩ | ⟨c, h⟩
  · refine RR.c_eq (fun _ => ?_) (fun q => absurd c q)
    refine RR.weak [(0, .ref 500), (1, .int v1), (2, .int v2), (3, .int v3), (4, .int v4)] ⟨rfl, rfl, rfl, rfl, rfl, trivial⟩ ?_
    exact s_m_judged_82 _ b41 _ _ _ _ _ h
  · refine RR.c_eq (fun q => absurd q c) (fun _ => ?_)
    refine RR.runs (pc' := icm .ge v3 0 82 79) (lc' := [(0, .ref 500), (1, .int v1), (2, .int v2), (3, .int v3), (4, .int v4)]) (st' := []) (S1 := S) (nL := 5) (cd := cd_2482) mx_2482 rfl rfl 2 rfl ?_
    rcases ifE h with ⟨c, h⟩ | ⟨c, h⟩
    · refine RR.c_ge (fun _ => ?_) (fun q => absurd c q)
      refine RR.runs (pc' := 82) (lc' := [(3, .int v4), (0, .ref 500), (1, .int v1), (2, .int v2), (4, .int v4)]) (st' := []) (S1 := S) (nL := 5) (cd := cd_2482) mx_2482 rfl rfl 2 rfl ?_
      refine RR.weak [(0, .ref 500), (1, .int v1), (2, .int v2), (3, .int v4), (4, .int v4)] ⟨rfl, rfl, rfl, rfl, rfl, trivial⟩ ?_
      exact s_m_judged_82 _ b41 _ _ _ _ _ h
    · refine RR.c_ge (fun q => absurd q c) (fun _ => ?_)
      refine RR.weak [(0, .ref 500), (1, .int v1), (2, .int v2), (3, .int v3), (4, .int v4)] ⟨rfl, rfl, rfl, rfl, rfl, trivial⟩ ?_
      exact s_m_judged_82 _ b41 _ _ _ _ _ h
def m_judged_128 (p0 : Int32) (S : St) : Re Int32 :=
  some (p0, S)
set_option maxRecDepth 100000 in
theorem s_m_judged_128 {d : Nat} {S' : St} {r : Int32} (p0 : Int32) (S : St) (h : m_judged_128 p0 S = some (r, S')) : RR KM (d + 7) 2482 128 [] [.int p0] S (some (.int r)) S' := by
  unfold m_judged_128 at h
  cases h
  exact RR.reti mx_2482 rfl rfl rfl
def m_judged_88 (v1 : Int32) (v2 : Int32) (v3 : Int32) (S : St) : Re Int32 :=
  if (4 : Int32) < 0 ∨ 15 ≤ (4 : Int32).toNatClampNeg then none else
  lt' ((rI S 553 (4 : Int32).toNatClampNeg) : Int32) fun x1 =>
  bn (m_copies 554 (0 : Int32) 553 (0 : Int32) S) fun r2 S3 =>
  if v1 = 0 then (
    m_judged_128 v2 S3)
  else (
    if v1 = (1 : Int32) then (
      m_judged_128 v3 S3)
    else (
      m_judged_128 x1 S3))
set_option maxRecDepth 100000 in
theorem s_m_judged_88 {d : Nat} {S' : St} {r : Int32} (v1 : Int32) (v2 : Int32) (v3 : Int32) (S : St) (h : m_judged_88 v1 v2 v3 S = some (r, S')) : RR KM (d + 7) 2482 88 [(0, .ref 500), (1, .int v1), (2, .int v2), (3, .int v3)] [] S (some (.int r)) S' := by
  unfold m_judged_88 at h
  refine RR.runs (pc' := 93) (lc' := [(0, .ref 500), (1, .int v1), (2, .int v2), (3, .int v3)]) (st' := [.int (4 : Int32), .ref 553]) (S1 := S) (nL := 5) (cd := cd_2482) mx_2482 rfl rfl 3 rfl ?_
  obtain ⟨g, h⟩ := gnE h
  refine RR.gPN (c2 := (KM.1 553).1 = 1) (pc' := 94) (lc' := [(0, .ref 500), (1, .int v1), (2, .int v2), (3, .int v3)]) (st' := [.int ((rI S 553 (4 : Int32).toNatClampNeg))]) (S1 := S) (nL := 5) (cd := cd_2482) mx_2482 rfl rfl rfl rfl g ?_
  refine RR.runs (pc' := 96) (lc' := [(4, .int ((rI S 553 (4 : Int32).toNatClampNeg))), (0, .ref 500), (1, .int v1), (2, .int v2), (3, .int v3)]) (st' := []) (S1 := S) (nL := 5) (cd := cd_2482) mx_2482 rfl rfl 1 rfl ?_
  obtain ⟨x1, ex1, h⟩ := ltE h
  rw [← ex1]
  refine RR.runs (pc' := 106) (lc' := [(4, .int x1), (0, .ref 500), (1, .int v1), (2, .int v2), (3, .int v3)]) (st' := [.int (0 : Int32), .ref 553, .int (0 : Int32), .ref 554]) (S1 := S) (nL := 5) (cd := cd_2482) mx_2482 rfl rfl 6 rfl ?_
  obtain ⟨r2, S3, h1, h⟩ := bnE h
  refine RR.callS (as := [.ref 554, .int (0 : Int32), .ref 553, .int (0 : Int32)]) (rest := []) (r1 := none) (S1 := S3) mx_2482 rfl rfl mx_2448 rfl rfl (by decide) (Nat.le_of_ble_eq_true rfl) (Nat.le_of_ble_eq_true rfl) (Nat.le_of_ble_eq_true rfl) (RC.deep (by omega) (s_m_copies (d := d) _ _ _ _ _ h1)) ?_
  show RR KM _ 2482 109 [(4, .int x1), (0, .ref 500), (1, .int v1), (2, .int v2), (3, .int v3)] [] S3 _ _
  refine RR.runs (pc' := icm .ne v1 0 117 113) (lc' := [(4, .int x1), (0, .ref 500), (1, .int v1), (2, .int v2), (3, .int v3)]) (st' := []) (S1 := S3) (nL := 5) (cd := cd_2482) mx_2482 rfl rfl 2 rfl ?_
  rcases ifE h with ⟨c, h⟩ | ⟨c, h⟩
  · refine RR.c_ne (fun _ => ?_) (fun q => absurd c q)
    refine RR.runs (pc' := 128) (lc' := [(4, .int x1), (0, .ref 500), (1, .int v1), (2, .int v2), (3, .int v3)]) (st' := [.int v2]) (S1 := S3) (nL := 5) (cd := cd_2482) mx_2482 rfl rfl 2 rfl ?_
    refine RR.weak [] trivial ?_
    exact s_m_judged_128 _ _ h
  · refine RR.c_ne (fun q => absurd q c) (fun _ => ?_)
    refine RR.runs (pc' := icm .ne v1 (1 : Int32) 126 122) (lc' := [(4, .int x1), (0, .ref 500), (1, .int v1), (2, .int v2), (3, .int v3)]) (st' := []) (S1 := S3) (nL := 5) (cd := cd_2482) mx_2482 rfl rfl 3 rfl ?_
    rcases ifE h with ⟨c, h⟩ | ⟨c, h⟩
    · refine RR.c_ne (fun _ => ?_) (fun q => absurd c q)
      refine RR.runs (pc' := 128) (lc' := [(4, .int x1), (0, .ref 500), (1, .int v1), (2, .int v2), (3, .int v3)]) (st' := [.int v3]) (S1 := S3) (nL := 5) (cd := cd_2482) mx_2482 rfl rfl 2 rfl ?_
      refine RR.weak [] trivial ?_
      exact s_m_judged_128 _ _ h
    · refine RR.c_ne (fun q => absurd q c) (fun _ => ?_)
      refine RR.runs (pc' := 128) (lc' := [(4, .int x1), (0, .ref 500), (1, .int v1), (2, .int v2), (3, .int v3)]) (st' := [.int x1]) (S1 := S3) (nL := 5) (cd := cd_2482) mx_2482 rfl rfl 1 rfl ?_
      refine RR.weak [] trivial ?_
      exact s_m_judged_128 _ _ h
def m_judged_41 : Nat → Int32 → Int32 → Int32 → Int32 → St → Re Int32
  | 0, _, _, _, _, _ => none
  | n + 1, v1, v2, v3, v4, S =>
  if (0 : Int32) < 0 ∨ 6 ≤ (0 : Int32).toNatClampNeg then none else
  if v4 < (rI S 543 (0 : Int32).toNatClampNeg) then (
    bn (m_goes v4 S) fun r1 S2 =>
    if r1 = 0 then (
      if v2 < 0 then (
        m_judged_68 (m_judged_41 n) v1 v4 v3 v4 S2)
      else (
        m_judged_68 (m_judged_41 n) v1 v2 v3 v4 S2))
    else (
      m_judged_68 (m_judged_41 n) v1 v2 v3 v4 S2))
  else (
    m_judged_88 v1 v2 v3 S)
set_option maxRecDepth 100000 in
theorem s_m_judged_41 {d : Nat} {S' : St} {r : Int32} : ∀ (n : Nat) (v1 : Int32) (v2 : Int32) (v3 : Int32) (v4 : Int32) (S : St), m_judged_41 n v1 v2 v3 v4 S = some (r, S') → RR KM (d + 7) 2482 41 [(0, .ref 500), (1, .int v1), (2, .int v2), (3, .int v3), (4, .int v4)] [] S (some (.int r)) S' := by
  intro n
  induction n with
  | zero => intro v1 v2 v3 v4 S h; simp only [m_judged_41] at h; cases h
  | succ n ih =>
    intro v1 v2 v3 v4 S h
    simp only [m_judged_41] at h
    refine RR.runs (pc' := 48) (lc' := [(0, .ref 500), (1, .int v1), (2, .int v2), (3, .int v3), (4, .int v4)]) (st' := [.int (0 : Int32), .ref 543, .int v4]) (S1 := S) (nL := 5) (cd := cd_2482) mx_2482 rfl rfl 4 rfl ?_
    obtain ⟨g, h⟩ := gnE h
    refine RR.gPN (c2 := (KM.1 543).1 = 1) (pc' := 49) (lc' := [(0, .ref 500), (1, .int v1), (2, .int v2), (3, .int v3), (4, .int v4)]) (st' := [.int ((rI S 543 (0 : Int32).toNatClampNeg)), .int v4]) (S1 := S) (nL := 5) (cd := cd_2482) mx_2482 rfl rfl rfl rfl g ?_
    refine RR.runs (pc' := icm .ge v4 ((rI S 543 (0 : Int32).toNatClampNeg)) 88 52) (lc' := [(0, .ref 500), (1, .int v1), (2, .int v2), (3, .int v3), (4, .int v4)]) (st' := []) (S1 := S) (nL := 5) (cd := cd_2482) mx_2482 rfl rfl 1 rfl ?_
    rcases ifE h with ⟨c, h⟩ | ⟨c, h⟩
    · refine RR.c_ge (fun _ => ?_) (fun q => absurd c q)
      refine RR.runs (pc' := 55) (lc' := [(0, .ref 500), (1, .int v1), (2, .int v2), (3, .int v3), (4, .int v4)]) (st' := [.int v4, .ref 500]) (S1 := S) (nL := 5) (cd := cd_2482) mx_2482 rfl rfl 2 rfl ?_
      obtain ⟨r1, S2, h1, h⟩ := bnE h
      refine RR.callV (b := 500) (as := [.int v4]) (rest := []) (r1 := (some (.int r1))) (S1 := S2) mx_2482 rfl rfl mx_2481 rfl rfl (by decide) (Or.inl rfl) (Nat.le_of_ble_eq_true rfl) (Nat.le_of_ble_eq_true rfl) (RC.deep (by omega) (s_m_goes (d := d) _ _ h1)) ?_
      show RR KM _ 2482 58 [(0, .ref 500), (1, .int v1), (2, .int v2), (3, .int v3), (4, .int v4)] [.int r1] S2 _ _
      refine RR.runs (pc' := icm .ne r1 0 68 61) (lc' := [(0, .ref 500), (1, .int v1), (2, .int v2), (3, .int v3), (4, .int v4)]) (st' := []) (S1 := S2) (nL := 5) (cd := cd_2482) mx_2482 rfl rfl 1 rfl ?_
      rcases ifE h with ⟨c, h⟩ | ⟨c, h⟩
      · refine RR.c_ne (fun _ => ?_) (fun q => absurd c q)
        refine RR.runs (pc' := icm .ge v2 0 68 65) (lc' := [(0, .ref 500), (1, .int v1), (2, .int v2), (3, .int v3), (4, .int v4)]) (st' := []) (S1 := S2) (nL := 5) (cd := cd_2482) mx_2482 rfl rfl 2 rfl ?_
        rcases ifE h with ⟨c, h⟩ | ⟨c, h⟩
        · refine RR.c_ge (fun _ => ?_) (fun q => absurd c q)
          refine RR.runs (pc' := 68) (lc' := [(2, .int v4), (0, .ref 500), (1, .int v1), (3, .int v3), (4, .int v4)]) (st' := []) (S1 := S2) (nL := 5) (cd := cd_2482) mx_2482 rfl rfl 2 rfl ?_
          refine RR.weak [(0, .ref 500), (1, .int v1), (2, .int v4), (3, .int v3), (4, .int v4)] ⟨rfl, rfl, rfl, rfl, rfl, trivial⟩ ?_
          exact s_m_judged_68 _ (fun _ _ _ _ S h => ih _ _ _ _ S h) _ _ _ _ _ h
        · refine RR.c_ge (fun q => absurd q c) (fun _ => ?_)
          refine RR.weak [(0, .ref 500), (1, .int v1), (2, .int v2), (3, .int v3), (4, .int v4)] ⟨rfl, rfl, rfl, rfl, rfl, trivial⟩ ?_
          exact s_m_judged_68 _ (fun _ _ _ _ S h => ih _ _ _ _ S h) _ _ _ _ _ h
      · refine RR.c_ne (fun q => absurd q c) (fun _ => ?_)
        refine RR.weak [(0, .ref 500), (1, .int v1), (2, .int v2), (3, .int v3), (4, .int v4)] ⟨rfl, rfl, rfl, rfl, rfl, trivial⟩ ?_
        exact s_m_judged_68 _ (fun _ _ _ _ S h => ih _ _ _ _ S h) _ _ _ _ _ h
    · refine RR.c_ge (fun q => absurd q c) (fun _ => ?_)
      refine RR.weak [(0, .ref 500), (1, .int v1), (2, .int v2), (3, .int v3)] ⟨rfl, rfl, rfl, rfl, trivial⟩ ?_
      exact s_m_judged_88 _ _ _ _ h
def m_judged (v1 : Int32) (S : St) : Re Int32 :=
  lt' (wI S 500 0 (0 : Int32)) fun S1 =>
  bn (m_within v1 (0 : Int32) (2 : Int32) S1) fun r2 S3 =>
  if r2 = 0 then (
    some ((-2 : Int32), S3))
  else (
    bn (m_copies 553 (0 : Int32) 554 (0 : Int32) S3) fun r4 S5 =>
    bn (m_fresh S5) fun r6 S7 =>
    m_judged_41 FU v1 (-1 : Int32) (-1 : Int32) (0 : Int32) S7)
set_option maxRecDepth 100000 in
theorem s0_m_judged {d : Nat} {S' : St} {r : Int32} (v1 : Int32) (S : St) (h : m_judged v1 S = some (r, S')) : RR KM (d + 7) 2482 0 [(0, .ref 500), (1, .int v1)] [] S (some (.int r)) S' := by
  unfold m_judged at h
  refine RR.runs (pc' := 5) (lc' := [(0, .ref 500), (1, .int v1)]) (st' := []) (S1 := (wI S 500 0 (0 : Int32))) (nL := 5) (cd := cd_2482) mx_2482 rfl rfl 3 rfl ?_
  obtain ⟨S1, eS1, h⟩ := ltE h
  rw [← eS1]
  refine RR.runs (pc' := 8) (lc' := [(0, .ref 500), (1, .int v1)]) (st' := [.int (2 : Int32), .int (0 : Int32), .int v1]) (S1 := S1) (nL := 5) (cd := cd_2482) mx_2482 rfl rfl 3 rfl ?_
  obtain ⟨r2, S3, h1, h⟩ := bnE h
  refine RR.callS (as := [.int v1, .int (0 : Int32), .int (2 : Int32)]) (rest := []) (r1 := (some (.int r2))) (S1 := S3) mx_2482 rfl rfl mx_2402 rfl rfl (by decide) (Nat.le_of_ble_eq_true rfl) (Nat.le_of_ble_eq_true rfl) (Nat.le_of_ble_eq_true rfl) (RC.deep (by omega) (s_m_within (d := d) _ _ _ _ h1)) ?_
  show RR KM _ 2482 11 [(0, .ref 500), (1, .int v1)] [.int r2] S3 _ _
  refine RR.runs (pc' := icm .ne r2 0 17 14) (lc' := [(0, .ref 500), (1, .int v1)]) (st' := []) (S1 := S3) (nL := 5) (cd := cd_2482) mx_2482 rfl rfl 1 rfl ?_
  rcases ifE h with ⟨c, h⟩ | ⟨c, h⟩
  · refine RR.c_ne (fun _ => ?_) (fun q => absurd c q)
    refine RR.runs (pc' := 16) (lc' := [(0, .ref 500), (1, .int v1)]) (st' := [.int (-2 : Int32)]) (S1 := S3) (nL := 5) (cd := cd_2482) mx_2482 rfl rfl 1 rfl ?_
    cases h
    exact RR.reti mx_2482 rfl rfl rfl
  · refine RR.c_ne (fun q => absurd q c) (fun _ => ?_)
    refine RR.runs (pc' := 27) (lc' := [(0, .ref 500), (1, .int v1)]) (st' := [.int (0 : Int32), .ref 554, .int (0 : Int32), .ref 553]) (S1 := S3) (nL := 5) (cd := cd_2482) mx_2482 rfl rfl 6 rfl ?_
    obtain ⟨r4, S5, h1, h⟩ := bnE h
    refine RR.callS (as := [.ref 553, .int (0 : Int32), .ref 554, .int (0 : Int32)]) (rest := []) (r1 := none) (S1 := S5) mx_2482 rfl rfl mx_2448 rfl rfl (by decide) (Nat.le_of_ble_eq_true rfl) (Nat.le_of_ble_eq_true rfl) (Nat.le_of_ble_eq_true rfl) (RC.deep (by omega) (s_m_copies (d := d) _ _ _ _ _ h1)) ?_
    show RR KM _ 2482 30 [(0, .ref 500), (1, .int v1)] [] S5 _ _
    refine RR.runs (pc' := 31) (lc' := [(0, .ref 500), (1, .int v1)]) (st' := [.ref 500]) (S1 := S5) (nL := 5) (cd := cd_2482) mx_2482 rfl rfl 1 rfl ?_
    obtain ⟨r6, S7, h1, h⟩ := bnE h
    refine RR.callV (b := 500) (as := []) (rest := []) (r1 := none) (S1 := S7) mx_2482 rfl rfl mx_2452 rfl rfl (by decide) (Or.inl rfl) (Nat.le_of_ble_eq_true rfl) (Nat.le_of_ble_eq_true rfl) (RC.deep (by omega) (s_m_fresh (d := d) _ h1)) ?_
    show RR KM _ 2482 34 [(0, .ref 500), (1, .int v1)] [] S7 _ _
    refine RR.runs (pc' := 41) (lc' := [(4, .int (0 : Int32)), (3, .int (-1 : Int32)), (2, .int (-1 : Int32)), (0, .ref 500), (1, .int v1)]) (st' := []) (S1 := S7) (nL := 5) (cd := cd_2482) mx_2482 rfl rfl 6 rfl ?_
    refine RR.weak [(0, .ref 500), (1, .int v1), (2, .int (-1 : Int32)), (3, .int (-1 : Int32)), (4, .int (0 : Int32))] ⟨rfl, rfl, rfl, rfl, rfl, trivial⟩ ?_
    exact s_m_judged_41 _ _ _ _ _ _ h
theorem s_m_judged {d : Nat} {S' : St} {r : Int32} (v1 : Int32) (S : St) (h : m_judged v1 S = some (r, S')) : RC KM (d + 7) 2482 [.ref 500, .int v1] S (some (.int r)) S' := RC.of rfl (s0_m_judged v1 S h)
-- laysCalls ()V
def m_laysCalls_109 (k19 : Int32 → Int32 → St → Re Unit) (v1 : Int32) (v2 : Int32) (S : St) : Re Unit :=
  lt' ((v2 + (1 : Int32)) : Int32) fun x1 =>
  k19 v1 x1 S
set_option maxRecDepth 100000 in
theorem s_m_laysCalls_109 {d : Nat} (k19 : Int32 → Int32 → St → Re Unit) {S' : St} {r : Unit} (b19 : ∀ (v1 : Int32) (v2 : Int32) (S : St), k19 v1 v2 S = some (r, S') → RR KM (d + 2) 2483 19 [(0, .ref 500), (1, .int v1), (2, .int v2)] [] S none S') (v1 : Int32) (v2 : Int32) (S : St) (h : m_laysCalls_109 k19 v1 v2 S = some (r, S')) : RR KM (d + 2) 2483 109 [(0, .ref 500), (1, .int v1), (2, .int v2)] [] S none S' := by
  unfold m_laysCalls_109 at h
  refine RR.runs (pc' := 112) (lc' := [(2, .int ((v2 + (1 : Int32)))), (0, .ref 500), (1, .int v1)]) (st' := []) (S1 := S) (nL := 3) (cd := cd_2483) mx_2483 rfl rfl 1 rfl ?_
  obtain ⟨x1, ex1, h⟩ := ltE h
  rw [← ex1]
  refine RR.runs (pc' := 19) (lc' := [(2, .int x1), (0, .ref 500), (1, .int v1)]) (st' := []) (S1 := S) (nL := 3) (cd := cd_2483) mx_2483 rfl rfl 1 rfl ?_
  refine RR.weak [(0, .ref 500), (1, .int v1), (2, .int x1)] ⟨rfl, rfl, rfl, trivial⟩ ?_
  exact b19 _ _ _ h
def m_laysCalls_115 (k7 : Int32 → St → Re Unit) (v1 : Int32) (S : St) : Re Unit :=
  lt' ((v1 + (1 : Int32)) : Int32) fun x1 =>
  k7 x1 S
set_option maxRecDepth 100000 in
theorem s_m_laysCalls_115 {d : Nat} (k7 : Int32 → St → Re Unit) {S' : St} {r : Unit} (b7 : ∀ (v1 : Int32) (S : St), k7 v1 S = some (r, S') → RR KM (d + 2) 2483 7 [(0, .ref 500), (1, .int v1)] [] S none S') (v1 : Int32) (S : St) (h : m_laysCalls_115 k7 v1 S = some (r, S')) : RR KM (d + 2) 2483 115 [(0, .ref 500), (1, .int v1)] [] S none S' := by
  unfold m_laysCalls_115 at h
  refine RR.runs (pc' := 118) (lc' := [(1, .int ((v1 + (1 : Int32)))), (0, .ref 500)]) (st' := []) (S1 := S) (nL := 3) (cd := cd_2483) mx_2483 rfl rfl 1 rfl ?_
  obtain ⟨x1, ex1, h⟩ := ltE h
  rw [← ex1]
  refine RR.runs (pc' := 7) (lc' := [(1, .int x1), (0, .ref 500)]) (st' := []) (S1 := S) (nL := 3) (cd := cd_2483) mx_2483 rfl rfl 1 rfl ?_
  refine RR.weak [(0, .ref 500), (1, .int x1)] ⟨rfl, rfl, trivial⟩ ?_
  exact b7 _ _ h
def m_laysCalls_19 (k7 : Int32 → St → Re Unit) : Nat → Int32 → Int32 → St → Re Unit
  | 0, _, _, _ => none
  | n + 1, v1, v2, S =>
  if (1 : Int32) < 0 ∨ 12 ≤ (1 : Int32).toNatClampNeg then none else
  if v2 < (rI S 502 (1 : Int32).toNatClampNeg) then (
    bn (m_isSaid v1 v2 S) fun r1 S2 =>
    if r1 = 0 then (
      m_laysCalls_109 (m_laysCalls_19 k7 n) v1 v2 S2)
    else (
      if v1 < 0 ∨ 10 ≤ v1.toNatClampNeg then none else
      if v1 < 0 ∨ 10 ≤ v1.toNatClampNeg then none else
      bn (m_hears v2 (rI S2 512 v1.toNatClampNeg) (rI S2 513 v1.toNatClampNeg) S2) fun r3 S4 =>
      if (rI S4 500 77) < 0 ∨ 80 ≤ (rI S4 500 77).toNatClampNeg then none else
      lt' (wI S4 558 (rI S4 500 77).toNatClampNeg (rI S4 500 70)) fun S5 =>
      if (rI S5 500 77) < 0 ∨ 80 ≤ (rI S5 500 77).toNatClampNeg then none else
      lt' (wI S5 559 (rI S5 500 77).toNatClampNeg (rI S5 500 71)) fun S6 =>
      if (rI S6 500 77) < 0 ∨ 80 ≤ (rI S6 500 77).toNatClampNeg then none else
      lt' (wI S6 560 (rI S6 500 77).toNatClampNeg ((((16 : Int32) * v1) + v2))) fun S7 =>
      lt' (wI S7 500 77 (((rI S7 500 77) + (1 : Int32)))) fun S8 =>
      m_laysCalls_109 (m_laysCalls_19 k7 n) v1 v2 S8))
  else (
    m_laysCalls_115 k7 v1 S)
set_option maxRecDepth 100000 in
theorem s_m_laysCalls_19 {d : Nat} (k7 : Int32 → St → Re Unit) {S' : St} {r : Unit} (b7 : ∀ (v1 : Int32) (S : St), k7 v1 S = some (r, S') → RR KM (d + 2) 2483 7 [(0, .ref 500), (1, .int v1)] [] S none S') : ∀ (n : Nat) (v1 : Int32) (v2 : Int32) (S : St), m_laysCalls_19 k7 n v1 v2 S = some (r, S') → RR KM (d + 2) 2483 19 [(0, .ref 500), (1, .int v1), (2, .int v2)] [] S none S' := by
  intro n
  induction n with
  | zero => intro v1 v2 S h; simp only [m_laysCalls_19] at h; cases h
  | succ n ih =>
    intro v1 v2 S h
    simp only [m_laysCalls_19] at h
    refine RR.runs (pc' := 25) (lc' := [(0, .ref 500), (1, .int v1), (2, .int v2)]) (st' := [.int (1 : Int32), .ref 502, .int v2]) (S1 := S) (nL := 3) (cd := cd_2483) mx_2483 rfl rfl 4 rfl ?_
    obtain ⟨g, h⟩ := gnE h
    refine RR.gPN (c2 := (KM.1 502).1 = 1) (pc' := 26) (lc' := [(0, .ref 500), (1, .int v1), (2, .int v2)]) (st' := [.int ((rI S 502 (1 : Int32).toNatClampNeg)), .int v2]) (S1 := S) (nL := 3) (cd := cd_2483) mx_2483 rfl rfl rfl rfl g ?_
    refine RR.runs (pc' := icm .ge v2 ((rI S 502 (1 : Int32).toNatClampNeg)) 115 29) (lc' := [(0, .ref 500), (1, .int v1), (2, .int v2)]) (st' := []) (S1 := S) (nL := 3) (cd := cd_2483) mx_2483 rfl rfl 1 rfl ?_
    rcases ifE h with ⟨c, h⟩ | ⟨c, h⟩
    · refine RR.c_ge (fun _ => ?_) (fun q => absurd c q)
      refine RR.runs (pc' := 32) (lc' := [(0, .ref 500), (1, .int v1), (2, .int v2)]) (st' := [.int v2, .int v1, .ref 500]) (S1 := S) (nL := 3) (cd := cd_2483) mx_2483 rfl rfl 3 rfl ?_
      obtain ⟨r1, S2, h1, h⟩ := bnE h
      refine RR.callV (b := 500) (as := [.int v1, .int v2]) (rest := []) (r1 := (some (.int r1))) (S1 := S2) mx_2483 rfl rfl mx_2447 rfl rfl (by decide) (Or.inl rfl) (Nat.le_of_ble_eq_true rfl) (Nat.le_of_ble_eq_true rfl) (RC.deep (by omega) (s_m_isSaid (d := d) _ _ _ h1)) ?_
      show RR KM _ 2483 35 [(0, .ref 500), (1, .int v1), (2, .int v2)] [.int r1] S2 _ _
      refine RR.runs (pc' := icm .ne r1 0 41 38) (lc' := [(0, .ref 500), (1, .int v1), (2, .int v2)]) (st' := []) (S1 := S2) (nL := 3) (cd := cd_2483) mx_2483 rfl rfl 1 rfl ?_
      rcases ifE h with ⟨c, h⟩ | ⟨c, h⟩
      · refine RR.c_ne (fun _ => ?_) (fun q => absurd c q)
        refine RR.runs (pc' := 109) (lc' := [(0, .ref 500), (1, .int v1), (2, .int v2)]) (st' := []) (S1 := S2) (nL := 3) (cd := cd_2483) mx_2483 rfl rfl 1 rfl ?_
        refine RR.weak [(0, .ref 500), (1, .int v1), (2, .int v2)] ⟨rfl, rfl, rfl, trivial⟩ ?_
        exact s_m_laysCalls_109 _ (fun _ _ S h => ih _ _ S h) _ _ _ h
      · refine RR.c_ne (fun q => absurd q c) (fun _ => ?_)
        refine RR.runs (pc' := 48) (lc' := [(0, .ref 500), (1, .int v1), (2, .int v2)]) (st' := [.int v1, .ref 512, .int v2, .ref 500]) (S1 := S2) (nL := 3) (cd := cd_2483) mx_2483 rfl rfl 5 rfl ?_
        obtain ⟨g, h⟩ := gnE h
        refine RR.gPN (c2 := (KM.1 512).1 = 1) (pc' := 49) (lc' := [(0, .ref 500), (1, .int v1), (2, .int v2)]) (st' := [.int (rI S2 512 v1.toNatClampNeg), .int v2, .ref 500]) (S1 := S2) (nL := 3) (cd := cd_2483) mx_2483 rfl rfl rfl rfl g ?_
        refine RR.runs (pc' := 54) (lc' := [(0, .ref 500), (1, .int v1), (2, .int v2)]) (st' := [.int v1, .ref 513, .int (rI S2 512 v1.toNatClampNeg), .int v2, .ref 500]) (S1 := S2) (nL := 3) (cd := cd_2483) mx_2483 rfl rfl 3 rfl ?_
        obtain ⟨g, h⟩ := gnE h
        refine RR.gPN (c2 := (KM.1 513).1 = 1) (pc' := 55) (lc' := [(0, .ref 500), (1, .int v1), (2, .int v2)]) (st' := [.int (rI S2 513 v1.toNatClampNeg), .int (rI S2 512 v1.toNatClampNeg), .int v2, .ref 500]) (S1 := S2) (nL := 3) (cd := cd_2483) mx_2483 rfl rfl rfl rfl g ?_
        obtain ⟨r3, S4, h1, h⟩ := bnE h
        refine RR.callV (b := 500) (as := [.int v2, .int (rI S2 512 v1.toNatClampNeg), .int (rI S2 513 v1.toNatClampNeg)]) (rest := []) (r1 := none) (S1 := S4) mx_2483 rfl rfl mx_2464 rfl rfl (by decide) (Or.inl rfl) (Nat.le_of_ble_eq_true rfl) (Nat.le_of_ble_eq_true rfl) (RC.deep (by omega) (s_m_hears (d := d) _ _ _ _ h1)) ?_
        show RR KM _ 2483 58 [(0, .ref 500), (1, .int v1), (2, .int v2)] [] S4 _ _
        refine RR.runs (pc' := 70) (lc' := [(0, .ref 500), (1, .int v1), (2, .int v2)]) (st' := [.int (rI S4 500 70), .int (rI S4 500 77), .ref 558]) (S1 := S4) (nL := 3) (cd := cd_2483) mx_2483 rfl rfl 6 rfl ?_
        obtain ⟨g, h⟩ := gnE h
        refine RR.gPN (c2 := (KM.1 558).1 = 1) (pc' := 71) (lc' := [(0, .ref 500), (1, .int v1), (2, .int v2)]) (st' := []) (S1 := (wI S4 558 (rI S4 500 77).toNatClampNeg (rI S4 500 70))) (nL := 3) (cd := cd_2483) mx_2483 rfl rfl rfl rfl g ?_
        obtain ⟨S5, eS5, h⟩ := ltE h
        rw [← eS5]
        refine RR.runs (pc' := 83) (lc' := [(0, .ref 500), (1, .int v1), (2, .int v2)]) (st' := [.int (rI S5 500 71), .int (rI S5 500 77), .ref 559]) (S1 := S5) (nL := 3) (cd := cd_2483) mx_2483 rfl rfl 6 rfl ?_
        obtain ⟨g, h⟩ := gnE h
        refine RR.gPN (c2 := (KM.1 559).1 = 1) (pc' := 84) (lc' := [(0, .ref 500), (1, .int v1), (2, .int v2)]) (st' := []) (S1 := (wI S5 559 (rI S5 500 77).toNatClampNeg (rI S5 500 71))) (nL := 3) (cd := cd_2483) mx_2483 rfl rfl rfl rfl g ?_
        obtain ⟨S6, eS6, h⟩ := ltE h
        rw [← eS6]
        refine RR.runs (pc' := 98) (lc' := [(0, .ref 500), (1, .int v1), (2, .int v2)]) (st' := [.int ((((16 : Int32) * v1) + v2)), .int (rI S6 500 77), .ref 560]) (S1 := S6) (nL := 3) (cd := cd_2483) mx_2483 rfl rfl 9 rfl ?_
        obtain ⟨g, h⟩ := gnE h
        refine RR.gPN (c2 := (KM.1 560).1 = 1) (pc' := 99) (lc' := [(0, .ref 500), (1, .int v1), (2, .int v2)]) (st' := []) (S1 := (wI S6 560 (rI S6 500 77).toNatClampNeg ((((16 : Int32) * v1) + v2)))) (nL := 3) (cd := cd_2483) mx_2483 rfl rfl rfl rfl g ?_
        obtain ⟨S7, eS7, h⟩ := ltE h
        rw [← eS7]
        refine RR.runs (pc' := 109) (lc' := [(0, .ref 500), (1, .int v1), (2, .int v2)]) (st' := []) (S1 := (wI S7 500 77 (((rI S7 500 77) + (1 : Int32))))) (nL := 3) (cd := cd_2483) mx_2483 rfl rfl 6 rfl ?_
        obtain ⟨S8, eS8, h⟩ := ltE h
        rw [← eS8]
        refine RR.weak [(0, .ref 500), (1, .int v1), (2, .int v2)] ⟨rfl, rfl, rfl, trivial⟩ ?_
        exact s_m_laysCalls_109 _ (fun _ _ S h => ih _ _ S h) _ _ _ h
    · refine RR.c_ge (fun q => absurd q c) (fun _ => ?_)
      refine RR.weak [(0, .ref 500), (1, .int v1)] ⟨rfl, rfl, trivial⟩ ?_
      exact s_m_laysCalls_115 _ b7 _ _ h
def m_laysCalls_121 (S : St) : Re Unit :=
  some ((), S)
set_option maxRecDepth 100000 in
theorem s_m_laysCalls_121 {d : Nat} {S' : St} {r : Unit} (S : St) (h : m_laysCalls_121 S = some (r, S')) : RR KM (d + 2) 2483 121 [] [] S none S' := by
  unfold m_laysCalls_121 at h
  cases h
  exact RR.retv mx_2483 rfl rfl rfl
def m_laysCalls_7 : Nat → Int32 → St → Re Unit
  | 0, _, _ => none
  | n + 1, v1, S =>
  if (2 : Int32) < 0 ∨ 12 ≤ (2 : Int32).toNatClampNeg then none else
  if v1 < (rI S 502 (2 : Int32).toNatClampNeg) then (
    m_laysCalls_19 (m_laysCalls_7 n) FU v1 (0 : Int32) S)
  else (
    m_laysCalls_121 S)
set_option maxRecDepth 100000 in
theorem s_m_laysCalls_7 {d : Nat} {S' : St} {r : Unit} : ∀ (n : Nat) (v1 : Int32) (S : St), m_laysCalls_7 n v1 S = some (r, S') → RR KM (d + 2) 2483 7 [(0, .ref 500), (1, .int v1)] [] S none S' := by
  intro n
  induction n with
  | zero => intro v1 S h; simp only [m_laysCalls_7] at h; cases h
  | succ n ih =>
    intro v1 S h
    simp only [m_laysCalls_7] at h
    refine RR.runs (pc' := 13) (lc' := [(0, .ref 500), (1, .int v1)]) (st' := [.int (2 : Int32), .ref 502, .int v1]) (S1 := S) (nL := 3) (cd := cd_2483) mx_2483 rfl rfl 4 rfl ?_
    obtain ⟨g, h⟩ := gnE h
    refine RR.gPN (c2 := (KM.1 502).1 = 1) (pc' := 14) (lc' := [(0, .ref 500), (1, .int v1)]) (st' := [.int ((rI S 502 (2 : Int32).toNatClampNeg)), .int v1]) (S1 := S) (nL := 3) (cd := cd_2483) mx_2483 rfl rfl rfl rfl g ?_
    refine RR.runs (pc' := icm .ge v1 ((rI S 502 (2 : Int32).toNatClampNeg)) 121 17) (lc' := [(0, .ref 500), (1, .int v1)]) (st' := []) (S1 := S) (nL := 3) (cd := cd_2483) mx_2483 rfl rfl 1 rfl ?_
    rcases ifE h with ⟨c, h⟩ | ⟨c, h⟩
    · refine RR.c_ge (fun _ => ?_) (fun q => absurd c q)
      refine RR.runs (pc' := 19) (lc' := [(2, .int (0 : Int32)), (0, .ref 500), (1, .int v1)]) (st' := []) (S1 := S) (nL := 3) (cd := cd_2483) mx_2483 rfl rfl 2 rfl ?_
      refine RR.weak [(0, .ref 500), (1, .int v1), (2, .int (0 : Int32))] ⟨rfl, rfl, rfl, trivial⟩ ?_
      exact s_m_laysCalls_19 _ (fun _ S h => ih _ S h) _ _ _ _ h
    · refine RR.c_ge (fun q => absurd q c) (fun _ => ?_)
      refine RR.weak [] trivial ?_
      exact s_m_laysCalls_121 _ h
def m_laysCalls (S : St) : Re Unit :=
  lt' (wI S 500 77 (0 : Int32)) fun S1 =>
  m_laysCalls_7 FU (0 : Int32) S1
set_option maxRecDepth 100000 in
theorem s0_m_laysCalls {d : Nat} {S' : St} {r : Unit} (S : St) (h : m_laysCalls S = some (r, S')) : RR KM (d + 2) 2483 0 [(0, .ref 500)] [] S none S' := by
  unfold m_laysCalls at h
  refine RR.runs (pc' := 5) (lc' := [(0, .ref 500)]) (st' := []) (S1 := (wI S 500 77 (0 : Int32))) (nL := 3) (cd := cd_2483) mx_2483 rfl rfl 3 rfl ?_
  obtain ⟨S1, eS1, h⟩ := ltE h
  rw [← eS1]
  refine RR.runs (pc' := 7) (lc' := [(1, .int (0 : Int32)), (0, .ref 500)]) (st' := []) (S1 := S1) (nL := 3) (cd := cd_2483) mx_2483 rfl rfl 2 rfl ?_
  refine RR.weak [(0, .ref 500), (1, .int (0 : Int32))] ⟨rfl, rfl, trivial⟩ ?_
  exact s_m_laysCalls_7 _ _ _ h
theorem s_m_laysCalls {d : Nat} {S' : St} {r : Unit} (S : St) (h : m_laysCalls S = some (r, S')) : RC KM (d + 2) 2483 [.ref 500] S none S' := RC.of rfl (s0_m_laysCalls S h)
-- cropWorth (II)I
def m_cropWorth_43 (k5 : Int32 → Int32 → Int32 → Int32 → St → Re Int32) (v1 : Int32) (v2 : Int32) (v4 : Int32) (p0 : Int32) (p1 : Int32) (S : St) : Re Int32 :=
  lt' ((p1 + p0) : Int32) fun x1 =>
  lt' ((v4 + (1 : Int32)) : Int32) fun x2 =>
  k5 v1 v2 x1 x2 S
set_option maxRecDepth 100000 in
theorem s_m_cropWorth_43 {d : Nat} (k5 : Int32 → Int32 → Int32 → Int32 → St → Re Int32) {S' : St} {r : Int32} (b5 : ∀ (v1 : Int32) (v2 : Int32) (v3 : Int32) (v4 : Int32) (S : St), k5 v1 v2 v3 v4 S = some (r, S') → RR KM (d + 0) 2484 5 [(0, .ref 500), (1, .int v1), (2, .int v2), (3, .int v3), (4, .int v4)] [] S (some (.int r)) S') (v1 : Int32) (v2 : Int32) (v4 : Int32) (p0 : Int32) (p1 : Int32) (S : St) (h : m_cropWorth_43 k5 v1 v2 v4 p0 p1 S = some (r, S')) : RR KM (d + 0) 2484 43 [(0, .ref 500), (1, .int v1), (2, .int v2), (4, .int v4)] [.int p0, .int p1] S (some (.int r)) S' := by
  unfold m_cropWorth_43 at h
  refine RR.runs (pc' := 45) (lc' := [(3, .int (p1 + p0)), (0, .ref 500), (1, .int v1), (2, .int v2), (4, .int v4)]) (st' := []) (S1 := S) (nL := 5) (cd := cd_2484) mx_2484 rfl rfl 2 rfl ?_
  obtain ⟨x1, ex1, h⟩ := ltE h
  rw [← ex1]
  refine RR.runs (pc' := 48) (lc' := [(4, .int ((v4 + (1 : Int32)))), (3, .int x1), (0, .ref 500), (1, .int v1), (2, .int v2)]) (st' := []) (S1 := S) (nL := 5) (cd := cd_2484) mx_2484 rfl rfl 1 rfl ?_
  obtain ⟨x2, ex2, h⟩ := ltE h
  rw [← ex2]
  refine RR.runs (pc' := 5) (lc' := [(4, .int x2), (3, .int x1), (0, .ref 500), (1, .int v1), (2, .int v2)]) (st' := []) (S1 := S) (nL := 5) (cd := cd_2484) mx_2484 rfl rfl 1 rfl ?_
  refine RR.weak [(0, .ref 500), (1, .int v1), (2, .int v2), (3, .int x1), (4, .int x2)] ⟨rfl, rfl, rfl, rfl, rfl, trivial⟩ ?_
  exact b5 _ _ _ _ _ h
def m_cropWorth_51 (v3 : Int32) (S : St) : Re Int32 :=
  some (v3, S)
set_option maxRecDepth 100000 in
theorem s_m_cropWorth_51 {d : Nat} {S' : St} {r : Int32} (v3 : Int32) (S : St) (h : m_cropWorth_51 v3 S = some (r, S')) : RR KM (d + 0) 2484 51 [(3, .int v3)] [] S (some (.int r)) S' := by
  unfold m_cropWorth_51 at h
  refine RR.runs (pc' := 52) (lc' := [(3, .int v3)]) (st' := [.int v3]) (S1 := S) (nL := 5) (cd := cd_2484) mx_2484 rfl rfl 1 rfl ?_
  cases h
  exact RR.reti mx_2484 rfl rfl rfl
def m_cropWorth_5 : Nat → Int32 → Int32 → Int32 → Int32 → St → Re Int32
  | 0, _, _, _, _, _ => none
  | n + 1, v1, v2, v3, v4, S =>
  if (0 : Int32) < 0 ∨ 12 ≤ (0 : Int32).toNatClampNeg then none else
  if v4 < (rI S 502 (0 : Int32).toNatClampNeg) then (
    if ((v1 >>> (v4 &&& 31)) &&& (1 : Int32)) = (1 : Int32) then (
      if (((10 : Int32) * v2) + v4) < 0 ∨ 30 ≤ ((((10 : Int32) * v2) + v4)).toNatClampNeg then none else
      m_cropWorth_43 (m_cropWorth_5 n) v1 v2 v4 ((rI S 561 ((((10 : Int32) * v2) + v4)).toNatClampNeg)) v3 S)
    else (
      m_cropWorth_43 (m_cropWorth_5 n) v1 v2 v4 (0 : Int32) v3 S))
  else (
    m_cropWorth_51 v3 S)
set_option maxRecDepth 100000 in
theorem s_m_cropWorth_5 {d : Nat} {S' : St} {r : Int32} : ∀ (n : Nat) (v1 : Int32) (v2 : Int32) (v3 : Int32) (v4 : Int32) (S : St), m_cropWorth_5 n v1 v2 v3 v4 S = some (r, S') → RR KM (d + 0) 2484 5 [(0, .ref 500), (1, .int v1), (2, .int v2), (3, .int v3), (4, .int v4)] [] S (some (.int r)) S' := by
  intro n
  induction n with
  | zero => intro v1 v2 v3 v4 S h; simp only [m_cropWorth_5] at h; cases h
  | succ n ih =>
    intro v1 v2 v3 v4 S h
    simp only [m_cropWorth_5] at h
    refine RR.runs (pc' := 12) (lc' := [(0, .ref 500), (1, .int v1), (2, .int v2), (3, .int v3), (4, .int v4)]) (st' := [.int (0 : Int32), .ref 502, .int v4]) (S1 := S) (nL := 5) (cd := cd_2484) mx_2484 rfl rfl 4 rfl ?_
    obtain ⟨g, h⟩ := gnE h
    refine RR.gPN (c2 := (KM.1 502).1 = 1) (pc' := 13) (lc' := [(0, .ref 500), (1, .int v1), (2, .int v2), (3, .int v3), (4, .int v4)]) (st' := [.int ((rI S 502 (0 : Int32).toNatClampNeg)), .int v4]) (S1 := S) (nL := 5) (cd := cd_2484) mx_2484 rfl rfl rfl rfl g ?_
    refine RR.runs (pc' := icm .ge v4 ((rI S 502 (0 : Int32).toNatClampNeg)) 51 16) (lc' := [(0, .ref 500), (1, .int v1), (2, .int v2), (3, .int v3), (4, .int v4)]) (st' := []) (S1 := S) (nL := 5) (cd := cd_2484) mx_2484 rfl rfl 1 rfl ?_
    rcases ifE h with ⟨c, h⟩ | ⟨c, h⟩
    · refine RR.c_ge (fun _ => ?_) (fun q => absurd c q)
      refine RR.runs (pc' := icm .ne (((v1 >>> (v4 &&& 31)) &&& (1 : Int32))) (1 : Int32) 42 27) (lc' := [(0, .ref 500), (1, .int v1), (2, .int v2), (3, .int v3), (4, .int v4)]) (st' := [.int v3]) (S1 := S) (nL := 5) (cd := cd_2484) mx_2484 rfl rfl 8 rfl ?_
      rcases ifE h with ⟨c, h⟩ | ⟨c, h⟩
      · refine RR.c_ne (fun _ => ?_) (fun q => absurd c q)
        refine RR.runs (pc' := 38) (lc' := [(0, .ref 500), (1, .int v1), (2, .int v2), (3, .int v3), (4, .int v4)]) (st' := [.int ((((10 : Int32) * v2) + v4)), .ref 561, .int v3]) (S1 := S) (nL := 5) (cd := cd_2484) mx_2484 rfl rfl 7 rfl ?_
        obtain ⟨g, h⟩ := gnE h
        refine RR.gPN (c2 := (KM.1 561).1 = 1) (pc' := 39) (lc' := [(0, .ref 500), (1, .int v1), (2, .int v2), (3, .int v3), (4, .int v4)]) (st' := [.int ((rI S 561 ((((10 : Int32) * v2) + v4)).toNatClampNeg)), .int v3]) (S1 := S) (nL := 5) (cd := cd_2484) mx_2484 rfl rfl rfl rfl g ?_
        refine RR.runs (pc' := 43) (lc' := [(0, .ref 500), (1, .int v1), (2, .int v2), (3, .int v3), (4, .int v4)]) (st' := [.int ((rI S 561 ((((10 : Int32) * v2) + v4)).toNatClampNeg)), .int v3]) (S1 := S) (nL := 5) (cd := cd_2484) mx_2484 rfl rfl 1 rfl ?_
        refine RR.weak [(0, .ref 500), (1, .int v1), (2, .int v2), (4, .int v4)] ⟨rfl, rfl, rfl, rfl, trivial⟩ ?_
        exact s_m_cropWorth_43 _ (fun _ _ _ _ S h => ih _ _ _ _ S h) _ _ _ _ _ _ h
      · refine RR.c_ne (fun q => absurd q c) (fun _ => ?_)
        refine RR.runs (pc' := 43) (lc' := [(0, .ref 500), (1, .int v1), (2, .int v2), (3, .int v3), (4, .int v4)]) (st' := [.int (0 : Int32), .int v3]) (S1 := S) (nL := 5) (cd := cd_2484) mx_2484 rfl rfl 1 rfl ?_
        refine RR.weak [(0, .ref 500), (1, .int v1), (2, .int v2), (4, .int v4)] ⟨rfl, rfl, rfl, rfl, trivial⟩ ?_
        exact s_m_cropWorth_43 _ (fun _ _ _ _ S h => ih _ _ _ _ S h) _ _ _ _ _ _ h
    · refine RR.c_ge (fun q => absurd q c) (fun _ => ?_)
      refine RR.weak [(3, .int v3)] ⟨rfl, trivial⟩ ?_
      exact s_m_cropWorth_51 _ _ h
def m_cropWorth (v1 : Int32) (v2 : Int32) (S : St) : Re Int32 :=
  m_cropWorth_5 FU v1 v2 (0 : Int32) (0 : Int32) S
set_option maxRecDepth 100000 in
theorem s0_m_cropWorth {d : Nat} {S' : St} {r : Int32} (v1 : Int32) (v2 : Int32) (S : St) (h : m_cropWorth v1 v2 S = some (r, S')) : RR KM (d + 0) 2484 0 [(0, .ref 500), (1, .int v1), (2, .int v2)] [] S (some (.int r)) S' := by
  unfold m_cropWorth at h
  refine RR.runs (pc' := 5) (lc' := [(4, .int (0 : Int32)), (3, .int (0 : Int32)), (0, .ref 500), (1, .int v1), (2, .int v2)]) (st' := []) (S1 := S) (nL := 5) (cd := cd_2484) mx_2484 rfl rfl 4 rfl ?_
  refine RR.weak [(0, .ref 500), (1, .int v1), (2, .int v2), (3, .int (0 : Int32)), (4, .int (0 : Int32))] ⟨rfl, rfl, rfl, rfl, rfl, trivial⟩ ?_
  exact s_m_cropWorth_5 _ _ _ _ _ _ h
theorem s_m_cropWorth {d : Nat} {S' : St} {r : Int32} (v1 : Int32) (v2 : Int32) (S : St) (h : m_cropWorth v1 v2 S = some (r, S')) : RC KM (d + 0) 2484 [.ref 500, .int v1, .int v2] S (some (.int r)) S' := RC.of rfl (s0_m_cropWorth v1 v2 S h)
-- meets (I)Z
def m_meets (v1 : Int32) (S : St) : Re Int32 :=
  if (v1 / (32 : Int32)) < 0 ∨ 32768 ≤ ((v1 / (32 : Int32))).toNatClampNeg then none else
  if (((rI S 563 ((v1 / (32 : Int32))).toNatClampNeg) >>> ((v1 - v1 / (32 : Int32) * (32 : Int32)) &&& 31)) &&& (1 : Int32)) = (1 : Int32) then (
    some ((0 : Int32), S))
  else (
    if (v1 / (32 : Int32)) < 0 ∨ 32768 ≤ ((v1 / (32 : Int32))).toNatClampNeg then none else
    if (v1 / (32 : Int32)) < 0 ∨ 32768 ≤ ((v1 / (32 : Int32))).toNatClampNeg then none else
    lt' (wI S 563 ((v1 / (32 : Int32))).toNatClampNeg (((rI S 563 ((v1 / (32 : Int32))).toNatClampNeg) ||| ((1 : Int32) <<< ((v1 - v1 / (32 : Int32) * (32 : Int32)) &&& 31))))) fun S1 =>
    some ((1 : Int32), S1))
set_option maxRecDepth 100000 in
theorem s0_m_meets {d : Nat} {S' : St} {r : Int32} (v1 : Int32) (S : St) (h : m_meets v1 S = some (r, S')) : RR KM (d + 0) 2487 0 [(0, .ref 500), (1, .int v1)] [] S (some (.int r)) S' := by
  unfold m_meets at h
  refine RR.runs (pc' := 8) (lc' := [(0, .ref 500), (1, .int v1)]) (st' := [.int ((v1 / (32 : Int32))), .ref 563]) (S1 := S) (nL := 2) (cd := cd_2487) mx_2487 rfl rfl 5 rfl ?_
  obtain ⟨g, h⟩ := gnE h
  refine RR.gPN (c2 := (KM.1 563).1 = 1) (pc' := 9) (lc' := [(0, .ref 500), (1, .int v1)]) (st' := [.int ((rI S 563 ((v1 / (32 : Int32))).toNatClampNeg))]) (S1 := S) (nL := 2) (cd := cd_2487) mx_2487 rfl rfl rfl rfl g ?_
  refine RR.runs (pc' := icm .ne ((((rI S 563 ((v1 / (32 : Int32))).toNatClampNeg) >>> ((v1 - v1 / (32 : Int32) * (32 : Int32)) &&& 31)) &&& (1 : Int32))) (1 : Int32) 22 20) (lc' := [(0, .ref 500), (1, .int v1)]) (st' := []) (S1 := S) (nL := 2) (cd := cd_2487) mx_2487 rfl rfl 8 rfl ?_
  rcases ifE h with ⟨c, h⟩ | ⟨c, h⟩
  · refine RR.c_ne (fun _ => ?_) (fun q => absurd c q)
    refine RR.runs (pc' := 21) (lc' := [(0, .ref 500), (1, .int v1)]) (st' := [.int (0 : Int32)]) (S1 := S) (nL := 2) (cd := cd_2487) mx_2487 rfl rfl 1 rfl ?_
    cases h
    exact RR.retz mx_2487 rfl rfl rfl rfl
  · refine RR.c_ne (fun q => absurd q c) (fun _ => ?_)
    refine RR.runs (pc' := 31) (lc' := [(0, .ref 500), (1, .int v1)]) (st' := [.int ((v1 / (32 : Int32))), .ref 563, .int ((v1 / (32 : Int32))), .ref 563]) (S1 := S) (nL := 2) (cd := cd_2487) mx_2487 rfl rfl 6 rfl ?_
    obtain ⟨g, h⟩ := gnE h
    refine RR.gPN (c2 := (KM.1 563).1 = 1) (pc' := 32) (lc' := [(0, .ref 500), (1, .int v1)]) (st' := [.int ((rI S 563 ((v1 / (32 : Int32))).toNatClampNeg)), .int ((v1 / (32 : Int32))), .ref 563]) (S1 := S) (nL := 2) (cd := cd_2487) mx_2487 rfl rfl rfl rfl g ?_
    refine RR.runs (pc' := 39) (lc' := [(0, .ref 500), (1, .int v1)]) (st' := [.int (((rI S 563 ((v1 / (32 : Int32))).toNatClampNeg) ||| ((1 : Int32) <<< ((v1 - v1 / (32 : Int32) * (32 : Int32)) &&& 31)))), .int ((v1 / (32 : Int32))), .ref 563]) (S1 := S) (nL := 2) (cd := cd_2487) mx_2487 rfl rfl 6 rfl ?_
    obtain ⟨g, h⟩ := gnE h
    refine RR.gPN (c2 := (KM.1 563).1 = 1) (pc' := 40) (lc' := [(0, .ref 500), (1, .int v1)]) (st' := []) (S1 := (wI S 563 ((v1 / (32 : Int32))).toNatClampNeg (((rI S 563 ((v1 / (32 : Int32))).toNatClampNeg) ||| ((1 : Int32) <<< ((v1 - v1 / (32 : Int32) * (32 : Int32)) &&& 31)))))) (nL := 2) (cd := cd_2487) mx_2487 rfl rfl rfl rfl g ?_
    obtain ⟨S1, eS1, h⟩ := ltE h
    rw [← eS1]
    refine RR.runs (pc' := 41) (lc' := [(0, .ref 500), (1, .int v1)]) (st' := [.int (1 : Int32)]) (S1 := S1) (nL := 2) (cd := cd_2487) mx_2487 rfl rfl 1 rfl ?_
    cases h
    exact RR.retz mx_2487 rfl rfl rfl rfl
theorem s_m_meets {d : Nat} {S' : St} {r : Int32} (v1 : Int32) (S : St) (h : m_meets v1 S = some (r, S')) : RC KM (d + 0) 2487 [.ref 500, .int v1] S (some (.int r)) S' := RC.of rfl (s0_m_meets v1 S h)
-- deaf ()I
def m_deaf_32 (k4 : Int32 → Int32 → St → Re Int32) (v2 : Int32) (p0 : Int32) (p1 : Int32) (S : St) : Re Int32 :=
  lt' ((p1 ||| p0) : Int32) fun x1 =>
  lt' ((v2 + (1 : Int32)) : Int32) fun x2 =>
  k4 x1 x2 S
set_option maxRecDepth 100000 in
theorem s_m_deaf_32 {d : Nat} (k4 : Int32 → Int32 → St → Re Int32) {S' : St} {r : Int32} (b4 : ∀ (v1 : Int32) (v2 : Int32) (S : St), k4 v1 v2 S = some (r, S') → RR KM (d + 0) 2488 4 [(0, .ref 500), (1, .int v1), (2, .int v2)] [] S (some (.int r)) S') (v2 : Int32) (p0 : Int32) (p1 : Int32) (S : St) (h : m_deaf_32 k4 v2 p0 p1 S = some (r, S')) : RR KM (d + 0) 2488 32 [(0, .ref 500), (2, .int v2)] [.int p0, .int p1] S (some (.int r)) S' := by
  unfold m_deaf_32 at h
  refine RR.runs (pc' := 34) (lc' := [(1, .int (p1 ||| p0)), (0, .ref 500), (2, .int v2)]) (st' := []) (S1 := S) (nL := 3) (cd := cd_2488) mx_2488 rfl rfl 2 rfl ?_
  obtain ⟨x1, ex1, h⟩ := ltE h
  rw [← ex1]
  refine RR.runs (pc' := 37) (lc' := [(2, .int ((v2 + (1 : Int32)))), (1, .int x1), (0, .ref 500)]) (st' := []) (S1 := S) (nL := 3) (cd := cd_2488) mx_2488 rfl rfl 1 rfl ?_
  obtain ⟨x2, ex2, h⟩ := ltE h
  rw [← ex2]
  refine RR.runs (pc' := 4) (lc' := [(2, .int x2), (1, .int x1), (0, .ref 500)]) (st' := []) (S1 := S) (nL := 3) (cd := cd_2488) mx_2488 rfl rfl 1 rfl ?_
  refine RR.weak [(0, .ref 500), (1, .int x1), (2, .int x2)] ⟨rfl, rfl, rfl, trivial⟩ ?_
  exact b4 _ _ _ h
def m_deaf_40 (v1 : Int32) (S : St) : Re Int32 :=
  some (v1, S)
set_option maxRecDepth 100000 in
theorem s_m_deaf_40 {d : Nat} {S' : St} {r : Int32} (v1 : Int32) (S : St) (h : m_deaf_40 v1 S = some (r, S')) : RR KM (d + 0) 2488 40 [(1, .int v1)] [] S (some (.int r)) S' := by
  unfold m_deaf_40 at h
  refine RR.runs (pc' := 41) (lc' := [(1, .int v1)]) (st' := [.int v1]) (S1 := S) (nL := 3) (cd := cd_2488) mx_2488 rfl rfl 1 rfl ?_
  cases h
  exact RR.reti mx_2488 rfl rfl rfl
def m_deaf_4 : Nat → Int32 → Int32 → St → Re Int32
  | 0, _, _, _ => none
  | n + 1, v1, v2, S =>
  if (0 : Int32) < 0 ∨ 12 ≤ (0 : Int32).toNatClampNeg then none else
  if v2 < (rI S 502 (0 : Int32).toNatClampNeg) then (
    if v2 < 0 ∨ 20 ≤ v2.toNatClampNeg then none else
    if (rI S 506 v2.toNatClampNeg) = (3 : Int32) then (
      m_deaf_32 (m_deaf_4 n) v2 (((1 : Int32) <<< (v2 &&& 31))) v1 S)
    else (
      m_deaf_32 (m_deaf_4 n) v2 (0 : Int32) v1 S))
  else (
    m_deaf_40 v1 S)
set_option maxRecDepth 100000 in
theorem s_m_deaf_4 {d : Nat} {S' : St} {r : Int32} : ∀ (n : Nat) (v1 : Int32) (v2 : Int32) (S : St), m_deaf_4 n v1 v2 S = some (r, S') → RR KM (d + 0) 2488 4 [(0, .ref 500), (1, .int v1), (2, .int v2)] [] S (some (.int r)) S' := by
  intro n
  induction n with
  | zero => intro v1 v2 S h; simp only [m_deaf_4] at h; cases h
  | succ n ih =>
    intro v1 v2 S h
    simp only [m_deaf_4] at h
    refine RR.runs (pc' := 10) (lc' := [(0, .ref 500), (1, .int v1), (2, .int v2)]) (st' := [.int (0 : Int32), .ref 502, .int v2]) (S1 := S) (nL := 3) (cd := cd_2488) mx_2488 rfl rfl 4 rfl ?_
    obtain ⟨g, h⟩ := gnE h
    refine RR.gPN (c2 := (KM.1 502).1 = 1) (pc' := 11) (lc' := [(0, .ref 500), (1, .int v1), (2, .int v2)]) (st' := [.int ((rI S 502 (0 : Int32).toNatClampNeg)), .int v2]) (S1 := S) (nL := 3) (cd := cd_2488) mx_2488 rfl rfl rfl rfl g ?_
    refine RR.runs (pc' := icm .ge v2 ((rI S 502 (0 : Int32).toNatClampNeg)) 40 14) (lc' := [(0, .ref 500), (1, .int v1), (2, .int v2)]) (st' := []) (S1 := S) (nL := 3) (cd := cd_2488) mx_2488 rfl rfl 1 rfl ?_
    rcases ifE h with ⟨c, h⟩ | ⟨c, h⟩
    · refine RR.c_ge (fun _ => ?_) (fun q => absurd c q)
      refine RR.runs (pc' := 20) (lc' := [(0, .ref 500), (1, .int v1), (2, .int v2)]) (st' := [.int v2, .ref 506, .int v1]) (S1 := S) (nL := 3) (cd := cd_2488) mx_2488 rfl rfl 4 rfl ?_
      obtain ⟨g, h⟩ := gnE h
      refine RR.gPN (c2 := (KM.1 506).1 = 1) (pc' := 21) (lc' := [(0, .ref 500), (1, .int v1), (2, .int v2)]) (st' := [.int (rI S 506 v2.toNatClampNeg), .int v1]) (S1 := S) (nL := 3) (cd := cd_2488) mx_2488 rfl rfl rfl rfl g ?_
      refine RR.runs (pc' := icm .ne (rI S 506 v2.toNatClampNeg) (3 : Int32) 31 25) (lc' := [(0, .ref 500), (1, .int v1), (2, .int v2)]) (st' := [.int v1]) (S1 := S) (nL := 3) (cd := cd_2488) mx_2488 rfl rfl 2 rfl ?_
      rcases ifE h with ⟨c, h⟩ | ⟨c, h⟩
      · refine RR.c_ne (fun _ => ?_) (fun q => absurd c q)
        refine RR.runs (pc' := 32) (lc' := [(0, .ref 500), (1, .int v1), (2, .int v2)]) (st' := [.int (((1 : Int32) <<< (v2 &&& 31))), .int v1]) (S1 := S) (nL := 3) (cd := cd_2488) mx_2488 rfl rfl 4 rfl ?_
        refine RR.weak [(0, .ref 500), (2, .int v2)] ⟨rfl, rfl, trivial⟩ ?_
        exact s_m_deaf_32 _ (fun _ _ S h => ih _ _ S h) _ _ _ _ h
      · refine RR.c_ne (fun q => absurd q c) (fun _ => ?_)
        refine RR.runs (pc' := 32) (lc' := [(0, .ref 500), (1, .int v1), (2, .int v2)]) (st' := [.int (0 : Int32), .int v1]) (S1 := S) (nL := 3) (cd := cd_2488) mx_2488 rfl rfl 1 rfl ?_
        refine RR.weak [(0, .ref 500), (2, .int v2)] ⟨rfl, rfl, trivial⟩ ?_
        exact s_m_deaf_32 _ (fun _ _ S h => ih _ _ S h) _ _ _ _ h
    · refine RR.c_ge (fun q => absurd q c) (fun _ => ?_)
      refine RR.weak [(1, .int v1)] ⟨rfl, trivial⟩ ?_
      exact s_m_deaf_40 _ _ h
def m_deaf (S : St) : Re Int32 :=
  m_deaf_4 FU (0 : Int32) (0 : Int32) S
set_option maxRecDepth 100000 in
theorem s0_m_deaf {d : Nat} {S' : St} {r : Int32} (S : St) (h : m_deaf S = some (r, S')) : RR KM (d + 0) 2488 0 [(0, .ref 500)] [] S (some (.int r)) S' := by
  unfold m_deaf at h
  refine RR.runs (pc' := 4) (lc' := [(2, .int (0 : Int32)), (1, .int (0 : Int32)), (0, .ref 500)]) (st' := []) (S1 := S) (nL := 3) (cd := cd_2488) mx_2488 rfl rfl 4 rfl ?_
  refine RR.weak [(0, .ref 500), (1, .int (0 : Int32)), (2, .int (0 : Int32))] ⟨rfl, rfl, rfl, trivial⟩ ?_
  exact s_m_deaf_4 _ _ _ _ h
theorem s_m_deaf {d : Nat} {S' : St} {r : Int32} (S : St) (h : m_deaf S = some (r, S')) : RC KM (d + 0) 2488 [.ref 500] S (some (.int r)) S' := RC.of rfl (s0_m_deaf S h)
-- fetch ()I
def m_fetch_207 (v3 : Int32) (S : St) : Re Int32 :=
  some (v3, S)
set_option maxRecDepth 100000 in
theorem s_m_fetch_207 {d : Nat} {S' : St} {r : Int32} (v3 : Int32) (S : St) (h : m_fetch_207 v3 S = some (r, S')) : RR KM (d + 3) 2489 207 [(3, .int v3)] [] S (some (.int r)) S' := by
  unfold m_fetch_207 at h
  refine RR.runs (pc' := 208) (lc' := [(3, .int v3)]) (st' := [.int v3]) (S1 := S) (nL := 11) (cd := cd_2489) mx_2489 rfl rfl 1 rfl ?_
  cases h
  exact RR.reti mx_2489 rfl rfl rfl
def m_fetch_232 (k140 : Int32 → Int32 → Int32 → Int32 → Int32 → Int32 → Int32 → St → Re Int32) (v2 : Int32) (v3 : Int32) (v4 : Int32) (v5 : Int32) (v6 : Int32) (v7 : Int32) (v8 : Int32) (S : St) : Re Int32 :=
  lt' ((v8 + (1 : Int32)) : Int32) fun x1 =>
  k140 v2 v3 v4 v5 v6 v7 x1 S
set_option maxRecDepth 100000 in
theorem s_m_fetch_232 {d : Nat} (k140 : Int32 → Int32 → Int32 → Int32 → Int32 → Int32 → Int32 → St → Re Int32) {S' : St} {r : Int32} (b140 : ∀ (v2 : Int32) (v3 : Int32) (v4 : Int32) (v5 : Int32) (v6 : Int32) (v7 : Int32) (v8 : Int32) (S : St), k140 v2 v3 v4 v5 v6 v7 v8 S = some (r, S') → RR KM (d + 3) 2489 140 [(0, .ref 500), (2, .int v2), (3, .int v3), (4, .int v4), (5, .int v5), (6, .int v6), (7, .int v7), (8, .int v8)] [] S (some (.int r)) S') (v2 : Int32) (v3 : Int32) (v4 : Int32) (v5 : Int32) (v6 : Int32) (v7 : Int32) (v8 : Int32) (S : St) (h : m_fetch_232 k140 v2 v3 v4 v5 v6 v7 v8 S = some (r, S')) : RR KM (d + 3) 2489 232 [(0, .ref 500), (2, .int v2), (3, .int v3), (4, .int v4), (5, .int v5), (6, .int v6), (7, .int v7), (8, .int v8)] [] S (some (.int r)) S' := by
  unfold m_fetch_232 at h
  refine RR.runs (pc' := 235) (lc' := [(8, .int ((v8 + (1 : Int32)))), (0, .ref 500), (2, .int v2), (3, .int v3), (4, .int v4), (5, .int v5), (6, .int v6), (7, .int v7)]) (st' := []) (S1 := S) (nL := 11) (cd := cd_2489) mx_2489 rfl rfl 1 rfl ?_
  obtain ⟨x1, ex1, h⟩ := ltE h
  rw [← ex1]
  refine RR.runs (pc' := 140) (lc' := [(8, .int x1), (0, .ref 500), (2, .int v2), (3, .int v3), (4, .int v4), (5, .int v5), (6, .int v6), (7, .int v7)]) (st' := []) (S1 := S) (nL := 11) (cd := cd_2489) mx_2489 rfl rfl 1 rfl ?_
  refine RR.weak [(0, .ref 500), (2, .int v2), (3, .int v3), (4, .int v4), (5, .int v5), (6, .int v6), (7, .int v7), (8, .int x1)] ⟨rfl, rfl, rfl, rfl, rfl, rfl, rfl, rfl, trivial⟩ ?_
  exact b140 _ _ _ _ _ _ _ _ h
def m_fetch_238 (k105 : Int32 → Int32 → Int32 → Int32 → St → Re Int32) (v2 : Int32) (v3 : Int32) (v4 : Int32) (v5 : Int32) (S : St) : Re Int32 :=
  lt' ((v5 + (1 : Int32)) : Int32) fun x1 =>
  k105 v2 v3 v4 x1 S
set_option maxRecDepth 100000 in
theorem s_m_fetch_238 {d : Nat} (k105 : Int32 → Int32 → Int32 → Int32 → St → Re Int32) {S' : St} {r : Int32} (b105 : ∀ (v2 : Int32) (v3 : Int32) (v4 : Int32) (v5 : Int32) (S : St), k105 v2 v3 v4 v5 S = some (r, S') → RR KM (d + 3) 2489 105 [(0, .ref 500), (2, .int v2), (3, .int v3), (4, .int v4), (5, .int v5)] [] S (some (.int r)) S') (v2 : Int32) (v3 : Int32) (v4 : Int32) (v5 : Int32) (S : St) (h : m_fetch_238 k105 v2 v3 v4 v5 S = some (r, S')) : RR KM (d + 3) 2489 238 [(0, .ref 500), (2, .int v2), (3, .int v3), (4, .int v4), (5, .int v5)] [] S (some (.int r)) S' := by
  unfold m_fetch_238 at h
  refine RR.runs (pc' := 241) (lc' := [(5, .int ((v5 + (1 : Int32)))), (0, .ref 500), (2, .int v2), (3, .int v3), (4, .int v4)]) (st' := []) (S1 := S) (nL := 11) (cd := cd_2489) mx_2489 rfl rfl 1 rfl ?_
  obtain ⟨x1, ex1, h⟩ := ltE h
  rw [← ex1]
  refine RR.runs (pc' := 105) (lc' := [(5, .int x1), (0, .ref 500), (2, .int v2), (3, .int v3), (4, .int v4)]) (st' := []) (S1 := S) (nL := 11) (cd := cd_2489) mx_2489 rfl rfl 1 rfl ?_
  refine RR.weak [(0, .ref 500), (2, .int v2), (3, .int v3), (4, .int v4), (5, .int x1)] ⟨rfl, rfl, rfl, rfl, rfl, trivial⟩ ?_
  exact b105 _ _ _ _ _ h
def m_fetch_140 (k105 : Int32 → Int32 → Int32 → Int32 → St → Re Int32) : Nat → Int32 → Int32 → Int32 → Int32 → Int32 → Int32 → Int32 → St → Re Int32
  | 0, _, _, _, _, _, _, _, _ => none
  | n + 1, v2, v3, v4, v5, v6, v7, v8, S =>
  if v8 < (rI S 500 77) then (
    if v8 < 0 ∨ 80 ≤ v8.toNatClampNeg then none else
    if v8 < 0 ∨ 80 ≤ v8.toNatClampNeg then none else
    bn (m_fallsBy v6 v7 (rI S 558 v8.toNatClampNeg) (rI S 559 v8.toNatClampNeg) S) fun r1 S2 =>
    lt' ((((v6 &&& (r1 ^^^ (-1 : Int32))) <<< ((10 : Int32) &&& 31)) ||| (rI S2 500 72)) : Int32) fun x3 =>
    bn (m_deaf S2) fun r4 S5 =>
    if ((v6 &&& (r1 ^^^ (-1 : Int32))) &&& (r4 ^^^ (-1 : Int32))) = 0 then (
      m_fetch_207 v3 S5)
    else (
      bn (m_meets x3 S5) fun r6 S7 =>
      if r6 = 0 then (
        m_fetch_232 (m_fetch_140 k105 n) v2 v3 v4 v5 v6 v7 v8 S7)
      else (
        if v2 < 0 ∨ 59100 ≤ v2.toNatClampNeg then none else
        lt' (wI S7 562 v2.toNatClampNeg x3) fun S8 =>
        lt' ((v2 + (1 : Int32)) : Int32) fun x9 =>
        m_fetch_232 (m_fetch_140 k105 n) x9 v3 v4 v5 v6 v7 v8 S8)))
  else (
    m_fetch_238 k105 v2 v3 v4 v5 S)
set_option maxRecDepth 100000 in
theorem s_m_fetch_140 {d : Nat} (k105 : Int32 → Int32 → Int32 → Int32 → St → Re Int32) {S' : St} {r : Int32} (b105 : ∀ (v2 : Int32) (v3 : Int32) (v4 : Int32) (v5 : Int32) (S : St), k105 v2 v3 v4 v5 S = some (r, S') → RR KM (d + 3) 2489 105 [(0, .ref 500), (2, .int v2), (3, .int v3), (4, .int v4), (5, .int v5)] [] S (some (.int r)) S') : ∀ (n : Nat) (v2 : Int32) (v3 : Int32) (v4 : Int32) (v5 : Int32) (v6 : Int32) (v7 : Int32) (v8 : Int32) (S : St), m_fetch_140 k105 n v2 v3 v4 v5 v6 v7 v8 S = some (r, S') → RR KM (d + 3) 2489 140 [(0, .ref 500), (2, .int v2), (3, .int v3), (4, .int v4), (5, .int v5), (6, .int v6), (7, .int v7), (8, .int v8)] [] S (some (.int r)) S' := by
  intro n
  induction n with
  | zero => intro v2 v3 v4 v5 v6 v7 v8 S h; simp only [m_fetch_140] at h; cases h
  | succ n ih =>
    intro v2 v3 v4 v5 v6 v7 v8 S h
    simp only [m_fetch_140] at h
    refine RR.runs (pc' := icm .ge v8 (rI S 500 77) 238 149) (lc' := [(0, .ref 500), (2, .int v2), (3, .int v3), (4, .int v4), (5, .int v5), (6, .int v6), (7, .int v7), (8, .int v8)]) (st' := []) (S1 := S) (nL := 11) (cd := cd_2489) mx_2489 rfl rfl 4 rfl ?_
    rcases ifE h with ⟨c, h⟩ | ⟨c, h⟩
    · refine RR.c_ge (fun _ => ?_) (fun q => absurd c q)
      refine RR.runs (pc' := 160) (lc' := [(0, .ref 500), (2, .int v2), (3, .int v3), (4, .int v4), (5, .int v5), (6, .int v6), (7, .int v7), (8, .int v8)]) (st' := [.int v8, .ref 558, .int v7, .int v6, .ref 500]) (S1 := S) (nL := 11) (cd := cd_2489) mx_2489 rfl rfl 6 rfl ?_
      obtain ⟨g, h⟩ := gnE h
      refine RR.gPN (c2 := (KM.1 558).1 = 1) (pc' := 161) (lc' := [(0, .ref 500), (2, .int v2), (3, .int v3), (4, .int v4), (5, .int v5), (6, .int v6), (7, .int v7), (8, .int v8)]) (st' := [.int (rI S 558 v8.toNatClampNeg), .int v7, .int v6, .ref 500]) (S1 := S) (nL := 11) (cd := cd_2489) mx_2489 rfl rfl rfl rfl g ?_
      refine RR.runs (pc' := 167) (lc' := [(0, .ref 500), (2, .int v2), (3, .int v3), (4, .int v4), (5, .int v5), (6, .int v6), (7, .int v7), (8, .int v8)]) (st' := [.int v8, .ref 559, .int (rI S 558 v8.toNatClampNeg), .int v7, .int v6, .ref 500]) (S1 := S) (nL := 11) (cd := cd_2489) mx_2489 rfl rfl 3 rfl ?_
      obtain ⟨g, h⟩ := gnE h
      refine RR.gPN (c2 := (KM.1 559).1 = 1) (pc' := 168) (lc' := [(0, .ref 500), (2, .int v2), (3, .int v3), (4, .int v4), (5, .int v5), (6, .int v6), (7, .int v7), (8, .int v8)]) (st' := [.int (rI S 559 v8.toNatClampNeg), .int (rI S 558 v8.toNatClampNeg), .int v7, .int v6, .ref 500]) (S1 := S) (nL := 11) (cd := cd_2489) mx_2489 rfl rfl rfl rfl g ?_
      obtain ⟨r1, S2, h1, h⟩ := bnE h
      refine RR.callV (b := 500) (as := [.int v6, .int v7, .int (rI S 558 v8.toNatClampNeg), .int (rI S 559 v8.toNatClampNeg)]) (rest := []) (r1 := (some (.int r1))) (S1 := S2) mx_2489 rfl rfl mx_2466 rfl rfl (by decide) (Or.inl rfl) (Nat.le_of_ble_eq_true rfl) (Nat.le_of_ble_eq_true rfl) (RC.deep (by omega) (s_m_fallsBy (d := d) _ _ _ _ _ h1)) ?_
      show RR KM _ 2489 171 [(0, .ref 500), (2, .int v2), (3, .int v3), (4, .int v4), (5, .int v5), (6, .int v6), (7, .int v7), (8, .int v8)] [.int r1] S2 _ _
      refine RR.runs (pc' := 190) (lc' := [(10, .int ((((v6 &&& (r1 ^^^ (-1 : Int32))) <<< ((10 : Int32) &&& 31)) ||| (rI S2 500 72)))), (9, .int r1), (0, .ref 500), (2, .int v2), (3, .int v3), (4, .int v4), (5, .int v5), (6, .int v6), (7, .int v7), (8, .int v8)]) (st' := []) (S1 := S2) (nL := 11) (cd := cd_2489) mx_2489 rfl rfl 12 rfl ?_
      obtain ⟨x3, ex3, h⟩ := ltE h
      rw [← ex3]
      refine RR.runs (pc' := 198) (lc' := [(10, .int x3), (9, .int r1), (0, .ref 500), (2, .int v2), (3, .int v3), (4, .int v4), (5, .int v5), (6, .int v6), (7, .int v7), (8, .int v8)]) (st' := [.ref 500, .int ((v6 &&& (r1 ^^^ (-1 : Int32))))]) (S1 := S2) (nL := 11) (cd := cd_2489) mx_2489 rfl rfl 6 rfl ?_
      obtain ⟨r4, S5, h1, h⟩ := bnE h
      refine RR.callV (b := 500) (as := []) (rest := [.int ((v6 &&& (r1 ^^^ (-1 : Int32))))]) (r1 := (some (.int r4))) (S1 := S5) mx_2489 rfl rfl mx_2488 rfl rfl (by decide) (Or.inl rfl) (Nat.le_of_ble_eq_true rfl) (Nat.le_of_ble_eq_true rfl) (RC.deep (by omega) (s_m_deaf (d := d) _ h1)) ?_
      show RR KM _ 2489 201 [(10, .int x3), (9, .int r1), (0, .ref 500), (2, .int v2), (3, .int v3), (4, .int v4), (5, .int v5), (6, .int v6), (7, .int v7), (8, .int v8)] [.int r4, .int ((v6 &&& (r1 ^^^ (-1 : Int32))))] S5 _ _
      refine RR.runs (pc' := icm .ne (((v6 &&& (r1 ^^^ (-1 : Int32))) &&& (r4 ^^^ (-1 : Int32)))) 0 209 207) (lc' := [(10, .int x3), (9, .int r1), (0, .ref 500), (2, .int v2), (3, .int v3), (4, .int v4), (5, .int v5), (6, .int v6), (7, .int v7), (8, .int v8)]) (st' := []) (S1 := S5) (nL := 11) (cd := cd_2489) mx_2489 rfl rfl 4 rfl ?_
      rcases ifE h with ⟨c, h⟩ | ⟨c, h⟩
      · refine RR.c_ne (fun _ => ?_) (fun q => absurd c q)
        refine RR.weak [(3, .int v3)] ⟨rfl, trivial⟩ ?_
        exact s_m_fetch_207 _ _ h
      · refine RR.c_ne (fun q => absurd q c) (fun _ => ?_)
        refine RR.runs (pc' := 212) (lc' := [(10, .int x3), (9, .int r1), (0, .ref 500), (2, .int v2), (3, .int v3), (4, .int v4), (5, .int v5), (6, .int v6), (7, .int v7), (8, .int v8)]) (st' := [.int x3, .ref 500]) (S1 := S5) (nL := 11) (cd := cd_2489) mx_2489 rfl rfl 2 rfl ?_
        obtain ⟨r6, S7, h1, h⟩ := bnE h
        refine RR.callV (b := 500) (as := [.int x3]) (rest := []) (r1 := (some (.int r6))) (S1 := S7) mx_2489 rfl rfl mx_2487 rfl rfl (by decide) (Or.inl rfl) (Nat.le_of_ble_eq_true rfl) (Nat.le_of_ble_eq_true rfl) (RC.deep (by omega) (s_m_meets (d := d) _ _ h1)) ?_
        show RR KM _ 2489 215 [(10, .int x3), (9, .int r1), (0, .ref 500), (2, .int v2), (3, .int v3), (4, .int v4), (5, .int v5), (6, .int v6), (7, .int v7), (8, .int v8)] [.int r6] S7 _ _
        refine RR.runs (pc' := icm .ne r6 0 221 218) (lc' := [(10, .int x3), (9, .int r1), (0, .ref 500), (2, .int v2), (3, .int v3), (4, .int v4), (5, .int v5), (6, .int v6), (7, .int v7), (8, .int v8)]) (st' := []) (S1 := S7) (nL := 11) (cd := cd_2489) mx_2489 rfl rfl 1 rfl ?_
        rcases ifE h with ⟨c, h⟩ | ⟨c, h⟩
        · refine RR.c_ne (fun _ => ?_) (fun q => absurd c q)
          refine RR.runs (pc' := 232) (lc' := [(10, .int x3), (9, .int r1), (0, .ref 500), (2, .int v2), (3, .int v3), (4, .int v4), (5, .int v5), (6, .int v6), (7, .int v7), (8, .int v8)]) (st' := []) (S1 := S7) (nL := 11) (cd := cd_2489) mx_2489 rfl rfl 1 rfl ?_
          refine RR.weak [(0, .ref 500), (2, .int v2), (3, .int v3), (4, .int v4), (5, .int v5), (6, .int v6), (7, .int v7), (8, .int v8)] ⟨rfl, rfl, rfl, rfl, rfl, rfl, rfl, rfl, trivial⟩ ?_
          exact s_m_fetch_232 _ (fun _ _ _ _ _ _ _ S h => ih _ _ _ _ _ _ _ S h) _ _ _ _ _ _ _ _ h
        · refine RR.c_ne (fun q => absurd q c) (fun _ => ?_)
          refine RR.runs (pc' := 228) (lc' := [(10, .int x3), (9, .int r1), (0, .ref 500), (2, .int v2), (3, .int v3), (4, .int v4), (5, .int v5), (6, .int v6), (7, .int v7), (8, .int v8)]) (st' := [.int x3, .int v2, .ref 562]) (S1 := S7) (nL := 11) (cd := cd_2489) mx_2489 rfl rfl 4 rfl ?_
          obtain ⟨g, h⟩ := gnE h
          refine RR.gPN (c2 := (KM.1 562).1 = 1) (pc' := 229) (lc' := [(10, .int x3), (9, .int r1), (0, .ref 500), (2, .int v2), (3, .int v3), (4, .int v4), (5, .int v5), (6, .int v6), (7, .int v7), (8, .int v8)]) (st' := []) (S1 := (wI S7 562 v2.toNatClampNeg x3)) (nL := 11) (cd := cd_2489) mx_2489 rfl rfl rfl rfl g ?_
          obtain ⟨S8, eS8, h⟩ := ltE h
          rw [← eS8]
          refine RR.runs (pc' := 232) (lc' := [(2, .int ((v2 + (1 : Int32)))), (10, .int x3), (9, .int r1), (0, .ref 500), (3, .int v3), (4, .int v4), (5, .int v5), (6, .int v6), (7, .int v7), (8, .int v8)]) (st' := []) (S1 := S8) (nL := 11) (cd := cd_2489) mx_2489 rfl rfl 1 rfl ?_
          obtain ⟨x9, ex9, h⟩ := ltE h
          rw [← ex9]
          refine RR.weak [(0, .ref 500), (2, .int x9), (3, .int v3), (4, .int v4), (5, .int v5), (6, .int v6), (7, .int v7), (8, .int v8)] ⟨rfl, rfl, rfl, rfl, rfl, rfl, rfl, rfl, trivial⟩ ?_
          exact s_m_fetch_232 _ (fun _ _ _ _ _ _ _ S h => ih _ _ _ _ _ _ _ S h) _ _ _ _ _ _ _ _ h
    · refine RR.c_ge (fun q => absurd q c) (fun _ => ?_)
      refine RR.weak [(0, .ref 500), (2, .int v2), (3, .int v3), (4, .int v4), (5, .int v5)] ⟨rfl, rfl, rfl, rfl, rfl, trivial⟩ ?_
      exact s_m_fetch_238 _ b105 _ _ _ _ _ h
def m_fetch_244 (k94 : Int32 → Int32 → Int32 → St → Re Int32) (v2 : Int32) (v3 : Int32) (v4 : Int32) (S : St) : Re Int32 :=
  lt' ((v3 + (1 : Int32)) : Int32) fun x1 =>
  k94 v4 v2 x1 S
set_option maxRecDepth 100000 in
theorem s_m_fetch_244 {d : Nat} (k94 : Int32 → Int32 → Int32 → St → Re Int32) {S' : St} {r : Int32} (b94 : ∀ (v1 : Int32) (v2 : Int32) (v3 : Int32) (S : St), k94 v1 v2 v3 S = some (r, S') → RR KM (d + 3) 2489 94 [(0, .ref 500), (1, .int v1), (2, .int v2), (3, .int v3)] [] S (some (.int r)) S') (v2 : Int32) (v3 : Int32) (v4 : Int32) (S : St) (h : m_fetch_244 k94 v2 v3 v4 S = some (r, S')) : RR KM (d + 3) 2489 244 [(0, .ref 500), (2, .int v2), (3, .int v3), (4, .int v4)] [] S (some (.int r)) S' := by
  unfold m_fetch_244 at h
  refine RR.runs (pc' := 250) (lc' := [(3, .int ((v3 + (1 : Int32)))), (1, .int v4), (0, .ref 500), (2, .int v2), (4, .int v4)]) (st' := []) (S1 := S) (nL := 11) (cd := cd_2489) mx_2489 rfl rfl 3 rfl ?_
  obtain ⟨x1, ex1, h⟩ := ltE h
  rw [← ex1]
  refine RR.runs (pc' := 94) (lc' := [(3, .int x1), (1, .int v4), (0, .ref 500), (2, .int v2), (4, .int v4)]) (st' := []) (S1 := S) (nL := 11) (cd := cd_2489) mx_2489 rfl rfl 1 rfl ?_
  refine RR.weak [(0, .ref 500), (1, .int v4), (2, .int v2), (3, .int x1)] ⟨rfl, rfl, rfl, rfl, trivial⟩ ?_
  exact b94 _ _ _ _ h
def m_fetch_105 (k94 : Int32 → Int32 → Int32 → St → Re Int32) : Nat → Int32 → Int32 → Int32 → Int32 → St → Re Int32
  | 0, _, _, _, _, _ => none
  | n + 1, v2, v3, v4, v5, S =>
  if v5 < v4 then (
    if v5 < 0 ∨ 59100 ≤ v5.toNatClampNeg then none else
    lt' (((rI S 562 v5.toNatClampNeg) >>> ((10 : Int32) &&& 31)) : Int32) fun x1 =>
    if v5 < 0 ∨ 59100 ≤ v5.toNatClampNeg then none else
    lt' (((rI S 562 v5.toNatClampNeg) &&& (1023 : Int32)) : Int32) fun x2 =>
    m_fetch_140 (m_fetch_105 k94 n) FU v2 v3 v4 v5 x1 x2 (0 : Int32) S)
  else (
    m_fetch_244 k94 v2 v3 v4 S)
set_option maxRecDepth 100000 in
theorem s_m_fetch_105 {d : Nat} (k94 : Int32 → Int32 → Int32 → St → Re Int32) {S' : St} {r : Int32} (b94 : ∀ (v1 : Int32) (v2 : Int32) (v3 : Int32) (S : St), k94 v1 v2 v3 S = some (r, S') → RR KM (d + 3) 2489 94 [(0, .ref 500), (1, .int v1), (2, .int v2), (3, .int v3)] [] S (some (.int r)) S') : ∀ (n : Nat) (v2 : Int32) (v3 : Int32) (v4 : Int32) (v5 : Int32) (S : St), m_fetch_105 k94 n v2 v3 v4 v5 S = some (r, S') → RR KM (d + 3) 2489 105 [(0, .ref 500), (2, .int v2), (3, .int v3), (4, .int v4), (5, .int v5)] [] S (some (.int r)) S' := by
  intro n
  induction n with
  | zero => intro v2 v3 v4 v5 S h; simp only [m_fetch_105] at h; cases h
  | succ n ih =>
    intro v2 v3 v4 v5 S h
    simp only [m_fetch_105] at h
    refine RR.runs (pc' := icm .ge v5 v4 244 112) (lc' := [(0, .ref 500), (2, .int v2), (3, .int v3), (4, .int v4), (5, .int v5)]) (st' := []) (S1 := S) (nL := 11) (cd := cd_2489) mx_2489 rfl rfl 3 rfl ?_
    rcases ifE h with ⟨c, h⟩ | ⟨c, h⟩
    · refine RR.c_ge (fun _ => ?_) (fun q => absurd c q)
      refine RR.runs (pc' := 118) (lc' := [(0, .ref 500), (2, .int v2), (3, .int v3), (4, .int v4), (5, .int v5)]) (st' := [.int v5, .ref 562]) (S1 := S) (nL := 11) (cd := cd_2489) mx_2489 rfl rfl 3 rfl ?_
      obtain ⟨g, h⟩ := gnE h
      refine RR.gPN (c2 := (KM.1 562).1 = 1) (pc' := 119) (lc' := [(0, .ref 500), (2, .int v2), (3, .int v3), (4, .int v4), (5, .int v5)]) (st' := [.int (rI S 562 v5.toNatClampNeg)]) (S1 := S) (nL := 11) (cd := cd_2489) mx_2489 rfl rfl rfl rfl g ?_
      refine RR.runs (pc' := 124) (lc' := [(6, .int (((rI S 562 v5.toNatClampNeg) >>> ((10 : Int32) &&& 31)))), (0, .ref 500), (2, .int v2), (3, .int v3), (4, .int v4), (5, .int v5)]) (st' := []) (S1 := S) (nL := 11) (cd := cd_2489) mx_2489 rfl rfl 3 rfl ?_
      obtain ⟨x1, ex1, h⟩ := ltE h
      rw [← ex1]
      refine RR.runs (pc' := 130) (lc' := [(6, .int x1), (0, .ref 500), (2, .int v2), (3, .int v3), (4, .int v4), (5, .int v5)]) (st' := [.int v5, .ref 562]) (S1 := S) (nL := 11) (cd := cd_2489) mx_2489 rfl rfl 3 rfl ?_
      obtain ⟨g, h⟩ := gnE h
      refine RR.gPN (c2 := (KM.1 562).1 = 1) (pc' := 131) (lc' := [(6, .int x1), (0, .ref 500), (2, .int v2), (3, .int v3), (4, .int v4), (5, .int v5)]) (st' := [.int (rI S 562 v5.toNatClampNeg)]) (S1 := S) (nL := 11) (cd := cd_2489) mx_2489 rfl rfl rfl rfl g ?_
      refine RR.runs (pc' := 137) (lc' := [(7, .int (((rI S 562 v5.toNatClampNeg) &&& (1023 : Int32)))), (6, .int x1), (0, .ref 500), (2, .int v2), (3, .int v3), (4, .int v4), (5, .int v5)]) (st' := []) (S1 := S) (nL := 11) (cd := cd_2489) mx_2489 rfl rfl 3 rfl ?_
      obtain ⟨x2, ex2, h⟩ := ltE h
      rw [← ex2]
      refine RR.runs (pc' := 140) (lc' := [(8, .int (0 : Int32)), (7, .int x2), (6, .int x1), (0, .ref 500), (2, .int v2), (3, .int v3), (4, .int v4), (5, .int v5)]) (st' := []) (S1 := S) (nL := 11) (cd := cd_2489) mx_2489 rfl rfl 2 rfl ?_
      refine RR.weak [(0, .ref 500), (2, .int v2), (3, .int v3), (4, .int v4), (5, .int v5), (6, .int x1), (7, .int x2), (8, .int (0 : Int32))] ⟨rfl, rfl, rfl, rfl, rfl, rfl, rfl, rfl, trivial⟩ ?_
      exact s_m_fetch_140 _ (fun _ _ _ _ S h => ih _ _ _ _ S h) _ _ _ _ _ _ _ _ _ h
    · refine RR.c_ge (fun q => absurd q c) (fun _ => ?_)
      refine RR.weak [(0, .ref 500), (2, .int v2), (3, .int v3), (4, .int v4)] ⟨rfl, rfl, rfl, rfl, trivial⟩ ?_
      exact s_m_fetch_244 _ b94 _ _ _ _ h
def m_fetch_253 (S : St) : Re Int32 :=
  some ((-1 : Int32), S)
set_option maxRecDepth 100000 in
theorem s_m_fetch_253 {d : Nat} {S' : St} {r : Int32} (S : St) (h : m_fetch_253 S = some (r, S')) : RR KM (d + 3) 2489 253 [] [] S (some (.int r)) S' := by
  unfold m_fetch_253 at h
  refine RR.runs (pc' := 254) (lc' := []) (st' := [.int (-1 : Int32)]) (S1 := S) (nL := 11) (cd := cd_2489) mx_2489 rfl rfl 1 rfl ?_
  cases h
  exact RR.reti mx_2489 rfl rfl rfl
def m_fetch_94 : Nat → Int32 → Int32 → Int32 → St → Re Int32
  | 0, _, _, _, _ => none
  | n + 1, v1, v2, v3, S =>
  if v3 < (5 : Int32) then (
    m_fetch_105 (m_fetch_94 n) FU v2 v3 v2 v1 S)
  else (
    m_fetch_253 S)
set_option maxRecDepth 100000 in
theorem s_m_fetch_94 {d : Nat} {S' : St} {r : Int32} : ∀ (n : Nat) (v1 : Int32) (v2 : Int32) (v3 : Int32) (S : St), m_fetch_94 n v1 v2 v3 S = some (r, S') → RR KM (d + 3) 2489 94 [(0, .ref 500), (1, .int v1), (2, .int v2), (3, .int v3)] [] S (some (.int r)) S' := by
  intro n
  induction n with
  | zero => intro v1 v2 v3 S h; simp only [m_fetch_94] at h; cases h
  | succ n ih =>
    intro v1 v2 v3 S h
    simp only [m_fetch_94] at h
    refine RR.runs (pc' := icm .ge v3 (5 : Int32) 253 99) (lc' := [(0, .ref 500), (1, .int v1), (2, .int v2), (3, .int v3)]) (st' := []) (S1 := S) (nL := 11) (cd := cd_2489) mx_2489 rfl rfl 3 rfl ?_
    rcases ifE h with ⟨c, h⟩ | ⟨c, h⟩
    · refine RR.c_ge (fun _ => ?_) (fun q => absurd c q)
      refine RR.runs (pc' := 105) (lc' := [(5, .int v1), (4, .int v2), (0, .ref 500), (1, .int v1), (2, .int v2), (3, .int v3)]) (st' := []) (S1 := S) (nL := 11) (cd := cd_2489) mx_2489 rfl rfl 4 rfl ?_
      refine RR.weak [(0, .ref 500), (2, .int v2), (3, .int v3), (4, .int v2), (5, .int v1)] ⟨rfl, rfl, rfl, rfl, rfl, trivial⟩ ?_
      exact s_m_fetch_105 _ (fun _ _ _ S h => ih _ _ _ S h) _ _ _ _ _ _ h
    · refine RR.c_ge (fun q => absurd q c) (fun _ => ?_)
      refine RR.weak [] trivial ?_
      exact s_m_fetch_253 _ h
def m_fetch_48 (S : St) : Re Int32 :=
  if (0 : Int32) < 0 ∨ 15 ≤ (0 : Int32).toNatClampNeg then none else
  if (1 : Int32) < 0 ∨ 15 ≤ (1 : Int32).toNatClampNeg then none else
  if (0 : Int32) < 0 ∨ 15 ≤ (0 : Int32).toNatClampNeg then none else
  if (0 : Int32) < 0 ∨ 59100 ≤ (0 : Int32).toNatClampNeg then none else
  lt' (wI S 562 (0 : Int32).toNatClampNeg ((((rI S 553 (0 : Int32).toNatClampNeg) <<< ((10 : Int32) &&& 31)) ||| ((rI S 553 (1 : Int32).toNatClampNeg) &&& (rI S 553 (0 : Int32).toNatClampNeg))))) fun S1 =>
  if (0 : Int32) < 0 ∨ 59100 ≤ (0 : Int32).toNatClampNeg then none else
  bn (m_meets ((rI S1 562 (0 : Int32).toNatClampNeg)) S1) fun r2 S3 =>
  m_fetch_94 FU (0 : Int32) (1 : Int32) (1 : Int32) S3
set_option maxRecDepth 100000 in
theorem s_m_fetch_48 {d : Nat} {S' : St} {r : Int32} (S : St) (h : m_fetch_48 S = some (r, S')) : RR KM (d + 3) 2489 48 [(0, .ref 500)] [] S (some (.int r)) S' := by
  unfold m_fetch_48 at h
  refine RR.runs (pc' := 58) (lc' := [(0, .ref 500)]) (st' := [.int (0 : Int32), .ref 553, .int (0 : Int32), .ref 562]) (S1 := S) (nL := 11) (cd := cd_2489) mx_2489 rfl rfl 6 rfl ?_
  obtain ⟨g, h⟩ := gnE h
  refine RR.gPN (c2 := (KM.1 553).1 = 1) (pc' := 59) (lc' := [(0, .ref 500)]) (st' := [.int ((rI S 553 (0 : Int32).toNatClampNeg)), .int (0 : Int32), .ref 562]) (S1 := S) (nL := 11) (cd := cd_2489) mx_2489 rfl rfl rfl rfl g ?_
  refine RR.runs (pc' := 67) (lc' := [(0, .ref 500)]) (st' := [.int (1 : Int32), .ref 553, .int (((rI S 553 (0 : Int32).toNatClampNeg) <<< ((10 : Int32) &&& 31))), .int (0 : Int32), .ref 562]) (S1 := S) (nL := 11) (cd := cd_2489) mx_2489 rfl rfl 5 rfl ?_
  obtain ⟨g, h⟩ := gnE h
  refine RR.gPN (c2 := (KM.1 553).1 = 1) (pc' := 68) (lc' := [(0, .ref 500)]) (st' := [.int ((rI S 553 (1 : Int32).toNatClampNeg)), .int (((rI S 553 (0 : Int32).toNatClampNeg) <<< ((10 : Int32) &&& 31))), .int (0 : Int32), .ref 562]) (S1 := S) (nL := 11) (cd := cd_2489) mx_2489 rfl rfl rfl rfl g ?_
  refine RR.runs (pc' := 73) (lc' := [(0, .ref 500)]) (st' := [.int (0 : Int32), .ref 553, .int ((rI S 553 (1 : Int32).toNatClampNeg)), .int (((rI S 553 (0 : Int32).toNatClampNeg) <<< ((10 : Int32) &&& 31))), .int (0 : Int32), .ref 562]) (S1 := S) (nL := 11) (cd := cd_2489) mx_2489 rfl rfl 3 rfl ?_
  obtain ⟨g, h⟩ := gnE h
  refine RR.gPN (c2 := (KM.1 553).1 = 1) (pc' := 74) (lc' := [(0, .ref 500)]) (st' := [.int ((rI S 553 (0 : Int32).toNatClampNeg)), .int ((rI S 553 (1 : Int32).toNatClampNeg)), .int (((rI S 553 (0 : Int32).toNatClampNeg) <<< ((10 : Int32) &&& 31))), .int (0 : Int32), .ref 562]) (S1 := S) (nL := 11) (cd := cd_2489) mx_2489 rfl rfl rfl rfl g ?_
  refine RR.runs (pc' := 76) (lc' := [(0, .ref 500)]) (st' := [.int ((((rI S 553 (0 : Int32).toNatClampNeg) <<< ((10 : Int32) &&& 31)) ||| ((rI S 553 (1 : Int32).toNatClampNeg) &&& (rI S 553 (0 : Int32).toNatClampNeg)))), .int (0 : Int32), .ref 562]) (S1 := S) (nL := 11) (cd := cd_2489) mx_2489 rfl rfl 2 rfl ?_
  obtain ⟨g, h⟩ := gnE h
  refine RR.gPN (c2 := (KM.1 562).1 = 1) (pc' := 77) (lc' := [(0, .ref 500)]) (st' := []) (S1 := (wI S 562 (0 : Int32).toNatClampNeg ((((rI S 553 (0 : Int32).toNatClampNeg) <<< ((10 : Int32) &&& 31)) ||| ((rI S 553 (1 : Int32).toNatClampNeg) &&& (rI S 553 (0 : Int32).toNatClampNeg)))))) (nL := 11) (cd := cd_2489) mx_2489 rfl rfl rfl rfl g ?_
  obtain ⟨S1, eS1, h⟩ := ltE h
  rw [← eS1]
  refine RR.runs (pc' := 83) (lc' := [(0, .ref 500)]) (st' := [.int (0 : Int32), .ref 562, .ref 500]) (S1 := S1) (nL := 11) (cd := cd_2489) mx_2489 rfl rfl 4 rfl ?_
  obtain ⟨g, h⟩ := gnE h
  refine RR.gPN (c2 := (KM.1 562).1 = 1) (pc' := 84) (lc' := [(0, .ref 500)]) (st' := [.int ((rI S1 562 (0 : Int32).toNatClampNeg)), .ref 500]) (S1 := S1) (nL := 11) (cd := cd_2489) mx_2489 rfl rfl rfl rfl g ?_
  obtain ⟨r2, S3, h1, h⟩ := bnE h
  refine RR.callV (b := 500) (as := [.int ((rI S1 562 (0 : Int32).toNatClampNeg))]) (rest := []) (r1 := (some (.int r2))) (S1 := S3) mx_2489 rfl rfl mx_2487 rfl rfl (by decide) (Or.inl rfl) (Nat.le_of_ble_eq_true rfl) (Nat.le_of_ble_eq_true rfl) (RC.deep (by omega) (s_m_meets (d := d) _ _ h1)) ?_
  show RR KM _ 2489 87 [(0, .ref 500)] [.int r2] S3 _ _
  refine RR.runs (pc' := 94) (lc' := [(3, .int (1 : Int32)), (2, .int (1 : Int32)), (1, .int (0 : Int32)), (0, .ref 500)]) (st' := []) (S1 := S3) (nL := 11) (cd := cd_2489) mx_2489 rfl rfl 7 rfl ?_
  refine RR.weak [(0, .ref 500), (1, .int (0 : Int32)), (2, .int (1 : Int32)), (3, .int (1 : Int32))] ⟨rfl, rfl, rfl, rfl, trivial⟩ ?_
  exact s_m_fetch_94 _ _ _ _ _ h
def m_fetch_29 : Nat → Int32 → St → Re Int32
  | 0, _, _ => none
  | n + 1, v1, S =>
  if v1 < (32768 : Int32) then (
    if v1 < 0 ∨ 32768 ≤ v1.toNatClampNeg then none else
    lt' (wI S 563 v1.toNatClampNeg (0 : Int32)) fun S1 =>
    lt' ((v1 + (1 : Int32)) : Int32) fun x2 =>
    m_fetch_29 n x2 S1)
  else (
    m_fetch_48 S)
set_option maxRecDepth 100000 in
theorem s_m_fetch_29 {d : Nat} {S' : St} {r : Int32} : ∀ (n : Nat) (v1 : Int32) (S : St), m_fetch_29 n v1 S = some (r, S') → RR KM (d + 3) 2489 29 [(0, .ref 500), (1, .int v1)] [] S (some (.int r)) S' := by
  intro n
  induction n with
  | zero => intro v1 S h; simp only [m_fetch_29] at h; cases h
  | succ n ih =>
    intro v1 S h
    simp only [m_fetch_29] at h
    refine RR.runs (pc' := icm .ge v1 (32768 : Int32) 48 35) (lc' := [(0, .ref 500), (1, .int v1)]) (st' := []) (S1 := S) (nL := 11) (cd := cd_2489) mx_2489 rfl rfl 3 rfl ?_
    rcases ifE h with ⟨c, h⟩ | ⟨c, h⟩
    · refine RR.c_ge (fun _ => ?_) (fun q => absurd c q)
      refine RR.runs (pc' := 41) (lc' := [(0, .ref 500), (1, .int v1)]) (st' := [.int (0 : Int32), .int v1, .ref 563]) (S1 := S) (nL := 11) (cd := cd_2489) mx_2489 rfl rfl 4 rfl ?_
      obtain ⟨g, h⟩ := gnE h
      refine RR.gPN (c2 := (KM.1 563).1 = 1) (pc' := 42) (lc' := [(0, .ref 500), (1, .int v1)]) (st' := []) (S1 := (wI S 563 v1.toNatClampNeg (0 : Int32))) (nL := 11) (cd := cd_2489) mx_2489 rfl rfl rfl rfl g ?_
      obtain ⟨S1, eS1, h⟩ := ltE h
      rw [← eS1]
      refine RR.runs (pc' := 45) (lc' := [(1, .int ((v1 + (1 : Int32)))), (0, .ref 500)]) (st' := []) (S1 := S1) (nL := 11) (cd := cd_2489) mx_2489 rfl rfl 1 rfl ?_
      obtain ⟨x2, ex2, h⟩ := ltE h
      rw [← ex2]
      refine RR.runs (pc' := 29) (lc' := [(1, .int x2), (0, .ref 500)]) (st' := []) (S1 := S1) (nL := 11) (cd := cd_2489) mx_2489 rfl rfl 1 rfl ?_
      refine RR.weak [(0, .ref 500), (1, .int x2)] ⟨rfl, rfl, trivial⟩ ?_
      exact ih _ _ h
    · refine RR.c_ge (fun q => absurd q c) (fun _ => ?_)
      refine RR.weak [(0, .ref 500)] ⟨rfl, trivial⟩ ?_
      exact s_m_fetch_48 _ h
def m_fetch (S : St) : Re Int32 :=
  lt' (wI S 500 0 (0 : Int32)) fun S1 =>
  if (0 : Int32) < 0 ∨ 15 ≤ (0 : Int32).toNatClampNeg then none else
  bn (m_deaf S1) fun r2 S3 =>
  if ((rI S1 553 (0 : Int32).toNatClampNeg) &&& (r2 ^^^ (-1 : Int32))) = 0 then (
    some ((0 : Int32), S3))
  else (
    bn (m_laysCalls S3) fun r4 S5 =>
    m_fetch_29 FU (0 : Int32) S5)
set_option maxRecDepth 100000 in
theorem s0_m_fetch {d : Nat} {S' : St} {r : Int32} (S : St) (h : m_fetch S = some (r, S')) : RR KM (d + 3) 2489 0 [(0, .ref 500)] [] S (some (.int r)) S' := by
  unfold m_fetch at h
  refine RR.runs (pc' := 5) (lc' := [(0, .ref 500)]) (st' := []) (S1 := (wI S 500 0 (0 : Int32))) (nL := 11) (cd := cd_2489) mx_2489 rfl rfl 3 rfl ?_
  obtain ⟨S1, eS1, h⟩ := ltE h
  rw [← eS1]
  refine RR.runs (pc' := 10) (lc' := [(0, .ref 500)]) (st' := [.int (0 : Int32), .ref 553]) (S1 := S1) (nL := 11) (cd := cd_2489) mx_2489 rfl rfl 3 rfl ?_
  obtain ⟨g, h⟩ := gnE h
  refine RR.gPN (c2 := (KM.1 553).1 = 1) (pc' := 11) (lc' := [(0, .ref 500)]) (st' := [.int ((rI S1 553 (0 : Int32).toNatClampNeg))]) (S1 := S1) (nL := 11) (cd := cd_2489) mx_2489 rfl rfl rfl rfl g ?_
  refine RR.runs (pc' := 12) (lc' := [(0, .ref 500)]) (st' := [.ref 500, .int ((rI S1 553 (0 : Int32).toNatClampNeg))]) (S1 := S1) (nL := 11) (cd := cd_2489) mx_2489 rfl rfl 1 rfl ?_
  obtain ⟨r2, S3, h1, h⟩ := bnE h
  refine RR.callV (b := 500) (as := []) (rest := [.int ((rI S1 553 (0 : Int32).toNatClampNeg))]) (r1 := (some (.int r2))) (S1 := S3) mx_2489 rfl rfl mx_2488 rfl rfl (by decide) (Or.inl rfl) (Nat.le_of_ble_eq_true rfl) (Nat.le_of_ble_eq_true rfl) (RC.deep (by omega) (s_m_deaf (d := d) _ h1)) ?_
  show RR KM _ 2489 15 [(0, .ref 500)] [.int r2, .int ((rI S1 553 (0 : Int32).toNatClampNeg))] S3 _ _
  refine RR.runs (pc' := icm .ne (((rI S1 553 (0 : Int32).toNatClampNeg) &&& (r2 ^^^ (-1 : Int32)))) 0 23 21) (lc' := [(0, .ref 500)]) (st' := []) (S1 := S3) (nL := 11) (cd := cd_2489) mx_2489 rfl rfl 4 rfl ?_
  rcases ifE h with ⟨c, h⟩ | ⟨c, h⟩
  · refine RR.c_ne (fun _ => ?_) (fun q => absurd c q)
    refine RR.runs (pc' := 22) (lc' := [(0, .ref 500)]) (st' := [.int (0 : Int32)]) (S1 := S3) (nL := 11) (cd := cd_2489) mx_2489 rfl rfl 1 rfl ?_
    cases h
    exact RR.reti mx_2489 rfl rfl rfl
  · refine RR.c_ne (fun q => absurd q c) (fun _ => ?_)
    refine RR.runs (pc' := 24) (lc' := [(0, .ref 500)]) (st' := [.ref 500]) (S1 := S3) (nL := 11) (cd := cd_2489) mx_2489 rfl rfl 1 rfl ?_
    obtain ⟨r4, S5, h1, h⟩ := bnE h
    refine RR.callV (b := 500) (as := []) (rest := []) (r1 := none) (S1 := S5) mx_2489 rfl rfl mx_2483 rfl rfl (by decide) (Or.inl rfl) (Nat.le_of_ble_eq_true rfl) (Nat.le_of_ble_eq_true rfl) (RC.deep (by omega) (s_m_laysCalls (d := d) _ h1)) ?_
    show RR KM _ 2489 27 [(0, .ref 500)] [] S5 _ _
    refine RR.runs (pc' := 29) (lc' := [(1, .int (0 : Int32)), (0, .ref 500)]) (st' := []) (S1 := S5) (nL := 11) (cd := cd_2489) mx_2489 rfl rfl 2 rfl ?_
    refine RR.weak [(0, .ref 500), (1, .int (0 : Int32))] ⟨rfl, rfl, trivial⟩ ?_
    exact s_m_fetch_29 _ _ _ h
theorem s_m_fetch {d : Nat} {S' : St} {r : Int32} (S : St) (h : m_fetch S = some (r, S')) : RC KM (d + 3) 2489 [.ref 500] S (some (.int r)) S' := RC.of rfl (s0_m_fetch S h)
-- lies (IZ)Z
def m_lies_61 (p0 : Int32) (p1 : Int32) (S : St) : Re Int32 :=
  if p1 < 0 ∨ 5 ≤ p1.toNatClampNeg then none else
  lt' (wI S 548 p1.toNatClampNeg p0) fun S1 =>
  some ((1 : Int32), S1)
set_option maxRecDepth 100000 in
theorem s_m_lies_61 {d : Nat} {S' : St} {r : Int32} (p0 : Int32) (p1 : Int32) (S : St) (h : m_lies_61 p0 p1 S = some (r, S')) : RR KM (d + 1) 2490 61 [] [.int p0, .int p1, .ref 548] S (some (.int r)) S' := by
  unfold m_lies_61 at h
  obtain ⟨g, h⟩ := gnE h
  refine RR.gPN (c2 := (KM.1 548).1 = 1) (pc' := 62) (lc' := []) (st' := []) (S1 := (wI S 548 p1.toNatClampNeg p0)) (nL := 3) (cd := cd_2490) mx_2490 rfl rfl rfl rfl g ?_
  obtain ⟨S1, eS1, h⟩ := ltE h
  rw [← eS1]
  refine RR.runs (pc' := 63) (lc' := []) (st' := [.int (1 : Int32)]) (S1 := S1) (nL := 3) (cd := cd_2490) mx_2490 rfl rfl 1 rfl ?_
  cases h
  exact RR.retz mx_2490 rfl rfl rfl rfl
def m_lies (v1 : Int32) (v2 : Int32) (S : St) : Re Int32 :=
  lt' (wI S 500 0 (0 : Int32)) fun S1 =>
  bn (m_isApple v1 S1) fun r2 S3 =>
  if r2 = 0 then (
    some ((0 : Int32), S3))
  else (
    if (0 : Int32) < 0 ∨ 5 ≤ (0 : Int32).toNatClampNeg then none else
    if (0 : Int32) < 0 ∨ 5 ≤ (0 : Int32).toNatClampNeg then none else
    lt' (wI S3 547 (0 : Int32).toNatClampNeg (((rI S3 547 (0 : Int32).toNatClampNeg) ||| ((1 : Int32) <<< (v1 &&& 31))))) fun S4 =>
    if v2 = 0 then (
      if (0 : Int32) < 0 ∨ 5 ≤ (0 : Int32).toNatClampNeg then none else
      m_lies_61 (((rI S4 548 (0 : Int32).toNatClampNeg) &&& (((1 : Int32) <<< (v1 &&& 31)) ^^^ (-1 : Int32)))) (0 : Int32) S4)
    else (
      if (0 : Int32) < 0 ∨ 5 ≤ (0 : Int32).toNatClampNeg then none else
      m_lies_61 (((rI S4 548 (0 : Int32).toNatClampNeg) ||| ((1 : Int32) <<< (v1 &&& 31)))) (0 : Int32) S4))
set_option maxRecDepth 100000 in
theorem s0_m_lies {d : Nat} {S' : St} {r : Int32} (v1 : Int32) (v2 : Int32) (S : St) (h : m_lies v1 v2 S = some (r, S')) : RR KM (d + 1) 2490 0 [(0, .ref 500), (1, .int v1), (2, .int v2)] [] S (some (.int r)) S' := by
  unfold m_lies at h
  refine RR.runs (pc' := 5) (lc' := [(0, .ref 500), (1, .int v1), (2, .int v2)]) (st' := []) (S1 := (wI S 500 0 (0 : Int32))) (nL := 3) (cd := cd_2490) mx_2490 rfl rfl 3 rfl ?_
  obtain ⟨S1, eS1, h⟩ := ltE h
  rw [← eS1]
  refine RR.runs (pc' := 7) (lc' := [(0, .ref 500), (1, .int v1), (2, .int v2)]) (st' := [.int v1, .ref 500]) (S1 := S1) (nL := 3) (cd := cd_2490) mx_2490 rfl rfl 2 rfl ?_
  obtain ⟨r2, S3, h1, h⟩ := bnE h
  refine RR.callV (b := 500) (as := [.int v1]) (rest := []) (r1 := (some (.int r2))) (S1 := S3) mx_2490 rfl rfl mx_2455 rfl rfl (by decide) (Or.inl rfl) (Nat.le_of_ble_eq_true rfl) (Nat.le_of_ble_eq_true rfl) (RC.deep (by omega) (s_m_isApple (d := d) _ _ h1)) ?_
  show RR KM _ 2490 10 [(0, .ref 500), (1, .int v1), (2, .int v2)] [.int r2] S3 _ _
  refine RR.runs (pc' := icm .ne r2 0 15 13) (lc' := [(0, .ref 500), (1, .int v1), (2, .int v2)]) (st' := []) (S1 := S3) (nL := 3) (cd := cd_2490) mx_2490 rfl rfl 1 rfl ?_
  rcases ifE h with ⟨c, h⟩ | ⟨c, h⟩
  · refine RR.c_ne (fun _ => ?_) (fun q => absurd c q)
    refine RR.runs (pc' := 14) (lc' := [(0, .ref 500), (1, .int v1), (2, .int v2)]) (st' := [.int (0 : Int32)]) (S1 := S3) (nL := 3) (cd := cd_2490) mx_2490 rfl rfl 1 rfl ?_
    cases h
    exact RR.retz mx_2490 rfl rfl rfl rfl
  · refine RR.c_ne (fun q => absurd q c) (fun _ => ?_)
    refine RR.runs (pc' := 21) (lc' := [(0, .ref 500), (1, .int v1), (2, .int v2)]) (st' := [.int (0 : Int32), .ref 547, .int (0 : Int32), .ref 547]) (S1 := S3) (nL := 3) (cd := cd_2490) mx_2490 rfl rfl 4 rfl ?_
    obtain ⟨g, h⟩ := gnE h
    refine RR.gPN (c2 := (KM.1 547).1 = 1) (pc' := 22) (lc' := [(0, .ref 500), (1, .int v1), (2, .int v2)]) (st' := [.int ((rI S3 547 (0 : Int32).toNatClampNeg)), .int (0 : Int32), .ref 547]) (S1 := S3) (nL := 3) (cd := cd_2490) mx_2490 rfl rfl rfl rfl g ?_
    refine RR.runs (pc' := 26) (lc' := [(0, .ref 500), (1, .int v1), (2, .int v2)]) (st' := [.int (((rI S3 547 (0 : Int32).toNatClampNeg) ||| ((1 : Int32) <<< (v1 &&& 31)))), .int (0 : Int32), .ref 547]) (S1 := S3) (nL := 3) (cd := cd_2490) mx_2490 rfl rfl 4 rfl ?_
    obtain ⟨g, h⟩ := gnE h
    refine RR.gPN (c2 := (KM.1 547).1 = 1) (pc' := 27) (lc' := [(0, .ref 500), (1, .int v1), (2, .int v2)]) (st' := []) (S1 := (wI S3 547 (0 : Int32).toNatClampNeg (((rI S3 547 (0 : Int32).toNatClampNeg) ||| ((1 : Int32) <<< (v1 &&& 31)))))) (nL := 3) (cd := cd_2490) mx_2490 rfl rfl rfl rfl g ?_
    obtain ⟨S4, eS4, h⟩ := ltE h
    rw [← eS4]
    refine RR.runs (pc' := icm .eq v2 0 49 36) (lc' := [(0, .ref 500), (1, .int v1), (2, .int v2)]) (st' := [.int (0 : Int32), .ref 548]) (S1 := S4) (nL := 3) (cd := cd_2490) mx_2490 rfl rfl 5 rfl ?_
    rcases ifE h with ⟨c, h⟩ | ⟨c, h⟩
    · refine RR.c_eq (fun _ => ?_) (fun q => absurd c q)
      refine RR.runs (pc' := 54) (lc' := [(0, .ref 500), (1, .int v1), (2, .int v2)]) (st' := [.int (0 : Int32), .ref 548, .int (0 : Int32), .ref 548]) (S1 := S4) (nL := 3) (cd := cd_2490) mx_2490 rfl rfl 3 rfl ?_
      obtain ⟨g, h⟩ := gnE h
      refine RR.gPN (c2 := (KM.1 548).1 = 1) (pc' := 55) (lc' := [(0, .ref 500), (1, .int v1), (2, .int v2)]) (st' := [.int ((rI S4 548 (0 : Int32).toNatClampNeg)), .int (0 : Int32), .ref 548]) (S1 := S4) (nL := 3) (cd := cd_2490) mx_2490 rfl rfl rfl rfl g ?_
      refine RR.runs (pc' := 61) (lc' := [(0, .ref 500), (1, .int v1), (2, .int v2)]) (st' := [.int (((rI S4 548 (0 : Int32).toNatClampNeg) &&& (((1 : Int32) <<< (v1 &&& 31)) ^^^ (-1 : Int32)))), .int (0 : Int32), .ref 548]) (S1 := S4) (nL := 3) (cd := cd_2490) mx_2490 rfl rfl 6 rfl ?_
      refine RR.weak [] trivial ?_
      exact s_m_lies_61 _ _ _ h
    · refine RR.c_eq (fun q => absurd q c) (fun _ => ?_)
      refine RR.runs (pc' := 41) (lc' := [(0, .ref 500), (1, .int v1), (2, .int v2)]) (st' := [.int (0 : Int32), .ref 548, .int (0 : Int32), .ref 548]) (S1 := S4) (nL := 3) (cd := cd_2490) mx_2490 rfl rfl 3 rfl ?_
      obtain ⟨g, h⟩ := gnE h
      refine RR.gPN (c2 := (KM.1 548).1 = 1) (pc' := 42) (lc' := [(0, .ref 500), (1, .int v1), (2, .int v2)]) (st' := [.int ((rI S4 548 (0 : Int32).toNatClampNeg)), .int (0 : Int32), .ref 548]) (S1 := S4) (nL := 3) (cd := cd_2490) mx_2490 rfl rfl rfl rfl g ?_
      refine RR.runs (pc' := 61) (lc' := [(0, .ref 500), (1, .int v1), (2, .int v2)]) (st' := [.int (((rI S4 548 (0 : Int32).toNatClampNeg) ||| ((1 : Int32) <<< (v1 &&& 31)))), .int (0 : Int32), .ref 548]) (S1 := S4) (nL := 3) (cd := cd_2490) mx_2490 rfl rfl 5 rfl ?_
      refine RR.weak [] trivial ?_
      exact s_m_lies_61 _ _ _ h
theorem s_m_lies {d : Nat} {S' : St} {r : Int32} (v1 : Int32) (v2 : Int32) (S : St) (h : m_lies v1 v2 S = some (r, S')) : RC KM (d + 1) 2490 [.ref 500, .int v1, .int v2] S (some (.int r)) S' := RC.of rfl (s0_m_lies v1 v2 S h)
-- called (I)I
def m_called_184 (k54 : Int32 → Int32 → Int32 → Int32 → Int32 → St → Re Int32) (v1 : Int32) (v2 : Int32) (v3 : Int32) (v4 : Int32) (v5 : Int32) (S : St) : Re Int32 :=
  lt' ((v5 + (1 : Int32)) : Int32) fun x1 =>
  k54 v1 v2 v3 v4 x1 S
set_option maxRecDepth 100000 in
theorem s_m_called_184 {d : Nat} (k54 : Int32 → Int32 → Int32 → Int32 → Int32 → St → Re Int32) {S' : St} {r : Int32} (b54 : ∀ (v1 : Int32) (v2 : Int32) (v3 : Int32) (v4 : Int32) (v5 : Int32) (S : St), k54 v1 v2 v3 v4 v5 S = some (r, S') → RR KM (d + 3) 2491 54 [(0, .ref 500), (1, .int v1), (2, .int v2), (3, .int v3), (4, .int v4), (5, .int v5)] [] S (some (.int r)) S') (v1 : Int32) (v2 : Int32) (v3 : Int32) (v4 : Int32) (v5 : Int32) (S : St) (h : m_called_184 k54 v1 v2 v3 v4 v5 S = some (r, S')) : RR KM (d + 3) 2491 184 [(0, .ref 500), (1, .int v1), (2, .int v2), (3, .int v3), (4, .int v4), (5, .int v5)] [] S (some (.int r)) S' := by
  unfold m_called_184 at h
  refine RR.runs (pc' := 187) (lc' := [(5, .int ((v5 + (1 : Int32)))), (0, .ref 500), (1, .int v1), (2, .int v2), (3, .int v3), (4, .int v4)]) (st' := []) (S1 := S) (nL := 9) (cd := cd_2491) mx_2491 rfl rfl 1 rfl ?_
  obtain ⟨x1, ex1, h⟩ := ltE h
  rw [← ex1]
  refine RR.runs (pc' := 54) (lc' := [(5, .int x1), (0, .ref 500), (1, .int v1), (2, .int v2), (3, .int v3), (4, .int v4)]) (st' := []) (S1 := S) (nL := 9) (cd := cd_2491) mx_2491 rfl rfl 1 rfl ?_
  refine RR.weak [(0, .ref 500), (1, .int v1), (2, .int v2), (3, .int v3), (4, .int v4), (5, .int x1)] ⟨rfl, rfl, rfl, rfl, rfl, rfl, trivial⟩ ?_
  exact b54 _ _ _ _ _ _ h
def m_called_154 (k54 : Int32 → Int32 → Int32 → Int32 → Int32 → St → Re Int32) : Nat → Int32 → Int32 → Int32 → Int32 → Int32 → Int32 → Int32 → St → Re Int32
  | 0, _, _, _, _, _, _, _, _ => none
  | n + 1, v1, v2, v3, v4, v5, v6, v7, S =>
  if v7 < (10 : Int32) then (
    if v7 < 0 ∨ 10 ≤ v7.toNatClampNeg then none else
    if v7 < 0 ∨ 10 ≤ v7.toNatClampNeg then none else
    lt' (wI S 564 v7.toNatClampNeg (((rI S 564 v7.toNatClampNeg) + ((v6 >>> (v7 &&& 31)) &&& (1 : Int32))))) fun S1 =>
    lt' ((v7 + (1 : Int32)) : Int32) fun x2 =>
    m_called_154 k54 n v1 v2 v3 v4 v5 v6 x2 S1)
  else (
    m_called_184 k54 v1 v2 v3 v4 v5 S)
set_option maxRecDepth 100000 in
theorem s_m_called_154 {d : Nat} (k54 : Int32 → Int32 → Int32 → Int32 → Int32 → St → Re Int32) {S' : St} {r : Int32} (b54 : ∀ (v1 : Int32) (v2 : Int32) (v3 : Int32) (v4 : Int32) (v5 : Int32) (S : St), k54 v1 v2 v3 v4 v5 S = some (r, S') → RR KM (d + 3) 2491 54 [(0, .ref 500), (1, .int v1), (2, .int v2), (3, .int v3), (4, .int v4), (5, .int v5)] [] S (some (.int r)) S') : ∀ (n : Nat) (v1 : Int32) (v2 : Int32) (v3 : Int32) (v4 : Int32) (v5 : Int32) (v6 : Int32) (v7 : Int32) (S : St), m_called_154 k54 n v1 v2 v3 v4 v5 v6 v7 S = some (r, S') → RR KM (d + 3) 2491 154 [(0, .ref 500), (1, .int v1), (2, .int v2), (3, .int v3), (4, .int v4), (5, .int v5), (6, .int v6), (7, .int v7)] [] S (some (.int r)) S' := by
  intro n
  induction n with
  | zero => intro v1 v2 v3 v4 v5 v6 v7 S h; simp only [m_called_154] at h; cases h
  | succ n ih =>
    intro v1 v2 v3 v4 v5 v6 v7 S h
    simp only [m_called_154] at h
    refine RR.runs (pc' := icm .ge v7 (10 : Int32) 184 161) (lc' := [(0, .ref 500), (1, .int v1), (2, .int v2), (3, .int v3), (4, .int v4), (5, .int v5), (6, .int v6), (7, .int v7)]) (st' := []) (S1 := S) (nL := 9) (cd := cd_2491) mx_2491 rfl rfl 3 rfl ?_
    rcases ifE h with ⟨c, h⟩ | ⟨c, h⟩
    · refine RR.c_ge (fun _ => ?_) (fun q => absurd c q)
      refine RR.runs (pc' := 168) (lc' := [(0, .ref 500), (1, .int v1), (2, .int v2), (3, .int v3), (4, .int v4), (5, .int v5), (6, .int v6), (7, .int v7)]) (st' := [.int v7, .ref 564, .int v7, .ref 564]) (S1 := S) (nL := 9) (cd := cd_2491) mx_2491 rfl rfl 4 rfl ?_
      obtain ⟨g, h⟩ := gnE h
      refine RR.gPN (c2 := (KM.1 564).1 = 1) (pc' := 169) (lc' := [(0, .ref 500), (1, .int v1), (2, .int v2), (3, .int v3), (4, .int v4), (5, .int v5), (6, .int v6), (7, .int v7)]) (st' := [.int (rI S 564 v7.toNatClampNeg), .int v7, .ref 564]) (S1 := S) (nL := 9) (cd := cd_2491) mx_2491 rfl rfl rfl rfl g ?_
      refine RR.runs (pc' := 177) (lc' := [(0, .ref 500), (1, .int v1), (2, .int v2), (3, .int v3), (4, .int v4), (5, .int v5), (6, .int v6), (7, .int v7)]) (st' := [.int (((rI S 564 v7.toNatClampNeg) + ((v6 >>> (v7 &&& 31)) &&& (1 : Int32)))), .int v7, .ref 564]) (S1 := S) (nL := 9) (cd := cd_2491) mx_2491 rfl rfl 6 rfl ?_
      obtain ⟨g, h⟩ := gnE h
      refine RR.gPN (c2 := (KM.1 564).1 = 1) (pc' := 178) (lc' := [(0, .ref 500), (1, .int v1), (2, .int v2), (3, .int v3), (4, .int v4), (5, .int v5), (6, .int v6), (7, .int v7)]) (st' := []) (S1 := (wI S 564 v7.toNatClampNeg (((rI S 564 v7.toNatClampNeg) + ((v6 >>> (v7 &&& 31)) &&& (1 : Int32)))))) (nL := 9) (cd := cd_2491) mx_2491 rfl rfl rfl rfl g ?_
      obtain ⟨S1, eS1, h⟩ := ltE h
      rw [← eS1]
      refine RR.runs (pc' := 181) (lc' := [(7, .int ((v7 + (1 : Int32)))), (0, .ref 500), (1, .int v1), (2, .int v2), (3, .int v3), (4, .int v4), (5, .int v5), (6, .int v6)]) (st' := []) (S1 := S1) (nL := 9) (cd := cd_2491) mx_2491 rfl rfl 1 rfl ?_
      obtain ⟨x2, ex2, h⟩ := ltE h
      rw [← ex2]
      refine RR.runs (pc' := 154) (lc' := [(7, .int x2), (0, .ref 500), (1, .int v1), (2, .int v2), (3, .int v3), (4, .int v4), (5, .int v5), (6, .int v6)]) (st' := []) (S1 := S1) (nL := 9) (cd := cd_2491) mx_2491 rfl rfl 1 rfl ?_
      refine RR.weak [(0, .ref 500), (1, .int v1), (2, .int v2), (3, .int v3), (4, .int v4), (5, .int v5), (6, .int v6), (7, .int x2)] ⟨rfl, rfl, rfl, rfl, rfl, rfl, rfl, rfl, trivial⟩ ?_
      exact ih _ _ _ _ _ _ _ _ h
    · refine RR.c_ge (fun q => absurd q c) (fun _ => ?_)
      refine RR.weak [(0, .ref 500), (1, .int v1), (2, .int v2), (3, .int v3), (4, .int v4), (5, .int v5)] ⟨rfl, rfl, rfl, rfl, rfl, rfl, trivial⟩ ?_
      exact s_m_called_184 _ b54 _ _ _ _ _ _ h
def m_called_226 (p0 : Int32) (S : St) : Re Int32 :=
  some (p0, S)
set_option maxRecDepth 100000 in
theorem s_m_called_226 {d : Nat} {S' : St} {r : Int32} (p0 : Int32) (S : St) (h : m_called_226 p0 S = some (r, S')) : RR KM (d + 3) 2491 226 [] [.int p0] S (some (.int r)) S' := by
  unfold m_called_226 at h
  cases h
  exact RR.reti mx_2491 rfl rfl rfl
def m_called_199 (v1 : Int32) (v2 : Int32) (v3 : Int32) (v4 : Int32) (S : St) : Re Int32 :=
  if v1 = 0 then (
    m_called_226 v2 S)
  else (
    if v2 = 0 then (
      m_called_226 (-1 : Int32) S)
    else (
      if v1 = (1 : Int32) then (
        m_called_226 v3 S)
      else (
        m_called_226 v4 S)))
set_option maxRecDepth 100000 in
theorem s_m_called_199 {d : Nat} {S' : St} {r : Int32} (v1 : Int32) (v2 : Int32) (v3 : Int32) (v4 : Int32) (S : St) (h : m_called_199 v1 v2 v3 v4 S = some (r, S')) : RR KM (d + 3) 2491 199 [(1, .int v1), (2, .int v2), (3, .int v3), (4, .int v4)] [] S (some (.int r)) S' := by
  unfold m_called_199 at h
  refine RR.runs (pc' := icm .ne v1 0 207 203) (lc' := [(1, .int v1), (2, .int v2), (3, .int v3), (4, .int v4)]) (st' := []) (S1 := S) (nL := 9) (cd := cd_2491) mx_2491 rfl rfl 2 rfl ?_
  rcases ifE h with ⟨c, h⟩ | ⟨c, h⟩
  · refine RR.c_ne (fun _ => ?_) (fun q => absurd c q)
    refine RR.runs (pc' := 226) (lc' := [(1, .int v1), (2, .int v2), (3, .int v3), (4, .int v4)]) (st' := [.int v2]) (S1 := S) (nL := 9) (cd := cd_2491) mx_2491 rfl rfl 2 rfl ?_
    refine RR.weak [] trivial ?_
    exact s_m_called_226 _ _ h
  · refine RR.c_ne (fun q => absurd q c) (fun _ => ?_)
    refine RR.runs (pc' := icm .ne v2 0 215 211) (lc' := [(1, .int v1), (2, .int v2), (3, .int v3), (4, .int v4)]) (st' := []) (S1 := S) (nL := 9) (cd := cd_2491) mx_2491 rfl rfl 2 rfl ?_
    rcases ifE h with ⟨c, h⟩ | ⟨c, h⟩
    · refine RR.c_ne (fun _ => ?_) (fun q => absurd c q)
      refine RR.runs (pc' := 226) (lc' := [(1, .int v1), (2, .int v2), (3, .int v3), (4, .int v4)]) (st' := [.int (-1 : Int32)]) (S1 := S) (nL := 9) (cd := cd_2491) mx_2491 rfl rfl 2 rfl ?_
      refine RR.weak [] trivial ?_
      exact s_m_called_226 _ _ h
    · refine RR.c_ne (fun q => absurd q c) (fun _ => ?_)
      refine RR.runs (pc' := icm .ne v1 (1 : Int32) 224 220) (lc' := [(1, .int v1), (2, .int v2), (3, .int v3), (4, .int v4)]) (st' := []) (S1 := S) (nL := 9) (cd := cd_2491) mx_2491 rfl rfl 3 rfl ?_
      rcases ifE h with ⟨c, h⟩ | ⟨c, h⟩
      · refine RR.c_ne (fun _ => ?_) (fun q => absurd c q)
        refine RR.runs (pc' := 226) (lc' := [(1, .int v1), (2, .int v2), (3, .int v3), (4, .int v4)]) (st' := [.int v3]) (S1 := S) (nL := 9) (cd := cd_2491) mx_2491 rfl rfl 2 rfl ?_
        refine RR.weak [] trivial ?_
        exact s_m_called_226 _ _ h
      · refine RR.c_ne (fun q => absurd q c) (fun _ => ?_)
        refine RR.runs (pc' := 226) (lc' := [(1, .int v1), (2, .int v2), (3, .int v3), (4, .int v4)]) (st' := [.int v4]) (S1 := S) (nL := 9) (cd := cd_2491) mx_2491 rfl rfl 1 rfl ?_
        refine RR.weak [] trivial ?_
        exact s_m_called_226 _ _ h
def m_called_310 (k236 : Int32 → Int32 → Int32 → Int32 → St → Re Int32) (v2 : Int32) (v5 : Int32) (v6 : Int32) (v7 : Int32) (S : St) : Re Int32 :=
  lt' ((v7 + (1 : Int32)) : Int32) fun x1 =>
  k236 v2 v5 v6 x1 S
set_option maxRecDepth 100000 in
theorem s_m_called_310 {d : Nat} (k236 : Int32 → Int32 → Int32 → Int32 → St → Re Int32) {S' : St} {r : Int32} (b236 : ∀ (v2 : Int32) (v5 : Int32) (v6 : Int32) (v7 : Int32) (S : St), k236 v2 v5 v6 v7 S = some (r, S') → RR KM (d + 3) 2491 236 [(0, .ref 500), (2, .int v2), (5, .int v5), (6, .int v6), (7, .int v7)] [] S (some (.int r)) S') (v2 : Int32) (v5 : Int32) (v6 : Int32) (v7 : Int32) (S : St) (h : m_called_310 k236 v2 v5 v6 v7 S = some (r, S')) : RR KM (d + 3) 2491 310 [(0, .ref 500), (2, .int v2), (5, .int v5), (6, .int v6), (7, .int v7)] [] S (some (.int r)) S' := by
  unfold m_called_310 at h
  refine RR.runs (pc' := 313) (lc' := [(7, .int ((v7 + (1 : Int32)))), (0, .ref 500), (2, .int v2), (5, .int v5), (6, .int v6)]) (st' := []) (S1 := S) (nL := 9) (cd := cd_2491) mx_2491 rfl rfl 1 rfl ?_
  obtain ⟨x1, ex1, h⟩ := ltE h
  rw [← ex1]
  refine RR.runs (pc' := 236) (lc' := [(7, .int x1), (0, .ref 500), (2, .int v2), (5, .int v5), (6, .int v6)]) (st' := []) (S1 := S) (nL := 9) (cd := cd_2491) mx_2491 rfl rfl 1 rfl ?_
  refine RR.weak [(0, .ref 500), (2, .int v2), (5, .int v5), (6, .int v6), (7, .int x1)] ⟨rfl, rfl, rfl, rfl, rfl, trivial⟩ ?_
  exact b236 _ _ _ _ _ h
def m_called_316 (v5 : Int32) (S : St) : Re Int32 :=
  some (v5, S)
set_option maxRecDepth 100000 in
theorem s_m_called_316 {d : Nat} {S' : St} {r : Int32} (v5 : Int32) (S : St) (h : m_called_316 v5 S = some (r, S')) : RR KM (d + 3) 2491 316 [(5, .int v5)] [] S (some (.int r)) S' := by
  unfold m_called_316 at h
  refine RR.runs (pc' := 318) (lc' := [(5, .int v5)]) (st' := [.int v5]) (S1 := S) (nL := 9) (cd := cd_2491) mx_2491 rfl rfl 1 rfl ?_
  cases h
  exact RR.reti mx_2491 rfl rfl rfl
def m_called_236 : Nat → Int32 → Int32 → Int32 → Int32 → St → Re Int32
  | 0, _, _, _, _, _ => none
  | n + 1, v2, v5, v6, v7, S =>
  if (0 : Int32) < 0 ∨ 12 ≤ (0 : Int32).toNatClampNeg then none else
  if v7 < (rI S 502 (0 : Int32).toNatClampNeg) then (
    if v7 < 0 ∨ 10 ≤ v7.toNatClampNeg then none else
    if v7 < 0 ∨ 10 ≤ v7.toNatClampNeg then none else
    bn (m_min (rI S 564 v7.toNatClampNeg) ((v2 - (rI S 564 v7.toNatClampNeg))) S) fun r1 S2 =>
    bn (m_hangs v7 S2) fun r3 S4 =>
    if r3 = 0 then (
      m_called_310 (m_called_236 n) v2 v5 v6 v7 S4)
    else (
      if (0 : Int32) < 0 ∨ 5 ≤ (0 : Int32).toNatClampNeg then none else
      if (((rI S4 547 (0 : Int32).toNatClampNeg) >>> (v7 &&& 31)) &&& (1 : Int32)) = (1 : Int32) then (
        m_called_310 (m_called_236 n) v2 v5 v6 v7 S4)
      else (
        if v6 < r1 then (
          m_called_310 (m_called_236 n) v2 v7 r1 v7 S4)
        else (
          m_called_310 (m_called_236 n) v2 v5 v6 v7 S4))))
  else (
    m_called_316 v5 S)
set_option maxRecDepth 100000 in
theorem s_m_called_236 {d : Nat} {S' : St} {r : Int32} : ∀ (n : Nat) (v2 : Int32) (v5 : Int32) (v6 : Int32) (v7 : Int32) (S : St), m_called_236 n v2 v5 v6 v7 S = some (r, S') → RR KM (d + 3) 2491 236 [(0, .ref 500), (2, .int v2), (5, .int v5), (6, .int v6), (7, .int v7)] [] S (some (.int r)) S' := by
  intro n
  induction n with
  | zero => intro v2 v5 v6 v7 S h; simp only [m_called_236] at h; cases h
  | succ n ih =>
    intro v2 v5 v6 v7 S h
    simp only [m_called_236] at h
    refine RR.runs (pc' := 243) (lc' := [(0, .ref 500), (2, .int v2), (5, .int v5), (6, .int v6), (7, .int v7)]) (st' := [.int (0 : Int32), .ref 502, .int v7]) (S1 := S) (nL := 9) (cd := cd_2491) mx_2491 rfl rfl 4 rfl ?_
    obtain ⟨g, h⟩ := gnE h
    refine RR.gPN (c2 := (KM.1 502).1 = 1) (pc' := 244) (lc' := [(0, .ref 500), (2, .int v2), (5, .int v5), (6, .int v6), (7, .int v7)]) (st' := [.int ((rI S 502 (0 : Int32).toNatClampNeg)), .int v7]) (S1 := S) (nL := 9) (cd := cd_2491) mx_2491 rfl rfl rfl rfl g ?_
    refine RR.runs (pc' := icm .ge v7 ((rI S 502 (0 : Int32).toNatClampNeg)) 316 247) (lc' := [(0, .ref 500), (2, .int v2), (5, .int v5), (6, .int v6), (7, .int v7)]) (st' := []) (S1 := S) (nL := 9) (cd := cd_2491) mx_2491 rfl rfl 1 rfl ?_
    rcases ifE h with ⟨c, h⟩ | ⟨c, h⟩
    · refine RR.c_ge (fun _ => ?_) (fun q => absurd c q)
      refine RR.runs (pc' := 253) (lc' := [(0, .ref 500), (2, .int v2), (5, .int v5), (6, .int v6), (7, .int v7)]) (st' := [.int v7, .ref 564]) (S1 := S) (nL := 9) (cd := cd_2491) mx_2491 rfl rfl 3 rfl ?_
      obtain ⟨g, h⟩ := gnE h
      refine RR.gPN (c2 := (KM.1 564).1 = 1) (pc' := 254) (lc' := [(0, .ref 500), (2, .int v2), (5, .int v5), (6, .int v6), (7, .int v7)]) (st' := [.int (rI S 564 v7.toNatClampNeg)]) (S1 := S) (nL := 9) (cd := cd_2491) mx_2491 rfl rfl rfl rfl g ?_
      refine RR.runs (pc' := 261) (lc' := [(0, .ref 500), (2, .int v2), (5, .int v5), (6, .int v6), (7, .int v7)]) (st' := [.int v7, .ref 564, .int v2, .int (rI S 564 v7.toNatClampNeg)]) (S1 := S) (nL := 9) (cd := cd_2491) mx_2491 rfl rfl 4 rfl ?_
      obtain ⟨g, h⟩ := gnE h
      refine RR.gPN (c2 := (KM.1 564).1 = 1) (pc' := 262) (lc' := [(0, .ref 500), (2, .int v2), (5, .int v5), (6, .int v6), (7, .int v7)]) (st' := [.int (rI S 564 v7.toNatClampNeg), .int v2, .int (rI S 564 v7.toNatClampNeg)]) (S1 := S) (nL := 9) (cd := cd_2491) mx_2491 rfl rfl rfl rfl g ?_
      refine RR.runs (pc' := 263) (lc' := [(0, .ref 500), (2, .int v2), (5, .int v5), (6, .int v6), (7, .int v7)]) (st' := [.int ((v2 - (rI S 564 v7.toNatClampNeg))), .int (rI S 564 v7.toNatClampNeg)]) (S1 := S) (nL := 9) (cd := cd_2491) mx_2491 rfl rfl 1 rfl ?_
      obtain ⟨r1, S2, h1, h⟩ := bnE h
      refine RR.callS (as := [.int (rI S 564 v7.toNatClampNeg), .int ((v2 - (rI S 564 v7.toNatClampNeg)))]) (rest := []) (r1 := (some (.int r1))) (S1 := S2) mx_2491 rfl rfl mx_2600 rfl rfl (by decide) (Nat.le_of_ble_eq_true rfl) (Nat.le_of_ble_eq_true rfl) (Nat.le_of_ble_eq_true rfl) (RC.deep (by omega) (s_m_min (d := d) _ _ _ h1)) ?_
      show RR KM _ 2491 266 [(0, .ref 500), (2, .int v2), (5, .int v5), (6, .int v6), (7, .int v7)] [.int r1] S2 _ _
      refine RR.runs (pc' := 271) (lc' := [(8, .int r1), (0, .ref 500), (2, .int v2), (5, .int v5), (6, .int v6), (7, .int v7)]) (st' := [.int v7, .ref 500]) (S1 := S2) (nL := 9) (cd := cd_2491) mx_2491 rfl rfl 3 rfl ?_
      obtain ⟨r3, S4, h1, h⟩ := bnE h
      refine RR.callV (b := 500) (as := [.int v7]) (rest := []) (r1 := (some (.int r3))) (S1 := S4) mx_2491 rfl rfl mx_2458 rfl rfl (by decide) (Or.inl rfl) (Nat.le_of_ble_eq_true rfl) (Nat.le_of_ble_eq_true rfl) (RC.deep (by omega) (s_m_hangs (d := d) _ _ h1)) ?_
      show RR KM _ 2491 274 [(8, .int r1), (0, .ref 500), (2, .int v2), (5, .int v5), (6, .int v6), (7, .int v7)] [.int r3] S4 _ _
      refine RR.runs (pc' := icm .eq r3 0 310 277) (lc' := [(8, .int r1), (0, .ref 500), (2, .int v2), (5, .int v5), (6, .int v6), (7, .int v7)]) (st' := []) (S1 := S4) (nL := 9) (cd := cd_2491) mx_2491 rfl rfl 1 rfl ?_
      rcases ifE h with ⟨c, h⟩ | ⟨c, h⟩
      · refine RR.c_eq (fun _ => ?_) (fun q => absurd c q)
        refine RR.weak [(0, .ref 500), (2, .int v2), (5, .int v5), (6, .int v6), (7, .int v7)] ⟨rfl, rfl, rfl, rfl, rfl, trivial⟩ ?_
        exact s_m_called_310 _ (fun _ _ _ _ S h => ih _ _ _ _ S h) _ _ _ _ _ h
      · refine RR.c_eq (fun q => absurd q c) (fun _ => ?_)
        refine RR.runs (pc' := 282) (lc' := [(8, .int r1), (0, .ref 500), (2, .int v2), (5, .int v5), (6, .int v6), (7, .int v7)]) (st' := [.int (0 : Int32), .ref 547]) (S1 := S4) (nL := 9) (cd := cd_2491) mx_2491 rfl rfl 3 rfl ?_
        obtain ⟨g, h⟩ := gnE h
        refine RR.gPN (c2 := (KM.1 547).1 = 1) (pc' := 283) (lc' := [(8, .int r1), (0, .ref 500), (2, .int v2), (5, .int v5), (6, .int v6), (7, .int v7)]) (st' := [.int ((rI S4 547 (0 : Int32).toNatClampNeg))]) (S1 := S4) (nL := 9) (cd := cd_2491) mx_2491 rfl rfl rfl rfl g ?_
        refine RR.runs (pc' := icm .eq ((((rI S4 547 (0 : Int32).toNatClampNeg) >>> (v7 &&& 31)) &&& (1 : Int32))) (1 : Int32) 310 292) (lc' := [(8, .int r1), (0, .ref 500), (2, .int v2), (5, .int v5), (6, .int v6), (7, .int v7)]) (st' := []) (S1 := S4) (nL := 9) (cd := cd_2491) mx_2491 rfl rfl 6 rfl ?_
        rcases ifE h with ⟨c, h⟩ | ⟨c, h⟩
        · refine RR.c_eq (fun _ => ?_) (fun q => absurd c q)
          refine RR.weak [(0, .ref 500), (2, .int v2), (5, .int v5), (6, .int v6), (7, .int v7)] ⟨rfl, rfl, rfl, rfl, rfl, trivial⟩ ?_
          exact s_m_called_310 _ (fun _ _ _ _ S h => ih _ _ _ _ S h) _ _ _ _ _ h
        · refine RR.c_eq (fun q => absurd q c) (fun _ => ?_)
          refine RR.runs (pc' := icm .gt r1 v6 302 299) (lc' := [(8, .int r1), (0, .ref 500), (2, .int v2), (5, .int v5), (6, .int v6), (7, .int v7)]) (st' := []) (S1 := S4) (nL := 9) (cd := cd_2491) mx_2491 rfl rfl 3 rfl ?_
          rcases ifE h with ⟨c, h⟩ | ⟨c, h⟩
          · refine RR.c_gt (fun _ => ?_) (fun q => absurd c q)
            refine RR.runs (pc' := 310) (lc' := [(5, .int v7), (6, .int r1), (8, .int r1), (0, .ref 500), (2, .int v2), (7, .int v7)]) (st' := []) (S1 := S4) (nL := 9) (cd := cd_2491) mx_2491 rfl rfl 4 rfl ?_
            refine RR.weak [(0, .ref 500), (2, .int v2), (5, .int v7), (6, .int r1), (7, .int v7)] ⟨rfl, rfl, rfl, rfl, rfl, trivial⟩ ?_
            exact s_m_called_310 _ (fun _ _ _ _ S h => ih _ _ _ _ S h) _ _ _ _ _ h
          · refine RR.c_gt (fun q => absurd q c) (fun _ => ?_)
            refine RR.runs (pc' := 310) (lc' := [(8, .int r1), (0, .ref 500), (2, .int v2), (5, .int v5), (6, .int v6), (7, .int v7)]) (st' := []) (S1 := S4) (nL := 9) (cd := cd_2491) mx_2491 rfl rfl 1 rfl ?_
            refine RR.weak [(0, .ref 500), (2, .int v2), (5, .int v5), (6, .int v6), (7, .int v7)] ⟨rfl, rfl, rfl, rfl, rfl, trivial⟩ ?_
            exact s_m_called_310 _ (fun _ _ _ _ S h => ih _ _ _ _ S h) _ _ _ _ _ h
    · refine RR.c_ge (fun q => absurd q c) (fun _ => ?_)
      refine RR.weak [(5, .int v5)] ⟨rfl, trivial⟩ ?_
      exact s_m_called_316 _ _ h
def m_called_190 (v1 : Int32) (v2 : Int32) (v3 : Int32) (v4 : Int32) (S : St) : Re Int32 :=
  if v2 = 0 then (
    m_called_199 v1 v2 v3 v4 S)
  else (
    if v1 < (3 : Int32) then (
      m_called_199 v1 v2 v3 v4 S)
    else (
      m_called_236 FU v2 (-1 : Int32) (0 : Int32) (0 : Int32) S))
set_option maxRecDepth 100000 in
theorem s_m_called_190 {d : Nat} {S' : St} {r : Int32} (v1 : Int32) (v2 : Int32) (v3 : Int32) (v4 : Int32) (S : St) (h : m_called_190 v1 v2 v3 v4 S = some (r, S')) : RR KM (d + 3) 2491 190 [(0, .ref 500), (1, .int v1), (2, .int v2), (3, .int v3), (4, .int v4)] [] S (some (.int r)) S' := by
  unfold m_called_190 at h
  refine RR.runs (pc' := icm .eq v2 0 199 194) (lc' := [(0, .ref 500), (1, .int v1), (2, .int v2), (3, .int v3), (4, .int v4)]) (st' := []) (S1 := S) (nL := 9) (cd := cd_2491) mx_2491 rfl rfl 2 rfl ?_
  rcases ifE h with ⟨c, h⟩ | ⟨c, h⟩
  · refine RR.c_eq (fun _ => ?_) (fun q => absurd c q)
    refine RR.weak [(1, .int v1), (2, .int v2), (3, .int v3), (4, .int v4)] ⟨rfl, rfl, rfl, rfl, trivial⟩ ?_
    exact s_m_called_199 _ _ _ _ _ h
  · refine RR.c_eq (fun q => absurd q c) (fun _ => ?_)
    refine RR.runs (pc' := icm .ge v1 (3 : Int32) 227 199) (lc' := [(0, .ref 500), (1, .int v1), (2, .int v2), (3, .int v3), (4, .int v4)]) (st' := []) (S1 := S) (nL := 9) (cd := cd_2491) mx_2491 rfl rfl 3 rfl ?_
    rcases ifE h with ⟨c, h⟩ | ⟨c, h⟩
    · refine RR.c_ge (fun _ => ?_) (fun q => absurd c q)
      refine RR.weak [(1, .int v1), (2, .int v2), (3, .int v3), (4, .int v4)] ⟨rfl, rfl, rfl, rfl, trivial⟩ ?_
      exact s_m_called_199 _ _ _ _ _ h
    · refine RR.c_ge (fun q => absurd q c) (fun _ => ?_)
      refine RR.runs (pc' := 236) (lc' := [(7, .int (0 : Int32)), (6, .int (0 : Int32)), (5, .int (-1 : Int32)), (0, .ref 500), (1, .int v1), (2, .int v2), (3, .int v3), (4, .int v4)]) (st' := []) (S1 := S) (nL := 9) (cd := cd_2491) mx_2491 rfl rfl 6 rfl ?_
      refine RR.weak [(0, .ref 500), (2, .int v2), (5, .int (-1 : Int32)), (6, .int (0 : Int32)), (7, .int (0 : Int32))] ⟨rfl, rfl, rfl, rfl, rfl, trivial⟩ ?_
      exact s_m_called_236 _ _ _ _ _ _ h
def m_called_54 : Nat → Int32 → Int32 → Int32 → Int32 → Int32 → St → Re Int32
  | 0, _, _, _, _, _, _ => none
  | n + 1, v1, v2, v3, v4, v5, S =>
  if v5 < (rI S 500 77) then (
    if (0 : Int32) < 0 ∨ 15 ≤ (0 : Int32).toNatClampNeg then none else
    if (1 : Int32) < 0 ∨ 15 ≤ (1 : Int32).toNatClampNeg then none else
    if v5 < 0 ∨ 80 ≤ v5.toNatClampNeg then none else
    if v5 < 0 ∨ 80 ≤ v5.toNatClampNeg then none else
    bn (m_fallsBy ((rI S 553 (0 : Int32).toNatClampNeg)) ((rI S 553 (1 : Int32).toNatClampNeg)) (rI S 558 v5.toNatClampNeg) (rI S 559 v5.toNatClampNeg) S) fun r1 S2 =>
    if (0 : Int32) < 0 ∨ 5 ≤ (0 : Int32).toNatClampNeg then none else
    if (0 : Int32) < 0 ∨ 5 ≤ (0 : Int32).toNatClampNeg then none else
    if (r1 &&& (rI S2 547 (0 : Int32).toNatClampNeg)) = (rI S2 548 (0 : Int32).toNatClampNeg) then (
      lt' ((v2 + (1 : Int32)) : Int32) fun x3 =>
      if v5 < 0 ∨ 80 ≤ v5.toNatClampNeg then none else
      lt' ((v3 ||| ((1 : Int32) <<< (((rI S2 560 v5.toNatClampNeg) - (rI S2 560 v5.toNatClampNeg) / (16 : Int32) * (16 : Int32)) &&& 31))) : Int32) fun x4 =>
      if v5 < 0 ∨ 80 ≤ v5.toNatClampNeg then none else
      lt' ((v4 ||| ((1 : Int32) <<< (((rI S2 560 v5.toNatClampNeg) / (16 : Int32)) &&& 31))) : Int32) fun x5 =>
      m_called_154 (m_called_54 n) FU v1 x3 x4 x5 v5 r1 (0 : Int32) S2)
    else (
      m_called_184 (m_called_54 n) v1 v2 v3 v4 v5 S2))
  else (
    m_called_190 v1 v2 v3 v4 S)
set_option maxRecDepth 100000 in
theorem s_m_called_54 {d : Nat} {S' : St} {r : Int32} : ∀ (n : Nat) (v1 : Int32) (v2 : Int32) (v3 : Int32) (v4 : Int32) (v5 : Int32) (S : St), m_called_54 n v1 v2 v3 v4 v5 S = some (r, S') → RR KM (d + 3) 2491 54 [(0, .ref 500), (1, .int v1), (2, .int v2), (3, .int v3), (4, .int v4), (5, .int v5)] [] S (some (.int r)) S' := by
  intro n
  induction n with
  | zero => intro v1 v2 v3 v4 v5 S h; simp only [m_called_54] at h; cases h
  | succ n ih =>
    intro v1 v2 v3 v4 v5 S h
    simp only [m_called_54] at h
    refine RR.runs (pc' := icm .ge v5 (rI S 500 77) 190 63) (lc' := [(0, .ref 500), (1, .int v1), (2, .int v2), (3, .int v3), (4, .int v4), (5, .int v5)]) (st' := []) (S1 := S) (nL := 9) (cd := cd_2491) mx_2491 rfl rfl 4 rfl ?_
    rcases ifE h with ⟨c, h⟩ | ⟨c, h⟩
    · refine RR.c_ge (fun _ => ?_) (fun q => absurd c q)
      refine RR.runs (pc' := 69) (lc' := [(0, .ref 500), (1, .int v1), (2, .int v2), (3, .int v3), (4, .int v4), (5, .int v5)]) (st' := [.int (0 : Int32), .ref 553, .ref 500]) (S1 := S) (nL := 9) (cd := cd_2491) mx_2491 rfl rfl 4 rfl ?_
      obtain ⟨g, h⟩ := gnE h
      refine RR.gPN (c2 := (KM.1 553).1 = 1) (pc' := 70) (lc' := [(0, .ref 500), (1, .int v1), (2, .int v2), (3, .int v3), (4, .int v4), (5, .int v5)]) (st' := [.int ((rI S 553 (0 : Int32).toNatClampNeg)), .ref 500]) (S1 := S) (nL := 9) (cd := cd_2491) mx_2491 rfl rfl rfl rfl g ?_
      refine RR.runs (pc' := 75) (lc' := [(0, .ref 500), (1, .int v1), (2, .int v2), (3, .int v3), (4, .int v4), (5, .int v5)]) (st' := [.int (1 : Int32), .ref 553, .int ((rI S 553 (0 : Int32).toNatClampNeg)), .ref 500]) (S1 := S) (nL := 9) (cd := cd_2491) mx_2491 rfl rfl 3 rfl ?_
      obtain ⟨g, h⟩ := gnE h
      refine RR.gPN (c2 := (KM.1 553).1 = 1) (pc' := 76) (lc' := [(0, .ref 500), (1, .int v1), (2, .int v2), (3, .int v3), (4, .int v4), (5, .int v5)]) (st' := [.int ((rI S 553 (1 : Int32).toNatClampNeg)), .int ((rI S 553 (0 : Int32).toNatClampNeg)), .ref 500]) (S1 := S) (nL := 9) (cd := cd_2491) mx_2491 rfl rfl rfl rfl g ?_
      refine RR.runs (pc' := 82) (lc' := [(0, .ref 500), (1, .int v1), (2, .int v2), (3, .int v3), (4, .int v4), (5, .int v5)]) (st' := [.int v5, .ref 558, .int ((rI S 553 (1 : Int32).toNatClampNeg)), .int ((rI S 553 (0 : Int32).toNatClampNeg)), .ref 500]) (S1 := S) (nL := 9) (cd := cd_2491) mx_2491 rfl rfl 3 rfl ?_
      obtain ⟨g, h⟩ := gnE h
      refine RR.gPN (c2 := (KM.1 558).1 = 1) (pc' := 83) (lc' := [(0, .ref 500), (1, .int v1), (2, .int v2), (3, .int v3), (4, .int v4), (5, .int v5)]) (st' := [.int (rI S 558 v5.toNatClampNeg), .int ((rI S 553 (1 : Int32).toNatClampNeg)), .int ((rI S 553 (0 : Int32).toNatClampNeg)), .ref 500]) (S1 := S) (nL := 9) (cd := cd_2491) mx_2491 rfl rfl rfl rfl g ?_
      refine RR.runs (pc' := 89) (lc' := [(0, .ref 500), (1, .int v1), (2, .int v2), (3, .int v3), (4, .int v4), (5, .int v5)]) (st' := [.int v5, .ref 559, .int (rI S 558 v5.toNatClampNeg), .int ((rI S 553 (1 : Int32).toNatClampNeg)), .int ((rI S 553 (0 : Int32).toNatClampNeg)), .ref 500]) (S1 := S) (nL := 9) (cd := cd_2491) mx_2491 rfl rfl 3 rfl ?_
      obtain ⟨g, h⟩ := gnE h
      refine RR.gPN (c2 := (KM.1 559).1 = 1) (pc' := 90) (lc' := [(0, .ref 500), (1, .int v1), (2, .int v2), (3, .int v3), (4, .int v4), (5, .int v5)]) (st' := [.int (rI S 559 v5.toNatClampNeg), .int (rI S 558 v5.toNatClampNeg), .int ((rI S 553 (1 : Int32).toNatClampNeg)), .int ((rI S 553 (0 : Int32).toNatClampNeg)), .ref 500]) (S1 := S) (nL := 9) (cd := cd_2491) mx_2491 rfl rfl rfl rfl g ?_
      obtain ⟨r1, S2, h1, h⟩ := bnE h
      refine RR.callV (b := 500) (as := [.int ((rI S 553 (0 : Int32).toNatClampNeg)), .int ((rI S 553 (1 : Int32).toNatClampNeg)), .int (rI S 558 v5.toNatClampNeg), .int (rI S 559 v5.toNatClampNeg)]) (rest := []) (r1 := (some (.int r1))) (S1 := S2) mx_2491 rfl rfl mx_2466 rfl rfl (by decide) (Or.inl rfl) (Nat.le_of_ble_eq_true rfl) (Nat.le_of_ble_eq_true rfl) (RC.deep (by omega) (s_m_fallsBy (d := d) _ _ _ _ _ h1)) ?_
      show RR KM _ 2491 93 [(0, .ref 500), (1, .int v1), (2, .int v2), (3, .int v3), (4, .int v4), (5, .int v5)] [.int r1] S2 _ _
      refine RR.runs (pc' := 102) (lc' := [(6, .int r1), (0, .ref 500), (1, .int v1), (2, .int v2), (3, .int v3), (4, .int v4), (5, .int v5)]) (st' := [.int (0 : Int32), .ref 547, .int r1]) (S1 := S2) (nL := 9) (cd := cd_2491) mx_2491 rfl rfl 5 rfl ?_
      obtain ⟨g, h⟩ := gnE h
      refine RR.gPN (c2 := (KM.1 547).1 = 1) (pc' := 103) (lc' := [(6, .int r1), (0, .ref 500), (1, .int v1), (2, .int v2), (3, .int v3), (4, .int v4), (5, .int v5)]) (st' := [.int ((rI S2 547 (0 : Int32).toNatClampNeg)), .int r1]) (S1 := S2) (nL := 9) (cd := cd_2491) mx_2491 rfl rfl rfl rfl g ?_
      refine RR.runs (pc' := 109) (lc' := [(6, .int r1), (0, .ref 500), (1, .int v1), (2, .int v2), (3, .int v3), (4, .int v4), (5, .int v5)]) (st' := [.int (0 : Int32), .ref 548, .int ((r1 &&& (rI S2 547 (0 : Int32).toNatClampNeg)))]) (S1 := S2) (nL := 9) (cd := cd_2491) mx_2491 rfl rfl 4 rfl ?_
      obtain ⟨g, h⟩ := gnE h
      refine RR.gPN (c2 := (KM.1 548).1 = 1) (pc' := 110) (lc' := [(6, .int r1), (0, .ref 500), (1, .int v1), (2, .int v2), (3, .int v3), (4, .int v4), (5, .int v5)]) (st' := [.int ((rI S2 548 (0 : Int32).toNatClampNeg)), .int ((r1 &&& (rI S2 547 (0 : Int32).toNatClampNeg)))]) (S1 := S2) (nL := 9) (cd := cd_2491) mx_2491 rfl rfl rfl rfl g ?_
      refine RR.runs (pc' := icm .eq ((r1 &&& (rI S2 547 (0 : Int32).toNatClampNeg))) ((rI S2 548 (0 : Int32).toNatClampNeg)) 116 113) (lc' := [(6, .int r1), (0, .ref 500), (1, .int v1), (2, .int v2), (3, .int v3), (4, .int v4), (5, .int v5)]) (st' := []) (S1 := S2) (nL := 9) (cd := cd_2491) mx_2491 rfl rfl 1 rfl ?_
      rcases ifE h with ⟨c, h⟩ | ⟨c, h⟩
      · refine RR.c_eq (fun _ => ?_) (fun q => absurd c q)
        refine RR.runs (pc' := 119) (lc' := [(2, .int ((v2 + (1 : Int32)))), (6, .int r1), (0, .ref 500), (1, .int v1), (3, .int v3), (4, .int v4), (5, .int v5)]) (st' := []) (S1 := S2) (nL := 9) (cd := cd_2491) mx_2491 rfl rfl 1 rfl ?_
        obtain ⟨x3, ex3, h⟩ := ltE h
        rw [← ex3]
        refine RR.runs (pc' := 127) (lc' := [(2, .int x3), (6, .int r1), (0, .ref 500), (1, .int v1), (3, .int v3), (4, .int v4), (5, .int v5)]) (st' := [.int v5, .ref 560, .int (1 : Int32), .int v3]) (S1 := S2) (nL := 9) (cd := cd_2491) mx_2491 rfl rfl 5 rfl ?_
        obtain ⟨g, h⟩ := gnE h
        refine RR.gPN (c2 := (KM.1 560).1 = 1) (pc' := 128) (lc' := [(2, .int x3), (6, .int r1), (0, .ref 500), (1, .int v1), (3, .int v3), (4, .int v4), (5, .int v5)]) (st' := [.int (rI S2 560 v5.toNatClampNeg), .int (1 : Int32), .int v3]) (S1 := S2) (nL := 9) (cd := cd_2491) mx_2491 rfl rfl rfl rfl g ?_
        refine RR.runs (pc' := 134) (lc' := [(3, .int ((v3 ||| ((1 : Int32) <<< (((rI S2 560 v5.toNatClampNeg) - (rI S2 560 v5.toNatClampNeg) / (16 : Int32) * (16 : Int32)) &&& 31))))), (2, .int x3), (6, .int r1), (0, .ref 500), (1, .int v1), (4, .int v4), (5, .int v5)]) (st' := []) (S1 := S2) (nL := 9) (cd := cd_2491) mx_2491 rfl rfl 5 rfl ?_
        obtain ⟨x4, ex4, h⟩ := ltE h
        rw [← ex4]
        refine RR.runs (pc' := 143) (lc' := [(3, .int x4), (2, .int x3), (6, .int r1), (0, .ref 500), (1, .int v1), (4, .int v4), (5, .int v5)]) (st' := [.int v5, .ref 560, .int (1 : Int32), .int v4]) (S1 := S2) (nL := 9) (cd := cd_2491) mx_2491 rfl rfl 5 rfl ?_
        obtain ⟨g, h⟩ := gnE h
        refine RR.gPN (c2 := (KM.1 560).1 = 1) (pc' := 144) (lc' := [(3, .int x4), (2, .int x3), (6, .int r1), (0, .ref 500), (1, .int v1), (4, .int v4), (5, .int v5)]) (st' := [.int (rI S2 560 v5.toNatClampNeg), .int (1 : Int32), .int v4]) (S1 := S2) (nL := 9) (cd := cd_2491) mx_2491 rfl rfl rfl rfl g ?_
        refine RR.runs (pc' := 151) (lc' := [(4, .int ((v4 ||| ((1 : Int32) <<< (((rI S2 560 v5.toNatClampNeg) / (16 : Int32)) &&& 31))))), (3, .int x4), (2, .int x3), (6, .int r1), (0, .ref 500), (1, .int v1), (5, .int v5)]) (st' := []) (S1 := S2) (nL := 9) (cd := cd_2491) mx_2491 rfl rfl 5 rfl ?_
        obtain ⟨x5, ex5, h⟩ := ltE h
        rw [← ex5]
        refine RR.runs (pc' := 154) (lc' := [(7, .int (0 : Int32)), (4, .int x5), (3, .int x4), (2, .int x3), (6, .int r1), (0, .ref 500), (1, .int v1), (5, .int v5)]) (st' := []) (S1 := S2) (nL := 9) (cd := cd_2491) mx_2491 rfl rfl 2 rfl ?_
        refine RR.weak [(0, .ref 500), (1, .int v1), (2, .int x3), (3, .int x4), (4, .int x5), (5, .int v5), (6, .int r1), (7, .int (0 : Int32))] ⟨rfl, rfl, rfl, rfl, rfl, rfl, rfl, rfl, trivial⟩ ?_
        exact s_m_called_154 _ (fun _ _ _ _ _ S h => ih _ _ _ _ _ S h) _ _ _ _ _ _ _ _ _ h
      · refine RR.c_eq (fun q => absurd q c) (fun _ => ?_)
        refine RR.runs (pc' := 184) (lc' := [(6, .int r1), (0, .ref 500), (1, .int v1), (2, .int v2), (3, .int v3), (4, .int v4), (5, .int v5)]) (st' := []) (S1 := S2) (nL := 9) (cd := cd_2491) mx_2491 rfl rfl 1 rfl ?_
        refine RR.weak [(0, .ref 500), (1, .int v1), (2, .int v2), (3, .int v3), (4, .int v4), (5, .int v5)] ⟨rfl, rfl, rfl, rfl, rfl, rfl, trivial⟩ ?_
        exact s_m_called_184 _ (fun _ _ _ _ _ S h => ih _ _ _ _ _ S h) _ _ _ _ _ _ h
    · refine RR.c_ge (fun q => absurd q c) (fun _ => ?_)
      refine RR.weak [(0, .ref 500), (1, .int v1), (2, .int v2), (3, .int v3), (4, .int v4)] ⟨rfl, rfl, rfl, rfl, rfl, trivial⟩ ?_
      exact s_m_called_190 _ _ _ _ _ h
def m_called_51 (v1 : Int32) (v2 : Int32) (v3 : Int32) (v4 : Int32) (S : St) : Re Int32 :=
  m_called_54 FU v1 v2 v3 v4 (0 : Int32) S
set_option maxRecDepth 100000 in
theorem s_m_called_51 {d : Nat} {S' : St} {r : Int32} (v1 : Int32) (v2 : Int32) (v3 : Int32) (v4 : Int32) (S : St) (h : m_called_51 v1 v2 v3 v4 S = some (r, S')) : RR KM (d + 3) 2491 51 [(0, .ref 500), (1, .int v1), (2, .int v2), (3, .int v3), (4, .int v4)] [] S (some (.int r)) S' := by
  unfold m_called_51 at h
  refine RR.runs (pc' := 54) (lc' := [(5, .int (0 : Int32)), (0, .ref 500), (1, .int v1), (2, .int v2), (3, .int v3), (4, .int v4)]) (st' := []) (S1 := S) (nL := 9) (cd := cd_2491) mx_2491 rfl rfl 2 rfl ?_
  refine RR.weak [(0, .ref 500), (1, .int v1), (2, .int v2), (3, .int v3), (4, .int v4), (5, .int (0 : Int32))] ⟨rfl, rfl, rfl, rfl, rfl, rfl, trivial⟩ ?_
  exact s_m_called_54 _ _ _ _ _ _ _ h
def m_called_30 : Nat → Int32 → Int32 → Int32 → Int32 → Int32 → St → Re Int32
  | 0, _, _, _, _, _, _ => none
  | n + 1, v1, v2, v3, v4, v5, S =>
  if v5 < (10 : Int32) then (
    if v5 < 0 ∨ 10 ≤ v5.toNatClampNeg then none else
    lt' (wI S 564 v5.toNatClampNeg (0 : Int32)) fun S1 =>
    lt' ((v5 + (1 : Int32)) : Int32) fun x2 =>
    m_called_30 n v1 v2 v3 v4 x2 S1)
  else (
    m_called_51 v1 v2 v3 v4 S)
set_option maxRecDepth 100000 in
theorem s_m_called_30 {d : Nat} {S' : St} {r : Int32} : ∀ (n : Nat) (v1 : Int32) (v2 : Int32) (v3 : Int32) (v4 : Int32) (v5 : Int32) (S : St), m_called_30 n v1 v2 v3 v4 v5 S = some (r, S') → RR KM (d + 3) 2491 30 [(0, .ref 500), (1, .int v1), (2, .int v2), (3, .int v3), (4, .int v4), (5, .int v5)] [] S (some (.int r)) S' := by
  intro n
  induction n with
  | zero => intro v1 v2 v3 v4 v5 S h; simp only [m_called_30] at h; cases h
  | succ n ih =>
    intro v1 v2 v3 v4 v5 S h
    simp only [m_called_30] at h
    refine RR.runs (pc' := icm .ge v5 (10 : Int32) 51 37) (lc' := [(0, .ref 500), (1, .int v1), (2, .int v2), (3, .int v3), (4, .int v4), (5, .int v5)]) (st' := []) (S1 := S) (nL := 9) (cd := cd_2491) mx_2491 rfl rfl 3 rfl ?_
    rcases ifE h with ⟨c, h⟩ | ⟨c, h⟩
    · refine RR.c_ge (fun _ => ?_) (fun q => absurd c q)
      refine RR.runs (pc' := 44) (lc' := [(0, .ref 500), (1, .int v1), (2, .int v2), (3, .int v3), (4, .int v4), (5, .int v5)]) (st' := [.int (0 : Int32), .int v5, .ref 564]) (S1 := S) (nL := 9) (cd := cd_2491) mx_2491 rfl rfl 4 rfl ?_
      obtain ⟨g, h⟩ := gnE h
      refine RR.gPN (c2 := (KM.1 564).1 = 1) (pc' := 45) (lc' := [(0, .ref 500), (1, .int v1), (2, .int v2), (3, .int v3), (4, .int v4), (5, .int v5)]) (st' := []) (S1 := (wI S 564 v5.toNatClampNeg (0 : Int32))) (nL := 9) (cd := cd_2491) mx_2491 rfl rfl rfl rfl g ?_
      obtain ⟨S1, eS1, h⟩ := ltE h
      rw [← eS1]
      refine RR.runs (pc' := 48) (lc' := [(5, .int ((v5 + (1 : Int32)))), (0, .ref 500), (1, .int v1), (2, .int v2), (3, .int v3), (4, .int v4)]) (st' := []) (S1 := S1) (nL := 9) (cd := cd_2491) mx_2491 rfl rfl 1 rfl ?_
      obtain ⟨x2, ex2, h⟩ := ltE h
      rw [← ex2]
      refine RR.runs (pc' := 30) (lc' := [(5, .int x2), (0, .ref 500), (1, .int v1), (2, .int v2), (3, .int v3), (4, .int v4)]) (st' := []) (S1 := S1) (nL := 9) (cd := cd_2491) mx_2491 rfl rfl 1 rfl ?_
      refine RR.weak [(0, .ref 500), (1, .int v1), (2, .int v2), (3, .int v3), (4, .int v4), (5, .int x2)] ⟨rfl, rfl, rfl, rfl, rfl, rfl, trivial⟩ ?_
      exact ih _ _ _ _ _ _ h
    · refine RR.c_ge (fun q => absurd q c) (fun _ => ?_)
      refine RR.weak [(0, .ref 500), (1, .int v1), (2, .int v2), (3, .int v3), (4, .int v4)] ⟨rfl, rfl, rfl, rfl, rfl, trivial⟩ ?_
      exact s_m_called_51 _ _ _ _ _ h
def m_called (v1 : Int32) (S : St) : Re Int32 :=
  lt' (wI S 500 0 (0 : Int32)) fun S1 =>
  bn (m_within v1 (0 : Int32) (3 : Int32) S1) fun r2 S3 =>
  if r2 = 0 then (
    some ((-1 : Int32), S3))
  else (
    bn (m_laysCalls S3) fun r4 S5 =>
    m_called_30 FU v1 (0 : Int32) (0 : Int32) (0 : Int32) (0 : Int32) S5)
set_option maxRecDepth 100000 in
theorem s0_m_called {d : Nat} {S' : St} {r : Int32} (v1 : Int32) (S : St) (h : m_called v1 S = some (r, S')) : RR KM (d + 3) 2491 0 [(0, .ref 500), (1, .int v1)] [] S (some (.int r)) S' := by
  unfold m_called at h
  refine RR.runs (pc' := 5) (lc' := [(0, .ref 500), (1, .int v1)]) (st' := []) (S1 := (wI S 500 0 (0 : Int32))) (nL := 9) (cd := cd_2491) mx_2491 rfl rfl 3 rfl ?_
  obtain ⟨S1, eS1, h⟩ := ltE h
  rw [← eS1]
  refine RR.runs (pc' := 8) (lc' := [(0, .ref 500), (1, .int v1)]) (st' := [.int (3 : Int32), .int (0 : Int32), .int v1]) (S1 := S1) (nL := 9) (cd := cd_2491) mx_2491 rfl rfl 3 rfl ?_
  obtain ⟨r2, S3, h1, h⟩ := bnE h
  refine RR.callS (as := [.int v1, .int (0 : Int32), .int (3 : Int32)]) (rest := []) (r1 := (some (.int r2))) (S1 := S3) mx_2491 rfl rfl mx_2402 rfl rfl (by decide) (Nat.le_of_ble_eq_true rfl) (Nat.le_of_ble_eq_true rfl) (Nat.le_of_ble_eq_true rfl) (RC.deep (by omega) (s_m_within (d := d) _ _ _ _ h1)) ?_
  show RR KM _ 2491 11 [(0, .ref 500), (1, .int v1)] [.int r2] S3 _ _
  refine RR.runs (pc' := icm .ne r2 0 16 14) (lc' := [(0, .ref 500), (1, .int v1)]) (st' := []) (S1 := S3) (nL := 9) (cd := cd_2491) mx_2491 rfl rfl 1 rfl ?_
  rcases ifE h with ⟨c, h⟩ | ⟨c, h⟩
  · refine RR.c_ne (fun _ => ?_) (fun q => absurd c q)
    refine RR.runs (pc' := 15) (lc' := [(0, .ref 500), (1, .int v1)]) (st' := [.int (-1 : Int32)]) (S1 := S3) (nL := 9) (cd := cd_2491) mx_2491 rfl rfl 1 rfl ?_
    cases h
    exact RR.reti mx_2491 rfl rfl rfl
  · refine RR.c_ne (fun q => absurd q c) (fun _ => ?_)
    refine RR.runs (pc' := 17) (lc' := [(0, .ref 500), (1, .int v1)]) (st' := [.ref 500]) (S1 := S3) (nL := 9) (cd := cd_2491) mx_2491 rfl rfl 1 rfl ?_
    obtain ⟨r4, S5, h1, h⟩ := bnE h
    refine RR.callV (b := 500) (as := []) (rest := []) (r1 := none) (S1 := S5) mx_2491 rfl rfl mx_2483 rfl rfl (by decide) (Or.inl rfl) (Nat.le_of_ble_eq_true rfl) (Nat.le_of_ble_eq_true rfl) (RC.deep (by omega) (s_m_laysCalls (d := d) _ h1)) ?_
    show RR KM _ 2491 20 [(0, .ref 500), (1, .int v1)] [] S5 _ _
    refine RR.runs (pc' := 30) (lc' := [(5, .int (0 : Int32)), (4, .int (0 : Int32)), (3, .int (0 : Int32)), (2, .int (0 : Int32)), (0, .ref 500), (1, .int v1)]) (st' := []) (S1 := S5) (nL := 9) (cd := cd_2491) mx_2491 rfl rfl 8 rfl ?_
    refine RR.weak [(0, .ref 500), (1, .int v1), (2, .int (0 : Int32)), (3, .int (0 : Int32)), (4, .int (0 : Int32)), (5, .int (0 : Int32))] ⟨rfl, rfl, rfl, rfl, rfl, rfl, trivial⟩ ?_
    exact s_m_called_30 _ _ _ _ _ _ _ h
theorem s_m_called {d : Nat} {S' : St} {r : Int32} (v1 : Int32) (S : St) (h : m_called v1 S = some (r, S')) : RC KM (d + 3) 2491 [.ref 500, .int v1] S (some (.int r)) S' := RC.of rfl (s0_m_called v1 S h)
-- tell (IIZ)Z
def m_tell_32 (S : St) : Re Int32 :=
  some ((0 : Int32), S)
set_option maxRecDepth 100000 in
theorem s_m_tell_32 {d : Nat} {S' : St} {r : Int32} (S : St) (h : m_tell_32 S = some (r, S')) : RR KM (d + 1) 2492 32 [] [] S (some (.int r)) S' := by
  unfold m_tell_32 at h
  refine RR.runs (pc' := 33) (lc' := []) (st' := [.int (0 : Int32)]) (S1 := S) (nL := 4) (cd := cd_2492) mx_2492 rfl rfl 1 rfl ?_
  cases h
  exact RR.retz mx_2492 rfl rfl rfl rfl
def m_tell (v1 : Int32) (v2 : Int32) (v3 : Int32) (S : St) : Re Int32 :=
  lt' (wI S 500 0 (0 : Int32)) fun S1 =>
  bn (m_isSound v1 S1) fun r2 S3 =>
  if r2 = 0 then (
    m_tell_32 S3)
  else (
    bn (m_isSound v2 S3) fun r4 S5 =>
    if r4 = 0 then (
      m_tell_32 S5)
    else (
      if (0 : Int32) < 0 ∨ 5 ≤ (0 : Int32).toNatClampNeg then none else
      if (rI S5 549 (0 : Int32).toNatClampNeg) = (12 : Int32) then (
        m_tell_32 S5)
      else (
        if (0 : Int32) < 0 ∨ 5 ≤ (0 : Int32).toNatClampNeg then none else
        if (rI S5 549 (0 : Int32).toNatClampNeg) < 0 ∨ 60 ≤ ((rI S5 549 (0 : Int32).toNatClampNeg)).toNatClampNeg then none else
        lt' (wI S5 550 ((rI S5 549 (0 : Int32).toNatClampNeg)).toNatClampNeg v1) fun S6 =>
        if (0 : Int32) < 0 ∨ 5 ≤ (0 : Int32).toNatClampNeg then none else
        if (rI S6 549 (0 : Int32).toNatClampNeg) < 0 ∨ 60 ≤ ((rI S6 549 (0 : Int32).toNatClampNeg)).toNatClampNeg then none else
        lt' (wI S6 551 ((rI S6 549 (0 : Int32).toNatClampNeg)).toNatClampNeg v2) fun S7 =>
        if (0 : Int32) < 0 ∨ 5 ≤ (0 : Int32).toNatClampNeg then none else
        if (rI S7 549 (0 : Int32).toNatClampNeg) < 0 ∨ 60 ≤ ((rI S7 549 (0 : Int32).toNatClampNeg)).toNatClampNeg then none else
        lt' (wI S7 552 ((rI S7 549 (0 : Int32).toNatClampNeg)).toNatClampNeg (vp_nar .boolean v3)) fun S8 =>
        if (0 : Int32) < 0 ∨ 5 ≤ (0 : Int32).toNatClampNeg then none else
        if (0 : Int32) < 0 ∨ 5 ≤ (0 : Int32).toNatClampNeg then none else
        lt' (wI S8 549 (0 : Int32).toNatClampNeg (((rI S8 549 (0 : Int32).toNatClampNeg) + (1 : Int32)))) fun S9 =>
        some ((1 : Int32), S9))))
set_option maxRecDepth 100000 in
theorem s0_m_tell {d : Nat} {S' : St} {r : Int32} (v1 : Int32) (v2 : Int32) (v3 : Int32) (S : St) (h : m_tell v1 v2 v3 S = some (r, S')) : RR KM (d + 1) 2492 0 [(0, .ref 500), (1, .int v1), (2, .int v2), (3, .int v3)] [] S (some (.int r)) S' := by
  unfold m_tell at h
  refine RR.runs (pc' := 5) (lc' := [(0, .ref 500), (1, .int v1), (2, .int v2), (3, .int v3)]) (st' := []) (S1 := (wI S 500 0 (0 : Int32))) (nL := 4) (cd := cd_2492) mx_2492 rfl rfl 3 rfl ?_
  obtain ⟨S1, eS1, h⟩ := ltE h
  rw [← eS1]
  refine RR.runs (pc' := 7) (lc' := [(0, .ref 500), (1, .int v1), (2, .int v2), (3, .int v3)]) (st' := [.int v1, .ref 500]) (S1 := S1) (nL := 4) (cd := cd_2492) mx_2492 rfl rfl 2 rfl ?_
  obtain ⟨r2, S3, h1, h⟩ := bnE h
  refine RR.callV (b := 500) (as := [.int v1]) (rest := []) (r1 := (some (.int r2))) (S1 := S3) mx_2492 rfl rfl mx_2456 rfl rfl (by decide) (Or.inl rfl) (Nat.le_of_ble_eq_true rfl) (Nat.le_of_ble_eq_true rfl) (RC.deep (by omega) (s_m_isSound (d := d) _ _ h1)) ?_
  show RR KM _ 2492 10 [(0, .ref 500), (1, .int v1), (2, .int v2), (3, .int v3)] [.int r2] S3 _ _
  refine RR.runs (pc' := icm .eq r2 0 32 13) (lc' := [(0, .ref 500), (1, .int v1), (2, .int v2), (3, .int v3)]) (st' := []) (S1 := S3) (nL := 4) (cd := cd_2492) mx_2492 rfl rfl 1 rfl ?_
  rcases ifE h with ⟨c, h⟩ | ⟨c, h⟩
  · refine RR.c_eq (fun _ => ?_) (fun q => absurd c q)
    refine RR.weak [] trivial ?_
    exact s_m_tell_32 _ h
  · refine RR.c_eq (fun q => absurd q c) (fun _ => ?_)
    refine RR.runs (pc' := 15) (lc' := [(0, .ref 500), (1, .int v1), (2, .int v2), (3, .int v3)]) (st' := [.int v2, .ref 500]) (S1 := S3) (nL := 4) (cd := cd_2492) mx_2492 rfl rfl 2 rfl ?_
    obtain ⟨r4, S5, h1, h⟩ := bnE h
    refine RR.callV (b := 500) (as := [.int v2]) (rest := []) (r1 := (some (.int r4))) (S1 := S5) mx_2492 rfl rfl mx_2456 rfl rfl (by decide) (Or.inl rfl) (Nat.le_of_ble_eq_true rfl) (Nat.le_of_ble_eq_true rfl) (RC.deep (by omega) (s_m_isSound (d := d) _ _ h1)) ?_
    show RR KM _ 2492 18 [(0, .ref 500), (1, .int v1), (2, .int v2), (3, .int v3)] [.int r4] S5 _ _
    refine RR.runs (pc' := icm .eq r4 0 32 21) (lc' := [(0, .ref 500), (1, .int v1), (2, .int v2), (3, .int v3)]) (st' := []) (S1 := S5) (nL := 4) (cd := cd_2492) mx_2492 rfl rfl 1 rfl ?_
    rcases ifE h with ⟨c, h⟩ | ⟨c, h⟩
    · refine RR.c_eq (fun _ => ?_) (fun q => absurd c q)
      refine RR.weak [] trivial ?_
      exact s_m_tell_32 _ h
    · refine RR.c_eq (fun q => absurd q c) (fun _ => ?_)
      refine RR.runs (pc' := 26) (lc' := [(0, .ref 500), (1, .int v1), (2, .int v2), (3, .int v3)]) (st' := [.int (0 : Int32), .ref 549]) (S1 := S5) (nL := 4) (cd := cd_2492) mx_2492 rfl rfl 3 rfl ?_
      obtain ⟨g, h⟩ := gnE h
      refine RR.gPN (c2 := (KM.1 549).1 = 1) (pc' := 27) (lc' := [(0, .ref 500), (1, .int v1), (2, .int v2), (3, .int v3)]) (st' := [.int ((rI S5 549 (0 : Int32).toNatClampNeg))]) (S1 := S5) (nL := 4) (cd := cd_2492) mx_2492 rfl rfl rfl rfl g ?_
      refine RR.runs (pc' := icm .ne ((rI S5 549 (0 : Int32).toNatClampNeg)) (12 : Int32) 34 32) (lc' := [(0, .ref 500), (1, .int v1), (2, .int v2), (3, .int v3)]) (st' := []) (S1 := S5) (nL := 4) (cd := cd_2492) mx_2492 rfl rfl 2 rfl ?_
      rcases ifE h with ⟨c, h⟩ | ⟨c, h⟩
      · refine RR.c_ne (fun _ => ?_) (fun q => absurd c q)
        refine RR.weak [] trivial ?_
        exact s_m_tell_32 _ h
      · refine RR.c_ne (fun q => absurd q c) (fun _ => ?_)
        refine RR.runs (pc' := 43) (lc' := [(0, .ref 500), (1, .int v1), (2, .int v2), (3, .int v3)]) (st' := [.int (0 : Int32), .ref 549, .ref 550]) (S1 := S5) (nL := 4) (cd := cd_2492) mx_2492 rfl rfl 5 rfl ?_
        obtain ⟨g, h⟩ := gnE h
        refine RR.gPN (c2 := (KM.1 549).1 = 1) (pc' := 44) (lc' := [(0, .ref 500), (1, .int v1), (2, .int v2), (3, .int v3)]) (st' := [.int ((rI S5 549 (0 : Int32).toNatClampNeg)), .ref 550]) (S1 := S5) (nL := 4) (cd := cd_2492) mx_2492 rfl rfl rfl rfl g ?_
        refine RR.runs (pc' := 45) (lc' := [(0, .ref 500), (1, .int v1), (2, .int v2), (3, .int v3)]) (st' := [.int v1, .int ((rI S5 549 (0 : Int32).toNatClampNeg)), .ref 550]) (S1 := S5) (nL := 4) (cd := cd_2492) mx_2492 rfl rfl 1 rfl ?_
        obtain ⟨g, h⟩ := gnE h
        refine RR.gPN (c2 := (KM.1 550).1 = 1) (pc' := 46) (lc' := [(0, .ref 500), (1, .int v1), (2, .int v2), (3, .int v3)]) (st' := []) (S1 := (wI S5 550 ((rI S5 549 (0 : Int32).toNatClampNeg)).toNatClampNeg v1)) (nL := 4) (cd := cd_2492) mx_2492 rfl rfl rfl rfl g ?_
        obtain ⟨S6, eS6, h⟩ := ltE h
        rw [← eS6]
        refine RR.runs (pc' := 55) (lc' := [(0, .ref 500), (1, .int v1), (2, .int v2), (3, .int v3)]) (st' := [.int (0 : Int32), .ref 549, .ref 551]) (S1 := S6) (nL := 4) (cd := cd_2492) mx_2492 rfl rfl 5 rfl ?_
        obtain ⟨g, h⟩ := gnE h
        refine RR.gPN (c2 := (KM.1 549).1 = 1) (pc' := 56) (lc' := [(0, .ref 500), (1, .int v1), (2, .int v2), (3, .int v3)]) (st' := [.int ((rI S6 549 (0 : Int32).toNatClampNeg)), .ref 551]) (S1 := S6) (nL := 4) (cd := cd_2492) mx_2492 rfl rfl rfl rfl g ?_
        refine RR.runs (pc' := 57) (lc' := [(0, .ref 500), (1, .int v1), (2, .int v2), (3, .int v3)]) (st' := [.int v2, .int ((rI S6 549 (0 : Int32).toNatClampNeg)), .ref 551]) (S1 := S6) (nL := 4) (cd := cd_2492) mx_2492 rfl rfl 1 rfl ?_
        obtain ⟨g, h⟩ := gnE h
        refine RR.gPN (c2 := (KM.1 551).1 = 1) (pc' := 58) (lc' := [(0, .ref 500), (1, .int v1), (2, .int v2), (3, .int v3)]) (st' := []) (S1 := (wI S6 551 ((rI S6 549 (0 : Int32).toNatClampNeg)).toNatClampNeg v2)) (nL := 4) (cd := cd_2492) mx_2492 rfl rfl rfl rfl g ?_
        obtain ⟨S7, eS7, h⟩ := ltE h
        rw [← eS7]
        refine RR.runs (pc' := 67) (lc' := [(0, .ref 500), (1, .int v1), (2, .int v2), (3, .int v3)]) (st' := [.int (0 : Int32), .ref 549, .ref 552]) (S1 := S7) (nL := 4) (cd := cd_2492) mx_2492 rfl rfl 5 rfl ?_
        obtain ⟨g, h⟩ := gnE h
        refine RR.gPN (c2 := (KM.1 549).1 = 1) (pc' := 68) (lc' := [(0, .ref 500), (1, .int v1), (2, .int v2), (3, .int v3)]) (st' := [.int ((rI S7 549 (0 : Int32).toNatClampNeg)), .ref 552]) (S1 := S7) (nL := 4) (cd := cd_2492) mx_2492 rfl rfl rfl rfl g ?_
        refine RR.runs (pc' := 69) (lc' := [(0, .ref 500), (1, .int v1), (2, .int v2), (3, .int v3)]) (st' := [.int v3, .int ((rI S7 549 (0 : Int32).toNatClampNeg)), .ref 552]) (S1 := S7) (nL := 4) (cd := cd_2492) mx_2492 rfl rfl 1 rfl ?_
        obtain ⟨g, h⟩ := gnE h
        refine RR.gPN (c2 := (KM.1 552).1 = 3) (pc' := 70) (lc' := [(0, .ref 500), (1, .int v1), (2, .int v2), (3, .int v3)]) (st' := []) (S1 := (wI S7 552 ((rI S7 549 (0 : Int32).toNatClampNeg)).toNatClampNeg (vp_nar .boolean v3))) (nL := 4) (cd := cd_2492) mx_2492 rfl rfl rfl rfl g ?_
        obtain ⟨S8, eS8, h⟩ := ltE h
        rw [← eS8]
        refine RR.runs (pc' := 76) (lc' := [(0, .ref 500), (1, .int v1), (2, .int v2), (3, .int v3)]) (st' := [.int (0 : Int32), .ref 549, .int (0 : Int32), .ref 549]) (S1 := S8) (nL := 4) (cd := cd_2492) mx_2492 rfl rfl 4 rfl ?_
        obtain ⟨g, h⟩ := gnE h
        refine RR.gPN (c2 := (KM.1 549).1 = 1) (pc' := 77) (lc' := [(0, .ref 500), (1, .int v1), (2, .int v2), (3, .int v3)]) (st' := [.int ((rI S8 549 (0 : Int32).toNatClampNeg)), .int (0 : Int32), .ref 549]) (S1 := S8) (nL := 4) (cd := cd_2492) mx_2492 rfl rfl rfl rfl g ?_
        refine RR.runs (pc' := 79) (lc' := [(0, .ref 500), (1, .int v1), (2, .int v2), (3, .int v3)]) (st' := [.int (((rI S8 549 (0 : Int32).toNatClampNeg) + (1 : Int32))), .int (0 : Int32), .ref 549]) (S1 := S8) (nL := 4) (cd := cd_2492) mx_2492 rfl rfl 2 rfl ?_
        obtain ⟨g, h⟩ := gnE h
        refine RR.gPN (c2 := (KM.1 549).1 = 1) (pc' := 80) (lc' := [(0, .ref 500), (1, .int v1), (2, .int v2), (3, .int v3)]) (st' := []) (S1 := (wI S8 549 (0 : Int32).toNatClampNeg (((rI S8 549 (0 : Int32).toNatClampNeg) + (1 : Int32))))) (nL := 4) (cd := cd_2492) mx_2492 rfl rfl rfl rfl g ?_
        obtain ⟨S9, eS9, h⟩ := ltE h
        rw [← eS9]
        refine RR.runs (pc' := 81) (lc' := [(0, .ref 500), (1, .int v1), (2, .int v2), (3, .int v3)]) (st' := [.int (1 : Int32)]) (S1 := S9) (nL := 4) (cd := cd_2492) mx_2492 rfl rfl 1 rfl ?_
        cases h
        exact RR.retz mx_2492 rfl rfl rfl rfl
theorem s_m_tell {d : Nat} {S' : St} {r : Int32} (v1 : Int32) (v2 : Int32) (v3 : Int32) (S : St) (h : m_tell v1 v2 v3 S = some (r, S')) : RC KM (d + 1) 2492 [.ref 500, .int v1, .int v2, .int v3] S (some (.int r)) S' := RC.of rfl (s0_m_tell v1 v2 v3 S h)
-- isLaw (II)Z
def m_isLaw_66 (S : St) : Re Int32 :=
  some ((0 : Int32), S)
set_option maxRecDepth 100000 in
theorem s_m_isLaw_66 {d : Nat} {S' : St} {r : Int32} (S : St) (h : m_isLaw_66 S = some (r, S')) : RR KM (d + 0) 2493 66 [] [] S (some (.int r)) S' := by
  unfold m_isLaw_66 at h
  refine RR.runs (pc' := 67) (lc' := []) (st' := [.int (0 : Int32)]) (S1 := S) (nL := 5) (cd := cd_2493) mx_2493 rfl rfl 1 rfl ?_
  cases h
  exact RR.retz mx_2493 rfl rfl rfl rfl
def m_isLaw_57 (k2 : Int32 → Int32 → Int32 → St → Re Int32) (v1 : Int32) (v2 : Int32) (v3 : Int32) (p0 : Int32) (S : St) : Re Int32 :=
  if v3 < 0 ∨ 60 ≤ v3.toNatClampNeg then none else
  if p0 = (rI S 552 v3.toNatClampNeg) then (
    lt' ((v3 + (1 : Int32)) : Int32) fun x1 =>
    k2 v1 v2 x1 S)
  else (
    m_isLaw_66 S)
set_option maxRecDepth 100000 in
theorem s_m_isLaw_57 {d : Nat} (k2 : Int32 → Int32 → Int32 → St → Re Int32) {S' : St} {r : Int32} (b2 : ∀ (v1 : Int32) (v2 : Int32) (v3 : Int32) (S : St), k2 v1 v2 v3 S = some (r, S') → RR KM (d + 0) 2493 2 [(0, .ref 500), (1, .int v1), (2, .int v2), (3, .int v3)] [] S (some (.int r)) S') (v1 : Int32) (v2 : Int32) (v3 : Int32) (p0 : Int32) (S : St) (h : m_isLaw_57 k2 v1 v2 v3 p0 S = some (r, S')) : RR KM (d + 0) 2493 57 [(0, .ref 500), (1, .int v1), (2, .int v2), (3, .int v3)] [.int p0] S (some (.int r)) S' := by
  unfold m_isLaw_57 at h
  refine RR.runs (pc' := 62) (lc' := [(0, .ref 500), (1, .int v1), (2, .int v2), (3, .int v3)]) (st' := [.int v3, .ref 552, .int p0]) (S1 := S) (nL := 5) (cd := cd_2493) mx_2493 rfl rfl 3 rfl ?_
  obtain ⟨g, h⟩ := gnE h
  refine RR.gPN (c2 := (KM.1 552).1 = 3) (pc' := 63) (lc' := [(0, .ref 500), (1, .int v1), (2, .int v2), (3, .int v3)]) (st' := [.int (rI S 552 v3.toNatClampNeg), .int p0]) (S1 := S) (nL := 5) (cd := cd_2493) mx_2493 rfl rfl rfl rfl g ?_
  refine RR.runs (pc' := icm .eq p0 (rI S 552 v3.toNatClampNeg) 68 66) (lc' := [(0, .ref 500), (1, .int v1), (2, .int v2), (3, .int v3)]) (st' := []) (S1 := S) (nL := 5) (cd := cd_2493) mx_2493 rfl rfl 1 rfl ?_
  rcases ifE h with ⟨c, h⟩ | ⟨c, h⟩
  · refine RR.c_eq (fun _ => ?_) (fun q => absurd c q)
    refine RR.runs (pc' := 71) (lc' := [(3, .int ((v3 + (1 : Int32)))), (0, .ref 500), (1, .int v1), (2, .int v2)]) (st' := []) (S1 := S) (nL := 5) (cd := cd_2493) mx_2493 rfl rfl 1 rfl ?_
    obtain ⟨x1, ex1, h⟩ := ltE h
    rw [← ex1]
    refine RR.runs (pc' := 2) (lc' := [(3, .int x1), (0, .ref 500), (1, .int v1), (2, .int v2)]) (st' := []) (S1 := S) (nL := 5) (cd := cd_2493) mx_2493 rfl rfl 1 rfl ?_
    refine RR.weak [(0, .ref 500), (1, .int v1), (2, .int v2), (3, .int x1)] ⟨rfl, rfl, rfl, rfl, trivial⟩ ?_
    exact b2 _ _ _ _ h
  · refine RR.c_eq (fun q => absurd q c) (fun _ => ?_)
    refine RR.weak [] trivial ?_
    exact s_m_isLaw_66 _ h
def m_isLaw_52 (k2 : Int32 → Int32 → Int32 → St → Re Int32) (v1 : Int32) (v2 : Int32) (v3 : Int32) (S : St) : Re Int32 :=
  m_isLaw_57 k2 v1 v2 v3 (1 : Int32) S
set_option maxRecDepth 100000 in
theorem s_m_isLaw_52 {d : Nat} (k2 : Int32 → Int32 → Int32 → St → Re Int32) {S' : St} {r : Int32} (b2 : ∀ (v1 : Int32) (v2 : Int32) (v3 : Int32) (S : St), k2 v1 v2 v3 S = some (r, S') → RR KM (d + 0) 2493 2 [(0, .ref 500), (1, .int v1), (2, .int v2), (3, .int v3)] [] S (some (.int r)) S') (v1 : Int32) (v2 : Int32) (v3 : Int32) (S : St) (h : m_isLaw_52 k2 v1 v2 v3 S = some (r, S')) : RR KM (d + 0) 2493 52 [(0, .ref 500), (1, .int v1), (2, .int v2), (3, .int v3)] [] S (some (.int r)) S' := by
  unfold m_isLaw_52 at h
  refine RR.runs (pc' := 57) (lc' := [(0, .ref 500), (1, .int v1), (2, .int v2), (3, .int v3)]) (st' := [.int (1 : Int32)]) (S1 := S) (nL := 5) (cd := cd_2493) mx_2493 rfl rfl 2 rfl ?_
  refine RR.weak [(0, .ref 500), (1, .int v1), (2, .int v2), (3, .int v3)] ⟨rfl, rfl, rfl, rfl, trivial⟩ ?_
  exact s_m_isLaw_57 _ b2 _ _ _ _ _ h
def m_isLaw_74 (S : St) : Re Int32 :=
  some ((1 : Int32), S)
set_option maxRecDepth 100000 in
theorem s_m_isLaw_74 {d : Nat} {S' : St} {r : Int32} (S : St) (h : m_isLaw_74 S = some (r, S')) : RR KM (d + 0) 2493 74 [] [] S (some (.int r)) S' := by
  unfold m_isLaw_74 at h
  refine RR.runs (pc' := 75) (lc' := []) (st' := [.int (1 : Int32)]) (S1 := S) (nL := 5) (cd := cd_2493) mx_2493 rfl rfl 1 rfl ?_
  cases h
  exact RR.retz mx_2493 rfl rfl rfl rfl
def m_isLaw_2 : Nat → Int32 → Int32 → Int32 → St → Re Int32
  | 0, _, _, _, _ => none
  | n + 1, v1, v2, v3, S =>
  if (0 : Int32) < 0 ∨ 5 ≤ (0 : Int32).toNatClampNeg then none else
  if v3 < (rI S 549 (0 : Int32).toNatClampNeg) then (
    if v3 < 0 ∨ 60 ≤ v3.toNatClampNeg then none else
    if v3 < 0 ∨ 60 ≤ v3.toNatClampNeg then none else
    lt' ((((16 : Int32) * (rI S 550 v3.toNatClampNeg)) + (rI S 551 v3.toNatClampNeg)) : Int32) fun x1 =>
    if x1 < 0 ∨ 256 ≤ x1.toNatClampNeg then none else
    if v1 < (rI S 536 x1.toNatClampNeg) then (
      if x1 < 0 ∨ 256 ≤ x1.toNatClampNeg then none else
      if (rI S 538 x1.toNatClampNeg) < v2 then (
        m_isLaw_57 (m_isLaw_2 n) v1 v2 v3 (0 : Int32) S)
      else (
        m_isLaw_52 (m_isLaw_2 n) v1 v2 v3 S))
    else (
      m_isLaw_52 (m_isLaw_2 n) v1 v2 v3 S))
  else (
    m_isLaw_74 S)
set_option maxRecDepth 100000 in
theorem s_m_isLaw_2 {d : Nat} {S' : St} {r : Int32} : ∀ (n : Nat) (v1 : Int32) (v2 : Int32) (v3 : Int32) (S : St), m_isLaw_2 n v1 v2 v3 S = some (r, S') → RR KM (d + 0) 2493 2 [(0, .ref 500), (1, .int v1), (2, .int v2), (3, .int v3)] [] S (some (.int r)) S' := by
  intro n
  induction n with
  | zero => intro v1 v2 v3 S h; simp only [m_isLaw_2] at h; cases h
  | succ n ih =>
    intro v1 v2 v3 S h
    simp only [m_isLaw_2] at h
    refine RR.runs (pc' := 8) (lc' := [(0, .ref 500), (1, .int v1), (2, .int v2), (3, .int v3)]) (st' := [.int (0 : Int32), .ref 549, .int v3]) (S1 := S) (nL := 5) (cd := cd_2493) mx_2493 rfl rfl 4 rfl ?_
    obtain ⟨g, h⟩ := gnE h
    refine RR.gPN (c2 := (KM.1 549).1 = 1) (pc' := 9) (lc' := [(0, .ref 500), (1, .int v1), (2, .int v2), (3, .int v3)]) (st' := [.int ((rI S 549 (0 : Int32).toNatClampNeg)), .int v3]) (S1 := S) (nL := 5) (cd := cd_2493) mx_2493 rfl rfl rfl rfl g ?_
    refine RR.runs (pc' := icm .ge v3 ((rI S 549 (0 : Int32).toNatClampNeg)) 74 12) (lc' := [(0, .ref 500), (1, .int v1), (2, .int v2), (3, .int v3)]) (st' := []) (S1 := S) (nL := 5) (cd := cd_2493) mx_2493 rfl rfl 1 rfl ?_
    rcases ifE h with ⟨c, h⟩ | ⟨c, h⟩
    · refine RR.c_ge (fun _ => ?_) (fun q => absurd c q)
      refine RR.runs (pc' := 19) (lc' := [(0, .ref 500), (1, .int v1), (2, .int v2), (3, .int v3)]) (st' := [.int v3, .ref 550, .int (16 : Int32)]) (S1 := S) (nL := 5) (cd := cd_2493) mx_2493 rfl rfl 4 rfl ?_
      obtain ⟨g, h⟩ := gnE h
      refine RR.gPN (c2 := (KM.1 550).1 = 1) (pc' := 20) (lc' := [(0, .ref 500), (1, .int v1), (2, .int v2), (3, .int v3)]) (st' := [.int (rI S 550 v3.toNatClampNeg), .int (16 : Int32)]) (S1 := S) (nL := 5) (cd := cd_2493) mx_2493 rfl rfl rfl rfl g ?_
      refine RR.runs (pc' := 26) (lc' := [(0, .ref 500), (1, .int v1), (2, .int v2), (3, .int v3)]) (st' := [.int v3, .ref 551, .int (((16 : Int32) * (rI S 550 v3.toNatClampNeg)))]) (S1 := S) (nL := 5) (cd := cd_2493) mx_2493 rfl rfl 4 rfl ?_
      obtain ⟨g, h⟩ := gnE h
      refine RR.gPN (c2 := (KM.1 551).1 = 1) (pc' := 27) (lc' := [(0, .ref 500), (1, .int v1), (2, .int v2), (3, .int v3)]) (st' := [.int (rI S 551 v3.toNatClampNeg), .int (((16 : Int32) * (rI S 550 v3.toNatClampNeg)))]) (S1 := S) (nL := 5) (cd := cd_2493) mx_2493 rfl rfl rfl rfl g ?_
      refine RR.runs (pc' := 30) (lc' := [(4, .int ((((16 : Int32) * (rI S 550 v3.toNatClampNeg)) + (rI S 551 v3.toNatClampNeg)))), (0, .ref 500), (1, .int v1), (2, .int v2), (3, .int v3)]) (st' := []) (S1 := S) (nL := 5) (cd := cd_2493) mx_2493 rfl rfl 2 rfl ?_
      obtain ⟨x1, ex1, h⟩ := ltE h
      rw [← ex1]
      refine RR.runs (pc' := 36) (lc' := [(4, .int x1), (0, .ref 500), (1, .int v1), (2, .int v2), (3, .int v3)]) (st' := [.int x1, .ref 536]) (S1 := S) (nL := 5) (cd := cd_2493) mx_2493 rfl rfl 3 rfl ?_
      obtain ⟨g, h⟩ := gnE h
      refine RR.gPN (c2 := (KM.1 536).1 = 1) (pc' := 37) (lc' := [(4, .int x1), (0, .ref 500), (1, .int v1), (2, .int v2), (3, .int v3)]) (st' := [.int (rI S 536 x1.toNatClampNeg)]) (S1 := S) (nL := 5) (cd := cd_2493) mx_2493 rfl rfl rfl rfl g ?_
      refine RR.runs (pc' := icm .le (rI S 536 x1.toNatClampNeg) v1 52 41) (lc' := [(4, .int x1), (0, .ref 500), (1, .int v1), (2, .int v2), (3, .int v3)]) (st' := []) (S1 := S) (nL := 5) (cd := cd_2493) mx_2493 rfl rfl 2 rfl ?_
      rcases ifE h with ⟨c, h⟩ | ⟨c, h⟩
      · refine RR.c_le (fun _ => ?_) (fun q => absurd c q)
        refine RR.runs (pc' := 47) (lc' := [(4, .int x1), (0, .ref 500), (1, .int v1), (2, .int v2), (3, .int v3)]) (st' := [.int x1, .ref 538]) (S1 := S) (nL := 5) (cd := cd_2493) mx_2493 rfl rfl 3 rfl ?_
        obtain ⟨g, h⟩ := gnE h
        refine RR.gPN (c2 := (KM.1 538).1 = 1) (pc' := 48) (lc' := [(4, .int x1), (0, .ref 500), (1, .int v1), (2, .int v2), (3, .int v3)]) (st' := [.int (rI S 538 x1.toNatClampNeg)]) (S1 := S) (nL := 5) (cd := cd_2493) mx_2493 rfl rfl rfl rfl g ?_
        refine RR.runs (pc' := icm .lt (rI S 538 x1.toNatClampNeg) v2 56 52) (lc' := [(4, .int x1), (0, .ref 500), (1, .int v1), (2, .int v2), (3, .int v3)]) (st' := []) (S1 := S) (nL := 5) (cd := cd_2493) mx_2493 rfl rfl 2 rfl ?_
        rcases ifE h with ⟨c, h⟩ | ⟨c, h⟩
        · refine RR.c_lt (fun _ => ?_) (fun q => absurd c q)
          refine RR.runs (pc' := 57) (lc' := [(4, .int x1), (0, .ref 500), (1, .int v1), (2, .int v2), (3, .int v3)]) (st' := [.int (0 : Int32)]) (S1 := S) (nL := 5) (cd := cd_2493) mx_2493 rfl rfl 1 rfl ?_
          refine RR.weak [(0, .ref 500), (1, .int v1), (2, .int v2), (3, .int v3)] ⟨rfl, rfl, rfl, rfl, trivial⟩ ?_
          exact s_m_isLaw_57 _ (fun _ _ _ S h => ih _ _ _ S h) _ _ _ _ _ h
        · refine RR.c_lt (fun q => absurd q c) (fun _ => ?_)
          refine RR.weak [(0, .ref 500), (1, .int v1), (2, .int v2), (3, .int v3)] ⟨rfl, rfl, rfl, rfl, trivial⟩ ?_
          exact s_m_isLaw_52 _ (fun _ _ _ S h => ih _ _ _ S h) _ _ _ _ h
      · refine RR.c_le (fun q => absurd q c) (fun _ => ?_)
        refine RR.weak [(0, .ref 500), (1, .int v1), (2, .int v2), (3, .int v3)] ⟨rfl, rfl, rfl, rfl, trivial⟩ ?_
        exact s_m_isLaw_52 _ (fun _ _ _ S h => ih _ _ _ S h) _ _ _ _ h
    · refine RR.c_ge (fun q => absurd q c) (fun _ => ?_)
      refine RR.weak [] trivial ?_
      exact s_m_isLaw_74 _ h
def m_isLaw (v1 : Int32) (v2 : Int32) (S : St) : Re Int32 :=
  m_isLaw_2 FU v1 v2 (0 : Int32) S
set_option maxRecDepth 100000 in
theorem s0_m_isLaw {d : Nat} {S' : St} {r : Int32} (v1 : Int32) (v2 : Int32) (S : St) (h : m_isLaw v1 v2 S = some (r, S')) : RR KM (d + 0) 2493 0 [(0, .ref 500), (1, .int v1), (2, .int v2)] [] S (some (.int r)) S' := by
  unfold m_isLaw at h
  refine RR.runs (pc' := 2) (lc' := [(3, .int (0 : Int32)), (0, .ref 500), (1, .int v1), (2, .int v2)]) (st' := []) (S1 := S) (nL := 5) (cd := cd_2493) mx_2493 rfl rfl 2 rfl ?_
  refine RR.weak [(0, .ref 500), (1, .int v1), (2, .int v2), (3, .int (0 : Int32))] ⟨rfl, rfl, rfl, rfl, trivial⟩ ?_
  exact s_m_isLaw_2 _ _ _ _ _ h
theorem s_m_isLaw {d : Nat} {S' : St} {r : Int32} (v1 : Int32) (v2 : Int32) (S : St) (h : m_isLaw v1 v2 S = some (r, S')) : RC KM (d + 0) 2493 [.ref 500, .int v1, .int v2] S (some (.int r)) S' := RC.of rfl (s0_m_isLaw v1 v2 S h)
-- laws (I)I
def m_laws_76 (k35 : Int32 → Int32 → Int32 → Int32 → Int32 → Int32 → St → Re Int32) (v1 : Int32) (v2 : Int32) (v3 : Int32) (v4 : Int32) (v5 : Int32) (v6 : Int32) (S : St) : Re Int32 :=
  lt' ((v6 + (1 : Int32)) : Int32) fun x1 =>
  k35 v1 v2 v3 v4 v5 x1 S
set_option maxRecDepth 100000 in
theorem s_m_laws_76 {d : Nat} (k35 : Int32 → Int32 → Int32 → Int32 → Int32 → Int32 → St → Re Int32) {S' : St} {r : Int32} (b35 : ∀ (v1 : Int32) (v2 : Int32) (v3 : Int32) (v4 : Int32) (v5 : Int32) (v6 : Int32) (S : St), k35 v1 v2 v3 v4 v5 v6 S = some (r, S') → RR KM (d + 1) 2494 35 [(0, .ref 500), (1, .int v1), (2, .int v2), (3, .int v3), (4, .int v4), (5, .int v5), (6, .int v6)] [] S (some (.int r)) S') (v1 : Int32) (v2 : Int32) (v3 : Int32) (v4 : Int32) (v5 : Int32) (v6 : Int32) (S : St) (h : m_laws_76 k35 v1 v2 v3 v4 v5 v6 S = some (r, S')) : RR KM (d + 1) 2494 76 [(0, .ref 500), (1, .int v1), (2, .int v2), (3, .int v3), (4, .int v4), (5, .int v5), (6, .int v6)] [] S (some (.int r)) S' := by
  unfold m_laws_76 at h
  refine RR.runs (pc' := 79) (lc' := [(6, .int ((v6 + (1 : Int32)))), (0, .ref 500), (1, .int v1), (2, .int v2), (3, .int v3), (4, .int v4), (5, .int v5)]) (st' := []) (S1 := S) (nL := 7) (cd := cd_2494) mx_2494 rfl rfl 1 rfl ?_
  obtain ⟨x1, ex1, h⟩ := ltE h
  rw [← ex1]
  refine RR.runs (pc' := 35) (lc' := [(6, .int x1), (0, .ref 500), (1, .int v1), (2, .int v2), (3, .int v3), (4, .int v4), (5, .int v5)]) (st' := []) (S1 := S) (nL := 7) (cd := cd_2494) mx_2494 rfl rfl 1 rfl ?_
  refine RR.weak [(0, .ref 500), (1, .int v1), (2, .int v2), (3, .int v3), (4, .int v4), (5, .int v5), (6, .int x1)] ⟨rfl, rfl, rfl, rfl, rfl, rfl, rfl, trivial⟩ ?_
  exact b35 _ _ _ _ _ _ _ h
def m_laws_66 (k35 : Int32 → Int32 → Int32 → Int32 → Int32 → Int32 → St → Re Int32) (v1 : Int32) (v2 : Int32) (v3 : Int32) (v4 : Int32) (v5 : Int32) (v6 : Int32) (S : St) : Re Int32 :=
  if v3 = v5 then (
    m_laws_76 k35 v1 v2 v3 v6 v5 v6 S)
  else (
    m_laws_76 k35 v1 v2 v3 v4 v5 v6 S)
set_option maxRecDepth 100000 in
theorem s_m_laws_66 {d : Nat} (k35 : Int32 → Int32 → Int32 → Int32 → Int32 → Int32 → St → Re Int32) {S' : St} {r : Int32} (b35 : ∀ (v1 : Int32) (v2 : Int32) (v3 : Int32) (v4 : Int32) (v5 : Int32) (v6 : Int32) (S : St), k35 v1 v2 v3 v4 v5 v6 S = some (r, S') → RR KM (d + 1) 2494 35 [(0, .ref 500), (1, .int v1), (2, .int v2), (3, .int v3), (4, .int v4), (5, .int v5), (6, .int v6)] [] S (some (.int r)) S') (v1 : Int32) (v2 : Int32) (v3 : Int32) (v4 : Int32) (v5 : Int32) (v6 : Int32) (S : St) (h : m_laws_66 k35 v1 v2 v3 v4 v5 v6 S = some (r, S')) : RR KM (d + 1) 2494 66 [(0, .ref 500), (1, .int v1), (2, .int v2), (3, .int v3), (4, .int v4), (5, .int v5), (6, .int v6)] [] S (some (.int r)) S' := by
  unfold m_laws_66 at h
  refine RR.runs (pc' := icm .ne v3 v5 76 72) (lc' := [(0, .ref 500), (1, .int v1), (2, .int v2), (3, .int v3), (4, .int v4), (5, .int v5), (6, .int v6)]) (st' := []) (S1 := S) (nL := 7) (cd := cd_2494) mx_2494 rfl rfl 3 rfl ?_
  rcases ifE h with ⟨c, h⟩ | ⟨c, h⟩
  · refine RR.c_ne (fun _ => ?_) (fun q => absurd c q)
    refine RR.runs (pc' := 76) (lc' := [(4, .int v6), (0, .ref 500), (1, .int v1), (2, .int v2), (3, .int v3), (5, .int v5), (6, .int v6)]) (st' := []) (S1 := S) (nL := 7) (cd := cd_2494) mx_2494 rfl rfl 2 rfl ?_
    refine RR.weak [(0, .ref 500), (1, .int v1), (2, .int v2), (3, .int v3), (4, .int v6), (5, .int v5), (6, .int v6)] ⟨rfl, rfl, rfl, rfl, rfl, rfl, rfl, trivial⟩ ?_
    exact s_m_laws_76 _ b35 _ _ _ _ _ _ _ h
  · refine RR.c_ne (fun q => absurd q c) (fun _ => ?_)
    refine RR.weak [(0, .ref 500), (1, .int v1), (2, .int v2), (3, .int v3), (4, .int v4), (5, .int v5), (6, .int v6)] ⟨rfl, rfl, rfl, rfl, rfl, rfl, rfl, trivial⟩ ?_
    exact s_m_laws_76 _ b35 _ _ _ _ _ _ _ h
def m_laws_82 (k26 : Int32 → Int32 → Int32 → Int32 → Int32 → St → Re Int32) (v1 : Int32) (v2 : Int32) (v3 : Int32) (v4 : Int32) (v5 : Int32) (S : St) : Re Int32 :=
  lt' ((v5 + (1 : Int32)) : Int32) fun x1 =>
  k26 v1 v2 v3 v4 x1 S
set_option maxRecDepth 100000 in
theorem s_m_laws_82 {d : Nat} (k26 : Int32 → Int32 → Int32 → Int32 → Int32 → St → Re Int32) {S' : St} {r : Int32} (b26 : ∀ (v1 : Int32) (v2 : Int32) (v3 : Int32) (v4 : Int32) (v5 : Int32) (S : St), k26 v1 v2 v3 v4 v5 S = some (r, S') → RR KM (d + 1) 2494 26 [(0, .ref 500), (1, .int v1), (2, .int v2), (3, .int v3), (4, .int v4), (5, .int v5)] [] S (some (.int r)) S') (v1 : Int32) (v2 : Int32) (v3 : Int32) (v4 : Int32) (v5 : Int32) (S : St) (h : m_laws_82 k26 v1 v2 v3 v4 v5 S = some (r, S')) : RR KM (d + 1) 2494 82 [(0, .ref 500), (1, .int v1), (2, .int v2), (3, .int v3), (4, .int v4), (5, .int v5)] [] S (some (.int r)) S' := by
  unfold m_laws_82 at h
  refine RR.runs (pc' := 85) (lc' := [(5, .int ((v5 + (1 : Int32)))), (0, .ref 500), (1, .int v1), (2, .int v2), (3, .int v3), (4, .int v4)]) (st' := []) (S1 := S) (nL := 7) (cd := cd_2494) mx_2494 rfl rfl 1 rfl ?_
  obtain ⟨x1, ex1, h⟩ := ltE h
  rw [← ex1]
  refine RR.runs (pc' := 26) (lc' := [(5, .int x1), (0, .ref 500), (1, .int v1), (2, .int v2), (3, .int v3), (4, .int v4)]) (st' := []) (S1 := S) (nL := 7) (cd := cd_2494) mx_2494 rfl rfl 1 rfl ?_
  refine RR.weak [(0, .ref 500), (1, .int v1), (2, .int v2), (3, .int v3), (4, .int v4), (5, .int x1)] ⟨rfl, rfl, rfl, rfl, rfl, rfl, trivial⟩ ?_
  exact b26 _ _ _ _ _ _ h
def m_laws_35 (k26 : Int32 → Int32 → Int32 → Int32 → Int32 → St → Re Int32) : Nat → Int32 → Int32 → Int32 → Int32 → Int32 → Int32 → St → Re Int32
  | 0, _, _, _, _, _, _, _ => none
  | n + 1, v1, v2, v3, v4, v5, v6, S =>
  if v6 < (9 : Int32) then (
    bn (m_isLaw v5 v6 S) fun r1 S2 =>
    if r1 = 0 then (
      m_laws_76 (m_laws_35 k26 n) v1 v2 v3 v4 v5 v6 S2)
    else (
      lt' ((v2 + (1 : Int32)) : Int32) fun x3 =>
      if v3 < 0 then (
        m_laws_66 (m_laws_35 k26 n) v1 x3 v5 v4 v5 v6 S2)
      else (
        m_laws_66 (m_laws_35 k26 n) v1 x3 v3 v4 v5 v6 S2)))
  else (
    m_laws_82 k26 v1 v2 v3 v4 v5 S)
set_option maxRecDepth 100000 in
theorem s_m_laws_35 {d : Nat} (k26 : Int32 → Int32 → Int32 → Int32 → Int32 → St → Re Int32) {S' : St} {r : Int32} (b26 : ∀ (v1 : Int32) (v2 : Int32) (v3 : Int32) (v4 : Int32) (v5 : Int32) (S : St), k26 v1 v2 v3 v4 v5 S = some (r, S') → RR KM (d + 1) 2494 26 [(0, .ref 500), (1, .int v1), (2, .int v2), (3, .int v3), (4, .int v4), (5, .int v5)] [] S (some (.int r)) S') : ∀ (n : Nat) (v1 : Int32) (v2 : Int32) (v3 : Int32) (v4 : Int32) (v5 : Int32) (v6 : Int32) (S : St), m_laws_35 k26 n v1 v2 v3 v4 v5 v6 S = some (r, S') → RR KM (d + 1) 2494 35 [(0, .ref 500), (1, .int v1), (2, .int v2), (3, .int v3), (4, .int v4), (5, .int v5), (6, .int v6)] [] S (some (.int r)) S' := by
  intro n
  induction n with
  | zero => intro v1 v2 v3 v4 v5 v6 S h; simp only [m_laws_35] at h; cases h
  | succ n ih =>
    intro v1 v2 v3 v4 v5 v6 S h
    simp only [m_laws_35] at h
    refine RR.runs (pc' := icm .ge v6 (9 : Int32) 82 42) (lc' := [(0, .ref 500), (1, .int v1), (2, .int v2), (3, .int v3), (4, .int v4), (5, .int v5), (6, .int v6)]) (st' := []) (S1 := S) (nL := 7) (cd := cd_2494) mx_2494 rfl rfl 3 rfl ?_
    rcases ifE h with ⟨c, h⟩ | ⟨c, h⟩
    · refine RR.c_ge (fun _ => ?_) (fun q => absurd c q)
      refine RR.runs (pc' := 47) (lc' := [(0, .ref 500), (1, .int v1), (2, .int v2), (3, .int v3), (4, .int v4), (5, .int v5), (6, .int v6)]) (st' := [.int v6, .int v5, .ref 500]) (S1 := S) (nL := 7) (cd := cd_2494) mx_2494 rfl rfl 3 rfl ?_
      obtain ⟨r1, S2, h1, h⟩ := bnE h
      refine RR.callV (b := 500) (as := [.int v5, .int v6]) (rest := []) (r1 := (some (.int r1))) (S1 := S2) mx_2494 rfl rfl mx_2493 rfl rfl (by decide) (Or.inl rfl) (Nat.le_of_ble_eq_true rfl) (Nat.le_of_ble_eq_true rfl) (RC.deep (by omega) (s_m_isLaw (d := d) _ _ _ h1)) ?_
      show RR KM _ 2494 50 [(0, .ref 500), (1, .int v1), (2, .int v2), (3, .int v3), (4, .int v4), (5, .int v5), (6, .int v6)] [.int r1] S2 _ _
      refine RR.runs (pc' := icm .ne r1 0 56 53) (lc' := [(0, .ref 500), (1, .int v1), (2, .int v2), (3, .int v3), (4, .int v4), (5, .int v5), (6, .int v6)]) (st' := []) (S1 := S2) (nL := 7) (cd := cd_2494) mx_2494 rfl rfl 1 rfl ?_
      rcases ifE h with ⟨c, h⟩ | ⟨c, h⟩
      · refine RR.c_ne (fun _ => ?_) (fun q => absurd c q)
        refine RR.runs (pc' := 76) (lc' := [(0, .ref 500), (1, .int v1), (2, .int v2), (3, .int v3), (4, .int v4), (5, .int v5), (6, .int v6)]) (st' := []) (S1 := S2) (nL := 7) (cd := cd_2494) mx_2494 rfl rfl 1 rfl ?_
        refine RR.weak [(0, .ref 500), (1, .int v1), (2, .int v2), (3, .int v3), (4, .int v4), (5, .int v5), (6, .int v6)] ⟨rfl, rfl, rfl, rfl, rfl, rfl, rfl, trivial⟩ ?_
        exact s_m_laws_76 _ (fun _ _ _ _ _ _ S h => ih _ _ _ _ _ _ S h) _ _ _ _ _ _ _ h
      · refine RR.c_ne (fun q => absurd q c) (fun _ => ?_)
        refine RR.runs (pc' := 59) (lc' := [(2, .int ((v2 + (1 : Int32)))), (0, .ref 500), (1, .int v1), (3, .int v3), (4, .int v4), (5, .int v5), (6, .int v6)]) (st' := []) (S1 := S2) (nL := 7) (cd := cd_2494) mx_2494 rfl rfl 1 rfl ?_
        obtain ⟨x3, ex3, h⟩ := ltE h
        rw [← ex3]
        refine RR.runs (pc' := icm .ge v3 0 66 63) (lc' := [(2, .int x3), (0, .ref 500), (1, .int v1), (3, .int v3), (4, .int v4), (5, .int v5), (6, .int v6)]) (st' := []) (S1 := S2) (nL := 7) (cd := cd_2494) mx_2494 rfl rfl 2 rfl ?_
        rcases ifE h with ⟨c, h⟩ | ⟨c, h⟩
        · refine RR.c_ge (fun _ => ?_) (fun q => absurd c q)
          refine RR.runs (pc' := 66) (lc' := [(3, .int v5), (2, .int x3), (0, .ref 500), (1, .int v1), (4, .int v4), (5, .int v5), (6, .int v6)]) (st' := []) (S1 := S2) (nL := 7) (cd := cd_2494) mx_2494 rfl rfl 2 rfl ?_
          refine RR.weak [(0, .ref 500), (1, .int v1), (2, .int x3), (3, .int v5), (4, .int v4), (5, .int v5), (6, .int v6)] ⟨rfl, rfl, rfl, rfl, rfl, rfl, rfl, trivial⟩ ?_
          exact s_m_laws_66 _ (fun _ _ _ _ _ _ S h => ih _ _ _ _ _ _ S h) _ _ _ _ _ _ _ h
        · refine RR.c_ge (fun q => absurd q c) (fun _ => ?_)
          refine RR.weak [(0, .ref 500), (1, .int v1), (2, .int x3), (3, .int v3), (4, .int v4), (5, .int v5), (6, .int v6)] ⟨rfl, rfl, rfl, rfl, rfl, rfl, rfl, trivial⟩ ?_
          exact s_m_laws_66 _ (fun _ _ _ _ _ _ S h => ih _ _ _ _ _ _ S h) _ _ _ _ _ _ _ h
    · refine RR.c_ge (fun q => absurd q c) (fun _ => ?_)
      refine RR.weak [(0, .ref 500), (1, .int v1), (2, .int v2), (3, .int v3), (4, .int v4), (5, .int v5)] ⟨rfl, rfl, rfl, rfl, rfl, rfl, trivial⟩ ?_
      exact s_m_laws_82 _ b26 _ _ _ _ _ _ h
def m_laws_107 (p0 : Int32) (S : St) : Re Int32 :=
  some (p0, S)
set_option maxRecDepth 100000 in
theorem s_m_laws_107 {d : Nat} {S' : St} {r : Int32} (p0 : Int32) (S : St) (h : m_laws_107 p0 S = some (r, S')) : RR KM (d + 1) 2494 107 [] [.int p0] S (some (.int r)) S' := by
  unfold m_laws_107 at h
  cases h
  exact RR.reti mx_2494 rfl rfl rfl
def m_laws_88 (v1 : Int32) (v2 : Int32) (v3 : Int32) (v4 : Int32) (S : St) : Re Int32 :=
  if v1 = 0 then (
    m_laws_107 v2 S)
  else (
    if v1 = (1 : Int32) then (
      m_laws_107 v3 S)
    else (
      m_laws_107 v4 S))
set_option maxRecDepth 100000 in
theorem s_m_laws_88 {d : Nat} {S' : St} {r : Int32} (v1 : Int32) (v2 : Int32) (v3 : Int32) (v4 : Int32) (S : St) (h : m_laws_88 v1 v2 v3 v4 S = some (r, S')) : RR KM (d + 1) 2494 88 [(1, .int v1), (2, .int v2), (3, .int v3), (4, .int v4)] [] S (some (.int r)) S' := by
  unfold m_laws_88 at h
  refine RR.runs (pc' := icm .ne v1 0 96 92) (lc' := [(1, .int v1), (2, .int v2), (3, .int v3), (4, .int v4)]) (st' := []) (S1 := S) (nL := 7) (cd := cd_2494) mx_2494 rfl rfl 2 rfl ?_
  rcases ifE h with ⟨c, h⟩ | ⟨c, h⟩
  · refine RR.c_ne (fun _ => ?_) (fun q => absurd c q)
    refine RR.runs (pc' := 107) (lc' := [(1, .int v1), (2, .int v2), (3, .int v3), (4, .int v4)]) (st' := [.int v2]) (S1 := S) (nL := 7) (cd := cd_2494) mx_2494 rfl rfl 2 rfl ?_
    refine RR.weak [] trivial ?_
    exact s_m_laws_107 _ _ h
  · refine RR.c_ne (fun q => absurd q c) (fun _ => ?_)
    refine RR.runs (pc' := icm .ne v1 (1 : Int32) 105 101) (lc' := [(1, .int v1), (2, .int v2), (3, .int v3), (4, .int v4)]) (st' := []) (S1 := S) (nL := 7) (cd := cd_2494) mx_2494 rfl rfl 3 rfl ?_
    rcases ifE h with ⟨c, h⟩ | ⟨c, h⟩
    · refine RR.c_ne (fun _ => ?_) (fun q => absurd c q)
      refine RR.runs (pc' := 107) (lc' := [(1, .int v1), (2, .int v2), (3, .int v3), (4, .int v4)]) (st' := [.int v3]) (S1 := S) (nL := 7) (cd := cd_2494) mx_2494 rfl rfl 2 rfl ?_
      refine RR.weak [] trivial ?_
      exact s_m_laws_107 _ _ h
    · refine RR.c_ne (fun q => absurd q c) (fun _ => ?_)
      refine RR.runs (pc' := 107) (lc' := [(1, .int v1), (2, .int v2), (3, .int v3), (4, .int v4)]) (st' := [.int v4]) (S1 := S) (nL := 7) (cd := cd_2494) mx_2494 rfl rfl 1 rfl ?_
      refine RR.weak [] trivial ?_
      exact s_m_laws_107 _ _ h
def m_laws_26 : Nat → Int32 → Int32 → Int32 → Int32 → Int32 → St → Re Int32
  | 0, _, _, _, _, _, _ => none
  | n + 1, v1, v2, v3, v4, v5, S =>
  if v5 < (5 : Int32) then (
    m_laws_35 (m_laws_26 n) FU v1 v2 v3 v4 v5 (1 : Int32) S)
  else (
    m_laws_88 v1 v2 v3 v4 S)
set_option maxRecDepth 100000 in
theorem s_m_laws_26 {d : Nat} {S' : St} {r : Int32} : ∀ (n : Nat) (v1 : Int32) (v2 : Int32) (v3 : Int32) (v4 : Int32) (v5 : Int32) (S : St), m_laws_26 n v1 v2 v3 v4 v5 S = some (r, S') → RR KM (d + 1) 2494 26 [(0, .ref 500), (1, .int v1), (2, .int v2), (3, .int v3), (4, .int v4), (5, .int v5)] [] S (some (.int r)) S' := by
  intro n
  induction n with
  | zero => intro v1 v2 v3 v4 v5 S h; simp only [m_laws_26] at h; cases h
  | succ n ih =>
    intro v1 v2 v3 v4 v5 S h
    simp only [m_laws_26] at h
    refine RR.runs (pc' := icm .ge v5 (5 : Int32) 88 32) (lc' := [(0, .ref 500), (1, .int v1), (2, .int v2), (3, .int v3), (4, .int v4), (5, .int v5)]) (st' := []) (S1 := S) (nL := 7) (cd := cd_2494) mx_2494 rfl rfl 3 rfl ?_
    rcases ifE h with ⟨c, h⟩ | ⟨c, h⟩
    · refine RR.c_ge (fun _ => ?_) (fun q => absurd c q)
      refine RR.runs (pc' := 35) (lc' := [(6, .int (1 : Int32)), (0, .ref 500), (1, .int v1), (2, .int v2), (3, .int v3), (4, .int v4), (5, .int v5)]) (st' := []) (S1 := S) (nL := 7) (cd := cd_2494) mx_2494 rfl rfl 2 rfl ?_
      refine RR.weak [(0, .ref 500), (1, .int v1), (2, .int v2), (3, .int v3), (4, .int v4), (5, .int v5), (6, .int (1 : Int32))] ⟨rfl, rfl, rfl, rfl, rfl, rfl, rfl, trivial⟩ ?_
      exact s_m_laws_35 _ (fun _ _ _ _ _ S h => ih _ _ _ _ _ S h) _ _ _ _ _ _ _ _ h
    · refine RR.c_ge (fun q => absurd q c) (fun _ => ?_)
      refine RR.weak [(1, .int v1), (2, .int v2), (3, .int v3), (4, .int v4)] ⟨rfl, rfl, rfl, rfl, trivial⟩ ?_
      exact s_m_laws_88 _ _ _ _ _ h
def m_laws (v1 : Int32) (S : St) : Re Int32 :=
  lt' (wI S 500 0 (0 : Int32)) fun S1 =>
  bn (m_within v1 (0 : Int32) (2 : Int32) S1) fun r2 S3 =>
  if r2 = 0 then (
    some ((-1 : Int32), S3))
  else (
    m_laws_26 FU v1 (0 : Int32) (-1 : Int32) (-1 : Int32) (0 : Int32) S3)
set_option maxRecDepth 100000 in
theorem s0_m_laws {d : Nat} {S' : St} {r : Int32} (v1 : Int32) (S : St) (h : m_laws v1 S = some (r, S')) : RR KM (d + 1) 2494 0 [(0, .ref 500), (1, .int v1)] [] S (some (.int r)) S' := by
  unfold m_laws at h
  refine RR.runs (pc' := 5) (lc' := [(0, .ref 500), (1, .int v1)]) (st' := []) (S1 := (wI S 500 0 (0 : Int32))) (nL := 7) (cd := cd_2494) mx_2494 rfl rfl 3 rfl ?_
  obtain ⟨S1, eS1, h⟩ := ltE h
  rw [← eS1]
  refine RR.runs (pc' := 8) (lc' := [(0, .ref 500), (1, .int v1)]) (st' := [.int (2 : Int32), .int (0 : Int32), .int v1]) (S1 := S1) (nL := 7) (cd := cd_2494) mx_2494 rfl rfl 3 rfl ?_
  obtain ⟨r2, S3, h1, h⟩ := bnE h
  refine RR.callS (as := [.int v1, .int (0 : Int32), .int (2 : Int32)]) (rest := []) (r1 := (some (.int r2))) (S1 := S3) mx_2494 rfl rfl mx_2402 rfl rfl (by decide) (Nat.le_of_ble_eq_true rfl) (Nat.le_of_ble_eq_true rfl) (Nat.le_of_ble_eq_true rfl) (RC.deep (by omega) (s_m_within (d := d) _ _ _ _ h1)) ?_
  show RR KM _ 2494 11 [(0, .ref 500), (1, .int v1)] [.int r2] S3 _ _
  refine RR.runs (pc' := icm .ne r2 0 16 14) (lc' := [(0, .ref 500), (1, .int v1)]) (st' := []) (S1 := S3) (nL := 7) (cd := cd_2494) mx_2494 rfl rfl 1 rfl ?_
  rcases ifE h with ⟨c, h⟩ | ⟨c, h⟩
  · refine RR.c_ne (fun _ => ?_) (fun q => absurd c q)
    refine RR.runs (pc' := 15) (lc' := [(0, .ref 500), (1, .int v1)]) (st' := [.int (-1 : Int32)]) (S1 := S3) (nL := 7) (cd := cd_2494) mx_2494 rfl rfl 1 rfl ?_
    cases h
    exact RR.reti mx_2494 rfl rfl rfl
  · refine RR.c_ne (fun q => absurd q c) (fun _ => ?_)
    refine RR.runs (pc' := 26) (lc' := [(5, .int (0 : Int32)), (4, .int (-1 : Int32)), (3, .int (-1 : Int32)), (2, .int (0 : Int32)), (0, .ref 500), (1, .int v1)]) (st' := []) (S1 := S3) (nL := 7) (cd := cd_2494) mx_2494 rfl rfl 8 rfl ?_
    refine RR.weak [(0, .ref 500), (1, .int v1), (2, .int (0 : Int32)), (3, .int (-1 : Int32)), (4, .int (-1 : Int32)), (5, .int (0 : Int32))] ⟨rfl, rfl, rfl, rfl, rfl, rfl, trivial⟩ ?_
    exact s_m_laws_26 _ _ _ _ _ _ _ h
theorem s_m_laws {d : Nat} {S' : St} {r : Int32} (v1 : Int32) (S : St) (h : m_laws v1 S = some (r, S')) : RC KM (d + 1) 2494 [.ref 500, .int v1] S (some (.int r)) S' := RC.of rfl (s0_m_laws v1 S h)
