/-! Methods of the reference, lifted (laid by wip/whole/gen/model.py) -/
-- fresh ()V
def m_fresh_69 (S : St) : Re Unit :=
  some ((), S)
set_option maxRecDepth 100000 in
theorem s_m_fresh_69 {d : Nat} {S' : St} {r : Unit} (S : St) (h : m_fresh_69 S = some (r, S')) : RR KM (d + 0) 2452 69 [] [] S none S' := by
  unfold m_fresh_69 at h
  cases h
  exact RR.retv mx_2452 rfl rfl rfl
def m_fresh_39 : Nat → Int32 → St → Re Unit
  | 0, _, _ => none
  | n + 1, v1, S =>
  if (0 : Int32) < 0 ∨ 12 ≤ (0 : Int32).toNatClampNeg then none else
  if v1 < (rI S 502 (0 : Int32).toNatClampNeg) then (
    if v1 < 0 ∨ 20 ≤ v1.toNatClampNeg then none else
    if ((5 : Int32) + v1) < 0 ∨ 15 ≤ (((5 : Int32) + v1)).toNatClampNeg then none else
    lt' (wI S 553 (((5 : Int32) + v1)).toNatClampNeg (rI S 505 v1.toNatClampNeg)) fun S1 =>
    lt' ((v1 + (1 : Int32)) : Int32) fun x2 =>
    m_fresh_39 n x2 S1)
  else (
    m_fresh_69 S)
set_option maxRecDepth 100000 in
theorem s_m_fresh_39 {d : Nat} {S' : St} {r : Unit} : ∀ (n : Nat) (v1 : Int32) (S : St), m_fresh_39 n v1 S = some (r, S') → RR KM (d + 0) 2452 39 [(0, .ref 500), (1, .int v1)] [] S none S' := by
  intro n
  induction n with
  | zero => intro v1 S h; simp only [m_fresh_39] at h; cases h
  | succ n ih =>
    intro v1 S h
    simp only [m_fresh_39] at h
    refine RR.runs (pc' := 45) (lc' := [(0, .ref 500), (1, .int v1)]) (st' := [.int (0 : Int32), .ref 502, .int v1]) (S1 := S) (nL := 2) (cd := cd_2452) mx_2452 rfl rfl 4 rfl ?_
    obtain ⟨g, h⟩ := gnE h
    refine RR.gPN (c2 := (KM.1 502).1 = 1) (pc' := 46) (lc' := [(0, .ref 500), (1, .int v1)]) (st' := [.int ((rI S 502 (0 : Int32).toNatClampNeg)), .int v1]) (S1 := S) (nL := 2) (cd := cd_2452) mx_2452 rfl rfl rfl rfl g ?_
    refine RR.runs (pc' := icm .ge v1 ((rI S 502 (0 : Int32).toNatClampNeg)) 69 49) (lc' := [(0, .ref 500), (1, .int v1)]) (st' := []) (S1 := S) (nL := 2) (cd := cd_2452) mx_2452 rfl rfl 1 rfl ?_
    rcases ifE h with ⟨c, h⟩ | ⟨c, h⟩
    · refine RR.c_ge (fun _ => ?_) (fun q => absurd c q)
      refine RR.runs (pc' := 61) (lc' := [(0, .ref 500), (1, .int v1)]) (st' := [.int v1, .ref 505, .int (((5 : Int32) + v1)), .ref 553]) (S1 := S) (nL := 2) (cd := cd_2452) mx_2452 rfl rfl 8 rfl ?_
      obtain ⟨g, h⟩ := gnE h
      refine RR.gPN (c2 := (KM.1 505).1 = 1) (pc' := 62) (lc' := [(0, .ref 500), (1, .int v1)]) (st' := [.int (rI S 505 v1.toNatClampNeg), .int (((5 : Int32) + v1)), .ref 553]) (S1 := S) (nL := 2) (cd := cd_2452) mx_2452 rfl rfl rfl rfl g ?_
      obtain ⟨g, h⟩ := gnE h
      refine RR.gPN (c2 := (KM.1 553).1 = 1) (pc' := 63) (lc' := [(0, .ref 500), (1, .int v1)]) (st' := []) (S1 := (wI S 553 (((5 : Int32) + v1)).toNatClampNeg (rI S 505 v1.toNatClampNeg))) (nL := 2) (cd := cd_2452) mx_2452 rfl rfl rfl rfl g ?_
      obtain ⟨S1, eS1, h⟩ := ltE h
      rw [← eS1]
      refine RR.runs (pc' := 66) (lc' := [(1, .int ((v1 + (1 : Int32)))), (0, .ref 500)]) (st' := []) (S1 := S1) (nL := 2) (cd := cd_2452) mx_2452 rfl rfl 1 rfl ?_
      obtain ⟨x2, ex2, h⟩ := ltE h
      rw [← ex2]
      refine RR.runs (pc' := 39) (lc' := [(1, .int x2), (0, .ref 500)]) (st' := []) (S1 := S1) (nL := 2) (cd := cd_2452) mx_2452 rfl rfl 1 rfl ?_
      refine RR.weak [(0, .ref 500), (1, .int x2)] ⟨rfl, rfl, trivial⟩ ?_
      exact ih _ _ h
    · refine RR.c_ge (fun q => absurd q c) (fun _ => ?_)
      refine RR.weak [] trivial ?_
      exact s_m_fresh_69 _ h
def m_fresh_21 (S : St) : Re Unit :=
  if (0 : Int32) < 0 ∨ 12 ≤ (0 : Int32).toNatClampNeg then none else
  if (0 : Int32) < 0 ∨ 15 ≤ (0 : Int32).toNatClampNeg then none else
  lt' (wI S 553 (0 : Int32).toNatClampNeg ((((1 : Int32) <<< ((rI S 502 (0 : Int32).toNatClampNeg) &&& 31)) - (1 : Int32)))) fun S1 =>
  m_fresh_39 FU (0 : Int32) S1
set_option maxRecDepth 100000 in
theorem s_m_fresh_21 {d : Nat} {S' : St} {r : Unit} (S : St) (h : m_fresh_21 S = some (r, S')) : RR KM (d + 0) 2452 21 [(0, .ref 500)] [] S none S' := by
  unfold m_fresh_21 at h
  refine RR.runs (pc' := 32) (lc' := [(0, .ref 500)]) (st' := [.int (0 : Int32), .ref 502, .int (1 : Int32), .int (0 : Int32), .ref 553]) (S1 := S) (nL := 2) (cd := cd_2452) mx_2452 rfl rfl 7 rfl ?_
  obtain ⟨g, h⟩ := gnE h
  refine RR.gPN (c2 := (KM.1 502).1 = 1) (pc' := 33) (lc' := [(0, .ref 500)]) (st' := [.int ((rI S 502 (0 : Int32).toNatClampNeg)), .int (1 : Int32), .int (0 : Int32), .ref 553]) (S1 := S) (nL := 2) (cd := cd_2452) mx_2452 rfl rfl rfl rfl g ?_
  refine RR.runs (pc' := 36) (lc' := [(0, .ref 500)]) (st' := [.int ((((1 : Int32) <<< ((rI S 502 (0 : Int32).toNatClampNeg) &&& 31)) - (1 : Int32))), .int (0 : Int32), .ref 553]) (S1 := S) (nL := 2) (cd := cd_2452) mx_2452 rfl rfl 3 rfl ?_
  obtain ⟨g, h⟩ := gnE h
  refine RR.gPN (c2 := (KM.1 553).1 = 1) (pc' := 37) (lc' := [(0, .ref 500)]) (st' := []) (S1 := (wI S 553 (0 : Int32).toNatClampNeg ((((1 : Int32) <<< ((rI S 502 (0 : Int32).toNatClampNeg) &&& 31)) - (1 : Int32))))) (nL := 2) (cd := cd_2452) mx_2452 rfl rfl rfl rfl g ?_
  obtain ⟨S1, eS1, h⟩ := ltE h
  rw [← eS1]
  refine RR.runs (pc' := 39) (lc' := [(1, .int (0 : Int32)), (0, .ref 500)]) (st' := []) (S1 := S1) (nL := 2) (cd := cd_2452) mx_2452 rfl rfl 2 rfl ?_
  refine RR.weak [(0, .ref 500), (1, .int (0 : Int32))] ⟨rfl, rfl, trivial⟩ ?_
  exact s_m_fresh_39 _ _ _ h
def m_fresh_2 : Nat → Int32 → St → Re Unit
  | 0, _, _ => none
  | n + 1, v1, S =>
  if v1 < (15 : Int32) then (
    if v1 < 0 ∨ 15 ≤ v1.toNatClampNeg then none else
    lt' (wI S 553 v1.toNatClampNeg (0 : Int32)) fun S1 =>
    lt' ((v1 + (1 : Int32)) : Int32) fun x2 =>
    m_fresh_2 n x2 S1)
  else (
    m_fresh_21 S)
set_option maxRecDepth 100000 in
theorem s_m_fresh_2 {d : Nat} {S' : St} {r : Unit} : ∀ (n : Nat) (v1 : Int32) (S : St), m_fresh_2 n v1 S = some (r, S') → RR KM (d + 0) 2452 2 [(0, .ref 500), (1, .int v1)] [] S none S' := by
  intro n
  induction n with
  | zero => intro v1 S h; simp only [m_fresh_2] at h; cases h
  | succ n ih =>
    intro v1 S h
    simp only [m_fresh_2] at h
    refine RR.runs (pc' := icm .ge v1 (15 : Int32) 21 8) (lc' := [(0, .ref 500), (1, .int v1)]) (st' := []) (S1 := S) (nL := 2) (cd := cd_2452) mx_2452 rfl rfl 3 rfl ?_
    rcases ifE h with ⟨c, h⟩ | ⟨c, h⟩
    · refine RR.c_ge (fun _ => ?_) (fun q => absurd c q)
      refine RR.runs (pc' := 14) (lc' := [(0, .ref 500), (1, .int v1)]) (st' := [.int (0 : Int32), .int v1, .ref 553]) (S1 := S) (nL := 2) (cd := cd_2452) mx_2452 rfl rfl 4 rfl ?_
      obtain ⟨g, h⟩ := gnE h
      refine RR.gPN (c2 := (KM.1 553).1 = 1) (pc' := 15) (lc' := [(0, .ref 500), (1, .int v1)]) (st' := []) (S1 := (wI S 553 v1.toNatClampNeg (0 : Int32))) (nL := 2) (cd := cd_2452) mx_2452 rfl rfl rfl rfl g ?_
      obtain ⟨S1, eS1, h⟩ := ltE h
      rw [← eS1]
      refine RR.runs (pc' := 18) (lc' := [(1, .int ((v1 + (1 : Int32)))), (0, .ref 500)]) (st' := []) (S1 := S1) (nL := 2) (cd := cd_2452) mx_2452 rfl rfl 1 rfl ?_
      obtain ⟨x2, ex2, h⟩ := ltE h
      rw [← ex2]
      refine RR.runs (pc' := 2) (lc' := [(1, .int x2), (0, .ref 500)]) (st' := []) (S1 := S1) (nL := 2) (cd := cd_2452) mx_2452 rfl rfl 1 rfl ?_
      refine RR.weak [(0, .ref 500), (1, .int x2)] ⟨rfl, rfl, trivial⟩ ?_
      exact ih _ _ h
    · refine RR.c_ge (fun q => absurd q c) (fun _ => ?_)
      refine RR.weak [(0, .ref 500)] ⟨rfl, trivial⟩ ?_
      exact s_m_fresh_21 _ h
def m_fresh (S : St) : Re Unit :=
  m_fresh_2 FU (0 : Int32) S
set_option maxRecDepth 100000 in
theorem s0_m_fresh {d : Nat} {S' : St} {r : Unit} (S : St) (h : m_fresh S = some (r, S')) : RR KM (d + 0) 2452 0 [(0, .ref 500)] [] S none S' := by
  unfold m_fresh at h
  refine RR.runs (pc' := 2) (lc' := [(1, .int (0 : Int32)), (0, .ref 500)]) (st' := []) (S1 := S) (nL := 2) (cd := cd_2452) mx_2452 rfl rfl 2 rfl ?_
  refine RR.weak [(0, .ref 500), (1, .int (0 : Int32))] ⟨rfl, rfl, trivial⟩ ?_
  exact s_m_fresh_2 _ _ _ h
theorem s_m_fresh {d : Nat} {S' : St} {r : Unit} (S : St) (h : m_fresh S = some (r, S')) : RC KM (d + 0) 2452 [.ref 500] S none S' := RC.of rfl (s0_m_fresh S h)
-- orchard ()I
def m_orchard_78 (S : St) : Re Int32 :=
  some ((0 : Int32), S)
set_option maxRecDepth 100000 in
theorem s_m_orchard_78 {d : Nat} {S' : St} {r : Int32} (S : St) (h : m_orchard_78 S = some (r, S')) : RR KM (d + 6) 2453 78 [] [] S (some (.int r)) S' := by
  unfold m_orchard_78 at h
  refine RR.runs (pc' := 79) (lc' := []) (st' := [.int (0 : Int32)]) (S1 := S) (nL := 2) (cd := cd_2453) mx_2453 rfl rfl 1 rfl ?_
  cases h
  exact RR.reti mx_2453 rfl rfl rfl
def m_orchard_60 : Nat → Int32 → St → Re Int32
  | 0, _, _ => none
  | n + 1, v1, S =>
  if v1 < (4 : Int32) then (
    if v1 < 0 ∨ 4 ≤ v1.toNatClampNeg then none else
    lt' (wI S 557 v1.toNatClampNeg ((vp_nar .boolean (0 : Int32)))) fun S1 =>
    lt' ((v1 + (1 : Int32)) : Int32) fun x2 =>
    m_orchard_60 n x2 S1)
  else (
    m_orchard_78 S)
set_option maxRecDepth 100000 in
theorem s_m_orchard_60 {d : Nat} {S' : St} {r : Int32} : ∀ (n : Nat) (v1 : Int32) (S : St), m_orchard_60 n v1 S = some (r, S') → RR KM (d + 6) 2453 60 [(0, .ref 500), (1, .int v1)] [] S (some (.int r)) S' := by
  intro n
  induction n with
  | zero => intro v1 S h; simp only [m_orchard_60] at h; cases h
  | succ n ih =>
    intro v1 S h
    simp only [m_orchard_60] at h
    refine RR.runs (pc' := icm .ge v1 (4 : Int32) 78 65) (lc' := [(0, .ref 500), (1, .int v1)]) (st' := []) (S1 := S) (nL := 2) (cd := cd_2453) mx_2453 rfl rfl 3 rfl ?_
    rcases ifE h with ⟨c, h⟩ | ⟨c, h⟩
    · refine RR.c_ge (fun _ => ?_) (fun q => absurd c q)
      refine RR.runs (pc' := 71) (lc' := [(0, .ref 500), (1, .int v1)]) (st' := [.int (0 : Int32), .int v1, .ref 557]) (S1 := S) (nL := 2) (cd := cd_2453) mx_2453 rfl rfl 4 rfl ?_
      obtain ⟨g, h⟩ := gnE h
      refine RR.gPN (c2 := (KM.1 557).1 = 3) (pc' := 72) (lc' := [(0, .ref 500), (1, .int v1)]) (st' := []) (S1 := (wI S 557 v1.toNatClampNeg ((vp_nar .boolean (0 : Int32))))) (nL := 2) (cd := cd_2453) mx_2453 rfl rfl rfl rfl g ?_
      obtain ⟨S1, eS1, h⟩ := ltE h
      rw [← eS1]
      refine RR.runs (pc' := 75) (lc' := [(1, .int ((v1 + (1 : Int32)))), (0, .ref 500)]) (st' := []) (S1 := S1) (nL := 2) (cd := cd_2453) mx_2453 rfl rfl 1 rfl ?_
      obtain ⟨x2, ex2, h⟩ := ltE h
      rw [← ex2]
      refine RR.runs (pc' := 60) (lc' := [(1, .int x2), (0, .ref 500)]) (st' := []) (S1 := S1) (nL := 2) (cd := cd_2453) mx_2453 rfl rfl 1 rfl ?_
      refine RR.weak [(0, .ref 500), (1, .int x2)] ⟨rfl, rfl, trivial⟩ ?_
      exact ih _ _ h
    · refine RR.c_ge (fun q => absurd q c) (fun _ => ?_)
      refine RR.weak [] trivial ?_
      exact s_m_orchard_78 _ h
def m_orchard (S : St) : Re Int32 :=
  lt' (wI S 500 0 (0 : Int32)) fun S1 =>
  bn (m_readsAll S1) fun r2 S3 =>
  if r2 = 0 then (
    some ((rI S3 500 9), S3))
  else (
    bn (m_lays S3) fun r4 S5 =>
    bn (m_fresh S5) fun r6 S7 =>
    if (0 : Int32) < 0 ∨ 6 ≤ (0 : Int32).toNatClampNeg then none else
    lt' (wI S7 543 (0 : Int32).toNatClampNeg (0 : Int32)) fun S8 =>
    if (0 : Int32) < 0 ∨ 5 ≤ (0 : Int32).toNatClampNeg then none else
    lt' (wI S8 547 (0 : Int32).toNatClampNeg (0 : Int32)) fun S9 =>
    if (0 : Int32) < 0 ∨ 5 ≤ (0 : Int32).toNatClampNeg then none else
    lt' (wI S9 548 (0 : Int32).toNatClampNeg (0 : Int32)) fun S10 =>
    if (0 : Int32) < 0 ∨ 5 ≤ (0 : Int32).toNatClampNeg then none else
    lt' (wI S10 549 (0 : Int32).toNatClampNeg (0 : Int32)) fun S11 =>
    lt' (wI S11 500 69 (0 : Int32)) fun S12 =>
    m_orchard_60 FU (0 : Int32) S12)
set_option maxRecDepth 100000 in
theorem s0_m_orchard {d : Nat} {S' : St} {r : Int32} (S : St) (h : m_orchard S = some (r, S')) : RR KM (d + 6) 2453 0 [(0, .ref 500)] [] S (some (.int r)) S' := by
  unfold m_orchard at h
  refine RR.runs (pc' := 5) (lc' := [(0, .ref 500)]) (st' := []) (S1 := (wI S 500 0 (0 : Int32))) (nL := 2) (cd := cd_2453) mx_2453 rfl rfl 3 rfl ?_
  obtain ⟨S1, eS1, h⟩ := ltE h
  rw [← eS1]
  refine RR.runs (pc' := 6) (lc' := [(0, .ref 500)]) (st' := [.ref 500]) (S1 := S1) (nL := 2) (cd := cd_2453) mx_2453 rfl rfl 1 rfl ?_
  obtain ⟨r2, S3, h1, h⟩ := bnE h
  refine RR.callV (b := 500) (as := []) (rest := []) (r1 := (some (.int r2))) (S1 := S3) mx_2453 rfl rfl mx_2441 rfl rfl (by decide) (Or.inl rfl) (Nat.le_of_ble_eq_true rfl) (Nat.le_of_ble_eq_true rfl) (RC.deep (by omega) (s_m_readsAll (d := d) _ h1)) ?_
  show RR KM _ 2453 9 [(0, .ref 500)] [.int r2] S3 _ _
  refine RR.runs (pc' := icm .ne r2 0 17 12) (lc' := [(0, .ref 500)]) (st' := []) (S1 := S3) (nL := 2) (cd := cd_2453) mx_2453 rfl rfl 1 rfl ?_
  rcases ifE h with ⟨c, h⟩ | ⟨c, h⟩
  · refine RR.c_ne (fun _ => ?_) (fun q => absurd c q)
    refine RR.runs (pc' := 16) (lc' := [(0, .ref 500)]) (st' := [.int (rI S3 500 9)]) (S1 := S3) (nL := 2) (cd := cd_2453) mx_2453 rfl rfl 2 rfl ?_
    cases h
    exact RR.reti mx_2453 rfl rfl rfl
  · refine RR.c_ne (fun q => absurd q c) (fun _ => ?_)
    refine RR.runs (pc' := 18) (lc' := [(0, .ref 500)]) (st' := [.ref 500]) (S1 := S3) (nL := 2) (cd := cd_2453) mx_2453 rfl rfl 1 rfl ?_
    obtain ⟨r4, S5, h1, h⟩ := bnE h
    refine RR.callV (b := 500) (as := []) (rest := []) (r1 := none) (S1 := S5) mx_2453 rfl rfl mx_2444 rfl rfl (by decide) (Or.inl rfl) (Nat.le_of_ble_eq_true rfl) (Nat.le_of_ble_eq_true rfl) (RC.deep (by omega) (s_m_lays (d := d) _ h1)) ?_
    show RR KM _ 2453 21 [(0, .ref 500)] [] S5 _ _
    refine RR.runs (pc' := 22) (lc' := [(0, .ref 500)]) (st' := [.ref 500]) (S1 := S5) (nL := 2) (cd := cd_2453) mx_2453 rfl rfl 1 rfl ?_
    obtain ⟨r6, S7, h1, h⟩ := bnE h
    refine RR.callV (b := 500) (as := []) (rest := []) (r1 := none) (S1 := S7) mx_2453 rfl rfl mx_2452 rfl rfl (by decide) (Or.inl rfl) (Nat.le_of_ble_eq_true rfl) (Nat.le_of_ble_eq_true rfl) (RC.deep (by omega) (s_m_fresh (d := d) _ h1)) ?_
    show RR KM _ 2453 25 [(0, .ref 500)] [] S7 _ _
    refine RR.runs (pc' := 31) (lc' := [(0, .ref 500)]) (st' := [.int (0 : Int32), .int (0 : Int32), .ref 543]) (S1 := S7) (nL := 2) (cd := cd_2453) mx_2453 rfl rfl 4 rfl ?_
    obtain ⟨g, h⟩ := gnE h
    refine RR.gPN (c2 := (KM.1 543).1 = 1) (pc' := 32) (lc' := [(0, .ref 500)]) (st' := []) (S1 := (wI S7 543 (0 : Int32).toNatClampNeg (0 : Int32))) (nL := 2) (cd := cd_2453) mx_2453 rfl rfl rfl rfl g ?_
    obtain ⟨S8, eS8, h⟩ := ltE h
    rw [← eS8]
    refine RR.runs (pc' := 38) (lc' := [(0, .ref 500)]) (st' := [.int (0 : Int32), .int (0 : Int32), .ref 547]) (S1 := S8) (nL := 2) (cd := cd_2453) mx_2453 rfl rfl 4 rfl ?_
    obtain ⟨g, h⟩ := gnE h
    refine RR.gPN (c2 := (KM.1 547).1 = 1) (pc' := 39) (lc' := [(0, .ref 500)]) (st' := []) (S1 := (wI S8 547 (0 : Int32).toNatClampNeg (0 : Int32))) (nL := 2) (cd := cd_2453) mx_2453 rfl rfl rfl rfl g ?_
    obtain ⟨S9, eS9, h⟩ := ltE h
    rw [← eS9]
    refine RR.runs (pc' := 45) (lc' := [(0, .ref 500)]) (st' := [.int (0 : Int32), .int (0 : Int32), .ref 548]) (S1 := S9) (nL := 2) (cd := cd_2453) mx_2453 rfl rfl 4 rfl ?_
    obtain ⟨g, h⟩ := gnE h
    refine RR.gPN (c2 := (KM.1 548).1 = 1) (pc' := 46) (lc' := [(0, .ref 500)]) (st' := []) (S1 := (wI S9 548 (0 : Int32).toNatClampNeg (0 : Int32))) (nL := 2) (cd := cd_2453) mx_2453 rfl rfl rfl rfl g ?_
    obtain ⟨S10, eS10, h⟩ := ltE h
    rw [← eS10]
    refine RR.runs (pc' := 52) (lc' := [(0, .ref 500)]) (st' := [.int (0 : Int32), .int (0 : Int32), .ref 549]) (S1 := S10) (nL := 2) (cd := cd_2453) mx_2453 rfl rfl 4 rfl ?_
    obtain ⟨g, h⟩ := gnE h
    refine RR.gPN (c2 := (KM.1 549).1 = 1) (pc' := 53) (lc' := [(0, .ref 500)]) (st' := []) (S1 := (wI S10 549 (0 : Int32).toNatClampNeg (0 : Int32))) (nL := 2) (cd := cd_2453) mx_2453 rfl rfl rfl rfl g ?_
    obtain ⟨S11, eS11, h⟩ := ltE h
    rw [← eS11]
    refine RR.runs (pc' := 58) (lc' := [(0, .ref 500)]) (st' := []) (S1 := (wI S11 500 69 (0 : Int32))) (nL := 2) (cd := cd_2453) mx_2453 rfl rfl 3 rfl ?_
    obtain ⟨S12, eS12, h⟩ := ltE h
    rw [← eS12]
    refine RR.runs (pc' := 60) (lc' := [(1, .int (0 : Int32)), (0, .ref 500)]) (st' := []) (S1 := S12) (nL := 2) (cd := cd_2453) mx_2453 rfl rfl 2 rfl ?_
    refine RR.weak [(0, .ref 500), (1, .int (0 : Int32))] ⟨rfl, rfl, trivial⟩ ?_
    exact s_m_orchard_60 _ _ _ h
theorem s_m_orchard {d : Nat} {S' : St} {r : Int32} (S : St) (h : m_orchard S = some (r, S')) : RC KM (d + 6) 2453 [.ref 500] S (some (.int r)) S' := RC.of rfl (s0_m_orchard S h)
-- days ()I
def m_days_35 (S : St) : Re Int32 :=
  bn (m_laysLines (5 : Int32) (0 : Int32) S) fun r1 S2 =>
  some ((0 : Int32), S2)
set_option maxRecDepth 100000 in
theorem s_m_days_35 {d : Nat} {S' : St} {r : Int32} (S : St) (h : m_days_35 S = some (r, S')) : RR KM (d + 4) 2454 35 [(0, .ref 500)] [] S (some (.int r)) S' := by
  unfold m_days_35 at h
  refine RR.runs (pc' := 38) (lc' := [(0, .ref 500)]) (st' := [.int (0 : Int32), .int (5 : Int32), .ref 500]) (S1 := S) (nL := 1) (cd := cd_2454) mx_2454 rfl rfl 3 rfl ?_
  obtain ⟨r1, S2, h1, h⟩ := bnE h
  refine RR.callV (b := 500) (as := [.int (5 : Int32), .int (0 : Int32)]) (rest := []) (r1 := none) (S1 := S2) mx_2454 rfl rfl mx_2450 rfl rfl (by decide) (Or.inl rfl) (Nat.le_of_ble_eq_true rfl) (Nat.le_of_ble_eq_true rfl) (RC.deep (by omega) (s_m_laysLines (d := d) _ _ _ h1)) ?_
  show RR KM _ 2454 41 [(0, .ref 500)] [] S2 _ _
  refine RR.runs (pc' := 42) (lc' := [(0, .ref 500)]) (st' := [.int (0 : Int32)]) (S1 := S2) (nL := 1) (cd := cd_2454) mx_2454 rfl rfl 1 rfl ?_
  cases h
  exact RR.reti mx_2454 rfl rfl rfl
def m_days_30 (S : St) : Re Int32 :=
  some ((rI S 500 9), S)
set_option maxRecDepth 100000 in
theorem s_m_days_30 {d : Nat} {S' : St} {r : Int32} (S : St) (h : m_days_30 S = some (r, S')) : RR KM (d + 4) 2454 30 [(0, .ref 500)] [] S (some (.int r)) S' := by
  unfold m_days_30 at h
  refine RR.runs (pc' := 34) (lc' := [(0, .ref 500)]) (st' := [.int (rI S 500 9)]) (S1 := S) (nL := 1) (cd := cd_2454) mx_2454 rfl rfl 2 rfl ?_
  cases h
  exact RR.reti mx_2454 rfl rfl rfl
def m_days_16 : Nat → St → Re Int32
  | 0, _ => none
  | n + 1, S =>
  if (rI S 500 6) = 0 then (
    m_days_35 S)
  else (
    bn (m_readsLine S) fun r1 S2 =>
    if r1 = 0 then (
      m_days_30 S2)
    else (
      m_days_16 n S2))
set_option maxRecDepth 100000 in
theorem s_m_days_16 {d : Nat} {S' : St} {r : Int32} : ∀ (n : Nat) (S : St), m_days_16 n S = some (r, S') → RR KM (d + 4) 2454 16 [(0, .ref 500)] [] S (some (.int r)) S' := by
  intro n
  induction n with
  | zero => intro S h; simp only [m_days_16] at h; cases h
  | succ n ih =>
    intro S h
    simp only [m_days_16] at h
    refine RR.runs (pc' := icm .eq (rI S 500 6) 0 35 23) (lc' := [(0, .ref 500)]) (st' := []) (S1 := S) (nL := 1) (cd := cd_2454) mx_2454 rfl rfl 3 rfl ?_
    rcases ifE h with ⟨c, h⟩ | ⟨c, h⟩
    · refine RR.c_eq (fun _ => ?_) (fun q => absurd c q)
      refine RR.weak [(0, .ref 500)] ⟨rfl, trivial⟩ ?_
      exact s_m_days_35 _ h
    · refine RR.c_eq (fun q => absurd q c) (fun _ => ?_)
      refine RR.runs (pc' := 24) (lc' := [(0, .ref 500)]) (st' := [.ref 500]) (S1 := S) (nL := 1) (cd := cd_2454) mx_2454 rfl rfl 1 rfl ?_
      obtain ⟨r1, S2, h1, h⟩ := bnE h
      refine RR.callV (b := 500) (as := []) (rest := []) (r1 := (some (.int r1))) (S1 := S2) mx_2454 rfl rfl mx_2449 rfl rfl (by decide) (Or.inl rfl) (Nat.le_of_ble_eq_true rfl) (Nat.le_of_ble_eq_true rfl) (RC.deep (by omega) (s_m_readsLine (d := d) _ h1)) ?_
      show RR KM _ 2454 27 [(0, .ref 500)] [.int r1] S2 _ _
      refine RR.runs (pc' := icm .ne r1 0 16 30) (lc' := [(0, .ref 500)]) (st' := []) (S1 := S2) (nL := 1) (cd := cd_2454) mx_2454 rfl rfl 1 rfl ?_
      rcases ifE h with ⟨c, h⟩ | ⟨c, h⟩
      · refine RR.c_ne (fun _ => ?_) (fun q => absurd c q)
        refine RR.weak [(0, .ref 500)] ⟨rfl, trivial⟩ ?_
        exact s_m_days_30 _ h
      · refine RR.c_ne (fun q => absurd q c) (fun _ => ?_)
        refine RR.weak [(0, .ref 500)] ⟨rfl, trivial⟩ ?_
        exact ih _ h
def m_days (S : St) : Re Int32 :=
  lt' (wI S 500 0 (0 : Int32)) fun S1 =>
  if (5 : Int32) < 0 ∨ 6 ≤ (5 : Int32).toNatClampNeg then none else
  lt' (wI S1 543 (5 : Int32).toNatClampNeg (0 : Int32)) fun S2 =>
  bn (m_starts S2) fun r3 S4 =>
  m_days_16 FU S4
set_option maxRecDepth 100000 in
theorem s0_m_days {d : Nat} {S' : St} {r : Int32} (S : St) (h : m_days S = some (r, S')) : RR KM (d + 4) 2454 0 [(0, .ref 500)] [] S (some (.int r)) S' := by
  unfold m_days at h
  refine RR.runs (pc' := 5) (lc' := [(0, .ref 500)]) (st' := []) (S1 := (wI S 500 0 (0 : Int32))) (nL := 1) (cd := cd_2454) mx_2454 rfl rfl 3 rfl ?_
  obtain ⟨S1, eS1, h⟩ := ltE h
  rw [← eS1]
  refine RR.runs (pc' := 11) (lc' := [(0, .ref 500)]) (st' := [.int (0 : Int32), .int (5 : Int32), .ref 543]) (S1 := S1) (nL := 1) (cd := cd_2454) mx_2454 rfl rfl 4 rfl ?_
  obtain ⟨g, h⟩ := gnE h
  refine RR.gPN (c2 := (KM.1 543).1 = 1) (pc' := 12) (lc' := [(0, .ref 500)]) (st' := []) (S1 := (wI S1 543 (5 : Int32).toNatClampNeg (0 : Int32))) (nL := 1) (cd := cd_2454) mx_2454 rfl rfl rfl rfl g ?_
  obtain ⟨S2, eS2, h⟩ := ltE h
  rw [← eS2]
  refine RR.runs (pc' := 13) (lc' := [(0, .ref 500)]) (st' := [.ref 500]) (S1 := S2) (nL := 1) (cd := cd_2454) mx_2454 rfl rfl 1 rfl ?_
  obtain ⟨r3, S4, h1, h⟩ := bnE h
  refine RR.callV (b := 500) (as := []) (rest := []) (r1 := none) (S1 := S4) mx_2454 rfl rfl mx_2440 rfl rfl (by decide) (Or.inl rfl) (Nat.le_of_ble_eq_true rfl) (Nat.le_of_ble_eq_true rfl) (RC.deep (by omega) (s_m_starts (d := d) _ h1)) ?_
  show RR KM _ 2454 16 [(0, .ref 500)] [] S4 _ _
  refine RR.weak [(0, .ref 500)] ⟨rfl, trivial⟩ ?_
  exact s_m_days_16 _ _ h
theorem s_m_days {d : Nat} {S' : St} {r : Int32} (S : St) (h : m_days S = some (r, S')) : RC KM (d + 4) 2454 [.ref 500] S (some (.int r)) S' := RC.of rfl (s0_m_days S h)
-- isApple (I)Z
def m_isApple_19 (p0 : Int32) (S : St) : Re Int32 :=
  if isBo p0 = true then some (p0, S) else none
set_option maxRecDepth 100000 in
theorem s_m_isApple_19 {d : Nat} {S' : St} {r : Int32} (p0 : Int32) (S : St) (h : m_isApple_19 p0 S = some (r, S')) : RR KM (d + 0) 2455 19 [] [.int p0] S (some (.int r)) S' := by
  unfold m_isApple_19 at h
  obtain ⟨g, h⟩ := gpE h
  cases h
  exact RR.retz mx_2455 rfl rfl rfl g
def m_isApple_18 (S : St) : Re Int32 :=
  m_isApple_19 (0 : Int32) S
set_option maxRecDepth 100000 in
theorem s_m_isApple_18 {d : Nat} {S' : St} {r : Int32} (S : St) (h : m_isApple_18 S = some (r, S')) : RR KM (d + 0) 2455 18 [] [] S (some (.int r)) S' := by
  unfold m_isApple_18 at h
  refine RR.runs (pc' := 19) (lc' := []) (st' := [.int (0 : Int32)]) (S1 := S) (nL := 2) (cd := cd_2455) mx_2455 rfl rfl 1 rfl ?_
  refine RR.weak [] trivial ?_
  exact s_m_isApple_19 _ _ h
def m_isApple (v1 : Int32) (S : St) : Re Int32 :=
  if v1 < 0 then (
    m_isApple_18 S)
  else (
    if (0 : Int32) < 0 ∨ 12 ≤ (0 : Int32).toNatClampNeg then none else
    if v1 < (rI S 502 (0 : Int32).toNatClampNeg) then (
      m_isApple_19 (1 : Int32) S)
    else (
      m_isApple_18 S))
set_option maxRecDepth 100000 in
theorem s0_m_isApple {d : Nat} {S' : St} {r : Int32} (v1 : Int32) (S : St) (h : m_isApple v1 S = some (r, S')) : RR KM (d + 0) 2455 0 [(0, .ref 500), (1, .int v1)] [] S (some (.int r)) S' := by
  unfold m_isApple at h
  refine RR.runs (pc' := icm .lt v1 0 18 4) (lc' := [(0, .ref 500), (1, .int v1)]) (st' := []) (S1 := S) (nL := 2) (cd := cd_2455) mx_2455 rfl rfl 2 rfl ?_
  rcases ifE h with ⟨c, h⟩ | ⟨c, h⟩
  · refine RR.c_lt (fun _ => ?_) (fun q => absurd c q)
    refine RR.weak [] trivial ?_
    exact s_m_isApple_18 _ h
  · refine RR.c_lt (fun q => absurd q c) (fun _ => ?_)
    refine RR.runs (pc' := 10) (lc' := [(0, .ref 500), (1, .int v1)]) (st' := [.int (0 : Int32), .ref 502, .int v1]) (S1 := S) (nL := 2) (cd := cd_2455) mx_2455 rfl rfl 4 rfl ?_
    obtain ⟨g, h⟩ := gnE h
    refine RR.gPN (c2 := (KM.1 502).1 = 1) (pc' := 11) (lc' := [(0, .ref 500), (1, .int v1)]) (st' := [.int ((rI S 502 (0 : Int32).toNatClampNeg)), .int v1]) (S1 := S) (nL := 2) (cd := cd_2455) mx_2455 rfl rfl rfl rfl g ?_
    refine RR.runs (pc' := icm .ge v1 ((rI S 502 (0 : Int32).toNatClampNeg)) 18 14) (lc' := [(0, .ref 500), (1, .int v1)]) (st' := []) (S1 := S) (nL := 2) (cd := cd_2455) mx_2455 rfl rfl 1 rfl ?_
    rcases ifE h with ⟨c, h⟩ | ⟨c, h⟩
    · refine RR.c_ge (fun _ => ?_) (fun q => absurd c q)
      refine RR.runs (pc' := 19) (lc' := [(0, .ref 500), (1, .int v1)]) (st' := [.int (1 : Int32)]) (S1 := S) (nL := 2) (cd := cd_2455) mx_2455 rfl rfl 2 rfl ?_
      refine RR.weak [] trivial ?_
      exact s_m_isApple_19 _ _ h
    · refine RR.c_ge (fun q => absurd q c) (fun _ => ?_)
      refine RR.weak [] trivial ?_
      exact s_m_isApple_18 _ h
theorem s_m_isApple {d : Nat} {S' : St} {r : Int32} (v1 : Int32) (S : St) (h : m_isApple v1 S = some (r, S')) : RC KM (d + 0) 2455 [.ref 500, .int v1] S (some (.int r)) S' := RC.of rfl (s0_m_isApple v1 S h)
-- isSound (I)Z
def m_isSound_19 (p0 : Int32) (S : St) : Re Int32 :=
  if isBo p0 = true then some (p0, S) else none
set_option maxRecDepth 100000 in
theorem s_m_isSound_19 {d : Nat} {S' : St} {r : Int32} (p0 : Int32) (S : St) (h : m_isSound_19 p0 S = some (r, S')) : RR KM (d + 0) 2456 19 [] [.int p0] S (some (.int r)) S' := by
  unfold m_isSound_19 at h
  obtain ⟨g, h⟩ := gpE h
  cases h
  exact RR.retz mx_2456 rfl rfl rfl g
def m_isSound_18 (S : St) : Re Int32 :=
  m_isSound_19 (0 : Int32) S
set_option maxRecDepth 100000 in
theorem s_m_isSound_18 {d : Nat} {S' : St} {r : Int32} (S : St) (h : m_isSound_18 S = some (r, S')) : RR KM (d + 0) 2456 18 [] [] S (some (.int r)) S' := by
  unfold m_isSound_18 at h
  refine RR.runs (pc' := 19) (lc' := []) (st' := [.int (0 : Int32)]) (S1 := S) (nL := 2) (cd := cd_2456) mx_2456 rfl rfl 1 rfl ?_
  refine RR.weak [] trivial ?_
  exact s_m_isSound_19 _ _ h
def m_isSound (v1 : Int32) (S : St) : Re Int32 :=
  if v1 < 0 then (
    m_isSound_18 S)
  else (
    if (1 : Int32) < 0 ∨ 12 ≤ (1 : Int32).toNatClampNeg then none else
    if v1 < (rI S 502 (1 : Int32).toNatClampNeg) then (
      m_isSound_19 (1 : Int32) S)
    else (
      m_isSound_18 S))
set_option maxRecDepth 100000 in
theorem s0_m_isSound {d : Nat} {S' : St} {r : Int32} (v1 : Int32) (S : St) (h : m_isSound v1 S = some (r, S')) : RR KM (d + 0) 2456 0 [(0, .ref 500), (1, .int v1)] [] S (some (.int r)) S' := by
  unfold m_isSound at h
  refine RR.runs (pc' := icm .lt v1 0 18 4) (lc' := [(0, .ref 500), (1, .int v1)]) (st' := []) (S1 := S) (nL := 2) (cd := cd_2456) mx_2456 rfl rfl 2 rfl ?_
  rcases ifE h with ⟨c, h⟩ | ⟨c, h⟩
  · refine RR.c_lt (fun _ => ?_) (fun q => absurd c q)
    refine RR.weak [] trivial ?_
    exact s_m_isSound_18 _ h
  · refine RR.c_lt (fun q => absurd q c) (fun _ => ?_)
    refine RR.runs (pc' := 10) (lc' := [(0, .ref 500), (1, .int v1)]) (st' := [.int (1 : Int32), .ref 502, .int v1]) (S1 := S) (nL := 2) (cd := cd_2456) mx_2456 rfl rfl 4 rfl ?_
    obtain ⟨g, h⟩ := gnE h
    refine RR.gPN (c2 := (KM.1 502).1 = 1) (pc' := 11) (lc' := [(0, .ref 500), (1, .int v1)]) (st' := [.int ((rI S 502 (1 : Int32).toNatClampNeg)), .int v1]) (S1 := S) (nL := 2) (cd := cd_2456) mx_2456 rfl rfl rfl rfl g ?_
    refine RR.runs (pc' := icm .ge v1 ((rI S 502 (1 : Int32).toNatClampNeg)) 18 14) (lc' := [(0, .ref 500), (1, .int v1)]) (st' := []) (S1 := S) (nL := 2) (cd := cd_2456) mx_2456 rfl rfl 1 rfl ?_
    rcases ifE h with ⟨c, h⟩ | ⟨c, h⟩
    · refine RR.c_ge (fun _ => ?_) (fun q => absurd c q)
      refine RR.runs (pc' := 19) (lc' := [(0, .ref 500), (1, .int v1)]) (st' := [.int (1 : Int32)]) (S1 := S) (nL := 2) (cd := cd_2456) mx_2456 rfl rfl 2 rfl ?_
      refine RR.weak [] trivial ?_
      exact s_m_isSound_19 _ _ h
    · refine RR.c_ge (fun q => absurd q c) (fun _ => ?_)
      refine RR.weak [] trivial ?_
      exact s_m_isSound_18 _ h
theorem s_m_isSound {d : Nat} {S' : St} {r : Int32} (v1 : Int32) (S : St) (h : m_isSound v1 S = some (r, S')) : RC KM (d + 0) 2456 [.ref 500, .int v1] S (some (.int r)) S' := RC.of rfl (s0_m_isSound v1 S h)
-- isPerson (I)Z
def m_isPerson_19 (p0 : Int32) (S : St) : Re Int32 :=
  if isBo p0 = true then some (p0, S) else none
set_option maxRecDepth 100000 in
theorem s_m_isPerson_19 {d : Nat} {S' : St} {r : Int32} (p0 : Int32) (S : St) (h : m_isPerson_19 p0 S = some (r, S')) : RR KM (d + 0) 2457 19 [] [.int p0] S (some (.int r)) S' := by
  unfold m_isPerson_19 at h
  obtain ⟨g, h⟩ := gpE h
  cases h
  exact RR.retz mx_2457 rfl rfl rfl g
def m_isPerson_18 (S : St) : Re Int32 :=
  m_isPerson_19 (0 : Int32) S
set_option maxRecDepth 100000 in
theorem s_m_isPerson_18 {d : Nat} {S' : St} {r : Int32} (S : St) (h : m_isPerson_18 S = some (r, S')) : RR KM (d + 0) 2457 18 [] [] S (some (.int r)) S' := by
  unfold m_isPerson_18 at h
  refine RR.runs (pc' := 19) (lc' := []) (st' := [.int (0 : Int32)]) (S1 := S) (nL := 2) (cd := cd_2457) mx_2457 rfl rfl 1 rfl ?_
  refine RR.weak [] trivial ?_
  exact s_m_isPerson_19 _ _ h
def m_isPerson (v1 : Int32) (S : St) : Re Int32 :=
  if v1 < 0 then (
    m_isPerson_18 S)
  else (
    if (2 : Int32) < 0 ∨ 12 ≤ (2 : Int32).toNatClampNeg then none else
    if v1 < (rI S 502 (2 : Int32).toNatClampNeg) then (
      m_isPerson_19 (1 : Int32) S)
    else (
      m_isPerson_18 S))
set_option maxRecDepth 100000 in
theorem s0_m_isPerson {d : Nat} {S' : St} {r : Int32} (v1 : Int32) (S : St) (h : m_isPerson v1 S = some (r, S')) : RR KM (d + 0) 2457 0 [(0, .ref 500), (1, .int v1)] [] S (some (.int r)) S' := by
  unfold m_isPerson at h
  refine RR.runs (pc' := icm .lt v1 0 18 4) (lc' := [(0, .ref 500), (1, .int v1)]) (st' := []) (S1 := S) (nL := 2) (cd := cd_2457) mx_2457 rfl rfl 2 rfl ?_
  rcases ifE h with ⟨c, h⟩ | ⟨c, h⟩
  · refine RR.c_lt (fun _ => ?_) (fun q => absurd c q)
    refine RR.weak [] trivial ?_
    exact s_m_isPerson_18 _ h
  · refine RR.c_lt (fun q => absurd q c) (fun _ => ?_)
    refine RR.runs (pc' := 10) (lc' := [(0, .ref 500), (1, .int v1)]) (st' := [.int (2 : Int32), .ref 502, .int v1]) (S1 := S) (nL := 2) (cd := cd_2457) mx_2457 rfl rfl 4 rfl ?_
    obtain ⟨g, h⟩ := gnE h
    refine RR.gPN (c2 := (KM.1 502).1 = 1) (pc' := 11) (lc' := [(0, .ref 500), (1, .int v1)]) (st' := [.int ((rI S 502 (2 : Int32).toNatClampNeg)), .int v1]) (S1 := S) (nL := 2) (cd := cd_2457) mx_2457 rfl rfl rfl rfl g ?_
    refine RR.runs (pc' := icm .ge v1 ((rI S 502 (2 : Int32).toNatClampNeg)) 18 14) (lc' := [(0, .ref 500), (1, .int v1)]) (st' := []) (S1 := S) (nL := 2) (cd := cd_2457) mx_2457 rfl rfl 1 rfl ?_
    rcases ifE h with ⟨c, h⟩ | ⟨c, h⟩
    · refine RR.c_ge (fun _ => ?_) (fun q => absurd c q)
      refine RR.runs (pc' := 19) (lc' := [(0, .ref 500), (1, .int v1)]) (st' := [.int (1 : Int32)]) (S1 := S) (nL := 2) (cd := cd_2457) mx_2457 rfl rfl 2 rfl ?_
      refine RR.weak [] trivial ?_
      exact s_m_isPerson_19 _ _ h
    · refine RR.c_ge (fun q => absurd q c) (fun _ => ?_)
      refine RR.weak [] trivial ?_
      exact s_m_isPerson_18 _ h
theorem s_m_isPerson {d : Nat} {S' : St} {r : Int32} (v1 : Int32) (S : St) (h : m_isPerson v1 S = some (r, S')) : RC KM (d + 0) 2457 [.ref 500, .int v1] S (some (.int r)) S' := RC.of rfl (s0_m_isPerson v1 S h)
-- hangs (I)Z
def m_hangs_19 (p0 : Int32) (S : St) : Re Int32 :=
  if isBo p0 = true then some (p0, S) else none
set_option maxRecDepth 100000 in
theorem s_m_hangs_19 {d : Nat} {S' : St} {r : Int32} (p0 : Int32) (S : St) (h : m_hangs_19 p0 S = some (r, S')) : RR KM (d + 0) 2458 19 [] [.int p0] S (some (.int r)) S' := by
  unfold m_hangs_19 at h
  obtain ⟨g, h⟩ := gpE h
  cases h
  exact RR.retz mx_2458 rfl rfl rfl g
def m_hangs (v1 : Int32) (S : St) : Re Int32 :=
  if (0 : Int32) < 0 ∨ 15 ≤ (0 : Int32).toNatClampNeg then none else
  if (((rI S 553 (0 : Int32).toNatClampNeg) >>> (v1 &&& 31)) &&& (1 : Int32)) = (1 : Int32) then (
    m_hangs_19 (1 : Int32) S)
  else (
    m_hangs_19 (0 : Int32) S)
set_option maxRecDepth 100000 in
theorem s0_m_hangs {d : Nat} {S' : St} {r : Int32} (v1 : Int32) (S : St) (h : m_hangs v1 S = some (r, S')) : RR KM (d + 0) 2458 0 [(0, .ref 500), (1, .int v1)] [] S (some (.int r)) S' := by
  unfold m_hangs at h
  refine RR.runs (pc' := 5) (lc' := [(0, .ref 500), (1, .int v1)]) (st' := [.int (0 : Int32), .ref 553]) (S1 := S) (nL := 2) (cd := cd_2458) mx_2458 rfl rfl 3 rfl ?_
  obtain ⟨g, h⟩ := gnE h
  refine RR.gPN (c2 := (KM.1 553).1 = 1) (pc' := 6) (lc' := [(0, .ref 500), (1, .int v1)]) (st' := [.int ((rI S 553 (0 : Int32).toNatClampNeg))]) (S1 := S) (nL := 2) (cd := cd_2458) mx_2458 rfl rfl rfl rfl g ?_
  refine RR.runs (pc' := icm .ne ((((rI S 553 (0 : Int32).toNatClampNeg) >>> (v1 &&& 31)) &&& (1 : Int32))) (1 : Int32) 18 14) (lc' := [(0, .ref 500), (1, .int v1)]) (st' := []) (S1 := S) (nL := 2) (cd := cd_2458) mx_2458 rfl rfl 6 rfl ?_
  rcases ifE h with ⟨c, h⟩ | ⟨c, h⟩
  · refine RR.c_ne (fun _ => ?_) (fun q => absurd c q)
    refine RR.runs (pc' := 19) (lc' := [(0, .ref 500), (1, .int v1)]) (st' := [.int (1 : Int32)]) (S1 := S) (nL := 2) (cd := cd_2458) mx_2458 rfl rfl 2 rfl ?_
    refine RR.weak [] trivial ?_
    exact s_m_hangs_19 _ _ h
  · refine RR.c_ne (fun q => absurd q c) (fun _ => ?_)
    refine RR.runs (pc' := 19) (lc' := [(0, .ref 500), (1, .int v1)]) (st' := [.int (0 : Int32)]) (S1 := S) (nL := 2) (cd := cd_2458) mx_2458 rfl rfl 1 rfl ?_
    refine RR.weak [] trivial ?_
    exact s_m_hangs_19 _ _ h
theorem s_m_hangs {d : Nat} {S' : St} {r : Int32} (v1 : Int32) (S : St) (h : m_hangs v1 S = some (r, S')) : RC KM (d + 0) 2458 [.ref 500, .int v1] S (some (.int r)) S' := RC.of rfl (s0_m_hangs v1 S h)
-- valueOn (II)I
def m_valueOn_38 (p0 : Int32) (S : St) : Re Int32 :=
  some (p0, S)
set_option maxRecDepth 100000 in
theorem s_m_valueOn_38 {d : Nat} {S' : St} {r : Int32} (p0 : Int32) (S : St) (h : m_valueOn_38 p0 S = some (r, S')) : RR KM (d + 3) 2459 38 [] [.int p0] S (some (.int r)) S' := by
  unfold m_valueOn_38 at h
  cases h
  exact RR.reti mx_2459 rfl rfl rfl
def m_valueOn (v1 : Int32) (v2 : Int32) (S : St) : Re Int32 :=
  if v1 < 0 ∨ 20 ≤ v1.toNatClampNeg then none else
  lt' ((v2 - (rI S 509 v1.toNatClampNeg)) : Int32) fun x1 =>
  if (1 : Int32) < 0 ∨ 4 ≤ (1 : Int32).toNatClampNeg then none else
  if (1 : Int32) < 0 ∨ 4 ≤ (1 : Int32).toNatClampNeg then none else
  if (rI S 522 (1 : Int32).toNatClampNeg) = (rI S 521 (1 : Int32).toNatClampNeg) then (
    if x1 < 0 then (
      m_valueOn_38 (0 : Int32) S)
    else (
      if v1 < 0 ∨ 20 ≤ v1.toNatClampNeg then none else
      m_valueOn_38 (rI S 510 v1.toNatClampNeg) S))
  else (
    if v1 < 0 ∨ 20 ≤ v1.toNatClampNeg then none else
    if (5 : Int32) < 0 ∨ 20 ≤ (5 : Int32).toNatClampNeg then none else
    lt' (wI S 535 (5 : Int32).toNatClampNeg (rI S 510 v1.toNatClampNeg)) fun S2 =>
    if (6 : Int32) < 0 ∨ 20 ≤ (6 : Int32).toNatClampNeg then none else
    lt' (wI S2 535 (6 : Int32).toNatClampNeg x1) fun S3 =>
    bn (m_worked (1 : Int32) S3) fun r4 S5 =>
    bn (m_between r4 (0 : Int32) (999 : Int32) S5) fun r6 S7 =>
    some (r6, S7))
set_option maxRecDepth 100000 in
theorem s0_m_valueOn {d : Nat} {S' : St} {r : Int32} (v1 : Int32) (v2 : Int32) (S : St) (h : m_valueOn v1 v2 S = some (r, S')) : RR KM (d + 3) 2459 0 [(0, .ref 500), (1, .int v1), (2, .int v2)] [] S (some (.int r)) S' := by
  unfold m_valueOn at h
  refine RR.runs (pc' := 6) (lc' := [(0, .ref 500), (1, .int v1), (2, .int v2)]) (st' := [.int v1, .ref 509, .int v2]) (S1 := S) (nL := 4) (cd := cd_2459) mx_2459 rfl rfl 4 rfl ?_
  obtain ⟨g, h⟩ := gnE h
  refine RR.gPN (c2 := (KM.1 509).1 = 1) (pc' := 7) (lc' := [(0, .ref 500), (1, .int v1), (2, .int v2)]) (st' := [.int (rI S 509 v1.toNatClampNeg), .int v2]) (S1 := S) (nL := 4) (cd := cd_2459) mx_2459 rfl rfl rfl rfl g ?_
  refine RR.runs (pc' := 9) (lc' := [(3, .int ((v2 - (rI S 509 v1.toNatClampNeg)))), (0, .ref 500), (1, .int v1), (2, .int v2)]) (st' := []) (S1 := S) (nL := 4) (cd := cd_2459) mx_2459 rfl rfl 2 rfl ?_
  obtain ⟨x1, ex1, h⟩ := ltE h
  rw [← ex1]
  refine RR.runs (pc' := 14) (lc' := [(3, .int x1), (0, .ref 500), (1, .int v1), (2, .int v2)]) (st' := [.int (1 : Int32), .ref 522]) (S1 := S) (nL := 4) (cd := cd_2459) mx_2459 rfl rfl 3 rfl ?_
  obtain ⟨g, h⟩ := gnE h
  refine RR.gPN (c2 := (KM.1 522).1 = 1) (pc' := 15) (lc' := [(3, .int x1), (0, .ref 500), (1, .int v1), (2, .int v2)]) (st' := [.int ((rI S 522 (1 : Int32).toNatClampNeg))]) (S1 := S) (nL := 4) (cd := cd_2459) mx_2459 rfl rfl rfl rfl g ?_
  refine RR.runs (pc' := 20) (lc' := [(3, .int x1), (0, .ref 500), (1, .int v1), (2, .int v2)]) (st' := [.int (1 : Int32), .ref 521, .int ((rI S 522 (1 : Int32).toNatClampNeg))]) (S1 := S) (nL := 4) (cd := cd_2459) mx_2459 rfl rfl 3 rfl ?_
  obtain ⟨g, h⟩ := gnE h
  refine RR.gPN (c2 := (KM.1 521).1 = 1) (pc' := 21) (lc' := [(3, .int x1), (0, .ref 500), (1, .int v1), (2, .int v2)]) (st' := [.int ((rI S 521 (1 : Int32).toNatClampNeg)), .int ((rI S 522 (1 : Int32).toNatClampNeg))]) (S1 := S) (nL := 4) (cd := cd_2459) mx_2459 rfl rfl rfl rfl g ?_
  refine RR.runs (pc' := icm .ne ((rI S 522 (1 : Int32).toNatClampNeg)) ((rI S 521 (1 : Int32).toNatClampNeg)) 39 24) (lc' := [(3, .int x1), (0, .ref 500), (1, .int v1), (2, .int v2)]) (st' := []) (S1 := S) (nL := 4) (cd := cd_2459) mx_2459 rfl rfl 1 rfl ?_
  rcases ifE h with ⟨c, h⟩ | ⟨c, h⟩
  · refine RR.c_ne (fun _ => ?_) (fun q => absurd c q)
    refine RR.runs (pc' := icm .ge x1 0 32 28) (lc' := [(3, .int x1), (0, .ref 500), (1, .int v1), (2, .int v2)]) (st' := []) (S1 := S) (nL := 4) (cd := cd_2459) mx_2459 rfl rfl 2 rfl ?_
    rcases ifE h with ⟨c, h⟩ | ⟨c, h⟩
    · refine RR.c_ge (fun _ => ?_) (fun q => absurd c q)
      refine RR.runs (pc' := 38) (lc' := [(3, .int x1), (0, .ref 500), (1, .int v1), (2, .int v2)]) (st' := [.int (0 : Int32)]) (S1 := S) (nL := 4) (cd := cd_2459) mx_2459 rfl rfl 2 rfl ?_
      refine RR.weak [] trivial ?_
      exact s_m_valueOn_38 _ _ h
    · refine RR.c_ge (fun q => absurd q c) (fun _ => ?_)
      refine RR.runs (pc' := 37) (lc' := [(3, .int x1), (0, .ref 500), (1, .int v1), (2, .int v2)]) (st' := [.int v1, .ref 510]) (S1 := S) (nL := 4) (cd := cd_2459) mx_2459 rfl rfl 3 rfl ?_
      obtain ⟨g, h⟩ := gnE h
      refine RR.gPN (c2 := (KM.1 510).1 = 1) (pc' := 38) (lc' := [(3, .int x1), (0, .ref 500), (1, .int v1), (2, .int v2)]) (st' := [.int (rI S 510 v1.toNatClampNeg)]) (S1 := S) (nL := 4) (cd := cd_2459) mx_2459 rfl rfl rfl rfl g ?_
      refine RR.weak [] trivial ?_
      exact s_m_valueOn_38 _ _ h
  · refine RR.c_ne (fun q => absurd q c) (fun _ => ?_)
    refine RR.runs (pc' := 49) (lc' := [(3, .int x1), (0, .ref 500), (1, .int v1), (2, .int v2)]) (st' := [.int v1, .ref 510, .int (5 : Int32), .ref 535]) (S1 := S) (nL := 4) (cd := cd_2459) mx_2459 rfl rfl 6 rfl ?_
    obtain ⟨g, h⟩ := gnE h
    refine RR.gPN (c2 := (KM.1 510).1 = 1) (pc' := 50) (lc' := [(3, .int x1), (0, .ref 500), (1, .int v1), (2, .int v2)]) (st' := [.int (rI S 510 v1.toNatClampNeg), .int (5 : Int32), .ref 535]) (S1 := S) (nL := 4) (cd := cd_2459) mx_2459 rfl rfl rfl rfl g ?_
    obtain ⟨g, h⟩ := gnE h
    refine RR.gPN (c2 := (KM.1 535).1 = 1) (pc' := 51) (lc' := [(3, .int x1), (0, .ref 500), (1, .int v1), (2, .int v2)]) (st' := []) (S1 := (wI S 535 (5 : Int32).toNatClampNeg (rI S 510 v1.toNatClampNeg))) (nL := 4) (cd := cd_2459) mx_2459 rfl rfl rfl rfl g ?_
    obtain ⟨S2, eS2, h⟩ := ltE h
    rw [← eS2]
    refine RR.runs (pc' := 58) (lc' := [(3, .int x1), (0, .ref 500), (1, .int v1), (2, .int v2)]) (st' := [.int x1, .int (6 : Int32), .ref 535]) (S1 := S2) (nL := 4) (cd := cd_2459) mx_2459 rfl rfl 4 rfl ?_
    obtain ⟨g, h⟩ := gnE h
    refine RR.gPN (c2 := (KM.1 535).1 = 1) (pc' := 59) (lc' := [(3, .int x1), (0, .ref 500), (1, .int v1), (2, .int v2)]) (st' := []) (S1 := (wI S2 535 (6 : Int32).toNatClampNeg x1)) (nL := 4) (cd := cd_2459) mx_2459 rfl rfl rfl rfl g ?_
    obtain ⟨S3, eS3, h⟩ := ltE h
    rw [← eS3]
    refine RR.runs (pc' := 61) (lc' := [(3, .int x1), (0, .ref 500), (1, .int v1), (2, .int v2)]) (st' := [.int (1 : Int32), .ref 500]) (S1 := S3) (nL := 4) (cd := cd_2459) mx_2459 rfl rfl 2 rfl ?_
    obtain ⟨r4, S5, h1, h⟩ := bnE h
    refine RR.callV (b := 500) (as := [.int (1 : Int32)]) (rest := []) (r1 := (some (.int r4))) (S1 := S5) mx_2459 rfl rfl mx_2418 rfl rfl (by decide) (Or.inl rfl) (Nat.le_of_ble_eq_true rfl) (Nat.le_of_ble_eq_true rfl) (RC.deep (by omega) (s_m_worked (d := d) _ _ h1)) ?_
    show RR KM _ 2459 64 [(3, .int x1), (0, .ref 500), (1, .int v1), (2, .int v2)] [.int r4] S5 _ _
    refine RR.runs (pc' := 68) (lc' := [(3, .int x1), (0, .ref 500), (1, .int v1), (2, .int v2)]) (st' := [.int (999 : Int32), .int (0 : Int32), .int r4]) (S1 := S5) (nL := 4) (cd := cd_2459) mx_2459 rfl rfl 2 rfl ?_
    obtain ⟨r6, S7, h1, h⟩ := bnE h
    refine RR.callS (as := [.int r4, .int (0 : Int32), .int (999 : Int32)]) (rest := []) (r1 := (some (.int r6))) (S1 := S7) mx_2459 rfl rfl mx_2403 rfl rfl (by decide) (Nat.le_of_ble_eq_true rfl) (Nat.le_of_ble_eq_true rfl) (Nat.le_of_ble_eq_true rfl) (RC.deep (by omega) (s_m_between (d := d) _ _ _ _ h1)) ?_
    show RR KM _ 2459 71 [(3, .int x1), (0, .ref 500), (1, .int v1), (2, .int v2)] [.int r6] S7 _ _
    cases h
    exact RR.reti mx_2459 rfl rfl rfl
theorem s_m_valueOn {d : Nat} {S' : St} {r : Int32} (v1 : Int32) (v2 : Int32) (S : St) (h : m_valueOn v1 v2 S = some (r, S')) : RC KM (d + 3) 2459 [.ref 500, .int v1, .int v2] S (some (.int r)) S' := RC.of rfl (s0_m_valueOn v1 v2 S h)
-- apple (II)I
def m_apple_23 (S : St) : Re Int32 :=
  some ((-1 : Int32), S)
set_option maxRecDepth 100000 in
theorem s_m_apple_23 {d : Nat} {S' : St} {r : Int32} (S : St) (h : m_apple_23 S = some (r, S')) : RR KM (d + 4) 2460 23 [] [] S (some (.int r)) S' := by
  unfold m_apple_23 at h
  refine RR.runs (pc' := 24) (lc' := []) (st' := [.int (-1 : Int32)]) (S1 := S) (nL := 3) (cd := cd_2460) mx_2460 rfl rfl 1 rfl ?_
  cases h
  exact RR.reti mx_2460 rfl rfl rfl
def m_apple_63 (p0 : Int32) (S : St) : Re Int32 :=
  some (p0, S)
set_option maxRecDepth 100000 in
theorem s_m_apple_63 {d : Nat} {S' : St} {r : Int32} (p0 : Int32) (S : St) (h : m_apple_63 p0 S = some (r, S')) : RR KM (d + 4) 2460 63 [] [.int p0] S (some (.int r)) S' := by
  unfold m_apple_63 at h
  cases h
  exact RR.reti mx_2460 rfl rfl rfl
def m_apple_89 (p0 : Int32) (S : St) : Re Int32 :=
  some (p0, S)
set_option maxRecDepth 100000 in
theorem s_m_apple_89 {d : Nat} {S' : St} {r : Int32} (p0 : Int32) (S : St) (h : m_apple_89 p0 S = some (r, S')) : RR KM (d + 4) 2460 89 [] [.int p0] S (some (.int r)) S' := by
  unfold m_apple_89 at h
  cases h
  exact RR.reti mx_2460 rfl rfl rfl
def m_apple_132 (p0 : Int32) (S : St) : Re Int32 :=
  some (p0, S)
set_option maxRecDepth 100000 in
theorem s_m_apple_132 {d : Nat} {S' : St} {r : Int32} (p0 : Int32) (S : St) (h : m_apple_132 p0 S = some (r, S')) : RR KM (d + 4) 2460 132 [] [.int p0] S (some (.int r)) S' := by
  unfold m_apple_132 at h
  cases h
  exact RR.reti mx_2460 rfl rfl rfl
def m_apple_127 (v1 : Int32) (p0 : Int32) (S : St) : Re Int32 :=
  if p0 < 0 ∨ 15 ≤ p0.toNatClampNeg then none else
  m_apple_132 ((((rI S 553 p0.toNatClampNeg) >>> (v1 &&& 31)) &&& (1 : Int32))) S
set_option maxRecDepth 100000 in
theorem s_m_apple_127 {d : Nat} {S' : St} {r : Int32} (v1 : Int32) (p0 : Int32) (S : St) (h : m_apple_127 v1 p0 S = some (r, S')) : RR KM (d + 4) 2460 127 [(1, .int v1)] [.int p0, .ref 553] S (some (.int r)) S' := by
  unfold m_apple_127 at h
  obtain ⟨g, h⟩ := gnE h
  refine RR.gPN (c2 := (KM.1 553).1 = 1) (pc' := 128) (lc' := [(1, .int v1)]) (st' := [.int (rI S 553 p0.toNatClampNeg)]) (S1 := S) (nL := 3) (cd := cd_2460) mx_2460 rfl rfl rfl rfl g ?_
  refine RR.runs (pc' := 132) (lc' := [(1, .int v1)]) (st' := [.int ((((rI S 553 p0.toNatClampNeg) >>> (v1 &&& 31)) &&& (1 : Int32)))]) (S1 := S) (nL := 3) (cd := cd_2460) mx_2460 rfl rfl 4 rfl ?_
  refine RR.weak [] trivial ?_
  exact s_m_apple_132 _ _ h
def m_apple_159 (p0 : Int32) (S : St) : Re Int32 :=
  some (p0, S)
set_option maxRecDepth 100000 in
theorem s_m_apple_159 {d : Nat} {S' : St} {r : Int32} (p0 : Int32) (S : St) (h : m_apple_159 p0 S = some (r, S')) : RR KM (d + 4) 2460 159 [] [.int p0] S (some (.int r)) S' := by
  unfold m_apple_159 at h
  cases h
  exact RR.reti mx_2460 rfl rfl rfl
def m_apple (v1 : Int32) (v2 : Int32) (S : St) : Re Int32 :=
  lt' (wI S 500 0 (0 : Int32)) fun S1 =>
  bn (m_isApple v1 S1) fun r2 S3 =>
  if r2 = 0 then (
    m_apple_23 S3)
  else (
    bn (m_within v2 (0 : Int32) (9 : Int32) S3) fun r4 S5 =>
    if r4 = 0 then (
      m_apple_23 S5)
    else (
      if v2 < (3 : Int32) then (
        if v2 = 0 then (
          if v1 < 0 ∨ 20 ≤ v1.toNatClampNeg then none else
          m_apple_63 (rI S5 506 v1.toNatClampNeg) S5)
        else (
          if v2 = (1 : Int32) then (
            if v1 < 0 ∨ 20 ≤ v1.toNatClampNeg then none else
            m_apple_63 (rI S5 507 v1.toNatClampNeg) S5)
          else (
            if v1 < 0 ∨ 20 ≤ v1.toNatClampNeg then none else
            m_apple_63 (rI S5 508 v1.toNatClampNeg) S5)))
      else (
        if v2 < (5 : Int32) then (
          if v2 = (3 : Int32) then (
            if v1 < 0 ∨ 20 ≤ v1.toNatClampNeg then none else
            m_apple_89 (rI S5 509 v1.toNatClampNeg) S5)
          else (
            if v1 < 0 ∨ 20 ≤ v1.toNatClampNeg then none else
            m_apple_89 (rI S5 510 v1.toNatClampNeg) S5))
        else (
          if v2 < (8 : Int32) then (
            if v2 = (6 : Int32) then (
              if ((5 : Int32) + v1) < 0 ∨ 15 ≤ (((5 : Int32) + v1)).toNatClampNeg then none else
              m_apple_132 ((rI S5 553 (((5 : Int32) + v1)).toNatClampNeg)) S5)
            else (
              if v2 = (5 : Int32) then (
                m_apple_127 v1 (0 : Int32) S5)
              else (
                m_apple_127 v1 (1 : Int32) S5)))
          else (
            if v2 = (8 : Int32) then (
              if v1 < 0 ∨ 20 ≤ v1.toNatClampNeg then none else
              m_apple_159 (rI S5 511 v1.toNatClampNeg) S5)
            else (
              if (2 : Int32) < 0 ∨ 15 ≤ (2 : Int32).toNatClampNeg then none else
              bn (m_valueOn v1 ((rI S5 553 (2 : Int32).toNatClampNeg)) S5) fun r6 S7 =>
              m_apple_159 r6 S7))))))
set_option maxRecDepth 100000 in
theorem s0_m_apple {d : Nat} {S' : St} {r : Int32} (v1 : Int32) (v2 : Int32) (S : St) (h : m_apple v1 v2 S = some (r, S')) : RR KM (d + 4) 2460 0 [(0, .ref 500), (1, .int v1), (2, .int v2)] [] S (some (.int r)) S' := by
  unfold m_apple at h
  refine RR.runs (pc' := 5) (lc' := [(0, .ref 500), (1, .int v1), (2, .int v2)]) (st' := []) (S1 := (wI S 500 0 (0 : Int32))) (nL := 3) (cd := cd_2460) mx_2460 rfl rfl 3 rfl ?_
  obtain ⟨S1, eS1, h⟩ := ltE h
  rw [← eS1]
  refine RR.runs (pc' := 7) (lc' := [(0, .ref 500), (1, .int v1), (2, .int v2)]) (st' := [.int v1, .ref 500]) (S1 := S1) (nL := 3) (cd := cd_2460) mx_2460 rfl rfl 2 rfl ?_
  obtain ⟨r2, S3, h1, h⟩ := bnE h
  refine RR.callV (b := 500) (as := [.int v1]) (rest := []) (r1 := (some (.int r2))) (S1 := S3) mx_2460 rfl rfl mx_2455 rfl rfl (by decide) (Or.inl rfl) (Nat.le_of_ble_eq_true rfl) (Nat.le_of_ble_eq_true rfl) (RC.deep (by omega) (s_m_isApple (d := d) _ _ h1)) ?_
  show RR KM _ 2460 10 [(0, .ref 500), (1, .int v1), (2, .int v2)] [.int r2] S3 _ _
  refine RR.runs (pc' := icm .eq r2 0 23 13) (lc' := [(0, .ref 500), (1, .int v1), (2, .int v2)]) (st' := []) (S1 := S3) (nL := 3) (cd := cd_2460) mx_2460 rfl rfl 1 rfl ?_
  rcases ifE h with ⟨c, h⟩ | ⟨c, h⟩
  · refine RR.c_eq (fun _ => ?_) (fun q => absurd c q)
    refine RR.weak [] trivial ?_
    exact s_m_apple_23 _ h
  · refine RR.c_eq (fun q => absurd q c) (fun _ => ?_)
    refine RR.runs (pc' := 17) (lc' := [(0, .ref 500), (1, .int v1), (2, .int v2)]) (st' := [.int (9 : Int32), .int (0 : Int32), .int v2]) (S1 := S3) (nL := 3) (cd := cd_2460) mx_2460 rfl rfl 3 rfl ?_
    obtain ⟨r4, S5, h1, h⟩ := bnE h
    refine RR.callS (as := [.int v2, .int (0 : Int32), .int (9 : Int32)]) (rest := []) (r1 := (some (.int r4))) (S1 := S5) mx_2460 rfl rfl mx_2402 rfl rfl (by decide) (Nat.le_of_ble_eq_true rfl) (Nat.le_of_ble_eq_true rfl) (Nat.le_of_ble_eq_true rfl) (RC.deep (by omega) (s_m_within (d := d) _ _ _ _ h1)) ?_
    show RR KM _ 2460 20 [(0, .ref 500), (1, .int v1), (2, .int v2)] [.int r4] S5 _ _
    refine RR.runs (pc' := icm .ne r4 0 25 23) (lc' := [(0, .ref 500), (1, .int v1), (2, .int v2)]) (st' := []) (S1 := S5) (nL := 3) (cd := cd_2460) mx_2460 rfl rfl 1 rfl ?_
    rcases ifE h with ⟨c, h⟩ | ⟨c, h⟩
    · refine RR.c_ne (fun _ => ?_) (fun q => absurd c q)
      refine RR.weak [] trivial ?_
      exact s_m_apple_23 _ h
    · refine RR.c_ne (fun q => absurd q c) (fun _ => ?_)
      refine RR.runs (pc' := icm .ge v2 (3 : Int32) 64 30) (lc' := [(0, .ref 500), (1, .int v1), (2, .int v2)]) (st' := []) (S1 := S5) (nL := 3) (cd := cd_2460) mx_2460 rfl rfl 3 rfl ?_
      rcases ifE h with ⟨c, h⟩ | ⟨c, h⟩
      · refine RR.c_ge (fun _ => ?_) (fun q => absurd c q)
        refine RR.runs (pc' := icm .ne v2 0 43 34) (lc' := [(0, .ref 500), (1, .int v1), (2, .int v2)]) (st' := []) (S1 := S5) (nL := 3) (cd := cd_2460) mx_2460 rfl rfl 2 rfl ?_
        rcases ifE h with ⟨c, h⟩ | ⟨c, h⟩
        · refine RR.c_ne (fun _ => ?_) (fun q => absurd c q)
          refine RR.runs (pc' := 39) (lc' := [(0, .ref 500), (1, .int v1), (2, .int v2)]) (st' := [.int v1, .ref 506]) (S1 := S5) (nL := 3) (cd := cd_2460) mx_2460 rfl rfl 3 rfl ?_
          obtain ⟨g, h⟩ := gnE h
          refine RR.gPN (c2 := (KM.1 506).1 = 1) (pc' := 40) (lc' := [(0, .ref 500), (1, .int v1), (2, .int v2)]) (st' := [.int (rI S5 506 v1.toNatClampNeg)]) (S1 := S5) (nL := 3) (cd := cd_2460) mx_2460 rfl rfl rfl rfl g ?_
          refine RR.runs (pc' := 63) (lc' := [(0, .ref 500), (1, .int v1), (2, .int v2)]) (st' := [.int (rI S5 506 v1.toNatClampNeg)]) (S1 := S5) (nL := 3) (cd := cd_2460) mx_2460 rfl rfl 1 rfl ?_
          refine RR.weak [] trivial ?_
          exact s_m_apple_63 _ _ h
        · refine RR.c_ne (fun q => absurd q c) (fun _ => ?_)
          refine RR.runs (pc' := icm .ne v2 (1 : Int32) 57 48) (lc' := [(0, .ref 500), (1, .int v1), (2, .int v2)]) (st' := []) (S1 := S5) (nL := 3) (cd := cd_2460) mx_2460 rfl rfl 3 rfl ?_
          rcases ifE h with ⟨c, h⟩ | ⟨c, h⟩
          · refine RR.c_ne (fun _ => ?_) (fun q => absurd c q)
            refine RR.runs (pc' := 53) (lc' := [(0, .ref 500), (1, .int v1), (2, .int v2)]) (st' := [.int v1, .ref 507]) (S1 := S5) (nL := 3) (cd := cd_2460) mx_2460 rfl rfl 3 rfl ?_
            obtain ⟨g, h⟩ := gnE h
            refine RR.gPN (c2 := (KM.1 507).1 = 1) (pc' := 54) (lc' := [(0, .ref 500), (1, .int v1), (2, .int v2)]) (st' := [.int (rI S5 507 v1.toNatClampNeg)]) (S1 := S5) (nL := 3) (cd := cd_2460) mx_2460 rfl rfl rfl rfl g ?_
            refine RR.runs (pc' := 63) (lc' := [(0, .ref 500), (1, .int v1), (2, .int v2)]) (st' := [.int (rI S5 507 v1.toNatClampNeg)]) (S1 := S5) (nL := 3) (cd := cd_2460) mx_2460 rfl rfl 1 rfl ?_
            refine RR.weak [] trivial ?_
            exact s_m_apple_63 _ _ h
          · refine RR.c_ne (fun q => absurd q c) (fun _ => ?_)
            refine RR.runs (pc' := 62) (lc' := [(0, .ref 500), (1, .int v1), (2, .int v2)]) (st' := [.int v1, .ref 508]) (S1 := S5) (nL := 3) (cd := cd_2460) mx_2460 rfl rfl 3 rfl ?_
            obtain ⟨g, h⟩ := gnE h
            refine RR.gPN (c2 := (KM.1 508).1 = 1) (pc' := 63) (lc' := [(0, .ref 500), (1, .int v1), (2, .int v2)]) (st' := [.int (rI S5 508 v1.toNatClampNeg)]) (S1 := S5) (nL := 3) (cd := cd_2460) mx_2460 rfl rfl rfl rfl g ?_
            refine RR.weak [] trivial ?_
            exact s_m_apple_63 _ _ h
      · refine RR.c_ge (fun q => absurd q c) (fun _ => ?_)
        refine RR.runs (pc' := icm .ge v2 (5 : Int32) 90 69) (lc' := [(0, .ref 500), (1, .int v1), (2, .int v2)]) (st' := []) (S1 := S5) (nL := 3) (cd := cd_2460) mx_2460 rfl rfl 3 rfl ?_
        rcases ifE h with ⟨c, h⟩ | ⟨c, h⟩
        · refine RR.c_ge (fun _ => ?_) (fun q => absurd c q)
          refine RR.runs (pc' := icm .ne v2 (3 : Int32) 83 74) (lc' := [(0, .ref 500), (1, .int v1), (2, .int v2)]) (st' := []) (S1 := S5) (nL := 3) (cd := cd_2460) mx_2460 rfl rfl 3 rfl ?_
          rcases ifE h with ⟨c, h⟩ | ⟨c, h⟩
          · refine RR.c_ne (fun _ => ?_) (fun q => absurd c q)
            refine RR.runs (pc' := 79) (lc' := [(0, .ref 500), (1, .int v1), (2, .int v2)]) (st' := [.int v1, .ref 509]) (S1 := S5) (nL := 3) (cd := cd_2460) mx_2460 rfl rfl 3 rfl ?_
            obtain ⟨g, h⟩ := gnE h
            refine RR.gPN (c2 := (KM.1 509).1 = 1) (pc' := 80) (lc' := [(0, .ref 500), (1, .int v1), (2, .int v2)]) (st' := [.int (rI S5 509 v1.toNatClampNeg)]) (S1 := S5) (nL := 3) (cd := cd_2460) mx_2460 rfl rfl rfl rfl g ?_
            refine RR.runs (pc' := 89) (lc' := [(0, .ref 500), (1, .int v1), (2, .int v2)]) (st' := [.int (rI S5 509 v1.toNatClampNeg)]) (S1 := S5) (nL := 3) (cd := cd_2460) mx_2460 rfl rfl 1 rfl ?_
            refine RR.weak [] trivial ?_
            exact s_m_apple_89 _ _ h
          · refine RR.c_ne (fun q => absurd q c) (fun _ => ?_)
            refine RR.runs (pc' := 88) (lc' := [(0, .ref 500), (1, .int v1), (2, .int v2)]) (st' := [.int v1, .ref 510]) (S1 := S5) (nL := 3) (cd := cd_2460) mx_2460 rfl rfl 3 rfl ?_
            obtain ⟨g, h⟩ := gnE h
            refine RR.gPN (c2 := (KM.1 510).1 = 1) (pc' := 89) (lc' := [(0, .ref 500), (1, .int v1), (2, .int v2)]) (st' := [.int (rI S5 510 v1.toNatClampNeg)]) (S1 := S5) (nL := 3) (cd := cd_2460) mx_2460 rfl rfl rfl rfl g ?_
            refine RR.weak [] trivial ?_
            exact s_m_apple_89 _ _ h
        · refine RR.c_ge (fun q => absurd q c) (fun _ => ?_)
          refine RR.runs (pc' := icm .ge v2 (8 : Int32) 133 96) (lc' := [(0, .ref 500), (1, .int v1), (2, .int v2)]) (st' := []) (S1 := S5) (nL := 3) (cd := cd_2460) mx_2460 rfl rfl 3 rfl ?_
          rcases ifE h with ⟨c, h⟩ | ⟨c, h⟩
          · refine RR.c_ge (fun _ => ?_) (fun q => absurd c q)
            refine RR.runs (pc' := icm .ne v2 (6 : Int32) 113 102) (lc' := [(0, .ref 500), (1, .int v1), (2, .int v2)]) (st' := []) (S1 := S5) (nL := 3) (cd := cd_2460) mx_2460 rfl rfl 3 rfl ?_
            rcases ifE h with ⟨c, h⟩ | ⟨c, h⟩
            · refine RR.c_ne (fun _ => ?_) (fun q => absurd c q)
              refine RR.runs (pc' := 109) (lc' := [(0, .ref 500), (1, .int v1), (2, .int v2)]) (st' := [.int (((5 : Int32) + v1)), .ref 553]) (S1 := S5) (nL := 3) (cd := cd_2460) mx_2460 rfl rfl 5 rfl ?_
              obtain ⟨g, h⟩ := gnE h
              refine RR.gPN (c2 := (KM.1 553).1 = 1) (pc' := 110) (lc' := [(0, .ref 500), (1, .int v1), (2, .int v2)]) (st' := [.int ((rI S5 553 (((5 : Int32) + v1)).toNatClampNeg))]) (S1 := S5) (nL := 3) (cd := cd_2460) mx_2460 rfl rfl rfl rfl g ?_
              refine RR.runs (pc' := 132) (lc' := [(0, .ref 500), (1, .int v1), (2, .int v2)]) (st' := [.int ((rI S5 553 (((5 : Int32) + v1)).toNatClampNeg))]) (S1 := S5) (nL := 3) (cd := cd_2460) mx_2460 rfl rfl 1 rfl ?_
              refine RR.weak [] trivial ?_
              exact s_m_apple_132 _ _ h
            · refine RR.c_ne (fun q => absurd q c) (fun _ => ?_)
              refine RR.runs (pc' := icm .ne v2 (5 : Int32) 126 122) (lc' := [(0, .ref 500), (1, .int v1), (2, .int v2)]) (st' := [.ref 553]) (S1 := S5) (nL := 3) (cd := cd_2460) mx_2460 rfl rfl 5 rfl ?_
              rcases ifE h with ⟨c, h⟩ | ⟨c, h⟩
              · refine RR.c_ne (fun _ => ?_) (fun q => absurd c q)
                refine RR.runs (pc' := 127) (lc' := [(0, .ref 500), (1, .int v1), (2, .int v2)]) (st' := [.int (0 : Int32), .ref 553]) (S1 := S5) (nL := 3) (cd := cd_2460) mx_2460 rfl rfl 2 rfl ?_
                refine RR.weak [(1, .int v1)] ⟨rfl, trivial⟩ ?_
                exact s_m_apple_127 _ _ _ h
              · refine RR.c_ne (fun q => absurd q c) (fun _ => ?_)
                refine RR.runs (pc' := 127) (lc' := [(0, .ref 500), (1, .int v1), (2, .int v2)]) (st' := [.int (1 : Int32), .ref 553]) (S1 := S5) (nL := 3) (cd := cd_2460) mx_2460 rfl rfl 1 rfl ?_
                refine RR.weak [(1, .int v1)] ⟨rfl, trivial⟩ ?_
                exact s_m_apple_127 _ _ _ h
          · refine RR.c_ge (fun q => absurd q c) (fun _ => ?_)
            refine RR.runs (pc' := icm .ne v2 (8 : Int32) 148 139) (lc' := [(0, .ref 500), (1, .int v1), (2, .int v2)]) (st' := []) (S1 := S5) (nL := 3) (cd := cd_2460) mx_2460 rfl rfl 3 rfl ?_
            rcases ifE h with ⟨c, h⟩ | ⟨c, h⟩
            · refine RR.c_ne (fun _ => ?_) (fun q => absurd c q)
              refine RR.runs (pc' := 144) (lc' := [(0, .ref 500), (1, .int v1), (2, .int v2)]) (st' := [.int v1, .ref 511]) (S1 := S5) (nL := 3) (cd := cd_2460) mx_2460 rfl rfl 3 rfl ?_
              obtain ⟨g, h⟩ := gnE h
              refine RR.gPN (c2 := (KM.1 511).1 = 1) (pc' := 145) (lc' := [(0, .ref 500), (1, .int v1), (2, .int v2)]) (st' := [.int (rI S5 511 v1.toNatClampNeg)]) (S1 := S5) (nL := 3) (cd := cd_2460) mx_2460 rfl rfl rfl rfl g ?_
              refine RR.runs (pc' := 159) (lc' := [(0, .ref 500), (1, .int v1), (2, .int v2)]) (st' := [.int (rI S5 511 v1.toNatClampNeg)]) (S1 := S5) (nL := 3) (cd := cd_2460) mx_2460 rfl rfl 1 rfl ?_
              refine RR.weak [] trivial ?_
              exact s_m_apple_159 _ _ h
            · refine RR.c_ne (fun q => absurd q c) (fun _ => ?_)
              refine RR.runs (pc' := 155) (lc' := [(0, .ref 500), (1, .int v1), (2, .int v2)]) (st' := [.int (2 : Int32), .ref 553, .int v1, .ref 500]) (S1 := S5) (nL := 3) (cd := cd_2460) mx_2460 rfl rfl 5 rfl ?_
              obtain ⟨g, h⟩ := gnE h
              refine RR.gPN (c2 := (KM.1 553).1 = 1) (pc' := 156) (lc' := [(0, .ref 500), (1, .int v1), (2, .int v2)]) (st' := [.int ((rI S5 553 (2 : Int32).toNatClampNeg)), .int v1, .ref 500]) (S1 := S5) (nL := 3) (cd := cd_2460) mx_2460 rfl rfl rfl rfl g ?_
              obtain ⟨r6, S7, h1, h⟩ := bnE h
              refine RR.callV (b := 500) (as := [.int v1, .int ((rI S5 553 (2 : Int32).toNatClampNeg))]) (rest := []) (r1 := (some (.int r6))) (S1 := S7) mx_2460 rfl rfl mx_2459 rfl rfl (by decide) (Or.inl rfl) (Nat.le_of_ble_eq_true rfl) (Nat.le_of_ble_eq_true rfl) (RC.deep (by omega) (s_m_valueOn (d := d) _ _ _ h1)) ?_
              show RR KM _ 2460 159 [(0, .ref 500), (1, .int v1), (2, .int v2)] [.int r6] S7 _ _
              refine RR.weak [] trivial ?_
              exact s_m_apple_159 _ _ h
theorem s_m_apple {d : Nat} {S' : St} {r : Int32} (v1 : Int32) (v2 : Int32) (S : St) (h : m_apple v1 v2 S = some (r, S')) : RC KM (d + 4) 2460 [.ref 500, .int v1, .int v2] S (some (.int r)) S' := RC.of rfl (s0_m_apple v1 v2 S h)
-- near (III)I
def m_near_30 (S : St) : Re Int32 :=
  some ((-1 : Int32), S)
set_option maxRecDepth 100000 in
theorem s_m_near_30 {d : Nat} {S' : St} {r : Int32} (S : St) (h : m_near_30 S = some (r, S')) : RR KM (d + 1) 2461 30 [] [] S (some (.int r)) S' := by
  unfold m_near_30 at h
  refine RR.runs (pc' := 31) (lc' := []) (st' := [.int (-1 : Int32)]) (S1 := S) (nL := 5) (cd := cd_2461) mx_2461 rfl rfl 1 rfl ?_
  cases h
  exact RR.reti mx_2461 rfl rfl rfl
def m_near_99 (p0 : Int32) (S : St) : Re Int32 :=
  some (p0, S)
set_option maxRecDepth 100000 in
theorem s_m_near_99 {d : Nat} {S' : St} {r : Int32} (p0 : Int32) (S : St) (h : m_near_99 p0 S = some (r, S')) : RR KM (d + 1) 2461 99 [] [.int p0] S (some (.int r)) S' := by
  unfold m_near_99 at h
  cases h
  exact RR.reti mx_2461 rfl rfl rfl
def m_near (v1 : Int32) (v2 : Int32) (v3 : Int32) (S : St) : Re Int32 :=
  lt' (wI S 500 0 (0 : Int32)) fun S1 =>
  bn (m_isSound v1 S1) fun r2 S3 =>
  if r2 = 0 then (
    m_near_30 S3)
  else (
    bn (m_isSound v2 S3) fun r4 S5 =>
    if r4 = 0 then (
      m_near_30 S5)
    else (
      bn (m_within v3 (0 : Int32) (3 : Int32) S5) fun r6 S7 =>
      if r6 = 0 then (
        m_near_30 S7)
      else (
        lt' ((((16 : Int32) * v1) + v2) : Int32) fun x8 =>
        if v3 = 0 then (
          if x8 < 0 ∨ 256 ≤ x8.toNatClampNeg then none else
          m_near_99 (rI S7 536 x8.toNatClampNeg) S7)
        else (
          if v3 = (1 : Int32) then (
            if x8 < 0 ∨ 256 ≤ x8.toNatClampNeg then none else
            m_near_99 (rI S7 537 x8.toNatClampNeg) S7)
          else (
            if v3 = (2 : Int32) then (
              if x8 < 0 ∨ 256 ≤ x8.toNatClampNeg then none else
              m_near_99 (rI S7 538 x8.toNatClampNeg) S7)
            else (
              if x8 < 0 ∨ 256 ≤ x8.toNatClampNeg then none else
              if (rI S7 539 x8.toNatClampNeg) = 0 then (
                m_near_99 (0 : Int32) S7)
              else (
                m_near_99 (1 : Int32) S7)))))))
set_option maxRecDepth 100000 in
theorem s0_m_near {d : Nat} {S' : St} {r : Int32} (v1 : Int32) (v2 : Int32) (v3 : Int32) (S : St) (h : m_near v1 v2 v3 S = some (r, S')) : RR KM (d + 1) 2461 0 [(0, .ref 500), (1, .int v1), (2, .int v2), (3, .int v3)] [] S (some (.int r)) S' := by
  unfold m_near at h
  refine RR.runs (pc' := 5) (lc' := [(0, .ref 500), (1, .int v1), (2, .int v2), (3, .int v3)]) (st' := []) (S1 := (wI S 500 0 (0 : Int32))) (nL := 5) (cd := cd_2461) mx_2461 rfl rfl 3 rfl ?_
  obtain ⟨S1, eS1, h⟩ := ltE h
  rw [← eS1]
  refine RR.runs (pc' := 7) (lc' := [(0, .ref 500), (1, .int v1), (2, .int v2), (3, .int v3)]) (st' := [.int v1, .ref 500]) (S1 := S1) (nL := 5) (cd := cd_2461) mx_2461 rfl rfl 2 rfl ?_
  obtain ⟨r2, S3, h1, h⟩ := bnE h
  refine RR.callV (b := 500) (as := [.int v1]) (rest := []) (r1 := (some (.int r2))) (S1 := S3) mx_2461 rfl rfl mx_2456 rfl rfl (by decide) (Or.inl rfl) (Nat.le_of_ble_eq_true rfl) (Nat.le_of_ble_eq_true rfl) (RC.deep (by omega) (s_m_isSound (d := d) _ _ h1)) ?_
  show RR KM _ 2461 10 [(0, .ref 500), (1, .int v1), (2, .int v2), (3, .int v3)] [.int r2] S3 _ _
  refine RR.runs (pc' := icm .eq r2 0 30 13) (lc' := [(0, .ref 500), (1, .int v1), (2, .int v2), (3, .int v3)]) (st' := []) (S1 := S3) (nL := 5) (cd := cd_2461) mx_2461 rfl rfl 1 rfl ?_
  rcases ifE h with ⟨c, h⟩ | ⟨c, h⟩
  · refine RR.c_eq (fun _ => ?_) (fun q => absurd c q)
    refine RR.weak [] trivial ?_
    exact s_m_near_30 _ h
  · refine RR.c_eq (fun q => absurd q c) (fun _ => ?_)
    refine RR.runs (pc' := 15) (lc' := [(0, .ref 500), (1, .int v1), (2, .int v2), (3, .int v3)]) (st' := [.int v2, .ref 500]) (S1 := S3) (nL := 5) (cd := cd_2461) mx_2461 rfl rfl 2 rfl ?_
    obtain ⟨r4, S5, h1, h⟩ := bnE h
    refine RR.callV (b := 500) (as := [.int v2]) (rest := []) (r1 := (some (.int r4))) (S1 := S5) mx_2461 rfl rfl mx_2456 rfl rfl (by decide) (Or.inl rfl) (Nat.le_of_ble_eq_true rfl) (Nat.le_of_ble_eq_true rfl) (RC.deep (by omega) (s_m_isSound (d := d) _ _ h1)) ?_
    show RR KM _ 2461 18 [(0, .ref 500), (1, .int v1), (2, .int v2), (3, .int v3)] [.int r4] S5 _ _
    refine RR.runs (pc' := icm .eq r4 0 30 21) (lc' := [(0, .ref 500), (1, .int v1), (2, .int v2), (3, .int v3)]) (st' := []) (S1 := S5) (nL := 5) (cd := cd_2461) mx_2461 rfl rfl 1 rfl ?_
    rcases ifE h with ⟨c, h⟩ | ⟨c, h⟩
    · refine RR.c_eq (fun _ => ?_) (fun q => absurd c q)
      refine RR.weak [] trivial ?_
      exact s_m_near_30 _ h
    · refine RR.c_eq (fun q => absurd q c) (fun _ => ?_)
      refine RR.runs (pc' := 24) (lc' := [(0, .ref 500), (1, .int v1), (2, .int v2), (3, .int v3)]) (st' := [.int (3 : Int32), .int (0 : Int32), .int v3]) (S1 := S5) (nL := 5) (cd := cd_2461) mx_2461 rfl rfl 3 rfl ?_
      obtain ⟨r6, S7, h1, h⟩ := bnE h
      refine RR.callS (as := [.int v3, .int (0 : Int32), .int (3 : Int32)]) (rest := []) (r1 := (some (.int r6))) (S1 := S7) mx_2461 rfl rfl mx_2402 rfl rfl (by decide) (Nat.le_of_ble_eq_true rfl) (Nat.le_of_ble_eq_true rfl) (Nat.le_of_ble_eq_true rfl) (RC.deep (by omega) (s_m_within (d := d) _ _ _ _ h1)) ?_
      show RR KM _ 2461 27 [(0, .ref 500), (1, .int v1), (2, .int v2), (3, .int v3)] [.int r6] S7 _ _
      refine RR.runs (pc' := icm .ne r6 0 32 30) (lc' := [(0, .ref 500), (1, .int v1), (2, .int v2), (3, .int v3)]) (st' := []) (S1 := S7) (nL := 5) (cd := cd_2461) mx_2461 rfl rfl 1 rfl ?_
      rcases ifE h with ⟨c, h⟩ | ⟨c, h⟩
      · refine RR.c_ne (fun _ => ?_) (fun q => absurd c q)
        refine RR.weak [] trivial ?_
        exact s_m_near_30 _ h
      · refine RR.c_ne (fun q => absurd q c) (fun _ => ?_)
        refine RR.runs (pc' := 40) (lc' := [(4, .int ((((16 : Int32) * v1) + v2))), (0, .ref 500), (1, .int v1), (2, .int v2), (3, .int v3)]) (st' := []) (S1 := S7) (nL := 5) (cd := cd_2461) mx_2461 rfl rfl 6 rfl ?_
        obtain ⟨x8, ex8, h⟩ := ltE h
        rw [← ex8]
        refine RR.runs (pc' := icm .ne v3 0 54 44) (lc' := [(4, .int x8), (0, .ref 500), (1, .int v1), (2, .int v2), (3, .int v3)]) (st' := []) (S1 := S7) (nL := 5) (cd := cd_2461) mx_2461 rfl rfl 2 rfl ?_
        rcases ifE h with ⟨c, h⟩ | ⟨c, h⟩
        · refine RR.c_ne (fun _ => ?_) (fun q => absurd c q)
          refine RR.runs (pc' := 50) (lc' := [(4, .int x8), (0, .ref 500), (1, .int v1), (2, .int v2), (3, .int v3)]) (st' := [.int x8, .ref 536]) (S1 := S7) (nL := 5) (cd := cd_2461) mx_2461 rfl rfl 3 rfl ?_
          obtain ⟨g, h⟩ := gnE h
          refine RR.gPN (c2 := (KM.1 536).1 = 1) (pc' := 51) (lc' := [(4, .int x8), (0, .ref 500), (1, .int v1), (2, .int v2), (3, .int v3)]) (st' := [.int (rI S7 536 x8.toNatClampNeg)]) (S1 := S7) (nL := 5) (cd := cd_2461) mx_2461 rfl rfl rfl rfl g ?_
          refine RR.runs (pc' := 99) (lc' := [(4, .int x8), (0, .ref 500), (1, .int v1), (2, .int v2), (3, .int v3)]) (st' := [.int (rI S7 536 x8.toNatClampNeg)]) (S1 := S7) (nL := 5) (cd := cd_2461) mx_2461 rfl rfl 1 rfl ?_
          refine RR.weak [] trivial ?_
          exact s_m_near_99 _ _ h
        · refine RR.c_ne (fun q => absurd q c) (fun _ => ?_)
          refine RR.runs (pc' := icm .ne v3 (1 : Int32) 69 59) (lc' := [(4, .int x8), (0, .ref 500), (1, .int v1), (2, .int v2), (3, .int v3)]) (st' := []) (S1 := S7) (nL := 5) (cd := cd_2461) mx_2461 rfl rfl 3 rfl ?_
          rcases ifE h with ⟨c, h⟩ | ⟨c, h⟩
          · refine RR.c_ne (fun _ => ?_) (fun q => absurd c q)
            refine RR.runs (pc' := 65) (lc' := [(4, .int x8), (0, .ref 500), (1, .int v1), (2, .int v2), (3, .int v3)]) (st' := [.int x8, .ref 537]) (S1 := S7) (nL := 5) (cd := cd_2461) mx_2461 rfl rfl 3 rfl ?_
            obtain ⟨g, h⟩ := gnE h
            refine RR.gPN (c2 := (KM.1 537).1 = 1) (pc' := 66) (lc' := [(4, .int x8), (0, .ref 500), (1, .int v1), (2, .int v2), (3, .int v3)]) (st' := [.int (rI S7 537 x8.toNatClampNeg)]) (S1 := S7) (nL := 5) (cd := cd_2461) mx_2461 rfl rfl rfl rfl g ?_
            refine RR.runs (pc' := 99) (lc' := [(4, .int x8), (0, .ref 500), (1, .int v1), (2, .int v2), (3, .int v3)]) (st' := [.int (rI S7 537 x8.toNatClampNeg)]) (S1 := S7) (nL := 5) (cd := cd_2461) mx_2461 rfl rfl 1 rfl ?_
            refine RR.weak [] trivial ?_
            exact s_m_near_99 _ _ h
          · refine RR.c_ne (fun q => absurd q c) (fun _ => ?_)
            refine RR.runs (pc' := icm .ne v3 (2 : Int32) 84 74) (lc' := [(4, .int x8), (0, .ref 500), (1, .int v1), (2, .int v2), (3, .int v3)]) (st' := []) (S1 := S7) (nL := 5) (cd := cd_2461) mx_2461 rfl rfl 3 rfl ?_
            rcases ifE h with ⟨c, h⟩ | ⟨c, h⟩
            · refine RR.c_ne (fun _ => ?_) (fun q => absurd c q)
              refine RR.runs (pc' := 80) (lc' := [(4, .int x8), (0, .ref 500), (1, .int v1), (2, .int v2), (3, .int v3)]) (st' := [.int x8, .ref 538]) (S1 := S7) (nL := 5) (cd := cd_2461) mx_2461 rfl rfl 3 rfl ?_
              obtain ⟨g, h⟩ := gnE h
              refine RR.gPN (c2 := (KM.1 538).1 = 1) (pc' := 81) (lc' := [(4, .int x8), (0, .ref 500), (1, .int v1), (2, .int v2), (3, .int v3)]) (st' := [.int (rI S7 538 x8.toNatClampNeg)]) (S1 := S7) (nL := 5) (cd := cd_2461) mx_2461 rfl rfl rfl rfl g ?_
              refine RR.runs (pc' := 99) (lc' := [(4, .int x8), (0, .ref 500), (1, .int v1), (2, .int v2), (3, .int v3)]) (st' := [.int (rI S7 538 x8.toNatClampNeg)]) (S1 := S7) (nL := 5) (cd := cd_2461) mx_2461 rfl rfl 1 rfl ?_
              refine RR.weak [] trivial ?_
              exact s_m_near_99 _ _ h
            · refine RR.c_ne (fun q => absurd q c) (fun _ => ?_)
              refine RR.runs (pc' := 90) (lc' := [(4, .int x8), (0, .ref 500), (1, .int v1), (2, .int v2), (3, .int v3)]) (st' := [.int x8, .ref 539]) (S1 := S7) (nL := 5) (cd := cd_2461) mx_2461 rfl rfl 3 rfl ?_
              obtain ⟨g, h⟩ := gnE h
              refine RR.gPN (c2 := (KM.1 539).1 = 3) (pc' := 91) (lc' := [(4, .int x8), (0, .ref 500), (1, .int v1), (2, .int v2), (3, .int v3)]) (st' := [.int (rI S7 539 x8.toNatClampNeg)]) (S1 := S7) (nL := 5) (cd := cd_2461) mx_2461 rfl rfl rfl rfl g ?_
              refine RR.runs (pc' := icm .eq (rI S7 539 x8.toNatClampNeg) 0 98 94) (lc' := [(4, .int x8), (0, .ref 500), (1, .int v1), (2, .int v2), (3, .int v3)]) (st' := []) (S1 := S7) (nL := 5) (cd := cd_2461) mx_2461 rfl rfl 1 rfl ?_
              rcases ifE h with ⟨c, h⟩ | ⟨c, h⟩
              · refine RR.c_eq (fun _ => ?_) (fun q => absurd c q)
                refine RR.runs (pc' := 99) (lc' := [(4, .int x8), (0, .ref 500), (1, .int v1), (2, .int v2), (3, .int v3)]) (st' := [.int (0 : Int32)]) (S1 := S7) (nL := 5) (cd := cd_2461) mx_2461 rfl rfl 1 rfl ?_
                refine RR.weak [] trivial ?_
                exact s_m_near_99 _ _ h
              · refine RR.c_eq (fun q => absurd q c) (fun _ => ?_)
                refine RR.runs (pc' := 99) (lc' := [(4, .int x8), (0, .ref 500), (1, .int v1), (2, .int v2), (3, .int v3)]) (st' := [.int (1 : Int32)]) (S1 := S7) (nL := 5) (cd := cd_2461) mx_2461 rfl rfl 2 rfl ?_
                refine RR.weak [] trivial ?_
                exact s_m_near_99 _ _ h
theorem s_m_near {d : Nat} {S' : St} {r : Int32} (v1 : Int32) (v2 : Int32) (v3 : Int32) (S : St) (h : m_near v1 v2 v3 S = some (r, S')) : RC KM (d + 1) 2461 [.ref 500, .int v1, .int v2, .int v3] S (some (.int r)) S' := RC.of rfl (s0_m_near v1 v2 v3 S h)
-- says (II)I
def m_says_39 (p0 : Int32) (S : St) : Re Int32 :=
  some (p0, S)
set_option maxRecDepth 100000 in
theorem s_m_says_39 {d : Nat} {S' : St} {r : Int32} (p0 : Int32) (S : St) (h : m_says_39 p0 S = some (r, S')) : RR KM (d + 1) 2462 39 [] [.int p0] S (some (.int r)) S' := by
  unfold m_says_39 at h
  cases h
  exact RR.reti mx_2462 rfl rfl rfl
def m_says_38 (S : St) : Re Int32 :=
  m_says_39 (-1 : Int32) S
set_option maxRecDepth 100000 in
theorem s_m_says_38 {d : Nat} {S' : St} {r : Int32} (S : St) (h : m_says_38 S = some (r, S')) : RR KM (d + 1) 2462 38 [] [] S (some (.int r)) S' := by
  unfold m_says_38 at h
  refine RR.runs (pc' := 39) (lc' := []) (st' := [.int (-1 : Int32)]) (S1 := S) (nL := 3) (cd := cd_2462) mx_2462 rfl rfl 1 rfl ?_
  refine RR.weak [] trivial ?_
  exact s_m_says_39 _ _ h
def m_says (v1 : Int32) (v2 : Int32) (S : St) : Re Int32 :=
  lt' (wI S 500 0 (0 : Int32)) fun S1 =>
  bn (m_isPerson v1 S1) fun r2 S3 =>
  if r2 = 0 then (
    m_says_38 S3)
  else (
    bn (m_isSound v2 S3) fun r4 S5 =>
    if r4 = 0 then (
      m_says_38 S5)
    else (
      bn (m_isSaid v1 v2 S5) fun r6 S7 =>
      if r6 = 0 then (
        m_says_39 (0 : Int32) S7)
      else (
        m_says_39 (1 : Int32) S7)))
set_option maxRecDepth 100000 in
theorem s0_m_says {d : Nat} {S' : St} {r : Int32} (v1 : Int32) (v2 : Int32) (S : St) (h : m_says v1 v2 S = some (r, S')) : RR KM (d + 1) 2462 0 [(0, .ref 500), (1, .int v1), (2, .int v2)] [] S (some (.int r)) S' := by
  unfold m_says at h
  refine RR.runs (pc' := 5) (lc' := [(0, .ref 500), (1, .int v1), (2, .int v2)]) (st' := []) (S1 := (wI S 500 0 (0 : Int32))) (nL := 3) (cd := cd_2462) mx_2462 rfl rfl 3 rfl ?_
  obtain ⟨S1, eS1, h⟩ := ltE h
  rw [← eS1]
  refine RR.runs (pc' := 7) (lc' := [(0, .ref 500), (1, .int v1), (2, .int v2)]) (st' := [.int v1, .ref 500]) (S1 := S1) (nL := 3) (cd := cd_2462) mx_2462 rfl rfl 2 rfl ?_
  obtain ⟨r2, S3, h1, h⟩ := bnE h
  refine RR.callV (b := 500) (as := [.int v1]) (rest := []) (r1 := (some (.int r2))) (S1 := S3) mx_2462 rfl rfl mx_2457 rfl rfl (by decide) (Or.inl rfl) (Nat.le_of_ble_eq_true rfl) (Nat.le_of_ble_eq_true rfl) (RC.deep (by omega) (s_m_isPerson (d := d) _ _ h1)) ?_
  show RR KM _ 2462 10 [(0, .ref 500), (1, .int v1), (2, .int v2)] [.int r2] S3 _ _
  refine RR.runs (pc' := icm .eq r2 0 38 13) (lc' := [(0, .ref 500), (1, .int v1), (2, .int v2)]) (st' := []) (S1 := S3) (nL := 3) (cd := cd_2462) mx_2462 rfl rfl 1 rfl ?_
  rcases ifE h with ⟨c, h⟩ | ⟨c, h⟩
  · refine RR.c_eq (fun _ => ?_) (fun q => absurd c q)
    refine RR.weak [] trivial ?_
    exact s_m_says_38 _ h
  · refine RR.c_eq (fun q => absurd q c) (fun _ => ?_)
    refine RR.runs (pc' := 15) (lc' := [(0, .ref 500), (1, .int v1), (2, .int v2)]) (st' := [.int v2, .ref 500]) (S1 := S3) (nL := 3) (cd := cd_2462) mx_2462 rfl rfl 2 rfl ?_
    obtain ⟨r4, S5, h1, h⟩ := bnE h
    refine RR.callV (b := 500) (as := [.int v2]) (rest := []) (r1 := (some (.int r4))) (S1 := S5) mx_2462 rfl rfl mx_2456 rfl rfl (by decide) (Or.inl rfl) (Nat.le_of_ble_eq_true rfl) (Nat.le_of_ble_eq_true rfl) (RC.deep (by omega) (s_m_isSound (d := d) _ _ h1)) ?_
    show RR KM _ 2462 18 [(0, .ref 500), (1, .int v1), (2, .int v2)] [.int r4] S5 _ _
    refine RR.runs (pc' := icm .eq r4 0 38 21) (lc' := [(0, .ref 500), (1, .int v1), (2, .int v2)]) (st' := []) (S1 := S5) (nL := 3) (cd := cd_2462) mx_2462 rfl rfl 1 rfl ?_
    rcases ifE h with ⟨c, h⟩ | ⟨c, h⟩
    · refine RR.c_eq (fun _ => ?_) (fun q => absurd c q)
      refine RR.weak [] trivial ?_
      exact s_m_says_38 _ h
    · refine RR.c_eq (fun q => absurd q c) (fun _ => ?_)
      refine RR.runs (pc' := 24) (lc' := [(0, .ref 500), (1, .int v1), (2, .int v2)]) (st' := [.int v2, .int v1, .ref 500]) (S1 := S5) (nL := 3) (cd := cd_2462) mx_2462 rfl rfl 3 rfl ?_
      obtain ⟨r6, S7, h1, h⟩ := bnE h
      refine RR.callV (b := 500) (as := [.int v1, .int v2]) (rest := []) (r1 := (some (.int r6))) (S1 := S7) mx_2462 rfl rfl mx_2447 rfl rfl (by decide) (Or.inl rfl) (Nat.le_of_ble_eq_true rfl) (Nat.le_of_ble_eq_true rfl) (RC.deep (by omega) (s_m_isSaid (d := d) _ _ _ h1)) ?_
      show RR KM _ 2462 27 [(0, .ref 500), (1, .int v1), (2, .int v2)] [.int r6] S7 _ _
      refine RR.runs (pc' := icm .eq r6 0 34 30) (lc' := [(0, .ref 500), (1, .int v1), (2, .int v2)]) (st' := []) (S1 := S7) (nL := 3) (cd := cd_2462) mx_2462 rfl rfl 1 rfl ?_
      rcases ifE h with ⟨c, h⟩ | ⟨c, h⟩
      · refine RR.c_eq (fun _ => ?_) (fun q => absurd c q)
        refine RR.runs (pc' := 39) (lc' := [(0, .ref 500), (1, .int v1), (2, .int v2)]) (st' := [.int (0 : Int32)]) (S1 := S7) (nL := 3) (cd := cd_2462) mx_2462 rfl rfl 2 rfl ?_
        refine RR.weak [] trivial ?_
        exact s_m_says_39 _ _ h
      · refine RR.c_eq (fun q => absurd q c) (fun _ => ?_)
        refine RR.runs (pc' := 39) (lc' := [(0, .ref 500), (1, .int v1), (2, .int v2)]) (st' := [.int (1 : Int32)]) (S1 := S7) (nL := 3) (cd := cd_2462) mx_2462 rfl rfl 2 rfl ?_
        refine RR.weak [] trivial ?_
        exact s_m_says_39 _ _ h
theorem s_m_says {d : Nat} {S' : St} {r : Int32} (v1 : Int32) (v2 : Int32) (S : St) (h : m_says v1 v2 S = some (r, S')) : RC KM (d + 1) 2462 [.ref 500, .int v1, .int v2] S (some (.int r)) S' := RC.of rfl (s0_m_says v1 v2 S h)
-- soundsLike (II)Z
def m_soundsLike_48 (p0 : Int32) (S : St) : Re Int32 :=
  if isBo p0 = true then some (p0, S) else none
set_option maxRecDepth 100000 in
theorem s_m_soundsLike_48 {d : Nat} {S' : St} {r : Int32} (p0 : Int32) (S : St) (h : m_soundsLike_48 p0 S = some (r, S')) : RR KM (d + 0) 2463 48 [] [.int p0] S (some (.int r)) S' := by
  unfold m_soundsLike_48 at h
  obtain ⟨g, h⟩ := gpE h
  cases h
  exact RR.retz mx_2463 rfl rfl rfl g
def m_soundsLike (v1 : Int32) (v2 : Int32) (S : St) : Re Int32 :=
  if v2 < 0 ∨ 20 ≤ v2.toNatClampNeg then none else
  if (rI S 506 v2.toNatClampNeg) = (1 : Int32) then (
    if ((5 : Int32) + v2) < 0 ∨ 15 ≤ (((5 : Int32) + v2)).toNatClampNeg then none else
    if v1 = (rI S 553 (((5 : Int32) + v2)).toNatClampNeg) then (
      m_soundsLike_48 (1 : Int32) S)
    else (
      m_soundsLike_48 (0 : Int32) S))
  else (
    if ((5 : Int32) + v2) < 0 ∨ 15 ≤ (((5 : Int32) + v2)).toNatClampNeg then none else
    if (((16 : Int32) * v1) + (rI S 553 (((5 : Int32) + v2)).toNatClampNeg)) < 0 ∨ 256 ≤ ((((16 : Int32) * v1) + (rI S 553 (((5 : Int32) + v2)).toNatClampNeg))).toNatClampNeg then none else
    m_soundsLike_48 ((rI S 539 ((((16 : Int32) * v1) + (rI S 553 (((5 : Int32) + v2)).toNatClampNeg))).toNatClampNeg)) S)
set_option maxRecDepth 100000 in
theorem s0_m_soundsLike {d : Nat} {S' : St} {r : Int32} (v1 : Int32) (v2 : Int32) (S : St) (h : m_soundsLike v1 v2 S = some (r, S')) : RR KM (d + 0) 2463 0 [(0, .ref 500), (1, .int v1), (2, .int v2)] [] S (some (.int r)) S' := by
  unfold m_soundsLike at h
  refine RR.runs (pc' := 5) (lc' := [(0, .ref 500), (1, .int v1), (2, .int v2)]) (st' := [.int v2, .ref 506]) (S1 := S) (nL := 3) (cd := cd_2463) mx_2463 rfl rfl 3 rfl ?_
  obtain ⟨g, h⟩ := gnE h
  refine RR.gPN (c2 := (KM.1 506).1 = 1) (pc' := 6) (lc' := [(0, .ref 500), (1, .int v1), (2, .int v2)]) (st' := [.int (rI S 506 v2.toNatClampNeg)]) (S1 := S) (nL := 3) (cd := cd_2463) mx_2463 rfl rfl rfl rfl g ?_
  refine RR.runs (pc' := icm .ne (rI S 506 v2.toNatClampNeg) (1 : Int32) 30 10) (lc' := [(0, .ref 500), (1, .int v1), (2, .int v2)]) (st' := []) (S1 := S) (nL := 3) (cd := cd_2463) mx_2463 rfl rfl 2 rfl ?_
  rcases ifE h with ⟨c, h⟩ | ⟨c, h⟩
  · refine RR.c_ne (fun _ => ?_) (fun q => absurd c q)
    refine RR.runs (pc' := 18) (lc' := [(0, .ref 500), (1, .int v1), (2, .int v2)]) (st' := [.int (((5 : Int32) + v2)), .ref 553, .int v1]) (S1 := S) (nL := 3) (cd := cd_2463) mx_2463 rfl rfl 6 rfl ?_
    obtain ⟨g, h⟩ := gnE h
    refine RR.gPN (c2 := (KM.1 553).1 = 1) (pc' := 19) (lc' := [(0, .ref 500), (1, .int v1), (2, .int v2)]) (st' := [.int ((rI S 553 (((5 : Int32) + v2)).toNatClampNeg)), .int v1]) (S1 := S) (nL := 3) (cd := cd_2463) mx_2463 rfl rfl rfl rfl g ?_
    refine RR.runs (pc' := icm .ne v1 ((rI S 553 (((5 : Int32) + v2)).toNatClampNeg)) 26 22) (lc' := [(0, .ref 500), (1, .int v1), (2, .int v2)]) (st' := []) (S1 := S) (nL := 3) (cd := cd_2463) mx_2463 rfl rfl 1 rfl ?_
    rcases ifE h with ⟨c, h⟩ | ⟨c, h⟩
    · refine RR.c_ne (fun _ => ?_) (fun q => absurd c q)
      refine RR.runs (pc' := 48) (lc' := [(0, .ref 500), (1, .int v1), (2, .int v2)]) (st' := [.int (1 : Int32)]) (S1 := S) (nL := 3) (cd := cd_2463) mx_2463 rfl rfl 2 rfl ?_
      refine RR.weak [] trivial ?_
      exact s_m_soundsLike_48 _ _ h
    · refine RR.c_ne (fun q => absurd q c) (fun _ => ?_)
      refine RR.runs (pc' := 48) (lc' := [(0, .ref 500), (1, .int v1), (2, .int v2)]) (st' := [.int (0 : Int32)]) (S1 := S) (nL := 3) (cd := cd_2463) mx_2463 rfl rfl 2 rfl ?_
      refine RR.weak [] trivial ?_
      exact s_m_soundsLike_48 _ _ h
  · refine RR.c_ne (fun q => absurd q c) (fun _ => ?_)
    refine RR.runs (pc' := 45) (lc' := [(0, .ref 500), (1, .int v1), (2, .int v2)]) (st' := [.int (((5 : Int32) + v2)), .ref 553, .int (((16 : Int32) * v1)), .ref 539]) (S1 := S) (nL := 3) (cd := cd_2463) mx_2463 rfl rfl 10 rfl ?_
    obtain ⟨g, h⟩ := gnE h
    refine RR.gPN (c2 := (KM.1 553).1 = 1) (pc' := 46) (lc' := [(0, .ref 500), (1, .int v1), (2, .int v2)]) (st' := [.int ((rI S 553 (((5 : Int32) + v2)).toNatClampNeg)), .int (((16 : Int32) * v1)), .ref 539]) (S1 := S) (nL := 3) (cd := cd_2463) mx_2463 rfl rfl rfl rfl g ?_
    refine RR.runs (pc' := 47) (lc' := [(0, .ref 500), (1, .int v1), (2, .int v2)]) (st' := [.int ((((16 : Int32) * v1) + (rI S 553 (((5 : Int32) + v2)).toNatClampNeg))), .ref 539]) (S1 := S) (nL := 3) (cd := cd_2463) mx_2463 rfl rfl 1 rfl ?_
    obtain ⟨g, h⟩ := gnE h
    refine RR.gPN (c2 := (KM.1 539).1 = 3) (pc' := 48) (lc' := [(0, .ref 500), (1, .int v1), (2, .int v2)]) (st' := [.int ((rI S 539 ((((16 : Int32) * v1) + (rI S 553 (((5 : Int32) + v2)).toNatClampNeg))).toNatClampNeg))]) (S1 := S) (nL := 3) (cd := cd_2463) mx_2463 rfl rfl rfl rfl g ?_
    refine RR.weak [] trivial ?_
    exact s_m_soundsLike_48 _ _ h
theorem s_m_soundsLike {d : Nat} {S' : St} {r : Int32} (v1 : Int32) (v2 : Int32) (S : St) (h : m_soundsLike v1 v2 S = some (r, S')) : RC KM (d + 0) 2463 [.ref 500, .int v1, .int v2] S (some (.int r)) S' := RC.of rfl (s0_m_soundsLike v1 v2 S h)
-- hears (III)V
def m_hears_104 (k13 : Int32 → Int32 → Int32 → Int32 → St → Re Unit) (v1 : Int32) (v2 : Int32) (v3 : Int32) (v4 : Int32) (S : St) : Re Unit :=
  lt' ((v4 + (1 : Int32)) : Int32) fun x1 =>
  k13 v1 v2 v3 x1 S
set_option maxRecDepth 100000 in
theorem s_m_hears_104 {d : Nat} (k13 : Int32 → Int32 → Int32 → Int32 → St → Re Unit) {S' : St} {r : Unit} (b13 : ∀ (v1 : Int32) (v2 : Int32) (v3 : Int32) (v4 : Int32) (S : St), k13 v1 v2 v3 v4 S = some (r, S') → RR KM (d + 1) 2464 13 [(0, .ref 500), (1, .int v1), (2, .int v2), (3, .int v3), (4, .int v4)] [] S none S') (v1 : Int32) (v2 : Int32) (v3 : Int32) (v4 : Int32) (S : St) (h : m_hears_104 k13 v1 v2 v3 v4 S = some (r, S')) : RR KM (d + 1) 2464 104 [(0, .ref 500), (1, .int v1), (2, .int v2), (3, .int v3), (4, .int v4)] [] S none S' := by
  unfold m_hears_104 at h
  refine RR.runs (pc' := 107) (lc' := [(4, .int ((v4 + (1 : Int32)))), (0, .ref 500), (1, .int v1), (2, .int v2), (3, .int v3)]) (st' := []) (S1 := S) (nL := 6) (cd := cd_2464) mx_2464 rfl rfl 1 rfl ?_
  obtain ⟨x1, ex1, h⟩ := ltE h
  rw [← ex1]
  refine RR.runs (pc' := 13) (lc' := [(4, .int x1), (0, .ref 500), (1, .int v1), (2, .int v2), (3, .int v3)]) (st' := []) (S1 := S) (nL := 6) (cd := cd_2464) mx_2464 rfl rfl 1 rfl ?_
  refine RR.weak [(0, .ref 500), (1, .int v1), (2, .int v2), (3, .int v3), (4, .int x1)] ⟨rfl, rfl, rfl, rfl, rfl, trivial⟩ ?_
  exact b13 _ _ _ _ _ h
def m_hears_110 (S : St) : Re Unit :=
  some ((), S)
set_option maxRecDepth 100000 in
theorem s_m_hears_110 {d : Nat} {S' : St} {r : Unit} (S : St) (h : m_hears_110 S = some (r, S')) : RR KM (d + 1) 2464 110 [] [] S none S' := by
  unfold m_hears_110 at h
  cases h
  exact RR.retv mx_2464 rfl rfl rfl
def m_hears_13 : Nat → Int32 → Int32 → Int32 → Int32 → St → Re Unit
  | 0, _, _, _, _, _ => none
  | n + 1, v1, v2, v3, v4, S =>
  if (0 : Int32) < 0 ∨ 12 ≤ (0 : Int32).toNatClampNeg then none else
  if v4 < (rI S 502 (0 : Int32).toNatClampNeg) then (
    if v4 < 0 ∨ 20 ≤ v4.toNatClampNeg then none else
    if (rI S 506 v4.toNatClampNeg) = (3 : Int32) then (
      m_hears_104 (m_hears_13 n) v1 v2 v3 v4 S)
    else (
      bn (m_soundsLike v1 v4 S) fun r1 S2 =>
      if r1 = 0 then (
        m_hears_104 (m_hears_13 n) v1 v2 v3 v4 S2)
      else (
        if v4 < 0 ∨ 20 ≤ v4.toNatClampNeg then none else
        bn (m_away (rI S2 508 v4.toNatClampNeg) v2 S2) fun r3 S4 =>
        if v3 < r3 then (
          if ((2 : Int32) * v3) < r3 then (
            m_hears_104 (m_hears_13 n) v1 v2 v3 v4 S4)
          else (
            lt' (wI S4 500 71 (((rI S4 500 71) ||| ((1 : Int32) <<< (v4 &&& 31))))) fun S5 =>
            m_hears_104 (m_hears_13 n) v1 v2 v3 v4 S5))
        else (
          lt' (wI S4 500 70 (((rI S4 500 70) ||| ((1 : Int32) <<< (v4 &&& 31))))) fun S6 =>
          m_hears_104 (m_hears_13 n) v1 v2 v3 v4 S6))))
  else (
    m_hears_110 S)
set_option maxRecDepth 100000 in
theorem s_m_hears_13 {d : Nat} {S' : St} {r : Unit} : ∀ (n : Nat) (v1 : Int32) (v2 : Int32) (v3 : Int32) (v4 : Int32) (S : St), m_hears_13 n v1 v2 v3 v4 S = some (r, S') → RR KM (d + 1) 2464 13 [(0, .ref 500), (1, .int v1), (2, .int v2), (3, .int v3), (4, .int v4)] [] S none S' := by
  intro n
  induction n with
  | zero => intro v1 v2 v3 v4 S h; simp only [m_hears_13] at h; cases h
  | succ n ih =>
    intro v1 v2 v3 v4 S h
    simp only [m_hears_13] at h
    refine RR.runs (pc' := 20) (lc' := [(0, .ref 500), (1, .int v1), (2, .int v2), (3, .int v3), (4, .int v4)]) (st' := [.int (0 : Int32), .ref 502, .int v4]) (S1 := S) (nL := 6) (cd := cd_2464) mx_2464 rfl rfl 4 rfl ?_
    obtain ⟨g, h⟩ := gnE h
    refine RR.gPN (c2 := (KM.1 502).1 = 1) (pc' := 21) (lc' := [(0, .ref 500), (1, .int v1), (2, .int v2), (3, .int v3), (4, .int v4)]) (st' := [.int ((rI S 502 (0 : Int32).toNatClampNeg)), .int v4]) (S1 := S) (nL := 6) (cd := cd_2464) mx_2464 rfl rfl rfl rfl g ?_
    refine RR.runs (pc' := icm .ge v4 ((rI S 502 (0 : Int32).toNatClampNeg)) 110 24) (lc' := [(0, .ref 500), (1, .int v1), (2, .int v2), (3, .int v3), (4, .int v4)]) (st' := []) (S1 := S) (nL := 6) (cd := cd_2464) mx_2464 rfl rfl 1 rfl ?_
    rcases ifE h with ⟨c, h⟩ | ⟨c, h⟩
    · refine RR.c_ge (fun _ => ?_) (fun q => absurd c q)
      refine RR.runs (pc' := 30) (lc' := [(0, .ref 500), (1, .int v1), (2, .int v2), (3, .int v3), (4, .int v4)]) (st' := [.int v4, .ref 506]) (S1 := S) (nL := 6) (cd := cd_2464) mx_2464 rfl rfl 3 rfl ?_
      obtain ⟨g, h⟩ := gnE h
      refine RR.gPN (c2 := (KM.1 506).1 = 1) (pc' := 31) (lc' := [(0, .ref 500), (1, .int v1), (2, .int v2), (3, .int v3), (4, .int v4)]) (st' := [.int (rI S 506 v4.toNatClampNeg)]) (S1 := S) (nL := 6) (cd := cd_2464) mx_2464 rfl rfl rfl rfl g ?_
      refine RR.runs (pc' := icm .eq (rI S 506 v4.toNatClampNeg) (3 : Int32) 104 35) (lc' := [(0, .ref 500), (1, .int v1), (2, .int v2), (3, .int v3), (4, .int v4)]) (st' := []) (S1 := S) (nL := 6) (cd := cd_2464) mx_2464 rfl rfl 2 rfl ?_
      rcases ifE h with ⟨c, h⟩ | ⟨c, h⟩
      · refine RR.c_eq (fun _ => ?_) (fun q => absurd c q)
        refine RR.weak [(0, .ref 500), (1, .int v1), (2, .int v2), (3, .int v3), (4, .int v4)] ⟨rfl, rfl, rfl, rfl, rfl, trivial⟩ ?_
        exact s_m_hears_104 _ (fun _ _ _ _ S h => ih _ _ _ _ S h) _ _ _ _ _ h
      · refine RR.c_eq (fun q => absurd q c) (fun _ => ?_)
        refine RR.runs (pc' := 39) (lc' := [(0, .ref 500), (1, .int v1), (2, .int v2), (3, .int v3), (4, .int v4)]) (st' := [.int v4, .int v1, .ref 500]) (S1 := S) (nL := 6) (cd := cd_2464) mx_2464 rfl rfl 3 rfl ?_
        obtain ⟨r1, S2, h1, h⟩ := bnE h
        refine RR.callV (b := 500) (as := [.int v1, .int v4]) (rest := []) (r1 := (some (.int r1))) (S1 := S2) mx_2464 rfl rfl mx_2463 rfl rfl (by decide) (Or.inl rfl) (Nat.le_of_ble_eq_true rfl) (Nat.le_of_ble_eq_true rfl) (RC.deep (by omega) (s_m_soundsLike (d := d) _ _ _ h1)) ?_
        show RR KM _ 2464 42 [(0, .ref 500), (1, .int v1), (2, .int v2), (3, .int v3), (4, .int v4)] [.int r1] S2 _ _
        refine RR.runs (pc' := icm .ne r1 0 48 45) (lc' := [(0, .ref 500), (1, .int v1), (2, .int v2), (3, .int v3), (4, .int v4)]) (st' := []) (S1 := S2) (nL := 6) (cd := cd_2464) mx_2464 rfl rfl 1 rfl ?_
        rcases ifE h with ⟨c, h⟩ | ⟨c, h⟩
        · refine RR.c_ne (fun _ => ?_) (fun q => absurd c q)
          refine RR.runs (pc' := 104) (lc' := [(0, .ref 500), (1, .int v1), (2, .int v2), (3, .int v3), (4, .int v4)]) (st' := []) (S1 := S2) (nL := 6) (cd := cd_2464) mx_2464 rfl rfl 1 rfl ?_
          refine RR.weak [(0, .ref 500), (1, .int v1), (2, .int v2), (3, .int v3), (4, .int v4)] ⟨rfl, rfl, rfl, rfl, rfl, trivial⟩ ?_
          exact s_m_hears_104 _ (fun _ _ _ _ S h => ih _ _ _ _ S h) _ _ _ _ _ h
        · refine RR.c_ne (fun q => absurd q c) (fun _ => ?_)
          refine RR.runs (pc' := 54) (lc' := [(0, .ref 500), (1, .int v1), (2, .int v2), (3, .int v3), (4, .int v4)]) (st' := [.int v4, .ref 508]) (S1 := S2) (nL := 6) (cd := cd_2464) mx_2464 rfl rfl 3 rfl ?_
          obtain ⟨g, h⟩ := gnE h
          refine RR.gPN (c2 := (KM.1 508).1 = 1) (pc' := 55) (lc' := [(0, .ref 500), (1, .int v1), (2, .int v2), (3, .int v3), (4, .int v4)]) (st' := [.int (rI S2 508 v4.toNatClampNeg)]) (S1 := S2) (nL := 6) (cd := cd_2464) mx_2464 rfl rfl rfl rfl g ?_
          refine RR.runs (pc' := 56) (lc' := [(0, .ref 500), (1, .int v1), (2, .int v2), (3, .int v3), (4, .int v4)]) (st' := [.int v2, .int (rI S2 508 v4.toNatClampNeg)]) (S1 := S2) (nL := 6) (cd := cd_2464) mx_2464 rfl rfl 1 rfl ?_
          obtain ⟨r3, S4, h1, h⟩ := bnE h
          refine RR.callS (as := [.int (rI S2 508 v4.toNatClampNeg), .int v2]) (rest := []) (r1 := (some (.int r3))) (S1 := S4) mx_2464 rfl rfl mx_2404 rfl rfl (by decide) (Nat.le_of_ble_eq_true rfl) (Nat.le_of_ble_eq_true rfl) (Nat.le_of_ble_eq_true rfl) (RC.deep (by omega) (s_m_away (d := d) _ _ _ h1)) ?_
          show RR KM _ 2464 59 [(0, .ref 500), (1, .int v1), (2, .int v2), (3, .int v3), (4, .int v4)] [.int r3] S4 _ _
          refine RR.runs (pc' := icm .gt r3 v3 83 67) (lc' := [(5, .int r3), (0, .ref 500), (1, .int v1), (2, .int v2), (3, .int v3), (4, .int v4)]) (st' := []) (S1 := S4) (nL := 6) (cd := cd_2464) mx_2464 rfl rfl 4 rfl ?_
          rcases ifE h with ⟨c, h⟩ | ⟨c, h⟩
          · refine RR.c_gt (fun _ => ?_) (fun q => absurd c q)
            refine RR.runs (pc' := icm .gt r3 (((2 : Int32) * v3)) 104 91) (lc' := [(5, .int r3), (0, .ref 500), (1, .int v1), (2, .int v2), (3, .int v3), (4, .int v4)]) (st' := []) (S1 := S4) (nL := 6) (cd := cd_2464) mx_2464 rfl rfl 5 rfl ?_
            rcases ifE h with ⟨c, h⟩ | ⟨c, h⟩
            · refine RR.c_gt (fun _ => ?_) (fun q => absurd c q)
              refine RR.weak [(0, .ref 500), (1, .int v1), (2, .int v2), (3, .int v3), (4, .int v4)] ⟨rfl, rfl, rfl, rfl, rfl, trivial⟩ ?_
              exact s_m_hears_104 _ (fun _ _ _ _ S h => ih _ _ _ _ S h) _ _ _ _ _ h
            · refine RR.c_gt (fun q => absurd q c) (fun _ => ?_)
              refine RR.runs (pc' := 104) (lc' := [(5, .int r3), (0, .ref 500), (1, .int v1), (2, .int v2), (3, .int v3), (4, .int v4)]) (st' := []) (S1 := (wI S4 500 71 (((rI S4 500 71) ||| ((1 : Int32) <<< (v4 &&& 31)))))) (nL := 6) (cd := cd_2464) mx_2464 rfl rfl 8 rfl ?_
              obtain ⟨S5, eS5, h⟩ := ltE h
              rw [← eS5]
              refine RR.weak [(0, .ref 500), (1, .int v1), (2, .int v2), (3, .int v3), (4, .int v4)] ⟨rfl, rfl, rfl, rfl, rfl, trivial⟩ ?_
              exact s_m_hears_104 _ (fun _ _ _ _ S h => ih _ _ _ _ S h) _ _ _ _ _ h
          · refine RR.c_gt (fun q => absurd q c) (fun _ => ?_)
            refine RR.runs (pc' := 80) (lc' := [(5, .int r3), (0, .ref 500), (1, .int v1), (2, .int v2), (3, .int v3), (4, .int v4)]) (st' := []) (S1 := (wI S4 500 70 (((rI S4 500 70) ||| ((1 : Int32) <<< (v4 &&& 31)))))) (nL := 6) (cd := cd_2464) mx_2464 rfl rfl 8 rfl ?_
            obtain ⟨S6, eS6, h⟩ := ltE h
            rw [← eS6]
            refine RR.runs (pc' := 104) (lc' := [(5, .int r3), (0, .ref 500), (1, .int v1), (2, .int v2), (3, .int v3), (4, .int v4)]) (st' := []) (S1 := S6) (nL := 6) (cd := cd_2464) mx_2464 rfl rfl 1 rfl ?_
            refine RR.weak [(0, .ref 500), (1, .int v1), (2, .int v2), (3, .int v3), (4, .int v4)] ⟨rfl, rfl, rfl, rfl, rfl, trivial⟩ ?_
            exact s_m_hears_104 _ (fun _ _ _ _ S h => ih _ _ _ _ S h) _ _ _ _ _ h
    · refine RR.c_ge (fun q => absurd q c) (fun _ => ?_)
      refine RR.weak [] trivial ?_
      exact s_m_hears_110 _ h
def m_hears (v1 : Int32) (v2 : Int32) (v3 : Int32) (S : St) : Re Unit :=
  lt' (wI S 500 70 (0 : Int32)) fun S1 =>
  lt' (wI S1 500 71 (0 : Int32)) fun S2 =>
  m_hears_13 FU v1 v2 v3 (0 : Int32) S2
set_option maxRecDepth 100000 in
theorem s0_m_hears {d : Nat} {S' : St} {r : Unit} (v1 : Int32) (v2 : Int32) (v3 : Int32) (S : St) (h : m_hears v1 v2 v3 S = some (r, S')) : RR KM (d + 1) 2464 0 [(0, .ref 500), (1, .int v1), (2, .int v2), (3, .int v3)] [] S none S' := by
  unfold m_hears at h
  refine RR.runs (pc' := 5) (lc' := [(0, .ref 500), (1, .int v1), (2, .int v2), (3, .int v3)]) (st' := []) (S1 := (wI S 500 70 (0 : Int32))) (nL := 6) (cd := cd_2464) mx_2464 rfl rfl 3 rfl ?_
  obtain ⟨S1, eS1, h⟩ := ltE h
  rw [← eS1]
  refine RR.runs (pc' := 10) (lc' := [(0, .ref 500), (1, .int v1), (2, .int v2), (3, .int v3)]) (st' := []) (S1 := (wI S1 500 71 (0 : Int32))) (nL := 6) (cd := cd_2464) mx_2464 rfl rfl 3 rfl ?_
  obtain ⟨S2, eS2, h⟩ := ltE h
  rw [← eS2]
  refine RR.runs (pc' := 13) (lc' := [(4, .int (0 : Int32)), (0, .ref 500), (1, .int v1), (2, .int v2), (3, .int v3)]) (st' := []) (S1 := S2) (nL := 6) (cd := cd_2464) mx_2464 rfl rfl 2 rfl ?_
  refine RR.weak [(0, .ref 500), (1, .int v1), (2, .int v2), (3, .int v3), (4, .int (0 : Int32))] ⟨rfl, rfl, rfl, rfl, rfl, trivial⟩ ?_
  exact s_m_hears_13 _ _ _ _ _ _ h
theorem s_m_hears {d : Nat} {S' : St} {r : Unit} (v1 : Int32) (v2 : Int32) (v3 : Int32) (S : St) (h : m_hears v1 v2 v3 S = some (r, S')) : RC KM (d + 1) 2464 [.ref 500, .int v1, .int v2, .int v3] S none S' := RC.of rfl (s0_m_hears v1 v2 v3 S h)
-- welsh ()I
def m_welsh_32 (k4 : Int32 → Int32 → St → Re Int32) (v2 : Int32) (p0 : Int32) (p1 : Int32) (S : St) : Re Int32 :=
  lt' ((p1 ||| p0) : Int32) fun x1 =>
  lt' ((v2 + (1 : Int32)) : Int32) fun x2 =>
  k4 x1 x2 S
set_option maxRecDepth 100000 in
theorem s_m_welsh_32 {d : Nat} (k4 : Int32 → Int32 → St → Re Int32) {S' : St} {r : Int32} (b4 : ∀ (v1 : Int32) (v2 : Int32) (S : St), k4 v1 v2 S = some (r, S') → RR KM (d + 0) 2465 4 [(0, .ref 500), (1, .int v1), (2, .int v2)] [] S (some (.int r)) S') (v2 : Int32) (p0 : Int32) (p1 : Int32) (S : St) (h : m_welsh_32 k4 v2 p0 p1 S = some (r, S')) : RR KM (d + 0) 2465 32 [(0, .ref 500), (2, .int v2)] [.int p0, .int p1] S (some (.int r)) S' := by
  unfold m_welsh_32 at h
  refine RR.runs (pc' := 34) (lc' := [(1, .int (p1 ||| p0)), (0, .ref 500), (2, .int v2)]) (st' := []) (S1 := S) (nL := 3) (cd := cd_2465) mx_2465 rfl rfl 2 rfl ?_
  obtain ⟨x1, ex1, h⟩ := ltE h
  rw [← ex1]
  refine RR.runs (pc' := 37) (lc' := [(2, .int ((v2 + (1 : Int32)))), (1, .int x1), (0, .ref 500)]) (st' := []) (S1 := S) (nL := 3) (cd := cd_2465) mx_2465 rfl rfl 1 rfl ?_
  obtain ⟨x2, ex2, h⟩ := ltE h
  rw [← ex2]
  refine RR.runs (pc' := 4) (lc' := [(2, .int x2), (1, .int x1), (0, .ref 500)]) (st' := []) (S1 := S) (nL := 3) (cd := cd_2465) mx_2465 rfl rfl 1 rfl ?_
  refine RR.weak [(0, .ref 500), (1, .int x1), (2, .int x2)] ⟨rfl, rfl, rfl, trivial⟩ ?_
  exact b4 _ _ _ h
def m_welsh_40 (v1 : Int32) (S : St) : Re Int32 :=
  some (v1, S)
set_option maxRecDepth 100000 in
theorem s_m_welsh_40 {d : Nat} {S' : St} {r : Int32} (v1 : Int32) (S : St) (h : m_welsh_40 v1 S = some (r, S')) : RR KM (d + 0) 2465 40 [(1, .int v1)] [] S (some (.int r)) S' := by
  unfold m_welsh_40 at h
  refine RR.runs (pc' := 41) (lc' := [(1, .int v1)]) (st' := [.int v1]) (S1 := S) (nL := 3) (cd := cd_2465) mx_2465 rfl rfl 1 rfl ?_
  cases h
  exact RR.reti mx_2465 rfl rfl rfl
def m_welsh_4 : Nat → Int32 → Int32 → St → Re Int32
  | 0, _, _, _ => none
  | n + 1, v1, v2, S =>
  if (0 : Int32) < 0 ∨ 12 ≤ (0 : Int32).toNatClampNeg then none else
  if v2 < (rI S 502 (0 : Int32).toNatClampNeg) then (
    if v2 < 0 ∨ 20 ≤ v2.toNatClampNeg then none else
    if (rI S 506 v2.toNatClampNeg) = (2 : Int32) then (
      m_welsh_32 (m_welsh_4 n) v2 (((1 : Int32) <<< (v2 &&& 31))) v1 S)
    else (
      m_welsh_32 (m_welsh_4 n) v2 (0 : Int32) v1 S))
  else (
    m_welsh_40 v1 S)
set_option maxRecDepth 100000 in
theorem s_m_welsh_4 {d : Nat} {S' : St} {r : Int32} : ∀ (n : Nat) (v1 : Int32) (v2 : Int32) (S : St), m_welsh_4 n v1 v2 S = some (r, S') → RR KM (d + 0) 2465 4 [(0, .ref 500), (1, .int v1), (2, .int v2)] [] S (some (.int r)) S' := by
  intro n
  induction n with
  | zero => intro v1 v2 S h; simp only [m_welsh_4] at h; cases h
  | succ n ih =>
    intro v1 v2 S h
    simp only [m_welsh_4] at h
    refine RR.runs (pc' := 10) (lc' := [(0, .ref 500), (1, .int v1), (2, .int v2)]) (st' := [.int (0 : Int32), .ref 502, .int v2]) (S1 := S) (nL := 3) (cd := cd_2465) mx_2465 rfl rfl 4 rfl ?_
    obtain ⟨g, h⟩ := gnE h
    refine RR.gPN (c2 := (KM.1 502).1 = 1) (pc' := 11) (lc' := [(0, .ref 500), (1, .int v1), (2, .int v2)]) (st' := [.int ((rI S 502 (0 : Int32).toNatClampNeg)), .int v2]) (S1 := S) (nL := 3) (cd := cd_2465) mx_2465 rfl rfl rfl rfl g ?_
    refine RR.runs (pc' := icm .ge v2 ((rI S 502 (0 : Int32).toNatClampNeg)) 40 14) (lc' := [(0, .ref 500), (1, .int v1), (2, .int v2)]) (st' := []) (S1 := S) (nL := 3) (cd := cd_2465) mx_2465 rfl rfl 1 rfl ?_
    rcases ifE h with ⟨c, h⟩ | ⟨c, h⟩
    · refine RR.c_ge (fun _ => ?_) (fun q => absurd c q)
      refine RR.runs (pc' := 20) (lc' := [(0, .ref 500), (1, .int v1), (2, .int v2)]) (st' := [.int v2, .ref 506, .int v1]) (S1 := S) (nL := 3) (cd := cd_2465) mx_2465 rfl rfl 4 rfl ?_
      obtain ⟨g, h⟩ := gnE h
      refine RR.gPN (c2 := (KM.1 506).1 = 1) (pc' := 21) (lc' := [(0, .ref 500), (1, .int v1), (2, .int v2)]) (st' := [.int (rI S 506 v2.toNatClampNeg), .int v1]) (S1 := S) (nL := 3) (cd := cd_2465) mx_2465 rfl rfl rfl rfl g ?_
      refine RR.runs (pc' := icm .ne (rI S 506 v2.toNatClampNeg) (2 : Int32) 31 25) (lc' := [(0, .ref 500), (1, .int v1), (2, .int v2)]) (st' := [.int v1]) (S1 := S) (nL := 3) (cd := cd_2465) mx_2465 rfl rfl 2 rfl ?_
      rcases ifE h with ⟨c, h⟩ | ⟨c, h⟩
      · refine RR.c_ne (fun _ => ?_) (fun q => absurd c q)
        refine RR.runs (pc' := 32) (lc' := [(0, .ref 500), (1, .int v1), (2, .int v2)]) (st' := [.int (((1 : Int32) <<< (v2 &&& 31))), .int v1]) (S1 := S) (nL := 3) (cd := cd_2465) mx_2465 rfl rfl 4 rfl ?_
        refine RR.weak [(0, .ref 500), (2, .int v2)] ⟨rfl, rfl, trivial⟩ ?_
        exact s_m_welsh_32 _ (fun _ _ S h => ih _ _ S h) _ _ _ _ h
      · refine RR.c_ne (fun q => absurd q c) (fun _ => ?_)
        refine RR.runs (pc' := 32) (lc' := [(0, .ref 500), (1, .int v1), (2, .int v2)]) (st' := [.int (0 : Int32), .int v1]) (S1 := S) (nL := 3) (cd := cd_2465) mx_2465 rfl rfl 1 rfl ?_
        refine RR.weak [(0, .ref 500), (2, .int v2)] ⟨rfl, rfl, trivial⟩ ?_
        exact s_m_welsh_32 _ (fun _ _ S h => ih _ _ S h) _ _ _ _ h
    · refine RR.c_ge (fun q => absurd q c) (fun _ => ?_)
      refine RR.weak [(1, .int v1)] ⟨rfl, trivial⟩ ?_
      exact s_m_welsh_40 _ _ h
def m_welsh (S : St) : Re Int32 :=
  m_welsh_4 FU (0 : Int32) (0 : Int32) S
set_option maxRecDepth 100000 in
theorem s0_m_welsh {d : Nat} {S' : St} {r : Int32} (S : St) (h : m_welsh S = some (r, S')) : RR KM (d + 0) 2465 0 [(0, .ref 500)] [] S (some (.int r)) S' := by
  unfold m_welsh at h
  refine RR.runs (pc' := 4) (lc' := [(2, .int (0 : Int32)), (1, .int (0 : Int32)), (0, .ref 500)]) (st' := []) (S1 := S) (nL := 3) (cd := cd_2465) mx_2465 rfl rfl 4 rfl ?_
  refine RR.weak [(0, .ref 500), (1, .int (0 : Int32)), (2, .int (0 : Int32))] ⟨rfl, rfl, rfl, trivial⟩ ?_
  exact s_m_welsh_4 _ _ _ _ h
theorem s_m_welsh {d : Nat} {S' : St} {r : Int32} (S : St) (h : m_welsh S = some (r, S')) : RC KM (d + 0) 2465 [.ref 500] S (some (.int r)) S' := RC.of rfl (s0_m_welsh S h)
-- fallsBy (IIII)I
def m_fallsBy_93 (k45 : Int32 → Int32 → Int32 → Int32 → St → Re Int32) (v1 : Int32) (v6 : Int32) (v7 : Int32) (v8 : Int32) (S : St) : Re Int32 :=
  lt' ((v8 + (1 : Int32)) : Int32) fun x1 =>
  k45 v1 v6 v7 x1 S
set_option maxRecDepth 100000 in
theorem s_m_fallsBy_93 {d : Nat} (k45 : Int32 → Int32 → Int32 → Int32 → St → Re Int32) {S' : St} {r : Int32} (b45 : ∀ (v1 : Int32) (v6 : Int32) (v7 : Int32) (v8 : Int32) (S : St), k45 v1 v6 v7 v8 S = some (r, S') → RR KM (d + 1) 2466 45 [(0, .ref 500), (1, .int v1), (6, .int v6), (7, .int v7), (8, .int v8)] [] S (some (.int r)) S') (v1 : Int32) (v6 : Int32) (v7 : Int32) (v8 : Int32) (S : St) (h : m_fallsBy_93 k45 v1 v6 v7 v8 S = some (r, S')) : RR KM (d + 1) 2466 93 [(0, .ref 500), (1, .int v1), (6, .int v6), (7, .int v7), (8, .int v8)] [] S (some (.int r)) S' := by
  unfold m_fallsBy_93 at h
  refine RR.runs (pc' := 96) (lc' := [(8, .int ((v8 + (1 : Int32)))), (0, .ref 500), (1, .int v1), (6, .int v6), (7, .int v7)]) (st' := []) (S1 := S) (nL := 9) (cd := cd_2466) mx_2466 rfl rfl 1 rfl ?_
  obtain ⟨x1, ex1, h⟩ := ltE h
  rw [← ex1]
  refine RR.runs (pc' := 45) (lc' := [(8, .int x1), (0, .ref 500), (1, .int v1), (6, .int v6), (7, .int v7)]) (st' := []) (S1 := S) (nL := 9) (cd := cd_2466) mx_2466 rfl rfl 1 rfl ?_
  refine RR.weak [(0, .ref 500), (1, .int v1), (6, .int v6), (7, .int v7), (8, .int x1)] ⟨rfl, rfl, rfl, rfl, rfl, trivial⟩ ?_
  exact b45 _ _ _ _ _ h
def m_fallsBy_99 (v1 : Int32) (v7 : Int32) (S : St) : Re Int32 :=
  lt' (wI S 500 72 (((rI S 500 72) &&& (v1 &&& (v7 ^^^ (-1 : Int32)))))) fun S1 =>
  some (v7, S1)
set_option maxRecDepth 100000 in
theorem s_m_fallsBy_99 {d : Nat} {S' : St} {r : Int32} (v1 : Int32) (v7 : Int32) (S : St) (h : m_fallsBy_99 v1 v7 S = some (r, S')) : RR KM (d + 1) 2466 99 [(0, .ref 500), (1, .int v1), (7, .int v7)] [] S (some (.int r)) S' := by
  unfold m_fallsBy_99 at h
  refine RR.runs (pc' := 114) (lc' := [(0, .ref 500), (1, .int v1), (7, .int v7)]) (st' := []) (S1 := (wI S 500 72 (((rI S 500 72) &&& (v1 &&& (v7 ^^^ (-1 : Int32))))))) (nL := 9) (cd := cd_2466) mx_2466 rfl rfl 10 rfl ?_
  obtain ⟨S1, eS1, h⟩ := ltE h
  rw [← eS1]
  refine RR.runs (pc' := 116) (lc' := [(0, .ref 500), (1, .int v1), (7, .int v7)]) (st' := [.int v7]) (S1 := S1) (nL := 9) (cd := cd_2466) mx_2466 rfl rfl 1 rfl ?_
  cases h
  exact RR.reti mx_2466 rfl rfl rfl
def m_fallsBy_45 : Nat → Int32 → Int32 → Int32 → Int32 → St → Re Int32
  | 0, _, _, _, _, _ => none
  | n + 1, v1, v6, v7, v8, S =>
  if (0 : Int32) < 0 ∨ 12 ≤ (0 : Int32).toNatClampNeg then none else
  if v8 < (rI S 502 (0 : Int32).toNatClampNeg) then (
    if ((v6 >>> (v8 &&& 31)) &&& (1 : Int32)) = (1 : Int32) then (
      if v8 < 0 ∨ 20 ≤ v8.toNatClampNeg then none else
      if (rI S 511 v8.toNatClampNeg) < 0 then (
        m_fallsBy_93 (m_fallsBy_45 n) v1 v6 v7 v8 S)
      else (
        if v8 < 0 ∨ 20 ≤ v8.toNatClampNeg then none else
        lt' ((v7 ||| (v1 &&& ((1 : Int32) <<< ((rI S 511 v8.toNatClampNeg) &&& 31)))) : Int32) fun x1 =>
        m_fallsBy_93 (m_fallsBy_45 n) v1 v6 x1 v8 S))
    else (
      m_fallsBy_93 (m_fallsBy_45 n) v1 v6 v7 v8 S))
  else (
    m_fallsBy_99 v1 v7 S)
set_option maxRecDepth 100000 in
theorem s_m_fallsBy_45 {d : Nat} {S' : St} {r : Int32} : ∀ (n : Nat) (v1 : Int32) (v6 : Int32) (v7 : Int32) (v8 : Int32) (S : St), m_fallsBy_45 n v1 v6 v7 v8 S = some (r, S') → RR KM (d + 1) 2466 45 [(0, .ref 500), (1, .int v1), (6, .int v6), (7, .int v7), (8, .int v8)] [] S (some (.int r)) S' := by
  intro n
  induction n with
  | zero => intro v1 v6 v7 v8 S h; simp only [m_fallsBy_45] at h; cases h
  | succ n ih =>
    intro v1 v6 v7 v8 S h
    simp only [m_fallsBy_45] at h
    refine RR.runs (pc' := 52) (lc' := [(0, .ref 500), (1, .int v1), (6, .int v6), (7, .int v7), (8, .int v8)]) (st' := [.int (0 : Int32), .ref 502, .int v8]) (S1 := S) (nL := 9) (cd := cd_2466) mx_2466 rfl rfl 4 rfl ?_
    obtain ⟨g, h⟩ := gnE h
    refine RR.gPN (c2 := (KM.1 502).1 = 1) (pc' := 53) (lc' := [(0, .ref 500), (1, .int v1), (6, .int v6), (7, .int v7), (8, .int v8)]) (st' := [.int ((rI S 502 (0 : Int32).toNatClampNeg)), .int v8]) (S1 := S) (nL := 9) (cd := cd_2466) mx_2466 rfl rfl rfl rfl g ?_
    refine RR.runs (pc' := icm .ge v8 ((rI S 502 (0 : Int32).toNatClampNeg)) 99 56) (lc' := [(0, .ref 500), (1, .int v1), (6, .int v6), (7, .int v7), (8, .int v8)]) (st' := []) (S1 := S) (nL := 9) (cd := cd_2466) mx_2466 rfl rfl 1 rfl ?_
    rcases ifE h with ⟨c, h⟩ | ⟨c, h⟩
    · refine RR.c_ge (fun _ => ?_) (fun q => absurd c q)
      refine RR.runs (pc' := icm .ne (((v6 >>> (v8 &&& 31)) &&& (1 : Int32))) (1 : Int32) 93 67) (lc' := [(0, .ref 500), (1, .int v1), (6, .int v6), (7, .int v7), (8, .int v8)]) (st' := []) (S1 := S) (nL := 9) (cd := cd_2466) mx_2466 rfl rfl 7 rfl ?_
      rcases ifE h with ⟨c, h⟩ | ⟨c, h⟩
      · refine RR.c_ne (fun _ => ?_) (fun q => absurd c q)
        refine RR.runs (pc' := 73) (lc' := [(0, .ref 500), (1, .int v1), (6, .int v6), (7, .int v7), (8, .int v8)]) (st' := [.int v8, .ref 511]) (S1 := S) (nL := 9) (cd := cd_2466) mx_2466 rfl rfl 3 rfl ?_
        obtain ⟨g, h⟩ := gnE h
        refine RR.gPN (c2 := (KM.1 511).1 = 1) (pc' := 74) (lc' := [(0, .ref 500), (1, .int v1), (6, .int v6), (7, .int v7), (8, .int v8)]) (st' := [.int (rI S 511 v8.toNatClampNeg)]) (S1 := S) (nL := 9) (cd := cd_2466) mx_2466 rfl rfl rfl rfl g ?_
        refine RR.runs (pc' := icm .lt (rI S 511 v8.toNatClampNeg) 0 93 77) (lc' := [(0, .ref 500), (1, .int v1), (6, .int v6), (7, .int v7), (8, .int v8)]) (st' := []) (S1 := S) (nL := 9) (cd := cd_2466) mx_2466 rfl rfl 1 rfl ?_
        rcases ifE h with ⟨c, h⟩ | ⟨c, h⟩
        · refine RR.c_lt (fun _ => ?_) (fun q => absurd c q)
          refine RR.weak [(0, .ref 500), (1, .int v1), (6, .int v6), (7, .int v7), (8, .int v8)] ⟨rfl, rfl, rfl, rfl, rfl, trivial⟩ ?_
          exact s_m_fallsBy_93 _ (fun _ _ _ _ S h => ih _ _ _ _ S h) _ _ _ _ _ h
        · refine RR.c_lt (fun q => absurd q c) (fun _ => ?_)
          refine RR.runs (pc' := 87) (lc' := [(0, .ref 500), (1, .int v1), (6, .int v6), (7, .int v7), (8, .int v8)]) (st' := [.int v8, .ref 511, .int (1 : Int32), .int v1, .int v7]) (S1 := S) (nL := 9) (cd := cd_2466) mx_2466 rfl rfl 6 rfl ?_
          obtain ⟨g, h⟩ := gnE h
          refine RR.gPN (c2 := (KM.1 511).1 = 1) (pc' := 88) (lc' := [(0, .ref 500), (1, .int v1), (6, .int v6), (7, .int v7), (8, .int v8)]) (st' := [.int (rI S 511 v8.toNatClampNeg), .int (1 : Int32), .int v1, .int v7]) (S1 := S) (nL := 9) (cd := cd_2466) mx_2466 rfl rfl rfl rfl g ?_
          refine RR.runs (pc' := 93) (lc' := [(7, .int ((v7 ||| (v1 &&& ((1 : Int32) <<< ((rI S 511 v8.toNatClampNeg) &&& 31)))))), (0, .ref 500), (1, .int v1), (6, .int v6), (8, .int v8)]) (st' := []) (S1 := S) (nL := 9) (cd := cd_2466) mx_2466 rfl rfl 4 rfl ?_
          obtain ⟨x1, ex1, h⟩ := ltE h
          rw [← ex1]
          refine RR.weak [(0, .ref 500), (1, .int v1), (6, .int v6), (7, .int x1), (8, .int v8)] ⟨rfl, rfl, rfl, rfl, rfl, trivial⟩ ?_
          exact s_m_fallsBy_93 _ (fun _ _ _ _ S h => ih _ _ _ _ S h) _ _ _ _ _ h
      · refine RR.c_ne (fun q => absurd q c) (fun _ => ?_)
        refine RR.weak [(0, .ref 500), (1, .int v1), (6, .int v6), (7, .int v7), (8, .int v8)] ⟨rfl, rfl, rfl, rfl, rfl, trivial⟩ ?_
        exact s_m_fallsBy_93 _ (fun _ _ _ _ S h => ih _ _ _ _ S h) _ _ _ _ _ h
    · refine RR.c_ge (fun q => absurd q c) (fun _ => ?_)
      refine RR.weak [(0, .ref 500), (1, .int v1), (7, .int v7)] ⟨rfl, rfl, rfl, trivial⟩ ?_
      exact s_m_fallsBy_99 _ _ _ h
def m_fallsBy (v1 : Int32) (v2 : Int32) (v3 : Int32) (v4 : Int32) (S : St) : Re Int32 :=
  bn (m_welsh S) fun r1 S2 =>
  lt' ((v1 &&& ((v3 &&& ((r1 ^^^ (-1 : Int32)) ||| v2)) ||| (v4 &&& v2))) : Int32) fun x3 =>
  lt' (wI S2 500 72 ((v2 ||| (v1 &&& ((v3 &&& r1) ||| v4))))) fun S4 =>
  m_fallsBy_45 FU v1 x3 x3 (0 : Int32) S4
set_option maxRecDepth 100000 in
theorem s0_m_fallsBy {d : Nat} {S' : St} {r : Int32} (v1 : Int32) (v2 : Int32) (v3 : Int32) (v4 : Int32) (S : St) (h : m_fallsBy v1 v2 v3 v4 S = some (r, S')) : RR KM (d + 1) 2466 0 [(0, .ref 500), (1, .int v1), (2, .int v2), (3, .int v3), (4, .int v4)] [] S (some (.int r)) S' := by
  unfold m_fallsBy at h
  refine RR.runs (pc' := 1) (lc' := [(0, .ref 500), (1, .int v1), (2, .int v2), (3, .int v3), (4, .int v4)]) (st' := [.ref 500]) (S1 := S) (nL := 9) (cd := cd_2466) mx_2466 rfl rfl 1 rfl ?_
  obtain ⟨r1, S2, h1, h⟩ := bnE h
  refine RR.callV (b := 500) (as := []) (rest := []) (r1 := (some (.int r1))) (S1 := S2) mx_2466 rfl rfl mx_2465 rfl rfl (by decide) (Or.inl rfl) (Nat.le_of_ble_eq_true rfl) (Nat.le_of_ble_eq_true rfl) (RC.deep (by omega) (s_m_welsh (d := d) _ h1)) ?_
  show RR KM _ 2466 4 [(0, .ref 500), (1, .int v1), (2, .int v2), (3, .int v3), (4, .int v4)] [.int r1] S2 _ _
  refine RR.runs (pc' := 23) (lc' := [(6, .int ((v1 &&& ((v3 &&& ((r1 ^^^ (-1 : Int32)) ||| v2)) ||| (v4 &&& v2))))), (5, .int r1), (0, .ref 500), (1, .int v1), (2, .int v2), (3, .int v3), (4, .int v4)]) (st' := []) (S1 := S2) (nL := 9) (cd := cd_2466) mx_2466 rfl rfl 15 rfl ?_
  obtain ⟨x3, ex3, h⟩ := ltE h
  rw [← ex3]
  refine RR.runs (pc' := 38) (lc' := [(6, .int x3), (5, .int r1), (0, .ref 500), (1, .int v1), (2, .int v2), (3, .int v3), (4, .int v4)]) (st' := []) (S1 := (wI S2 500 72 ((v2 ||| (v1 &&& ((v3 &&& r1) ||| v4)))))) (nL := 9) (cd := cd_2466) mx_2466 rfl rfl 11 rfl ?_
  obtain ⟨S4, eS4, h⟩ := ltE h
  rw [← eS4]
  refine RR.runs (pc' := 45) (lc' := [(8, .int (0 : Int32)), (7, .int x3), (6, .int x3), (5, .int r1), (0, .ref 500), (1, .int v1), (2, .int v2), (3, .int v3), (4, .int v4)]) (st' := []) (S1 := S4) (nL := 9) (cd := cd_2466) mx_2466 rfl rfl 4 rfl ?_
  refine RR.weak [(0, .ref 500), (1, .int v1), (6, .int x3), (7, .int x3), (8, .int (0 : Int32))] ⟨rfl, rfl, rfl, rfl, rfl, trivial⟩ ?_
  exact s_m_fallsBy_45 _ _ _ _ _ _ h
theorem s_m_fallsBy {d : Nat} {S' : St} {r : Int32} (v1 : Int32) (v2 : Int32) (v3 : Int32) (v4 : Int32) (S : St) (h : m_fallsBy v1 v2 v3 v4 S = some (r, S')) : RC KM (d + 1) 2466 [.ref 500, .int v1, .int v2, .int v3, .int v4] S (some (.int r)) S' := RC.of rfl (s0_m_fallsBy v1 v2 v3 v4 S h)
-- worthOf (II)I
def m_worthOf_38 (k5 : Int32 → Int32 → Int32 → Int32 → St → Re Int32) (v1 : Int32) (v2 : Int32) (v4 : Int32) (p0 : Int32) (p1 : Int32) (S : St) : Re Int32 :=
  lt' ((p1 + p0) : Int32) fun x1 =>
  lt' ((v4 + (1 : Int32)) : Int32) fun x2 =>
  k5 v1 v2 x1 x2 S
set_option maxRecDepth 100000 in
theorem s_m_worthOf_38 {d : Nat} (k5 : Int32 → Int32 → Int32 → Int32 → St → Re Int32) {S' : St} {r : Int32} (b5 : ∀ (v1 : Int32) (v2 : Int32) (v3 : Int32) (v4 : Int32) (S : St), k5 v1 v2 v3 v4 S = some (r, S') → RR KM (d + 4) 2467 5 [(0, .ref 500), (1, .int v1), (2, .int v2), (3, .int v3), (4, .int v4)] [] S (some (.int r)) S') (v1 : Int32) (v2 : Int32) (v4 : Int32) (p0 : Int32) (p1 : Int32) (S : St) (h : m_worthOf_38 k5 v1 v2 v4 p0 p1 S = some (r, S')) : RR KM (d + 4) 2467 38 [(0, .ref 500), (1, .int v1), (2, .int v2), (4, .int v4)] [.int p0, .int p1] S (some (.int r)) S' := by
  unfold m_worthOf_38 at h
  refine RR.runs (pc' := 40) (lc' := [(3, .int (p1 + p0)), (0, .ref 500), (1, .int v1), (2, .int v2), (4, .int v4)]) (st' := []) (S1 := S) (nL := 5) (cd := cd_2467) mx_2467 rfl rfl 2 rfl ?_
  obtain ⟨x1, ex1, h⟩ := ltE h
  rw [← ex1]
  refine RR.runs (pc' := 43) (lc' := [(4, .int ((v4 + (1 : Int32)))), (3, .int x1), (0, .ref 500), (1, .int v1), (2, .int v2)]) (st' := []) (S1 := S) (nL := 5) (cd := cd_2467) mx_2467 rfl rfl 1 rfl ?_
  obtain ⟨x2, ex2, h⟩ := ltE h
  rw [← ex2]
  refine RR.runs (pc' := 5) (lc' := [(4, .int x2), (3, .int x1), (0, .ref 500), (1, .int v1), (2, .int v2)]) (st' := []) (S1 := S) (nL := 5) (cd := cd_2467) mx_2467 rfl rfl 1 rfl ?_
  refine RR.weak [(0, .ref 500), (1, .int v1), (2, .int v2), (3, .int x1), (4, .int x2)] ⟨rfl, rfl, rfl, rfl, rfl, trivial⟩ ?_
  exact b5 _ _ _ _ _ h
def m_worthOf_46 (v3 : Int32) (S : St) : Re Int32 :=
  some (v3, S)
set_option maxRecDepth 100000 in
theorem s_m_worthOf_46 {d : Nat} {S' : St} {r : Int32} (v3 : Int32) (S : St) (h : m_worthOf_46 v3 S = some (r, S')) : RR KM (d + 4) 2467 46 [(3, .int v3)] [] S (some (.int r)) S' := by
  unfold m_worthOf_46 at h
  refine RR.runs (pc' := 47) (lc' := [(3, .int v3)]) (st' := [.int v3]) (S1 := S) (nL := 5) (cd := cd_2467) mx_2467 rfl rfl 1 rfl ?_
  cases h
  exact RR.reti mx_2467 rfl rfl rfl
def m_worthOf_5 : Nat → Int32 → Int32 → Int32 → Int32 → St → Re Int32
  | 0, _, _, _, _, _ => none
  | n + 1, v1, v2, v3, v4, S =>
  if (0 : Int32) < 0 ∨ 12 ≤ (0 : Int32).toNatClampNeg then none else
  if v4 < (rI S 502 (0 : Int32).toNatClampNeg) then (
    if ((v1 >>> (v4 &&& 31)) &&& (1 : Int32)) = (1 : Int32) then (
      bn (m_valueOn v4 v2 S) fun r1 S2 =>
      m_worthOf_38 (m_worthOf_5 n) v1 v2 v4 r1 v3 S2)
    else (
      m_worthOf_38 (m_worthOf_5 n) v1 v2 v4 (0 : Int32) v3 S))
  else (
    m_worthOf_46 v3 S)
set_option maxRecDepth 100000 in
theorem s_m_worthOf_5 {d : Nat} {S' : St} {r : Int32} : ∀ (n : Nat) (v1 : Int32) (v2 : Int32) (v3 : Int32) (v4 : Int32) (S : St), m_worthOf_5 n v1 v2 v3 v4 S = some (r, S') → RR KM (d + 4) 2467 5 [(0, .ref 500), (1, .int v1), (2, .int v2), (3, .int v3), (4, .int v4)] [] S (some (.int r)) S' := by
  intro n
  induction n with
  | zero => intro v1 v2 v3 v4 S h; simp only [m_worthOf_5] at h; cases h
  | succ n ih =>
    intro v1 v2 v3 v4 S h
    simp only [m_worthOf_5] at h
    refine RR.runs (pc' := 12) (lc' := [(0, .ref 500), (1, .int v1), (2, .int v2), (3, .int v3), (4, .int v4)]) (st' := [.int (0 : Int32), .ref 502, .int v4]) (S1 := S) (nL := 5) (cd := cd_2467) mx_2467 rfl rfl 4 rfl ?_
    obtain ⟨g, h⟩ := gnE h
    refine RR.gPN (c2 := (KM.1 502).1 = 1) (pc' := 13) (lc' := [(0, .ref 500), (1, .int v1), (2, .int v2), (3, .int v3), (4, .int v4)]) (st' := [.int ((rI S 502 (0 : Int32).toNatClampNeg)), .int v4]) (S1 := S) (nL := 5) (cd := cd_2467) mx_2467 rfl rfl rfl rfl g ?_
    refine RR.runs (pc' := icm .ge v4 ((rI S 502 (0 : Int32).toNatClampNeg)) 46 16) (lc' := [(0, .ref 500), (1, .int v1), (2, .int v2), (3, .int v3), (4, .int v4)]) (st' := []) (S1 := S) (nL := 5) (cd := cd_2467) mx_2467 rfl rfl 1 rfl ?_
    rcases ifE h with ⟨c, h⟩ | ⟨c, h⟩
    · refine RR.c_ge (fun _ => ?_) (fun q => absurd c q)
      refine RR.runs (pc' := icm .ne (((v1 >>> (v4 &&& 31)) &&& (1 : Int32))) (1 : Int32) 37 27) (lc' := [(0, .ref 500), (1, .int v1), (2, .int v2), (3, .int v3), (4, .int v4)]) (st' := [.int v3]) (S1 := S) (nL := 5) (cd := cd_2467) mx_2467 rfl rfl 8 rfl ?_
      rcases ifE h with ⟨c, h⟩ | ⟨c, h⟩
      · refine RR.c_ne (fun _ => ?_) (fun q => absurd c q)
        refine RR.runs (pc' := 31) (lc' := [(0, .ref 500), (1, .int v1), (2, .int v2), (3, .int v3), (4, .int v4)]) (st' := [.int v2, .int v4, .ref 500, .int v3]) (S1 := S) (nL := 5) (cd := cd_2467) mx_2467 rfl rfl 3 rfl ?_
        obtain ⟨r1, S2, h1, h⟩ := bnE h
        refine RR.callV (b := 500) (as := [.int v4, .int v2]) (rest := [.int v3]) (r1 := (some (.int r1))) (S1 := S2) mx_2467 rfl rfl mx_2459 rfl rfl (by decide) (Or.inl rfl) (Nat.le_of_ble_eq_true rfl) (Nat.le_of_ble_eq_true rfl) (RC.deep (by omega) (s_m_valueOn (d := d) _ _ _ h1)) ?_
        show RR KM _ 2467 34 [(0, .ref 500), (1, .int v1), (2, .int v2), (3, .int v3), (4, .int v4)] [.int r1, .int v3] S2 _ _
        refine RR.runs (pc' := 38) (lc' := [(0, .ref 500), (1, .int v1), (2, .int v2), (3, .int v3), (4, .int v4)]) (st' := [.int r1, .int v3]) (S1 := S2) (nL := 5) (cd := cd_2467) mx_2467 rfl rfl 1 rfl ?_
        refine RR.weak [(0, .ref 500), (1, .int v1), (2, .int v2), (4, .int v4)] ⟨rfl, rfl, rfl, rfl, trivial⟩ ?_
        exact s_m_worthOf_38 _ (fun _ _ _ _ S h => ih _ _ _ _ S h) _ _ _ _ _ _ h
      · refine RR.c_ne (fun q => absurd q c) (fun _ => ?_)
        refine RR.runs (pc' := 38) (lc' := [(0, .ref 500), (1, .int v1), (2, .int v2), (3, .int v3), (4, .int v4)]) (st' := [.int (0 : Int32), .int v3]) (S1 := S) (nL := 5) (cd := cd_2467) mx_2467 rfl rfl 1 rfl ?_
        refine RR.weak [(0, .ref 500), (1, .int v1), (2, .int v2), (4, .int v4)] ⟨rfl, rfl, rfl, rfl, trivial⟩ ?_
        exact s_m_worthOf_38 _ (fun _ _ _ _ S h => ih _ _ _ _ S h) _ _ _ _ _ _ h
    · refine RR.c_ge (fun q => absurd q c) (fun _ => ?_)
      refine RR.weak [(3, .int v3)] ⟨rfl, trivial⟩ ?_
      exact s_m_worthOf_46 _ _ h
def m_worthOf (v1 : Int32) (v2 : Int32) (S : St) : Re Int32 :=
  m_worthOf_5 FU v1 v2 (0 : Int32) (0 : Int32) S
set_option maxRecDepth 100000 in
theorem s0_m_worthOf {d : Nat} {S' : St} {r : Int32} (v1 : Int32) (v2 : Int32) (S : St) (h : m_worthOf v1 v2 S = some (r, S')) : RR KM (d + 4) 2467 0 [(0, .ref 500), (1, .int v1), (2, .int v2)] [] S (some (.int r)) S' := by
  unfold m_worthOf at h
  refine RR.runs (pc' := 5) (lc' := [(4, .int (0 : Int32)), (3, .int (0 : Int32)), (0, .ref 500), (1, .int v1), (2, .int v2)]) (st' := []) (S1 := S) (nL := 5) (cd := cd_2467) mx_2467 rfl rfl 4 rfl ?_
  refine RR.weak [(0, .ref 500), (1, .int v1), (2, .int v2), (3, .int (0 : Int32)), (4, .int (0 : Int32))] ⟨rfl, rfl, rfl, rfl, rfl, trivial⟩ ?_
  exact s_m_worthOf_5 _ _ _ _ _ _ h
theorem s_m_worthOf {d : Nat} {S' : St} {r : Int32} (v1 : Int32) (v2 : Int32) (S : St) (h : m_worthOf v1 v2 S = some (r, S')) : RC KM (d + 4) 2467 [.ref 500, .int v1, .int v2] S (some (.int r)) S' := RC.of rfl (s0_m_worthOf v1 v2 S h)
-- calls (III)I
def m_calls (v1 : Int32) (v2 : Int32) (v3 : Int32) (S : St) : Re Int32 :=
  bn (m_hears v1 v2 v3 S) fun r1 S2 =>
  if (0 : Int32) < 0 ∨ 15 ≤ (0 : Int32).toNatClampNeg then none else
  if (1 : Int32) < 0 ∨ 15 ≤ (1 : Int32).toNatClampNeg then none else
  bn (m_fallsBy ((rI S2 553 (0 : Int32).toNatClampNeg)) ((rI S2 553 (1 : Int32).toNatClampNeg)) (rI S2 500 70) (rI S2 500 71) S2) fun r3 S4 =>
  if (0 : Int32) < 0 ∨ 15 ≤ (0 : Int32).toNatClampNeg then none else
  if (0 : Int32) < 0 ∨ 15 ≤ (0 : Int32).toNatClampNeg then none else
  lt' (wI S4 553 (0 : Int32).toNatClampNeg (((rI S4 553 (0 : Int32).toNatClampNeg) &&& (r3 ^^^ (-1 : Int32))))) fun S5 =>
  if (1 : Int32) < 0 ∨ 15 ≤ (1 : Int32).toNatClampNeg then none else
  lt' (wI S5 553 (1 : Int32).toNatClampNeg (rI S5 500 72)) fun S6 =>
  if (4 : Int32) < 0 ∨ 15 ≤ (4 : Int32).toNatClampNeg then none else
  if (2 : Int32) < 0 ∨ 15 ≤ (2 : Int32).toNatClampNeg then none else
  bn (m_worthOf r3 ((rI S6 553 (2 : Int32).toNatClampNeg)) S6) fun r7 S8 =>
  if (4 : Int32) < 0 ∨ 15 ≤ (4 : Int32).toNatClampNeg then none else
  lt' (wI S8 553 (4 : Int32).toNatClampNeg (((rI S6 553 (4 : Int32).toNatClampNeg) + r7))) fun S9 =>
  some (r3, S9)
set_option maxRecDepth 100000 in
theorem s0_m_calls {d : Nat} {S' : St} {r : Int32} (v1 : Int32) (v2 : Int32) (v3 : Int32) (S : St) (h : m_calls v1 v2 v3 S = some (r, S')) : RR KM (d + 5) 2468 0 [(0, .ref 500), (1, .int v1), (2, .int v2), (3, .int v3)] [] S (some (.int r)) S' := by
  unfold m_calls at h
  refine RR.runs (pc' := 4) (lc' := [(0, .ref 500), (1, .int v1), (2, .int v2), (3, .int v3)]) (st' := [.int v3, .int v2, .int v1, .ref 500]) (S1 := S) (nL := 5) (cd := cd_2468) mx_2468 rfl rfl 4 rfl ?_
  obtain ⟨r1, S2, h1, h⟩ := bnE h
  refine RR.callV (b := 500) (as := [.int v1, .int v2, .int v3]) (rest := []) (r1 := none) (S1 := S2) mx_2468 rfl rfl mx_2464 rfl rfl (by decide) (Or.inl rfl) (Nat.le_of_ble_eq_true rfl) (Nat.le_of_ble_eq_true rfl) (RC.deep (by omega) (s_m_hears (d := d) _ _ _ _ h1)) ?_
  show RR KM _ 2468 7 [(0, .ref 500), (1, .int v1), (2, .int v2), (3, .int v3)] [] S2 _ _
  refine RR.runs (pc' := 13) (lc' := [(0, .ref 500), (1, .int v1), (2, .int v2), (3, .int v3)]) (st' := [.int (0 : Int32), .ref 553, .ref 500]) (S1 := S2) (nL := 5) (cd := cd_2468) mx_2468 rfl rfl 4 rfl ?_
  obtain ⟨g, h⟩ := gnE h
  refine RR.gPN (c2 := (KM.1 553).1 = 1) (pc' := 14) (lc' := [(0, .ref 500), (1, .int v1), (2, .int v2), (3, .int v3)]) (st' := [.int ((rI S2 553 (0 : Int32).toNatClampNeg)), .ref 500]) (S1 := S2) (nL := 5) (cd := cd_2468) mx_2468 rfl rfl rfl rfl g ?_
  refine RR.runs (pc' := 19) (lc' := [(0, .ref 500), (1, .int v1), (2, .int v2), (3, .int v3)]) (st' := [.int (1 : Int32), .ref 553, .int ((rI S2 553 (0 : Int32).toNatClampNeg)), .ref 500]) (S1 := S2) (nL := 5) (cd := cd_2468) mx_2468 rfl rfl 3 rfl ?_
  obtain ⟨g, h⟩ := gnE h
  refine RR.gPN (c2 := (KM.1 553).1 = 1) (pc' := 20) (lc' := [(0, .ref 500), (1, .int v1), (2, .int v2), (3, .int v3)]) (st' := [.int ((rI S2 553 (1 : Int32).toNatClampNeg)), .int ((rI S2 553 (0 : Int32).toNatClampNeg)), .ref 500]) (S1 := S2) (nL := 5) (cd := cd_2468) mx_2468 rfl rfl rfl rfl g ?_
  refine RR.runs (pc' := 28) (lc' := [(0, .ref 500), (1, .int v1), (2, .int v2), (3, .int v3)]) (st' := [.int (rI S2 500 71), .int (rI S2 500 70), .int ((rI S2 553 (1 : Int32).toNatClampNeg)), .int ((rI S2 553 (0 : Int32).toNatClampNeg)), .ref 500]) (S1 := S2) (nL := 5) (cd := cd_2468) mx_2468 rfl rfl 4 rfl ?_
  obtain ⟨r3, S4, h1, h⟩ := bnE h
  refine RR.callV (b := 500) (as := [.int ((rI S2 553 (0 : Int32).toNatClampNeg)), .int ((rI S2 553 (1 : Int32).toNatClampNeg)), .int (rI S2 500 70), .int (rI S2 500 71)]) (rest := []) (r1 := (some (.int r3))) (S1 := S4) mx_2468 rfl rfl mx_2466 rfl rfl (by decide) (Or.inl rfl) (Nat.le_of_ble_eq_true rfl) (Nat.le_of_ble_eq_true rfl) (RC.deep (by omega) (s_m_fallsBy (d := d) _ _ _ _ _ h1)) ?_
  show RR KM _ 2468 31 [(0, .ref 500), (1, .int v1), (2, .int v2), (3, .int v3)] [.int r3] S4 _ _
  refine RR.runs (pc' := 39) (lc' := [(4, .int r3), (0, .ref 500), (1, .int v1), (2, .int v2), (3, .int v3)]) (st' := [.int (0 : Int32), .ref 553, .int (0 : Int32), .ref 553]) (S1 := S4) (nL := 5) (cd := cd_2468) mx_2468 rfl rfl 5 rfl ?_
  obtain ⟨g, h⟩ := gnE h
  refine RR.gPN (c2 := (KM.1 553).1 = 1) (pc' := 40) (lc' := [(4, .int r3), (0, .ref 500), (1, .int v1), (2, .int v2), (3, .int v3)]) (st' := [.int ((rI S4 553 (0 : Int32).toNatClampNeg)), .int (0 : Int32), .ref 553]) (S1 := S4) (nL := 5) (cd := cd_2468) mx_2468 rfl rfl rfl rfl g ?_
  refine RR.runs (pc' := 45) (lc' := [(4, .int r3), (0, .ref 500), (1, .int v1), (2, .int v2), (3, .int v3)]) (st' := [.int (((rI S4 553 (0 : Int32).toNatClampNeg) &&& (r3 ^^^ (-1 : Int32)))), .int (0 : Int32), .ref 553]) (S1 := S4) (nL := 5) (cd := cd_2468) mx_2468 rfl rfl 4 rfl ?_
  obtain ⟨g, h⟩ := gnE h
  refine RR.gPN (c2 := (KM.1 553).1 = 1) (pc' := 46) (lc' := [(4, .int r3), (0, .ref 500), (1, .int v1), (2, .int v2), (3, .int v3)]) (st' := []) (S1 := (wI S4 553 (0 : Int32).toNatClampNeg (((rI S4 553 (0 : Int32).toNatClampNeg) &&& (r3 ^^^ (-1 : Int32)))))) (nL := 5) (cd := cd_2468) mx_2468 rfl rfl rfl rfl g ?_
  obtain ⟨S5, eS5, h⟩ := ltE h
  rw [← eS5]
  refine RR.runs (pc' := 55) (lc' := [(4, .int r3), (0, .ref 500), (1, .int v1), (2, .int v2), (3, .int v3)]) (st' := [.int (rI S5 500 72), .int (1 : Int32), .ref 553]) (S1 := S5) (nL := 5) (cd := cd_2468) mx_2468 rfl rfl 5 rfl ?_
  obtain ⟨g, h⟩ := gnE h
  refine RR.gPN (c2 := (KM.1 553).1 = 1) (pc' := 56) (lc' := [(4, .int r3), (0, .ref 500), (1, .int v1), (2, .int v2), (3, .int v3)]) (st' := []) (S1 := (wI S5 553 (1 : Int32).toNatClampNeg (rI S5 500 72))) (nL := 5) (cd := cd_2468) mx_2468 rfl rfl rfl rfl g ?_
  obtain ⟨S6, eS6, h⟩ := ltE h
  rw [← eS6]
  refine RR.runs (pc' := 62) (lc' := [(4, .int r3), (0, .ref 500), (1, .int v1), (2, .int v2), (3, .int v3)]) (st' := [.int (4 : Int32), .ref 553, .int (4 : Int32), .ref 553]) (S1 := S6) (nL := 5) (cd := cd_2468) mx_2468 rfl rfl 4 rfl ?_
  obtain ⟨g, h⟩ := gnE h
  refine RR.gPN (c2 := (KM.1 553).1 = 1) (pc' := 63) (lc' := [(4, .int r3), (0, .ref 500), (1, .int v1), (2, .int v2), (3, .int v3)]) (st' := [.int ((rI S6 553 (4 : Int32).toNatClampNeg)), .int (4 : Int32), .ref 553]) (S1 := S6) (nL := 5) (cd := cd_2468) mx_2468 rfl rfl rfl rfl g ?_
  refine RR.runs (pc' := 71) (lc' := [(4, .int r3), (0, .ref 500), (1, .int v1), (2, .int v2), (3, .int v3)]) (st' := [.int (2 : Int32), .ref 553, .int r3, .ref 500, .int ((rI S6 553 (4 : Int32).toNatClampNeg)), .int (4 : Int32), .ref 553]) (S1 := S6) (nL := 5) (cd := cd_2468) mx_2468 rfl rfl 5 rfl ?_
  obtain ⟨g, h⟩ := gnE h
  refine RR.gPN (c2 := (KM.1 553).1 = 1) (pc' := 72) (lc' := [(4, .int r3), (0, .ref 500), (1, .int v1), (2, .int v2), (3, .int v3)]) (st' := [.int ((rI S6 553 (2 : Int32).toNatClampNeg)), .int r3, .ref 500, .int ((rI S6 553 (4 : Int32).toNatClampNeg)), .int (4 : Int32), .ref 553]) (S1 := S6) (nL := 5) (cd := cd_2468) mx_2468 rfl rfl rfl rfl g ?_
  obtain ⟨r7, S8, h1, h⟩ := bnE h
  refine RR.callV (b := 500) (as := [.int r3, .int ((rI S6 553 (2 : Int32).toNatClampNeg))]) (rest := [.int ((rI S6 553 (4 : Int32).toNatClampNeg)), .int (4 : Int32), .ref 553]) (r1 := (some (.int r7))) (S1 := S8) mx_2468 rfl rfl mx_2467 rfl rfl (by decide) (Or.inl rfl) (Nat.le_of_ble_eq_true rfl) (Nat.le_of_ble_eq_true rfl) (RC.deep (by omega) (s_m_worthOf (d := d) _ _ _ h1)) ?_
  show RR KM _ 2468 75 [(4, .int r3), (0, .ref 500), (1, .int v1), (2, .int v2), (3, .int v3)] [.int r7, .int ((rI S6 553 (4 : Int32).toNatClampNeg)), .int (4 : Int32), .ref 553] S8 _ _
  refine RR.runs (pc' := 76) (lc' := [(4, .int r3), (0, .ref 500), (1, .int v1), (2, .int v2), (3, .int v3)]) (st' := [.int (((rI S6 553 (4 : Int32).toNatClampNeg) + r7)), .int (4 : Int32), .ref 553]) (S1 := S8) (nL := 5) (cd := cd_2468) mx_2468 rfl rfl 1 rfl ?_
  obtain ⟨g, h⟩ := gnE h
  refine RR.gPN (c2 := (KM.1 553).1 = 1) (pc' := 77) (lc' := [(4, .int r3), (0, .ref 500), (1, .int v1), (2, .int v2), (3, .int v3)]) (st' := []) (S1 := (wI S8 553 (4 : Int32).toNatClampNeg (((rI S6 553 (4 : Int32).toNatClampNeg) + r7)))) (nL := 5) (cd := cd_2468) mx_2468 rfl rfl rfl rfl g ?_
  obtain ⟨S9, eS9, h⟩ := ltE h
  rw [← eS9]
  refine RR.runs (pc' := 79) (lc' := [(4, .int r3), (0, .ref 500), (1, .int v1), (2, .int v2), (3, .int v3)]) (st' := [.int r3]) (S1 := S9) (nL := 5) (cd := cd_2468) mx_2468 rfl rfl 1 rfl ?_
  cases h
  exact RR.reti mx_2468 rfl rfl rfl
theorem s_m_calls {d : Nat} {S' : St} {r : Int32} (v1 : Int32) (v2 : Int32) (v3 : Int32) (S : St) (h : m_calls v1 v2 v3 S = some (r, S')) : RC KM (d + 5) 2468 [.ref 500, .int v1, .int v2, .int v3] S (some (.int r)) S' := RC.of rfl (s0_m_calls v1 v2 v3 S h)
-- falls (II)I
def m_falls_30 (S : St) : Re Int32 :=
  some ((-1 : Int32), S)
set_option maxRecDepth 100000 in
theorem s_m_falls_30 {d : Nat} {S' : St} {r : Int32} (S : St) (h : m_falls_30 S = some (r, S')) : RR KM (d + 2) 2469 30 [] [] S (some (.int r)) S' := by
  unfold m_falls_30 at h
  refine RR.runs (pc' := 31) (lc' := []) (st' := [.int (-1 : Int32)]) (S1 := S) (nL := 3) (cd := cd_2469) mx_2469 rfl rfl 1 rfl ?_
  cases h
  exact RR.reti mx_2469 rfl rfl rfl
def m_falls (v1 : Int32) (v2 : Int32) (S : St) : Re Int32 :=
  lt' (wI S 500 0 (0 : Int32)) fun S1 =>
  bn (m_isPerson v1 S1) fun r2 S3 =>
  if r2 = 0 then (
    m_falls_30 S3)
  else (
    bn (m_isSound v2 S3) fun r4 S5 =>
    if r4 = 0 then (
      m_falls_30 S5)
    else (
      bn (m_isSaid v1 v2 S5) fun r6 S7 =>
      if r6 = 0 then (
        m_falls_30 S7)
      else (
        if v1 < 0 ∨ 10 ≤ v1.toNatClampNeg then none else
        if v1 < 0 ∨ 10 ≤ v1.toNatClampNeg then none else
        bn (m_hears v2 (rI S7 512 v1.toNatClampNeg) (rI S7 513 v1.toNatClampNeg) S7) fun r8 S9 =>
        if (0 : Int32) < 0 ∨ 15 ≤ (0 : Int32).toNatClampNeg then none else
        if (1 : Int32) < 0 ∨ 15 ≤ (1 : Int32).toNatClampNeg then none else
        bn (m_fallsBy ((rI S9 553 (0 : Int32).toNatClampNeg)) ((rI S9 553 (1 : Int32).toNatClampNeg)) (rI S9 500 70) (rI S9 500 71) S9) fun r10 S11 =>
        some (r10, S11))))
set_option maxRecDepth 100000 in
theorem s0_m_falls {d : Nat} {S' : St} {r : Int32} (v1 : Int32) (v2 : Int32) (S : St) (h : m_falls v1 v2 S = some (r, S')) : RR KM (d + 2) 2469 0 [(0, .ref 500), (1, .int v1), (2, .int v2)] [] S (some (.int r)) S' := by
  unfold m_falls at h
  refine RR.runs (pc' := 5) (lc' := [(0, .ref 500), (1, .int v1), (2, .int v2)]) (st' := []) (S1 := (wI S 500 0 (0 : Int32))) (nL := 3) (cd := cd_2469) mx_2469 rfl rfl 3 rfl ?_
  obtain ⟨S1, eS1, h⟩ := ltE h
  rw [← eS1]
  refine RR.runs (pc' := 7) (lc' := [(0, .ref 500), (1, .int v1), (2, .int v2)]) (st' := [.int v1, .ref 500]) (S1 := S1) (nL := 3) (cd := cd_2469) mx_2469 rfl rfl 2 rfl ?_
  obtain ⟨r2, S3, h1, h⟩ := bnE h
  refine RR.callV (b := 500) (as := [.int v1]) (rest := []) (r1 := (some (.int r2))) (S1 := S3) mx_2469 rfl rfl mx_2457 rfl rfl (by decide) (Or.inl rfl) (Nat.le_of_ble_eq_true rfl) (Nat.le_of_ble_eq_true rfl) (RC.deep (by omega) (s_m_isPerson (d := d) _ _ h1)) ?_
  show RR KM _ 2469 10 [(0, .ref 500), (1, .int v1), (2, .int v2)] [.int r2] S3 _ _
  refine RR.runs (pc' := icm .eq r2 0 30 13) (lc' := [(0, .ref 500), (1, .int v1), (2, .int v2)]) (st' := []) (S1 := S3) (nL := 3) (cd := cd_2469) mx_2469 rfl rfl 1 rfl ?_
  rcases ifE h with ⟨c, h⟩ | ⟨c, h⟩
  · refine RR.c_eq (fun _ => ?_) (fun q => absurd c q)
    refine RR.weak [] trivial ?_
    exact s_m_falls_30 _ h
  · refine RR.c_eq (fun q => absurd q c) (fun _ => ?_)
    refine RR.runs (pc' := 15) (lc' := [(0, .ref 500), (1, .int v1), (2, .int v2)]) (st' := [.int v2, .ref 500]) (S1 := S3) (nL := 3) (cd := cd_2469) mx_2469 rfl rfl 2 rfl ?_
    obtain ⟨r4, S5, h1, h⟩ := bnE h
    refine RR.callV (b := 500) (as := [.int v2]) (rest := []) (r1 := (some (.int r4))) (S1 := S5) mx_2469 rfl rfl mx_2456 rfl rfl (by decide) (Or.inl rfl) (Nat.le_of_ble_eq_true rfl) (Nat.le_of_ble_eq_true rfl) (RC.deep (by omega) (s_m_isSound (d := d) _ _ h1)) ?_
    show RR KM _ 2469 18 [(0, .ref 500), (1, .int v1), (2, .int v2)] [.int r4] S5 _ _
    refine RR.runs (pc' := icm .eq r4 0 30 21) (lc' := [(0, .ref 500), (1, .int v1), (2, .int v2)]) (st' := []) (S1 := S5) (nL := 3) (cd := cd_2469) mx_2469 rfl rfl 1 rfl ?_
    rcases ifE h with ⟨c, h⟩ | ⟨c, h⟩
    · refine RR.c_eq (fun _ => ?_) (fun q => absurd c q)
      refine RR.weak [] trivial ?_
      exact s_m_falls_30 _ h
    · refine RR.c_eq (fun q => absurd q c) (fun _ => ?_)
      refine RR.runs (pc' := 24) (lc' := [(0, .ref 500), (1, .int v1), (2, .int v2)]) (st' := [.int v2, .int v1, .ref 500]) (S1 := S5) (nL := 3) (cd := cd_2469) mx_2469 rfl rfl 3 rfl ?_
      obtain ⟨r6, S7, h1, h⟩ := bnE h
      refine RR.callV (b := 500) (as := [.int v1, .int v2]) (rest := []) (r1 := (some (.int r6))) (S1 := S7) mx_2469 rfl rfl mx_2447 rfl rfl (by decide) (Or.inl rfl) (Nat.le_of_ble_eq_true rfl) (Nat.le_of_ble_eq_true rfl) (RC.deep (by omega) (s_m_isSaid (d := d) _ _ _ h1)) ?_
      show RR KM _ 2469 27 [(0, .ref 500), (1, .int v1), (2, .int v2)] [.int r6] S7 _ _
      refine RR.runs (pc' := icm .ne r6 0 32 30) (lc' := [(0, .ref 500), (1, .int v1), (2, .int v2)]) (st' := []) (S1 := S7) (nL := 3) (cd := cd_2469) mx_2469 rfl rfl 1 rfl ?_
      rcases ifE h with ⟨c, h⟩ | ⟨c, h⟩
      · refine RR.c_ne (fun _ => ?_) (fun q => absurd c q)
        refine RR.weak [] trivial ?_
        exact s_m_falls_30 _ h
      · refine RR.c_ne (fun q => absurd q c) (fun _ => ?_)
        refine RR.runs (pc' := 39) (lc' := [(0, .ref 500), (1, .int v1), (2, .int v2)]) (st' := [.int v1, .ref 512, .int v2, .ref 500]) (S1 := S7) (nL := 3) (cd := cd_2469) mx_2469 rfl rfl 5 rfl ?_
        obtain ⟨g, h⟩ := gnE h
        refine RR.gPN (c2 := (KM.1 512).1 = 1) (pc' := 40) (lc' := [(0, .ref 500), (1, .int v1), (2, .int v2)]) (st' := [.int (rI S7 512 v1.toNatClampNeg), .int v2, .ref 500]) (S1 := S7) (nL := 3) (cd := cd_2469) mx_2469 rfl rfl rfl rfl g ?_
        refine RR.runs (pc' := 45) (lc' := [(0, .ref 500), (1, .int v1), (2, .int v2)]) (st' := [.int v1, .ref 513, .int (rI S7 512 v1.toNatClampNeg), .int v2, .ref 500]) (S1 := S7) (nL := 3) (cd := cd_2469) mx_2469 rfl rfl 3 rfl ?_
        obtain ⟨g, h⟩ := gnE h
        refine RR.gPN (c2 := (KM.1 513).1 = 1) (pc' := 46) (lc' := [(0, .ref 500), (1, .int v1), (2, .int v2)]) (st' := [.int (rI S7 513 v1.toNatClampNeg), .int (rI S7 512 v1.toNatClampNeg), .int v2, .ref 500]) (S1 := S7) (nL := 3) (cd := cd_2469) mx_2469 rfl rfl rfl rfl g ?_
        obtain ⟨r8, S9, h1, h⟩ := bnE h
        refine RR.callV (b := 500) (as := [.int v2, .int (rI S7 512 v1.toNatClampNeg), .int (rI S7 513 v1.toNatClampNeg)]) (rest := []) (r1 := none) (S1 := S9) mx_2469 rfl rfl mx_2464 rfl rfl (by decide) (Or.inl rfl) (Nat.le_of_ble_eq_true rfl) (Nat.le_of_ble_eq_true rfl) (RC.deep (by omega) (s_m_hears (d := d) _ _ _ _ h1)) ?_
        show RR KM _ 2469 49 [(0, .ref 500), (1, .int v1), (2, .int v2)] [] S9 _ _
        refine RR.runs (pc' := 55) (lc' := [(0, .ref 500), (1, .int v1), (2, .int v2)]) (st' := [.int (0 : Int32), .ref 553, .ref 500]) (S1 := S9) (nL := 3) (cd := cd_2469) mx_2469 rfl rfl 4 rfl ?_
        obtain ⟨g, h⟩ := gnE h
        refine RR.gPN (c2 := (KM.1 553).1 = 1) (pc' := 56) (lc' := [(0, .ref 500), (1, .int v1), (2, .int v2)]) (st' := [.int ((rI S9 553 (0 : Int32).toNatClampNeg)), .ref 500]) (S1 := S9) (nL := 3) (cd := cd_2469) mx_2469 rfl rfl rfl rfl g ?_
        refine RR.runs (pc' := 61) (lc' := [(0, .ref 500), (1, .int v1), (2, .int v2)]) (st' := [.int (1 : Int32), .ref 553, .int ((rI S9 553 (0 : Int32).toNatClampNeg)), .ref 500]) (S1 := S9) (nL := 3) (cd := cd_2469) mx_2469 rfl rfl 3 rfl ?_
        obtain ⟨g, h⟩ := gnE h
        refine RR.gPN (c2 := (KM.1 553).1 = 1) (pc' := 62) (lc' := [(0, .ref 500), (1, .int v1), (2, .int v2)]) (st' := [.int ((rI S9 553 (1 : Int32).toNatClampNeg)), .int ((rI S9 553 (0 : Int32).toNatClampNeg)), .ref 500]) (S1 := S9) (nL := 3) (cd := cd_2469) mx_2469 rfl rfl rfl rfl g ?_
        refine RR.runs (pc' := 70) (lc' := [(0, .ref 500), (1, .int v1), (2, .int v2)]) (st' := [.int (rI S9 500 71), .int (rI S9 500 70), .int ((rI S9 553 (1 : Int32).toNatClampNeg)), .int ((rI S9 553 (0 : Int32).toNatClampNeg)), .ref 500]) (S1 := S9) (nL := 3) (cd := cd_2469) mx_2469 rfl rfl 4 rfl ?_
        obtain ⟨r10, S11, h1, h⟩ := bnE h
        refine RR.callV (b := 500) (as := [.int ((rI S9 553 (0 : Int32).toNatClampNeg)), .int ((rI S9 553 (1 : Int32).toNatClampNeg)), .int (rI S9 500 70), .int (rI S9 500 71)]) (rest := []) (r1 := (some (.int r10))) (S1 := S11) mx_2469 rfl rfl mx_2466 rfl rfl (by decide) (Or.inl rfl) (Nat.le_of_ble_eq_true rfl) (Nat.le_of_ble_eq_true rfl) (RC.deep (by omega) (s_m_fallsBy (d := d) _ _ _ _ _ h1)) ?_
        show RR KM _ 2469 73 [(0, .ref 500), (1, .int v1), (2, .int v2)] [.int r10] S11 _ _
        cases h
        exact RR.reti mx_2469 rfl rfl rfl
theorem s_m_falls {d : Nat} {S' : St} {r : Int32} (v1 : Int32) (v2 : Int32) (S : St) (h : m_falls v1 v2 S = some (r, S')) : RC KM (d + 2) 2469 [.ref 500, .int v1, .int v2] S (some (.int r)) S' := RC.of rfl (s0_m_falls v1 v2 S h)
-- keeps ()V
def m_keeps_49 (S : St) : Re Unit :=
  bn (m_copies 553 (0 : Int32) 556 (((15 : Int32) * (rI S 500 69))) S) fun r1 S2 =>
  lt' (wI S2 500 69 (((rI S2 500 69) + (1 : Int32)))) fun S3 =>
  some ((), S3)
set_option maxRecDepth 100000 in
theorem s_m_keeps_49 {d : Nat} {S' : St} {r : Unit} (S : St) (h : m_keeps_49 S = some (r, S')) : RR KM (d + 1) 2470 49 [(0, .ref 500)] [] S none S' := by
  unfold m_keeps_49 at h
  refine RR.runs (pc' := 65) (lc' := [(0, .ref 500)]) (st' := [.int (((15 : Int32) * (rI S 500 69))), .ref 556, .int (0 : Int32), .ref 553]) (S1 := S) (nL := 2) (cd := cd_2470) mx_2470 rfl rfl 9 rfl ?_
  obtain ⟨r1, S2, h1, h⟩ := bnE h
  refine RR.callS (as := [.ref 553, .int (0 : Int32), .ref 556, .int (((15 : Int32) * (rI S 500 69)))]) (rest := []) (r1 := none) (S1 := S2) mx_2470 rfl rfl mx_2448 rfl rfl (by decide) (Nat.le_of_ble_eq_true rfl) (Nat.le_of_ble_eq_true rfl) (Nat.le_of_ble_eq_true rfl) (RC.deep (by omega) (s_m_copies (d := d) _ _ _ _ _ h1)) ?_
  show RR KM _ 2470 68 [(0, .ref 500)] [] S2 _ _
  refine RR.runs (pc' := 78) (lc' := [(0, .ref 500)]) (st' := []) (S1 := (wI S2 500 69 (((rI S2 500 69) + (1 : Int32))))) (nL := 2) (cd := cd_2470) mx_2470 rfl rfl 6 rfl ?_
  obtain ⟨S3, eS3, h⟩ := ltE h
  rw [← eS3]
  cases h
  exact RR.retv mx_2470 rfl rfl rfl
def m_keeps_39 (S : St) : Re Unit :=
  lt' (wI S 500 69 (((rI S 500 69) - (1 : Int32)))) fun S1 =>
  m_keeps_49 S1
set_option maxRecDepth 100000 in
theorem s_m_keeps_39 {d : Nat} {S' : St} {r : Unit} (S : St) (h : m_keeps_39 S = some (r, S')) : RR KM (d + 1) 2470 39 [(0, .ref 500)] [] S none S' := by
  unfold m_keeps_39 at h
  refine RR.runs (pc' := 49) (lc' := [(0, .ref 500)]) (st' := []) (S1 := (wI S 500 69 (((rI S 500 69) - (1 : Int32))))) (nL := 2) (cd := cd_2470) mx_2470 rfl rfl 6 rfl ?_
  obtain ⟨S1, eS1, h⟩ := ltE h
  rw [← eS1]
  refine RR.weak [(0, .ref 500)] ⟨rfl, trivial⟩ ?_
  exact s_m_keeps_49 _ h
def m_keeps_11 : Nat → Int32 → St → Re Unit
  | 0, _, _ => none
  | n + 1, v1, S =>
  if v1 < (225 : Int32) then (
    if (v1 + (15 : Int32)) < 0 ∨ 240 ≤ ((v1 + (15 : Int32))).toNatClampNeg then none else
    if v1 < 0 ∨ 240 ≤ v1.toNatClampNeg then none else
    lt' (wI S 556 v1.toNatClampNeg ((rI S 556 ((v1 + (15 : Int32))).toNatClampNeg))) fun S1 =>
    lt' ((v1 + (1 : Int32)) : Int32) fun x2 =>
    m_keeps_11 n x2 S1)
  else (
    m_keeps_39 S)
set_option maxRecDepth 100000 in
theorem s_m_keeps_11 {d : Nat} {S' : St} {r : Unit} : ∀ (n : Nat) (v1 : Int32) (S : St), m_keeps_11 n v1 S = some (r, S') → RR KM (d + 1) 2470 11 [(0, .ref 500), (1, .int v1)] [] S none S' := by
  intro n
  induction n with
  | zero => intro v1 S h; simp only [m_keeps_11] at h; cases h
  | succ n ih =>
    intro v1 S h
    simp only [m_keeps_11] at h
    refine RR.runs (pc' := icm .ge v1 (225 : Int32) 39 18) (lc' := [(0, .ref 500), (1, .int v1)]) (st' := []) (S1 := S) (nL := 2) (cd := cd_2470) mx_2470 rfl rfl 3 rfl ?_
    rcases ifE h with ⟨c, h⟩ | ⟨c, h⟩
    · refine RR.c_ge (fun _ => ?_) (fun q => absurd c q)
      refine RR.runs (pc' := 31) (lc' := [(0, .ref 500), (1, .int v1)]) (st' := [.int ((v1 + (15 : Int32))), .ref 556, .int v1, .ref 556]) (S1 := S) (nL := 2) (cd := cd_2470) mx_2470 rfl rfl 8 rfl ?_
      obtain ⟨g, h⟩ := gnE h
      refine RR.gPN (c2 := (KM.1 556).1 = 1) (pc' := 32) (lc' := [(0, .ref 500), (1, .int v1)]) (st' := [.int ((rI S 556 ((v1 + (15 : Int32))).toNatClampNeg)), .int v1, .ref 556]) (S1 := S) (nL := 2) (cd := cd_2470) mx_2470 rfl rfl rfl rfl g ?_
      obtain ⟨g, h⟩ := gnE h
      refine RR.gPN (c2 := (KM.1 556).1 = 1) (pc' := 33) (lc' := [(0, .ref 500), (1, .int v1)]) (st' := []) (S1 := (wI S 556 v1.toNatClampNeg ((rI S 556 ((v1 + (15 : Int32))).toNatClampNeg)))) (nL := 2) (cd := cd_2470) mx_2470 rfl rfl rfl rfl g ?_
      obtain ⟨S1, eS1, h⟩ := ltE h
      rw [← eS1]
      refine RR.runs (pc' := 36) (lc' := [(1, .int ((v1 + (1 : Int32)))), (0, .ref 500)]) (st' := []) (S1 := S1) (nL := 2) (cd := cd_2470) mx_2470 rfl rfl 1 rfl ?_
      obtain ⟨x2, ex2, h⟩ := ltE h
      rw [← ex2]
      refine RR.runs (pc' := 11) (lc' := [(1, .int x2), (0, .ref 500)]) (st' := []) (S1 := S1) (nL := 2) (cd := cd_2470) mx_2470 rfl rfl 1 rfl ?_
      refine RR.weak [(0, .ref 500), (1, .int x2)] ⟨rfl, rfl, trivial⟩ ?_
      exact ih _ _ h
    · refine RR.c_ge (fun q => absurd q c) (fun _ => ?_)
      refine RR.weak [(0, .ref 500)] ⟨rfl, trivial⟩ ?_
      exact s_m_keeps_39 _ h
def m_keeps (S : St) : Re Unit :=
  if (rI S 500 69) = (16 : Int32) then (
    m_keeps_11 FU (0 : Int32) S)
  else (
    m_keeps_49 S)
set_option maxRecDepth 100000 in
theorem s0_m_keeps {d : Nat} {S' : St} {r : Unit} (S : St) (h : m_keeps S = some (r, S')) : RR KM (d + 1) 2470 0 [(0, .ref 500)] [] S none S' := by
  unfold m_keeps at h
  refine RR.runs (pc' := icm .ne (rI S 500 69) (16 : Int32) 49 9) (lc' := [(0, .ref 500)]) (st' := []) (S1 := S) (nL := 2) (cd := cd_2470) mx_2470 rfl rfl 4 rfl ?_
  rcases ifE h with ⟨c, h⟩ | ⟨c, h⟩
  · refine RR.c_ne (fun _ => ?_) (fun q => absurd c q)
    refine RR.runs (pc' := 11) (lc' := [(1, .int (0 : Int32)), (0, .ref 500)]) (st' := []) (S1 := S) (nL := 2) (cd := cd_2470) mx_2470 rfl rfl 2 rfl ?_
    refine RR.weak [(0, .ref 500), (1, .int (0 : Int32))] ⟨rfl, rfl, trivial⟩ ?_
    exact s_m_keeps_11 _ _ _ h
  · refine RR.c_ne (fun q => absurd q c) (fun _ => ?_)
    refine RR.weak [(0, .ref 500)] ⟨rfl, trivial⟩ ?_
    exact s_m_keeps_49 _ h
theorem s_m_keeps {d : Nat} {S' : St} {r : Unit} (S : St) (h : m_keeps S = some (r, S')) : RC KM (d + 1) 2470 [.ref 500] S none S' := RC.of rfl (s0_m_keeps S h)
-- call (II)I
def m_call_30 (S : St) : Re Int32 :=
  some ((-1 : Int32), S)
set_option maxRecDepth 100000 in
theorem s_m_call_30 {d : Nat} {S' : St} {r : Int32} (S : St) (h : m_call_30 S = some (r, S')) : RR KM (d + 6) 2471 30 [] [] S (some (.int r)) S' := by
  unfold m_call_30 at h
  refine RR.runs (pc' := 31) (lc' := []) (st' := [.int (-1 : Int32)]) (S1 := S) (nL := 3) (cd := cd_2471) mx_2471 rfl rfl 1 rfl ?_
  cases h
  exact RR.reti mx_2471 rfl rfl rfl
def m_call (v1 : Int32) (v2 : Int32) (S : St) : Re Int32 :=
  lt' (wI S 500 0 (0 : Int32)) fun S1 =>
  bn (m_isPerson v1 S1) fun r2 S3 =>
  if r2 = 0 then (
    m_call_30 S3)
  else (
    bn (m_isSound v2 S3) fun r4 S5 =>
    if r4 = 0 then (
      m_call_30 S5)
    else (
      bn (m_isSaid v1 v2 S5) fun r6 S7 =>
      if r6 = 0 then (
        m_call_30 S7)
      else (
        bn (m_keeps S7) fun r8 S9 =>
        if v1 < 0 ∨ 10 ≤ v1.toNatClampNeg then none else
        if v1 < 0 ∨ 10 ≤ v1.toNatClampNeg then none else
        bn (m_calls v2 (rI S9 512 v1.toNatClampNeg) (rI S9 513 v1.toNatClampNeg) S9) fun r10 S11 =>
        some (r10, S11))))
set_option maxRecDepth 100000 in
theorem s0_m_call {d : Nat} {S' : St} {r : Int32} (v1 : Int32) (v2 : Int32) (S : St) (h : m_call v1 v2 S = some (r, S')) : RR KM (d + 6) 2471 0 [(0, .ref 500), (1, .int v1), (2, .int v2)] [] S (some (.int r)) S' := by
  unfold m_call at h
  refine RR.runs (pc' := 5) (lc' := [(0, .ref 500), (1, .int v1), (2, .int v2)]) (st' := []) (S1 := (wI S 500 0 (0 : Int32))) (nL := 3) (cd := cd_2471) mx_2471 rfl rfl 3 rfl ?_
  obtain ⟨S1, eS1, h⟩ := ltE h
  rw [← eS1]
  refine RR.runs (pc' := 7) (lc' := [(0, .ref 500), (1, .int v1), (2, .int v2)]) (st' := [.int v1, .ref 500]) (S1 := S1) (nL := 3) (cd := cd_2471) mx_2471 rfl rfl 2 rfl ?_
  obtain ⟨r2, S3, h1, h⟩ := bnE h
  refine RR.callV (b := 500) (as := [.int v1]) (rest := []) (r1 := (some (.int r2))) (S1 := S3) mx_2471 rfl rfl mx_2457 rfl rfl (by decide) (Or.inl rfl) (Nat.le_of_ble_eq_true rfl) (Nat.le_of_ble_eq_true rfl) (RC.deep (by omega) (s_m_isPerson (d := d) _ _ h1)) ?_
  show RR KM _ 2471 10 [(0, .ref 500), (1, .int v1), (2, .int v2)] [.int r2] S3 _ _
  refine RR.runs (pc' := icm .eq r2 0 30 13) (lc' := [(0, .ref 500), (1, .int v1), (2, .int v2)]) (st' := []) (S1 := S3) (nL := 3) (cd := cd_2471) mx_2471 rfl rfl 1 rfl ?_
  rcases ifE h with ⟨c, h⟩ | ⟨c, h⟩
  · refine RR.c_eq (fun _ => ?_) (fun q => absurd c q)
    refine RR.weak [] trivial ?_
    exact s_m_call_30 _ h
  · refine RR.c_eq (fun q => absurd q c) (fun _ => ?_)
    refine RR.runs (pc' := 15) (lc' := [(0, .ref 500), (1, .int v1), (2, .int v2)]) (st' := [.int v2, .ref 500]) (S1 := S3) (nL := 3) (cd := cd_2471) mx_2471 rfl rfl 2 rfl ?_
    obtain ⟨r4, S5, h1, h⟩ := bnE h
    refine RR.callV (b := 500) (as := [.int v2]) (rest := []) (r1 := (some (.int r4))) (S1 := S5) mx_2471 rfl rfl mx_2456 rfl rfl (by decide) (Or.inl rfl) (Nat.le_of_ble_eq_true rfl) (Nat.le_of_ble_eq_true rfl) (RC.deep (by omega) (s_m_isSound (d := d) _ _ h1)) ?_
    show RR KM _ 2471 18 [(0, .ref 500), (1, .int v1), (2, .int v2)] [.int r4] S5 _ _
    refine RR.runs (pc' := icm .eq r4 0 30 21) (lc' := [(0, .ref 500), (1, .int v1), (2, .int v2)]) (st' := []) (S1 := S5) (nL := 3) (cd := cd_2471) mx_2471 rfl rfl 1 rfl ?_
    rcases ifE h with ⟨c, h⟩ | ⟨c, h⟩
    · refine RR.c_eq (fun _ => ?_) (fun q => absurd c q)
      refine RR.weak [] trivial ?_
      exact s_m_call_30 _ h
    · refine RR.c_eq (fun q => absurd q c) (fun _ => ?_)
      refine RR.runs (pc' := 24) (lc' := [(0, .ref 500), (1, .int v1), (2, .int v2)]) (st' := [.int v2, .int v1, .ref 500]) (S1 := S5) (nL := 3) (cd := cd_2471) mx_2471 rfl rfl 3 rfl ?_
      obtain ⟨r6, S7, h1, h⟩ := bnE h
      refine RR.callV (b := 500) (as := [.int v1, .int v2]) (rest := []) (r1 := (some (.int r6))) (S1 := S7) mx_2471 rfl rfl mx_2447 rfl rfl (by decide) (Or.inl rfl) (Nat.le_of_ble_eq_true rfl) (Nat.le_of_ble_eq_true rfl) (RC.deep (by omega) (s_m_isSaid (d := d) _ _ _ h1)) ?_
      show RR KM _ 2471 27 [(0, .ref 500), (1, .int v1), (2, .int v2)] [.int r6] S7 _ _
      refine RR.runs (pc' := icm .ne r6 0 32 30) (lc' := [(0, .ref 500), (1, .int v1), (2, .int v2)]) (st' := []) (S1 := S7) (nL := 3) (cd := cd_2471) mx_2471 rfl rfl 1 rfl ?_
      rcases ifE h with ⟨c, h⟩ | ⟨c, h⟩
      · refine RR.c_ne (fun _ => ?_) (fun q => absurd c q)
        refine RR.weak [] trivial ?_
        exact s_m_call_30 _ h
      · refine RR.c_ne (fun q => absurd q c) (fun _ => ?_)
        refine RR.runs (pc' := 33) (lc' := [(0, .ref 500), (1, .int v1), (2, .int v2)]) (st' := [.ref 500]) (S1 := S7) (nL := 3) (cd := cd_2471) mx_2471 rfl rfl 1 rfl ?_
        obtain ⟨r8, S9, h1, h⟩ := bnE h
        refine RR.callV (b := 500) (as := []) (rest := []) (r1 := none) (S1 := S9) mx_2471 rfl rfl mx_2470 rfl rfl (by decide) (Or.inl rfl) (Nat.le_of_ble_eq_true rfl) (Nat.le_of_ble_eq_true rfl) (RC.deep (by omega) (s_m_keeps (d := d) _ h1)) ?_
        show RR KM _ 2471 36 [(0, .ref 500), (1, .int v1), (2, .int v2)] [] S9 _ _
        refine RR.runs (pc' := 43) (lc' := [(0, .ref 500), (1, .int v1), (2, .int v2)]) (st' := [.int v1, .ref 512, .int v2, .ref 500]) (S1 := S9) (nL := 3) (cd := cd_2471) mx_2471 rfl rfl 5 rfl ?_
        obtain ⟨g, h⟩ := gnE h
        refine RR.gPN (c2 := (KM.1 512).1 = 1) (pc' := 44) (lc' := [(0, .ref 500), (1, .int v1), (2, .int v2)]) (st' := [.int (rI S9 512 v1.toNatClampNeg), .int v2, .ref 500]) (S1 := S9) (nL := 3) (cd := cd_2471) mx_2471 rfl rfl rfl rfl g ?_
        refine RR.runs (pc' := 49) (lc' := [(0, .ref 500), (1, .int v1), (2, .int v2)]) (st' := [.int v1, .ref 513, .int (rI S9 512 v1.toNatClampNeg), .int v2, .ref 500]) (S1 := S9) (nL := 3) (cd := cd_2471) mx_2471 rfl rfl 3 rfl ?_
        obtain ⟨g, h⟩ := gnE h
        refine RR.gPN (c2 := (KM.1 513).1 = 1) (pc' := 50) (lc' := [(0, .ref 500), (1, .int v1), (2, .int v2)]) (st' := [.int (rI S9 513 v1.toNatClampNeg), .int (rI S9 512 v1.toNatClampNeg), .int v2, .ref 500]) (S1 := S9) (nL := 3) (cd := cd_2471) mx_2471 rfl rfl rfl rfl g ?_
        obtain ⟨r10, S11, h1, h⟩ := bnE h
        refine RR.callV (b := 500) (as := [.int v2, .int (rI S9 512 v1.toNatClampNeg), .int (rI S9 513 v1.toNatClampNeg)]) (rest := []) (r1 := (some (.int r10))) (S1 := S11) mx_2471 rfl rfl mx_2468 rfl rfl (by decide) (Or.inl rfl) (Nat.le_of_ble_eq_true rfl) (Nat.le_of_ble_eq_true rfl) (RC.deep (by omega) (s_m_calls (d := d) _ _ _ _ h1)) ?_
        show RR KM _ 2471 53 [(0, .ref 500), (1, .int v1), (2, .int v2)] [.int r10] S11 _ _
        cases h
        exact RR.reti mx_2471 rfl rfl rfl
theorem s_m_call {d : Nat} {S' : St} {r : Int32} (v1 : Int32) (v2 : Int32) (S : St) (h : m_call v1 v2 S = some (r, S')) : RC KM (d + 6) 2471 [.ref 500, .int v1, .int v2] S (some (.int r)) S' := RC.of rfl (s0_m_call v1 v2 S h)
-- canPick (I)Z
def m_canPick_22 (p0 : Int32) (S : St) : Re Int32 :=
  if isBo p0 = true then some (p0, S) else none
set_option maxRecDepth 100000 in
theorem s_m_canPick_22 {d : Nat} {S' : St} {r : Int32} (p0 : Int32) (S : St) (h : m_canPick_22 p0 S = some (r, S')) : RR KM (d + 1) 2472 22 [] [.int p0] S (some (.int r)) S' := by
  unfold m_canPick_22 at h
  obtain ⟨g, h⟩ := gpE h
  cases h
  exact RR.retz mx_2472 rfl rfl rfl g
def m_canPick_21 (S : St) : Re Int32 :=
  m_canPick_22 (0 : Int32) S
set_option maxRecDepth 100000 in
theorem s_m_canPick_21 {d : Nat} {S' : St} {r : Int32} (S : St) (h : m_canPick_21 S = some (r, S')) : RR KM (d + 1) 2472 21 [] [] S (some (.int r)) S' := by
  unfold m_canPick_21 at h
  refine RR.runs (pc' := 22) (lc' := []) (st' := [.int (0 : Int32)]) (S1 := S) (nL := 2) (cd := cd_2472) mx_2472 rfl rfl 1 rfl ?_
  refine RR.weak [] trivial ?_
  exact s_m_canPick_22 _ _ h
def m_canPick (v1 : Int32) (S : St) : Re Int32 :=
  bn (m_hangs v1 S) fun r1 S2 =>
  if r1 = 0 then (
    m_canPick_21 S2)
  else (
    if (3 : Int32) < 0 ∨ 15 ≤ (3 : Int32).toNatClampNeg then none else
    if (rI S2 553 (3 : Int32).toNatClampNeg) = 0 then (
      m_canPick_22 (1 : Int32) S2)
    else (
      m_canPick_21 S2))
set_option maxRecDepth 100000 in
theorem s0_m_canPick {d : Nat} {S' : St} {r : Int32} (v1 : Int32) (S : St) (h : m_canPick v1 S = some (r, S')) : RR KM (d + 1) 2472 0 [(0, .ref 500), (1, .int v1)] [] S (some (.int r)) S' := by
  unfold m_canPick at h
  refine RR.runs (pc' := 2) (lc' := [(0, .ref 500), (1, .int v1)]) (st' := [.int v1, .ref 500]) (S1 := S) (nL := 2) (cd := cd_2472) mx_2472 rfl rfl 2 rfl ?_
  obtain ⟨r1, S2, h1, h⟩ := bnE h
  refine RR.callV (b := 500) (as := [.int v1]) (rest := []) (r1 := (some (.int r1))) (S1 := S2) mx_2472 rfl rfl mx_2458 rfl rfl (by decide) (Or.inl rfl) (Nat.le_of_ble_eq_true rfl) (Nat.le_of_ble_eq_true rfl) (RC.deep (by omega) (s_m_hangs (d := d) _ _ h1)) ?_
  show RR KM _ 2472 5 [(0, .ref 500), (1, .int v1)] [.int r1] S2 _ _
  refine RR.runs (pc' := icm .eq r1 0 21 8) (lc' := [(0, .ref 500), (1, .int v1)]) (st' := []) (S1 := S2) (nL := 2) (cd := cd_2472) mx_2472 rfl rfl 1 rfl ?_
  rcases ifE h with ⟨c, h⟩ | ⟨c, h⟩
  · refine RR.c_eq (fun _ => ?_) (fun q => absurd c q)
    refine RR.weak [] trivial ?_
    exact s_m_canPick_21 _ h
  · refine RR.c_eq (fun q => absurd q c) (fun _ => ?_)
    refine RR.runs (pc' := 13) (lc' := [(0, .ref 500), (1, .int v1)]) (st' := [.int (3 : Int32), .ref 553]) (S1 := S2) (nL := 2) (cd := cd_2472) mx_2472 rfl rfl 3 rfl ?_
    obtain ⟨g, h⟩ := gnE h
    refine RR.gPN (c2 := (KM.1 553).1 = 1) (pc' := 14) (lc' := [(0, .ref 500), (1, .int v1)]) (st' := [.int ((rI S2 553 (3 : Int32).toNatClampNeg))]) (S1 := S2) (nL := 2) (cd := cd_2472) mx_2472 rfl rfl rfl rfl g ?_
    refine RR.runs (pc' := icm .ne ((rI S2 553 (3 : Int32).toNatClampNeg)) 0 21 17) (lc' := [(0, .ref 500), (1, .int v1)]) (st' := []) (S1 := S2) (nL := 2) (cd := cd_2472) mx_2472 rfl rfl 1 rfl ?_
    rcases ifE h with ⟨c, h⟩ | ⟨c, h⟩
    · refine RR.c_ne (fun _ => ?_) (fun q => absurd c q)
      refine RR.runs (pc' := 22) (lc' := [(0, .ref 500), (1, .int v1)]) (st' := [.int (1 : Int32)]) (S1 := S2) (nL := 2) (cd := cd_2472) mx_2472 rfl rfl 2 rfl ?_
      refine RR.weak [] trivial ?_
      exact s_m_canPick_22 _ _ h
    · refine RR.c_ne (fun q => absurd q c) (fun _ => ?_)
      refine RR.weak [] trivial ?_
      exact s_m_canPick_21 _ h
theorem s_m_canPick {d : Nat} {S' : St} {r : Int32} (v1 : Int32) (S : St) (h : m_canPick v1 S = some (r, S')) : RC KM (d + 1) 2472 [.ref 500, .int v1] S (some (.int r)) S' := RC.of rfl (s0_m_canPick v1 S h)
-- picks (I)I
def m_picks (v1 : Int32) (S : St) : Re Int32 :=
  if (2 : Int32) < 0 ∨ 15 ≤ (2 : Int32).toNatClampNeg then none else
  bn (m_valueOn v1 ((rI S 553 (2 : Int32).toNatClampNeg)) S) fun r1 S2 =>
  if (0 : Int32) < 0 ∨ 15 ≤ (0 : Int32).toNatClampNeg then none else
  if (0 : Int32) < 0 ∨ 15 ≤ (0 : Int32).toNatClampNeg then none else
  lt' (wI S2 553 (0 : Int32).toNatClampNeg (((rI S2 553 (0 : Int32).toNatClampNeg) &&& (((1 : Int32) <<< (v1 &&& 31)) ^^^ (-1 : Int32))))) fun S3 =>
  if (1 : Int32) < 0 ∨ 15 ≤ (1 : Int32).toNatClampNeg then none else
  if (1 : Int32) < 0 ∨ 15 ≤ (1 : Int32).toNatClampNeg then none else
  lt' (wI S3 553 (1 : Int32).toNatClampNeg (((rI S3 553 (1 : Int32).toNatClampNeg) &&& (((1 : Int32) <<< (v1 &&& 31)) ^^^ (-1 : Int32))))) fun S4 =>
  if (3 : Int32) < 0 ∨ 15 ≤ (3 : Int32).toNatClampNeg then none else
  lt' (wI S4 553 (3 : Int32).toNatClampNeg (1 : Int32)) fun S5 =>
  if (4 : Int32) < 0 ∨ 15 ≤ (4 : Int32).toNatClampNeg then none else
  if (4 : Int32) < 0 ∨ 15 ≤ (4 : Int32).toNatClampNeg then none else
  lt' (wI S5 553 (4 : Int32).toNatClampNeg (((rI S5 553 (4 : Int32).toNatClampNeg) + r1))) fun S6 =>
  some (r1, S6)
set_option maxRecDepth 100000 in
theorem s0_m_picks {d : Nat} {S' : St} {r : Int32} (v1 : Int32) (S : St) (h : m_picks v1 S = some (r, S')) : RR KM (d + 4) 2473 0 [(0, .ref 500), (1, .int v1)] [] S (some (.int r)) S' := by
  unfold m_picks at h
  refine RR.runs (pc' := 7) (lc' := [(0, .ref 500), (1, .int v1)]) (st' := [.int (2 : Int32), .ref 553, .int v1, .ref 500]) (S1 := S) (nL := 3) (cd := cd_2473) mx_2473 rfl rfl 5 rfl ?_
  obtain ⟨g, h⟩ := gnE h
  refine RR.gPN (c2 := (KM.1 553).1 = 1) (pc' := 8) (lc' := [(0, .ref 500), (1, .int v1)]) (st' := [.int ((rI S 553 (2 : Int32).toNatClampNeg)), .int v1, .ref 500]) (S1 := S) (nL := 3) (cd := cd_2473) mx_2473 rfl rfl rfl rfl g ?_
  obtain ⟨r1, S2, h1, h⟩ := bnE h
  refine RR.callV (b := 500) (as := [.int v1, .int ((rI S 553 (2 : Int32).toNatClampNeg))]) (rest := []) (r1 := (some (.int r1))) (S1 := S2) mx_2473 rfl rfl mx_2459 rfl rfl (by decide) (Or.inl rfl) (Nat.le_of_ble_eq_true rfl) (Nat.le_of_ble_eq_true rfl) (RC.deep (by omega) (s_m_valueOn (d := d) _ _ _ h1)) ?_
  show RR KM _ 2473 11 [(0, .ref 500), (1, .int v1)] [.int r1] S2 _ _
  refine RR.runs (pc' := 18) (lc' := [(2, .int r1), (0, .ref 500), (1, .int v1)]) (st' := [.int (0 : Int32), .ref 553, .int (0 : Int32), .ref 553]) (S1 := S2) (nL := 3) (cd := cd_2473) mx_2473 rfl rfl 5 rfl ?_
  obtain ⟨g, h⟩ := gnE h
  refine RR.gPN (c2 := (KM.1 553).1 = 1) (pc' := 19) (lc' := [(2, .int r1), (0, .ref 500), (1, .int v1)]) (st' := [.int ((rI S2 553 (0 : Int32).toNatClampNeg)), .int (0 : Int32), .ref 553]) (S1 := S2) (nL := 3) (cd := cd_2473) mx_2473 rfl rfl rfl rfl g ?_
  refine RR.runs (pc' := 25) (lc' := [(2, .int r1), (0, .ref 500), (1, .int v1)]) (st' := [.int (((rI S2 553 (0 : Int32).toNatClampNeg) &&& (((1 : Int32) <<< (v1 &&& 31)) ^^^ (-1 : Int32)))), .int (0 : Int32), .ref 553]) (S1 := S2) (nL := 3) (cd := cd_2473) mx_2473 rfl rfl 6 rfl ?_
  obtain ⟨g, h⟩ := gnE h
  refine RR.gPN (c2 := (KM.1 553).1 = 1) (pc' := 26) (lc' := [(2, .int r1), (0, .ref 500), (1, .int v1)]) (st' := []) (S1 := (wI S2 553 (0 : Int32).toNatClampNeg (((rI S2 553 (0 : Int32).toNatClampNeg) &&& (((1 : Int32) <<< (v1 &&& 31)) ^^^ (-1 : Int32)))))) (nL := 3) (cd := cd_2473) mx_2473 rfl rfl rfl rfl g ?_
  obtain ⟨S3, eS3, h⟩ := ltE h
  rw [← eS3]
  refine RR.runs (pc' := 32) (lc' := [(2, .int r1), (0, .ref 500), (1, .int v1)]) (st' := [.int (1 : Int32), .ref 553, .int (1 : Int32), .ref 553]) (S1 := S3) (nL := 3) (cd := cd_2473) mx_2473 rfl rfl 4 rfl ?_
  obtain ⟨g, h⟩ := gnE h
  refine RR.gPN (c2 := (KM.1 553).1 = 1) (pc' := 33) (lc' := [(2, .int r1), (0, .ref 500), (1, .int v1)]) (st' := [.int ((rI S3 553 (1 : Int32).toNatClampNeg)), .int (1 : Int32), .ref 553]) (S1 := S3) (nL := 3) (cd := cd_2473) mx_2473 rfl rfl rfl rfl g ?_
  refine RR.runs (pc' := 39) (lc' := [(2, .int r1), (0, .ref 500), (1, .int v1)]) (st' := [.int (((rI S3 553 (1 : Int32).toNatClampNeg) &&& (((1 : Int32) <<< (v1 &&& 31)) ^^^ (-1 : Int32)))), .int (1 : Int32), .ref 553]) (S1 := S3) (nL := 3) (cd := cd_2473) mx_2473 rfl rfl 6 rfl ?_
  obtain ⟨g, h⟩ := gnE h
  refine RR.gPN (c2 := (KM.1 553).1 = 1) (pc' := 40) (lc' := [(2, .int r1), (0, .ref 500), (1, .int v1)]) (st' := []) (S1 := (wI S3 553 (1 : Int32).toNatClampNeg (((rI S3 553 (1 : Int32).toNatClampNeg) &&& (((1 : Int32) <<< (v1 &&& 31)) ^^^ (-1 : Int32)))))) (nL := 3) (cd := cd_2473) mx_2473 rfl rfl rfl rfl g ?_
  obtain ⟨S4, eS4, h⟩ := ltE h
  rw [← eS4]
  refine RR.runs (pc' := 46) (lc' := [(2, .int r1), (0, .ref 500), (1, .int v1)]) (st' := [.int (1 : Int32), .int (3 : Int32), .ref 553]) (S1 := S4) (nL := 3) (cd := cd_2473) mx_2473 rfl rfl 4 rfl ?_
  obtain ⟨g, h⟩ := gnE h
  refine RR.gPN (c2 := (KM.1 553).1 = 1) (pc' := 47) (lc' := [(2, .int r1), (0, .ref 500), (1, .int v1)]) (st' := []) (S1 := (wI S4 553 (3 : Int32).toNatClampNeg (1 : Int32))) (nL := 3) (cd := cd_2473) mx_2473 rfl rfl rfl rfl g ?_
  obtain ⟨S5, eS5, h⟩ := ltE h
  rw [← eS5]
  refine RR.runs (pc' := 53) (lc' := [(2, .int r1), (0, .ref 500), (1, .int v1)]) (st' := [.int (4 : Int32), .ref 553, .int (4 : Int32), .ref 553]) (S1 := S5) (nL := 3) (cd := cd_2473) mx_2473 rfl rfl 4 rfl ?_
  obtain ⟨g, h⟩ := gnE h
  refine RR.gPN (c2 := (KM.1 553).1 = 1) (pc' := 54) (lc' := [(2, .int r1), (0, .ref 500), (1, .int v1)]) (st' := [.int ((rI S5 553 (4 : Int32).toNatClampNeg)), .int (4 : Int32), .ref 553]) (S1 := S5) (nL := 3) (cd := cd_2473) mx_2473 rfl rfl rfl rfl g ?_
  refine RR.runs (pc' := 56) (lc' := [(2, .int r1), (0, .ref 500), (1, .int v1)]) (st' := [.int (((rI S5 553 (4 : Int32).toNatClampNeg) + r1)), .int (4 : Int32), .ref 553]) (S1 := S5) (nL := 3) (cd := cd_2473) mx_2473 rfl rfl 2 rfl ?_
  obtain ⟨g, h⟩ := gnE h
  refine RR.gPN (c2 := (KM.1 553).1 = 1) (pc' := 57) (lc' := [(2, .int r1), (0, .ref 500), (1, .int v1)]) (st' := []) (S1 := (wI S5 553 (4 : Int32).toNatClampNeg (((rI S5 553 (4 : Int32).toNatClampNeg) + r1)))) (nL := 3) (cd := cd_2473) mx_2473 rfl rfl rfl rfl g ?_
  obtain ⟨S6, eS6, h⟩ := ltE h
  rw [← eS6]
  refine RR.runs (pc' := 58) (lc' := [(2, .int r1), (0, .ref 500), (1, .int v1)]) (st' := [.int r1]) (S1 := S6) (nL := 3) (cd := cd_2473) mx_2473 rfl rfl 1 rfl ?_
  cases h
  exact RR.reti mx_2473 rfl rfl rfl
theorem s_m_picks {d : Nat} {S' : St} {r : Int32} (v1 : Int32) (S : St) (h : m_picks v1 S = some (r, S')) : RC KM (d + 4) 2473 [.ref 500, .int v1] S (some (.int r)) S' := RC.of rfl (s0_m_picks v1 S h)
-- pick (I)I
def m_pick_21 (S : St) : Re Int32 :=
  some ((-1 : Int32), S)
set_option maxRecDepth 100000 in
theorem s_m_pick_21 {d : Nat} {S' : St} {r : Int32} (S : St) (h : m_pick_21 S = some (r, S')) : RR KM (d + 5) 2474 21 [] [] S (some (.int r)) S' := by
  unfold m_pick_21 at h
  refine RR.runs (pc' := 22) (lc' := []) (st' := [.int (-1 : Int32)]) (S1 := S) (nL := 2) (cd := cd_2474) mx_2474 rfl rfl 1 rfl ?_
  cases h
  exact RR.reti mx_2474 rfl rfl rfl
def m_pick (v1 : Int32) (S : St) : Re Int32 :=
  lt' (wI S 500 0 (0 : Int32)) fun S1 =>
  bn (m_isApple v1 S1) fun r2 S3 =>
  if r2 = 0 then (
    m_pick_21 S3)
  else (
    bn (m_canPick v1 S3) fun r4 S5 =>
    if r4 = 0 then (
      m_pick_21 S5)
    else (
      bn (m_keeps S5) fun r6 S7 =>
      bn (m_picks v1 S7) fun r8 S9 =>
      some (r8, S9)))
set_option maxRecDepth 100000 in
theorem s0_m_pick {d : Nat} {S' : St} {r : Int32} (v1 : Int32) (S : St) (h : m_pick v1 S = some (r, S')) : RR KM (d + 5) 2474 0 [(0, .ref 500), (1, .int v1)] [] S (some (.int r)) S' := by
  unfold m_pick at h
  refine RR.runs (pc' := 5) (lc' := [(0, .ref 500), (1, .int v1)]) (st' := []) (S1 := (wI S 500 0 (0 : Int32))) (nL := 2) (cd := cd_2474) mx_2474 rfl rfl 3 rfl ?_
  obtain ⟨S1, eS1, h⟩ := ltE h
  rw [← eS1]
  refine RR.runs (pc' := 7) (lc' := [(0, .ref 500), (1, .int v1)]) (st' := [.int v1, .ref 500]) (S1 := S1) (nL := 2) (cd := cd_2474) mx_2474 rfl rfl 2 rfl ?_
  obtain ⟨r2, S3, h1, h⟩ := bnE h
  refine RR.callV (b := 500) (as := [.int v1]) (rest := []) (r1 := (some (.int r2))) (S1 := S3) mx_2474 rfl rfl mx_2455 rfl rfl (by decide) (Or.inl rfl) (Nat.le_of_ble_eq_true rfl) (Nat.le_of_ble_eq_true rfl) (RC.deep (by omega) (s_m_isApple (d := d) _ _ h1)) ?_
  show RR KM _ 2474 10 [(0, .ref 500), (1, .int v1)] [.int r2] S3 _ _
  refine RR.runs (pc' := icm .eq r2 0 21 13) (lc' := [(0, .ref 500), (1, .int v1)]) (st' := []) (S1 := S3) (nL := 2) (cd := cd_2474) mx_2474 rfl rfl 1 rfl ?_
  rcases ifE h with ⟨c, h⟩ | ⟨c, h⟩
  · refine RR.c_eq (fun _ => ?_) (fun q => absurd c q)
    refine RR.weak [] trivial ?_
    exact s_m_pick_21 _ h
  · refine RR.c_eq (fun q => absurd q c) (fun _ => ?_)
    refine RR.runs (pc' := 15) (lc' := [(0, .ref 500), (1, .int v1)]) (st' := [.int v1, .ref 500]) (S1 := S3) (nL := 2) (cd := cd_2474) mx_2474 rfl rfl 2 rfl ?_
    obtain ⟨r4, S5, h1, h⟩ := bnE h
    refine RR.callV (b := 500) (as := [.int v1]) (rest := []) (r1 := (some (.int r4))) (S1 := S5) mx_2474 rfl rfl mx_2472 rfl rfl (by decide) (Or.inl rfl) (Nat.le_of_ble_eq_true rfl) (Nat.le_of_ble_eq_true rfl) (RC.deep (by omega) (s_m_canPick (d := d) _ _ h1)) ?_
    show RR KM _ 2474 18 [(0, .ref 500), (1, .int v1)] [.int r4] S5 _ _
    refine RR.runs (pc' := icm .ne r4 0 23 21) (lc' := [(0, .ref 500), (1, .int v1)]) (st' := []) (S1 := S5) (nL := 2) (cd := cd_2474) mx_2474 rfl rfl 1 rfl ?_
    rcases ifE h with ⟨c, h⟩ | ⟨c, h⟩
    · refine RR.c_ne (fun _ => ?_) (fun q => absurd c q)
      refine RR.weak [] trivial ?_
      exact s_m_pick_21 _ h
    · refine RR.c_ne (fun q => absurd q c) (fun _ => ?_)
      refine RR.runs (pc' := 24) (lc' := [(0, .ref 500), (1, .int v1)]) (st' := [.ref 500]) (S1 := S5) (nL := 2) (cd := cd_2474) mx_2474 rfl rfl 1 rfl ?_
      obtain ⟨r6, S7, h1, h⟩ := bnE h
      refine RR.callV (b := 500) (as := []) (rest := []) (r1 := none) (S1 := S7) mx_2474 rfl rfl mx_2470 rfl rfl (by decide) (Or.inl rfl) (Nat.le_of_ble_eq_true rfl) (Nat.le_of_ble_eq_true rfl) (RC.deep (by omega) (s_m_keeps (d := d) _ h1)) ?_
      show RR KM _ 2474 27 [(0, .ref 500), (1, .int v1)] [] S7 _ _
      refine RR.runs (pc' := 29) (lc' := [(0, .ref 500), (1, .int v1)]) (st' := [.int v1, .ref 500]) (S1 := S7) (nL := 2) (cd := cd_2474) mx_2474 rfl rfl 2 rfl ?_
      obtain ⟨r8, S9, h1, h⟩ := bnE h
      refine RR.callV (b := 500) (as := [.int v1]) (rest := []) (r1 := (some (.int r8))) (S1 := S9) mx_2474 rfl rfl mx_2473 rfl rfl (by decide) (Or.inl rfl) (Nat.le_of_ble_eq_true rfl) (Nat.le_of_ble_eq_true rfl) (RC.deep (by omega) (s_m_picks (d := d) _ _ h1)) ?_
      show RR KM _ 2474 32 [(0, .ref 500), (1, .int v1)] [.int r8] S9 _ _
      cases h
      exact RR.reti mx_2474 rfl rfl rfl
theorem s_m_pick {d : Nat} {S' : St} {r : Int32} (v1 : Int32) (S : St) (h : m_pick v1 S = some (r, S')) : RC KM (d + 5) 2474 [.ref 500, .int v1] S (some (.int r)) S' := RC.of rfl (s0_m_pick v1 S h)
-- isFree (II)Z
def m_isFree_39 (k2 : Int32 → Int32 → Int32 → St → Re Int32) (v1 : Int32) (v2 : Int32) (v3 : Int32) (S : St) : Re Int32 :=
  lt' ((v3 + (1 : Int32)) : Int32) fun x1 =>
  k2 v1 v2 x1 S
set_option maxRecDepth 100000 in
theorem s_m_isFree_39 {d : Nat} (k2 : Int32 → Int32 → Int32 → St → Re Int32) {S' : St} {r : Int32} (b2 : ∀ (v1 : Int32) (v2 : Int32) (v3 : Int32) (S : St), k2 v1 v2 v3 S = some (r, S') → RR KM (d + 1) 2475 2 [(0, .ref 500), (1, .int v1), (2, .int v2), (3, .int v3)] [] S (some (.int r)) S') (v1 : Int32) (v2 : Int32) (v3 : Int32) (S : St) (h : m_isFree_39 k2 v1 v2 v3 S = some (r, S')) : RR KM (d + 1) 2475 39 [(0, .ref 500), (1, .int v1), (2, .int v2), (3, .int v3)] [] S (some (.int r)) S' := by
  unfold m_isFree_39 at h
  refine RR.runs (pc' := 42) (lc' := [(3, .int ((v3 + (1 : Int32)))), (0, .ref 500), (1, .int v1), (2, .int v2)]) (st' := []) (S1 := S) (nL := 4) (cd := cd_2475) mx_2475 rfl rfl 1 rfl ?_
  obtain ⟨x1, ex1, h⟩ := ltE h
  rw [← ex1]
  refine RR.runs (pc' := 2) (lc' := [(3, .int x1), (0, .ref 500), (1, .int v1), (2, .int v2)]) (st' := []) (S1 := S) (nL := 4) (cd := cd_2475) mx_2475 rfl rfl 1 rfl ?_
  refine RR.weak [(0, .ref 500), (1, .int v1), (2, .int v2), (3, .int x1)] ⟨rfl, rfl, rfl, rfl, trivial⟩ ?_
  exact b2 _ _ _ _ h
def m_isFree_37 (S : St) : Re Int32 :=
  some ((0 : Int32), S)
set_option maxRecDepth 100000 in
theorem s_m_isFree_37 {d : Nat} {S' : St} {r : Int32} (S : St) (h : m_isFree_37 S = some (r, S')) : RR KM (d + 1) 2475 37 [] [] S (some (.int r)) S' := by
  unfold m_isFree_37 at h
  refine RR.runs (pc' := 38) (lc' := []) (st' := [.int (0 : Int32)]) (S1 := S) (nL := 4) (cd := cd_2475) mx_2475 rfl rfl 1 rfl ?_
  cases h
  exact RR.retz mx_2475 rfl rfl rfl rfl
def m_isFree_45 (S : St) : Re Int32 :=
  some ((1 : Int32), S)
set_option maxRecDepth 100000 in
theorem s_m_isFree_45 {d : Nat} {S' : St} {r : Int32} (S : St) (h : m_isFree_45 S = some (r, S')) : RR KM (d + 1) 2475 45 [] [] S (some (.int r)) S' := by
  unfold m_isFree_45 at h
  refine RR.runs (pc' := 46) (lc' := []) (st' := [.int (1 : Int32)]) (S1 := S) (nL := 4) (cd := cd_2475) mx_2475 rfl rfl 1 rfl ?_
  cases h
  exact RR.retz mx_2475 rfl rfl rfl rfl
def m_isFree_2 : Nat → Int32 → Int32 → Int32 → St → Re Int32
  | 0, _, _, _, _ => none
  | n + 1, v1, v2, v3, S =>
  if (0 : Int32) < 0 ∨ 12 ≤ (0 : Int32).toNatClampNeg then none else
  if v3 < (rI S 502 (0 : Int32).toNatClampNeg) then (
    if v3 = v2 then (
      m_isFree_39 (m_isFree_2 n) v1 v2 v3 S)
    else (
      bn (m_hangs v3 S) fun r1 S2 =>
      if r1 = 0 then (
        m_isFree_39 (m_isFree_2 n) v1 v2 v3 S2)
      else (
        if ((5 : Int32) + v3) < 0 ∨ 15 ≤ (((5 : Int32) + v3)).toNatClampNeg then none else
        if (rI S2 553 (((5 : Int32) + v3)).toNatClampNeg) = v1 then (
          m_isFree_37 S2)
        else (
          m_isFree_39 (m_isFree_2 n) v1 v2 v3 S2))))
  else (
    m_isFree_45 S)
set_option maxRecDepth 100000 in
theorem s_m_isFree_2 {d : Nat} {S' : St} {r : Int32} : ∀ (n : Nat) (v1 : Int32) (v2 : Int32) (v3 : Int32) (S : St), m_isFree_2 n v1 v2 v3 S = some (r, S') → RR KM (d + 1) 2475 2 [(0, .ref 500), (1, .int v1), (2, .int v2), (3, .int v3)] [] S (some (.int r)) S' := by
  intro n
  induction n with
  | zero => intro v1 v2 v3 S h; simp only [m_isFree_2] at h; cases h
  | succ n ih =>
    intro v1 v2 v3 S h
    simp only [m_isFree_2] at h
    refine RR.runs (pc' := 8) (lc' := [(0, .ref 500), (1, .int v1), (2, .int v2), (3, .int v3)]) (st' := [.int (0 : Int32), .ref 502, .int v3]) (S1 := S) (nL := 4) (cd := cd_2475) mx_2475 rfl rfl 4 rfl ?_
    obtain ⟨g, h⟩ := gnE h
    refine RR.gPN (c2 := (KM.1 502).1 = 1) (pc' := 9) (lc' := [(0, .ref 500), (1, .int v1), (2, .int v2), (3, .int v3)]) (st' := [.int ((rI S 502 (0 : Int32).toNatClampNeg)), .int v3]) (S1 := S) (nL := 4) (cd := cd_2475) mx_2475 rfl rfl rfl rfl g ?_
    refine RR.runs (pc' := icm .ge v3 ((rI S 502 (0 : Int32).toNatClampNeg)) 45 12) (lc' := [(0, .ref 500), (1, .int v1), (2, .int v2), (3, .int v3)]) (st' := []) (S1 := S) (nL := 4) (cd := cd_2475) mx_2475 rfl rfl 1 rfl ?_
    rcases ifE h with ⟨c, h⟩ | ⟨c, h⟩
    · refine RR.c_ge (fun _ => ?_) (fun q => absurd c q)
      refine RR.runs (pc' := icm .eq v3 v2 39 17) (lc' := [(0, .ref 500), (1, .int v1), (2, .int v2), (3, .int v3)]) (st' := []) (S1 := S) (nL := 4) (cd := cd_2475) mx_2475 rfl rfl 3 rfl ?_
      rcases ifE h with ⟨c, h⟩ | ⟨c, h⟩
      · refine RR.c_eq (fun _ => ?_) (fun q => absurd c q)
        refine RR.weak [(0, .ref 500), (1, .int v1), (2, .int v2), (3, .int v3)] ⟨rfl, rfl, rfl, rfl, trivial⟩ ?_
        exact s_m_isFree_39 _ (fun _ _ _ S h => ih _ _ _ S h) _ _ _ _ h
      · refine RR.c_eq (fun q => absurd q c) (fun _ => ?_)
        refine RR.runs (pc' := 19) (lc' := [(0, .ref 500), (1, .int v1), (2, .int v2), (3, .int v3)]) (st' := [.int v3, .ref 500]) (S1 := S) (nL := 4) (cd := cd_2475) mx_2475 rfl rfl 2 rfl ?_
        obtain ⟨r1, S2, h1, h⟩ := bnE h
        refine RR.callV (b := 500) (as := [.int v3]) (rest := []) (r1 := (some (.int r1))) (S1 := S2) mx_2475 rfl rfl mx_2458 rfl rfl (by decide) (Or.inl rfl) (Nat.le_of_ble_eq_true rfl) (Nat.le_of_ble_eq_true rfl) (RC.deep (by omega) (s_m_hangs (d := d) _ _ h1)) ?_
        show RR KM _ 2475 22 [(0, .ref 500), (1, .int v1), (2, .int v2), (3, .int v3)] [.int r1] S2 _ _
        refine RR.runs (pc' := icm .eq r1 0 39 25) (lc' := [(0, .ref 500), (1, .int v1), (2, .int v2), (3, .int v3)]) (st' := []) (S1 := S2) (nL := 4) (cd := cd_2475) mx_2475 rfl rfl 1 rfl ?_
        rcases ifE h with ⟨c, h⟩ | ⟨c, h⟩
        · refine RR.c_eq (fun _ => ?_) (fun q => absurd c q)
          refine RR.weak [(0, .ref 500), (1, .int v1), (2, .int v2), (3, .int v3)] ⟨rfl, rfl, rfl, rfl, trivial⟩ ?_
          exact s_m_isFree_39 _ (fun _ _ _ S h => ih _ _ _ S h) _ _ _ _ h
        · refine RR.c_eq (fun q => absurd q c) (fun _ => ?_)
          refine RR.runs (pc' := 32) (lc' := [(0, .ref 500), (1, .int v1), (2, .int v2), (3, .int v3)]) (st' := [.int (((5 : Int32) + v3)), .ref 553]) (S1 := S2) (nL := 4) (cd := cd_2475) mx_2475 rfl rfl 5 rfl ?_
          obtain ⟨g, h⟩ := gnE h
          refine RR.gPN (c2 := (KM.1 553).1 = 1) (pc' := 33) (lc' := [(0, .ref 500), (1, .int v1), (2, .int v2), (3, .int v3)]) (st' := [.int ((rI S2 553 (((5 : Int32) + v3)).toNatClampNeg))]) (S1 := S2) (nL := 4) (cd := cd_2475) mx_2475 rfl rfl rfl rfl g ?_
          refine RR.runs (pc' := icm .ne ((rI S2 553 (((5 : Int32) + v3)).toNatClampNeg)) v1 39 37) (lc' := [(0, .ref 500), (1, .int v1), (2, .int v2), (3, .int v3)]) (st' := []) (S1 := S2) (nL := 4) (cd := cd_2475) mx_2475 rfl rfl 2 rfl ?_
          rcases ifE h with ⟨c, h⟩ | ⟨c, h⟩
          · refine RR.c_ne (fun _ => ?_) (fun q => absurd c q)
            refine RR.weak [] trivial ?_
            exact s_m_isFree_37 _ h
          · refine RR.c_ne (fun q => absurd q c) (fun _ => ?_)
            refine RR.weak [(0, .ref 500), (1, .int v1), (2, .int v2), (3, .int v3)] ⟨rfl, rfl, rfl, rfl, trivial⟩ ?_
            exact s_m_isFree_39 _ (fun _ _ _ S h => ih _ _ _ S h) _ _ _ _ h
    · refine RR.c_ge (fun q => absurd q c) (fun _ => ?_)
      refine RR.weak [] trivial ?_
      exact s_m_isFree_45 _ h
def m_isFree (v1 : Int32) (v2 : Int32) (S : St) : Re Int32 :=
  m_isFree_2 FU v1 v2 (0 : Int32) S
set_option maxRecDepth 100000 in
theorem s0_m_isFree {d : Nat} {S' : St} {r : Int32} (v1 : Int32) (v2 : Int32) (S : St) (h : m_isFree v1 v2 S = some (r, S')) : RR KM (d + 1) 2475 0 [(0, .ref 500), (1, .int v1), (2, .int v2)] [] S (some (.int r)) S' := by
  unfold m_isFree at h
  refine RR.runs (pc' := 2) (lc' := [(3, .int (0 : Int32)), (0, .ref 500), (1, .int v1), (2, .int v2)]) (st' := []) (S1 := S) (nL := 4) (cd := cd_2475) mx_2475 rfl rfl 2 rfl ?_
  refine RR.weak [(0, .ref 500), (1, .int v1), (2, .int v2), (3, .int (0 : Int32))] ⟨rfl, rfl, rfl, rfl, trivial⟩ ?_
  exact s_m_isFree_2 _ _ _ _ _ h
theorem s_m_isFree {d : Nat} {S' : St} {r : Int32} (v1 : Int32) (v2 : Int32) (S : St) (h : m_isFree v1 v2 S = some (r, S')) : RC KM (d + 1) 2475 [.ref 500, .int v1, .int v2] S (some (.int r)) S' := RC.of rfl (s0_m_isFree v1 v2 S h)
-- christen (II)Z
def m_christen_65 (S : St) : Re Int32 :=
  some ((0 : Int32), S)
set_option maxRecDepth 100000 in
theorem s_m_christen_65 {d : Nat} {S' : St} {r : Int32} (S : St) (h : m_christen_65 S = some (r, S')) : RR KM (d + 2) 2476 65 [] [] S (some (.int r)) S' := by
  unfold m_christen_65 at h
  refine RR.runs (pc' := 66) (lc' := []) (st' := [.int (0 : Int32)]) (S1 := S) (nL := 3) (cd := cd_2476) mx_2476 rfl rfl 1 rfl ?_
  cases h
  exact RR.retz mx_2476 rfl rfl rfl rfl
def m_christen (v1 : Int32) (v2 : Int32) (S : St) : Re Int32 :=
  lt' (wI S 500 0 (0 : Int32)) fun S1 =>
  bn (m_isApple v1 S1) fun r2 S3 =>
  if r2 = 0 then (
    m_christen_65 S3)
  else (
    bn (m_isSound v2 S3) fun r4 S5 =>
    if r4 = 0 then (
      m_christen_65 S5)
    else (
      bn (m_hangs v1 S5) fun r6 S7 =>
      if r6 = 0 then (
        m_christen_65 S7)
      else (
        if (2 : Int32) < 0 ∨ 15 ≤ (2 : Int32).toNatClampNeg then none else
        if v1 < 0 ∨ 20 ≤ v1.toNatClampNeg then none else
        if (rI S7 553 (2 : Int32).toNatClampNeg) < (rI S7 509 v1.toNatClampNeg) then (
          if ((5 : Int32) + v1) < 0 ∨ 15 ≤ (((5 : Int32) + v1)).toNatClampNeg then none else
          if (rI S7 553 (((5 : Int32) + v1)).toNatClampNeg) = v2 then (
            m_christen_65 S7)
          else (
            bn (m_isFree v2 v1 S7) fun r8 S9 =>
            if r8 = 0 then (
              m_christen_65 S9)
            else (
              bn (m_keeps S9) fun r10 S11 =>
              if ((5 : Int32) + v1) < 0 ∨ 15 ≤ (((5 : Int32) + v1)).toNatClampNeg then none else
              lt' (wI S11 553 (((5 : Int32) + v1)).toNatClampNeg v2) fun S12 =>
              some ((1 : Int32), S12))))
        else (
          m_christen_65 S7))))
set_option maxRecDepth 100000 in
theorem s0_m_christen {d : Nat} {S' : St} {r : Int32} (v1 : Int32) (v2 : Int32) (S : St) (h : m_christen v1 v2 S = some (r, S')) : RR KM (d + 2) 2476 0 [(0, .ref 500), (1, .int v1), (2, .int v2)] [] S (some (.int r)) S' := by
  unfold m_christen at h
  refine RR.runs (pc' := 5) (lc' := [(0, .ref 500), (1, .int v1), (2, .int v2)]) (st' := []) (S1 := (wI S 500 0 (0 : Int32))) (nL := 3) (cd := cd_2476) mx_2476 rfl rfl 3 rfl ?_
  obtain ⟨S1, eS1, h⟩ := ltE h
  rw [← eS1]
  refine RR.runs (pc' := 7) (lc' := [(0, .ref 500), (1, .int v1), (2, .int v2)]) (st' := [.int v1, .ref 500]) (S1 := S1) (nL := 3) (cd := cd_2476) mx_2476 rfl rfl 2 rfl ?_
  obtain ⟨r2, S3, h1, h⟩ := bnE h
  refine RR.callV (b := 500) (as := [.int v1]) (rest := []) (r1 := (some (.int r2))) (S1 := S3) mx_2476 rfl rfl mx_2455 rfl rfl (by decide) (Or.inl rfl) (Nat.le_of_ble_eq_true rfl) (Nat.le_of_ble_eq_true rfl) (RC.deep (by omega) (s_m_isApple (d := d) _ _ h1)) ?_
  show RR KM _ 2476 10 [(0, .ref 500), (1, .int v1), (2, .int v2)] [.int r2] S3 _ _
  refine RR.runs (pc' := icm .eq r2 0 65 13) (lc' := [(0, .ref 500), (1, .int v1), (2, .int v2)]) (st' := []) (S1 := S3) (nL := 3) (cd := cd_2476) mx_2476 rfl rfl 1 rfl ?_
  rcases ifE h with ⟨c, h⟩ | ⟨c, h⟩
  · refine RR.c_eq (fun _ => ?_) (fun q => absurd c q)
    refine RR.weak [] trivial ?_
    exact s_m_christen_65 _ h
  · refine RR.c_eq (fun q => absurd q c) (fun _ => ?_)
    refine RR.runs (pc' := 15) (lc' := [(0, .ref 500), (1, .int v1), (2, .int v2)]) (st' := [.int v2, .ref 500]) (S1 := S3) (nL := 3) (cd := cd_2476) mx_2476 rfl rfl 2 rfl ?_
    obtain ⟨r4, S5, h1, h⟩ := bnE h
    refine RR.callV (b := 500) (as := [.int v2]) (rest := []) (r1 := (some (.int r4))) (S1 := S5) mx_2476 rfl rfl mx_2456 rfl rfl (by decide) (Or.inl rfl) (Nat.le_of_ble_eq_true rfl) (Nat.le_of_ble_eq_true rfl) (RC.deep (by omega) (s_m_isSound (d := d) _ _ h1)) ?_
    show RR KM _ 2476 18 [(0, .ref 500), (1, .int v1), (2, .int v2)] [.int r4] S5 _ _
    refine RR.runs (pc' := icm .eq r4 0 65 21) (lc' := [(0, .ref 500), (1, .int v1), (2, .int v2)]) (st' := []) (S1 := S5) (nL := 3) (cd := cd_2476) mx_2476 rfl rfl 1 rfl ?_
    rcases ifE h with ⟨c, h⟩ | ⟨c, h⟩
    · refine RR.c_eq (fun _ => ?_) (fun q => absurd c q)
      refine RR.weak [] trivial ?_
      exact s_m_christen_65 _ h
    · refine RR.c_eq (fun q => absurd q c) (fun _ => ?_)
      refine RR.runs (pc' := 23) (lc' := [(0, .ref 500), (1, .int v1), (2, .int v2)]) (st' := [.int v1, .ref 500]) (S1 := S5) (nL := 3) (cd := cd_2476) mx_2476 rfl rfl 2 rfl ?_
      obtain ⟨r6, S7, h1, h⟩ := bnE h
      refine RR.callV (b := 500) (as := [.int v1]) (rest := []) (r1 := (some (.int r6))) (S1 := S7) mx_2476 rfl rfl mx_2458 rfl rfl (by decide) (Or.inl rfl) (Nat.le_of_ble_eq_true rfl) (Nat.le_of_ble_eq_true rfl) (RC.deep (by omega) (s_m_hangs (d := d) _ _ h1)) ?_
      show RR KM _ 2476 26 [(0, .ref 500), (1, .int v1), (2, .int v2)] [.int r6] S7 _ _
      refine RR.runs (pc' := icm .eq r6 0 65 29) (lc' := [(0, .ref 500), (1, .int v1), (2, .int v2)]) (st' := []) (S1 := S7) (nL := 3) (cd := cd_2476) mx_2476 rfl rfl 1 rfl ?_
      rcases ifE h with ⟨c, h⟩ | ⟨c, h⟩
      · refine RR.c_eq (fun _ => ?_) (fun q => absurd c q)
        refine RR.weak [] trivial ?_
        exact s_m_christen_65 _ h
      · refine RR.c_eq (fun q => absurd q c) (fun _ => ?_)
        refine RR.runs (pc' := 34) (lc' := [(0, .ref 500), (1, .int v1), (2, .int v2)]) (st' := [.int (2 : Int32), .ref 553]) (S1 := S7) (nL := 3) (cd := cd_2476) mx_2476 rfl rfl 3 rfl ?_
        obtain ⟨g, h⟩ := gnE h
        refine RR.gPN (c2 := (KM.1 553).1 = 1) (pc' := 35) (lc' := [(0, .ref 500), (1, .int v1), (2, .int v2)]) (st' := [.int ((rI S7 553 (2 : Int32).toNatClampNeg))]) (S1 := S7) (nL := 3) (cd := cd_2476) mx_2476 rfl rfl rfl rfl g ?_
        refine RR.runs (pc' := 40) (lc' := [(0, .ref 500), (1, .int v1), (2, .int v2)]) (st' := [.int v1, .ref 509, .int ((rI S7 553 (2 : Int32).toNatClampNeg))]) (S1 := S7) (nL := 3) (cd := cd_2476) mx_2476 rfl rfl 3 rfl ?_
        obtain ⟨g, h⟩ := gnE h
        refine RR.gPN (c2 := (KM.1 509).1 = 1) (pc' := 41) (lc' := [(0, .ref 500), (1, .int v1), (2, .int v2)]) (st' := [.int (rI S7 509 v1.toNatClampNeg), .int ((rI S7 553 (2 : Int32).toNatClampNeg))]) (S1 := S7) (nL := 3) (cd := cd_2476) mx_2476 rfl rfl rfl rfl g ?_
        refine RR.runs (pc' := icm .ge ((rI S7 553 (2 : Int32).toNatClampNeg)) (rI S7 509 v1.toNatClampNeg) 65 44) (lc' := [(0, .ref 500), (1, .int v1), (2, .int v2)]) (st' := []) (S1 := S7) (nL := 3) (cd := cd_2476) mx_2476 rfl rfl 1 rfl ?_
        rcases ifE h with ⟨c, h⟩ | ⟨c, h⟩
        · refine RR.c_ge (fun _ => ?_) (fun q => absurd c q)
          refine RR.runs (pc' := 51) (lc' := [(0, .ref 500), (1, .int v1), (2, .int v2)]) (st' := [.int (((5 : Int32) + v1)), .ref 553]) (S1 := S7) (nL := 3) (cd := cd_2476) mx_2476 rfl rfl 5 rfl ?_
          obtain ⟨g, h⟩ := gnE h
          refine RR.gPN (c2 := (KM.1 553).1 = 1) (pc' := 52) (lc' := [(0, .ref 500), (1, .int v1), (2, .int v2)]) (st' := [.int ((rI S7 553 (((5 : Int32) + v1)).toNatClampNeg))]) (S1 := S7) (nL := 3) (cd := cd_2476) mx_2476 rfl rfl rfl rfl g ?_
          refine RR.runs (pc' := icm .eq ((rI S7 553 (((5 : Int32) + v1)).toNatClampNeg)) v2 65 56) (lc' := [(0, .ref 500), (1, .int v1), (2, .int v2)]) (st' := []) (S1 := S7) (nL := 3) (cd := cd_2476) mx_2476 rfl rfl 2 rfl ?_
          rcases ifE h with ⟨c, h⟩ | ⟨c, h⟩
          · refine RR.c_eq (fun _ => ?_) (fun q => absurd c q)
            refine RR.weak [] trivial ?_
            exact s_m_christen_65 _ h
          · refine RR.c_eq (fun q => absurd q c) (fun _ => ?_)
            refine RR.runs (pc' := 59) (lc' := [(0, .ref 500), (1, .int v1), (2, .int v2)]) (st' := [.int v1, .int v2, .ref 500]) (S1 := S7) (nL := 3) (cd := cd_2476) mx_2476 rfl rfl 3 rfl ?_
            obtain ⟨r8, S9, h1, h⟩ := bnE h
            refine RR.callV (b := 500) (as := [.int v2, .int v1]) (rest := []) (r1 := (some (.int r8))) (S1 := S9) mx_2476 rfl rfl mx_2475 rfl rfl (by decide) (Or.inl rfl) (Nat.le_of_ble_eq_true rfl) (Nat.le_of_ble_eq_true rfl) (RC.deep (by omega) (s_m_isFree (d := d) _ _ _ h1)) ?_
            show RR KM _ 2476 62 [(0, .ref 500), (1, .int v1), (2, .int v2)] [.int r8] S9 _ _
            refine RR.runs (pc' := icm .ne r8 0 67 65) (lc' := [(0, .ref 500), (1, .int v1), (2, .int v2)]) (st' := []) (S1 := S9) (nL := 3) (cd := cd_2476) mx_2476 rfl rfl 1 rfl ?_
            rcases ifE h with ⟨c, h⟩ | ⟨c, h⟩
            · refine RR.c_ne (fun _ => ?_) (fun q => absurd c q)
              refine RR.weak [] trivial ?_
              exact s_m_christen_65 _ h
            · refine RR.c_ne (fun q => absurd q c) (fun _ => ?_)
              refine RR.runs (pc' := 68) (lc' := [(0, .ref 500), (1, .int v1), (2, .int v2)]) (st' := [.ref 500]) (S1 := S9) (nL := 3) (cd := cd_2476) mx_2476 rfl rfl 1 rfl ?_
              obtain ⟨r10, S11, h1, h⟩ := bnE h
              refine RR.callV (b := 500) (as := []) (rest := []) (r1 := none) (S1 := S11) mx_2476 rfl rfl mx_2470 rfl rfl (by decide) (Or.inl rfl) (Nat.le_of_ble_eq_true rfl) (Nat.le_of_ble_eq_true rfl) (RC.deep (by omega) (s_m_keeps (d := d) _ h1)) ?_
              show RR KM _ 2476 71 [(0, .ref 500), (1, .int v1), (2, .int v2)] [] S11 _ _
              refine RR.runs (pc' := 79) (lc' := [(0, .ref 500), (1, .int v1), (2, .int v2)]) (st' := [.int v2, .int (((5 : Int32) + v1)), .ref 553]) (S1 := S11) (nL := 3) (cd := cd_2476) mx_2476 rfl rfl 6 rfl ?_
              obtain ⟨g, h⟩ := gnE h
              refine RR.gPN (c2 := (KM.1 553).1 = 1) (pc' := 80) (lc' := [(0, .ref 500), (1, .int v1), (2, .int v2)]) (st' := []) (S1 := (wI S11 553 (((5 : Int32) + v1)).toNatClampNeg v2)) (nL := 3) (cd := cd_2476) mx_2476 rfl rfl rfl rfl g ?_
              obtain ⟨S12, eS12, h⟩ := ltE h
              rw [← eS12]
              refine RR.runs (pc' := 81) (lc' := [(0, .ref 500), (1, .int v1), (2, .int v2)]) (st' := [.int (1 : Int32)]) (S1 := S12) (nL := 3) (cd := cd_2476) mx_2476 rfl rfl 1 rfl ?_
              cases h
              exact RR.retz mx_2476 rfl rfl rfl rfl
        · refine RR.c_ge (fun q => absurd q c) (fun _ => ?_)
          refine RR.weak [] trivial ?_
          exact s_m_christen_65 _ h
theorem s_m_christen {d : Nat} {S' : St} {r : Int32} (v1 : Int32) (v2 : Int32) (S : St) (h : m_christen v1 v2 S = some (r, S')) : RC KM (d + 2) 2476 [.ref 500, .int v1, .int v2] S (some (.int r)) S' := RC.of rfl (s0_m_christen v1 v2 S h)
