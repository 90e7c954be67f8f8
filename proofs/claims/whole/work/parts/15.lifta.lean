/-! Methods of the reference, lifted (laid by wip/whole/gen/model.py) -/
-- thrown ()I
def m_thrown (S : St) : Re Int32 :=
  some ((rI S 500 0), S)
set_option maxRecDepth 100000 in
theorem s0_m_thrown {d : Nat} {S' : St} {r : Int32} (S : St) (h : m_thrown S = some (r, S')) : RR KM (d + 0) 2401 0 [(0, .ref 500)] [] S (some (.int r)) S' := by
  unfold m_thrown at h
  refine RR.runs (pc' := 4) (lc' := [(0, .ref 500)]) (st' := [.int (rI S 500 0)]) (S1 := S) (nL := 1) (cd := cd_2401) mx_2401 rfl rfl 2 rfl ?_
  cases h
  exact RR.reti mx_2401 rfl rfl rfl
theorem s_m_thrown {d : Nat} {S' : St} {r : Int32} (S : St) (h : m_thrown S = some (r, S')) : RC KM (d + 0) 2401 [.ref 500] S (some (.int r)) S' := RC.of rfl (s0_m_thrown S h)
-- within (III)Z
def m_within_15 (p0 : Int32) (S : St) : Re Int32 :=
  if isBo p0 = true then some (p0, S) else none
set_option maxRecDepth 100000 in
theorem s_m_within_15 {d : Nat} {S' : St} {r : Int32} (p0 : Int32) (S : St) (h : m_within_15 p0 S = some (r, S')) : RR KM (d + 0) 2402 15 [] [.int p0] S (some (.int r)) S' := by
  unfold m_within_15 at h
  obtain ⟨g, h⟩ := gpE h
  cases h
  exact RR.retz mx_2402 rfl rfl rfl g
def m_within_14 (S : St) : Re Int32 :=
  m_within_15 (0 : Int32) S
set_option maxRecDepth 100000 in
theorem s_m_within_14 {d : Nat} {S' : St} {r : Int32} (S : St) (h : m_within_14 S = some (r, S')) : RR KM (d + 0) 2402 14 [] [] S (some (.int r)) S' := by
  unfold m_within_14 at h
  refine RR.runs (pc' := 15) (lc' := []) (st' := [.int (0 : Int32)]) (S1 := S) (nL := 3) (cd := cd_2402) mx_2402 rfl rfl 1 rfl ?_
  refine RR.weak [] trivial ?_
  exact s_m_within_15 _ _ h
def m_within (v0 : Int32) (v1 : Int32) (v2 : Int32) (S : St) : Re Int32 :=
  if v0 < v1 then (
    m_within_14 S)
  else (
    if v2 < v0 then (
      m_within_14 S)
    else (
      m_within_15 (1 : Int32) S))
set_option maxRecDepth 100000 in
theorem s0_m_within {d : Nat} {S' : St} {r : Int32} (v0 : Int32) (v1 : Int32) (v2 : Int32) (S : St) (h : m_within v0 v1 v2 S = some (r, S')) : RR KM (d + 0) 2402 0 [(0, .int v0), (1, .int v1), (2, .int v2)] [] S (some (.int r)) S' := by
  unfold m_within at h
  refine RR.runs (pc' := icm .lt v0 v1 14 5) (lc' := [(0, .int v0), (1, .int v1), (2, .int v2)]) (st' := []) (S1 := S) (nL := 3) (cd := cd_2402) mx_2402 rfl rfl 3 rfl ?_
  rcases ifE h with ⟨c, h⟩ | ⟨c, h⟩
  · refine RR.c_lt (fun _ => ?_) (fun q => absurd c q)
    refine RR.weak [] trivial ?_
    exact s_m_within_14 _ h
  · refine RR.c_lt (fun q => absurd q c) (fun _ => ?_)
    refine RR.runs (pc' := icm .gt v0 v2 14 10) (lc' := [(0, .int v0), (1, .int v1), (2, .int v2)]) (st' := []) (S1 := S) (nL := 3) (cd := cd_2402) mx_2402 rfl rfl 3 rfl ?_
    rcases ifE h with ⟨c, h⟩ | ⟨c, h⟩
    · refine RR.c_gt (fun _ => ?_) (fun q => absurd c q)
      refine RR.weak [] trivial ?_
      exact s_m_within_14 _ h
    · refine RR.c_gt (fun q => absurd q c) (fun _ => ?_)
      refine RR.runs (pc' := 15) (lc' := [(0, .int v0), (1, .int v1), (2, .int v2)]) (st' := [.int (1 : Int32)]) (S1 := S) (nL := 3) (cd := cd_2402) mx_2402 rfl rfl 2 rfl ?_
      refine RR.weak [] trivial ?_
      exact s_m_within_15 _ _ h
theorem s_m_within {d : Nat} {S' : St} {r : Int32} (v0 : Int32) (v1 : Int32) (v2 : Int32) (S : St) (h : m_within v0 v1 v2 S = some (r, S')) : RC KM (d + 0) 2402 [.int v0, .int v1, .int v2] S (some (.int r)) S' := RC.of rfl (s0_m_within v0 v1 v2 S h)
-- between (III)I
def m_between_19 (p0 : Int32) (S : St) : Re Int32 :=
  some (p0, S)
set_option maxRecDepth 100000 in
theorem s_m_between_19 {d : Nat} {S' : St} {r : Int32} (p0 : Int32) (S : St) (h : m_between_19 p0 S = some (r, S')) : RR KM (d + 0) 2403 19 [] [.int p0] S (some (.int r)) S' := by
  unfold m_between_19 at h
  cases h
  exact RR.reti mx_2403 rfl rfl rfl
def m_between (v0 : Int32) (v1 : Int32) (v2 : Int32) (S : St) : Re Int32 :=
  if v0 < v1 then (
    m_between_19 v1 S)
  else (
    if v2 < v0 then (
      m_between_19 v2 S)
    else (
      m_between_19 v0 S))
set_option maxRecDepth 100000 in
theorem s0_m_between {d : Nat} {S' : St} {r : Int32} (v0 : Int32) (v1 : Int32) (v2 : Int32) (S : St) (h : m_between v0 v1 v2 S = some (r, S')) : RR KM (d + 0) 2403 0 [(0, .int v0), (1, .int v1), (2, .int v2)] [] S (some (.int r)) S' := by
  unfold m_between at h
  refine RR.runs (pc' := icm .ge v0 v1 9 5) (lc' := [(0, .int v0), (1, .int v1), (2, .int v2)]) (st' := []) (S1 := S) (nL := 3) (cd := cd_2403) mx_2403 rfl rfl 3 rfl ?_
  rcases ifE h with ⟨c, h⟩ | ⟨c, h⟩
  · refine RR.c_ge (fun _ => ?_) (fun q => absurd c q)
    refine RR.runs (pc' := 19) (lc' := [(0, .int v0), (1, .int v1), (2, .int v2)]) (st' := [.int v1]) (S1 := S) (nL := 3) (cd := cd_2403) mx_2403 rfl rfl 2 rfl ?_
    refine RR.weak [] trivial ?_
    exact s_m_between_19 _ _ h
  · refine RR.c_ge (fun q => absurd q c) (fun _ => ?_)
    refine RR.runs (pc' := icm .le v0 v2 18 14) (lc' := [(0, .int v0), (1, .int v1), (2, .int v2)]) (st' := []) (S1 := S) (nL := 3) (cd := cd_2403) mx_2403 rfl rfl 3 rfl ?_
    rcases ifE h with ⟨c, h⟩ | ⟨c, h⟩
    · refine RR.c_le (fun _ => ?_) (fun q => absurd c q)
      refine RR.runs (pc' := 19) (lc' := [(0, .int v0), (1, .int v1), (2, .int v2)]) (st' := [.int v2]) (S1 := S) (nL := 3) (cd := cd_2403) mx_2403 rfl rfl 2 rfl ?_
      refine RR.weak [] trivial ?_
      exact s_m_between_19 _ _ h
    · refine RR.c_le (fun q => absurd q c) (fun _ => ?_)
      refine RR.runs (pc' := 19) (lc' := [(0, .int v0), (1, .int v1), (2, .int v2)]) (st' := [.int v0]) (S1 := S) (nL := 3) (cd := cd_2403) mx_2403 rfl rfl 1 rfl ?_
      refine RR.weak [] trivial ?_
      exact s_m_between_19 _ _ h
theorem s_m_between {d : Nat} {S' : St} {r : Int32} (v0 : Int32) (v1 : Int32) (v2 : Int32) (S : St) (h : m_between v0 v1 v2 S = some (r, S')) : RC KM (d + 0) 2403 [.int v0, .int v1, .int v2] S (some (.int r)) S' := RC.of rfl (s0_m_between v0 v1 v2 S h)
-- away (II)I
def m_away_14 (p0 : Int32) (S : St) : Re Int32 :=
  some (p0, S)
set_option maxRecDepth 100000 in
theorem s_m_away_14 {d : Nat} {S' : St} {r : Int32} (p0 : Int32) (S : St) (h : m_away_14 p0 S = some (r, S')) : RR KM (d + 0) 2404 14 [] [.int p0] S (some (.int r)) S' := by
  unfold m_away_14 at h
  cases h
  exact RR.reti mx_2404 rfl rfl rfl
def m_away (v0 : Int32) (v1 : Int32) (S : St) : Re Int32 :=
  if v0 < v1 then (
    m_away_14 (v1 - v0) S)
  else (
    m_away_14 (v0 - v1) S)
set_option maxRecDepth 100000 in
theorem s0_m_away {d : Nat} {S' : St} {r : Int32} (v0 : Int32) (v1 : Int32) (S : St) (h : m_away v0 v1 S = some (r, S')) : RR KM (d + 0) 2404 0 [(0, .int v0), (1, .int v1)] [] S (some (.int r)) S' := by
  unfold m_away at h
  refine RR.runs (pc' := icm .ge v0 v1 11 5) (lc' := [(0, .int v0), (1, .int v1)]) (st' := []) (S1 := S) (nL := 2) (cd := cd_2404) mx_2404 rfl rfl 3 rfl ?_
  rcases ifE h with ⟨c, h⟩ | ⟨c, h⟩
  · refine RR.c_ge (fun _ => ?_) (fun q => absurd c q)
    refine RR.runs (pc' := 14) (lc' := [(0, .int v0), (1, .int v1)]) (st' := [.int (v1 - v0)]) (S1 := S) (nL := 2) (cd := cd_2404) mx_2404 rfl rfl 4 rfl ?_
    refine RR.weak [] trivial ?_
    exact s_m_away_14 _ _ h
  · refine RR.c_ge (fun q => absurd q c) (fun _ => ?_)
    refine RR.runs (pc' := 14) (lc' := [(0, .int v0), (1, .int v1)]) (st' := [.int (v0 - v1)]) (S1 := S) (nL := 2) (cd := cd_2404) mx_2404 rfl rfl 3 rfl ?_
    refine RR.weak [] trivial ?_
    exact s_m_away_14 _ _ h
theorem s_m_away {d : Nat} {S' : St} {r : Int32} (v0 : Int32) (v1 : Int32) (S : St) (h : m_away v0 v1 S = some (r, S')) : RC KM (d + 0) 2404 [.int v0, .int v1] S (some (.int r)) S' := RC.of rfl (s0_m_away v0 v1 S h)
-- bits (I)I
def m_bits_24 (v1 : Int32) (S : St) : Re Int32 :=
  some (v1, S)
set_option maxRecDepth 100000 in
theorem s_m_bits_24 {d : Nat} {S' : St} {r : Int32} (v1 : Int32) (S : St) (h : m_bits_24 v1 S = some (r, S')) : RR KM (d + 0) 2405 24 [(1, .int v1)] [] S (some (.int r)) S' := by
  unfold m_bits_24 at h
  refine RR.runs (pc' := 25) (lc' := [(1, .int v1)]) (st' := [.int v1]) (S1 := S) (nL := 3) (cd := cd_2405) mx_2405 rfl rfl 1 rfl ?_
  cases h
  exact RR.reti mx_2405 rfl rfl rfl
def m_bits_4 : Nat → Int32 → Int32 → Int32 → St → Re Int32
  | 0, _, _, _, _ => none
  | n + 1, v0, v1, v2, S =>
  if v2 < (16 : Int32) then (
    lt' ((v1 + ((v0 >>> (v2 &&& 31)) &&& (1 : Int32))) : Int32) fun x1 =>
    lt' ((v2 + (1 : Int32)) : Int32) fun x2 =>
    m_bits_4 n v0 x1 x2 S)
  else (
    m_bits_24 v1 S)
set_option maxRecDepth 100000 in
theorem s_m_bits_4 {d : Nat} {S' : St} {r : Int32} : ∀ (n : Nat) (v0 : Int32) (v1 : Int32) (v2 : Int32) (S : St), m_bits_4 n v0 v1 v2 S = some (r, S') → RR KM (d + 0) 2405 4 [(0, .int v0), (1, .int v1), (2, .int v2)] [] S (some (.int r)) S' := by
  intro n
  induction n with
  | zero => intro v0 v1 v2 S h; simp only [m_bits_4] at h; cases h
  | succ n ih =>
    intro v0 v1 v2 S h
    simp only [m_bits_4] at h
    refine RR.runs (pc' := icm .ge v2 (16 : Int32) 24 10) (lc' := [(0, .int v0), (1, .int v1), (2, .int v2)]) (st' := []) (S1 := S) (nL := 3) (cd := cd_2405) mx_2405 rfl rfl 3 rfl ?_
    rcases ifE h with ⟨c, h⟩ | ⟨c, h⟩
    · refine RR.c_ge (fun _ => ?_) (fun q => absurd c q)
      refine RR.runs (pc' := 18) (lc' := [(1, .int ((v1 + ((v0 >>> (v2 &&& 31)) &&& (1 : Int32))))), (0, .int v0), (2, .int v2)]) (st' := []) (S1 := S) (nL := 3) (cd := cd_2405) mx_2405 rfl rfl 8 rfl ?_
      obtain ⟨x1, ex1, h⟩ := ltE h
      rw [← ex1]
      refine RR.runs (pc' := 21) (lc' := [(2, .int ((v2 + (1 : Int32)))), (1, .int x1), (0, .int v0)]) (st' := []) (S1 := S) (nL := 3) (cd := cd_2405) mx_2405 rfl rfl 1 rfl ?_
      obtain ⟨x2, ex2, h⟩ := ltE h
      rw [← ex2]
      refine RR.runs (pc' := 4) (lc' := [(2, .int x2), (1, .int x1), (0, .int v0)]) (st' := []) (S1 := S) (nL := 3) (cd := cd_2405) mx_2405 rfl rfl 1 rfl ?_
      refine RR.weak [(0, .int v0), (1, .int x1), (2, .int x2)] ⟨rfl, rfl, rfl, trivial⟩ ?_
      exact ih _ _ _ _ h
    · refine RR.c_ge (fun q => absurd q c) (fun _ => ?_)
      refine RR.weak [(1, .int v1)] ⟨rfl, trivial⟩ ?_
      exact s_m_bits_24 _ _ h
def m_bits (v0 : Int32) (S : St) : Re Int32 :=
  m_bits_4 FU v0 (0 : Int32) (0 : Int32) S
set_option maxRecDepth 100000 in
theorem s0_m_bits {d : Nat} {S' : St} {r : Int32} (v0 : Int32) (S : St) (h : m_bits v0 S = some (r, S')) : RR KM (d + 0) 2405 0 [(0, .int v0)] [] S (some (.int r)) S' := by
  unfold m_bits at h
  refine RR.runs (pc' := 4) (lc' := [(2, .int (0 : Int32)), (1, .int (0 : Int32)), (0, .int v0)]) (st' := []) (S1 := S) (nL := 3) (cd := cd_2405) mx_2405 rfl rfl 4 rfl ?_
  refine RR.weak [(0, .int v0), (1, .int (0 : Int32)), (2, .int (0 : Int32))] ⟨rfl, rfl, rfl, trivial⟩ ?_
  exact s_m_bits_4 _ _ _ _ _ h
theorem s_m_bits {d : Nat} {S' : St} {r : Int32} (v0 : Int32) (S : St) (h : m_bits v0 S = some (r, S')) : RC KM (d + 0) 2405 [.int v0] S (some (.int r)) S' := RC.of rfl (s0_m_bits v0 S h)
-- feed (JJJ)I
def m_feed_114 (k8 : Int64 → Int64 → Int64 → Int32 → St → Re Int32) (v1 : Int64) (v3 : Int64) (v5 : Int64) (v7 : Int32) (S : St) : Re Int32 :=
  lt' ((v7 + (1 : Int32)) : Int32) fun x1 =>
  k8 v1 v3 v5 x1 S
set_option maxRecDepth 100000 in
theorem s_m_feed_114 {d : Nat} (k8 : Int64 → Int64 → Int64 → Int32 → St → Re Int32) {S' : St} {r : Int32} (b8 : ∀ (v1 : Int64) (v3 : Int64) (v5 : Int64) (v7 : Int32) (S : St), k8 v1 v3 v5 v7 S = some (r, S') → RR KM (d + 0) 2406 8 [(0, .ref 500), (1, .long v1), (3, .long v3), (5, .long v5), (7, .int v7)] [] S (some (.int r)) S') (v1 : Int64) (v3 : Int64) (v5 : Int64) (v7 : Int32) (S : St) (h : m_feed_114 k8 v1 v3 v5 v7 S = some (r, S')) : RR KM (d + 0) 2406 114 [(0, .ref 500), (1, .long v1), (3, .long v3), (5, .long v5), (7, .int v7)] [] S (some (.int r)) S' := by
  unfold m_feed_114 at h
  refine RR.runs (pc' := 117) (lc' := [(7, .int ((v7 + (1 : Int32)))), (0, .ref 500), (1, .long v1), (3, .long v3), (5, .long v5)]) (st' := []) (S1 := S) (nL := 11) (cd := cd_2406) mx_2406 rfl rfl 1 rfl ?_
  obtain ⟨x1, ex1, h⟩ := ltE h
  rw [← ex1]
  refine RR.runs (pc' := 8) (lc' := [(7, .int x1), (0, .ref 500), (1, .long v1), (3, .long v3), (5, .long v5)]) (st' := []) (S1 := S) (nL := 11) (cd := cd_2406) mx_2406 rfl rfl 1 rfl ?_
  refine RR.weak [(0, .ref 500), (1, .long v1), (3, .long v3), (5, .long v5), (7, .int x1)] ⟨rfl, rfl, rfl, rfl, rfl, trivial⟩ ?_
  exact b8 _ _ _ _ _ h
def m_feed_93 (k8 : Int64 → Int64 → Int64 → Int32 → St → Re Int32) (v1 : Int64) (v3 : Int64) (v5 : Int64) (v7 : Int32) (v10 : Int32) (S : St) : Re Int32 :=
  if (rI S 500 1) < 0 ∨ 1000 ≤ (rI S 500 1).toNatClampNeg then none else
  lt' (wI S 501 (rI S 500 1).toNatClampNeg v10) fun S1 =>
  lt' (wI S1 500 1 (((rI S1 500 1) + (1 : Int32)))) fun S2 =>
  m_feed_114 k8 v1 v3 v5 v7 S2
set_option maxRecDepth 100000 in
theorem s_m_feed_93 {d : Nat} (k8 : Int64 → Int64 → Int64 → Int32 → St → Re Int32) {S' : St} {r : Int32} (b8 : ∀ (v1 : Int64) (v3 : Int64) (v5 : Int64) (v7 : Int32) (S : St), k8 v1 v3 v5 v7 S = some (r, S') → RR KM (d + 0) 2406 8 [(0, .ref 500), (1, .long v1), (3, .long v3), (5, .long v5), (7, .int v7)] [] S (some (.int r)) S') (v1 : Int64) (v3 : Int64) (v5 : Int64) (v7 : Int32) (v10 : Int32) (S : St) (h : m_feed_93 k8 v1 v3 v5 v7 v10 S = some (r, S')) : RR KM (d + 0) 2406 93 [(0, .ref 500), (1, .long v1), (3, .long v3), (5, .long v5), (7, .int v7), (10, .int v10)] [] S (some (.int r)) S' := by
  unfold m_feed_93 at h
  refine RR.runs (pc' := 103) (lc' := [(0, .ref 500), (1, .long v1), (3, .long v3), (5, .long v5), (7, .int v7), (10, .int v10)]) (st' := [.int v10, .int (rI S 500 1), .ref 501]) (S1 := S) (nL := 11) (cd := cd_2406) mx_2406 rfl rfl 5 rfl ?_
  obtain ⟨g, h⟩ := gnE h
  refine RR.gPN (c2 := (KM.1 501).1 = 1) (pc' := 104) (lc' := [(0, .ref 500), (1, .long v1), (3, .long v3), (5, .long v5), (7, .int v7), (10, .int v10)]) (st' := []) (S1 := (wI S 501 (rI S 500 1).toNatClampNeg v10)) (nL := 11) (cd := cd_2406) mx_2406 rfl rfl rfl rfl g ?_
  obtain ⟨S1, eS1, h⟩ := ltE h
  rw [← eS1]
  refine RR.runs (pc' := 114) (lc' := [(0, .ref 500), (1, .long v1), (3, .long v3), (5, .long v5), (7, .int v7), (10, .int v10)]) (st' := []) (S1 := (wI S1 500 1 (((rI S1 500 1) + (1 : Int32))))) (nL := 11) (cd := cd_2406) mx_2406 rfl rfl 6 rfl ?_
  obtain ⟨S2, eS2, h⟩ := ltE h
  rw [← eS2]
  refine RR.weak [(0, .ref 500), (1, .long v1), (3, .long v3), (5, .long v5), (7, .int v7)] ⟨rfl, rfl, rfl, rfl, rfl, trivial⟩ ?_
  exact s_m_feed_114 _ b8 _ _ _ _ _ h
def m_feed_39 (k8 : Int64 → Int64 → Int64 → Int32 → St → Re Int32) (v1 : Int64) (v3 : Int64) (v5 : Int64) (v7 : Int32) (p0 : Int64) (S : St) : Re Int32 :=
  lt' ((((p0.toUInt64 >>> (((56 : Int32) - ((8 : Int32) * (v7 &&& (7 : Int32)))).toInt64.toUInt64 &&& Int64.toUInt64 63)).toInt64 &&& (255 : Int64))).toInt32 : Int32) fun x1 =>
  if (rI S 500 1) < (1000 : Int32) then (
    if x1 = (10 : Int32) then (
      m_feed_93 k8 v1 v3 v5 v7 x1 S)
    else (
      if x1 < (32 : Int32) then (
        m_feed_114 k8 v1 v3 v5 v7 S)
      else (
        if (126 : Int32) < x1 then (
          m_feed_114 k8 v1 v3 v5 v7 S)
        else (
          m_feed_93 k8 v1 v3 v5 v7 x1 S))))
  else (
    m_feed_114 k8 v1 v3 v5 v7 S)
set_option maxRecDepth 100000 in
theorem s_m_feed_39 {d : Nat} (k8 : Int64 → Int64 → Int64 → Int32 → St → Re Int32) {S' : St} {r : Int32} (b8 : ∀ (v1 : Int64) (v3 : Int64) (v5 : Int64) (v7 : Int32) (S : St), k8 v1 v3 v5 v7 S = some (r, S') → RR KM (d + 0) 2406 8 [(0, .ref 500), (1, .long v1), (3, .long v3), (5, .long v5), (7, .int v7)] [] S (some (.int r)) S') (v1 : Int64) (v3 : Int64) (v5 : Int64) (v7 : Int32) (p0 : Int64) (S : St) (h : m_feed_39 k8 v1 v3 v5 v7 p0 S = some (r, S')) : RR KM (d + 0) 2406 39 [(0, .ref 500), (1, .long v1), (3, .long v3), (5, .long v5), (7, .int v7)] [.long p0] S (some (.int r)) S' := by
  unfold m_feed_39 at h
  refine RR.runs (pc' := 62) (lc' := [(10, .int ((((p0.toUInt64 >>> (((56 : Int32) - ((8 : Int32) * (v7 &&& (7 : Int32)))).toInt64.toUInt64 &&& Int64.toUInt64 63)).toInt64 &&& (255 : Int64))).toInt32)), (8, .long p0), (0, .ref 500), (1, .long v1), (3, .long v3), (5, .long v5), (7, .int v7)]) (st' := []) (S1 := S) (nL := 11) (cd := cd_2406) mx_2406 rfl rfl 14 rfl ?_
  obtain ⟨x1, ex1, h⟩ := ltE h
  rw [← ex1]
  refine RR.runs (pc' := icm .ge (rI S 500 1) (1000 : Int32) 114 72) (lc' := [(10, .int x1), (8, .long p0), (0, .ref 500), (1, .long v1), (3, .long v3), (5, .long v5), (7, .int v7)]) (st' := []) (S1 := S) (nL := 11) (cd := cd_2406) mx_2406 rfl rfl 4 rfl ?_
  rcases ifE h with ⟨c, h⟩ | ⟨c, h⟩
  · refine RR.c_ge (fun _ => ?_) (fun q => absurd c q)
    refine RR.runs (pc' := icm .eq x1 (10 : Int32) 93 79) (lc' := [(10, .int x1), (8, .long p0), (0, .ref 500), (1, .long v1), (3, .long v3), (5, .long v5), (7, .int v7)]) (st' := []) (S1 := S) (nL := 11) (cd := cd_2406) mx_2406 rfl rfl 3 rfl ?_
    rcases ifE h with ⟨c, h⟩ | ⟨c, h⟩
    · refine RR.c_eq (fun _ => ?_) (fun q => absurd c q)
      refine RR.weak [(0, .ref 500), (1, .long v1), (3, .long v3), (5, .long v5), (7, .int v7), (10, .int x1)] ⟨rfl, rfl, rfl, rfl, rfl, rfl, trivial⟩ ?_
      exact s_m_feed_93 _ b8 _ _ _ _ _ _ h
    · refine RR.c_eq (fun q => absurd q c) (fun _ => ?_)
      refine RR.runs (pc' := icm .lt x1 (32 : Int32) 114 86) (lc' := [(10, .int x1), (8, .long p0), (0, .ref 500), (1, .long v1), (3, .long v3), (5, .long v5), (7, .int v7)]) (st' := []) (S1 := S) (nL := 11) (cd := cd_2406) mx_2406 rfl rfl 3 rfl ?_
      rcases ifE h with ⟨c, h⟩ | ⟨c, h⟩
      · refine RR.c_lt (fun _ => ?_) (fun q => absurd c q)
        refine RR.weak [(0, .ref 500), (1, .long v1), (3, .long v3), (5, .long v5), (7, .int v7)] ⟨rfl, rfl, rfl, rfl, rfl, trivial⟩ ?_
        exact s_m_feed_114 _ b8 _ _ _ _ _ h
      · refine RR.c_lt (fun q => absurd q c) (fun _ => ?_)
        refine RR.runs (pc' := icm .gt x1 (126 : Int32) 114 93) (lc' := [(10, .int x1), (8, .long p0), (0, .ref 500), (1, .long v1), (3, .long v3), (5, .long v5), (7, .int v7)]) (st' := []) (S1 := S) (nL := 11) (cd := cd_2406) mx_2406 rfl rfl 3 rfl ?_
        rcases ifE h with ⟨c, h⟩ | ⟨c, h⟩
        · refine RR.c_gt (fun _ => ?_) (fun q => absurd c q)
          refine RR.weak [(0, .ref 500), (1, .long v1), (3, .long v3), (5, .long v5), (7, .int v7)] ⟨rfl, rfl, rfl, rfl, rfl, trivial⟩ ?_
          exact s_m_feed_114 _ b8 _ _ _ _ _ h
        · refine RR.c_gt (fun q => absurd q c) (fun _ => ?_)
          refine RR.weak [(0, .ref 500), (1, .long v1), (3, .long v3), (5, .long v5), (7, .int v7), (10, .int x1)] ⟨rfl, rfl, rfl, rfl, rfl, rfl, trivial⟩ ?_
          exact s_m_feed_93 _ b8 _ _ _ _ _ _ h
  · refine RR.c_ge (fun q => absurd q c) (fun _ => ?_)
    refine RR.weak [(0, .ref 500), (1, .long v1), (3, .long v3), (5, .long v5), (7, .int v7)] ⟨rfl, rfl, rfl, rfl, rfl, trivial⟩ ?_
    exact s_m_feed_114 _ b8 _ _ _ _ _ h
def m_feed_120 (S : St) : Re Int32 :=
  some ((rI S 500 1), S)
set_option maxRecDepth 100000 in
theorem s_m_feed_120 {d : Nat} {S' : St} {r : Int32} (S : St) (h : m_feed_120 S = some (r, S')) : RR KM (d + 0) 2406 120 [(0, .ref 500)] [] S (some (.int r)) S' := by
  unfold m_feed_120 at h
  refine RR.runs (pc' := 124) (lc' := [(0, .ref 500)]) (st' := [.int (rI S 500 1)]) (S1 := S) (nL := 11) (cd := cd_2406) mx_2406 rfl rfl 2 rfl ?_
  cases h
  exact RR.reti mx_2406 rfl rfl rfl
def m_feed_8 : Nat → Int64 → Int64 → Int64 → Int32 → St → Re Int32
  | 0, _, _, _, _, _ => none
  | n + 1, v1, v3, v5, v7, S =>
  if v7 < (24 : Int32) then (
    if v7 < (8 : Int32) then (
      m_feed_39 (m_feed_8 n) v1 v3 v5 v7 v1 S)
    else (
      if v7 < (16 : Int32) then (
        m_feed_39 (m_feed_8 n) v1 v3 v5 v7 v3 S)
      else (
        m_feed_39 (m_feed_8 n) v1 v3 v5 v7 v5 S)))
  else (
    m_feed_120 S)
set_option maxRecDepth 100000 in
theorem s_m_feed_8 {d : Nat} {S' : St} {r : Int32} : ∀ (n : Nat) (v1 : Int64) (v3 : Int64) (v5 : Int64) (v7 : Int32) (S : St), m_feed_8 n v1 v3 v5 v7 S = some (r, S') → RR KM (d + 0) 2406 8 [(0, .ref 500), (1, .long v1), (3, .long v3), (5, .long v5), (7, .int v7)] [] S (some (.int r)) S' := by
  intro n
  induction n with
  | zero => intro v1 v3 v5 v7 S h; simp only [m_feed_8] at h; cases h
  | succ n ih =>
    intro v1 v3 v5 v7 S h
    simp only [m_feed_8] at h
    refine RR.runs (pc' := icm .ge v7 (24 : Int32) 120 15) (lc' := [(0, .ref 500), (1, .long v1), (3, .long v3), (5, .long v5), (7, .int v7)]) (st' := []) (S1 := S) (nL := 11) (cd := cd_2406) mx_2406 rfl rfl 3 rfl ?_
    rcases ifE h with ⟨c, h⟩ | ⟨c, h⟩
    · refine RR.c_ge (fun _ => ?_) (fun q => absurd c q)
      refine RR.runs (pc' := icm .ge v7 (8 : Int32) 26 22) (lc' := [(0, .ref 500), (1, .long v1), (3, .long v3), (5, .long v5), (7, .int v7)]) (st' := []) (S1 := S) (nL := 11) (cd := cd_2406) mx_2406 rfl rfl 3 rfl ?_
      rcases ifE h with ⟨c, h⟩ | ⟨c, h⟩
      · refine RR.c_ge (fun _ => ?_) (fun q => absurd c q)
        refine RR.runs (pc' := 39) (lc' := [(0, .ref 500), (1, .long v1), (3, .long v3), (5, .long v5), (7, .int v7)]) (st' := [.long v1]) (S1 := S) (nL := 11) (cd := cd_2406) mx_2406 rfl rfl 2 rfl ?_
        refine RR.weak [(0, .ref 500), (1, .long v1), (3, .long v3), (5, .long v5), (7, .int v7)] ⟨rfl, rfl, rfl, rfl, rfl, trivial⟩ ?_
        exact s_m_feed_39 _ (fun _ _ _ _ S h => ih _ _ _ _ S h) _ _ _ _ _ _ h
      · refine RR.c_ge (fun q => absurd q c) (fun _ => ?_)
        refine RR.runs (pc' := icm .ge v7 (16 : Int32) 37 33) (lc' := [(0, .ref 500), (1, .long v1), (3, .long v3), (5, .long v5), (7, .int v7)]) (st' := []) (S1 := S) (nL := 11) (cd := cd_2406) mx_2406 rfl rfl 3 rfl ?_
        rcases ifE h with ⟨c, h⟩ | ⟨c, h⟩
        · refine RR.c_ge (fun _ => ?_) (fun q => absurd c q)
          refine RR.runs (pc' := 39) (lc' := [(0, .ref 500), (1, .long v1), (3, .long v3), (5, .long v5), (7, .int v7)]) (st' := [.long v3]) (S1 := S) (nL := 11) (cd := cd_2406) mx_2406 rfl rfl 2 rfl ?_
          refine RR.weak [(0, .ref 500), (1, .long v1), (3, .long v3), (5, .long v5), (7, .int v7)] ⟨rfl, rfl, rfl, rfl, rfl, trivial⟩ ?_
          exact s_m_feed_39 _ (fun _ _ _ _ S h => ih _ _ _ _ S h) _ _ _ _ _ _ h
        · refine RR.c_ge (fun q => absurd q c) (fun _ => ?_)
          refine RR.runs (pc' := 39) (lc' := [(0, .ref 500), (1, .long v1), (3, .long v3), (5, .long v5), (7, .int v7)]) (st' := [.long v5]) (S1 := S) (nL := 11) (cd := cd_2406) mx_2406 rfl rfl 1 rfl ?_
          refine RR.weak [(0, .ref 500), (1, .long v1), (3, .long v3), (5, .long v5), (7, .int v7)] ⟨rfl, rfl, rfl, rfl, rfl, trivial⟩ ?_
          exact s_m_feed_39 _ (fun _ _ _ _ S h => ih _ _ _ _ S h) _ _ _ _ _ _ h
    · refine RR.c_ge (fun q => absurd q c) (fun _ => ?_)
      refine RR.weak [(0, .ref 500)] ⟨rfl, trivial⟩ ?_
      exact s_m_feed_120 _ h
def m_feed (v1 : Int64) (v3 : Int64) (v5 : Int64) (S : St) : Re Int32 :=
  lt' (wI S 500 0 (0 : Int32)) fun S1 =>
  m_feed_8 FU v1 v3 v5 (0 : Int32) S1
set_option maxRecDepth 100000 in
theorem s0_m_feed {d : Nat} {S' : St} {r : Int32} (v1 : Int64) (v3 : Int64) (v5 : Int64) (S : St) (h : m_feed v1 v3 v5 S = some (r, S')) : RR KM (d + 0) 2406 0 [(0, .ref 500), (1, .long v1), (3, .long v3), (5, .long v5)] [] S (some (.int r)) S' := by
  unfold m_feed at h
  refine RR.runs (pc' := 5) (lc' := [(0, .ref 500), (1, .long v1), (3, .long v3), (5, .long v5)]) (st' := []) (S1 := (wI S 500 0 (0 : Int32))) (nL := 11) (cd := cd_2406) mx_2406 rfl rfl 3 rfl ?_
  obtain ⟨S1, eS1, h⟩ := ltE h
  rw [← eS1]
  refine RR.runs (pc' := 8) (lc' := [(7, .int (0 : Int32)), (0, .ref 500), (1, .long v1), (3, .long v3), (5, .long v5)]) (st' := []) (S1 := S1) (nL := 11) (cd := cd_2406) mx_2406 rfl rfl 2 rfl ?_
  refine RR.weak [(0, .ref 500), (1, .long v1), (3, .long v3), (5, .long v5), (7, .int (0 : Int32))] ⟨rfl, rfl, rfl, rfl, rfl, trivial⟩ ?_
  exact s_m_feed_8 _ _ _ _ _ _ h
theorem s_m_feed {d : Nat} {S' : St} {r : Int32} (v1 : Int64) (v3 : Int64) (v5 : Int64) (S : St) (h : m_feed v1 v3 v5 S = some (r, S')) : RC KM (d + 0) 2406 [.ref 500, .long v1, .long v3, .long v5] S (some (.int r)) S' := RC.of rfl (s0_m_feed v1 v3 v5 S h)
-- signAt (I)I
def m_signAt_18 (p0 : Int32) (S : St) : Re Int32 :=
  some (p0, S)
set_option maxRecDepth 100000 in
theorem s_m_signAt_18 {d : Nat} {S' : St} {r : Int32} (p0 : Int32) (S : St) (h : m_signAt_18 p0 S = some (r, S')) : RR KM (d + 0) 2407 18 [] [.int p0] S (some (.int r)) S' := by
  unfold m_signAt_18 at h
  cases h
  exact RR.reti mx_2407 rfl rfl rfl
def m_signAt (v1 : Int32) (S : St) : Re Int32 :=
  if v1 < (rI S 500 3) then (
    if v1 < 0 ∨ 1000 ≤ v1.toNatClampNeg then none else
    m_signAt_18 (rI S 501 v1.toNatClampNeg) S)
  else (
    m_signAt_18 (0 : Int32) S)
set_option maxRecDepth 100000 in
theorem s0_m_signAt {d : Nat} {S' : St} {r : Int32} (v1 : Int32) (S : St) (h : m_signAt v1 S = some (r, S')) : RR KM (d + 0) 2407 0 [(0, .ref 500), (1, .int v1)] [] S (some (.int r)) S' := by
  unfold m_signAt at h
  refine RR.runs (pc' := icm .ge v1 (rI S 500 3) 17 8) (lc' := [(0, .ref 500), (1, .int v1)]) (st' := []) (S1 := S) (nL := 2) (cd := cd_2407) mx_2407 rfl rfl 4 rfl ?_
  rcases ifE h with ⟨c, h⟩ | ⟨c, h⟩
  · refine RR.c_ge (fun _ => ?_) (fun q => absurd c q)
    refine RR.runs (pc' := 13) (lc' := [(0, .ref 500), (1, .int v1)]) (st' := [.int v1, .ref 501]) (S1 := S) (nL := 2) (cd := cd_2407) mx_2407 rfl rfl 3 rfl ?_
    obtain ⟨g, h⟩ := gnE h
    refine RR.gPN (c2 := (KM.1 501).1 = 1) (pc' := 14) (lc' := [(0, .ref 500), (1, .int v1)]) (st' := [.int (rI S 501 v1.toNatClampNeg)]) (S1 := S) (nL := 2) (cd := cd_2407) mx_2407 rfl rfl rfl rfl g ?_
    refine RR.runs (pc' := 18) (lc' := [(0, .ref 500), (1, .int v1)]) (st' := [.int (rI S 501 v1.toNatClampNeg)]) (S1 := S) (nL := 2) (cd := cd_2407) mx_2407 rfl rfl 1 rfl ?_
    refine RR.weak [] trivial ?_
    exact s_m_signAt_18 _ _ h
  · refine RR.c_ge (fun q => absurd q c) (fun _ => ?_)
    refine RR.runs (pc' := 18) (lc' := [(0, .ref 500), (1, .int v1)]) (st' := [.int (0 : Int32)]) (S1 := S) (nL := 2) (cd := cd_2407) mx_2407 rfl rfl 1 rfl ?_
    refine RR.weak [] trivial ?_
    exact s_m_signAt_18 _ _ h
theorem s_m_signAt {d : Nat} {S' : St} {r : Int32} (v1 : Int32) (S : St) (h : m_signAt v1 S = some (r, S')) : RC KM (d + 0) 2407 [.ref 500, .int v1] S (some (.int r)) S' := RC.of rfl (s0_m_signAt v1 S h)
-- nextToken ()V
def m_nextToken_39 (k0 : St → Re Unit) (S : St) : Re Unit :=
  lt' (wI S 500 4 (((rI S 500 4) + (1 : Int32)))) fun S1 =>
  k0 S1
set_option maxRecDepth 100000 in
theorem s_m_nextToken_39 {d : Nat} (k0 : St → Re Unit) {S' : St} {r : Unit} (b0 : ∀ (S : St), k0 S = some (r, S') → RR KM (d + 1) 2408 0 [(0, .ref 500)] [] S none S') (S : St) (h : m_nextToken_39 k0 S = some (r, S')) : RR KM (d + 1) 2408 39 [(0, .ref 500)] [] S none S' := by
  unfold m_nextToken_39 at h
  refine RR.runs (pc' := 49) (lc' := [(0, .ref 500)]) (st' := []) (S1 := (wI S 500 4 (((rI S 500 4) + (1 : Int32))))) (nL := 2) (cd := cd_2408) mx_2408 rfl rfl 6 rfl ?_
  obtain ⟨S1, eS1, h⟩ := ltE h
  rw [← eS1]
  refine RR.runs (pc' := 0) (lc' := [(0, .ref 500)]) (st' := []) (S1 := S1) (nL := 2) (cd := cd_2408) mx_2408 rfl rfl 1 rfl ?_
  refine RR.weak [(0, .ref 500)] ⟨rfl, trivial⟩ ?_
  exact b0 _ h
def m_nextToken_368 (p0 : Int32) (S : St) : Re Unit :=
  lt' (wI S 500 6 p0) fun S1 =>
  some ((), S1)
set_option maxRecDepth 100000 in
theorem s_m_nextToken_368 {d : Nat} {S' : St} {r : Unit} (p0 : Int32) (S : St) (h : m_nextToken_368 p0 S = some (r, S')) : RR KM (d + 1) 2408 368 [] [.int p0, .ref 500] S none S' := by
  unfold m_nextToken_368 at h
  refine RR.runs (pc' := 371) (lc' := []) (st' := []) (S1 := (wI S 500 6 p0)) (nL := 2) (cd := cd_2408) mx_2408 rfl rfl 1 rfl ?_
  obtain ⟨S1, eS1, h⟩ := ltE h
  rw [← eS1]
  cases h
  exact RR.retv mx_2408 rfl rfl rfl
def m_nextToken_363 (S : St) : Re Unit :=
  m_nextToken_368 (3 : Int32) S
set_option maxRecDepth 100000 in
theorem s_m_nextToken_363 {d : Nat} {S' : St} {r : Unit} (S : St) (h : m_nextToken_363 S = some (r, S')) : RR KM (d + 1) 2408 363 [] [.ref 500] S none S' := by
  unfold m_nextToken_363 at h
  refine RR.runs (pc' := 368) (lc' := []) (st' := [.int (3 : Int32), .ref 500]) (S1 := S) (nL := 2) (cd := cd_2408) mx_2408 rfl rfl 2 rfl ?_
  refine RR.weak [] trivial ?_
  exact s_m_nextToken_368 _ _ h
def m_nextToken_367 (S : St) : Re Unit :=
  m_nextToken_368 (4 : Int32) S
set_option maxRecDepth 100000 in
theorem s_m_nextToken_367 {d : Nat} {S' : St} {r : Unit} (S : St) (h : m_nextToken_367 S = some (r, S')) : RR KM (d + 1) 2408 367 [] [.ref 500] S none S' := by
  unfold m_nextToken_367 at h
  refine RR.runs (pc' := 368) (lc' := []) (st' := [.int (4 : Int32), .ref 500]) (S1 := S) (nL := 2) (cd := cd_2408) mx_2408 rfl rfl 1 rfl ?_
  refine RR.weak [] trivial ?_
  exact s_m_nextToken_368 _ _ h
def m_nextToken_345 (v1 : Int32) (S : St) : Re Unit :=
  if v1 = (45 : Int32) then (
    m_nextToken_363 S)
  else (
    if v1 < (59 : Int32) then (
      m_nextToken_367 S)
    else (
      if (61 : Int32) < v1 then (
        m_nextToken_367 S)
      else (
        m_nextToken_363 S)))
set_option maxRecDepth 100000 in
theorem s_m_nextToken_345 {d : Nat} {S' : St} {r : Unit} (v1 : Int32) (S : St) (h : m_nextToken_345 v1 S = some (r, S')) : RR KM (d + 1) 2408 345 [(1, .int v1)] [.ref 500] S none S' := by
  unfold m_nextToken_345 at h
  refine RR.runs (pc' := icm .eq v1 (45 : Int32) 363 351) (lc' := [(1, .int v1)]) (st' := [.ref 500]) (S1 := S) (nL := 2) (cd := cd_2408) mx_2408 rfl rfl 3 rfl ?_
  rcases ifE h with ⟨c, h⟩ | ⟨c, h⟩
  · refine RR.c_eq (fun _ => ?_) (fun q => absurd c q)
    refine RR.weak [] trivial ?_
    exact s_m_nextToken_363 _ h
  · refine RR.c_eq (fun q => absurd q c) (fun _ => ?_)
    refine RR.runs (pc' := icm .lt v1 (59 : Int32) 367 357) (lc' := [(1, .int v1)]) (st' := [.ref 500]) (S1 := S) (nL := 2) (cd := cd_2408) mx_2408 rfl rfl 3 rfl ?_
    rcases ifE h with ⟨c, h⟩ | ⟨c, h⟩
    · refine RR.c_lt (fun _ => ?_) (fun q => absurd c q)
      refine RR.weak [] trivial ?_
      exact s_m_nextToken_367 _ h
    · refine RR.c_lt (fun q => absurd q c) (fun _ => ?_)
      refine RR.runs (pc' := icm .gt v1 (61 : Int32) 367 363) (lc' := [(1, .int v1)]) (st' := [.ref 500]) (S1 := S) (nL := 2) (cd := cd_2408) mx_2408 rfl rfl 3 rfl ?_
      rcases ifE h with ⟨c, h⟩ | ⟨c, h⟩
      · refine RR.c_gt (fun _ => ?_) (fun q => absurd c q)
        refine RR.weak [] trivial ?_
        exact s_m_nextToken_367 _ h
      · refine RR.c_gt (fun q => absurd q c) (fun _ => ?_)
        refine RR.weak [] trivial ?_
        exact s_m_nextToken_363 _ h
def m_nextToken_322 (v1 : Int32) (S : St) : Re Unit :=
  lt' (wI S 500 4 (((rI S 500 4) + (1 : Int32)))) fun S1 =>
  if v1 < (40 : Int32) then (
    m_nextToken_345 v1 S1)
  else (
    if (43 : Int32) < v1 then (
      m_nextToken_345 v1 S1)
    else (
      m_nextToken_363 S1))
set_option maxRecDepth 100000 in
theorem s_m_nextToken_322 {d : Nat} {S' : St} {r : Unit} (v1 : Int32) (S : St) (h : m_nextToken_322 v1 S = some (r, S')) : RR KM (d + 1) 2408 322 [(0, .ref 500), (1, .int v1)] [] S none S' := by
  unfold m_nextToken_322 at h
  refine RR.runs (pc' := 332) (lc' := [(0, .ref 500), (1, .int v1)]) (st' := []) (S1 := (wI S 500 4 (((rI S 500 4) + (1 : Int32))))) (nL := 2) (cd := cd_2408) mx_2408 rfl rfl 6 rfl ?_
  obtain ⟨S1, eS1, h⟩ := ltE h
  rw [← eS1]
  refine RR.runs (pc' := icm .lt v1 (40 : Int32) 345 339) (lc' := [(0, .ref 500), (1, .int v1)]) (st' := [.ref 500]) (S1 := S1) (nL := 2) (cd := cd_2408) mx_2408 rfl rfl 4 rfl ?_
  rcases ifE h with ⟨c, h⟩ | ⟨c, h⟩
  · refine RR.c_lt (fun _ => ?_) (fun q => absurd c q)
    refine RR.weak [(1, .int v1)] ⟨rfl, trivial⟩ ?_
    exact s_m_nextToken_345 _ _ h
  · refine RR.c_lt (fun q => absurd q c) (fun _ => ?_)
    refine RR.runs (pc' := icm .le v1 (43 : Int32) 363 345) (lc' := [(0, .ref 500), (1, .int v1)]) (st' := [.ref 500]) (S1 := S1) (nL := 2) (cd := cd_2408) mx_2408 rfl rfl 3 rfl ?_
    rcases ifE h with ⟨c, h⟩ | ⟨c, h⟩
    · refine RR.c_le (fun _ => ?_) (fun q => absurd c q)
      refine RR.weak [(1, .int v1)] ⟨rfl, trivial⟩ ?_
      exact s_m_nextToken_345 _ _ h
    · refine RR.c_le (fun q => absurd q c) (fun _ => ?_)
      refine RR.weak [] trivial ?_
      exact s_m_nextToken_363 _ h
def m_nextToken_318 (p0 : Int32) (S : St) : Re Unit :=
  lt' (wI S 500 6 p0) fun S1 =>
  some ((), S1)
set_option maxRecDepth 100000 in
theorem s_m_nextToken_318 {d : Nat} {S' : St} {r : Unit} (p0 : Int32) (S : St) (h : m_nextToken_318 p0 S = some (r, S')) : RR KM (d + 1) 2408 318 [] [.int p0, .ref 500] S none S' := by
  unfold m_nextToken_318 at h
  refine RR.runs (pc' := 321) (lc' := []) (st' := []) (S1 := (wI S 500 6 p0)) (nL := 2) (cd := cd_2408) mx_2408 rfl rfl 1 rfl ?_
  obtain ⟨S1, eS1, h⟩ := ltE h
  rw [← eS1]
  cases h
  exact RR.retv mx_2408 rfl rfl rfl
def m_nextToken_299 (S : St) : Re Unit :=
  if (4 : Int32) < ((rI S 500 4) - (rI S 500 5)) then (
    m_nextToken_318 (4 : Int32) S)
  else (
    m_nextToken_318 (2 : Int32) S)
set_option maxRecDepth 100000 in
theorem s_m_nextToken_299 {d : Nat} {S' : St} {r : Unit} (S : St) (h : m_nextToken_299 S = some (r, S')) : RR KM (d + 1) 2408 299 [(0, .ref 500)] [] S none S' := by
  unfold m_nextToken_299 at h
  refine RR.runs (pc' := icm .le (((rI S 500 4) - (rI S 500 5))) (4 : Int32) 317 313) (lc' := [(0, .ref 500)]) (st' := [.ref 500]) (S1 := S) (nL := 2) (cd := cd_2408) mx_2408 rfl rfl 8 rfl ?_
  rcases ifE h with ⟨c, h⟩ | ⟨c, h⟩
  · refine RR.c_le (fun _ => ?_) (fun q => absurd c q)
    refine RR.runs (pc' := 318) (lc' := [(0, .ref 500)]) (st' := [.int (4 : Int32), .ref 500]) (S1 := S) (nL := 2) (cd := cd_2408) mx_2408 rfl rfl 2 rfl ?_
    refine RR.weak [] trivial ?_
    exact s_m_nextToken_318 _ _ h
  · refine RR.c_le (fun q => absurd q c) (fun _ => ?_)
    refine RR.runs (pc' := 318) (lc' := [(0, .ref 500)]) (st' := [.int (2 : Int32), .ref 500]) (S1 := S) (nL := 2) (cd := cd_2408) mx_2408 rfl rfl 1 rfl ?_
    refine RR.weak [] trivial ?_
    exact s_m_nextToken_318 _ _ h
def m_nextToken_286 (k224 : St → Re Unit) (S : St) : Re Unit :=
  lt' (wI S 500 4 (((rI S 500 4) + (1 : Int32)))) fun S1 =>
  k224 S1
set_option maxRecDepth 100000 in
theorem s_m_nextToken_286 {d : Nat} (k224 : St → Re Unit) {S' : St} {r : Unit} (b224 : ∀ (S : St), k224 S = some (r, S') → RR KM (d + 1) 2408 224 [(0, .ref 500)] [] S none S') (S : St) (h : m_nextToken_286 k224 S = some (r, S')) : RR KM (d + 1) 2408 286 [(0, .ref 500)] [] S none S' := by
  unfold m_nextToken_286 at h
  refine RR.runs (pc' := 296) (lc' := [(0, .ref 500)]) (st' := []) (S1 := (wI S 500 4 (((rI S 500 4) + (1 : Int32))))) (nL := 2) (cd := cd_2408) mx_2408 rfl rfl 6 rfl ?_
  obtain ⟨S1, eS1, h⟩ := ltE h
  rw [← eS1]
  refine RR.runs (pc' := 224) (lc' := [(0, .ref 500)]) (st' := []) (S1 := S1) (nL := 2) (cd := cd_2408) mx_2408 rfl rfl 1 rfl ?_
  refine RR.weak [(0, .ref 500)] ⟨rfl, trivial⟩ ?_
  exact b224 _ h
def m_nextToken_224 : Nat → St → Re Unit
  | 0, _ => none
  | n + 1, S =>
  bn (m_signAt (rI S 500 4) S) fun r1 S2 =>
  if r1 < (48 : Int32) then (
    m_nextToken_299 S2)
  else (
    bn (m_signAt (rI S2 500 4) S2) fun r3 S4 =>
    if (57 : Int32) < r3 then (
      m_nextToken_299 S4)
    else (
      if ((rI S4 500 4) - (rI S4 500 5)) < (4 : Int32) then (
        bn (m_signAt (rI S4 500 4) S4) fun r5 S6 =>
        lt' (wI S6 500 8 (((((rI S4 500 8) * (10 : Int32)) + r5) - (48 : Int32)))) fun S7 =>
        m_nextToken_286 (m_nextToken_224 n) S7)
      else (
        m_nextToken_286 (m_nextToken_224 n) S4)))
set_option maxRecDepth 100000 in
theorem s_m_nextToken_224 {d : Nat} {S' : St} {r : Unit} : ∀ (n : Nat) (S : St), m_nextToken_224 n S = some (r, S') → RR KM (d + 1) 2408 224 [(0, .ref 500)] [] S none S' := by
  intro n
  induction n with
  | zero => intro S h; simp only [m_nextToken_224] at h; cases h
  | succ n ih =>
    intro S h
    simp only [m_nextToken_224] at h
    refine RR.runs (pc' := 229) (lc' := [(0, .ref 500)]) (st' := [.int (rI S 500 4), .ref 500]) (S1 := S) (nL := 2) (cd := cd_2408) mx_2408 rfl rfl 3 rfl ?_
    obtain ⟨r1, S2, h1, h⟩ := bnE h
    refine RR.callV (b := 500) (as := [.int (rI S 500 4)]) (rest := []) (r1 := (some (.int r1))) (S1 := S2) mx_2408 rfl rfl mx_2407 rfl rfl (by decide) (Or.inl rfl) (Nat.le_of_ble_eq_true rfl) (Nat.le_of_ble_eq_true rfl) (RC.deep (by omega) (s_m_signAt (d := d) _ _ h1)) ?_
    show RR KM _ 2408 232 [(0, .ref 500)] [.int r1] S2 _ _
    refine RR.runs (pc' := icm .lt r1 (48 : Int32) 299 237) (lc' := [(0, .ref 500)]) (st' := []) (S1 := S2) (nL := 2) (cd := cd_2408) mx_2408 rfl rfl 2 rfl ?_
    rcases ifE h with ⟨c, h⟩ | ⟨c, h⟩
    · refine RR.c_lt (fun _ => ?_) (fun q => absurd c q)
      refine RR.weak [(0, .ref 500)] ⟨rfl, trivial⟩ ?_
      exact s_m_nextToken_299 _ h
    · refine RR.c_lt (fun q => absurd q c) (fun _ => ?_)
      refine RR.runs (pc' := 242) (lc' := [(0, .ref 500)]) (st' := [.int (rI S2 500 4), .ref 500]) (S1 := S2) (nL := 2) (cd := cd_2408) mx_2408 rfl rfl 3 rfl ?_
      obtain ⟨r3, S4, h1, h⟩ := bnE h
      refine RR.callV (b := 500) (as := [.int (rI S2 500 4)]) (rest := []) (r1 := (some (.int r3))) (S1 := S4) mx_2408 rfl rfl mx_2407 rfl rfl (by decide) (Or.inl rfl) (Nat.le_of_ble_eq_true rfl) (Nat.le_of_ble_eq_true rfl) (RC.deep (by omega) (s_m_signAt (d := d) _ _ h1)) ?_
      show RR KM _ 2408 245 [(0, .ref 500)] [.int r3] S4 _ _
      refine RR.runs (pc' := icm .gt r3 (57 : Int32) 299 250) (lc' := [(0, .ref 500)]) (st' := []) (S1 := S4) (nL := 2) (cd := cd_2408) mx_2408 rfl rfl 2 rfl ?_
      rcases ifE h with ⟨c, h⟩ | ⟨c, h⟩
      · refine RR.c_gt (fun _ => ?_) (fun q => absurd c q)
        refine RR.weak [(0, .ref 500)] ⟨rfl, trivial⟩ ?_
        exact s_m_nextToken_299 _ h
      · refine RR.c_gt (fun q => absurd q c) (fun _ => ?_)
        refine RR.runs (pc' := icm .ge (((rI S4 500 4) - (rI S4 500 5))) (4 : Int32) 286 263) (lc' := [(0, .ref 500)]) (st' := []) (S1 := S4) (nL := 2) (cd := cd_2408) mx_2408 rfl rfl 7 rfl ?_
        rcases ifE h with ⟨c, h⟩ | ⟨c, h⟩
        · refine RR.c_ge (fun _ => ?_) (fun q => absurd c q)
          refine RR.runs (pc' := 276) (lc' := [(0, .ref 500)]) (st' := [.int (rI S4 500 4), .ref 500, .int (((rI S4 500 8) * (10 : Int32))), .ref 500]) (S1 := S4) (nL := 2) (cd := cd_2408) mx_2408 rfl rfl 8 rfl ?_
          obtain ⟨r5, S6, h1, h⟩ := bnE h
          refine RR.callV (b := 500) (as := [.int (rI S4 500 4)]) (rest := [.int (((rI S4 500 8) * (10 : Int32))), .ref 500]) (r1 := (some (.int r5))) (S1 := S6) mx_2408 rfl rfl mx_2407 rfl rfl (by decide) (Or.inl rfl) (Nat.le_of_ble_eq_true rfl) (Nat.le_of_ble_eq_true rfl) (RC.deep (by omega) (s_m_signAt (d := d) _ _ h1)) ?_
          show RR KM _ 2408 279 [(0, .ref 500)] [.int r5, .int (((rI S4 500 8) * (10 : Int32))), .ref 500] S6 _ _
          refine RR.runs (pc' := 286) (lc' := [(0, .ref 500)]) (st' := []) (S1 := (wI S6 500 8 (((((rI S4 500 8) * (10 : Int32)) + r5) - (48 : Int32))))) (nL := 2) (cd := cd_2408) mx_2408 rfl rfl 4 rfl ?_
          obtain ⟨S7, eS7, h⟩ := ltE h
          rw [← eS7]
          refine RR.weak [(0, .ref 500)] ⟨rfl, trivial⟩ ?_
          exact s_m_nextToken_286 _ (fun S h => ih S h) _ h
        · refine RR.c_ge (fun q => absurd q c) (fun _ => ?_)
          refine RR.weak [(0, .ref 500)] ⟨rfl, trivial⟩ ?_
          exact s_m_nextToken_286 _ (fun S h => ih S h) _ h
def m_nextToken_212 (v1 : Int32) (S : St) : Re Unit :=
  if v1 < (48 : Int32) then (
    m_nextToken_322 v1 S)
  else (
    if (57 : Int32) < v1 then (
      m_nextToken_322 v1 S)
    else (
      m_nextToken_224 FU S))
set_option maxRecDepth 100000 in
theorem s_m_nextToken_212 {d : Nat} {S' : St} {r : Unit} (v1 : Int32) (S : St) (h : m_nextToken_212 v1 S = some (r, S')) : RR KM (d + 1) 2408 212 [(0, .ref 500), (1, .int v1)] [] S none S' := by
  unfold m_nextToken_212 at h
  refine RR.runs (pc' := icm .lt v1 (48 : Int32) 322 218) (lc' := [(0, .ref 500), (1, .int v1)]) (st' := []) (S1 := S) (nL := 2) (cd := cd_2408) mx_2408 rfl rfl 3 rfl ?_
  rcases ifE h with ⟨c, h⟩ | ⟨c, h⟩
  · refine RR.c_lt (fun _ => ?_) (fun q => absurd c q)
    refine RR.weak [(0, .ref 500), (1, .int v1)] ⟨rfl, rfl, trivial⟩ ?_
    exact s_m_nextToken_322 _ _ h
  · refine RR.c_lt (fun q => absurd q c) (fun _ => ?_)
    refine RR.runs (pc' := icm .gt v1 (57 : Int32) 322 224) (lc' := [(0, .ref 500), (1, .int v1)]) (st' := []) (S1 := S) (nL := 2) (cd := cd_2408) mx_2408 rfl rfl 3 rfl ?_
    rcases ifE h with ⟨c, h⟩ | ⟨c, h⟩
    · refine RR.c_gt (fun _ => ?_) (fun q => absurd c q)
      refine RR.weak [(0, .ref 500), (1, .int v1)] ⟨rfl, rfl, trivial⟩ ?_
      exact s_m_nextToken_322 _ _ h
    · refine RR.c_gt (fun q => absurd q c) (fun _ => ?_)
      refine RR.weak [(0, .ref 500)] ⟨rfl, trivial⟩ ?_
      exact s_m_nextToken_224 _ _ h
def m_nextToken_208 (p0 : Int32) (S : St) : Re Unit :=
  lt' (wI S 500 6 p0) fun S1 =>
  some ((), S1)
set_option maxRecDepth 100000 in
theorem s_m_nextToken_208 {d : Nat} {S' : St} {r : Unit} (p0 : Int32) (S : St) (h : m_nextToken_208 p0 S = some (r, S')) : RR KM (d + 1) 2408 208 [] [.int p0, .ref 500] S none S' := by
  unfold m_nextToken_208 at h
  refine RR.runs (pc' := 211) (lc' := []) (st' := []) (S1 := (wI S 500 6 p0)) (nL := 2) (cd := cd_2408) mx_2408 rfl rfl 1 rfl ?_
  obtain ⟨S1, eS1, h⟩ := ltE h
  rw [← eS1]
  cases h
  exact RR.retv mx_2408 rfl rfl rfl
def m_nextToken_188 (S : St) : Re Unit :=
  if (8 : Int32) < ((rI S 500 4) - (rI S 500 5)) then (
    m_nextToken_208 (4 : Int32) S)
  else (
    m_nextToken_208 (1 : Int32) S)
set_option maxRecDepth 100000 in
theorem s_m_nextToken_188 {d : Nat} {S' : St} {r : Unit} (S : St) (h : m_nextToken_188 S = some (r, S')) : RR KM (d + 1) 2408 188 [(0, .ref 500)] [] S none S' := by
  unfold m_nextToken_188 at h
  refine RR.runs (pc' := icm .le (((rI S 500 4) - (rI S 500 5))) (8 : Int32) 207 203) (lc' := [(0, .ref 500)]) (st' := [.ref 500]) (S1 := S) (nL := 2) (cd := cd_2408) mx_2408 rfl rfl 8 rfl ?_
  rcases ifE h with ⟨c, h⟩ | ⟨c, h⟩
  · refine RR.c_le (fun _ => ?_) (fun q => absurd c q)
    refine RR.runs (pc' := 208) (lc' := [(0, .ref 500)]) (st' := [.int (4 : Int32), .ref 500]) (S1 := S) (nL := 2) (cd := cd_2408) mx_2408 rfl rfl 2 rfl ?_
    refine RR.weak [] trivial ?_
    exact s_m_nextToken_208 _ _ h
  · refine RR.c_le (fun q => absurd q c) (fun _ => ?_)
    refine RR.runs (pc' := 208) (lc' := [(0, .ref 500)]) (st' := [.int (1 : Int32), .ref 500]) (S1 := S) (nL := 2) (cd := cd_2408) mx_2408 rfl rfl 1 rfl ?_
    refine RR.weak [] trivial ?_
    exact s_m_nextToken_208 _ _ h
def m_nextToken_175 (k109 : St → Re Unit) (S : St) : Re Unit :=
  lt' (wI S 500 4 (((rI S 500 4) + (1 : Int32)))) fun S1 =>
  k109 S1
set_option maxRecDepth 100000 in
theorem s_m_nextToken_175 {d : Nat} (k109 : St → Re Unit) {S' : St} {r : Unit} (b109 : ∀ (S : St), k109 S = some (r, S') → RR KM (d + 1) 2408 109 [(0, .ref 500)] [] S none S') (S : St) (h : m_nextToken_175 k109 S = some (r, S')) : RR KM (d + 1) 2408 175 [(0, .ref 500)] [] S none S' := by
  unfold m_nextToken_175 at h
  refine RR.runs (pc' := 185) (lc' := [(0, .ref 500)]) (st' := []) (S1 := (wI S 500 4 (((rI S 500 4) + (1 : Int32))))) (nL := 2) (cd := cd_2408) mx_2408 rfl rfl 6 rfl ?_
  obtain ⟨S1, eS1, h⟩ := ltE h
  rw [← eS1]
  refine RR.runs (pc' := 109) (lc' := [(0, .ref 500)]) (st' := []) (S1 := S1) (nL := 2) (cd := cd_2408) mx_2408 rfl rfl 1 rfl ?_
  refine RR.weak [(0, .ref 500)] ⟨rfl, trivial⟩ ?_
  exact b109 _ h
def m_nextToken_109 : Nat → St → Re Unit
  | 0, _ => none
  | n + 1, S =>
  bn (m_signAt (rI S 500 4) S) fun r1 S2 =>
  if r1 < (97 : Int32) then (
    m_nextToken_188 S2)
  else (
    bn (m_signAt (rI S2 500 4) S2) fun r3 S4 =>
    if (122 : Int32) < r3 then (
      m_nextToken_188 S4)
    else (
      if ((rI S4 500 4) - (rI S4 500 5)) < (8 : Int32) then (
        bn (m_signAt (rI S4 500 4) S4) fun r5 S6 =>
        lt' (wJ S6 500 7 (((((rJ S4 500 7) * (27 : Int64)) + r5.toInt64) - (96 : Int64)))) fun S7 =>
        m_nextToken_175 (m_nextToken_109 n) S7)
      else (
        m_nextToken_175 (m_nextToken_109 n) S4)))
set_option maxRecDepth 100000 in
theorem s_m_nextToken_109 {d : Nat} {S' : St} {r : Unit} : ∀ (n : Nat) (S : St), m_nextToken_109 n S = some (r, S') → RR KM (d + 1) 2408 109 [(0, .ref 500)] [] S none S' := by
  intro n
  induction n with
  | zero => intro S h; simp only [m_nextToken_109] at h; cases h
  | succ n ih =>
    intro S h
    simp only [m_nextToken_109] at h
    refine RR.runs (pc' := 114) (lc' := [(0, .ref 500)]) (st' := [.int (rI S 500 4), .ref 500]) (S1 := S) (nL := 2) (cd := cd_2408) mx_2408 rfl rfl 3 rfl ?_
    obtain ⟨r1, S2, h1, h⟩ := bnE h
    refine RR.callV (b := 500) (as := [.int (rI S 500 4)]) (rest := []) (r1 := (some (.int r1))) (S1 := S2) mx_2408 rfl rfl mx_2407 rfl rfl (by decide) (Or.inl rfl) (Nat.le_of_ble_eq_true rfl) (Nat.le_of_ble_eq_true rfl) (RC.deep (by omega) (s_m_signAt (d := d) _ _ h1)) ?_
    show RR KM _ 2408 117 [(0, .ref 500)] [.int r1] S2 _ _
    refine RR.runs (pc' := icm .lt r1 (97 : Int32) 188 122) (lc' := [(0, .ref 500)]) (st' := []) (S1 := S2) (nL := 2) (cd := cd_2408) mx_2408 rfl rfl 2 rfl ?_
    rcases ifE h with ⟨c, h⟩ | ⟨c, h⟩
    · refine RR.c_lt (fun _ => ?_) (fun q => absurd c q)
      refine RR.weak [(0, .ref 500)] ⟨rfl, trivial⟩ ?_
      exact s_m_nextToken_188 _ h
    · refine RR.c_lt (fun q => absurd q c) (fun _ => ?_)
      refine RR.runs (pc' := 127) (lc' := [(0, .ref 500)]) (st' := [.int (rI S2 500 4), .ref 500]) (S1 := S2) (nL := 2) (cd := cd_2408) mx_2408 rfl rfl 3 rfl ?_
      obtain ⟨r3, S4, h1, h⟩ := bnE h
      refine RR.callV (b := 500) (as := [.int (rI S2 500 4)]) (rest := []) (r1 := (some (.int r3))) (S1 := S4) mx_2408 rfl rfl mx_2407 rfl rfl (by decide) (Or.inl rfl) (Nat.le_of_ble_eq_true rfl) (Nat.le_of_ble_eq_true rfl) (RC.deep (by omega) (s_m_signAt (d := d) _ _ h1)) ?_
      show RR KM _ 2408 130 [(0, .ref 500)] [.int r3] S4 _ _
      refine RR.runs (pc' := icm .gt r3 (122 : Int32) 188 135) (lc' := [(0, .ref 500)]) (st' := []) (S1 := S4) (nL := 2) (cd := cd_2408) mx_2408 rfl rfl 2 rfl ?_
      rcases ifE h with ⟨c, h⟩ | ⟨c, h⟩
      · refine RR.c_gt (fun _ => ?_) (fun q => absurd c q)
        refine RR.weak [(0, .ref 500)] ⟨rfl, trivial⟩ ?_
        exact s_m_nextToken_188 _ h
      · refine RR.c_gt (fun q => absurd q c) (fun _ => ?_)
        refine RR.runs (pc' := icm .ge (((rI S4 500 4) - (rI S4 500 5))) (8 : Int32) 175 149) (lc' := [(0, .ref 500)]) (st' := []) (S1 := S4) (nL := 2) (cd := cd_2408) mx_2408 rfl rfl 7 rfl ?_
        rcases ifE h with ⟨c, h⟩ | ⟨c, h⟩
        · refine RR.c_ge (fun _ => ?_) (fun q => absurd c q)
          refine RR.runs (pc' := 163) (lc' := [(0, .ref 500)]) (st' := [.int (rI S4 500 4), .ref 500, .long (((rJ S4 500 7) * (27 : Int64))), .ref 500]) (S1 := S4) (nL := 2) (cd := cd_2408) mx_2408 rfl rfl 8 rfl ?_
          obtain ⟨r5, S6, h1, h⟩ := bnE h
          refine RR.callV (b := 500) (as := [.int (rI S4 500 4)]) (rest := [.long (((rJ S4 500 7) * (27 : Int64))), .ref 500]) (r1 := (some (.int r5))) (S1 := S6) mx_2408 rfl rfl mx_2407 rfl rfl (by decide) (Or.inl rfl) (Nat.le_of_ble_eq_true rfl) (Nat.le_of_ble_eq_true rfl) (RC.deep (by omega) (s_m_signAt (d := d) _ _ h1)) ?_
          show RR KM _ 2408 166 [(0, .ref 500)] [.int r5, .long (((rJ S4 500 7) * (27 : Int64))), .ref 500] S6 _ _
          refine RR.runs (pc' := 175) (lc' := [(0, .ref 500)]) (st' := []) (S1 := (wJ S6 500 7 (((((rJ S4 500 7) * (27 : Int64)) + r5.toInt64) - (96 : Int64))))) (nL := 2) (cd := cd_2408) mx_2408 rfl rfl 5 rfl ?_
          obtain ⟨S7, eS7, h⟩ := ltE h
          rw [← eS7]
          refine RR.weak [(0, .ref 500)] ⟨rfl, trivial⟩ ?_
          exact s_m_nextToken_175 _ (fun S h => ih S h) _ h
        · refine RR.c_ge (fun q => absurd q c) (fun _ => ?_)
          refine RR.weak [(0, .ref 500)] ⟨rfl, trivial⟩ ?_
          exact s_m_nextToken_175 _ (fun S h => ih S h) _ h
def m_nextToken_52 (S : St) : Re Unit :=
  lt' (wI S 500 5 (rI S 500 4)) fun S1 =>
  lt' (wJ S1 500 7 (0 : Int64)) fun S2 =>
  lt' (wI S2 500 8 (0 : Int32)) fun S3 =>
  if (rI S3 500 4) = (rI S3 500 3) then (
    lt' (wI S3 500 6 (0 : Int32)) fun S4 =>
    some ((), S4))
  else (
    if (rI S3 500 4) < 0 ∨ 1000 ≤ (rI S3 500 4).toNatClampNeg then none else
    lt' ((rI S3 501 (rI S3 500 4).toNatClampNeg) : Int32) fun x5 =>
    if x5 < (97 : Int32) then (
      m_nextToken_212 x5 S3)
    else (
      if (122 : Int32) < x5 then (
        m_nextToken_212 x5 S3)
      else (
        m_nextToken_109 FU S3)))
set_option maxRecDepth 100000 in
theorem s_m_nextToken_52 {d : Nat} {S' : St} {r : Unit} (S : St) (h : m_nextToken_52 S = some (r, S')) : RR KM (d + 1) 2408 52 [(0, .ref 500)] [] S none S' := by
  unfold m_nextToken_52 at h
  refine RR.runs (pc' := 60) (lc' := [(0, .ref 500)]) (st' := []) (S1 := (wI S 500 5 (rI S 500 4))) (nL := 2) (cd := cd_2408) mx_2408 rfl rfl 4 rfl ?_
  obtain ⟨S1, eS1, h⟩ := ltE h
  rw [← eS1]
  refine RR.runs (pc' := 65) (lc' := [(0, .ref 500)]) (st' := []) (S1 := (wJ S1 500 7 (0 : Int64))) (nL := 2) (cd := cd_2408) mx_2408 rfl rfl 3 rfl ?_
  obtain ⟨S2, eS2, h⟩ := ltE h
  rw [← eS2]
  refine RR.runs (pc' := 70) (lc' := [(0, .ref 500)]) (st' := []) (S1 := (wI S2 500 8 (0 : Int32))) (nL := 2) (cd := cd_2408) mx_2408 rfl rfl 3 rfl ?_
  obtain ⟨S3, eS3, h⟩ := ltE h
  rw [← eS3]
  refine RR.runs (pc' := icm .ne (rI S3 500 4) (rI S3 500 3) 87 81) (lc' := [(0, .ref 500)]) (st' := []) (S1 := S3) (nL := 2) (cd := cd_2408) mx_2408 rfl rfl 5 rfl ?_
  rcases ifE h with ⟨c, h⟩ | ⟨c, h⟩
  · refine RR.c_ne (fun _ => ?_) (fun q => absurd c q)
    refine RR.runs (pc' := 86) (lc' := [(0, .ref 500)]) (st' := []) (S1 := (wI S3 500 6 (0 : Int32))) (nL := 2) (cd := cd_2408) mx_2408 rfl rfl 3 rfl ?_
    obtain ⟨S4, eS4, h⟩ := ltE h
    rw [← eS4]
    cases h
    exact RR.retv mx_2408 rfl rfl rfl
  · refine RR.c_ne (fun q => absurd q c) (fun _ => ?_)
    refine RR.runs (pc' := 95) (lc' := [(0, .ref 500)]) (st' := [.int (rI S3 500 4), .ref 501]) (S1 := S3) (nL := 2) (cd := cd_2408) mx_2408 rfl rfl 4 rfl ?_
    obtain ⟨g, h⟩ := gnE h
    refine RR.gPN (c2 := (KM.1 501).1 = 1) (pc' := 96) (lc' := [(0, .ref 500)]) (st' := [.int ((rI S3 501 (rI S3 500 4).toNatClampNeg))]) (S1 := S3) (nL := 2) (cd := cd_2408) mx_2408 rfl rfl rfl rfl g ?_
    refine RR.runs (pc' := 97) (lc' := [(1, .int ((rI S3 501 (rI S3 500 4).toNatClampNeg))), (0, .ref 500)]) (st' := []) (S1 := S3) (nL := 2) (cd := cd_2408) mx_2408 rfl rfl 1 rfl ?_
    obtain ⟨x5, ex5, h⟩ := ltE h
    rw [← ex5]
    refine RR.runs (pc' := icm .lt x5 (97 : Int32) 212 103) (lc' := [(1, .int x5), (0, .ref 500)]) (st' := []) (S1 := S3) (nL := 2) (cd := cd_2408) mx_2408 rfl rfl 3 rfl ?_
    rcases ifE h with ⟨c, h⟩ | ⟨c, h⟩
    · refine RR.c_lt (fun _ => ?_) (fun q => absurd c q)
      refine RR.weak [(0, .ref 500), (1, .int x5)] ⟨rfl, rfl, trivial⟩ ?_
      exact s_m_nextToken_212 _ _ h
    · refine RR.c_lt (fun q => absurd q c) (fun _ => ?_)
      refine RR.runs (pc' := icm .gt x5 (122 : Int32) 212 109) (lc' := [(1, .int x5), (0, .ref 500)]) (st' := []) (S1 := S3) (nL := 2) (cd := cd_2408) mx_2408 rfl rfl 3 rfl ?_
      rcases ifE h with ⟨c, h⟩ | ⟨c, h⟩
      · refine RR.c_gt (fun _ => ?_) (fun q => absurd c q)
        refine RR.weak [(0, .ref 500), (1, .int x5)] ⟨rfl, rfl, trivial⟩ ?_
        exact s_m_nextToken_212 _ _ h
      · refine RR.c_gt (fun q => absurd q c) (fun _ => ?_)
        refine RR.weak [(0, .ref 500)] ⟨rfl, trivial⟩ ?_
        exact s_m_nextToken_109 _ _ h
def m_nextToken_0 : Nat → St → Re Unit
  | 0, _ => none
  | n + 1, S =>
  if (rI S 500 4) < (rI S 500 3) then (
    if (rI S 500 4) < 0 ∨ 1000 ≤ (rI S 500 4).toNatClampNeg then none else
    if (rI S 501 (rI S 500 4).toNatClampNeg) = (32 : Int32) then (
      m_nextToken_39 (m_nextToken_0 n) S)
    else (
      if (rI S 500 4) < 0 ∨ 1000 ≤ (rI S 500 4).toNatClampNeg then none else
      if (rI S 501 (rI S 500 4).toNatClampNeg) = (10 : Int32) then (
        m_nextToken_39 (m_nextToken_0 n) S)
      else (
        m_nextToken_52 S)))
  else (
    m_nextToken_52 S)
set_option maxRecDepth 100000 in
theorem s_m_nextToken_0 {d : Nat} {S' : St} {r : Unit} : ∀ (n : Nat) (S : St), m_nextToken_0 n S = some (r, S') → RR KM (d + 1) 2408 0 [(0, .ref 500)] [] S none S' := by
  intro n
  induction n with
  | zero => intro S h; simp only [m_nextToken_0] at h; cases h
  | succ n ih =>
    intro S h
    simp only [m_nextToken_0] at h
    refine RR.runs (pc' := icm .ge (rI S 500 4) (rI S 500 3) 52 11) (lc' := [(0, .ref 500)]) (st' := []) (S1 := S) (nL := 2) (cd := cd_2408) mx_2408 rfl rfl 5 rfl ?_
    rcases ifE h with ⟨c, h⟩ | ⟨c, h⟩
    · refine RR.c_ge (fun _ => ?_) (fun q => absurd c q)
      refine RR.runs (pc' := 19) (lc' := [(0, .ref 500)]) (st' := [.int (rI S 500 4), .ref 501]) (S1 := S) (nL := 2) (cd := cd_2408) mx_2408 rfl rfl 4 rfl ?_
      obtain ⟨g, h⟩ := gnE h
      refine RR.gPN (c2 := (KM.1 501).1 = 1) (pc' := 20) (lc' := [(0, .ref 500)]) (st' := [.int ((rI S 501 (rI S 500 4).toNatClampNeg))]) (S1 := S) (nL := 2) (cd := cd_2408) mx_2408 rfl rfl rfl rfl g ?_
      refine RR.runs (pc' := icm .eq ((rI S 501 (rI S 500 4).toNatClampNeg)) (32 : Int32) 39 25) (lc' := [(0, .ref 500)]) (st' := []) (S1 := S) (nL := 2) (cd := cd_2408) mx_2408 rfl rfl 2 rfl ?_
      rcases ifE h with ⟨c, h⟩ | ⟨c, h⟩
      · refine RR.c_eq (fun _ => ?_) (fun q => absurd c q)
        refine RR.weak [(0, .ref 500)] ⟨rfl, trivial⟩ ?_
        exact s_m_nextToken_39 _ (fun S h => ih S h) _ h
      · refine RR.c_eq (fun q => absurd q c) (fun _ => ?_)
        refine RR.runs (pc' := 33) (lc' := [(0, .ref 500)]) (st' := [.int (rI S 500 4), .ref 501]) (S1 := S) (nL := 2) (cd := cd_2408) mx_2408 rfl rfl 4 rfl ?_
        obtain ⟨g, h⟩ := gnE h
        refine RR.gPN (c2 := (KM.1 501).1 = 1) (pc' := 34) (lc' := [(0, .ref 500)]) (st' := [.int ((rI S 501 (rI S 500 4).toNatClampNeg))]) (S1 := S) (nL := 2) (cd := cd_2408) mx_2408 rfl rfl rfl rfl g ?_
        refine RR.runs (pc' := icm .ne ((rI S 501 (rI S 500 4).toNatClampNeg)) (10 : Int32) 52 39) (lc' := [(0, .ref 500)]) (st' := []) (S1 := S) (nL := 2) (cd := cd_2408) mx_2408 rfl rfl 2 rfl ?_
        rcases ifE h with ⟨c, h⟩ | ⟨c, h⟩
        · refine RR.c_ne (fun _ => ?_) (fun q => absurd c q)
          refine RR.weak [(0, .ref 500)] ⟨rfl, trivial⟩ ?_
          exact s_m_nextToken_39 _ (fun S h => ih S h) _ h
        · refine RR.c_ne (fun q => absurd q c) (fun _ => ?_)
          refine RR.weak [(0, .ref 500)] ⟨rfl, trivial⟩ ?_
          exact s_m_nextToken_52 _ h
    · refine RR.c_ge (fun q => absurd q c) (fun _ => ?_)
      refine RR.weak [(0, .ref 500)] ⟨rfl, trivial⟩ ?_
      exact s_m_nextToken_52 _ h
def m_nextToken (S : St) : Re Unit := m_nextToken_0 FU S
theorem s_m_nextToken {d : Nat} {S' : St} {r : Unit} (S : St) (h : m_nextToken S = some (r, S')) : RC KM (d + 1) 2408 [.ref 500] S none S' := RC.of rfl (s_m_nextToken_0 FU S h)
-- isWord (J)Z
def m_isWord_22 (p0 : Int32) (S : St) : Re Int32 :=
  if isBo p0 = true then some (p0, S) else none
set_option maxRecDepth 100000 in
theorem s_m_isWord_22 {d : Nat} {S' : St} {r : Int32} (p0 : Int32) (S : St) (h : m_isWord_22 p0 S = some (r, S')) : RR KM (d + 0) 2409 22 [] [.int p0] S (some (.int r)) S' := by
  unfold m_isWord_22 at h
  obtain ⟨g, h⟩ := gpE h
  cases h
  exact RR.retz mx_2409 rfl rfl rfl g
def m_isWord_21 (S : St) : Re Int32 :=
  m_isWord_22 (0 : Int32) S
set_option maxRecDepth 100000 in
theorem s_m_isWord_21 {d : Nat} {S' : St} {r : Int32} (S : St) (h : m_isWord_21 S = some (r, S')) : RR KM (d + 0) 2409 21 [] [] S (some (.int r)) S' := by
  unfold m_isWord_21 at h
  refine RR.runs (pc' := 22) (lc' := []) (st' := [.int (0 : Int32)]) (S1 := S) (nL := 3) (cd := cd_2409) mx_2409 rfl rfl 1 rfl ?_
  refine RR.weak [] trivial ?_
  exact s_m_isWord_22 _ _ h
def m_isWord (v1 : Int64) (S : St) : Re Int32 :=
  if (rI S 500 6) = (1 : Int32) then (
    if (lg_cmp (rJ S 500 7) v1) = 0 then (
      m_isWord_22 (1 : Int32) S)
    else (
      m_isWord_21 S))
  else (
    m_isWord_21 S)
set_option maxRecDepth 100000 in
theorem s0_m_isWord {d : Nat} {S' : St} {r : Int32} (v1 : Int64) (S : St) (h : m_isWord v1 S = some (r, S')) : RR KM (d + 0) 2409 0 [(0, .ref 500), (1, .long v1)] [] S (some (.int r)) S' := by
  unfold m_isWord at h
  refine RR.runs (pc' := icm .ne (rI S 500 6) (1 : Int32) 21 8) (lc' := [(0, .ref 500), (1, .long v1)]) (st' := []) (S1 := S) (nL := 3) (cd := cd_2409) mx_2409 rfl rfl 4 rfl ?_
  rcases ifE h with ⟨c, h⟩ | ⟨c, h⟩
  · refine RR.c_ne (fun _ => ?_) (fun q => absurd c q)
    refine RR.runs (pc' := icm .ne ((lg_cmp (rJ S 500 7) v1)) 0 21 17) (lc' := [(0, .ref 500), (1, .long v1)]) (st' := []) (S1 := S) (nL := 3) (cd := cd_2409) mx_2409 rfl rfl 5 rfl ?_
    rcases ifE h with ⟨c, h⟩ | ⟨c, h⟩
    · refine RR.c_ne (fun _ => ?_) (fun q => absurd c q)
      refine RR.runs (pc' := 22) (lc' := [(0, .ref 500), (1, .long v1)]) (st' := [.int (1 : Int32)]) (S1 := S) (nL := 3) (cd := cd_2409) mx_2409 rfl rfl 2 rfl ?_
      refine RR.weak [] trivial ?_
      exact s_m_isWord_22 _ _ h
    · refine RR.c_ne (fun q => absurd q c) (fun _ => ?_)
      refine RR.weak [] trivial ?_
      exact s_m_isWord_21 _ h
  · refine RR.c_ne (fun q => absurd q c) (fun _ => ?_)
    refine RR.weak [] trivial ?_
    exact s_m_isWord_21 _ h
theorem s_m_isWord {d : Nat} {S' : St} {r : Int32} (v1 : Int64) (S : St) (h : m_isWord v1 S = some (r, S')) : RC KM (d + 0) 2409 [.ref 500, .long v1] S (some (.int r)) S' := RC.of rfl (s0_m_isWord v1 S h)
-- isSign (I)Z
def m_isSign_26 (p0 : Int32) (S : St) : Re Int32 :=
  if isBo p0 = true then some (p0, S) else none
set_option maxRecDepth 100000 in
theorem s_m_isSign_26 {d : Nat} {S' : St} {r : Int32} (p0 : Int32) (S : St) (h : m_isSign_26 p0 S = some (r, S')) : RR KM (d + 0) 2410 26 [] [.int p0] S (some (.int r)) S' := by
  unfold m_isSign_26 at h
  obtain ⟨g, h⟩ := gpE h
  cases h
  exact RR.retz mx_2410 rfl rfl rfl g
def m_isSign_25 (S : St) : Re Int32 :=
  m_isSign_26 (0 : Int32) S
set_option maxRecDepth 100000 in
theorem s_m_isSign_25 {d : Nat} {S' : St} {r : Int32} (S : St) (h : m_isSign_25 S = some (r, S')) : RR KM (d + 0) 2410 25 [] [] S (some (.int r)) S' := by
  unfold m_isSign_25 at h
  refine RR.runs (pc' := 26) (lc' := []) (st' := [.int (0 : Int32)]) (S1 := S) (nL := 2) (cd := cd_2410) mx_2410 rfl rfl 1 rfl ?_
  refine RR.weak [] trivial ?_
  exact s_m_isSign_26 _ _ h
def m_isSign (v1 : Int32) (S : St) : Re Int32 :=
  if (rI S 500 6) = (3 : Int32) then (
    if (rI S 500 5) < 0 ∨ 1000 ≤ (rI S 500 5).toNatClampNeg then none else
    if (rI S 501 (rI S 500 5).toNatClampNeg) = v1 then (
      m_isSign_26 (1 : Int32) S)
    else (
      m_isSign_25 S))
  else (
    m_isSign_25 S)
set_option maxRecDepth 100000 in
theorem s0_m_isSign {d : Nat} {S' : St} {r : Int32} (v1 : Int32) (S : St) (h : m_isSign v1 S = some (r, S')) : RR KM (d + 0) 2410 0 [(0, .ref 500), (1, .int v1)] [] S (some (.int r)) S' := by
  unfold m_isSign at h
  refine RR.runs (pc' := icm .ne (rI S 500 6) (3 : Int32) 25 8) (lc' := [(0, .ref 500), (1, .int v1)]) (st' := []) (S1 := S) (nL := 2) (cd := cd_2410) mx_2410 rfl rfl 4 rfl ?_
  rcases ifE h with ⟨c, h⟩ | ⟨c, h⟩
  · refine RR.c_ne (fun _ => ?_) (fun q => absurd c q)
    refine RR.runs (pc' := 16) (lc' := [(0, .ref 500), (1, .int v1)]) (st' := [.int (rI S 500 5), .ref 501]) (S1 := S) (nL := 2) (cd := cd_2410) mx_2410 rfl rfl 4 rfl ?_
    obtain ⟨g, h⟩ := gnE h
    refine RR.gPN (c2 := (KM.1 501).1 = 1) (pc' := 17) (lc' := [(0, .ref 500), (1, .int v1)]) (st' := [.int ((rI S 501 (rI S 500 5).toNatClampNeg))]) (S1 := S) (nL := 2) (cd := cd_2410) mx_2410 rfl rfl rfl rfl g ?_
    refine RR.runs (pc' := icm .ne ((rI S 501 (rI S 500 5).toNatClampNeg)) v1 25 21) (lc' := [(0, .ref 500), (1, .int v1)]) (st' := []) (S1 := S) (nL := 2) (cd := cd_2410) mx_2410 rfl rfl 2 rfl ?_
    rcases ifE h with ⟨c, h⟩ | ⟨c, h⟩
    · refine RR.c_ne (fun _ => ?_) (fun q => absurd c q)
      refine RR.runs (pc' := 26) (lc' := [(0, .ref 500), (1, .int v1)]) (st' := [.int (1 : Int32)]) (S1 := S) (nL := 2) (cd := cd_2410) mx_2410 rfl rfl 2 rfl ?_
      refine RR.weak [] trivial ?_
      exact s_m_isSign_26 _ _ h
    · refine RR.c_ne (fun q => absurd q c) (fun _ => ?_)
      refine RR.weak [] trivial ?_
      exact s_m_isSign_25 _ h
  · refine RR.c_ne (fun q => absurd q c) (fun _ => ?_)
    refine RR.weak [] trivial ?_
    exact s_m_isSign_25 _ h
theorem s_m_isSign {d : Nat} {S' : St} {r : Int32} (v1 : Int32) (S : St) (h : m_isSign v1 S = some (r, S')) : RC KM (d + 0) 2410 [.ref 500, .int v1] S (some (.int r)) S' := RC.of rfl (s0_m_isSign v1 S h)
-- fails (I)Z
def m_fails (v1 : Int32) (S : St) : Re Int32 :=
  lt' (wI S 500 9 ((v1 + ((16 : Int32) * (rI S 500 5))))) fun S1 =>
  some ((0 : Int32), S1)
set_option maxRecDepth 100000 in
theorem s0_m_fails {d : Nat} {S' : St} {r : Int32} (v1 : Int32) (S : St) (h : m_fails v1 S = some (r, S')) : RR KM (d + 0) 2411 0 [(0, .ref 500), (1, .int v1)] [] S (some (.int r)) S' := by
  unfold m_fails at h
  refine RR.runs (pc' := 13) (lc' := [(0, .ref 500), (1, .int v1)]) (st' := []) (S1 := (wI S 500 9 ((v1 + ((16 : Int32) * (rI S 500 5)))))) (nL := 2) (cd := cd_2411) mx_2411 rfl rfl 8 rfl ?_
  obtain ⟨S1, eS1, h⟩ := ltE h
  rw [← eS1]
  refine RR.runs (pc' := 14) (lc' := [(0, .ref 500), (1, .int v1)]) (st' := [.int (0 : Int32)]) (S1 := S1) (nL := 2) (cd := cd_2411) mx_2411 rfl rfl 1 rfl ?_
  cases h
  exact RR.retz mx_2411 rfl rfl rfl rfl
theorem s_m_fails {d : Nat} {S' : St} {r : Int32} (v1 : Int32) (S : St) (h : m_fails v1 S = some (r, S')) : RC KM (d + 0) 2411 [.ref 500, .int v1] S (some (.int r)) S' := RC.of rfl (s0_m_fails v1 S h)
-- puts (I)V
def m_puts (v1 : Int32) (S : St) : Re Unit :=
  if (rI S 500 32) < 0 ∨ 2000 ≤ (rI S 500 32).toNatClampNeg then none else
  lt' (wI S 523 (rI S 500 32).toNatClampNeg v1) fun S1 =>
  lt' (wI S1 500 32 (((rI S1 500 32) + (1 : Int32)))) fun S2 =>
  some ((), S2)
set_option maxRecDepth 100000 in
theorem s0_m_puts {d : Nat} {S' : St} {r : Unit} (v1 : Int32) (S : St) (h : m_puts v1 S = some (r, S')) : RR KM (d + 0) 2412 0 [(0, .ref 500), (1, .int v1)] [] S none S' := by
  unfold m_puts at h
  refine RR.runs (pc' := 9) (lc' := [(0, .ref 500), (1, .int v1)]) (st' := [.int v1, .int (rI S 500 32), .ref 523]) (S1 := S) (nL := 2) (cd := cd_2412) mx_2412 rfl rfl 5 rfl ?_
  obtain ⟨g, h⟩ := gnE h
  refine RR.gPN (c2 := (KM.1 523).1 = 1) (pc' := 10) (lc' := [(0, .ref 500), (1, .int v1)]) (st' := []) (S1 := (wI S 523 (rI S 500 32).toNatClampNeg v1)) (nL := 2) (cd := cd_2412) mx_2412 rfl rfl rfl rfl g ?_
  obtain ⟨S1, eS1, h⟩ := ltE h
  rw [← eS1]
  refine RR.runs (pc' := 20) (lc' := [(0, .ref 500), (1, .int v1)]) (st' := []) (S1 := (wI S1 500 32 (((rI S1 500 32) + (1 : Int32))))) (nL := 2) (cd := cd_2412) mx_2412 rfl rfl 6 rfl ?_
  obtain ⟨S2, eS2, h⟩ := ltE h
  rw [← eS2]
  cases h
  exact RR.retv mx_2412 rfl rfl rfl
theorem s_m_puts {d : Nat} {S' : St} {r : Unit} (v1 : Int32) (S : St) (h : m_puts v1 S = some (r, S')) : RC KM (d + 0) 2412 [.ref 500, .int v1] S none S' := RC.of rfl (s0_m_puts v1 S h)
-- fact ()I
def m_fact_50 (p0 : Int32) (S : St) : Re Int32 :=
  some (p0, S)
set_option maxRecDepth 100000 in
theorem s_m_fact_50 {d : Nat} {S' : St} {r : Int32} (p0 : Int32) (S : St) (h : m_fact_50 p0 S = some (r, S')) : RR KM (d + 0) 2413 50 [] [.int p0] S (some (.int r)) S' := by
  unfold m_fact_50 at h
  cases h
  exact RR.reti mx_2413 rfl rfl rfl
def m_fact_112 (p0 : Int32) (S : St) : Re Int32 :=
  some (p0, S)
set_option maxRecDepth 100000 in
theorem s_m_fact_112 {d : Nat} {S' : St} {r : Int32} (p0 : Int32) (S : St) (h : m_fact_112 p0 S = some (r, S')) : RR KM (d + 0) 2413 112 [] [.int p0] S (some (.int r)) S' := by
  unfold m_fact_112 at h
  cases h
  exact RR.reti mx_2413 rfl rfl rfl
def m_fact (S : St) : Re Int32 :=
  if (rI S 500 6) = (1 : Int32) then (
    if (rI S 500 33) = (1 : Int32) then (
      if (lg_cmp (rJ S 500 7) (40613 : Int64)) = 0 then (
        m_fact_50 (5 : Int32) S)
      else (
        if (lg_cmp (rJ S 500 7) (923 : Int64)) = 0 then (
          m_fact_50 (6 : Int32) S)
        else (
          m_fact_50 (0 : Int32) S)))
    else (
      if (lg_cmp (rJ S 500 7) (2743057 : Int64)) = 0 then (
        m_fact_112 (1 : Int32) S)
      else (
        if (lg_cmp (rJ S 500 7) (10492274 : Int64)) = 0 then (
          m_fact_112 (2 : Int32) S)
        else (
          if (lg_cmp (rJ S 500 7) (9741983 : Int64)) = 0 then (
            m_fact_112 (3 : Int32) S)
          else (
            if (lg_cmp (rJ S 500 7) (381245 : Int64)) = 0 then (
              m_fact_112 (4 : Int32) S)
            else (
              m_fact_112 (0 : Int32) S))))))
  else (
    some ((0 : Int32), S))
set_option maxRecDepth 100000 in
theorem s0_m_fact {d : Nat} {S' : St} {r : Int32} (S : St) (h : m_fact S = some (r, S')) : RR KM (d + 0) 2413 0 [(0, .ref 500)] [] S (some (.int r)) S' := by
  unfold m_fact at h
  refine RR.runs (pc' := icm .eq (rI S 500 6) (1 : Int32) 10 8) (lc' := [(0, .ref 500)]) (st' := []) (S1 := S) (nL := 1) (cd := cd_2413) mx_2413 rfl rfl 4 rfl ?_
  rcases ifE h with ⟨c, h⟩ | ⟨c, h⟩
  · refine RR.c_eq (fun _ => ?_) (fun q => absurd c q)
    refine RR.runs (pc' := icm .ne (rI S 500 33) (1 : Int32) 51 18) (lc' := [(0, .ref 500)]) (st' := []) (S1 := S) (nL := 1) (cd := cd_2413) mx_2413 rfl rfl 4 rfl ?_
    rcases ifE h with ⟨c, h⟩ | ⟨c, h⟩
    · refine RR.c_ne (fun _ => ?_) (fun q => absurd c q)
      refine RR.runs (pc' := icm .ne ((lg_cmp (rJ S 500 7) (40613 : Int64))) 0 33 29) (lc' := [(0, .ref 500)]) (st' := []) (S1 := S) (nL := 1) (cd := cd_2413) mx_2413 rfl rfl 5 rfl ?_
      rcases ifE h with ⟨c, h⟩ | ⟨c, h⟩
      · refine RR.c_ne (fun _ => ?_) (fun q => absurd c q)
        refine RR.runs (pc' := 50) (lc' := [(0, .ref 500)]) (st' := [.int (5 : Int32)]) (S1 := S) (nL := 1) (cd := cd_2413) mx_2413 rfl rfl 2 rfl ?_
        refine RR.weak [] trivial ?_
        exact s_m_fact_50 _ _ h
      · refine RR.c_ne (fun q => absurd q c) (fun _ => ?_)
        refine RR.runs (pc' := icm .ne ((lg_cmp (rJ S 500 7) (923 : Int64))) 0 49 44) (lc' := [(0, .ref 500)]) (st' := []) (S1 := S) (nL := 1) (cd := cd_2413) mx_2413 rfl rfl 5 rfl ?_
        rcases ifE h with ⟨c, h⟩ | ⟨c, h⟩
        · refine RR.c_ne (fun _ => ?_) (fun q => absurd c q)
          refine RR.runs (pc' := 50) (lc' := [(0, .ref 500)]) (st' := [.int (6 : Int32)]) (S1 := S) (nL := 1) (cd := cd_2413) mx_2413 rfl rfl 2 rfl ?_
          refine RR.weak [] trivial ?_
          exact s_m_fact_50 _ _ h
        · refine RR.c_ne (fun q => absurd q c) (fun _ => ?_)
          refine RR.runs (pc' := 50) (lc' := [(0, .ref 500)]) (st' := [.int (0 : Int32)]) (S1 := S) (nL := 1) (cd := cd_2413) mx_2413 rfl rfl 1 rfl ?_
          refine RR.weak [] trivial ?_
          exact s_m_fact_50 _ _ h
    · refine RR.c_ne (fun q => absurd q c) (fun _ => ?_)
      refine RR.runs (pc' := icm .ne ((lg_cmp (rJ S 500 7) (2743057 : Int64))) 0 66 62) (lc' := [(0, .ref 500)]) (st' := []) (S1 := S) (nL := 1) (cd := cd_2413) mx_2413 rfl rfl 5 rfl ?_
      rcases ifE h with ⟨c, h⟩ | ⟨c, h⟩
      · refine RR.c_ne (fun _ => ?_) (fun q => absurd c q)
        refine RR.runs (pc' := 112) (lc' := [(0, .ref 500)]) (st' := [.int (1 : Int32)]) (S1 := S) (nL := 1) (cd := cd_2413) mx_2413 rfl rfl 2 rfl ?_
        refine RR.weak [] trivial ?_
        exact s_m_fact_112 _ _ h
      · refine RR.c_ne (fun q => absurd q c) (fun _ => ?_)
        refine RR.runs (pc' := icm .ne ((lg_cmp (rJ S 500 7) (10492274 : Int64))) 0 81 77) (lc' := [(0, .ref 500)]) (st' := []) (S1 := S) (nL := 1) (cd := cd_2413) mx_2413 rfl rfl 5 rfl ?_
        rcases ifE h with ⟨c, h⟩ | ⟨c, h⟩
        · refine RR.c_ne (fun _ => ?_) (fun q => absurd c q)
          refine RR.runs (pc' := 112) (lc' := [(0, .ref 500)]) (st' := [.int (2 : Int32)]) (S1 := S) (nL := 1) (cd := cd_2413) mx_2413 rfl rfl 2 rfl ?_
          refine RR.weak [] trivial ?_
          exact s_m_fact_112 _ _ h
        · refine RR.c_ne (fun q => absurd q c) (fun _ => ?_)
          refine RR.runs (pc' := icm .ne ((lg_cmp (rJ S 500 7) (9741983 : Int64))) 0 96 92) (lc' := [(0, .ref 500)]) (st' := []) (S1 := S) (nL := 1) (cd := cd_2413) mx_2413 rfl rfl 5 rfl ?_
          rcases ifE h with ⟨c, h⟩ | ⟨c, h⟩
          · refine RR.c_ne (fun _ => ?_) (fun q => absurd c q)
            refine RR.runs (pc' := 112) (lc' := [(0, .ref 500)]) (st' := [.int (3 : Int32)]) (S1 := S) (nL := 1) (cd := cd_2413) mx_2413 rfl rfl 2 rfl ?_
            refine RR.weak [] trivial ?_
            exact s_m_fact_112 _ _ h
          · refine RR.c_ne (fun q => absurd q c) (fun _ => ?_)
            refine RR.runs (pc' := icm .ne ((lg_cmp (rJ S 500 7) (381245 : Int64))) 0 111 107) (lc' := [(0, .ref 500)]) (st' := []) (S1 := S) (nL := 1) (cd := cd_2413) mx_2413 rfl rfl 5 rfl ?_
            rcases ifE h with ⟨c, h⟩ | ⟨c, h⟩
            · refine RR.c_ne (fun _ => ?_) (fun q => absurd c q)
              refine RR.runs (pc' := 112) (lc' := [(0, .ref 500)]) (st' := [.int (4 : Int32)]) (S1 := S) (nL := 1) (cd := cd_2413) mx_2413 rfl rfl 2 rfl ?_
              refine RR.weak [] trivial ?_
              exact s_m_fact_112 _ _ h
            · refine RR.c_ne (fun q => absurd q c) (fun _ => ?_)
              refine RR.runs (pc' := 112) (lc' := [(0, .ref 500)]) (st' := [.int (0 : Int32)]) (S1 := S) (nL := 1) (cd := cd_2413) mx_2413 rfl rfl 1 rfl ?_
              refine RR.weak [] trivial ?_
              exact s_m_fact_112 _ _ h
  · refine RR.c_eq (fun q => absurd q c) (fun _ => ?_)
    refine RR.runs (pc' := 9) (lc' := [(0, .ref 500)]) (st' := [.int (0 : Int32)]) (S1 := S) (nL := 1) (cd := cd_2413) mx_2413 rfl rfl 1 rfl ?_
    cases h
    exact RR.reti mx_2413 rfl rfl rfl
theorem s_m_fact {d : Nat} {S' : St} {r : Int32} (S : St) (h : m_fact S = some (r, S')) : RC KM (d + 0) 2413 [.ref 500] S (some (.int r)) S' := RC.of rfl (s0_m_fact S h)
-- reads ()Z
def m_reads_418 (S : St) : Re Int32 :=
  bn (m_fails (1 : Int32) S) fun r1 S2 =>
  if isBo r1 = true then some (r1, S2) else none
set_option maxRecDepth 100000 in
theorem s_m_reads_418 {d : Nat} {S' : St} {r : Int32} (S : St) (h : m_reads_418 S = some (r, S')) : RR KM (d + 2) 2414 418 [(0, .ref 500)] [] S (some (.int r)) S' := by
  unfold m_reads_418 at h
  refine RR.runs (pc' := 420) (lc' := [(0, .ref 500)]) (st' := [.int (1 : Int32), .ref 500]) (S1 := S) (nL := 6) (cd := cd_2414) mx_2414 rfl rfl 2 rfl ?_
  obtain ⟨r1, S2, h1, h⟩ := bnE h
  refine RR.callV (b := 500) (as := [.int (1 : Int32)]) (rest := []) (r1 := (some (.int r1))) (S1 := S2) mx_2414 rfl rfl mx_2411 rfl rfl (by decide) (Or.inl rfl) (Nat.le_of_ble_eq_true rfl) (Nat.le_of_ble_eq_true rfl) (RC.deep (by omega) (s_m_fails (d := d) _ _ h1)) ?_
  show RR KM _ 2414 423 [(0, .ref 500)] [.int r1] S2 _ _
  obtain ⟨g, h⟩ := gpE h
  cases h
  exact RR.retz mx_2414 rfl rfl rfl g
def m_reads_399 (v1 : Int32) (S : St) : Re Int32 :=
  if v1 = 0 then (
    bn (m_isSign (59 : Int32) S) fun r1 S2 =>
    if r1 = 0 then (
      m_reads_418 S2)
    else (
      bn (m_nextToken S2) fun r3 S4 =>
      some ((1 : Int32), S4)))
  else (
    m_reads_418 S)
set_option maxRecDepth 100000 in
theorem s_m_reads_399 {d : Nat} {S' : St} {r : Int32} (v1 : Int32) (S : St) (h : m_reads_399 v1 S = some (r, S')) : RR KM (d + 2) 2414 399 [(0, .ref 500), (1, .int v1)] [] S (some (.int r)) S' := by
  unfold m_reads_399 at h
  refine RR.runs (pc' := icm .ne v1 0 418 403) (lc' := [(0, .ref 500), (1, .int v1)]) (st' := []) (S1 := S) (nL := 6) (cd := cd_2414) mx_2414 rfl rfl 2 rfl ?_
  rcases ifE h with ⟨c, h⟩ | ⟨c, h⟩
  · refine RR.c_ne (fun _ => ?_) (fun q => absurd c q)
    refine RR.runs (pc' := 406) (lc' := [(0, .ref 500), (1, .int v1)]) (st' := [.int (59 : Int32), .ref 500]) (S1 := S) (nL := 6) (cd := cd_2414) mx_2414 rfl rfl 2 rfl ?_
    obtain ⟨r1, S2, h1, h⟩ := bnE h
    refine RR.callV (b := 500) (as := [.int (59 : Int32)]) (rest := []) (r1 := (some (.int r1))) (S1 := S2) mx_2414 rfl rfl mx_2410 rfl rfl (by decide) (Or.inl rfl) (Nat.le_of_ble_eq_true rfl) (Nat.le_of_ble_eq_true rfl) (RC.deep (by omega) (s_m_isSign (d := d) _ _ h1)) ?_
    show RR KM _ 2414 409 [(0, .ref 500), (1, .int v1)] [.int r1] S2 _ _
    refine RR.runs (pc' := icm .eq r1 0 418 412) (lc' := [(0, .ref 500), (1, .int v1)]) (st' := []) (S1 := S2) (nL := 6) (cd := cd_2414) mx_2414 rfl rfl 1 rfl ?_
    rcases ifE h with ⟨c, h⟩ | ⟨c, h⟩
    · refine RR.c_eq (fun _ => ?_) (fun q => absurd c q)
      refine RR.weak [(0, .ref 500)] ⟨rfl, trivial⟩ ?_
      exact s_m_reads_418 _ h
    · refine RR.c_eq (fun q => absurd q c) (fun _ => ?_)
      refine RR.runs (pc' := 413) (lc' := [(0, .ref 500), (1, .int v1)]) (st' := [.ref 500]) (S1 := S2) (nL := 6) (cd := cd_2414) mx_2414 rfl rfl 1 rfl ?_
      obtain ⟨r3, S4, h1, h⟩ := bnE h
      refine RR.callV (b := 500) (as := []) (rest := []) (r1 := none) (S1 := S4) mx_2414 rfl rfl mx_2408 rfl rfl (by decide) (Or.inl rfl) (Nat.le_of_ble_eq_true rfl) (Nat.le_of_ble_eq_true rfl) (RC.deep (by omega) (s_m_nextToken (d := d) _ h1)) ?_
      show RR KM _ 2414 416 [(0, .ref 500), (1, .int v1)] [] S4 _ _
      refine RR.runs (pc' := 417) (lc' := [(0, .ref 500), (1, .int v1)]) (st' := [.int (1 : Int32)]) (S1 := S4) (nL := 6) (cd := cd_2414) mx_2414 rfl rfl 1 rfl ?_
      cases h
      exact RR.retz mx_2414 rfl rfl rfl rfl
  · refine RR.c_ne (fun q => absurd q c) (fun _ => ?_)
    refine RR.weak [(0, .ref 500)] ⟨rfl, trivial⟩ ?_
    exact s_m_reads_418 _ h
def m_reads_424 (k11 : Int32 → Int32 → St → Re Int32) (v1 : Int32) (v2 : Int32) (S : St) : Re Int32 :=
  bn (m_nextToken S) fun r1 S2 =>
  k11 v1 v2 S2
set_option maxRecDepth 100000 in
theorem s_m_reads_424 {d : Nat} (k11 : Int32 → Int32 → St → Re Int32) {S' : St} {r : Int32} (b11 : ∀ (v1 : Int32) (v2 : Int32) (S : St), k11 v1 v2 S = some (r, S') → RR KM (d + 2) 2414 11 [(0, .ref 500), (1, .int v1), (2, .int v2)] [] S (some (.int r)) S') (v1 : Int32) (v2 : Int32) (S : St) (h : m_reads_424 k11 v1 v2 S = some (r, S')) : RR KM (d + 2) 2414 424 [(0, .ref 500), (1, .int v1), (2, .int v2)] [] S (some (.int r)) S' := by
  unfold m_reads_424 at h
  refine RR.runs (pc' := 425) (lc' := [(0, .ref 500), (1, .int v1), (2, .int v2)]) (st' := [.ref 500]) (S1 := S) (nL := 6) (cd := cd_2414) mx_2414 rfl rfl 1 rfl ?_
  obtain ⟨r1, S2, h1, h⟩ := bnE h
  refine RR.callV (b := 500) (as := []) (rest := []) (r1 := none) (S1 := S2) mx_2414 rfl rfl mx_2408 rfl rfl (by decide) (Or.inl rfl) (Nat.le_of_ble_eq_true rfl) (Nat.le_of_ble_eq_true rfl) (RC.deep (by omega) (s_m_nextToken (d := d) _ h1)) ?_
  show RR KM _ 2414 428 [(0, .ref 500), (1, .int v1), (2, .int v2)] [] S2 _ _
  refine RR.runs (pc' := 11) (lc' := [(0, .ref 500), (1, .int v1), (2, .int v2)]) (st' := []) (S1 := S2) (nL := 6) (cd := cd_2414) mx_2414 rfl rfl 1 rfl ?_
  refine RR.weak [(0, .ref 500), (1, .int v1), (2, .int v2)] ⟨rfl, rfl, rfl, trivial⟩ ?_
  exact b11 _ _ _ h
def m_reads_379 (k11 : Int32 → Int32 → St → Re Int32) : Nat → Int32 → Int32 → St → Re Int32
  | 0, _, _, _ => none
  | n + 1, v1, v2, S =>
  if 0 < v1 then (
    if v1 < 0 ∨ 7 ≤ v1.toNatClampNeg then none else
    if (rI S 524 v1.toNatClampNeg) = (1 : Int32) then (
      lt' ((v1 + (-1 : Int32)) : Int32) fun x1 =>
      m_reads_379 k11 n x1 v2 S)
    else (
      m_reads_424 k11 v1 v2 S))
  else (
    m_reads_424 k11 v1 v2 S)
set_option maxRecDepth 100000 in
theorem s_m_reads_379 {d : Nat} (k11 : Int32 → Int32 → St → Re Int32) {S' : St} {r : Int32} (b11 : ∀ (v1 : Int32) (v2 : Int32) (S : St), k11 v1 v2 S = some (r, S') → RR KM (d + 2) 2414 11 [(0, .ref 500), (1, .int v1), (2, .int v2)] [] S (some (.int r)) S') : ∀ (n : Nat) (v1 : Int32) (v2 : Int32) (S : St), m_reads_379 k11 n v1 v2 S = some (r, S') → RR KM (d + 2) 2414 379 [(0, .ref 500), (1, .int v1), (2, .int v2)] [] S (some (.int r)) S' := by
  intro n
  induction n with
  | zero => intro v1 v2 S h; simp only [m_reads_379] at h; cases h
  | succ n ih =>
    intro v1 v2 S h
    simp only [m_reads_379] at h
    refine RR.runs (pc' := icm .le v1 0 424 383) (lc' := [(0, .ref 500), (1, .int v1), (2, .int v2)]) (st' := []) (S1 := S) (nL := 6) (cd := cd_2414) mx_2414 rfl rfl 2 rfl ?_
    rcases ifE h with ⟨c, h⟩ | ⟨c, h⟩
    · refine RR.c_le (fun _ => ?_) (fun q => absurd c q)
      refine RR.runs (pc' := 388) (lc' := [(0, .ref 500), (1, .int v1), (2, .int v2)]) (st' := [.int v1, .ref 524]) (S1 := S) (nL := 6) (cd := cd_2414) mx_2414 rfl rfl 3 rfl ?_
      obtain ⟨g, h⟩ := gnE h
      refine RR.gPN (c2 := (KM.1 524).1 = 1) (pc' := 389) (lc' := [(0, .ref 500), (1, .int v1), (2, .int v2)]) (st' := [.int (rI S 524 v1.toNatClampNeg)]) (S1 := S) (nL := 6) (cd := cd_2414) mx_2414 rfl rfl rfl rfl g ?_
      refine RR.runs (pc' := icm .ne (rI S 524 v1.toNatClampNeg) (1 : Int32) 424 393) (lc' := [(0, .ref 500), (1, .int v1), (2, .int v2)]) (st' := []) (S1 := S) (nL := 6) (cd := cd_2414) mx_2414 rfl rfl 2 rfl ?_
      rcases ifE h with ⟨c, h⟩ | ⟨c, h⟩
      · refine RR.c_ne (fun _ => ?_) (fun q => absurd c q)
        refine RR.runs (pc' := 396) (lc' := [(1, .int ((v1 + (-1 : Int32)))), (0, .ref 500), (2, .int v2)]) (st' := []) (S1 := S) (nL := 6) (cd := cd_2414) mx_2414 rfl rfl 1 rfl ?_
        obtain ⟨x1, ex1, h⟩ := ltE h
        rw [← ex1]
        refine RR.runs (pc' := 379) (lc' := [(1, .int x1), (0, .ref 500), (2, .int v2)]) (st' := []) (S1 := S) (nL := 6) (cd := cd_2414) mx_2414 rfl rfl 1 rfl ?_
        refine RR.weak [(0, .ref 500), (1, .int x1), (2, .int v2)] ⟨rfl, rfl, rfl, trivial⟩ ?_
        exact ih _ _ _ h
      · refine RR.c_ne (fun q => absurd q c) (fun _ => ?_)
        refine RR.weak [(0, .ref 500), (1, .int v1), (2, .int v2)] ⟨rfl, rfl, rfl, trivial⟩ ?_
        exact s_m_reads_424 _ b11 _ _ _ h
    · refine RR.c_le (fun q => absurd q c) (fun _ => ?_)
      refine RR.weak [(0, .ref 500), (1, .int v1), (2, .int v2)] ⟨rfl, rfl, rfl, trivial⟩ ?_
      exact s_m_reads_424 _ b11 _ _ _ h
def m_reads_342 (k11 : Int32 → Int32 → St → Re Int32) (v1 : Int32) (p0 : Int32) (S : St) : Re Int32 :=
  bn (m_puts p0 S) fun r1 S2 =>
  if v1 < 0 ∨ 7 ≤ v1.toNatClampNeg then none else
  lt' (wI S2 525 v1.toNatClampNeg ((vp_nar .boolean (0 : Int32)))) fun S3 =>
  m_reads_424 k11 v1 (1 : Int32) S3
set_option maxRecDepth 100000 in
theorem s_m_reads_342 {d : Nat} (k11 : Int32 → Int32 → St → Re Int32) {S' : St} {r : Int32} (b11 : ∀ (v1 : Int32) (v2 : Int32) (S : St), k11 v1 v2 S = some (r, S') → RR KM (d + 2) 2414 11 [(0, .ref 500), (1, .int v1), (2, .int v2)] [] S (some (.int r)) S') (v1 : Int32) (p0 : Int32) (S : St) (h : m_reads_342 k11 v1 p0 S = some (r, S')) : RR KM (d + 2) 2414 342 [(0, .ref 500), (1, .int v1)] [.int p0, .ref 500] S (some (.int r)) S' := by
  unfold m_reads_342 at h
  obtain ⟨r1, S2, h1, h⟩ := bnE h
  refine RR.callV (b := 500) (as := [.int p0]) (rest := []) (r1 := none) (S1 := S2) mx_2414 rfl rfl mx_2412 rfl rfl (by decide) (Or.inl rfl) (Nat.le_of_ble_eq_true rfl) (Nat.le_of_ble_eq_true rfl) (RC.deep (by omega) (s_m_puts (d := d) _ _ h1)) ?_
  show RR KM _ 2414 345 [(0, .ref 500), (1, .int v1)] [] S2 _ _
  refine RR.runs (pc' := 351) (lc' := [(0, .ref 500), (1, .int v1)]) (st' := [.int (0 : Int32), .int v1, .ref 525]) (S1 := S2) (nL := 6) (cd := cd_2414) mx_2414 rfl rfl 4 rfl ?_
  obtain ⟨g, h⟩ := gnE h
  refine RR.gPN (c2 := (KM.1 525).1 = 3) (pc' := 352) (lc' := [(0, .ref 500), (1, .int v1)]) (st' := []) (S1 := (wI S2 525 v1.toNatClampNeg ((vp_nar .boolean (0 : Int32))))) (nL := 6) (cd := cd_2414) mx_2414 rfl rfl rfl rfl g ?_
  obtain ⟨S3, eS3, h⟩ := ltE h
  rw [← eS3]
  refine RR.runs (pc' := 424) (lc' := [(2, .int (1 : Int32)), (0, .ref 500), (1, .int v1)]) (st' := []) (S1 := S3) (nL := 6) (cd := cd_2414) mx_2414 rfl rfl 3 rfl ?_
  refine RR.weak [(0, .ref 500), (1, .int v1), (2, .int (1 : Int32))] ⟨rfl, rfl, rfl, trivial⟩ ?_
  exact s_m_reads_424 _ b11 _ _ _ h
def m_reads_324 (k11 : Int32 → Int32 → St → Re Int32) (v1 : Int32) (S : St) : Re Int32 :=
  bn (m_isWord (1111 : Int64) S) fun r1 S2 =>
  if r1 = 0 then (
    m_reads_342 k11 v1 (27 : Int32) S2)
  else (
    m_reads_342 k11 v1 (26 : Int32) S2)
set_option maxRecDepth 100000 in
theorem s_m_reads_324 {d : Nat} (k11 : Int32 → Int32 → St → Re Int32) {S' : St} {r : Int32} (b11 : ∀ (v1 : Int32) (v2 : Int32) (S : St), k11 v1 v2 S = some (r, S') → RR KM (d + 2) 2414 11 [(0, .ref 500), (1, .int v1), (2, .int v2)] [] S (some (.int r)) S') (v1 : Int32) (S : St) (h : m_reads_324 k11 v1 S = some (r, S')) : RR KM (d + 2) 2414 324 [(0, .ref 500), (1, .int v1)] [] S (some (.int r)) S' := by
  unfold m_reads_324 at h
  refine RR.runs (pc' := 329) (lc' := [(0, .ref 500), (1, .int v1)]) (st' := [.long (1111 : Int64), .ref 500, .ref 500]) (S1 := S) (nL := 6) (cd := cd_2414) mx_2414 rfl rfl 3 rfl ?_
  obtain ⟨r1, S2, h1, h⟩ := bnE h
  refine RR.callV (b := 500) (as := [.long (1111 : Int64)]) (rest := [.ref 500]) (r1 := (some (.int r1))) (S1 := S2) mx_2414 rfl rfl mx_2409 rfl rfl (by decide) (Or.inl rfl) (Nat.le_of_ble_eq_true rfl) (Nat.le_of_ble_eq_true rfl) (RC.deep (by omega) (s_m_isWord (d := d) _ _ h1)) ?_
  show RR KM _ 2414 332 [(0, .ref 500), (1, .int v1)] [.int r1, .ref 500] S2 _ _
  refine RR.runs (pc' := icm .eq r1 0 340 335) (lc' := [(0, .ref 500), (1, .int v1)]) (st' := [.ref 500]) (S1 := S2) (nL := 6) (cd := cd_2414) mx_2414 rfl rfl 1 rfl ?_
  rcases ifE h with ⟨c, h⟩ | ⟨c, h⟩
  · refine RR.c_eq (fun _ => ?_) (fun q => absurd c q)
    refine RR.runs (pc' := 342) (lc' := [(0, .ref 500), (1, .int v1)]) (st' := [.int (27 : Int32), .ref 500]) (S1 := S2) (nL := 6) (cd := cd_2414) mx_2414 rfl rfl 1 rfl ?_
    refine RR.weak [(0, .ref 500), (1, .int v1)] ⟨rfl, rfl, trivial⟩ ?_
    exact s_m_reads_342 _ b11 _ _ _ h
  · refine RR.c_eq (fun q => absurd q c) (fun _ => ?_)
    refine RR.runs (pc' := 342) (lc' := [(0, .ref 500), (1, .int v1)]) (st' := [.int (26 : Int32), .ref 500]) (S1 := S2) (nL := 6) (cd := cd_2414) mx_2414 rfl rfl 2 rfl ?_
    refine RR.weak [(0, .ref 500), (1, .int v1)] ⟨rfl, rfl, trivial⟩ ?_
    exact s_m_reads_342 _ b11 _ _ _ h
def m_reads_304 (k11 : Int32 → Int32 → St → Re Int32) (v1 : Int32) (v2 : Int32) (S : St) : Re Int32 :=
  bn (m_isWord (1111 : Int64) S) fun r1 S2 =>
  if r1 = 0 then (
    bn (m_isWord (423 : Int64) S2) fun r3 S4 =>
    if r3 = 0 then (
      bn (m_isSign (41 : Int32) S4) fun r5 S6 =>
      if r5 = 0 then (
        m_reads_399 v1 S6)
      else (
        if 0 < v1 then (
          bn (m_puts (29 : Int32) S6) fun r7 S8 =>
          lt' ((v1 + (-1 : Int32)) : Int32) fun x9 =>
          m_reads_379 k11 FU x9 v2 S8)
        else (
          m_reads_399 v1 S6)))
    else (
      m_reads_324 k11 v1 S4))
  else (
    m_reads_324 k11 v1 S2)
set_option maxRecDepth 100000 in
theorem s_m_reads_304 {d : Nat} (k11 : Int32 → Int32 → St → Re Int32) {S' : St} {r : Int32} (b11 : ∀ (v1 : Int32) (v2 : Int32) (S : St), k11 v1 v2 S = some (r, S') → RR KM (d + 2) 2414 11 [(0, .ref 500), (1, .int v1), (2, .int v2)] [] S (some (.int r)) S') (v1 : Int32) (v2 : Int32) (S : St) (h : m_reads_304 k11 v1 v2 S = some (r, S')) : RR KM (d + 2) 2414 304 [(0, .ref 500), (1, .int v1), (2, .int v2)] [] S (some (.int r)) S' := by
  unfold m_reads_304 at h
  refine RR.runs (pc' := 308) (lc' := [(0, .ref 500), (1, .int v1), (2, .int v2)]) (st' := [.long (1111 : Int64), .ref 500]) (S1 := S) (nL := 6) (cd := cd_2414) mx_2414 rfl rfl 2 rfl ?_
  obtain ⟨r1, S2, h1, h⟩ := bnE h
  refine RR.callV (b := 500) (as := [.long (1111 : Int64)]) (rest := []) (r1 := (some (.int r1))) (S1 := S2) mx_2414 rfl rfl mx_2409 rfl rfl (by decide) (Or.inl rfl) (Nat.le_of_ble_eq_true rfl) (Nat.le_of_ble_eq_true rfl) (RC.deep (by omega) (s_m_isWord (d := d) _ _ h1)) ?_
  show RR KM _ 2414 311 [(0, .ref 500), (1, .int v1), (2, .int v2)] [.int r1] S2 _ _
  refine RR.runs (pc' := icm .ne r1 0 324 314) (lc' := [(0, .ref 500), (1, .int v1), (2, .int v2)]) (st' := []) (S1 := S2) (nL := 6) (cd := cd_2414) mx_2414 rfl rfl 1 rfl ?_
  rcases ifE h with ⟨c, h⟩ | ⟨c, h⟩
  · refine RR.c_ne (fun _ => ?_) (fun q => absurd c q)
    refine RR.runs (pc' := 318) (lc' := [(0, .ref 500), (1, .int v1), (2, .int v2)]) (st' := [.long (423 : Int64), .ref 500]) (S1 := S2) (nL := 6) (cd := cd_2414) mx_2414 rfl rfl 2 rfl ?_
    obtain ⟨r3, S4, h1, h⟩ := bnE h
    refine RR.callV (b := 500) (as := [.long (423 : Int64)]) (rest := []) (r1 := (some (.int r3))) (S1 := S4) mx_2414 rfl rfl mx_2409 rfl rfl (by decide) (Or.inl rfl) (Nat.le_of_ble_eq_true rfl) (Nat.le_of_ble_eq_true rfl) (RC.deep (by omega) (s_m_isWord (d := d) _ _ h1)) ?_
    show RR KM _ 2414 321 [(0, .ref 500), (1, .int v1), (2, .int v2)] [.int r3] S4 _ _
    refine RR.runs (pc' := icm .eq r3 0 357 324) (lc' := [(0, .ref 500), (1, .int v1), (2, .int v2)]) (st' := []) (S1 := S4) (nL := 6) (cd := cd_2414) mx_2414 rfl rfl 1 rfl ?_
    rcases ifE h with ⟨c, h⟩ | ⟨c, h⟩
    · refine RR.c_eq (fun _ => ?_) (fun q => absurd c q)
      refine RR.runs (pc' := 360) (lc' := [(0, .ref 500), (1, .int v1), (2, .int v2)]) (st' := [.int (41 : Int32), .ref 500]) (S1 := S4) (nL := 6) (cd := cd_2414) mx_2414 rfl rfl 2 rfl ?_
      obtain ⟨r5, S6, h1, h⟩ := bnE h
      refine RR.callV (b := 500) (as := [.int (41 : Int32)]) (rest := []) (r1 := (some (.int r5))) (S1 := S6) mx_2414 rfl rfl mx_2410 rfl rfl (by decide) (Or.inl rfl) (Nat.le_of_ble_eq_true rfl) (Nat.le_of_ble_eq_true rfl) (RC.deep (by omega) (s_m_isSign (d := d) _ _ h1)) ?_
      show RR KM _ 2414 363 [(0, .ref 500), (1, .int v1), (2, .int v2)] [.int r5] S6 _ _
      refine RR.runs (pc' := icm .eq r5 0 399 366) (lc' := [(0, .ref 500), (1, .int v1), (2, .int v2)]) (st' := []) (S1 := S6) (nL := 6) (cd := cd_2414) mx_2414 rfl rfl 1 rfl ?_
      rcases ifE h with ⟨c, h⟩ | ⟨c, h⟩
      · refine RR.c_eq (fun _ => ?_) (fun q => absurd c q)
        refine RR.weak [(0, .ref 500), (1, .int v1)] ⟨rfl, rfl, trivial⟩ ?_
        exact s_m_reads_399 _ _ h
      · refine RR.c_eq (fun q => absurd q c) (fun _ => ?_)
        refine RR.runs (pc' := icm .le v1 0 399 370) (lc' := [(0, .ref 500), (1, .int v1), (2, .int v2)]) (st' := []) (S1 := S6) (nL := 6) (cd := cd_2414) mx_2414 rfl rfl 2 rfl ?_
        rcases ifE h with ⟨c, h⟩ | ⟨c, h⟩
        · refine RR.c_le (fun _ => ?_) (fun q => absurd c q)
          refine RR.runs (pc' := 373) (lc' := [(0, .ref 500), (1, .int v1), (2, .int v2)]) (st' := [.int (29 : Int32), .ref 500]) (S1 := S6) (nL := 6) (cd := cd_2414) mx_2414 rfl rfl 2 rfl ?_
          obtain ⟨r7, S8, h1, h⟩ := bnE h
          refine RR.callV (b := 500) (as := [.int (29 : Int32)]) (rest := []) (r1 := none) (S1 := S8) mx_2414 rfl rfl mx_2412 rfl rfl (by decide) (Or.inl rfl) (Nat.le_of_ble_eq_true rfl) (Nat.le_of_ble_eq_true rfl) (RC.deep (by omega) (s_m_puts (d := d) _ _ h1)) ?_
          show RR KM _ 2414 376 [(0, .ref 500), (1, .int v1), (2, .int v2)] [] S8 _ _
          refine RR.runs (pc' := 379) (lc' := [(1, .int ((v1 + (-1 : Int32)))), (0, .ref 500), (2, .int v2)]) (st' := []) (S1 := S8) (nL := 6) (cd := cd_2414) mx_2414 rfl rfl 1 rfl ?_
          obtain ⟨x9, ex9, h⟩ := ltE h
          rw [← ex9]
          refine RR.weak [(0, .ref 500), (1, .int x9), (2, .int v2)] ⟨rfl, rfl, rfl, trivial⟩ ?_
          exact s_m_reads_379 _ b11 _ _ _ _ h
        · refine RR.c_le (fun q => absurd q c) (fun _ => ?_)
          refine RR.weak [(0, .ref 500), (1, .int v1)] ⟨rfl, rfl, trivial⟩ ?_
          exact s_m_reads_399 _ _ h
    · refine RR.c_eq (fun q => absurd q c) (fun _ => ?_)
      refine RR.weak [(0, .ref 500), (1, .int v1)] ⟨rfl, rfl, trivial⟩ ?_
      exact s_m_reads_324 _ b11 _ _ h
  · refine RR.c_ne (fun q => absurd q c) (fun _ => ?_)
    refine RR.weak [(0, .ref 500), (1, .int v1)] ⟨rfl, rfl, trivial⟩ ?_
    exact s_m_reads_324 _ b11 _ _ h
def m_reads_289 (k11 : Int32 → Int32 → St → Re Int32) (v1 : Int32) (p0 : Int32) (S : St) : Re Int32 :=
  bn (m_puts p0 S) fun r1 S2 =>
  if v1 < 0 ∨ 7 ≤ v1.toNatClampNeg then none else
  lt' (wI S2 525 v1.toNatClampNeg ((vp_nar .boolean (1 : Int32)))) fun S3 =>
  m_reads_424 k11 v1 (1 : Int32) S3
set_option maxRecDepth 100000 in
theorem s_m_reads_289 {d : Nat} (k11 : Int32 → Int32 → St → Re Int32) {S' : St} {r : Int32} (b11 : ∀ (v1 : Int32) (v2 : Int32) (S : St), k11 v1 v2 S = some (r, S') → RR KM (d + 2) 2414 11 [(0, .ref 500), (1, .int v1), (2, .int v2)] [] S (some (.int r)) S') (v1 : Int32) (p0 : Int32) (S : St) (h : m_reads_289 k11 v1 p0 S = some (r, S')) : RR KM (d + 2) 2414 289 [(0, .ref 500), (1, .int v1)] [.int p0, .ref 500] S (some (.int r)) S' := by
  unfold m_reads_289 at h
  obtain ⟨r1, S2, h1, h⟩ := bnE h
  refine RR.callV (b := 500) (as := [.int p0]) (rest := []) (r1 := none) (S1 := S2) mx_2414 rfl rfl mx_2412 rfl rfl (by decide) (Or.inl rfl) (Nat.le_of_ble_eq_true rfl) (Nat.le_of_ble_eq_true rfl) (RC.deep (by omega) (s_m_puts (d := d) _ _ h1)) ?_
  show RR KM _ 2414 292 [(0, .ref 500), (1, .int v1)] [] S2 _ _
  refine RR.runs (pc' := 298) (lc' := [(0, .ref 500), (1, .int v1)]) (st' := [.int (1 : Int32), .int v1, .ref 525]) (S1 := S2) (nL := 6) (cd := cd_2414) mx_2414 rfl rfl 4 rfl ?_
  obtain ⟨g, h⟩ := gnE h
  refine RR.gPN (c2 := (KM.1 525).1 = 3) (pc' := 299) (lc' := [(0, .ref 500), (1, .int v1)]) (st' := []) (S1 := (wI S2 525 v1.toNatClampNeg ((vp_nar .boolean (1 : Int32))))) (nL := 6) (cd := cd_2414) mx_2414 rfl rfl rfl rfl g ?_
  obtain ⟨S3, eS3, h⟩ := ltE h
  rw [← eS3]
  refine RR.runs (pc' := 424) (lc' := [(2, .int (1 : Int32)), (0, .ref 500), (1, .int v1)]) (st' := []) (S1 := S3) (nL := 6) (cd := cd_2414) mx_2414 rfl rfl 3 rfl ?_
  refine RR.weak [(0, .ref 500), (1, .int v1), (2, .int (1 : Int32))] ⟨rfl, rfl, rfl, trivial⟩ ?_
  exact s_m_reads_424 _ b11 _ _ _ h
def m_reads_263 (k11 : Int32 → Int32 → St → Re Int32) (v1 : Int32) (v2 : Int32) (S : St) : Re Int32 :=
  if v1 < 0 ∨ 7 ≤ v1.toNatClampNeg then none else
  if (rI S 525 v1.toNatClampNeg) = 0 then (
    bn (m_isSign (60 : Int32) S) fun r1 S2 =>
    if r1 = 0 then (
      m_reads_289 k11 v1 (25 : Int32) S2)
    else (
      m_reads_289 k11 v1 (24 : Int32) S2))
  else (
    m_reads_304 k11 v1 v2 S)
set_option maxRecDepth 100000 in
theorem s_m_reads_263 {d : Nat} (k11 : Int32 → Int32 → St → Re Int32) {S' : St} {r : Int32} (b11 : ∀ (v1 : Int32) (v2 : Int32) (S : St), k11 v1 v2 S = some (r, S') → RR KM (d + 2) 2414 11 [(0, .ref 500), (1, .int v1), (2, .int v2)] [] S (some (.int r)) S') (v1 : Int32) (v2 : Int32) (S : St) (h : m_reads_263 k11 v1 v2 S = some (r, S')) : RR KM (d + 2) 2414 263 [(0, .ref 500), (1, .int v1), (2, .int v2)] [] S (some (.int r)) S' := by
  unfold m_reads_263 at h
  refine RR.runs (pc' := 268) (lc' := [(0, .ref 500), (1, .int v1), (2, .int v2)]) (st' := [.int v1, .ref 525]) (S1 := S) (nL := 6) (cd := cd_2414) mx_2414 rfl rfl 3 rfl ?_
  obtain ⟨g, h⟩ := gnE h
  refine RR.gPN (c2 := (KM.1 525).1 = 3) (pc' := 269) (lc' := [(0, .ref 500), (1, .int v1), (2, .int v2)]) (st' := [.int (rI S 525 v1.toNatClampNeg)]) (S1 := S) (nL := 6) (cd := cd_2414) mx_2414 rfl rfl rfl rfl g ?_
  refine RR.runs (pc' := icm .ne (rI S 525 v1.toNatClampNeg) 0 304 272) (lc' := [(0, .ref 500), (1, .int v1), (2, .int v2)]) (st' := []) (S1 := S) (nL := 6) (cd := cd_2414) mx_2414 rfl rfl 1 rfl ?_
  rcases ifE h with ⟨c, h⟩ | ⟨c, h⟩
  · refine RR.c_ne (fun _ => ?_) (fun q => absurd c q)
    refine RR.runs (pc' := 276) (lc' := [(0, .ref 500), (1, .int v1), (2, .int v2)]) (st' := [.int (60 : Int32), .ref 500, .ref 500]) (S1 := S) (nL := 6) (cd := cd_2414) mx_2414 rfl rfl 3 rfl ?_
    obtain ⟨r1, S2, h1, h⟩ := bnE h
    refine RR.callV (b := 500) (as := [.int (60 : Int32)]) (rest := [.ref 500]) (r1 := (some (.int r1))) (S1 := S2) mx_2414 rfl rfl mx_2410 rfl rfl (by decide) (Or.inl rfl) (Nat.le_of_ble_eq_true rfl) (Nat.le_of_ble_eq_true rfl) (RC.deep (by omega) (s_m_isSign (d := d) _ _ h1)) ?_
    show RR KM _ 2414 279 [(0, .ref 500), (1, .int v1), (2, .int v2)] [.int r1, .ref 500] S2 _ _
    refine RR.runs (pc' := icm .eq r1 0 287 282) (lc' := [(0, .ref 500), (1, .int v1), (2, .int v2)]) (st' := [.ref 500]) (S1 := S2) (nL := 6) (cd := cd_2414) mx_2414 rfl rfl 1 rfl ?_
    rcases ifE h with ⟨c, h⟩ | ⟨c, h⟩
    · refine RR.c_eq (fun _ => ?_) (fun q => absurd c q)
      refine RR.runs (pc' := 289) (lc' := [(0, .ref 500), (1, .int v1), (2, .int v2)]) (st' := [.int (25 : Int32), .ref 500]) (S1 := S2) (nL := 6) (cd := cd_2414) mx_2414 rfl rfl 1 rfl ?_
      refine RR.weak [(0, .ref 500), (1, .int v1)] ⟨rfl, rfl, trivial⟩ ?_
      exact s_m_reads_289 _ b11 _ _ _ h
    · refine RR.c_eq (fun q => absurd q c) (fun _ => ?_)
      refine RR.runs (pc' := 289) (lc' := [(0, .ref 500), (1, .int v1), (2, .int v2)]) (st' := [.int (24 : Int32), .ref 500]) (S1 := S2) (nL := 6) (cd := cd_2414) mx_2414 rfl rfl 2 rfl ?_
      refine RR.weak [(0, .ref 500), (1, .int v1)] ⟨rfl, rfl, trivial⟩ ?_
      exact s_m_reads_289 _ b11 _ _ _ h
  · refine RR.c_ne (fun q => absurd q c) (fun _ => ?_)
    refine RR.weak [(0, .ref 500), (1, .int v1), (2, .int v2)] ⟨rfl, rfl, rfl, trivial⟩ ?_
    exact s_m_reads_304 _ b11 _ _ _ h
def m_reads_237 (k11 : Int32 → Int32 → St → Re Int32) (v1 : Int32) (p0 : Int32) (S : St) : Re Int32 :=
  bn (m_puts p0 S) fun r1 S2 =>
  m_reads_424 k11 v1 (1 : Int32) S2
set_option maxRecDepth 100000 in
theorem s_m_reads_237 {d : Nat} (k11 : Int32 → Int32 → St → Re Int32) {S' : St} {r : Int32} (b11 : ∀ (v1 : Int32) (v2 : Int32) (S : St), k11 v1 v2 S = some (r, S') → RR KM (d + 2) 2414 11 [(0, .ref 500), (1, .int v1), (2, .int v2)] [] S (some (.int r)) S') (v1 : Int32) (p0 : Int32) (S : St) (h : m_reads_237 k11 v1 p0 S = some (r, S')) : RR KM (d + 2) 2414 237 [(0, .ref 500), (1, .int v1)] [.int p0, .ref 500] S (some (.int r)) S' := by
  unfold m_reads_237 at h
  obtain ⟨r1, S2, h1, h⟩ := bnE h
  refine RR.callV (b := 500) (as := [.int p0]) (rest := []) (r1 := none) (S1 := S2) mx_2414 rfl rfl mx_2412 rfl rfl (by decide) (Or.inl rfl) (Nat.le_of_ble_eq_true rfl) (Nat.le_of_ble_eq_true rfl) (RC.deep (by omega) (s_m_puts (d := d) _ _ h1)) ?_
  show RR KM _ 2414 240 [(0, .ref 500), (1, .int v1)] [] S2 _ _
  refine RR.runs (pc' := 424) (lc' := [(2, .int (1 : Int32)), (0, .ref 500), (1, .int v1)]) (st' := []) (S1 := S2) (nL := 6) (cd := cd_2414) mx_2414 rfl rfl 3 rfl ?_
  refine RR.weak [(0, .ref 500), (1, .int v1), (2, .int (1 : Int32))] ⟨rfl, rfl, rfl, trivial⟩ ?_
  exact s_m_reads_424 _ b11 _ _ _ h
def m_reads_206 (k11 : Int32 → Int32 → St → Re Int32) (v1 : Int32) (S : St) : Re Int32 :=
  bn (m_isSign (43 : Int32) S) fun r1 S2 =>
  if r1 = 0 then (
    bn (m_isSign (45 : Int32) S2) fun r3 S4 =>
    if r3 = 0 then (
      m_reads_237 k11 v1 (22 : Int32) S4)
    else (
      m_reads_237 k11 v1 (21 : Int32) S4))
  else (
    m_reads_237 k11 v1 (20 : Int32) S2)
set_option maxRecDepth 100000 in
theorem s_m_reads_206 {d : Nat} (k11 : Int32 → Int32 → St → Re Int32) {S' : St} {r : Int32} (b11 : ∀ (v1 : Int32) (v2 : Int32) (S : St), k11 v1 v2 S = some (r, S') → RR KM (d + 2) 2414 11 [(0, .ref 500), (1, .int v1), (2, .int v2)] [] S (some (.int r)) S') (v1 : Int32) (S : St) (h : m_reads_206 k11 v1 S = some (r, S')) : RR KM (d + 2) 2414 206 [(0, .ref 500), (1, .int v1)] [] S (some (.int r)) S' := by
  unfold m_reads_206 at h
  refine RR.runs (pc' := 210) (lc' := [(0, .ref 500), (1, .int v1)]) (st' := [.int (43 : Int32), .ref 500, .ref 500]) (S1 := S) (nL := 6) (cd := cd_2414) mx_2414 rfl rfl 3 rfl ?_
  obtain ⟨r1, S2, h1, h⟩ := bnE h
  refine RR.callV (b := 500) (as := [.int (43 : Int32)]) (rest := [.ref 500]) (r1 := (some (.int r1))) (S1 := S2) mx_2414 rfl rfl mx_2410 rfl rfl (by decide) (Or.inl rfl) (Nat.le_of_ble_eq_true rfl) (Nat.le_of_ble_eq_true rfl) (RC.deep (by omega) (s_m_isSign (d := d) _ _ h1)) ?_
  show RR KM _ 2414 213 [(0, .ref 500), (1, .int v1)] [.int r1, .ref 500] S2 _ _
  refine RR.runs (pc' := icm .eq r1 0 221 216) (lc' := [(0, .ref 500), (1, .int v1)]) (st' := [.ref 500]) (S1 := S2) (nL := 6) (cd := cd_2414) mx_2414 rfl rfl 1 rfl ?_
  rcases ifE h with ⟨c, h⟩ | ⟨c, h⟩
  · refine RR.c_eq (fun _ => ?_) (fun q => absurd c q)
    refine RR.runs (pc' := 224) (lc' := [(0, .ref 500), (1, .int v1)]) (st' := [.int (45 : Int32), .ref 500, .ref 500]) (S1 := S2) (nL := 6) (cd := cd_2414) mx_2414 rfl rfl 2 rfl ?_
    obtain ⟨r3, S4, h1, h⟩ := bnE h
    refine RR.callV (b := 500) (as := [.int (45 : Int32)]) (rest := [.ref 500]) (r1 := (some (.int r3))) (S1 := S4) mx_2414 rfl rfl mx_2410 rfl rfl (by decide) (Or.inl rfl) (Nat.le_of_ble_eq_true rfl) (Nat.le_of_ble_eq_true rfl) (RC.deep (by omega) (s_m_isSign (d := d) _ _ h1)) ?_
    show RR KM _ 2414 227 [(0, .ref 500), (1, .int v1)] [.int r3, .ref 500] S4 _ _
    refine RR.runs (pc' := icm .eq r3 0 235 230) (lc' := [(0, .ref 500), (1, .int v1)]) (st' := [.ref 500]) (S1 := S4) (nL := 6) (cd := cd_2414) mx_2414 rfl rfl 1 rfl ?_
    rcases ifE h with ⟨c, h⟩ | ⟨c, h⟩
    · refine RR.c_eq (fun _ => ?_) (fun q => absurd c q)
      refine RR.runs (pc' := 237) (lc' := [(0, .ref 500), (1, .int v1)]) (st' := [.int (22 : Int32), .ref 500]) (S1 := S4) (nL := 6) (cd := cd_2414) mx_2414 rfl rfl 1 rfl ?_
      refine RR.weak [(0, .ref 500), (1, .int v1)] ⟨rfl, rfl, trivial⟩ ?_
      exact s_m_reads_237 _ b11 _ _ _ h
    · refine RR.c_eq (fun q => absurd q c) (fun _ => ?_)
      refine RR.runs (pc' := 237) (lc' := [(0, .ref 500), (1, .int v1)]) (st' := [.int (21 : Int32), .ref 500]) (S1 := S4) (nL := 6) (cd := cd_2414) mx_2414 rfl rfl 2 rfl ?_
      refine RR.weak [(0, .ref 500), (1, .int v1)] ⟨rfl, rfl, trivial⟩ ?_
      exact s_m_reads_237 _ b11 _ _ _ h
  · refine RR.c_eq (fun q => absurd q c) (fun _ => ?_)
    refine RR.runs (pc' := 237) (lc' := [(0, .ref 500), (1, .int v1)]) (st' := [.int (20 : Int32), .ref 500]) (S1 := S2) (nL := 6) (cd := cd_2414) mx_2414 rfl rfl 2 rfl ?_
    refine RR.weak [(0, .ref 500), (1, .int v1)] ⟨rfl, rfl, trivial⟩ ?_
    exact s_m_reads_237 _ b11 _ _ _ h
def m_reads_70 (S : St) : Re Int32 :=
  bn (m_fails (5 : Int32) S) fun r1 S2 =>
  if isBo r1 = true then some (r1, S2) else none
set_option maxRecDepth 100000 in
theorem s_m_reads_70 {d : Nat} {S' : St} {r : Int32} (S : St) (h : m_reads_70 S = some (r, S')) : RR KM (d + 2) 2414 70 [(0, .ref 500)] [] S (some (.int r)) S' := by
  unfold m_reads_70 at h
  refine RR.runs (pc' := 72) (lc' := [(0, .ref 500)]) (st' := [.int (5 : Int32), .ref 500]) (S1 := S) (nL := 6) (cd := cd_2414) mx_2414 rfl rfl 2 rfl ?_
  obtain ⟨r1, S2, h1, h⟩ := bnE h
  refine RR.callV (b := 500) (as := [.int (5 : Int32)]) (rest := []) (r1 := (some (.int r1))) (S1 := S2) mx_2414 rfl rfl mx_2411 rfl rfl (by decide) (Or.inl rfl) (Nat.le_of_ble_eq_true rfl) (Nat.le_of_ble_eq_true rfl) (RC.deep (by omega) (s_m_fails (d := d) _ _ h1)) ?_
  show RR KM _ 2414 75 [(0, .ref 500)] [.int r1] S2 _ _
  obtain ⟨g, h⟩ := gpE h
  cases h
  exact RR.retz mx_2414 rfl rfl rfl g
def m_reads_172 (k11 : Int32 → Int32 → St → Re Int32) (v1 : Int32) (v2 : Int32) (S : St) : Re Int32 :=
  bn (m_nextToken S) fun r1 S2 =>
  k11 v1 v2 S2
set_option maxRecDepth 100000 in
theorem s_m_reads_172 {d : Nat} (k11 : Int32 → Int32 → St → Re Int32) {S' : St} {r : Int32} (b11 : ∀ (v1 : Int32) (v2 : Int32) (S : St), k11 v1 v2 S = some (r, S') → RR KM (d + 2) 2414 11 [(0, .ref 500), (1, .int v1), (2, .int v2)] [] S (some (.int r)) S') (v1 : Int32) (v2 : Int32) (S : St) (h : m_reads_172 k11 v1 v2 S = some (r, S')) : RR KM (d + 2) 2414 172 [(0, .ref 500), (1, .int v1), (2, .int v2)] [] S (some (.int r)) S' := by
  unfold m_reads_172 at h
  refine RR.runs (pc' := 173) (lc' := [(0, .ref 500), (1, .int v1), (2, .int v2)]) (st' := [.ref 500]) (S1 := S) (nL := 6) (cd := cd_2414) mx_2414 rfl rfl 1 rfl ?_
  obtain ⟨r1, S2, h1, h⟩ := bnE h
  refine RR.callV (b := 500) (as := []) (rest := []) (r1 := none) (S1 := S2) mx_2414 rfl rfl mx_2408 rfl rfl (by decide) (Or.inl rfl) (Nat.le_of_ble_eq_true rfl) (Nat.le_of_ble_eq_true rfl) (RC.deep (by omega) (s_m_nextToken (d := d) _ h1)) ?_
  show RR KM _ 2414 176 [(0, .ref 500), (1, .int v1), (2, .int v2)] [] S2 _ _
  refine RR.runs (pc' := 11) (lc' := [(0, .ref 500), (1, .int v1), (2, .int v2)]) (st' := []) (S1 := S2) (nL := 6) (cd := cd_2414) mx_2414 rfl rfl 1 rfl ?_
  refine RR.weak [(0, .ref 500), (1, .int v1), (2, .int v2)] ⟨rfl, rfl, rfl, trivial⟩ ?_
  exact b11 _ _ _ h
def m_reads_152 (k11 : Int32 → Int32 → St → Re Int32) : Nat → Int32 → Int32 → St → Re Int32
  | 0, _, _, _ => none
  | n + 1, v1, v2, S =>
  if 0 < v1 then (
    if v1 < 0 ∨ 7 ≤ v1.toNatClampNeg then none else
    if (rI S 524 v1.toNatClampNeg) = (1 : Int32) then (
      lt' ((v1 + (-1 : Int32)) : Int32) fun x1 =>
      m_reads_152 k11 n x1 v2 S)
    else (
      m_reads_172 k11 v1 v2 S))
  else (
    m_reads_172 k11 v1 v2 S)
set_option maxRecDepth 100000 in
theorem s_m_reads_152 {d : Nat} (k11 : Int32 → Int32 → St → Re Int32) {S' : St} {r : Int32} (b11 : ∀ (v1 : Int32) (v2 : Int32) (S : St), k11 v1 v2 S = some (r, S') → RR KM (d + 2) 2414 11 [(0, .ref 500), (1, .int v1), (2, .int v2)] [] S (some (.int r)) S') : ∀ (n : Nat) (v1 : Int32) (v2 : Int32) (S : St), m_reads_152 k11 n v1 v2 S = some (r, S') → RR KM (d + 2) 2414 152 [(0, .ref 500), (1, .int v1), (2, .int v2)] [] S (some (.int r)) S' := by
  intro n
  induction n with
  | zero => intro v1 v2 S h; simp only [m_reads_152] at h; cases h
  | succ n ih =>
    intro v1 v2 S h
    simp only [m_reads_152] at h
    refine RR.runs (pc' := icm .le v1 0 172 156) (lc' := [(0, .ref 500), (1, .int v1), (2, .int v2)]) (st' := []) (S1 := S) (nL := 6) (cd := cd_2414) mx_2414 rfl rfl 2 rfl ?_
    rcases ifE h with ⟨c, h⟩ | ⟨c, h⟩
    · refine RR.c_le (fun _ => ?_) (fun q => absurd c q)
      refine RR.runs (pc' := 161) (lc' := [(0, .ref 500), (1, .int v1), (2, .int v2)]) (st' := [.int v1, .ref 524]) (S1 := S) (nL := 6) (cd := cd_2414) mx_2414 rfl rfl 3 rfl ?_
      obtain ⟨g, h⟩ := gnE h
      refine RR.gPN (c2 := (KM.1 524).1 = 1) (pc' := 162) (lc' := [(0, .ref 500), (1, .int v1), (2, .int v2)]) (st' := [.int (rI S 524 v1.toNatClampNeg)]) (S1 := S) (nL := 6) (cd := cd_2414) mx_2414 rfl rfl rfl rfl g ?_
      refine RR.runs (pc' := icm .ne (rI S 524 v1.toNatClampNeg) (1 : Int32) 172 166) (lc' := [(0, .ref 500), (1, .int v1), (2, .int v2)]) (st' := []) (S1 := S) (nL := 6) (cd := cd_2414) mx_2414 rfl rfl 2 rfl ?_
      rcases ifE h with ⟨c, h⟩ | ⟨c, h⟩
      · refine RR.c_ne (fun _ => ?_) (fun q => absurd c q)
        refine RR.runs (pc' := 169) (lc' := [(1, .int ((v1 + (-1 : Int32)))), (0, .ref 500), (2, .int v2)]) (st' := []) (S1 := S) (nL := 6) (cd := cd_2414) mx_2414 rfl rfl 1 rfl ?_
        obtain ⟨x1, ex1, h⟩ := ltE h
        rw [← ex1]
        refine RR.runs (pc' := 152) (lc' := [(1, .int x1), (0, .ref 500), (2, .int v2)]) (st' := []) (S1 := S) (nL := 6) (cd := cd_2414) mx_2414 rfl rfl 1 rfl ?_
        refine RR.weak [(0, .ref 500), (1, .int x1), (2, .int v2)] ⟨rfl, rfl, rfl, trivial⟩ ?_
        exact ih _ _ _ h
      · refine RR.c_ne (fun q => absurd q c) (fun _ => ?_)
        refine RR.weak [(0, .ref 500), (1, .int v1), (2, .int v2)] ⟨rfl, rfl, rfl, trivial⟩ ?_
        exact s_m_reads_172 _ b11 _ _ _ h
    · refine RR.c_le (fun q => absurd q c) (fun _ => ?_)
      refine RR.weak [(0, .ref 500), (1, .int v1), (2, .int v2)] ⟨rfl, rfl, rfl, trivial⟩ ?_
      exact s_m_reads_172 _ b11 _ _ _ h
def m_reads_147 (k11 : Int32 → Int32 → St → Re Int32) (v1 : Int32) (p0 : Int32) (S : St) : Re Int32 :=
  bn (m_puts p0 S) fun r1 S2 =>
  m_reads_152 k11 FU v1 (0 : Int32) S2
set_option maxRecDepth 100000 in
theorem s_m_reads_147 {d : Nat} (k11 : Int32 → Int32 → St → Re Int32) {S' : St} {r : Int32} (b11 : ∀ (v1 : Int32) (v2 : Int32) (S : St), k11 v1 v2 S = some (r, S') → RR KM (d + 2) 2414 11 [(0, .ref 500), (1, .int v1), (2, .int v2)] [] S (some (.int r)) S') (v1 : Int32) (p0 : Int32) (S : St) (h : m_reads_147 k11 v1 p0 S = some (r, S')) : RR KM (d + 2) 2414 147 [(0, .ref 500), (1, .int v1)] [.int p0, .ref 500] S (some (.int r)) S' := by
  unfold m_reads_147 at h
  obtain ⟨r1, S2, h1, h⟩ := bnE h
  refine RR.callV (b := 500) (as := [.int p0]) (rest := []) (r1 := none) (S1 := S2) mx_2414 rfl rfl mx_2412 rfl rfl (by decide) (Or.inl rfl) (Nat.le_of_ble_eq_true rfl) (Nat.le_of_ble_eq_true rfl) (RC.deep (by omega) (s_m_puts (d := d) _ _ h1)) ?_
  show RR KM _ 2414 150 [(0, .ref 500), (1, .int v1)] [] S2 _ _
  refine RR.runs (pc' := 152) (lc' := [(2, .int (0 : Int32)), (0, .ref 500), (1, .int v1)]) (st' := []) (S1 := S2) (nL := 6) (cd := cd_2414) mx_2414 rfl rfl 2 rfl ?_
  refine RR.weak [(0, .ref 500), (1, .int v1), (2, .int (0 : Int32))] ⟨rfl, rfl, rfl, trivial⟩ ?_
  exact s_m_reads_152 _ b11 _ _ _ _ h
def m_reads_120 (k11 : Int32 → Int32 → St → Re Int32) (v1 : Int32) (v2 : Int32) (p0 : Int32) (p1 : Int32) (S : St) : Re Int32 :=
  if p1 < 0 ∨ 7 ≤ p1.toNatClampNeg then none else
  lt' (wI S 524 p1.toNatClampNeg p0) fun S1 =>
  if v1 < 0 ∨ 7 ≤ v1.toNatClampNeg then none else
  lt' (wI S1 525 v1.toNatClampNeg ((vp_nar .boolean (0 : Int32)))) fun S2 =>
  m_reads_172 k11 v1 v2 S2
set_option maxRecDepth 100000 in
theorem s_m_reads_120 {d : Nat} (k11 : Int32 → Int32 → St → Re Int32) {S' : St} {r : Int32} (b11 : ∀ (v1 : Int32) (v2 : Int32) (S : St), k11 v1 v2 S = some (r, S') → RR KM (d + 2) 2414 11 [(0, .ref 500), (1, .int v1), (2, .int v2)] [] S (some (.int r)) S') (v1 : Int32) (v2 : Int32) (p0 : Int32) (p1 : Int32) (S : St) (h : m_reads_120 k11 v1 v2 p0 p1 S = some (r, S')) : RR KM (d + 2) 2414 120 [(0, .ref 500), (1, .int v1), (2, .int v2)] [.int p0, .int p1, .ref 524] S (some (.int r)) S' := by
  unfold m_reads_120 at h
  obtain ⟨g, h⟩ := gnE h
  refine RR.gPN (c2 := (KM.1 524).1 = 1) (pc' := 121) (lc' := [(0, .ref 500), (1, .int v1), (2, .int v2)]) (st' := []) (S1 := (wI S 524 p1.toNatClampNeg p0)) (nL := 6) (cd := cd_2414) mx_2414 rfl rfl rfl rfl g ?_
  obtain ⟨S1, eS1, h⟩ := ltE h
  rw [← eS1]
  refine RR.runs (pc' := 127) (lc' := [(0, .ref 500), (1, .int v1), (2, .int v2)]) (st' := [.int (0 : Int32), .int v1, .ref 525]) (S1 := S1) (nL := 6) (cd := cd_2414) mx_2414 rfl rfl 4 rfl ?_
  obtain ⟨g, h⟩ := gnE h
  refine RR.gPN (c2 := (KM.1 525).1 = 3) (pc' := 128) (lc' := [(0, .ref 500), (1, .int v1), (2, .int v2)]) (st' := []) (S1 := (wI S1 525 v1.toNatClampNeg ((vp_nar .boolean (0 : Int32))))) (nL := 6) (cd := cd_2414) mx_2414 rfl rfl rfl rfl g ?_
  obtain ⟨S2, eS2, h⟩ := ltE h
  rw [← eS2]
  refine RR.runs (pc' := 172) (lc' := [(0, .ref 500), (1, .int v1), (2, .int v2)]) (st' := []) (S1 := S2) (nL := 6) (cd := cd_2414) mx_2414 rfl rfl 1 rfl ?_
  refine RR.weak [(0, .ref 500), (1, .int v1), (2, .int v2)] ⟨rfl, rfl, rfl, trivial⟩ ?_
  exact s_m_reads_172 _ b11 _ _ _ h
def m_reads_99 (k11 : Int32 → Int32 → St → Re Int32) (v1 : Int32) (v2 : Int32) (v4 : Int32) (p0 : Int32) (S : St) : Re Int32 :=
  bn (m_puts p0 S) fun r1 S2 =>
  lt' ((v1 + (1 : Int32)) : Int32) fun x3 =>
  if v4 = 0 then (
    m_reads_120 k11 x3 v2 (2 : Int32) x3 S2)
  else (
    m_reads_120 k11 x3 v2 (1 : Int32) x3 S2)
set_option maxRecDepth 100000 in
theorem s_m_reads_99 {d : Nat} (k11 : Int32 → Int32 → St → Re Int32) {S' : St} {r : Int32} (b11 : ∀ (v1 : Int32) (v2 : Int32) (S : St), k11 v1 v2 S = some (r, S') → RR KM (d + 2) 2414 11 [(0, .ref 500), (1, .int v1), (2, .int v2)] [] S (some (.int r)) S') (v1 : Int32) (v2 : Int32) (v4 : Int32) (p0 : Int32) (S : St) (h : m_reads_99 k11 v1 v2 v4 p0 S = some (r, S')) : RR KM (d + 2) 2414 99 [(0, .ref 500), (1, .int v1), (2, .int v2), (4, .int v4)] [.int p0, .ref 500] S (some (.int r)) S' := by
  unfold m_reads_99 at h
  obtain ⟨r1, S2, h1, h⟩ := bnE h
  refine RR.callV (b := 500) (as := [.int p0]) (rest := []) (r1 := none) (S1 := S2) mx_2414 rfl rfl mx_2412 rfl rfl (by decide) (Or.inl rfl) (Nat.le_of_ble_eq_true rfl) (Nat.le_of_ble_eq_true rfl) (RC.deep (by omega) (s_m_puts (d := d) _ _ h1)) ?_
  show RR KM _ 2414 102 [(0, .ref 500), (1, .int v1), (2, .int v2), (4, .int v4)] [] S2 _ _
  refine RR.runs (pc' := 105) (lc' := [(1, .int ((v1 + (1 : Int32)))), (0, .ref 500), (2, .int v2), (4, .int v4)]) (st' := []) (S1 := S2) (nL := 6) (cd := cd_2414) mx_2414 rfl rfl 1 rfl ?_
  obtain ⟨x3, ex3, h⟩ := ltE h
  rw [← ex3]
  refine RR.runs (pc' := icm .eq v4 0 119 115) (lc' := [(1, .int x3), (0, .ref 500), (2, .int v2), (4, .int v4)]) (st' := [.int x3, .ref 524]) (S1 := S2) (nL := 6) (cd := cd_2414) mx_2414 rfl rfl 5 rfl ?_
  rcases ifE h with ⟨c, h⟩ | ⟨c, h⟩
  · refine RR.c_eq (fun _ => ?_) (fun q => absurd c q)
    refine RR.runs (pc' := 120) (lc' := [(1, .int x3), (0, .ref 500), (2, .int v2), (4, .int v4)]) (st' := [.int (2 : Int32), .int x3, .ref 524]) (S1 := S2) (nL := 6) (cd := cd_2414) mx_2414 rfl rfl 1 rfl ?_
    refine RR.weak [(0, .ref 500), (1, .int x3), (2, .int v2)] ⟨rfl, rfl, rfl, trivial⟩ ?_
    exact s_m_reads_120 _ b11 _ _ _ _ _ h
  · refine RR.c_eq (fun q => absurd q c) (fun _ => ?_)
    refine RR.runs (pc' := 120) (lc' := [(1, .int x3), (0, .ref 500), (2, .int v2), (4, .int v4)]) (st' := [.int (1 : Int32), .int x3, .ref 524]) (S1 := S2) (nL := 6) (cd := cd_2414) mx_2414 rfl rfl 2 rfl ?_
    refine RR.weak [(0, .ref 500), (1, .int x3), (2, .int v2)] ⟨rfl, rfl, rfl, trivial⟩ ?_
    exact s_m_reads_120 _ b11 _ _ _ _ _ h
def m_reads_86 (k11 : Int32 → Int32 → St → Re Int32) (v1 : Int32) (v2 : Int32) (v4 : Int32) (S : St) : Re Int32 :=
  if v4 = 0 then (
    m_reads_99 k11 v1 v2 v4 (28 : Int32) S)
  else (
    m_reads_99 k11 v1 v2 v4 (30 : Int32) S)
set_option maxRecDepth 100000 in
theorem s_m_reads_86 {d : Nat} (k11 : Int32 → Int32 → St → Re Int32) {S' : St} {r : Int32} (b11 : ∀ (v1 : Int32) (v2 : Int32) (S : St), k11 v1 v2 S = some (r, S') → RR KM (d + 2) 2414 11 [(0, .ref 500), (1, .int v1), (2, .int v2)] [] S (some (.int r)) S') (v1 : Int32) (v2 : Int32) (v4 : Int32) (S : St) (h : m_reads_86 k11 v1 v2 v4 S = some (r, S')) : RR KM (d + 2) 2414 86 [(0, .ref 500), (1, .int v1), (2, .int v2), (4, .int v4)] [] S (some (.int r)) S' := by
  unfold m_reads_86 at h
  refine RR.runs (pc' := icm .eq v4 0 97 92) (lc' := [(0, .ref 500), (1, .int v1), (2, .int v2), (4, .int v4)]) (st' := [.ref 500]) (S1 := S) (nL := 6) (cd := cd_2414) mx_2414 rfl rfl 3 rfl ?_
  rcases ifE h with ⟨c, h⟩ | ⟨c, h⟩
  · refine RR.c_eq (fun _ => ?_) (fun q => absurd c q)
    refine RR.runs (pc' := 99) (lc' := [(0, .ref 500), (1, .int v1), (2, .int v2), (4, .int v4)]) (st' := [.int (28 : Int32), .ref 500]) (S1 := S) (nL := 6) (cd := cd_2414) mx_2414 rfl rfl 1 rfl ?_
    refine RR.weak [(0, .ref 500), (1, .int v1), (2, .int v2), (4, .int v4)] ⟨rfl, rfl, rfl, rfl, trivial⟩ ?_
    exact s_m_reads_99 _ b11 _ _ _ _ _ h
  · refine RR.c_eq (fun q => absurd q c) (fun _ => ?_)
    refine RR.runs (pc' := 99) (lc' := [(0, .ref 500), (1, .int v1), (2, .int v2), (4, .int v4)]) (st' := [.int (30 : Int32), .ref 500]) (S1 := S) (nL := 6) (cd := cd_2414) mx_2414 rfl rfl 2 rfl ?_
    refine RR.weak [(0, .ref 500), (1, .int v1), (2, .int v2), (4, .int v4)] ⟨rfl, rfl, rfl, rfl, trivial⟩ ?_
    exact s_m_reads_99 _ b11 _ _ _ _ _ h
def m_reads_65 (k11 : Int32 → Int32 → St → Re Int32) (v1 : Int32) (v2 : Int32) (v3 : Int32) (v4 : Int32) (v5 : Int32) (S : St) : Re Int32 :=
  if v1 = (5 : Int32) then (
    m_reads_70 S)
  else (
    if v4 = 0 then (
      if v5 = 0 then (
        if 0 < v3 then (
          m_reads_147 k11 v1 v3 S)
        else (
          m_reads_147 k11 v1 (((100 : Int32) + (rI S 500 8))) S))
      else (
        m_reads_86 k11 v1 v2 v4 S))
    else (
      m_reads_86 k11 v1 v2 v4 S))
set_option maxRecDepth 100000 in
theorem s_m_reads_65 {d : Nat} (k11 : Int32 → Int32 → St → Re Int32) {S' : St} {r : Int32} (b11 : ∀ (v1 : Int32) (v2 : Int32) (S : St), k11 v1 v2 S = some (r, S') → RR KM (d + 2) 2414 11 [(0, .ref 500), (1, .int v1), (2, .int v2)] [] S (some (.int r)) S') (v1 : Int32) (v2 : Int32) (v3 : Int32) (v4 : Int32) (v5 : Int32) (S : St) (h : m_reads_65 k11 v1 v2 v3 v4 v5 S = some (r, S')) : RR KM (d + 2) 2414 65 [(0, .ref 500), (1, .int v1), (2, .int v2), (3, .int v3), (4, .int v4), (5, .int v5)] [] S (some (.int r)) S' := by
  unfold m_reads_65 at h
  refine RR.runs (pc' := icm .ne v1 (5 : Int32) 76 70) (lc' := [(0, .ref 500), (1, .int v1), (2, .int v2), (3, .int v3), (4, .int v4), (5, .int v5)]) (st' := []) (S1 := S) (nL := 6) (cd := cd_2414) mx_2414 rfl rfl 3 rfl ?_
  rcases ifE h with ⟨c, h⟩ | ⟨c, h⟩
  · refine RR.c_ne (fun _ => ?_) (fun q => absurd c q)
    refine RR.weak [(0, .ref 500)] ⟨rfl, trivial⟩ ?_
    exact s_m_reads_70 _ h
  · refine RR.c_ne (fun q => absurd q c) (fun _ => ?_)
    refine RR.runs (pc' := icm .ne v4 0 86 81) (lc' := [(0, .ref 500), (1, .int v1), (2, .int v2), (3, .int v3), (4, .int v4), (5, .int v5)]) (st' := []) (S1 := S) (nL := 6) (cd := cd_2414) mx_2414 rfl rfl 2 rfl ?_
    rcases ifE h with ⟨c, h⟩ | ⟨c, h⟩
    · refine RR.c_ne (fun _ => ?_) (fun q => absurd c q)
      refine RR.runs (pc' := icm .eq v5 0 131 86) (lc' := [(0, .ref 500), (1, .int v1), (2, .int v2), (3, .int v3), (4, .int v4), (5, .int v5)]) (st' := []) (S1 := S) (nL := 6) (cd := cd_2414) mx_2414 rfl rfl 2 rfl ?_
      rcases ifE h with ⟨c, h⟩ | ⟨c, h⟩
      · refine RR.c_eq (fun _ => ?_) (fun q => absurd c q)
        refine RR.runs (pc' := icm .le v3 0 140 136) (lc' := [(0, .ref 500), (1, .int v1), (2, .int v2), (3, .int v3), (4, .int v4), (5, .int v5)]) (st' := [.ref 500]) (S1 := S) (nL := 6) (cd := cd_2414) mx_2414 rfl rfl 3 rfl ?_
        rcases ifE h with ⟨c, h⟩ | ⟨c, h⟩
        · refine RR.c_le (fun _ => ?_) (fun q => absurd c q)
          refine RR.runs (pc' := 147) (lc' := [(0, .ref 500), (1, .int v1), (2, .int v2), (3, .int v3), (4, .int v4), (5, .int v5)]) (st' := [.int v3, .ref 500]) (S1 := S) (nL := 6) (cd := cd_2414) mx_2414 rfl rfl 2 rfl ?_
          refine RR.weak [(0, .ref 500), (1, .int v1)] ⟨rfl, rfl, trivial⟩ ?_
          exact s_m_reads_147 _ b11 _ _ _ h
        · refine RR.c_le (fun q => absurd q c) (fun _ => ?_)
          refine RR.runs (pc' := 147) (lc' := [(0, .ref 500), (1, .int v1), (2, .int v2), (3, .int v3), (4, .int v4), (5, .int v5)]) (st' := [.int (((100 : Int32) + (rI S 500 8))), .ref 500]) (S1 := S) (nL := 6) (cd := cd_2414) mx_2414 rfl rfl 4 rfl ?_
          refine RR.weak [(0, .ref 500), (1, .int v1)] ⟨rfl, rfl, trivial⟩ ?_
          exact s_m_reads_147 _ b11 _ _ _ h
      · refine RR.c_eq (fun q => absurd q c) (fun _ => ?_)
        refine RR.weak [(0, .ref 500), (1, .int v1), (2, .int v2), (4, .int v4)] ⟨rfl, rfl, rfl, rfl, trivial⟩ ?_
        exact s_m_reads_86 _ b11 _ _ _ _ h
    · refine RR.c_ne (fun q => absurd q c) (fun _ => ?_)
      refine RR.weak [(0, .ref 500), (1, .int v1), (2, .int v2), (4, .int v4)] ⟨rfl, rfl, rfl, rfl, trivial⟩ ?_
      exact s_m_reads_86 _ b11 _ _ _ _ h
def m_reads_59 (S : St) : Re Int32 :=
  bn (m_fails (1 : Int32) S) fun r1 S2 =>
  if isBo r1 = true then some (r1, S2) else none
set_option maxRecDepth 100000 in
theorem s_m_reads_59 {d : Nat} {S' : St} {r : Int32} (S : St) (h : m_reads_59 S = some (r, S')) : RR KM (d + 2) 2414 59 [(0, .ref 500)] [] S (some (.int r)) S' := by
  unfold m_reads_59 at h
  refine RR.runs (pc' := 61) (lc' := [(0, .ref 500)]) (st' := [.int (1 : Int32), .ref 500]) (S1 := S) (nL := 6) (cd := cd_2414) mx_2414 rfl rfl 2 rfl ?_
  obtain ⟨r1, S2, h1, h⟩ := bnE h
  refine RR.callV (b := 500) (as := [.int (1 : Int32)]) (rest := []) (r1 := (some (.int r1))) (S1 := S2) mx_2414 rfl rfl mx_2411 rfl rfl (by decide) (Or.inl rfl) (Nat.le_of_ble_eq_true rfl) (Nat.le_of_ble_eq_true rfl) (RC.deep (by omega) (s_m_fails (d := d) _ _ h1)) ?_
  show RR KM _ 2414 64 [(0, .ref 500)] [.int r1] S2 _ _
  obtain ⟨g, h⟩ := gpE h
  cases h
  exact RR.retz mx_2414 rfl rfl rfl g
def m_reads_11 : Nat → Int32 → Int32 → St → Re Int32
  | 0, _, _, _ => none
  | n + 1, v1, v2, S =>
  if v2 = 0 then (
    bn (m_isSign (43 : Int32) S) fun r1 S2 =>
    if r1 = 0 then (
      bn (m_isSign (45 : Int32) S2) fun r3 S4 =>
      if r3 = 0 then (
        bn (m_isSign (42 : Int32) S4) fun r5 S6 =>
        if r5 = 0 then (
          bn (m_isSign (60 : Int32) S6) fun r7 S8 =>
          if r7 = 0 then (
            bn (m_isSign (61 : Int32) S8) fun r9 S10 =>
            if r9 = 0 then (
              m_reads_304 (m_reads_11 n) v1 v2 S10)
            else (
              m_reads_263 (m_reads_11 n) v1 v2 S10))
          else (
            m_reads_263 (m_reads_11 n) v1 v2 S8))
        else (
          m_reads_206 (m_reads_11 n) v1 S6))
      else (
        m_reads_206 (m_reads_11 n) v1 S4))
    else (
      m_reads_206 (m_reads_11 n) v1 S2))
  else (
    bn (m_fact S) fun r11 S12 =>
    bn (m_isWord (10631 : Int64) S12) fun r13 S14 =>
    bn (m_isSign (40 : Int32) S14) fun r15 S16 =>
    if r11 = 0 then (
      if r13 = 0 then (
        if r15 = 0 then (
          if (rI S16 500 6) = (2 : Int32) then (
            m_reads_65 (m_reads_11 n) v1 v2 r11 r13 r15 S16)
          else (
            m_reads_59 S16))
        else (
          m_reads_65 (m_reads_11 n) v1 v2 r11 r13 r15 S16))
      else (
        m_reads_65 (m_reads_11 n) v1 v2 r11 r13 r15 S16))
    else (
      m_reads_65 (m_reads_11 n) v1 v2 r11 r13 r15 S16))
set_option maxRecDepth 100000 in
theorem s_m_reads_11 {d : Nat} {S' : St} {r : Int32} : ∀ (n : Nat) (v1 : Int32) (v2 : Int32) (S : St), m_reads_11 n v1 v2 S = some (r, S') → RR KM (d + 2) 2414 11 [(0, .ref 500), (1, .int v1), (2, .int v2)] [] S (some (.int r)) S' := by
  intro n
  induction n with
  | zero => intro v1 v2 S h; simp only [m_reads_11] at h; cases h
  | succ n ih =>
    intro v1 v2 S h
    simp only [m_reads_11] at h
    refine RR.runs (pc' := icm .eq v2 0 179 15) (lc' := [(0, .ref 500), (1, .int v1), (2, .int v2)]) (st' := []) (S1 := S) (nL := 6) (cd := cd_2414) mx_2414 rfl rfl 2 rfl ?_
    rcases ifE h with ⟨c, h⟩ | ⟨c, h⟩
    · refine RR.c_eq (fun _ => ?_) (fun q => absurd c q)
      refine RR.runs (pc' := 182) (lc' := [(0, .ref 500), (1, .int v1), (2, .int v2)]) (st' := [.int (43 : Int32), .ref 500]) (S1 := S) (nL := 6) (cd := cd_2414) mx_2414 rfl rfl 2 rfl ?_
      obtain ⟨r1, S2, h1, h⟩ := bnE h
      refine RR.callV (b := 500) (as := [.int (43 : Int32)]) (rest := []) (r1 := (some (.int r1))) (S1 := S2) mx_2414 rfl rfl mx_2410 rfl rfl (by decide) (Or.inl rfl) (Nat.le_of_ble_eq_true rfl) (Nat.le_of_ble_eq_true rfl) (RC.deep (by omega) (s_m_isSign (d := d) _ _ h1)) ?_
      show RR KM _ 2414 185 [(0, .ref 500), (1, .int v1), (2, .int v2)] [.int r1] S2 _ _
      refine RR.runs (pc' := icm .ne r1 0 206 188) (lc' := [(0, .ref 500), (1, .int v1), (2, .int v2)]) (st' := []) (S1 := S2) (nL := 6) (cd := cd_2414) mx_2414 rfl rfl 1 rfl ?_
      rcases ifE h with ⟨c, h⟩ | ⟨c, h⟩
      · refine RR.c_ne (fun _ => ?_) (fun q => absurd c q)
        refine RR.runs (pc' := 191) (lc' := [(0, .ref 500), (1, .int v1), (2, .int v2)]) (st' := [.int (45 : Int32), .ref 500]) (S1 := S2) (nL := 6) (cd := cd_2414) mx_2414 rfl rfl 2 rfl ?_
        obtain ⟨r3, S4, h1, h⟩ := bnE h
        refine RR.callV (b := 500) (as := [.int (45 : Int32)]) (rest := []) (r1 := (some (.int r3))) (S1 := S4) mx_2414 rfl rfl mx_2410 rfl rfl (by decide) (Or.inl rfl) (Nat.le_of_ble_eq_true rfl) (Nat.le_of_ble_eq_true rfl) (RC.deep (by omega) (s_m_isSign (d := d) _ _ h1)) ?_
        show RR KM _ 2414 194 [(0, .ref 500), (1, .int v1), (2, .int v2)] [.int r3] S4 _ _
        refine RR.runs (pc' := icm .ne r3 0 206 197) (lc' := [(0, .ref 500), (1, .int v1), (2, .int v2)]) (st' := []) (S1 := S4) (nL := 6) (cd := cd_2414) mx_2414 rfl rfl 1 rfl ?_
        rcases ifE h with ⟨c, h⟩ | ⟨c, h⟩
        · refine RR.c_ne (fun _ => ?_) (fun q => absurd c q)
          refine RR.runs (pc' := 200) (lc' := [(0, .ref 500), (1, .int v1), (2, .int v2)]) (st' := [.int (42 : Int32), .ref 500]) (S1 := S4) (nL := 6) (cd := cd_2414) mx_2414 rfl rfl 2 rfl ?_
          obtain ⟨r5, S6, h1, h⟩ := bnE h
          refine RR.callV (b := 500) (as := [.int (42 : Int32)]) (rest := []) (r1 := (some (.int r5))) (S1 := S6) mx_2414 rfl rfl mx_2410 rfl rfl (by decide) (Or.inl rfl) (Nat.le_of_ble_eq_true rfl) (Nat.le_of_ble_eq_true rfl) (RC.deep (by omega) (s_m_isSign (d := d) _ _ h1)) ?_
          show RR KM _ 2414 203 [(0, .ref 500), (1, .int v1), (2, .int v2)] [.int r5] S6 _ _
          refine RR.runs (pc' := icm .eq r5 0 245 206) (lc' := [(0, .ref 500), (1, .int v1), (2, .int v2)]) (st' := []) (S1 := S6) (nL := 6) (cd := cd_2414) mx_2414 rfl rfl 1 rfl ?_
          rcases ifE h with ⟨c, h⟩ | ⟨c, h⟩
          · refine RR.c_eq (fun _ => ?_) (fun q => absurd c q)
            refine RR.runs (pc' := 248) (lc' := [(0, .ref 500), (1, .int v1), (2, .int v2)]) (st' := [.int (60 : Int32), .ref 500]) (S1 := S6) (nL := 6) (cd := cd_2414) mx_2414 rfl rfl 2 rfl ?_
            obtain ⟨r7, S8, h1, h⟩ := bnE h
            refine RR.callV (b := 500) (as := [.int (60 : Int32)]) (rest := []) (r1 := (some (.int r7))) (S1 := S8) mx_2414 rfl rfl mx_2410 rfl rfl (by decide) (Or.inl rfl) (Nat.le_of_ble_eq_true rfl) (Nat.le_of_ble_eq_true rfl) (RC.deep (by omega) (s_m_isSign (d := d) _ _ h1)) ?_
            show RR KM _ 2414 251 [(0, .ref 500), (1, .int v1), (2, .int v2)] [.int r7] S8 _ _
            refine RR.runs (pc' := icm .ne r7 0 263 254) (lc' := [(0, .ref 500), (1, .int v1), (2, .int v2)]) (st' := []) (S1 := S8) (nL := 6) (cd := cd_2414) mx_2414 rfl rfl 1 rfl ?_
            rcases ifE h with ⟨c, h⟩ | ⟨c, h⟩
            · refine RR.c_ne (fun _ => ?_) (fun q => absurd c q)
              refine RR.runs (pc' := 257) (lc' := [(0, .ref 500), (1, .int v1), (2, .int v2)]) (st' := [.int (61 : Int32), .ref 500]) (S1 := S8) (nL := 6) (cd := cd_2414) mx_2414 rfl rfl 2 rfl ?_
              obtain ⟨r9, S10, h1, h⟩ := bnE h
              refine RR.callV (b := 500) (as := [.int (61 : Int32)]) (rest := []) (r1 := (some (.int r9))) (S1 := S10) mx_2414 rfl rfl mx_2410 rfl rfl (by decide) (Or.inl rfl) (Nat.le_of_ble_eq_true rfl) (Nat.le_of_ble_eq_true rfl) (RC.deep (by omega) (s_m_isSign (d := d) _ _ h1)) ?_
              show RR KM _ 2414 260 [(0, .ref 500), (1, .int v1), (2, .int v2)] [.int r9] S10 _ _
              refine RR.runs (pc' := icm .eq r9 0 304 263) (lc' := [(0, .ref 500), (1, .int v1), (2, .int v2)]) (st' := []) (S1 := S10) (nL := 6) (cd := cd_2414) mx_2414 rfl rfl 1 rfl ?_
              rcases ifE h with ⟨c, h⟩ | ⟨c, h⟩
              · refine RR.c_eq (fun _ => ?_) (fun q => absurd c q)
                refine RR.weak [(0, .ref 500), (1, .int v1), (2, .int v2)] ⟨rfl, rfl, rfl, trivial⟩ ?_
                exact s_m_reads_304 _ (fun _ _ S h => ih _ _ S h) _ _ _ h
              · refine RR.c_eq (fun q => absurd q c) (fun _ => ?_)
                refine RR.weak [(0, .ref 500), (1, .int v1), (2, .int v2)] ⟨rfl, rfl, rfl, trivial⟩ ?_
                exact s_m_reads_263 _ (fun _ _ S h => ih _ _ S h) _ _ _ h
            · refine RR.c_ne (fun q => absurd q c) (fun _ => ?_)
              refine RR.weak [(0, .ref 500), (1, .int v1), (2, .int v2)] ⟨rfl, rfl, rfl, trivial⟩ ?_
              exact s_m_reads_263 _ (fun _ _ S h => ih _ _ S h) _ _ _ h
          · refine RR.c_eq (fun q => absurd q c) (fun _ => ?_)
            refine RR.weak [(0, .ref 500), (1, .int v1)] ⟨rfl, rfl, trivial⟩ ?_
            exact s_m_reads_206 _ (fun _ _ S h => ih _ _ S h) _ _ h
        · refine RR.c_ne (fun q => absurd q c) (fun _ => ?_)
          refine RR.weak [(0, .ref 500), (1, .int v1)] ⟨rfl, rfl, trivial⟩ ?_
          exact s_m_reads_206 _ (fun _ _ S h => ih _ _ S h) _ _ h
      · refine RR.c_ne (fun q => absurd q c) (fun _ => ?_)
        refine RR.weak [(0, .ref 500), (1, .int v1)] ⟨rfl, rfl, trivial⟩ ?_
        exact s_m_reads_206 _ (fun _ _ S h => ih _ _ S h) _ _ h
    · refine RR.c_eq (fun q => absurd q c) (fun _ => ?_)
      refine RR.runs (pc' := 16) (lc' := [(0, .ref 500), (1, .int v1), (2, .int v2)]) (st' := [.ref 500]) (S1 := S) (nL := 6) (cd := cd_2414) mx_2414 rfl rfl 1 rfl ?_
      obtain ⟨r11, S12, h1, h⟩ := bnE h
      refine RR.callV (b := 500) (as := []) (rest := []) (r1 := (some (.int r11))) (S1 := S12) mx_2414 rfl rfl mx_2413 rfl rfl (by decide) (Or.inl rfl) (Nat.le_of_ble_eq_true rfl) (Nat.le_of_ble_eq_true rfl) (RC.deep (by omega) (s_m_fact (d := d) _ h1)) ?_
      show RR KM _ 2414 19 [(0, .ref 500), (1, .int v1), (2, .int v2)] [.int r11] S12 _ _
      refine RR.runs (pc' := 24) (lc' := [(3, .int r11), (0, .ref 500), (1, .int v1), (2, .int v2)]) (st' := [.long (10631 : Int64), .ref 500]) (S1 := S12) (nL := 6) (cd := cd_2414) mx_2414 rfl rfl 3 rfl ?_
      obtain ⟨r13, S14, h1, h⟩ := bnE h
      refine RR.callV (b := 500) (as := [.long (10631 : Int64)]) (rest := []) (r1 := (some (.int r13))) (S1 := S14) mx_2414 rfl rfl mx_2409 rfl rfl (by decide) (Or.inl rfl) (Nat.le_of_ble_eq_true rfl) (Nat.le_of_ble_eq_true rfl) (RC.deep (by omega) (s_m_isWord (d := d) _ _ h1)) ?_
      show RR KM _ 2414 27 [(3, .int r11), (0, .ref 500), (1, .int v1), (2, .int v2)] [.int r13] S14 _ _
      refine RR.runs (pc' := 32) (lc' := [(4, .int r13), (3, .int r11), (0, .ref 500), (1, .int v1), (2, .int v2)]) (st' := [.int (40 : Int32), .ref 500]) (S1 := S14) (nL := 6) (cd := cd_2414) mx_2414 rfl rfl 3 rfl ?_
      obtain ⟨r15, S16, h1, h⟩ := bnE h
      refine RR.callV (b := 500) (as := [.int (40 : Int32)]) (rest := []) (r1 := (some (.int r15))) (S1 := S16) mx_2414 rfl rfl mx_2410 rfl rfl (by decide) (Or.inl rfl) (Nat.le_of_ble_eq_true rfl) (Nat.le_of_ble_eq_true rfl) (RC.deep (by omega) (s_m_isSign (d := d) _ _ h1)) ?_
      show RR KM _ 2414 35 [(4, .int r13), (3, .int r11), (0, .ref 500), (1, .int v1), (2, .int v2)] [.int r15] S16 _ _
      refine RR.runs (pc' := icm .ne r11 0 65 41) (lc' := [(5, .int r15), (4, .int r13), (3, .int r11), (0, .ref 500), (1, .int v1), (2, .int v2)]) (st' := []) (S1 := S16) (nL := 6) (cd := cd_2414) mx_2414 rfl rfl 3 rfl ?_
      rcases ifE h with ⟨c, h⟩ | ⟨c, h⟩
      · refine RR.c_ne (fun _ => ?_) (fun q => absurd c q)
        refine RR.runs (pc' := icm .ne r13 0 65 46) (lc' := [(5, .int r15), (4, .int r13), (3, .int r11), (0, .ref 500), (1, .int v1), (2, .int v2)]) (st' := []) (S1 := S16) (nL := 6) (cd := cd_2414) mx_2414 rfl rfl 2 rfl ?_
        rcases ifE h with ⟨c, h⟩ | ⟨c, h⟩
        · refine RR.c_ne (fun _ => ?_) (fun q => absurd c q)
          refine RR.runs (pc' := icm .ne r15 0 65 51) (lc' := [(5, .int r15), (4, .int r13), (3, .int r11), (0, .ref 500), (1, .int v1), (2, .int v2)]) (st' := []) (S1 := S16) (nL := 6) (cd := cd_2414) mx_2414 rfl rfl 2 rfl ?_
          rcases ifE h with ⟨c, h⟩ | ⟨c, h⟩
          · refine RR.c_ne (fun _ => ?_) (fun q => absurd c q)
            refine RR.runs (pc' := icm .eq (rI S16 500 6) (2 : Int32) 65 59) (lc' := [(5, .int r15), (4, .int r13), (3, .int r11), (0, .ref 500), (1, .int v1), (2, .int v2)]) (st' := []) (S1 := S16) (nL := 6) (cd := cd_2414) mx_2414 rfl rfl 4 rfl ?_
            rcases ifE h with ⟨c, h⟩ | ⟨c, h⟩
            · refine RR.c_eq (fun _ => ?_) (fun q => absurd c q)
              refine RR.weak [(0, .ref 500), (1, .int v1), (2, .int v2), (3, .int r11), (4, .int r13), (5, .int r15)] ⟨rfl, rfl, rfl, rfl, rfl, rfl, trivial⟩ ?_
              exact s_m_reads_65 _ (fun _ _ S h => ih _ _ S h) _ _ _ _ _ _ h
            · refine RR.c_eq (fun q => absurd q c) (fun _ => ?_)
              refine RR.weak [(0, .ref 500)] ⟨rfl, trivial⟩ ?_
              exact s_m_reads_59 _ h
          · refine RR.c_ne (fun q => absurd q c) (fun _ => ?_)
            refine RR.weak [(0, .ref 500), (1, .int v1), (2, .int v2), (3, .int r11), (4, .int r13), (5, .int r15)] ⟨rfl, rfl, rfl, rfl, rfl, rfl, trivial⟩ ?_
            exact s_m_reads_65 _ (fun _ _ S h => ih _ _ S h) _ _ _ _ _ _ h
        · refine RR.c_ne (fun q => absurd q c) (fun _ => ?_)
          refine RR.weak [(0, .ref 500), (1, .int v1), (2, .int v2), (3, .int r11), (4, .int r13), (5, .int r15)] ⟨rfl, rfl, rfl, rfl, rfl, rfl, trivial⟩ ?_
          exact s_m_reads_65 _ (fun _ _ S h => ih _ _ S h) _ _ _ _ _ _ h
      · refine RR.c_ne (fun q => absurd q c) (fun _ => ?_)
        refine RR.weak [(0, .ref 500), (1, .int v1), (2, .int v2), (3, .int r11), (4, .int r13), (5, .int r15)] ⟨rfl, rfl, rfl, rfl, rfl, rfl, trivial⟩ ?_
        exact s_m_reads_65 _ (fun _ _ S h => ih _ _ S h) _ _ _ _ _ _ h
def m_reads (S : St) : Re Int32 :=
  if (0 : Int32) < 0 ∨ 7 ≤ (0 : Int32).toNatClampNeg then none else
  lt' (wI S 525 (0 : Int32).toNatClampNeg ((vp_nar .boolean (0 : Int32)))) fun S1 =>
  m_reads_11 FU (0 : Int32) (1 : Int32) S1
set_option maxRecDepth 100000 in
theorem s0_m_reads {d : Nat} {S' : St} {r : Int32} (S : St) (h : m_reads S = some (r, S')) : RR KM (d + 2) 2414 0 [(0, .ref 500)] [] S (some (.int r)) S' := by
  unfold m_reads at h
  refine RR.runs (pc' := 10) (lc' := [(2, .int (1 : Int32)), (1, .int (0 : Int32)), (0, .ref 500)]) (st' := [.int (0 : Int32), .int (0 : Int32), .ref 525]) (S1 := S) (nL := 6) (cd := cd_2414) mx_2414 rfl rfl 8 rfl ?_
  obtain ⟨g, h⟩ := gnE h
  refine RR.gPN (c2 := (KM.1 525).1 = 3) (pc' := 11) (lc' := [(2, .int (1 : Int32)), (1, .int (0 : Int32)), (0, .ref 500)]) (st' := []) (S1 := (wI S 525 (0 : Int32).toNatClampNeg ((vp_nar .boolean (0 : Int32))))) (nL := 6) (cd := cd_2414) mx_2414 rfl rfl rfl rfl g ?_
  obtain ⟨S1, eS1, h⟩ := ltE h
  rw [← eS1]
  refine RR.weak [(0, .ref 500), (1, .int (0 : Int32)), (2, .int (1 : Int32))] ⟨rfl, rfl, rfl, trivial⟩ ?_
  exact s_m_reads_11 _ _ _ _ h
theorem s_m_reads {d : Nat} {S' : St} {r : Int32} (S : St) (h : m_reads S = some (r, S')) : RC KM (d + 2) 2414 [.ref 500] S (some (.int r)) S' := RC.of rfl (s0_m_reads S h)
-- opens (I)V
def m_opens (v1 : Int32) (S : St) : Re Unit :=
  if v1 < 0 ∨ 7 ≤ v1.toNatClampNeg then none else
  lt' (wI S 527 v1.toNatClampNeg (0 : Int32)) fun S1 =>
  if v1 < 0 ∨ 7 ≤ v1.toNatClampNeg then none else
  lt' (wI S1 529 v1.toNatClampNeg (0 : Int32)) fun S2 =>
  if v1 < 0 ∨ 7 ≤ v1.toNatClampNeg then none else
  lt' (wI S2 530 v1.toNatClampNeg (0 : Int32)) fun S3 =>
  if v1 < 0 ∨ 7 ≤ v1.toNatClampNeg then none else
  lt' (wI S3 531 v1.toNatClampNeg (20 : Int32)) fun S4 =>
  if v1 < 0 ∨ 7 ≤ v1.toNatClampNeg then none else
  lt' (wI S4 533 v1.toNatClampNeg (0 : Int32)) fun S5 =>
  some ((), S5)
set_option maxRecDepth 100000 in
theorem s0_m_opens {d : Nat} {S' : St} {r : Unit} (v1 : Int32) (S : St) (h : m_opens v1 S = some (r, S')) : RR KM (d + 0) 2415 0 [(0, .ref 500), (1, .int v1)] [] S none S' := by
  unfold m_opens at h
  refine RR.runs (pc' := 6) (lc' := [(0, .ref 500), (1, .int v1)]) (st' := [.int (0 : Int32), .int v1, .ref 527]) (S1 := S) (nL := 2) (cd := cd_2415) mx_2415 rfl rfl 4 rfl ?_
  obtain ⟨g, h⟩ := gnE h
  refine RR.gPN (c2 := (KM.1 527).1 = 1) (pc' := 7) (lc' := [(0, .ref 500), (1, .int v1)]) (st' := []) (S1 := (wI S 527 v1.toNatClampNeg (0 : Int32))) (nL := 2) (cd := cd_2415) mx_2415 rfl rfl rfl rfl g ?_
  obtain ⟨S1, eS1, h⟩ := ltE h
  rw [← eS1]
  refine RR.runs (pc' := 13) (lc' := [(0, .ref 500), (1, .int v1)]) (st' := [.int (0 : Int32), .int v1, .ref 529]) (S1 := S1) (nL := 2) (cd := cd_2415) mx_2415 rfl rfl 4 rfl ?_
  obtain ⟨g, h⟩ := gnE h
  refine RR.gPN (c2 := (KM.1 529).1 = 1) (pc' := 14) (lc' := [(0, .ref 500), (1, .int v1)]) (st' := []) (S1 := (wI S1 529 v1.toNatClampNeg (0 : Int32))) (nL := 2) (cd := cd_2415) mx_2415 rfl rfl rfl rfl g ?_
  obtain ⟨S2, eS2, h⟩ := ltE h
  rw [← eS2]
  refine RR.runs (pc' := 20) (lc' := [(0, .ref 500), (1, .int v1)]) (st' := [.int (0 : Int32), .int v1, .ref 530]) (S1 := S2) (nL := 2) (cd := cd_2415) mx_2415 rfl rfl 4 rfl ?_
  obtain ⟨g, h⟩ := gnE h
  refine RR.gPN (c2 := (KM.1 530).1 = 1) (pc' := 21) (lc' := [(0, .ref 500), (1, .int v1)]) (st' := []) (S1 := (wI S2 530 v1.toNatClampNeg (0 : Int32))) (nL := 2) (cd := cd_2415) mx_2415 rfl rfl rfl rfl g ?_
  obtain ⟨S3, eS3, h⟩ := ltE h
  rw [← eS3]
  refine RR.runs (pc' := 28) (lc' := [(0, .ref 500), (1, .int v1)]) (st' := [.int (20 : Int32), .int v1, .ref 531]) (S1 := S3) (nL := 2) (cd := cd_2415) mx_2415 rfl rfl 4 rfl ?_
  obtain ⟨g, h⟩ := gnE h
  refine RR.gPN (c2 := (KM.1 531).1 = 1) (pc' := 29) (lc' := [(0, .ref 500), (1, .int v1)]) (st' := []) (S1 := (wI S3 531 v1.toNatClampNeg (20 : Int32))) (nL := 2) (cd := cd_2415) mx_2415 rfl rfl rfl rfl g ?_
  obtain ⟨S4, eS4, h⟩ := ltE h
  rw [← eS4]
  refine RR.runs (pc' := 35) (lc' := [(0, .ref 500), (1, .int v1)]) (st' := [.int (0 : Int32), .int v1, .ref 533]) (S1 := S4) (nL := 2) (cd := cd_2415) mx_2415 rfl rfl 4 rfl ?_
  obtain ⟨g, h⟩ := gnE h
  refine RR.gPN (c2 := (KM.1 533).1 = 1) (pc' := 36) (lc' := [(0, .ref 500), (1, .int v1)]) (st' := []) (S1 := (wI S4 533 v1.toNatClampNeg (0 : Int32))) (nL := 2) (cd := cd_2415) mx_2415 rfl rfl rfl rfl g ?_
  obtain ⟨S5, eS5, h⟩ := ltE h
  rw [← eS5]
  cases h
  exact RR.retv mx_2415 rfl rfl rfl
theorem s_m_opens {d : Nat} {S' : St} {r : Unit} (v1 : Int32) (S : St) (h : m_opens v1 S = some (r, S')) : RC KM (d + 0) 2415 [.ref 500, .int v1] S none S' := RC.of rfl (s0_m_opens v1 S h)
-- sums (I)V
def m_sums_45 (v1 : Int32) (p0 : Int32) (p1 : Int32) (S : St) : Re Unit :=
  if p1 < 0 ∨ 7 ≤ p1.toNatClampNeg then none else
  lt' (wI S 530 p1.toNatClampNeg p0) fun S1 =>
  if v1 < 0 ∨ 7 ≤ v1.toNatClampNeg then none else
  lt' (wI S1 533 v1.toNatClampNeg (0 : Int32)) fun S2 =>
  some ((), S2)
set_option maxRecDepth 100000 in
theorem s_m_sums_45 {d : Nat} {S' : St} {r : Unit} (v1 : Int32) (p0 : Int32) (p1 : Int32) (S : St) (h : m_sums_45 v1 p0 p1 S = some (r, S')) : RR KM (d + 0) 2416 45 [(0, .ref 500), (1, .int v1)] [.int p0, .int p1, .ref 530] S none S' := by
  unfold m_sums_45 at h
  obtain ⟨g, h⟩ := gnE h
  refine RR.gPN (c2 := (KM.1 530).1 = 1) (pc' := 46) (lc' := [(0, .ref 500), (1, .int v1)]) (st' := []) (S1 := (wI S 530 p1.toNatClampNeg p0)) (nL := 2) (cd := cd_2416) mx_2416 rfl rfl rfl rfl g ?_
  obtain ⟨S1, eS1, h⟩ := ltE h
  rw [← eS1]
  refine RR.runs (pc' := 52) (lc' := [(0, .ref 500), (1, .int v1)]) (st' := [.int (0 : Int32), .int v1, .ref 533]) (S1 := S1) (nL := 2) (cd := cd_2416) mx_2416 rfl rfl 4 rfl ?_
  obtain ⟨g, h⟩ := gnE h
  refine RR.gPN (c2 := (KM.1 533).1 = 1) (pc' := 53) (lc' := [(0, .ref 500), (1, .int v1)]) (st' := []) (S1 := (wI S1 533 v1.toNatClampNeg (0 : Int32))) (nL := 2) (cd := cd_2416) mx_2416 rfl rfl rfl rfl g ?_
  obtain ⟨S2, eS2, h⟩ := ltE h
  rw [← eS2]
  cases h
  exact RR.retv mx_2416 rfl rfl rfl
def m_sums (v1 : Int32) (S : St) : Re Unit :=
  if v1 < 0 ∨ 7 ≤ v1.toNatClampNeg then none else
  if (rI S 531 v1.toNatClampNeg) = (21 : Int32) then (
    if v1 < 0 ∨ 7 ≤ v1.toNatClampNeg then none else
    if v1 < 0 ∨ 7 ≤ v1.toNatClampNeg then none else
    m_sums_45 v1 (((rI S 530 v1.toNatClampNeg) - (rI S 532 v1.toNatClampNeg))) v1 S)
  else (
    if v1 < 0 ∨ 7 ≤ v1.toNatClampNeg then none else
    if v1 < 0 ∨ 7 ≤ v1.toNatClampNeg then none else
    m_sums_45 v1 (((rI S 530 v1.toNatClampNeg) + (rI S 532 v1.toNatClampNeg))) v1 S)
set_option maxRecDepth 100000 in
theorem s0_m_sums {d : Nat} {S' : St} {r : Unit} (v1 : Int32) (S : St) (h : m_sums v1 S = some (r, S')) : RR KM (d + 0) 2416 0 [(0, .ref 500), (1, .int v1)] [] S none S' := by
  unfold m_sums at h
  refine RR.runs (pc' := 10) (lc' := [(0, .ref 500), (1, .int v1)]) (st' := [.int v1, .ref 531, .int v1, .ref 530]) (S1 := S) (nL := 2) (cd := cd_2416) mx_2416 rfl rfl 6 rfl ?_
  obtain ⟨g, h⟩ := gnE h
  refine RR.gPN (c2 := (KM.1 531).1 = 1) (pc' := 11) (lc' := [(0, .ref 500), (1, .int v1)]) (st' := [.int (rI S 531 v1.toNatClampNeg), .int v1, .ref 530]) (S1 := S) (nL := 2) (cd := cd_2416) mx_2416 rfl rfl rfl rfl g ?_
  refine RR.runs (pc' := icm .ne (rI S 531 v1.toNatClampNeg) (21 : Int32) 32 16) (lc' := [(0, .ref 500), (1, .int v1)]) (st' := [.int v1, .ref 530]) (S1 := S) (nL := 2) (cd := cd_2416) mx_2416 rfl rfl 2 rfl ?_
  rcases ifE h with ⟨c, h⟩ | ⟨c, h⟩
  · refine RR.c_ne (fun _ => ?_) (fun q => absurd c q)
    refine RR.runs (pc' := 21) (lc' := [(0, .ref 500), (1, .int v1)]) (st' := [.int v1, .ref 530, .int v1, .ref 530]) (S1 := S) (nL := 2) (cd := cd_2416) mx_2416 rfl rfl 3 rfl ?_
    obtain ⟨g, h⟩ := gnE h
    refine RR.gPN (c2 := (KM.1 530).1 = 1) (pc' := 22) (lc' := [(0, .ref 500), (1, .int v1)]) (st' := [.int (rI S 530 v1.toNatClampNeg), .int v1, .ref 530]) (S1 := S) (nL := 2) (cd := cd_2416) mx_2416 rfl rfl rfl rfl g ?_
    refine RR.runs (pc' := 27) (lc' := [(0, .ref 500), (1, .int v1)]) (st' := [.int v1, .ref 532, .int (rI S 530 v1.toNatClampNeg), .int v1, .ref 530]) (S1 := S) (nL := 2) (cd := cd_2416) mx_2416 rfl rfl 3 rfl ?_
    obtain ⟨g, h⟩ := gnE h
    refine RR.gPN (c2 := (KM.1 532).1 = 1) (pc' := 28) (lc' := [(0, .ref 500), (1, .int v1)]) (st' := [.int (rI S 532 v1.toNatClampNeg), .int (rI S 530 v1.toNatClampNeg), .int v1, .ref 530]) (S1 := S) (nL := 2) (cd := cd_2416) mx_2416 rfl rfl rfl rfl g ?_
    refine RR.runs (pc' := 45) (lc' := [(0, .ref 500), (1, .int v1)]) (st' := [.int (((rI S 530 v1.toNatClampNeg) - (rI S 532 v1.toNatClampNeg))), .int v1, .ref 530]) (S1 := S) (nL := 2) (cd := cd_2416) mx_2416 rfl rfl 2 rfl ?_
    refine RR.weak [(0, .ref 500), (1, .int v1)] ⟨rfl, rfl, trivial⟩ ?_
    exact s_m_sums_45 _ _ _ _ h
  · refine RR.c_ne (fun q => absurd q c) (fun _ => ?_)
    refine RR.runs (pc' := 37) (lc' := [(0, .ref 500), (1, .int v1)]) (st' := [.int v1, .ref 530, .int v1, .ref 530]) (S1 := S) (nL := 2) (cd := cd_2416) mx_2416 rfl rfl 3 rfl ?_
    obtain ⟨g, h⟩ := gnE h
    refine RR.gPN (c2 := (KM.1 530).1 = 1) (pc' := 38) (lc' := [(0, .ref 500), (1, .int v1)]) (st' := [.int (rI S 530 v1.toNatClampNeg), .int v1, .ref 530]) (S1 := S) (nL := 2) (cd := cd_2416) mx_2416 rfl rfl rfl rfl g ?_
    refine RR.runs (pc' := 43) (lc' := [(0, .ref 500), (1, .int v1)]) (st' := [.int v1, .ref 532, .int (rI S 530 v1.toNatClampNeg), .int v1, .ref 530]) (S1 := S) (nL := 2) (cd := cd_2416) mx_2416 rfl rfl 3 rfl ?_
    obtain ⟨g, h⟩ := gnE h
    refine RR.gPN (c2 := (KM.1 532).1 = 1) (pc' := 44) (lc' := [(0, .ref 500), (1, .int v1)]) (st' := [.int (rI S 532 v1.toNatClampNeg), .int (rI S 530 v1.toNatClampNeg), .int v1, .ref 530]) (S1 := S) (nL := 2) (cd := cd_2416) mx_2416 rfl rfl rfl rfl g ?_
    refine RR.runs (pc' := 45) (lc' := [(0, .ref 500), (1, .int v1)]) (st' := [.int (((rI S 530 v1.toNatClampNeg) + (rI S 532 v1.toNatClampNeg))), .int v1, .ref 530]) (S1 := S) (nL := 2) (cd := cd_2416) mx_2416 rfl rfl 1 rfl ?_
    refine RR.weak [(0, .ref 500), (1, .int v1)] ⟨rfl, rfl, trivial⟩ ?_
    exact s_m_sums_45 _ _ _ _ h
theorem s_m_sums {d : Nat} {S' : St} {r : Unit} (v1 : Int32) (S : St) (h : m_sums v1 S = some (r, S')) : RC KM (d + 0) 2416 [.ref 500, .int v1] S none S' := RC.of rfl (s0_m_sums v1 S h)
-- tests (I)V
def m_tests_136 (v1 : Int32) (v2 : Int32) (S : St) : Re Unit :=
  if v1 < 0 ∨ 7 ≤ v1.toNatClampNeg then none else
  lt' (wI S 526 v1.toNatClampNeg v2) fun S1 =>
  if v1 < 0 ∨ 7 ≤ v1.toNatClampNeg then none else
  lt' (wI S1 529 v1.toNatClampNeg (0 : Int32)) fun S2 =>
  if v1 < 0 ∨ 7 ≤ v1.toNatClampNeg then none else
  lt' (wI S2 530 v1.toNatClampNeg (0 : Int32)) fun S3 =>
  if v1 < 0 ∨ 7 ≤ v1.toNatClampNeg then none else
  lt' (wI S3 531 v1.toNatClampNeg (20 : Int32)) fun S4 =>
  some ((), S4)
set_option maxRecDepth 100000 in
theorem s_m_tests_136 {d : Nat} {S' : St} {r : Unit} (v1 : Int32) (v2 : Int32) (S : St) (h : m_tests_136 v1 v2 S = some (r, S')) : RR KM (d + 1) 2417 136 [(0, .ref 500), (1, .int v1), (2, .int v2)] [] S none S' := by
  unfold m_tests_136 at h
  refine RR.runs (pc' := 142) (lc' := [(0, .ref 500), (1, .int v1), (2, .int v2)]) (st' := [.int v2, .int v1, .ref 526]) (S1 := S) (nL := 3) (cd := cd_2417) mx_2417 rfl rfl 4 rfl ?_
  obtain ⟨g, h⟩ := gnE h
  refine RR.gPN (c2 := (KM.1 526).1 = 1) (pc' := 143) (lc' := [(0, .ref 500), (1, .int v1), (2, .int v2)]) (st' := []) (S1 := (wI S 526 v1.toNatClampNeg v2)) (nL := 3) (cd := cd_2417) mx_2417 rfl rfl rfl rfl g ?_
  obtain ⟨S1, eS1, h⟩ := ltE h
  rw [← eS1]
  refine RR.runs (pc' := 149) (lc' := [(0, .ref 500), (1, .int v1), (2, .int v2)]) (st' := [.int (0 : Int32), .int v1, .ref 529]) (S1 := S1) (nL := 3) (cd := cd_2417) mx_2417 rfl rfl 4 rfl ?_
  obtain ⟨g, h⟩ := gnE h
  refine RR.gPN (c2 := (KM.1 529).1 = 1) (pc' := 150) (lc' := [(0, .ref 500), (1, .int v1), (2, .int v2)]) (st' := []) (S1 := (wI S1 529 v1.toNatClampNeg (0 : Int32))) (nL := 3) (cd := cd_2417) mx_2417 rfl rfl rfl rfl g ?_
  obtain ⟨S2, eS2, h⟩ := ltE h
  rw [← eS2]
  refine RR.runs (pc' := 156) (lc' := [(0, .ref 500), (1, .int v1), (2, .int v2)]) (st' := [.int (0 : Int32), .int v1, .ref 530]) (S1 := S2) (nL := 3) (cd := cd_2417) mx_2417 rfl rfl 4 rfl ?_
  obtain ⟨g, h⟩ := gnE h
  refine RR.gPN (c2 := (KM.1 530).1 = 1) (pc' := 157) (lc' := [(0, .ref 500), (1, .int v1), (2, .int v2)]) (st' := []) (S1 := (wI S2 530 v1.toNatClampNeg (0 : Int32))) (nL := 3) (cd := cd_2417) mx_2417 rfl rfl rfl rfl g ?_
  obtain ⟨S3, eS3, h⟩ := ltE h
  rw [← eS3]
  refine RR.runs (pc' := 164) (lc' := [(0, .ref 500), (1, .int v1), (2, .int v2)]) (st' := [.int (20 : Int32), .int v1, .ref 531]) (S1 := S3) (nL := 3) (cd := cd_2417) mx_2417 rfl rfl 4 rfl ?_
  obtain ⟨g, h⟩ := gnE h
  refine RR.gPN (c2 := (KM.1 531).1 = 1) (pc' := 165) (lc' := [(0, .ref 500), (1, .int v1), (2, .int v2)]) (st' := []) (S1 := (wI S3 531 v1.toNatClampNeg (20 : Int32))) (nL := 3) (cd := cd_2417) mx_2417 rfl rfl rfl rfl g ?_
  obtain ⟨S4, eS4, h⟩ := ltE h
  rw [← eS4]
  cases h
  exact RR.retv mx_2417 rfl rfl rfl
def m_tests_135 (v1 : Int32) (p0 : Int32) (S : St) : Re Unit :=
  m_tests_136 v1 p0 S
set_option maxRecDepth 100000 in
theorem s_m_tests_135 {d : Nat} {S' : St} {r : Unit} (v1 : Int32) (p0 : Int32) (S : St) (h : m_tests_135 v1 p0 S = some (r, S')) : RR KM (d + 1) 2417 135 [(0, .ref 500), (1, .int v1)] [.int p0] S none S' := by
  unfold m_tests_135 at h
  refine RR.runs (pc' := 136) (lc' := [(2, .int p0), (0, .ref 500), (1, .int v1)]) (st' := []) (S1 := S) (nL := 3) (cd := cd_2417) mx_2417 rfl rfl 1 rfl ?_
  refine RR.weak [(0, .ref 500), (1, .int v1), (2, .int p0)] ⟨rfl, rfl, rfl, trivial⟩ ?_
  exact s_m_tests_136 _ _ _ h
def m_tests_130 (v1 : Int32) (S : St) : Re Unit :=
  m_tests_135 v1 (1 : Int32) S
set_option maxRecDepth 100000 in
theorem s_m_tests_130 {d : Nat} {S' : St} {r : Unit} (v1 : Int32) (S : St) (h : m_tests_130 v1 S = some (r, S')) : RR KM (d + 1) 2417 130 [(0, .ref 500), (1, .int v1)] [] S none S' := by
  unfold m_tests_130 at h
  refine RR.runs (pc' := 135) (lc' := [(0, .ref 500), (1, .int v1)]) (st' := [.int (1 : Int32)]) (S1 := S) (nL := 3) (cd := cd_2417) mx_2417 rfl rfl 2 rfl ?_
  refine RR.weak [(0, .ref 500), (1, .int v1)] ⟨rfl, rfl, trivial⟩ ?_
  exact s_m_tests_135 _ _ _ h
def m_tests_106 (v1 : Int32) (v2 : Int32) (S : St) : Re Unit :=
  if v1 < 0 ∨ 7 ≤ v1.toNatClampNeg then none else
  if (rI S 527 v1.toNatClampNeg) = (27 : Int32) then (
    if v1 < 0 ∨ 7 ≤ v1.toNatClampNeg then none else
    if (rI S 526 v1.toNatClampNeg) = 0 then (
      if v2 = 0 then (
        m_tests_135 v1 (0 : Int32) S)
      else (
        m_tests_130 v1 S))
    else (
      m_tests_130 v1 S))
  else (
    m_tests_136 v1 v2 S)
set_option maxRecDepth 100000 in
theorem s_m_tests_106 {d : Nat} {S' : St} {r : Unit} (v1 : Int32) (v2 : Int32) (S : St) (h : m_tests_106 v1 v2 S = some (r, S')) : RR KM (d + 1) 2417 106 [(0, .ref 500), (1, .int v1), (2, .int v2)] [] S none S' := by
  unfold m_tests_106 at h
  refine RR.runs (pc' := 111) (lc' := [(0, .ref 500), (1, .int v1), (2, .int v2)]) (st' := [.int v1, .ref 527]) (S1 := S) (nL := 3) (cd := cd_2417) mx_2417 rfl rfl 3 rfl ?_
  obtain ⟨g, h⟩ := gnE h
  refine RR.gPN (c2 := (KM.1 527).1 = 1) (pc' := 112) (lc' := [(0, .ref 500), (1, .int v1), (2, .int v2)]) (st' := [.int (rI S 527 v1.toNatClampNeg)]) (S1 := S) (nL := 3) (cd := cd_2417) mx_2417 rfl rfl rfl rfl g ?_
  refine RR.runs (pc' := icm .ne (rI S 527 v1.toNatClampNeg) (27 : Int32) 136 117) (lc' := [(0, .ref 500), (1, .int v1), (2, .int v2)]) (st' := []) (S1 := S) (nL := 3) (cd := cd_2417) mx_2417 rfl rfl 2 rfl ?_
  rcases ifE h with ⟨c, h⟩ | ⟨c, h⟩
  · refine RR.c_ne (fun _ => ?_) (fun q => absurd c q)
    refine RR.runs (pc' := 122) (lc' := [(0, .ref 500), (1, .int v1), (2, .int v2)]) (st' := [.int v1, .ref 526]) (S1 := S) (nL := 3) (cd := cd_2417) mx_2417 rfl rfl 3 rfl ?_
    obtain ⟨g, h⟩ := gnE h
    refine RR.gPN (c2 := (KM.1 526).1 = 1) (pc' := 123) (lc' := [(0, .ref 500), (1, .int v1), (2, .int v2)]) (st' := [.int (rI S 526 v1.toNatClampNeg)]) (S1 := S) (nL := 3) (cd := cd_2417) mx_2417 rfl rfl rfl rfl g ?_
    refine RR.runs (pc' := icm .ne (rI S 526 v1.toNatClampNeg) 0 130 126) (lc' := [(0, .ref 500), (1, .int v1), (2, .int v2)]) (st' := []) (S1 := S) (nL := 3) (cd := cd_2417) mx_2417 rfl rfl 1 rfl ?_
    rcases ifE h with ⟨c, h⟩ | ⟨c, h⟩
    · refine RR.c_ne (fun _ => ?_) (fun q => absurd c q)
      refine RR.runs (pc' := icm .eq v2 0 134 130) (lc' := [(0, .ref 500), (1, .int v1), (2, .int v2)]) (st' := []) (S1 := S) (nL := 3) (cd := cd_2417) mx_2417 rfl rfl 2 rfl ?_
      rcases ifE h with ⟨c, h⟩ | ⟨c, h⟩
      · refine RR.c_eq (fun _ => ?_) (fun q => absurd c q)
        refine RR.runs (pc' := 135) (lc' := [(0, .ref 500), (1, .int v1), (2, .int v2)]) (st' := [.int (0 : Int32)]) (S1 := S) (nL := 3) (cd := cd_2417) mx_2417 rfl rfl 1 rfl ?_
        refine RR.weak [(0, .ref 500), (1, .int v1)] ⟨rfl, rfl, trivial⟩ ?_
        exact s_m_tests_135 _ _ _ h
      · refine RR.c_eq (fun q => absurd q c) (fun _ => ?_)
        refine RR.weak [(0, .ref 500), (1, .int v1)] ⟨rfl, rfl, trivial⟩ ?_
        exact s_m_tests_130 _ _ h
    · refine RR.c_ne (fun q => absurd q c) (fun _ => ?_)
      refine RR.weak [(0, .ref 500), (1, .int v1)] ⟨rfl, rfl, trivial⟩ ?_
      exact s_m_tests_130 _ _ h
  · refine RR.c_ne (fun q => absurd q c) (fun _ => ?_)
    refine RR.weak [(0, .ref 500), (1, .int v1), (2, .int v2)] ⟨rfl, rfl, rfl, trivial⟩ ?_
    exact s_m_tests_136 _ _ _ h
def m_tests_105 (v1 : Int32) (p0 : Int32) (S : St) : Re Unit :=
  m_tests_106 v1 p0 S
set_option maxRecDepth 100000 in
theorem s_m_tests_105 {d : Nat} {S' : St} {r : Unit} (v1 : Int32) (p0 : Int32) (S : St) (h : m_tests_105 v1 p0 S = some (r, S')) : RR KM (d + 1) 2417 105 [(0, .ref 500), (1, .int v1)] [.int p0] S none S' := by
  unfold m_tests_105 at h
  refine RR.runs (pc' := 106) (lc' := [(2, .int p0), (0, .ref 500), (1, .int v1)]) (st' := []) (S1 := S) (nL := 3) (cd := cd_2417) mx_2417 rfl rfl 1 rfl ?_
  refine RR.weak [(0, .ref 500), (1, .int v1), (2, .int p0)] ⟨rfl, rfl, rfl, trivial⟩ ?_
  exact s_m_tests_106 _ _ _ h
def m_tests_104 (v1 : Int32) (S : St) : Re Unit :=
  m_tests_105 v1 (0 : Int32) S
set_option maxRecDepth 100000 in
theorem s_m_tests_104 {d : Nat} {S' : St} {r : Unit} (v1 : Int32) (S : St) (h : m_tests_104 v1 S = some (r, S')) : RR KM (d + 1) 2417 104 [(0, .ref 500), (1, .int v1)] [] S none S' := by
  unfold m_tests_104 at h
  refine RR.runs (pc' := 105) (lc' := [(0, .ref 500), (1, .int v1)]) (st' := [.int (0 : Int32)]) (S1 := S) (nL := 3) (cd := cd_2417) mx_2417 rfl rfl 1 rfl ?_
  refine RR.weak [(0, .ref 500), (1, .int v1)] ⟨rfl, rfl, trivial⟩ ?_
  exact s_m_tests_105 _ _ _ h
def m_tests_76 (v1 : Int32) (v2 : Int32) (S : St) : Re Unit :=
  if v1 < 0 ∨ 7 ≤ v1.toNatClampNeg then none else
  if (rI S 527 v1.toNatClampNeg) = (26 : Int32) then (
    if v1 < 0 ∨ 7 ≤ v1.toNatClampNeg then none else
    if (rI S 526 v1.toNatClampNeg) = 0 then (
      m_tests_104 v1 S)
    else (
      if v2 = 0 then (
        m_tests_104 v1 S)
      else (
        m_tests_105 v1 (1 : Int32) S)))
  else (
    m_tests_106 v1 v2 S)
set_option maxRecDepth 100000 in
theorem s_m_tests_76 {d : Nat} {S' : St} {r : Unit} (v1 : Int32) (v2 : Int32) (S : St) (h : m_tests_76 v1 v2 S = some (r, S')) : RR KM (d + 1) 2417 76 [(0, .ref 500), (1, .int v1), (2, .int v2)] [] S none S' := by
  unfold m_tests_76 at h
  refine RR.runs (pc' := 81) (lc' := [(0, .ref 500), (1, .int v1), (2, .int v2)]) (st' := [.int v1, .ref 527]) (S1 := S) (nL := 3) (cd := cd_2417) mx_2417 rfl rfl 3 rfl ?_
  obtain ⟨g, h⟩ := gnE h
  refine RR.gPN (c2 := (KM.1 527).1 = 1) (pc' := 82) (lc' := [(0, .ref 500), (1, .int v1), (2, .int v2)]) (st' := [.int (rI S 527 v1.toNatClampNeg)]) (S1 := S) (nL := 3) (cd := cd_2417) mx_2417 rfl rfl rfl rfl g ?_
  refine RR.runs (pc' := icm .ne (rI S 527 v1.toNatClampNeg) (26 : Int32) 106 87) (lc' := [(0, .ref 500), (1, .int v1), (2, .int v2)]) (st' := []) (S1 := S) (nL := 3) (cd := cd_2417) mx_2417 rfl rfl 2 rfl ?_
  rcases ifE h with ⟨c, h⟩ | ⟨c, h⟩
  · refine RR.c_ne (fun _ => ?_) (fun q => absurd c q)
    refine RR.runs (pc' := 92) (lc' := [(0, .ref 500), (1, .int v1), (2, .int v2)]) (st' := [.int v1, .ref 526]) (S1 := S) (nL := 3) (cd := cd_2417) mx_2417 rfl rfl 3 rfl ?_
    obtain ⟨g, h⟩ := gnE h
    refine RR.gPN (c2 := (KM.1 526).1 = 1) (pc' := 93) (lc' := [(0, .ref 500), (1, .int v1), (2, .int v2)]) (st' := [.int (rI S 526 v1.toNatClampNeg)]) (S1 := S) (nL := 3) (cd := cd_2417) mx_2417 rfl rfl rfl rfl g ?_
    refine RR.runs (pc' := icm .eq (rI S 526 v1.toNatClampNeg) 0 104 96) (lc' := [(0, .ref 500), (1, .int v1), (2, .int v2)]) (st' := []) (S1 := S) (nL := 3) (cd := cd_2417) mx_2417 rfl rfl 1 rfl ?_
    rcases ifE h with ⟨c, h⟩ | ⟨c, h⟩
    · refine RR.c_eq (fun _ => ?_) (fun q => absurd c q)
      refine RR.weak [(0, .ref 500), (1, .int v1)] ⟨rfl, rfl, trivial⟩ ?_
      exact s_m_tests_104 _ _ h
    · refine RR.c_eq (fun q => absurd q c) (fun _ => ?_)
      refine RR.runs (pc' := icm .eq v2 0 104 100) (lc' := [(0, .ref 500), (1, .int v1), (2, .int v2)]) (st' := []) (S1 := S) (nL := 3) (cd := cd_2417) mx_2417 rfl rfl 2 rfl ?_
      rcases ifE h with ⟨c, h⟩ | ⟨c, h⟩
      · refine RR.c_eq (fun _ => ?_) (fun q => absurd c q)
        refine RR.weak [(0, .ref 500), (1, .int v1)] ⟨rfl, rfl, trivial⟩ ?_
        exact s_m_tests_104 _ _ h
      · refine RR.c_eq (fun q => absurd q c) (fun _ => ?_)
        refine RR.runs (pc' := 105) (lc' := [(0, .ref 500), (1, .int v1), (2, .int v2)]) (st' := [.int (1 : Int32)]) (S1 := S) (nL := 3) (cd := cd_2417) mx_2417 rfl rfl 2 rfl ?_
        refine RR.weak [(0, .ref 500), (1, .int v1)] ⟨rfl, rfl, trivial⟩ ?_
        exact s_m_tests_105 _ _ _ h
  · refine RR.c_ne (fun q => absurd q c) (fun _ => ?_)
    refine RR.weak [(0, .ref 500), (1, .int v1), (2, .int v2)] ⟨rfl, rfl, rfl, trivial⟩ ?_
    exact s_m_tests_106 _ _ _ h
def m_tests_75 (v1 : Int32) (p0 : Int32) (S : St) : Re Unit :=
  m_tests_76 v1 p0 S
set_option maxRecDepth 100000 in
theorem s_m_tests_75 {d : Nat} {S' : St} {r : Unit} (v1 : Int32) (p0 : Int32) (S : St) (h : m_tests_75 v1 p0 S = some (r, S')) : RR KM (d + 1) 2417 75 [(0, .ref 500), (1, .int v1)] [.int p0] S none S' := by
  unfold m_tests_75 at h
  refine RR.runs (pc' := 76) (lc' := [(2, .int p0), (0, .ref 500), (1, .int v1)]) (st' := []) (S1 := S) (nL := 3) (cd := cd_2417) mx_2417 rfl rfl 1 rfl ?_
  refine RR.weak [(0, .ref 500), (1, .int v1), (2, .int p0)] ⟨rfl, rfl, rfl, trivial⟩ ?_
  exact s_m_tests_76 _ _ _ h
def m_tests_44 (v1 : Int32) (v2 : Int32) (S : St) : Re Unit :=
  if v1 < 0 ∨ 7 ≤ v1.toNatClampNeg then none else
  if (rI S 529 v1.toNatClampNeg) = (25 : Int32) then (
    if v1 < 0 ∨ 7 ≤ v1.toNatClampNeg then none else
    if v1 < 0 ∨ 7 ≤ v1.toNatClampNeg then none else
    if (rI S 528 v1.toNatClampNeg) = (rI S 530 v1.toNatClampNeg) then (
      m_tests_75 v1 (1 : Int32) S)
    else (
      m_tests_75 v1 (0 : Int32) S))
  else (
    m_tests_76 v1 v2 S)
set_option maxRecDepth 100000 in
theorem s_m_tests_44 {d : Nat} {S' : St} {r : Unit} (v1 : Int32) (v2 : Int32) (S : St) (h : m_tests_44 v1 v2 S = some (r, S')) : RR KM (d + 1) 2417 44 [(0, .ref 500), (1, .int v1), (2, .int v2)] [] S none S' := by
  unfold m_tests_44 at h
  refine RR.runs (pc' := 49) (lc' := [(0, .ref 500), (1, .int v1), (2, .int v2)]) (st' := [.int v1, .ref 529]) (S1 := S) (nL := 3) (cd := cd_2417) mx_2417 rfl rfl 3 rfl ?_
  obtain ⟨g, h⟩ := gnE h
  refine RR.gPN (c2 := (KM.1 529).1 = 1) (pc' := 50) (lc' := [(0, .ref 500), (1, .int v1), (2, .int v2)]) (st' := [.int (rI S 529 v1.toNatClampNeg)]) (S1 := S) (nL := 3) (cd := cd_2417) mx_2417 rfl rfl rfl rfl g ?_
  refine RR.runs (pc' := icm .ne (rI S 529 v1.toNatClampNeg) (25 : Int32) 76 55) (lc' := [(0, .ref 500), (1, .int v1), (2, .int v2)]) (st' := []) (S1 := S) (nL := 3) (cd := cd_2417) mx_2417 rfl rfl 2 rfl ?_
  rcases ifE h with ⟨c, h⟩ | ⟨c, h⟩
  · refine RR.c_ne (fun _ => ?_) (fun q => absurd c q)
    refine RR.runs (pc' := 60) (lc' := [(0, .ref 500), (1, .int v1), (2, .int v2)]) (st' := [.int v1, .ref 528]) (S1 := S) (nL := 3) (cd := cd_2417) mx_2417 rfl rfl 3 rfl ?_
    obtain ⟨g, h⟩ := gnE h
    refine RR.gPN (c2 := (KM.1 528).1 = 1) (pc' := 61) (lc' := [(0, .ref 500), (1, .int v1), (2, .int v2)]) (st' := [.int (rI S 528 v1.toNatClampNeg)]) (S1 := S) (nL := 3) (cd := cd_2417) mx_2417 rfl rfl rfl rfl g ?_
    refine RR.runs (pc' := 66) (lc' := [(0, .ref 500), (1, .int v1), (2, .int v2)]) (st' := [.int v1, .ref 530, .int (rI S 528 v1.toNatClampNeg)]) (S1 := S) (nL := 3) (cd := cd_2417) mx_2417 rfl rfl 3 rfl ?_
    obtain ⟨g, h⟩ := gnE h
    refine RR.gPN (c2 := (KM.1 530).1 = 1) (pc' := 67) (lc' := [(0, .ref 500), (1, .int v1), (2, .int v2)]) (st' := [.int (rI S 530 v1.toNatClampNeg), .int (rI S 528 v1.toNatClampNeg)]) (S1 := S) (nL := 3) (cd := cd_2417) mx_2417 rfl rfl rfl rfl g ?_
    refine RR.runs (pc' := icm .ne (rI S 528 v1.toNatClampNeg) (rI S 530 v1.toNatClampNeg) 74 70) (lc' := [(0, .ref 500), (1, .int v1), (2, .int v2)]) (st' := []) (S1 := S) (nL := 3) (cd := cd_2417) mx_2417 rfl rfl 1 rfl ?_
    rcases ifE h with ⟨c, h⟩ | ⟨c, h⟩
    · refine RR.c_ne (fun _ => ?_) (fun q => absurd c q)
      refine RR.runs (pc' := 75) (lc' := [(0, .ref 500), (1, .int v1), (2, .int v2)]) (st' := [.int (1 : Int32)]) (S1 := S) (nL := 3) (cd := cd_2417) mx_2417 rfl rfl 2 rfl ?_
      refine RR.weak [(0, .ref 500), (1, .int v1)] ⟨rfl, rfl, trivial⟩ ?_
      exact s_m_tests_75 _ _ _ h
    · refine RR.c_ne (fun q => absurd q c) (fun _ => ?_)
      refine RR.runs (pc' := 75) (lc' := [(0, .ref 500), (1, .int v1), (2, .int v2)]) (st' := [.int (0 : Int32)]) (S1 := S) (nL := 3) (cd := cd_2417) mx_2417 rfl rfl 1 rfl ?_
      refine RR.weak [(0, .ref 500), (1, .int v1)] ⟨rfl, rfl, trivial⟩ ?_
      exact s_m_tests_75 _ _ _ h
  · refine RR.c_ne (fun q => absurd q c) (fun _ => ?_)
    refine RR.weak [(0, .ref 500), (1, .int v1), (2, .int v2)] ⟨rfl, rfl, rfl, trivial⟩ ?_
    exact s_m_tests_76 _ _ _ h
def m_tests_43 (v1 : Int32) (p0 : Int32) (S : St) : Re Unit :=
  m_tests_44 v1 p0 S
set_option maxRecDepth 100000 in
theorem s_m_tests_43 {d : Nat} {S' : St} {r : Unit} (v1 : Int32) (p0 : Int32) (S : St) (h : m_tests_43 v1 p0 S = some (r, S')) : RR KM (d + 1) 2417 43 [(0, .ref 500), (1, .int v1)] [.int p0] S none S' := by
  unfold m_tests_43 at h
  refine RR.runs (pc' := 44) (lc' := [(2, .int p0), (0, .ref 500), (1, .int v1)]) (st' := []) (S1 := S) (nL := 3) (cd := cd_2417) mx_2417 rfl rfl 1 rfl ?_
  refine RR.weak [(0, .ref 500), (1, .int v1), (2, .int p0)] ⟨rfl, rfl, rfl, trivial⟩ ?_
  exact s_m_tests_44 _ _ _ h
def m_tests (v1 : Int32) (S : St) : Re Unit :=
  bn (m_sums v1 S) fun r1 S2 =>
  if v1 < 0 ∨ 7 ≤ v1.toNatClampNeg then none else
  lt' ((rI S2 530 v1.toNatClampNeg) : Int32) fun x3 =>
  if v1 < 0 ∨ 7 ≤ v1.toNatClampNeg then none else
  if (rI S2 529 v1.toNatClampNeg) = (24 : Int32) then (
    if v1 < 0 ∨ 7 ≤ v1.toNatClampNeg then none else
    if v1 < 0 ∨ 7 ≤ v1.toNatClampNeg then none else
    if (rI S2 528 v1.toNatClampNeg) < (rI S2 530 v1.toNatClampNeg) then (
      m_tests_43 v1 (1 : Int32) S2)
    else (
      m_tests_43 v1 (0 : Int32) S2))
  else (
    m_tests_44 v1 x3 S2)
set_option maxRecDepth 100000 in
theorem s0_m_tests {d : Nat} {S' : St} {r : Unit} (v1 : Int32) (S : St) (h : m_tests v1 S = some (r, S')) : RR KM (d + 1) 2417 0 [(0, .ref 500), (1, .int v1)] [] S none S' := by
  unfold m_tests at h
  refine RR.runs (pc' := 2) (lc' := [(0, .ref 500), (1, .int v1)]) (st' := [.int v1, .ref 500]) (S1 := S) (nL := 3) (cd := cd_2417) mx_2417 rfl rfl 2 rfl ?_
  obtain ⟨r1, S2, h1, h⟩ := bnE h
  refine RR.callV (b := 500) (as := [.int v1]) (rest := []) (r1 := none) (S1 := S2) mx_2417 rfl rfl mx_2416 rfl rfl (by decide) (Or.inl rfl) (Nat.le_of_ble_eq_true rfl) (Nat.le_of_ble_eq_true rfl) (RC.deep (by omega) (s_m_sums (d := d) _ _ h1)) ?_
  show RR KM _ 2417 5 [(0, .ref 500), (1, .int v1)] [] S2 _ _
  refine RR.runs (pc' := 10) (lc' := [(0, .ref 500), (1, .int v1)]) (st' := [.int v1, .ref 530]) (S1 := S2) (nL := 3) (cd := cd_2417) mx_2417 rfl rfl 3 rfl ?_
  obtain ⟨g, h⟩ := gnE h
  refine RR.gPN (c2 := (KM.1 530).1 = 1) (pc' := 11) (lc' := [(0, .ref 500), (1, .int v1)]) (st' := [.int (rI S2 530 v1.toNatClampNeg)]) (S1 := S2) (nL := 3) (cd := cd_2417) mx_2417 rfl rfl rfl rfl g ?_
  refine RR.runs (pc' := 12) (lc' := [(2, .int (rI S2 530 v1.toNatClampNeg)), (0, .ref 500), (1, .int v1)]) (st' := []) (S1 := S2) (nL := 3) (cd := cd_2417) mx_2417 rfl rfl 1 rfl ?_
  obtain ⟨x3, ex3, h⟩ := ltE h
  rw [← ex3]
  refine RR.runs (pc' := 17) (lc' := [(2, .int x3), (0, .ref 500), (1, .int v1)]) (st' := [.int v1, .ref 529]) (S1 := S2) (nL := 3) (cd := cd_2417) mx_2417 rfl rfl 3 rfl ?_
  obtain ⟨g, h⟩ := gnE h
  refine RR.gPN (c2 := (KM.1 529).1 = 1) (pc' := 18) (lc' := [(2, .int x3), (0, .ref 500), (1, .int v1)]) (st' := [.int (rI S2 529 v1.toNatClampNeg)]) (S1 := S2) (nL := 3) (cd := cd_2417) mx_2417 rfl rfl rfl rfl g ?_
  refine RR.runs (pc' := icm .ne (rI S2 529 v1.toNatClampNeg) (24 : Int32) 44 23) (lc' := [(2, .int x3), (0, .ref 500), (1, .int v1)]) (st' := []) (S1 := S2) (nL := 3) (cd := cd_2417) mx_2417 rfl rfl 2 rfl ?_
  rcases ifE h with ⟨c, h⟩ | ⟨c, h⟩
  · refine RR.c_ne (fun _ => ?_) (fun q => absurd c q)
    refine RR.runs (pc' := 28) (lc' := [(2, .int x3), (0, .ref 500), (1, .int v1)]) (st' := [.int v1, .ref 528]) (S1 := S2) (nL := 3) (cd := cd_2417) mx_2417 rfl rfl 3 rfl ?_
    obtain ⟨g, h⟩ := gnE h
    refine RR.gPN (c2 := (KM.1 528).1 = 1) (pc' := 29) (lc' := [(2, .int x3), (0, .ref 500), (1, .int v1)]) (st' := [.int (rI S2 528 v1.toNatClampNeg)]) (S1 := S2) (nL := 3) (cd := cd_2417) mx_2417 rfl rfl rfl rfl g ?_
    refine RR.runs (pc' := 34) (lc' := [(2, .int x3), (0, .ref 500), (1, .int v1)]) (st' := [.int v1, .ref 530, .int (rI S2 528 v1.toNatClampNeg)]) (S1 := S2) (nL := 3) (cd := cd_2417) mx_2417 rfl rfl 3 rfl ?_
    obtain ⟨g, h⟩ := gnE h
    refine RR.gPN (c2 := (KM.1 530).1 = 1) (pc' := 35) (lc' := [(2, .int x3), (0, .ref 500), (1, .int v1)]) (st' := [.int (rI S2 530 v1.toNatClampNeg), .int (rI S2 528 v1.toNatClampNeg)]) (S1 := S2) (nL := 3) (cd := cd_2417) mx_2417 rfl rfl rfl rfl g ?_
    refine RR.runs (pc' := icm .ge (rI S2 528 v1.toNatClampNeg) (rI S2 530 v1.toNatClampNeg) 42 38) (lc' := [(2, .int x3), (0, .ref 500), (1, .int v1)]) (st' := []) (S1 := S2) (nL := 3) (cd := cd_2417) mx_2417 rfl rfl 1 rfl ?_
    rcases ifE h with ⟨c, h⟩ | ⟨c, h⟩
    · refine RR.c_ge (fun _ => ?_) (fun q => absurd c q)
      refine RR.runs (pc' := 43) (lc' := [(2, .int x3), (0, .ref 500), (1, .int v1)]) (st' := [.int (1 : Int32)]) (S1 := S2) (nL := 3) (cd := cd_2417) mx_2417 rfl rfl 2 rfl ?_
      refine RR.weak [(0, .ref 500), (1, .int v1)] ⟨rfl, rfl, trivial⟩ ?_
      exact s_m_tests_43 _ _ _ h
    · refine RR.c_ge (fun q => absurd q c) (fun _ => ?_)
      refine RR.runs (pc' := 43) (lc' := [(2, .int x3), (0, .ref 500), (1, .int v1)]) (st' := [.int (0 : Int32)]) (S1 := S2) (nL := 3) (cd := cd_2417) mx_2417 rfl rfl 1 rfl ?_
      refine RR.weak [(0, .ref 500), (1, .int v1)] ⟨rfl, rfl, trivial⟩ ?_
      exact s_m_tests_43 _ _ _ h
  · refine RR.c_ne (fun q => absurd q c) (fun _ => ?_)
    refine RR.weak [(0, .ref 500), (1, .int v1), (2, .int x3)] ⟨rfl, rfl, rfl, trivial⟩ ?_
    exact s_m_tests_44 _ _ _ h
theorem s_m_tests {d : Nat} {S' : St} {r : Unit} (v1 : Int32) (S : St) (h : m_tests v1 S = some (r, S')) : RC KM (d + 1) 2417 [.ref 500, .int v1] S none S' := RC.of rfl (s0_m_tests v1 S h)
-- worked (I)I
def m_worked_329 (k14 : Int32 → Int32 → Int32 → St → Re Int32) (v1 : Int32) (v2 : Int32) (v3 : Int32) (S : St) : Re Int32 :=
  lt' ((v3 + (1 : Int32)) : Int32) fun x1 =>
  k14 v1 v2 x1 S
set_option maxRecDepth 100000 in
theorem s_m_worked_329 {d : Nat} (k14 : Int32 → Int32 → Int32 → St → Re Int32) {S' : St} {r : Int32} (b14 : ∀ (v1 : Int32) (v2 : Int32) (v3 : Int32) (S : St), k14 v1 v2 v3 S = some (r, S') → RR KM (d + 2) 2418 14 [(0, .ref 500), (1, .int v1), (2, .int v2), (3, .int v3)] [] S (some (.int r)) S') (v1 : Int32) (v2 : Int32) (v3 : Int32) (S : St) (h : m_worked_329 k14 v1 v2 v3 S = some (r, S')) : RR KM (d + 2) 2418 329 [(0, .ref 500), (1, .int v1), (2, .int v2), (3, .int v3)] [] S (some (.int r)) S' := by
  unfold m_worked_329 at h
  refine RR.runs (pc' := 332) (lc' := [(3, .int ((v3 + (1 : Int32)))), (0, .ref 500), (1, .int v1), (2, .int v2)]) (st' := []) (S1 := S) (nL := 6) (cd := cd_2418) mx_2418 rfl rfl 1 rfl ?_
  obtain ⟨x1, ex1, h⟩ := ltE h
  rw [← ex1]
  refine RR.runs (pc' := 14) (lc' := [(3, .int x1), (0, .ref 500), (1, .int v1), (2, .int v2)]) (st' := []) (S1 := S) (nL := 6) (cd := cd_2418) mx_2418 rfl rfl 1 rfl ?_
  refine RR.weak [(0, .ref 500), (1, .int v1), (2, .int v2), (3, .int x1)] ⟨rfl, rfl, rfl, rfl, trivial⟩ ?_
  exact b14 _ _ _ _ h
def m_worked_66 (k14 : Int32 → Int32 → Int32 → St → Re Int32) (v1 : Int32) (v2 : Int32) (v3 : Int32) (p0 : Int32) (p1 : Int32) (S : St) : Re Int32 :=
  if p1 < 0 ∨ 7 ≤ p1.toNatClampNeg then none else
  lt' (wI S 534 p1.toNatClampNeg p0) fun S1 =>
  bn (m_opens v2 S1) fun r2 S3 =>
  m_worked_329 k14 v1 v2 v3 S3
set_option maxRecDepth 100000 in
theorem s_m_worked_66 {d : Nat} (k14 : Int32 → Int32 → Int32 → St → Re Int32) {S' : St} {r : Int32} (b14 : ∀ (v1 : Int32) (v2 : Int32) (v3 : Int32) (S : St), k14 v1 v2 v3 S = some (r, S') → RR KM (d + 2) 2418 14 [(0, .ref 500), (1, .int v1), (2, .int v2), (3, .int v3)] [] S (some (.int r)) S') (v1 : Int32) (v2 : Int32) (v3 : Int32) (p0 : Int32) (p1 : Int32) (S : St) (h : m_worked_66 k14 v1 v2 v3 p0 p1 S = some (r, S')) : RR KM (d + 2) 2418 66 [(0, .ref 500), (1, .int v1), (2, .int v2), (3, .int v3)] [.int p0, .int p1, .ref 534] S (some (.int r)) S' := by
  unfold m_worked_66 at h
  obtain ⟨g, h⟩ := gnE h
  refine RR.gPN (c2 := (KM.1 534).1 = 1) (pc' := 67) (lc' := [(0, .ref 500), (1, .int v1), (2, .int v2), (3, .int v3)]) (st' := []) (S1 := (wI S 534 p1.toNatClampNeg p0)) (nL := 6) (cd := cd_2418) mx_2418 rfl rfl rfl rfl g ?_
  obtain ⟨S1, eS1, h⟩ := ltE h
  rw [← eS1]
  refine RR.runs (pc' := 69) (lc' := [(0, .ref 500), (1, .int v1), (2, .int v2), (3, .int v3)]) (st' := [.int v2, .ref 500]) (S1 := S1) (nL := 6) (cd := cd_2418) mx_2418 rfl rfl 2 rfl ?_
  obtain ⟨r2, S3, h1, h⟩ := bnE h
  refine RR.callV (b := 500) (as := [.int v2]) (rest := []) (r1 := none) (S1 := S3) mx_2418 rfl rfl mx_2415 rfl rfl (by decide) (Or.inl rfl) (Nat.le_of_ble_eq_true rfl) (Nat.le_of_ble_eq_true rfl) (RC.deep (by omega) (s_m_opens (d := d) _ _ h1)) ?_
  show RR KM _ 2418 72 [(0, .ref 500), (1, .int v1), (2, .int v2), (3, .int v3)] [] S3 _ _
  refine RR.runs (pc' := 329) (lc' := [(0, .ref 500), (1, .int v1), (2, .int v2), (3, .int v3)]) (st' := []) (S1 := S3) (nL := 6) (cd := cd_2418) mx_2418 rfl rfl 1 rfl ?_
  refine RR.weak [(0, .ref 500), (1, .int v1), (2, .int v2), (3, .int v3)] ⟨rfl, rfl, rfl, rfl, trivial⟩ ?_
  exact s_m_worked_329 _ b14 _ _ _ _ h
def m_worked_46 (k14 : Int32 → Int32 → Int32 → St → Re Int32) (v1 : Int32) (v2 : Int32) (v3 : Int32) (v4 : Int32) (S : St) : Re Int32 :=
  lt' ((v2 + (1 : Int32)) : Int32) fun x1 =>
  if v4 = (30 : Int32) then (
    m_worked_66 k14 v1 x1 v3 (1 : Int32) x1 S)
  else (
    m_worked_66 k14 v1 x1 v3 (0 : Int32) x1 S)
set_option maxRecDepth 100000 in
theorem s_m_worked_46 {d : Nat} (k14 : Int32 → Int32 → Int32 → St → Re Int32) {S' : St} {r : Int32} (b14 : ∀ (v1 : Int32) (v2 : Int32) (v3 : Int32) (S : St), k14 v1 v2 v3 S = some (r, S') → RR KM (d + 2) 2418 14 [(0, .ref 500), (1, .int v1), (2, .int v2), (3, .int v3)] [] S (some (.int r)) S') (v1 : Int32) (v2 : Int32) (v3 : Int32) (v4 : Int32) (S : St) (h : m_worked_46 k14 v1 v2 v3 v4 S = some (r, S')) : RR KM (d + 2) 2418 46 [(0, .ref 500), (1, .int v1), (2, .int v2), (3, .int v3), (4, .int v4)] [] S (some (.int r)) S' := by
  unfold m_worked_46 at h
  refine RR.runs (pc' := 49) (lc' := [(2, .int ((v2 + (1 : Int32)))), (0, .ref 500), (1, .int v1), (3, .int v3), (4, .int v4)]) (st' := []) (S1 := S) (nL := 6) (cd := cd_2418) mx_2418 rfl rfl 1 rfl ?_
  obtain ⟨x1, ex1, h⟩ := ltE h
  rw [← ex1]
  refine RR.runs (pc' := icm .ne v4 (30 : Int32) 65 61) (lc' := [(2, .int x1), (0, .ref 500), (1, .int v1), (3, .int v3), (4, .int v4)]) (st' := [.int x1, .ref 534]) (S1 := S) (nL := 6) (cd := cd_2418) mx_2418 rfl rfl 6 rfl ?_
  rcases ifE h with ⟨c, h⟩ | ⟨c, h⟩
  · refine RR.c_ne (fun _ => ?_) (fun q => absurd c q)
    refine RR.runs (pc' := 66) (lc' := [(2, .int x1), (0, .ref 500), (1, .int v1), (3, .int v3), (4, .int v4)]) (st' := [.int (1 : Int32), .int x1, .ref 534]) (S1 := S) (nL := 6) (cd := cd_2418) mx_2418 rfl rfl 2 rfl ?_
    refine RR.weak [(0, .ref 500), (1, .int v1), (2, .int x1), (3, .int v3)] ⟨rfl, rfl, rfl, rfl, trivial⟩ ?_
    exact s_m_worked_66 _ b14 _ _ _ _ _ _ h
  · refine RR.c_ne (fun q => absurd q c) (fun _ => ?_)
    refine RR.runs (pc' := 66) (lc' := [(2, .int x1), (0, .ref 500), (1, .int v1), (3, .int v3), (4, .int v4)]) (st' := [.int (0 : Int32), .int x1, .ref 534]) (S1 := S) (nL := 6) (cd := cd_2418) mx_2418 rfl rfl 1 rfl ?_
    refine RR.weak [(0, .ref 500), (1, .int v1), (2, .int x1), (3, .int v3)] ⟨rfl, rfl, rfl, rfl, trivial⟩ ?_
    exact s_m_worked_66 _ b14 _ _ _ _ _ _ h
def m_worked_89 (k14 : Int32 → Int32 → Int32 → St → Re Int32) (v1 : Int32) (v2 : Int32) (v3 : Int32) (v4 : Int32) (S : St) : Re Int32 :=
  bn (m_sums v2 S) fun r1 S2 =>
  if v2 < 0 ∨ 7 ≤ v2.toNatClampNeg then none else
  lt' (wI S2 531 v2.toNatClampNeg v4) fun S3 =>
  m_worked_329 k14 v1 v2 v3 S3
set_option maxRecDepth 100000 in
theorem s_m_worked_89 {d : Nat} (k14 : Int32 → Int32 → Int32 → St → Re Int32) {S' : St} {r : Int32} (b14 : ∀ (v1 : Int32) (v2 : Int32) (v3 : Int32) (S : St), k14 v1 v2 v3 S = some (r, S') → RR KM (d + 2) 2418 14 [(0, .ref 500), (1, .int v1), (2, .int v2), (3, .int v3)] [] S (some (.int r)) S') (v1 : Int32) (v2 : Int32) (v3 : Int32) (v4 : Int32) (S : St) (h : m_worked_89 k14 v1 v2 v3 v4 S = some (r, S')) : RR KM (d + 2) 2418 89 [(0, .ref 500), (1, .int v1), (2, .int v2), (3, .int v3), (4, .int v4)] [] S (some (.int r)) S' := by
  unfold m_worked_89 at h
  refine RR.runs (pc' := 91) (lc' := [(0, .ref 500), (1, .int v1), (2, .int v2), (3, .int v3), (4, .int v4)]) (st' := [.int v2, .ref 500]) (S1 := S) (nL := 6) (cd := cd_2418) mx_2418 rfl rfl 2 rfl ?_
  obtain ⟨r1, S2, h1, h⟩ := bnE h
  refine RR.callV (b := 500) (as := [.int v2]) (rest := []) (r1 := none) (S1 := S2) mx_2418 rfl rfl mx_2416 rfl rfl (by decide) (Or.inl rfl) (Nat.le_of_ble_eq_true rfl) (Nat.le_of_ble_eq_true rfl) (RC.deep (by omega) (s_m_sums (d := d) _ _ h1)) ?_
  show RR KM _ 2418 94 [(0, .ref 500), (1, .int v1), (2, .int v2), (3, .int v3), (4, .int v4)] [] S2 _ _
  refine RR.runs (pc' := 101) (lc' := [(0, .ref 500), (1, .int v1), (2, .int v2), (3, .int v3), (4, .int v4)]) (st' := [.int v4, .int v2, .ref 531]) (S1 := S2) (nL := 6) (cd := cd_2418) mx_2418 rfl rfl 4 rfl ?_
  obtain ⟨g, h⟩ := gnE h
  refine RR.gPN (c2 := (KM.1 531).1 = 1) (pc' := 102) (lc' := [(0, .ref 500), (1, .int v1), (2, .int v2), (3, .int v3), (4, .int v4)]) (st' := []) (S1 := (wI S2 531 v2.toNatClampNeg v4)) (nL := 6) (cd := cd_2418) mx_2418 rfl rfl rfl rfl g ?_
  obtain ⟨S3, eS3, h⟩ := ltE h
  rw [← eS3]
  refine RR.runs (pc' := 329) (lc' := [(0, .ref 500), (1, .int v1), (2, .int v2), (3, .int v3), (4, .int v4)]) (st' := []) (S1 := S3) (nL := 6) (cd := cd_2418) mx_2418 rfl rfl 1 rfl ?_
  refine RR.weak [(0, .ref 500), (1, .int v1), (2, .int v2), (3, .int v3)] ⟨rfl, rfl, rfl, rfl, trivial⟩ ?_
  exact s_m_worked_329 _ b14 _ _ _ _ h
def m_worked_137 (k14 : Int32 → Int32 → Int32 → St → Re Int32) (v1 : Int32) (v2 : Int32) (v3 : Int32) (v4 : Int32) (S : St) : Re Int32 :=
  bn (m_sums v2 S) fun r1 S2 =>
  if v2 < 0 ∨ 7 ≤ v2.toNatClampNeg then none else
  if v2 < 0 ∨ 7 ≤ v2.toNatClampNeg then none else
  lt' (wI S2 528 v2.toNatClampNeg (rI S2 530 v2.toNatClampNeg)) fun S3 =>
  if v2 < 0 ∨ 7 ≤ v2.toNatClampNeg then none else
  lt' (wI S3 529 v2.toNatClampNeg v4) fun S4 =>
  if v2 < 0 ∨ 7 ≤ v2.toNatClampNeg then none else
  lt' (wI S4 530 v2.toNatClampNeg (0 : Int32)) fun S5 =>
  if v2 < 0 ∨ 7 ≤ v2.toNatClampNeg then none else
  lt' (wI S5 531 v2.toNatClampNeg (20 : Int32)) fun S6 =>
  m_worked_329 k14 v1 v2 v3 S6
set_option maxRecDepth 100000 in
theorem s_m_worked_137 {d : Nat} (k14 : Int32 → Int32 → Int32 → St → Re Int32) {S' : St} {r : Int32} (b14 : ∀ (v1 : Int32) (v2 : Int32) (v3 : Int32) (S : St), k14 v1 v2 v3 S = some (r, S') → RR KM (d + 2) 2418 14 [(0, .ref 500), (1, .int v1), (2, .int v2), (3, .int v3)] [] S (some (.int r)) S') (v1 : Int32) (v2 : Int32) (v3 : Int32) (v4 : Int32) (S : St) (h : m_worked_137 k14 v1 v2 v3 v4 S = some (r, S')) : RR KM (d + 2) 2418 137 [(0, .ref 500), (1, .int v1), (2, .int v2), (3, .int v3), (4, .int v4)] [] S (some (.int r)) S' := by
  unfold m_worked_137 at h
  refine RR.runs (pc' := 139) (lc' := [(0, .ref 500), (1, .int v1), (2, .int v2), (3, .int v3), (4, .int v4)]) (st' := [.int v2, .ref 500]) (S1 := S) (nL := 6) (cd := cd_2418) mx_2418 rfl rfl 2 rfl ?_
  obtain ⟨r1, S2, h1, h⟩ := bnE h
  refine RR.callV (b := 500) (as := [.int v2]) (rest := []) (r1 := none) (S1 := S2) mx_2418 rfl rfl mx_2416 rfl rfl (by decide) (Or.inl rfl) (Nat.le_of_ble_eq_true rfl) (Nat.le_of_ble_eq_true rfl) (RC.deep (by omega) (s_m_sums (d := d) _ _ h1)) ?_
  show RR KM _ 2418 142 [(0, .ref 500), (1, .int v1), (2, .int v2), (3, .int v3), (4, .int v4)] [] S2 _ _
  refine RR.runs (pc' := 152) (lc' := [(0, .ref 500), (1, .int v1), (2, .int v2), (3, .int v3), (4, .int v4)]) (st' := [.int v2, .ref 530, .int v2, .ref 528]) (S1 := S2) (nL := 6) (cd := cd_2418) mx_2418 rfl rfl 6 rfl ?_
  obtain ⟨g, h⟩ := gnE h
  refine RR.gPN (c2 := (KM.1 530).1 = 1) (pc' := 153) (lc' := [(0, .ref 500), (1, .int v1), (2, .int v2), (3, .int v3), (4, .int v4)]) (st' := [.int (rI S2 530 v2.toNatClampNeg), .int v2, .ref 528]) (S1 := S2) (nL := 6) (cd := cd_2418) mx_2418 rfl rfl rfl rfl g ?_
  obtain ⟨g, h⟩ := gnE h
  refine RR.gPN (c2 := (KM.1 528).1 = 1) (pc' := 154) (lc' := [(0, .ref 500), (1, .int v1), (2, .int v2), (3, .int v3), (4, .int v4)]) (st' := []) (S1 := (wI S2 528 v2.toNatClampNeg (rI S2 530 v2.toNatClampNeg))) (nL := 6) (cd := cd_2418) mx_2418 rfl rfl rfl rfl g ?_
  obtain ⟨S3, eS3, h⟩ := ltE h
  rw [← eS3]
  refine RR.runs (pc' := 161) (lc' := [(0, .ref 500), (1, .int v1), (2, .int v2), (3, .int v3), (4, .int v4)]) (st' := [.int v4, .int v2, .ref 529]) (S1 := S3) (nL := 6) (cd := cd_2418) mx_2418 rfl rfl 4 rfl ?_
  obtain ⟨g, h⟩ := gnE h
  refine RR.gPN (c2 := (KM.1 529).1 = 1) (pc' := 162) (lc' := [(0, .ref 500), (1, .int v1), (2, .int v2), (3, .int v3), (4, .int v4)]) (st' := []) (S1 := (wI S3 529 v2.toNatClampNeg v4)) (nL := 6) (cd := cd_2418) mx_2418 rfl rfl rfl rfl g ?_
  obtain ⟨S4, eS4, h⟩ := ltE h
  rw [← eS4]
  refine RR.runs (pc' := 168) (lc' := [(0, .ref 500), (1, .int v1), (2, .int v2), (3, .int v3), (4, .int v4)]) (st' := [.int (0 : Int32), .int v2, .ref 530]) (S1 := S4) (nL := 6) (cd := cd_2418) mx_2418 rfl rfl 4 rfl ?_
  obtain ⟨g, h⟩ := gnE h
  refine RR.gPN (c2 := (KM.1 530).1 = 1) (pc' := 169) (lc' := [(0, .ref 500), (1, .int v1), (2, .int v2), (3, .int v3), (4, .int v4)]) (st' := []) (S1 := (wI S4 530 v2.toNatClampNeg (0 : Int32))) (nL := 6) (cd := cd_2418) mx_2418 rfl rfl rfl rfl g ?_
  obtain ⟨S5, eS5, h⟩ := ltE h
  rw [← eS5]
  refine RR.runs (pc' := 176) (lc' := [(0, .ref 500), (1, .int v1), (2, .int v2), (3, .int v3), (4, .int v4)]) (st' := [.int (20 : Int32), .int v2, .ref 531]) (S1 := S5) (nL := 6) (cd := cd_2418) mx_2418 rfl rfl 4 rfl ?_
  obtain ⟨g, h⟩ := gnE h
  refine RR.gPN (c2 := (KM.1 531).1 = 1) (pc' := 177) (lc' := [(0, .ref 500), (1, .int v1), (2, .int v2), (3, .int v3), (4, .int v4)]) (st' := []) (S1 := (wI S5 531 v2.toNatClampNeg (20 : Int32))) (nL := 6) (cd := cd_2418) mx_2418 rfl rfl rfl rfl g ?_
  obtain ⟨S6, eS6, h⟩ := ltE h
  rw [← eS6]
  refine RR.runs (pc' := 329) (lc' := [(0, .ref 500), (1, .int v1), (2, .int v2), (3, .int v3), (4, .int v4)]) (st' := []) (S1 := S6) (nL := 6) (cd := cd_2418) mx_2418 rfl rfl 1 rfl ?_
  refine RR.weak [(0, .ref 500), (1, .int v1), (2, .int v2), (3, .int v3)] ⟨rfl, rfl, rfl, rfl, trivial⟩ ?_
  exact s_m_worked_329 _ b14 _ _ _ _ h
def m_worked_194 (k14 : Int32 → Int32 → Int32 → St → Re Int32) (v1 : Int32) (v2 : Int32) (v3 : Int32) (v4 : Int32) (S : St) : Re Int32 :=
  bn (m_tests v2 S) fun r1 S2 =>
  if v2 < 0 ∨ 7 ≤ v2.toNatClampNeg then none else
  lt' (wI S2 527 v2.toNatClampNeg v4) fun S3 =>
  m_worked_329 k14 v1 v2 v3 S3
set_option maxRecDepth 100000 in
theorem s_m_worked_194 {d : Nat} (k14 : Int32 → Int32 → Int32 → St → Re Int32) {S' : St} {r : Int32} (b14 : ∀ (v1 : Int32) (v2 : Int32) (v3 : Int32) (S : St), k14 v1 v2 v3 S = some (r, S') → RR KM (d + 2) 2418 14 [(0, .ref 500), (1, .int v1), (2, .int v2), (3, .int v3)] [] S (some (.int r)) S') (v1 : Int32) (v2 : Int32) (v3 : Int32) (v4 : Int32) (S : St) (h : m_worked_194 k14 v1 v2 v3 v4 S = some (r, S')) : RR KM (d + 2) 2418 194 [(0, .ref 500), (1, .int v1), (2, .int v2), (3, .int v3), (4, .int v4)] [] S (some (.int r)) S' := by
  unfold m_worked_194 at h
  refine RR.runs (pc' := 196) (lc' := [(0, .ref 500), (1, .int v1), (2, .int v2), (3, .int v3), (4, .int v4)]) (st' := [.int v2, .ref 500]) (S1 := S) (nL := 6) (cd := cd_2418) mx_2418 rfl rfl 2 rfl ?_
  obtain ⟨r1, S2, h1, h⟩ := bnE h
  refine RR.callV (b := 500) (as := [.int v2]) (rest := []) (r1 := none) (S1 := S2) mx_2418 rfl rfl mx_2417 rfl rfl (by decide) (Or.inl rfl) (Nat.le_of_ble_eq_true rfl) (Nat.le_of_ble_eq_true rfl) (RC.deep (by omega) (s_m_tests (d := d) _ _ h1)) ?_
  show RR KM _ 2418 199 [(0, .ref 500), (1, .int v1), (2, .int v2), (3, .int v3), (4, .int v4)] [] S2 _ _
  refine RR.runs (pc' := 206) (lc' := [(0, .ref 500), (1, .int v1), (2, .int v2), (3, .int v3), (4, .int v4)]) (st' := [.int v4, .int v2, .ref 527]) (S1 := S2) (nL := 6) (cd := cd_2418) mx_2418 rfl rfl 4 rfl ?_
  obtain ⟨g, h⟩ := gnE h
  refine RR.gPN (c2 := (KM.1 527).1 = 1) (pc' := 207) (lc' := [(0, .ref 500), (1, .int v1), (2, .int v2), (3, .int v3), (4, .int v4)]) (st' := []) (S1 := (wI S2 527 v2.toNatClampNeg v4)) (nL := 6) (cd := cd_2418) mx_2418 rfl rfl rfl rfl g ?_
  obtain ⟨S3, eS3, h⟩ := ltE h
  rw [← eS3]
  refine RR.runs (pc' := 329) (lc' := [(0, .ref 500), (1, .int v1), (2, .int v2), (3, .int v3), (4, .int v4)]) (st' := []) (S1 := S3) (nL := 6) (cd := cd_2418) mx_2418 rfl rfl 1 rfl ?_
  refine RR.weak [(0, .ref 500), (1, .int v1), (2, .int v2), (3, .int v3)] ⟨rfl, rfl, rfl, rfl, trivial⟩ ?_
  exact s_m_worked_329 _ b14 _ _ _ _ h
def m_worked_292 (k268 : Int32 → Int32 → Int32 → Int32 → St → Re Int32) (v1 : Int32) (v2 : Int32) (v3 : Int32) (p0 : Int32) (S : St) : Re Int32 :=
  lt' ((v2 + (-1 : Int32)) : Int32) fun x1 =>
  k268 v1 x1 v3 p0 S
set_option maxRecDepth 100000 in
theorem s_m_worked_292 {d : Nat} (k268 : Int32 → Int32 → Int32 → Int32 → St → Re Int32) {S' : St} {r : Int32} (b268 : ∀ (v1 : Int32) (v2 : Int32) (v3 : Int32) (v5 : Int32) (S : St), k268 v1 v2 v3 v5 S = some (r, S') → RR KM (d + 2) 2418 268 [(0, .ref 500), (1, .int v1), (2, .int v2), (3, .int v3), (5, .int v5)] [] S (some (.int r)) S') (v1 : Int32) (v2 : Int32) (v3 : Int32) (p0 : Int32) (S : St) (h : m_worked_292 k268 v1 v2 v3 p0 S = some (r, S')) : RR KM (d + 2) 2418 292 [(0, .ref 500), (1, .int v1), (2, .int v2), (3, .int v3)] [.int p0] S (some (.int r)) S' := by
  unfold m_worked_292 at h
  refine RR.runs (pc' := 297) (lc' := [(2, .int ((v2 + (-1 : Int32)))), (5, .int p0), (0, .ref 500), (1, .int v1), (3, .int v3)]) (st' := []) (S1 := S) (nL := 6) (cd := cd_2418) mx_2418 rfl rfl 2 rfl ?_
  obtain ⟨x1, ex1, h⟩ := ltE h
  rw [← ex1]
  refine RR.runs (pc' := 268) (lc' := [(2, .int x1), (5, .int p0), (0, .ref 500), (1, .int v1), (3, .int v3)]) (st' := []) (S1 := S) (nL := 6) (cd := cd_2418) mx_2418 rfl rfl 1 rfl ?_
  refine RR.weak [(0, .ref 500), (1, .int v1), (2, .int x1), (3, .int v3), (5, .int p0)] ⟨rfl, rfl, rfl, rfl, rfl, trivial⟩ ?_
  exact b268 _ _ _ _ _ h
def m_worked_328 (k14 : Int32 → Int32 → Int32 → St → Re Int32) (v1 : Int32) (v2 : Int32) (v3 : Int32) (p0 : Int32) (p1 : Int32) (S : St) : Re Int32 :=
  if p1 < 0 ∨ 7 ≤ p1.toNatClampNeg then none else
  lt' (wI S 532 p1.toNatClampNeg p0) fun S1 =>
  m_worked_329 k14 v1 v2 v3 S1
set_option maxRecDepth 100000 in
theorem s_m_worked_328 {d : Nat} (k14 : Int32 → Int32 → Int32 → St → Re Int32) {S' : St} {r : Int32} (b14 : ∀ (v1 : Int32) (v2 : Int32) (v3 : Int32) (S : St), k14 v1 v2 v3 S = some (r, S') → RR KM (d + 2) 2418 14 [(0, .ref 500), (1, .int v1), (2, .int v2), (3, .int v3)] [] S (some (.int r)) S') (v1 : Int32) (v2 : Int32) (v3 : Int32) (p0 : Int32) (p1 : Int32) (S : St) (h : m_worked_328 k14 v1 v2 v3 p0 p1 S = some (r, S')) : RR KM (d + 2) 2418 328 [(0, .ref 500), (1, .int v1), (2, .int v2), (3, .int v3)] [.int p0, .int p1, .ref 532] S (some (.int r)) S' := by
  unfold m_worked_328 at h
  obtain ⟨g, h⟩ := gnE h
  refine RR.gPN (c2 := (KM.1 532).1 = 1) (pc' := 329) (lc' := [(0, .ref 500), (1, .int v1), (2, .int v2), (3, .int v3)]) (st' := []) (S1 := (wI S 532 p1.toNatClampNeg p0)) (nL := 6) (cd := cd_2418) mx_2418 rfl rfl rfl rfl g ?_
  obtain ⟨S1, eS1, h⟩ := ltE h
  rw [← eS1]
  refine RR.weak [(0, .ref 500), (1, .int v1), (2, .int v2), (3, .int v3)] ⟨rfl, rfl, rfl, rfl, trivial⟩ ?_
  exact s_m_worked_329 _ b14 _ _ _ _ h
def m_worked_300 (k14 : Int32 → Int32 → Int32 → St → Re Int32) (v1 : Int32) (v2 : Int32) (v3 : Int32) (v5 : Int32) (S : St) : Re Int32 :=
  if v2 < 0 ∨ 7 ≤ v2.toNatClampNeg then none else
  if (rI S 533 v2.toNatClampNeg) = 0 then (
    m_worked_328 k14 v1 v2 v3 v5 v2 S)
  else (
    if v2 < 0 ∨ 7 ≤ v2.toNatClampNeg then none else
    m_worked_328 k14 v1 v2 v3 (((rI S 532 v2.toNatClampNeg) * v5)) v2 S)
set_option maxRecDepth 100000 in
theorem s_m_worked_300 {d : Nat} (k14 : Int32 → Int32 → Int32 → St → Re Int32) {S' : St} {r : Int32} (b14 : ∀ (v1 : Int32) (v2 : Int32) (v3 : Int32) (S : St), k14 v1 v2 v3 S = some (r, S') → RR KM (d + 2) 2418 14 [(0, .ref 500), (1, .int v1), (2, .int v2), (3, .int v3)] [] S (some (.int r)) S') (v1 : Int32) (v2 : Int32) (v3 : Int32) (v5 : Int32) (S : St) (h : m_worked_300 k14 v1 v2 v3 v5 S = some (r, S')) : RR KM (d + 2) 2418 300 [(0, .ref 500), (1, .int v1), (2, .int v2), (3, .int v3), (5, .int v5)] [] S (some (.int r)) S' := by
  unfold m_worked_300 at h
  refine RR.runs (pc' := 310) (lc' := [(0, .ref 500), (1, .int v1), (2, .int v2), (3, .int v3), (5, .int v5)]) (st' := [.int v2, .ref 533, .int v2, .ref 532]) (S1 := S) (nL := 6) (cd := cd_2418) mx_2418 rfl rfl 6 rfl ?_
  obtain ⟨g, h⟩ := gnE h
  refine RR.gPN (c2 := (KM.1 533).1 = 1) (pc' := 311) (lc' := [(0, .ref 500), (1, .int v1), (2, .int v2), (3, .int v3), (5, .int v5)]) (st' := [.int (rI S 533 v2.toNatClampNeg), .int v2, .ref 532]) (S1 := S) (nL := 6) (cd := cd_2418) mx_2418 rfl rfl rfl rfl g ?_
  refine RR.runs (pc' := icm .ne (rI S 533 v2.toNatClampNeg) 0 319 314) (lc' := [(0, .ref 500), (1, .int v1), (2, .int v2), (3, .int v3), (5, .int v5)]) (st' := [.int v2, .ref 532]) (S1 := S) (nL := 6) (cd := cd_2418) mx_2418 rfl rfl 1 rfl ?_
  rcases ifE h with ⟨c, h⟩ | ⟨c, h⟩
  · refine RR.c_ne (fun _ => ?_) (fun q => absurd c q)
    refine RR.runs (pc' := 328) (lc' := [(0, .ref 500), (1, .int v1), (2, .int v2), (3, .int v3), (5, .int v5)]) (st' := [.int v5, .int v2, .ref 532]) (S1 := S) (nL := 6) (cd := cd_2418) mx_2418 rfl rfl 2 rfl ?_
    refine RR.weak [(0, .ref 500), (1, .int v1), (2, .int v2), (3, .int v3)] ⟨rfl, rfl, rfl, rfl, trivial⟩ ?_
    exact s_m_worked_328 _ b14 _ _ _ _ _ _ h
  · refine RR.c_ne (fun q => absurd q c) (fun _ => ?_)
    refine RR.runs (pc' := 324) (lc' := [(0, .ref 500), (1, .int v1), (2, .int v2), (3, .int v3), (5, .int v5)]) (st' := [.int v2, .ref 532, .int v2, .ref 532]) (S1 := S) (nL := 6) (cd := cd_2418) mx_2418 rfl rfl 3 rfl ?_
    obtain ⟨g, h⟩ := gnE h
    refine RR.gPN (c2 := (KM.1 532).1 = 1) (pc' := 325) (lc' := [(0, .ref 500), (1, .int v1), (2, .int v2), (3, .int v3), (5, .int v5)]) (st' := [.int (rI S 532 v2.toNatClampNeg), .int v2, .ref 532]) (S1 := S) (nL := 6) (cd := cd_2418) mx_2418 rfl rfl rfl rfl g ?_
    refine RR.runs (pc' := 328) (lc' := [(0, .ref 500), (1, .int v1), (2, .int v2), (3, .int v3), (5, .int v5)]) (st' := [.int (((rI S 532 v2.toNatClampNeg) * v5)), .int v2, .ref 532]) (S1 := S) (nL := 6) (cd := cd_2418) mx_2418 rfl rfl 2 rfl ?_
    refine RR.weak [(0, .ref 500), (1, .int v1), (2, .int v2), (3, .int v3)] ⟨rfl, rfl, rfl, rfl, trivial⟩ ?_
    exact s_m_worked_328 _ b14 _ _ _ _ _ _ h
def m_worked_268 (k14 : Int32 → Int32 → Int32 → St → Re Int32) : Nat → Int32 → Int32 → Int32 → Int32 → St → Re Int32
  | 0, _, _, _, _, _ => none
  | n + 1, v1, v2, v3, v5, S =>
  if 0 < v2 then (
    if v2 < 0 ∨ 7 ≤ v2.toNatClampNeg then none else
    if (rI S 534 v2.toNatClampNeg) = (1 : Int32) then (
      if v5 = 0 then (
        m_worked_292 (m_worked_268 k14 n) v1 v2 v3 (1 : Int32) S)
      else (
        m_worked_292 (m_worked_268 k14 n) v1 v2 v3 (0 : Int32) S))
    else (
      m_worked_300 k14 v1 v2 v3 v5 S))
  else (
    m_worked_300 k14 v1 v2 v3 v5 S)
set_option maxRecDepth 100000 in
theorem s_m_worked_268 {d : Nat} (k14 : Int32 → Int32 → Int32 → St → Re Int32) {S' : St} {r : Int32} (b14 : ∀ (v1 : Int32) (v2 : Int32) (v3 : Int32) (S : St), k14 v1 v2 v3 S = some (r, S') → RR KM (d + 2) 2418 14 [(0, .ref 500), (1, .int v1), (2, .int v2), (3, .int v3)] [] S (some (.int r)) S') : ∀ (n : Nat) (v1 : Int32) (v2 : Int32) (v3 : Int32) (v5 : Int32) (S : St), m_worked_268 k14 n v1 v2 v3 v5 S = some (r, S') → RR KM (d + 2) 2418 268 [(0, .ref 500), (1, .int v1), (2, .int v2), (3, .int v3), (5, .int v5)] [] S (some (.int r)) S' := by
  intro n
  induction n with
  | zero => intro v1 v2 v3 v5 S h; simp only [m_worked_268] at h; cases h
  | succ n ih =>
    intro v1 v2 v3 v5 S h
    simp only [m_worked_268] at h
    refine RR.runs (pc' := icm .le v2 0 300 272) (lc' := [(0, .ref 500), (1, .int v1), (2, .int v2), (3, .int v3), (5, .int v5)]) (st' := []) (S1 := S) (nL := 6) (cd := cd_2418) mx_2418 rfl rfl 2 rfl ?_
    rcases ifE h with ⟨c, h⟩ | ⟨c, h⟩
    · refine RR.c_le (fun _ => ?_) (fun q => absurd c q)
      refine RR.runs (pc' := 277) (lc' := [(0, .ref 500), (1, .int v1), (2, .int v2), (3, .int v3), (5, .int v5)]) (st' := [.int v2, .ref 534]) (S1 := S) (nL := 6) (cd := cd_2418) mx_2418 rfl rfl 3 rfl ?_
      obtain ⟨g, h⟩ := gnE h
      refine RR.gPN (c2 := (KM.1 534).1 = 1) (pc' := 278) (lc' := [(0, .ref 500), (1, .int v1), (2, .int v2), (3, .int v3), (5, .int v5)]) (st' := [.int (rI S 534 v2.toNatClampNeg)]) (S1 := S) (nL := 6) (cd := cd_2418) mx_2418 rfl rfl rfl rfl g ?_
      refine RR.runs (pc' := icm .ne (rI S 534 v2.toNatClampNeg) (1 : Int32) 300 282) (lc' := [(0, .ref 500), (1, .int v1), (2, .int v2), (3, .int v3), (5, .int v5)]) (st' := []) (S1 := S) (nL := 6) (cd := cd_2418) mx_2418 rfl rfl 2 rfl ?_
      rcases ifE h with ⟨c, h⟩ | ⟨c, h⟩
      · refine RR.c_ne (fun _ => ?_) (fun q => absurd c q)
        refine RR.runs (pc' := icm .ne v5 0 291 287) (lc' := [(0, .ref 500), (1, .int v1), (2, .int v2), (3, .int v3), (5, .int v5)]) (st' := []) (S1 := S) (nL := 6) (cd := cd_2418) mx_2418 rfl rfl 2 rfl ?_
        rcases ifE h with ⟨c, h⟩ | ⟨c, h⟩
        · refine RR.c_ne (fun _ => ?_) (fun q => absurd c q)
          refine RR.runs (pc' := 292) (lc' := [(0, .ref 500), (1, .int v1), (2, .int v2), (3, .int v3), (5, .int v5)]) (st' := [.int (1 : Int32)]) (S1 := S) (nL := 6) (cd := cd_2418) mx_2418 rfl rfl 2 rfl ?_
          refine RR.weak [(0, .ref 500), (1, .int v1), (2, .int v2), (3, .int v3)] ⟨rfl, rfl, rfl, rfl, trivial⟩ ?_
          exact s_m_worked_292 _ (fun _ _ _ _ S h => ih _ _ _ _ S h) _ _ _ _ _ h
        · refine RR.c_ne (fun q => absurd q c) (fun _ => ?_)
          refine RR.runs (pc' := 292) (lc' := [(0, .ref 500), (1, .int v1), (2, .int v2), (3, .int v3), (5, .int v5)]) (st' := [.int (0 : Int32)]) (S1 := S) (nL := 6) (cd := cd_2418) mx_2418 rfl rfl 1 rfl ?_
          refine RR.weak [(0, .ref 500), (1, .int v1), (2, .int v2), (3, .int v3)] ⟨rfl, rfl, rfl, rfl, trivial⟩ ?_
          exact s_m_worked_292 _ (fun _ _ _ _ S h => ih _ _ _ _ S h) _ _ _ _ _ h
      · refine RR.c_ne (fun q => absurd q c) (fun _ => ?_)
        refine RR.weak [(0, .ref 500), (1, .int v1), (2, .int v2), (3, .int v3), (5, .int v5)] ⟨rfl, rfl, rfl, rfl, rfl, trivial⟩ ?_
        exact s_m_worked_300 _ b14 _ _ _ _ _ h
    · refine RR.c_le (fun q => absurd q c) (fun _ => ?_)
      refine RR.weak [(0, .ref 500), (1, .int v1), (2, .int v2), (3, .int v3), (5, .int v5)] ⟨rfl, rfl, rfl, rfl, rfl, trivial⟩ ?_
      exact s_m_worked_300 _ b14 _ _ _ _ _ h
def m_worked_243 (k14 : Int32 → Int32 → Int32 → St → Re Int32) (v1 : Int32) (v2 : Int32) (v3 : Int32) (v4 : Int32) (p0 : Int32) (S : St) : Re Int32 :=
  if v4 = (29 : Int32) then (
    bn (m_tests v2 S) fun r1 S2 =>
    if v2 < 0 ∨ 7 ≤ v2.toNatClampNeg then none else
    lt' ((rI S2 526 v2.toNatClampNeg) : Int32) fun x3 =>
    lt' ((v2 + (-1 : Int32)) : Int32) fun x4 =>
    m_worked_268 k14 FU v1 x4 v3 x3 S2)
  else (
    m_worked_268 k14 FU v1 v2 v3 p0 S)
set_option maxRecDepth 100000 in
theorem s_m_worked_243 {d : Nat} (k14 : Int32 → Int32 → Int32 → St → Re Int32) {S' : St} {r : Int32} (b14 : ∀ (v1 : Int32) (v2 : Int32) (v3 : Int32) (S : St), k14 v1 v2 v3 S = some (r, S') → RR KM (d + 2) 2418 14 [(0, .ref 500), (1, .int v1), (2, .int v2), (3, .int v3)] [] S (some (.int r)) S') (v1 : Int32) (v2 : Int32) (v3 : Int32) (v4 : Int32) (p0 : Int32) (S : St) (h : m_worked_243 k14 v1 v2 v3 v4 p0 S = some (r, S')) : RR KM (d + 2) 2418 243 [(0, .ref 500), (1, .int v1), (2, .int v2), (3, .int v3), (4, .int v4)] [.int p0] S (some (.int r)) S' := by
  unfold m_worked_243 at h
  refine RR.runs (pc' := icm .ne v4 (29 : Int32) 268 252) (lc' := [(5, .int p0), (0, .ref 500), (1, .int v1), (2, .int v2), (3, .int v3), (4, .int v4)]) (st' := []) (S1 := S) (nL := 6) (cd := cd_2418) mx_2418 rfl rfl 4 rfl ?_
  rcases ifE h with ⟨c, h⟩ | ⟨c, h⟩
  · refine RR.c_ne (fun _ => ?_) (fun q => absurd c q)
    refine RR.runs (pc' := 254) (lc' := [(5, .int p0), (0, .ref 500), (1, .int v1), (2, .int v2), (3, .int v3), (4, .int v4)]) (st' := [.int v2, .ref 500]) (S1 := S) (nL := 6) (cd := cd_2418) mx_2418 rfl rfl 2 rfl ?_
    obtain ⟨r1, S2, h1, h⟩ := bnE h
    refine RR.callV (b := 500) (as := [.int v2]) (rest := []) (r1 := none) (S1 := S2) mx_2418 rfl rfl mx_2417 rfl rfl (by decide) (Or.inl rfl) (Nat.le_of_ble_eq_true rfl) (Nat.le_of_ble_eq_true rfl) (RC.deep (by omega) (s_m_tests (d := d) _ _ h1)) ?_
    show RR KM _ 2418 257 [(5, .int p0), (0, .ref 500), (1, .int v1), (2, .int v2), (3, .int v3), (4, .int v4)] [] S2 _ _
    refine RR.runs (pc' := 262) (lc' := [(5, .int p0), (0, .ref 500), (1, .int v1), (2, .int v2), (3, .int v3), (4, .int v4)]) (st' := [.int v2, .ref 526]) (S1 := S2) (nL := 6) (cd := cd_2418) mx_2418 rfl rfl 3 rfl ?_
    obtain ⟨g, h⟩ := gnE h
    refine RR.gPN (c2 := (KM.1 526).1 = 1) (pc' := 263) (lc' := [(5, .int p0), (0, .ref 500), (1, .int v1), (2, .int v2), (3, .int v3), (4, .int v4)]) (st' := [.int (rI S2 526 v2.toNatClampNeg)]) (S1 := S2) (nL := 6) (cd := cd_2418) mx_2418 rfl rfl rfl rfl g ?_
    refine RR.runs (pc' := 265) (lc' := [(5, .int (rI S2 526 v2.toNatClampNeg)), (0, .ref 500), (1, .int v1), (2, .int v2), (3, .int v3), (4, .int v4)]) (st' := []) (S1 := S2) (nL := 6) (cd := cd_2418) mx_2418 rfl rfl 1 rfl ?_
    obtain ⟨x3, ex3, h⟩ := ltE h
    rw [← ex3]
    refine RR.runs (pc' := 268) (lc' := [(2, .int ((v2 + (-1 : Int32)))), (5, .int x3), (0, .ref 500), (1, .int v1), (3, .int v3), (4, .int v4)]) (st' := []) (S1 := S2) (nL := 6) (cd := cd_2418) mx_2418 rfl rfl 1 rfl ?_
    obtain ⟨x4, ex4, h⟩ := ltE h
    rw [← ex4]
    refine RR.weak [(0, .ref 500), (1, .int v1), (2, .int x4), (3, .int v3), (5, .int x3)] ⟨rfl, rfl, rfl, rfl, rfl, trivial⟩ ?_
    exact s_m_worked_268 _ b14 _ _ _ _ _ _ h
  · refine RR.c_ne (fun q => absurd q c) (fun _ => ?_)
    refine RR.weak [(0, .ref 500), (1, .int v1), (2, .int v2), (3, .int v3), (5, .int p0)] ⟨rfl, rfl, rfl, rfl, rfl, trivial⟩ ?_
    exact s_m_worked_268 _ b14 _ _ _ _ _ _ h
def m_worked_335 (S : St) : Re Int32 :=
  bn (m_tests (0 : Int32) S) fun r1 S2 =>
  if (0 : Int32) < 0 ∨ 7 ≤ (0 : Int32).toNatClampNeg then none else
  some ((rI S2 526 (0 : Int32).toNatClampNeg), S2)
set_option maxRecDepth 100000 in
theorem s_m_worked_335 {d : Nat} {S' : St} {r : Int32} (S : St) (h : m_worked_335 S = some (r, S')) : RR KM (d + 2) 2418 335 [(0, .ref 500)] [] S (some (.int r)) S' := by
  unfold m_worked_335 at h
  refine RR.runs (pc' := 337) (lc' := [(0, .ref 500)]) (st' := [.int (0 : Int32), .ref 500]) (S1 := S) (nL := 6) (cd := cd_2418) mx_2418 rfl rfl 2 rfl ?_
  obtain ⟨r1, S2, h1, h⟩ := bnE h
  refine RR.callV (b := 500) (as := [.int (0 : Int32)]) (rest := []) (r1 := none) (S1 := S2) mx_2418 rfl rfl mx_2417 rfl rfl (by decide) (Or.inl rfl) (Nat.le_of_ble_eq_true rfl) (Nat.le_of_ble_eq_true rfl) (RC.deep (by omega) (s_m_tests (d := d) _ _ h1)) ?_
  show RR KM _ 2418 340 [(0, .ref 500)] [] S2 _ _
  refine RR.runs (pc' := 345) (lc' := [(0, .ref 500)]) (st' := [.int (0 : Int32), .ref 526]) (S1 := S2) (nL := 6) (cd := cd_2418) mx_2418 rfl rfl 3 rfl ?_
  obtain ⟨g, h⟩ := gnE h
  refine RR.gPN (c2 := (KM.1 526).1 = 1) (pc' := 346) (lc' := [(0, .ref 500)]) (st' := [.int ((rI S2 526 (0 : Int32).toNatClampNeg))]) (S1 := S2) (nL := 6) (cd := cd_2418) mx_2418 rfl rfl rfl rfl g ?_
  cases h
  exact RR.reti mx_2418 rfl rfl rfl
def m_worked_14 : Nat → Int32 → Int32 → Int32 → St → Re Int32
  | 0, _, _, _, _ => none
  | n + 1, v1, v2, v3, S =>
  if v1 < 0 ∨ 4 ≤ v1.toNatClampNeg then none else
  if v3 < (rI S 522 v1.toNatClampNeg) then (
    if v3 < 0 ∨ 2000 ≤ v3.toNatClampNeg then none else
    lt' ((rI S 523 v3.toNatClampNeg) : Int32) fun x1 =>
    if x1 = (28 : Int32) then (
      m_worked_46 (m_worked_14 n) v1 v2 v3 x1 S)
    else (
      if x1 = (30 : Int32) then (
        m_worked_46 (m_worked_14 n) v1 v2 v3 x1 S)
      else (
        if x1 = (20 : Int32) then (
          m_worked_89 (m_worked_14 n) v1 v2 v3 x1 S)
        else (
          if x1 = (21 : Int32) then (
            m_worked_89 (m_worked_14 n) v1 v2 v3 x1 S)
          else (
            if x1 = (22 : Int32) then (
              if v2 < 0 ∨ 7 ≤ v2.toNatClampNeg then none else
              lt' (wI S 533 v2.toNatClampNeg x1) fun S2 =>
              m_worked_329 (m_worked_14 n) v1 v2 v3 S2)
            else (
              if x1 = (24 : Int32) then (
                m_worked_137 (m_worked_14 n) v1 v2 v3 x1 S)
              else (
                if x1 = (25 : Int32) then (
                  m_worked_137 (m_worked_14 n) v1 v2 v3 x1 S)
                else (
                  if x1 = (26 : Int32) then (
                    m_worked_194 (m_worked_14 n) v1 v2 v3 x1 S)
                  else (
                    if x1 = (27 : Int32) then (
                      m_worked_194 (m_worked_14 n) v1 v2 v3 x1 S)
                    else (
                      if x1 < (100 : Int32) then (
                        if x1 < (20 : Int32) then (
                          if x1 < 0 ∨ 20 ≤ x1.toNatClampNeg then none else
                          m_worked_243 (m_worked_14 n) v1 v2 v3 x1 (rI S 535 x1.toNatClampNeg) S)
                        else (
                          m_worked_243 (m_worked_14 n) v1 v2 v3 x1 (0 : Int32) S))
                      else (
                        m_worked_243 (m_worked_14 n) v1 v2 v3 x1 ((x1 - (100 : Int32))) S)))))))))))
  else (
    m_worked_335 S)
set_option maxRecDepth 100000 in
theorem s_m_worked_14 {d : Nat} {S' : St} {r : Int32} : ∀ (n : Nat) (v1 : Int32) (v2 : Int32) (v3 : Int32) (S : St), m_worked_14 n v1 v2 v3 S = some (r, S') → RR KM (d + 2) 2418 14 [(0, .ref 500), (1, .int v1), (2, .int v2), (3, .int v3)] [] S (some (.int r)) S' := by
  intro n
  induction n with
  | zero => intro v1 v2 v3 S h; simp only [m_worked_14] at h; cases h
  | succ n ih =>
    intro v1 v2 v3 S h
    simp only [m_worked_14] at h
    refine RR.runs (pc' := 20) (lc' := [(0, .ref 500), (1, .int v1), (2, .int v2), (3, .int v3)]) (st' := [.int v1, .ref 522, .int v3]) (S1 := S) (nL := 6) (cd := cd_2418) mx_2418 rfl rfl 4 rfl ?_
    obtain ⟨g, h⟩ := gnE h
    refine RR.gPN (c2 := (KM.1 522).1 = 1) (pc' := 21) (lc' := [(0, .ref 500), (1, .int v1), (2, .int v2), (3, .int v3)]) (st' := [.int (rI S 522 v1.toNatClampNeg), .int v3]) (S1 := S) (nL := 6) (cd := cd_2418) mx_2418 rfl rfl rfl rfl g ?_
    refine RR.runs (pc' := icm .ge v3 (rI S 522 v1.toNatClampNeg) 335 24) (lc' := [(0, .ref 500), (1, .int v1), (2, .int v2), (3, .int v3)]) (st' := []) (S1 := S) (nL := 6) (cd := cd_2418) mx_2418 rfl rfl 1 rfl ?_
    rcases ifE h with ⟨c, h⟩ | ⟨c, h⟩
    · refine RR.c_ge (fun _ => ?_) (fun q => absurd c q)
      refine RR.runs (pc' := 29) (lc' := [(0, .ref 500), (1, .int v1), (2, .int v2), (3, .int v3)]) (st' := [.int v3, .ref 523]) (S1 := S) (nL := 6) (cd := cd_2418) mx_2418 rfl rfl 3 rfl ?_
      obtain ⟨g, h⟩ := gnE h
      refine RR.gPN (c2 := (KM.1 523).1 = 1) (pc' := 30) (lc' := [(0, .ref 500), (1, .int v1), (2, .int v2), (3, .int v3)]) (st' := [.int (rI S 523 v3.toNatClampNeg)]) (S1 := S) (nL := 6) (cd := cd_2418) mx_2418 rfl rfl rfl rfl g ?_
      refine RR.runs (pc' := 32) (lc' := [(4, .int (rI S 523 v3.toNatClampNeg)), (0, .ref 500), (1, .int v1), (2, .int v2), (3, .int v3)]) (st' := []) (S1 := S) (nL := 6) (cd := cd_2418) mx_2418 rfl rfl 1 rfl ?_
      obtain ⟨x1, ex1, h⟩ := ltE h
      rw [← ex1]
      refine RR.runs (pc' := icm .eq x1 (28 : Int32) 46 39) (lc' := [(4, .int x1), (0, .ref 500), (1, .int v1), (2, .int v2), (3, .int v3)]) (st' := []) (S1 := S) (nL := 6) (cd := cd_2418) mx_2418 rfl rfl 3 rfl ?_
      rcases ifE h with ⟨c, h⟩ | ⟨c, h⟩
      · refine RR.c_eq (fun _ => ?_) (fun q => absurd c q)
        refine RR.weak [(0, .ref 500), (1, .int v1), (2, .int v2), (3, .int v3), (4, .int x1)] ⟨rfl, rfl, rfl, rfl, rfl, trivial⟩ ?_
        exact s_m_worked_46 _ (fun _ _ _ S h => ih _ _ _ S h) _ _ _ _ _ h
      · refine RR.c_eq (fun q => absurd q c) (fun _ => ?_)
        refine RR.runs (pc' := icm .ne x1 (30 : Int32) 75 46) (lc' := [(4, .int x1), (0, .ref 500), (1, .int v1), (2, .int v2), (3, .int v3)]) (st' := []) (S1 := S) (nL := 6) (cd := cd_2418) mx_2418 rfl rfl 3 rfl ?_
        rcases ifE h with ⟨c, h⟩ | ⟨c, h⟩
        · refine RR.c_ne (fun _ => ?_) (fun q => absurd c q)
          refine RR.weak [(0, .ref 500), (1, .int v1), (2, .int v2), (3, .int v3), (4, .int x1)] ⟨rfl, rfl, rfl, rfl, rfl, trivial⟩ ?_
          exact s_m_worked_46 _ (fun _ _ _ S h => ih _ _ _ S h) _ _ _ _ _ h
        · refine RR.c_ne (fun q => absurd q c) (fun _ => ?_)
          refine RR.runs (pc' := icm .eq x1 (20 : Int32) 89 82) (lc' := [(4, .int x1), (0, .ref 500), (1, .int v1), (2, .int v2), (3, .int v3)]) (st' := []) (S1 := S) (nL := 6) (cd := cd_2418) mx_2418 rfl rfl 3 rfl ?_
          rcases ifE h with ⟨c, h⟩ | ⟨c, h⟩
          · refine RR.c_eq (fun _ => ?_) (fun q => absurd c q)
            refine RR.weak [(0, .ref 500), (1, .int v1), (2, .int v2), (3, .int v3), (4, .int x1)] ⟨rfl, rfl, rfl, rfl, rfl, trivial⟩ ?_
            exact s_m_worked_89 _ (fun _ _ _ S h => ih _ _ _ S h) _ _ _ _ _ h
          · refine RR.c_eq (fun q => absurd q c) (fun _ => ?_)
            refine RR.runs (pc' := icm .ne x1 (21 : Int32) 105 89) (lc' := [(4, .int x1), (0, .ref 500), (1, .int v1), (2, .int v2), (3, .int v3)]) (st' := []) (S1 := S) (nL := 6) (cd := cd_2418) mx_2418 rfl rfl 3 rfl ?_
            rcases ifE h with ⟨c, h⟩ | ⟨c, h⟩
            · refine RR.c_ne (fun _ => ?_) (fun q => absurd c q)
              refine RR.weak [(0, .ref 500), (1, .int v1), (2, .int v2), (3, .int v3), (4, .int x1)] ⟨rfl, rfl, rfl, rfl, rfl, trivial⟩ ?_
              exact s_m_worked_89 _ (fun _ _ _ S h => ih _ _ _ S h) _ _ _ _ _ h
            · refine RR.c_ne (fun q => absurd q c) (fun _ => ?_)
              refine RR.runs (pc' := icm .ne x1 (22 : Int32) 123 112) (lc' := [(4, .int x1), (0, .ref 500), (1, .int v1), (2, .int v2), (3, .int v3)]) (st' := []) (S1 := S) (nL := 6) (cd := cd_2418) mx_2418 rfl rfl 3 rfl ?_
              rcases ifE h with ⟨c, h⟩ | ⟨c, h⟩
              · refine RR.c_ne (fun _ => ?_) (fun q => absurd c q)
                refine RR.runs (pc' := 119) (lc' := [(4, .int x1), (0, .ref 500), (1, .int v1), (2, .int v2), (3, .int v3)]) (st' := [.int x1, .int v2, .ref 533]) (S1 := S) (nL := 6) (cd := cd_2418) mx_2418 rfl rfl 4 rfl ?_
                obtain ⟨g, h⟩ := gnE h
                refine RR.gPN (c2 := (KM.1 533).1 = 1) (pc' := 120) (lc' := [(4, .int x1), (0, .ref 500), (1, .int v1), (2, .int v2), (3, .int v3)]) (st' := []) (S1 := (wI S 533 v2.toNatClampNeg x1)) (nL := 6) (cd := cd_2418) mx_2418 rfl rfl rfl rfl g ?_
                obtain ⟨S2, eS2, h⟩ := ltE h
                rw [← eS2]
                refine RR.runs (pc' := 329) (lc' := [(4, .int x1), (0, .ref 500), (1, .int v1), (2, .int v2), (3, .int v3)]) (st' := []) (S1 := S2) (nL := 6) (cd := cd_2418) mx_2418 rfl rfl 1 rfl ?_
                refine RR.weak [(0, .ref 500), (1, .int v1), (2, .int v2), (3, .int v3)] ⟨rfl, rfl, rfl, rfl, trivial⟩ ?_
                exact s_m_worked_329 _ (fun _ _ _ S h => ih _ _ _ S h) _ _ _ _ h
              · refine RR.c_ne (fun q => absurd q c) (fun _ => ?_)
                refine RR.runs (pc' := icm .eq x1 (24 : Int32) 137 130) (lc' := [(4, .int x1), (0, .ref 500), (1, .int v1), (2, .int v2), (3, .int v3)]) (st' := []) (S1 := S) (nL := 6) (cd := cd_2418) mx_2418 rfl rfl 3 rfl ?_
                rcases ifE h with ⟨c, h⟩ | ⟨c, h⟩
                · refine RR.c_eq (fun _ => ?_) (fun q => absurd c q)
                  refine RR.weak [(0, .ref 500), (1, .int v1), (2, .int v2), (3, .int v3), (4, .int x1)] ⟨rfl, rfl, rfl, rfl, rfl, trivial⟩ ?_
                  exact s_m_worked_137 _ (fun _ _ _ S h => ih _ _ _ S h) _ _ _ _ _ h
                · refine RR.c_eq (fun q => absurd q c) (fun _ => ?_)
                  refine RR.runs (pc' := icm .ne x1 (25 : Int32) 180 137) (lc' := [(4, .int x1), (0, .ref 500), (1, .int v1), (2, .int v2), (3, .int v3)]) (st' := []) (S1 := S) (nL := 6) (cd := cd_2418) mx_2418 rfl rfl 3 rfl ?_
                  rcases ifE h with ⟨c, h⟩ | ⟨c, h⟩
                  · refine RR.c_ne (fun _ => ?_) (fun q => absurd c q)
                    refine RR.weak [(0, .ref 500), (1, .int v1), (2, .int v2), (3, .int v3), (4, .int x1)] ⟨rfl, rfl, rfl, rfl, rfl, trivial⟩ ?_
                    exact s_m_worked_137 _ (fun _ _ _ S h => ih _ _ _ S h) _ _ _ _ _ h
                  · refine RR.c_ne (fun q => absurd q c) (fun _ => ?_)
                    refine RR.runs (pc' := icm .eq x1 (26 : Int32) 194 187) (lc' := [(4, .int x1), (0, .ref 500), (1, .int v1), (2, .int v2), (3, .int v3)]) (st' := []) (S1 := S) (nL := 6) (cd := cd_2418) mx_2418 rfl rfl 3 rfl ?_
                    rcases ifE h with ⟨c, h⟩ | ⟨c, h⟩
                    · refine RR.c_eq (fun _ => ?_) (fun q => absurd c q)
                      refine RR.weak [(0, .ref 500), (1, .int v1), (2, .int v2), (3, .int v3), (4, .int x1)] ⟨rfl, rfl, rfl, rfl, rfl, trivial⟩ ?_
                      exact s_m_worked_194 _ (fun _ _ _ S h => ih _ _ _ S h) _ _ _ _ _ h
                    · refine RR.c_eq (fun q => absurd q c) (fun _ => ?_)
                      refine RR.runs (pc' := icm .ne x1 (27 : Int32) 210 194) (lc' := [(4, .int x1), (0, .ref 500), (1, .int v1), (2, .int v2), (3, .int v3)]) (st' := []) (S1 := S) (nL := 6) (cd := cd_2418) mx_2418 rfl rfl 3 rfl ?_
                      rcases ifE h with ⟨c, h⟩ | ⟨c, h⟩
                      · refine RR.c_ne (fun _ => ?_) (fun q => absurd c q)
                        refine RR.weak [(0, .ref 500), (1, .int v1), (2, .int v2), (3, .int v3), (4, .int x1)] ⟨rfl, rfl, rfl, rfl, rfl, trivial⟩ ?_
                        exact s_m_worked_194 _ (fun _ _ _ S h => ih _ _ _ S h) _ _ _ _ _ h
                      · refine RR.c_ne (fun q => absurd q c) (fun _ => ?_)
                        refine RR.runs (pc' := icm .lt x1 (100 : Int32) 225 217) (lc' := [(4, .int x1), (0, .ref 500), (1, .int v1), (2, .int v2), (3, .int v3)]) (st' := []) (S1 := S) (nL := 6) (cd := cd_2418) mx_2418 rfl rfl 3 rfl ?_
                        rcases ifE h with ⟨c, h⟩ | ⟨c, h⟩
                        · refine RR.c_lt (fun _ => ?_) (fun q => absurd c q)
                          refine RR.runs (pc' := icm .ge x1 (20 : Int32) 242 232) (lc' := [(4, .int x1), (0, .ref 500), (1, .int v1), (2, .int v2), (3, .int v3)]) (st' := []) (S1 := S) (nL := 6) (cd := cd_2418) mx_2418 rfl rfl 3 rfl ?_
                          rcases ifE h with ⟨c, h⟩ | ⟨c, h⟩
                          · refine RR.c_ge (fun _ => ?_) (fun q => absurd c q)
                            refine RR.runs (pc' := 238) (lc' := [(4, .int x1), (0, .ref 500), (1, .int v1), (2, .int v2), (3, .int v3)]) (st' := [.int x1, .ref 535]) (S1 := S) (nL := 6) (cd := cd_2418) mx_2418 rfl rfl 3 rfl ?_
                            obtain ⟨g, h⟩ := gnE h
                            refine RR.gPN (c2 := (KM.1 535).1 = 1) (pc' := 239) (lc' := [(4, .int x1), (0, .ref 500), (1, .int v1), (2, .int v2), (3, .int v3)]) (st' := [.int (rI S 535 x1.toNatClampNeg)]) (S1 := S) (nL := 6) (cd := cd_2418) mx_2418 rfl rfl rfl rfl g ?_
                            refine RR.runs (pc' := 243) (lc' := [(4, .int x1), (0, .ref 500), (1, .int v1), (2, .int v2), (3, .int v3)]) (st' := [.int (rI S 535 x1.toNatClampNeg)]) (S1 := S) (nL := 6) (cd := cd_2418) mx_2418 rfl rfl 1 rfl ?_
                            refine RR.weak [(0, .ref 500), (1, .int v1), (2, .int v2), (3, .int v3), (4, .int x1)] ⟨rfl, rfl, rfl, rfl, rfl, trivial⟩ ?_
                            exact s_m_worked_243 _ (fun _ _ _ S h => ih _ _ _ S h) _ _ _ _ _ _ h
                          · refine RR.c_ge (fun q => absurd q c) (fun _ => ?_)
                            refine RR.runs (pc' := 243) (lc' := [(4, .int x1), (0, .ref 500), (1, .int v1), (2, .int v2), (3, .int v3)]) (st' := [.int (0 : Int32)]) (S1 := S) (nL := 6) (cd := cd_2418) mx_2418 rfl rfl 1 rfl ?_
                            refine RR.weak [(0, .ref 500), (1, .int v1), (2, .int v2), (3, .int v3), (4, .int x1)] ⟨rfl, rfl, rfl, rfl, rfl, trivial⟩ ?_
                            exact s_m_worked_243 _ (fun _ _ _ S h => ih _ _ _ S h) _ _ _ _ _ _ h
                        · refine RR.c_lt (fun q => absurd q c) (fun _ => ?_)
                          refine RR.runs (pc' := 243) (lc' := [(4, .int x1), (0, .ref 500), (1, .int v1), (2, .int v2), (3, .int v3)]) (st' := [.int ((x1 - (100 : Int32)))]) (S1 := S) (nL := 6) (cd := cd_2418) mx_2418 rfl rfl 4 rfl ?_
                          refine RR.weak [(0, .ref 500), (1, .int v1), (2, .int v2), (3, .int v3), (4, .int x1)] ⟨rfl, rfl, rfl, rfl, rfl, trivial⟩ ?_
                          exact s_m_worked_243 _ (fun _ _ _ S h => ih _ _ _ S h) _ _ _ _ _ _ h
    · refine RR.c_ge (fun q => absurd q c) (fun _ => ?_)
      refine RR.weak [(0, .ref 500)] ⟨rfl, trivial⟩ ?_
      exact s_m_worked_335 _ h
def m_worked (v1 : Int32) (S : St) : Re Int32 :=
  bn (m_opens (0 : Int32) S) fun r1 S2 =>
  if v1 < 0 ∨ 4 ≤ v1.toNatClampNeg then none else
  lt' ((rI S2 521 v1.toNatClampNeg) : Int32) fun x3 =>
  m_worked_14 FU v1 (0 : Int32) x3 S2
set_option maxRecDepth 100000 in
theorem s0_m_worked {d : Nat} {S' : St} {r : Int32} (v1 : Int32) (S : St) (h : m_worked v1 S = some (r, S')) : RR KM (d + 2) 2418 0 [(0, .ref 500), (1, .int v1)] [] S (some (.int r)) S' := by
  unfold m_worked at h
  refine RR.runs (pc' := 4) (lc' := [(2, .int (0 : Int32)), (0, .ref 500), (1, .int v1)]) (st' := [.int (0 : Int32), .ref 500]) (S1 := S) (nL := 6) (cd := cd_2418) mx_2418 rfl rfl 4 rfl ?_
  obtain ⟨r1, S2, h1, h⟩ := bnE h
  refine RR.callV (b := 500) (as := [.int (0 : Int32)]) (rest := []) (r1 := none) (S1 := S2) mx_2418 rfl rfl mx_2415 rfl rfl (by decide) (Or.inl rfl) (Nat.le_of_ble_eq_true rfl) (Nat.le_of_ble_eq_true rfl) (RC.deep (by omega) (s_m_opens (d := d) _ _ h1)) ?_
  show RR KM _ 2418 7 [(2, .int (0 : Int32)), (0, .ref 500), (1, .int v1)] [] S2 _ _
  refine RR.runs (pc' := 12) (lc' := [(2, .int (0 : Int32)), (0, .ref 500), (1, .int v1)]) (st' := [.int v1, .ref 521]) (S1 := S2) (nL := 6) (cd := cd_2418) mx_2418 rfl rfl 3 rfl ?_
  obtain ⟨g, h⟩ := gnE h
  refine RR.gPN (c2 := (KM.1 521).1 = 1) (pc' := 13) (lc' := [(2, .int (0 : Int32)), (0, .ref 500), (1, .int v1)]) (st' := [.int (rI S2 521 v1.toNatClampNeg)]) (S1 := S2) (nL := 6) (cd := cd_2418) mx_2418 rfl rfl rfl rfl g ?_
  refine RR.runs (pc' := 14) (lc' := [(3, .int (rI S2 521 v1.toNatClampNeg)), (2, .int (0 : Int32)), (0, .ref 500), (1, .int v1)]) (st' := []) (S1 := S2) (nL := 6) (cd := cd_2418) mx_2418 rfl rfl 1 rfl ?_
  obtain ⟨x3, ex3, h⟩ := ltE h
  rw [← ex3]
  refine RR.weak [(0, .ref 500), (1, .int v1), (2, .int (0 : Int32)), (3, .int x3)] ⟨rfl, rfl, rfl, rfl, trivial⟩ ?_
  exact s_m_worked_14 _ _ _ _ _ h
theorem s_m_worked {d : Nat} {S' : St} {r : Int32} (v1 : Int32) (S : St) (h : m_worked v1 S = some (r, S')) : RC KM (d + 2) 2418 [.ref 500, .int v1] S (some (.int r)) S' := RC.of rfl (s0_m_worked v1 S h)
