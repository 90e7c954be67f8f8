/-! Methods of the reference, lifted (laid by wip/whole/gen/model.py) -/
-- readsLaw (I)Z
def m_readsLaw (v1 : Int32) (S : St) : Re Int32 :=
  if ((2 : Int32) + v1) < 0 ∨ 4 ≤ (((2 : Int32) + v1)).toNatClampNeg then none else
  if ((2 : Int32) + v1) < 0 ∨ 4 ≤ (((2 : Int32) + v1)).toNatClampNeg then none else
  if (rI S 521 (((2 : Int32) + v1)).toNatClampNeg) < (rI S 522 (((2 : Int32) + v1)).toNatClampNeg) then (
    bn (m_fails (3 : Int32) S) fun r1 S2 =>
    if isBo r1 = true then some (r1, S2) else none)
  else (
    lt' (wI S 500 33 v1) fun S3 =>
    bn (m_nextToken S3) fun r4 S5 =>
    if ((2 : Int32) + v1) < 0 ∨ 4 ≤ (((2 : Int32) + v1)).toNatClampNeg then none else
    lt' (wI S5 521 (((2 : Int32) + v1)).toNatClampNeg (rI S5 500 32)) fun S6 =>
    bn (m_reads S6) fun r7 S8 =>
    if r7 = 0 then (
      some ((0 : Int32), S8))
    else (
      if ((2 : Int32) + v1) < 0 ∨ 4 ≤ (((2 : Int32) + v1)).toNatClampNeg then none else
      lt' (wI S8 522 (((2 : Int32) + v1)).toNatClampNeg (rI S8 500 32)) fun S9 =>
      some ((1 : Int32), S9)))
set_option maxRecDepth 100000 in
theorem s0_m_readsLaw {d : Nat} {S' : St} {r : Int32} (v1 : Int32) (S : St) (h : m_readsLaw v1 S = some (r, S')) : RR KM (d + 3) 2439 0 [(0, .ref 500), (1, .int v1)] [] S (some (.int r)) S' := by
  unfold m_readsLaw at h
  refine RR.runs (pc' := 7) (lc' := [(0, .ref 500), (1, .int v1)]) (st' := [.int (((2 : Int32) + v1)), .ref 522]) (S1 := S) (nL := 2) (cd := cd_2439) mx_2439 rfl rfl 5 rfl ?_
  obtain ⟨g, h⟩ := gnE h
  refine RR.gPN (c2 := (KM.1 522).1 = 1) (pc' := 8) (lc' := [(0, .ref 500), (1, .int v1)]) (st' := [.int ((rI S 522 (((2 : Int32) + v1)).toNatClampNeg))]) (S1 := S) (nL := 2) (cd := cd_2439) mx_2439 rfl rfl rfl rfl g ?_
  refine RR.runs (pc' := 15) (lc' := [(0, .ref 500), (1, .int v1)]) (st' := [.int (((2 : Int32) + v1)), .ref 521, .int ((rI S 522 (((2 : Int32) + v1)).toNatClampNeg))]) (S1 := S) (nL := 2) (cd := cd_2439) mx_2439 rfl rfl 5 rfl ?_
  obtain ⟨g, h⟩ := gnE h
  refine RR.gPN (c2 := (KM.1 521).1 = 1) (pc' := 16) (lc' := [(0, .ref 500), (1, .int v1)]) (st' := [.int ((rI S 521 (((2 : Int32) + v1)).toNatClampNeg)), .int ((rI S 522 (((2 : Int32) + v1)).toNatClampNeg))]) (S1 := S) (nL := 2) (cd := cd_2439) mx_2439 rfl rfl rfl rfl g ?_
  refine RR.runs (pc' := icm .le ((rI S 522 (((2 : Int32) + v1)).toNatClampNeg)) ((rI S 521 (((2 : Int32) + v1)).toNatClampNeg)) 25 19) (lc' := [(0, .ref 500), (1, .int v1)]) (st' := []) (S1 := S) (nL := 2) (cd := cd_2439) mx_2439 rfl rfl 1 rfl ?_
  rcases ifE h with ⟨c, h⟩ | ⟨c, h⟩
  · refine RR.c_le (fun _ => ?_) (fun q => absurd c q)
    refine RR.runs (pc' := 21) (lc' := [(0, .ref 500), (1, .int v1)]) (st' := [.int (3 : Int32), .ref 500]) (S1 := S) (nL := 2) (cd := cd_2439) mx_2439 rfl rfl 2 rfl ?_
    obtain ⟨r1, S2, h1, h⟩ := bnE h
    refine RR.callV (b := 500) (as := [.int (3 : Int32)]) (rest := []) (r1 := (some (.int r1))) (S1 := S2) mx_2439 rfl rfl mx_2411 rfl rfl (by decide) (Or.inl rfl) (Nat.le_of_ble_eq_true rfl) (Nat.le_of_ble_eq_true rfl) (RC.deep (by omega) (s_m_fails (d := d) _ _ h1)) ?_
    show RR KM _ 2439 24 [(0, .ref 500), (1, .int v1)] [.int r1] S2 _ _
    obtain ⟨g, h⟩ := gpE h
    cases h
    exact RR.retz mx_2439 rfl rfl rfl g
  · refine RR.c_le (fun q => absurd q c) (fun _ => ?_)
    refine RR.runs (pc' := 30) (lc' := [(0, .ref 500), (1, .int v1)]) (st' := []) (S1 := (wI S 500 33 v1)) (nL := 2) (cd := cd_2439) mx_2439 rfl rfl 3 rfl ?_
    obtain ⟨S3, eS3, h⟩ := ltE h
    rw [← eS3]
    refine RR.runs (pc' := 31) (lc' := [(0, .ref 500), (1, .int v1)]) (st' := [.ref 500]) (S1 := S3) (nL := 2) (cd := cd_2439) mx_2439 rfl rfl 1 rfl ?_
    obtain ⟨r4, S5, h1, h⟩ := bnE h
    refine RR.callV (b := 500) (as := []) (rest := []) (r1 := none) (S1 := S5) mx_2439 rfl rfl mx_2408 rfl rfl (by decide) (Or.inl rfl) (Nat.le_of_ble_eq_true rfl) (Nat.le_of_ble_eq_true rfl) (RC.deep (by omega) (s_m_nextToken (d := d) _ h1)) ?_
    show RR KM _ 2439 34 [(0, .ref 500), (1, .int v1)] [] S5 _ _
    refine RR.runs (pc' := 45) (lc' := [(0, .ref 500), (1, .int v1)]) (st' := [.int (rI S5 500 32), .int (((2 : Int32) + v1)), .ref 521]) (S1 := S5) (nL := 2) (cd := cd_2439) mx_2439 rfl rfl 7 rfl ?_
    obtain ⟨g, h⟩ := gnE h
    refine RR.gPN (c2 := (KM.1 521).1 = 1) (pc' := 46) (lc' := [(0, .ref 500), (1, .int v1)]) (st' := []) (S1 := (wI S5 521 (((2 : Int32) + v1)).toNatClampNeg (rI S5 500 32))) (nL := 2) (cd := cd_2439) mx_2439 rfl rfl rfl rfl g ?_
    obtain ⟨S6, eS6, h⟩ := ltE h
    rw [← eS6]
    refine RR.runs (pc' := 47) (lc' := [(0, .ref 500), (1, .int v1)]) (st' := [.ref 500]) (S1 := S6) (nL := 2) (cd := cd_2439) mx_2439 rfl rfl 1 rfl ?_
    obtain ⟨r7, S8, h1, h⟩ := bnE h
    refine RR.callV (b := 500) (as := []) (rest := []) (r1 := (some (.int r7))) (S1 := S8) mx_2439 rfl rfl mx_2414 rfl rfl (by decide) (Or.inl rfl) (Nat.le_of_ble_eq_true rfl) (Nat.le_of_ble_eq_true rfl) (RC.deep (by omega) (s_m_reads (d := d) _ h1)) ?_
    show RR KM _ 2439 50 [(0, .ref 500), (1, .int v1)] [.int r7] S8 _ _
    refine RR.runs (pc' := icm .ne r7 0 55 53) (lc' := [(0, .ref 500), (1, .int v1)]) (st' := []) (S1 := S8) (nL := 2) (cd := cd_2439) mx_2439 rfl rfl 1 rfl ?_
    rcases ifE h with ⟨c, h⟩ | ⟨c, h⟩
    · refine RR.c_ne (fun _ => ?_) (fun q => absurd c q)
      refine RR.runs (pc' := 54) (lc' := [(0, .ref 500), (1, .int v1)]) (st' := [.int (0 : Int32)]) (S1 := S8) (nL := 2) (cd := cd_2439) mx_2439 rfl rfl 1 rfl ?_
      cases h
      exact RR.retz mx_2439 rfl rfl rfl rfl
    · refine RR.c_ne (fun q => absurd q c) (fun _ => ?_)
      refine RR.runs (pc' := 66) (lc' := [(0, .ref 500), (1, .int v1)]) (st' := [.int (rI S8 500 32), .int (((2 : Int32) + v1)), .ref 522]) (S1 := S8) (nL := 2) (cd := cd_2439) mx_2439 rfl rfl 7 rfl ?_
      obtain ⟨g, h⟩ := gnE h
      refine RR.gPN (c2 := (KM.1 522).1 = 1) (pc' := 67) (lc' := [(0, .ref 500), (1, .int v1)]) (st' := []) (S1 := (wI S8 522 (((2 : Int32) + v1)).toNatClampNeg (rI S8 500 32))) (nL := 2) (cd := cd_2439) mx_2439 rfl rfl rfl rfl g ?_
      obtain ⟨S9, eS9, h⟩ := ltE h
      rw [← eS9]
      refine RR.runs (pc' := 68) (lc' := [(0, .ref 500), (1, .int v1)]) (st' := [.int (1 : Int32)]) (S1 := S9) (nL := 2) (cd := cd_2439) mx_2439 rfl rfl 1 rfl ?_
      cases h
      exact RR.retz mx_2439 rfl rfl rfl rfl
theorem s_m_readsLaw {d : Nat} {S' : St} {r : Int32} (v1 : Int32) (S : St) (h : m_readsLaw v1 S = some (r, S')) : RC KM (d + 3) 2439 [.ref 500, .int v1] S (some (.int r)) S' := RC.of rfl (s0_m_readsLaw v1 S h)
-- starts ()V
def m_starts (S : St) : Re Unit :=
  lt' (wI S 500 3 (rI S 500 1)) fun S1 =>
  lt' (wI S1 500 1 (0 : Int32)) fun S2 =>
  lt' (wI S2 500 4 (0 : Int32)) fun S3 =>
  bn (m_nextToken S3) fun r4 S5 =>
  some ((), S5)
set_option maxRecDepth 100000 in
theorem s0_m_starts {d : Nat} {S' : St} {r : Unit} (S : St) (h : m_starts S = some (r, S')) : RR KM (d + 2) 2440 0 [(0, .ref 500)] [] S none S' := by
  unfold m_starts at h
  refine RR.runs (pc' := 8) (lc' := [(0, .ref 500)]) (st' := []) (S1 := (wI S 500 3 (rI S 500 1))) (nL := 1) (cd := cd_2440) mx_2440 rfl rfl 4 rfl ?_
  obtain ⟨S1, eS1, h⟩ := ltE h
  rw [← eS1]
  refine RR.runs (pc' := 13) (lc' := [(0, .ref 500)]) (st' := []) (S1 := (wI S1 500 1 (0 : Int32))) (nL := 1) (cd := cd_2440) mx_2440 rfl rfl 3 rfl ?_
  obtain ⟨S2, eS2, h⟩ := ltE h
  rw [← eS2]
  refine RR.runs (pc' := 18) (lc' := [(0, .ref 500)]) (st' := []) (S1 := (wI S2 500 4 (0 : Int32))) (nL := 1) (cd := cd_2440) mx_2440 rfl rfl 3 rfl ?_
  obtain ⟨S3, eS3, h⟩ := ltE h
  rw [← eS3]
  refine RR.runs (pc' := 19) (lc' := [(0, .ref 500)]) (st' := [.ref 500]) (S1 := S3) (nL := 1) (cd := cd_2440) mx_2440 rfl rfl 1 rfl ?_
  obtain ⟨r4, S5, h1, h⟩ := bnE h
  refine RR.callV (b := 500) (as := []) (rest := []) (r1 := none) (S1 := S5) mx_2440 rfl rfl mx_2408 rfl rfl (by decide) (Or.inl rfl) (Nat.le_of_ble_eq_true rfl) (Nat.le_of_ble_eq_true rfl) (RC.deep (by omega) (s_m_nextToken (d := d) _ h1)) ?_
  show RR KM _ 2440 22 [(0, .ref 500)] [] S5 _ _
  cases h
  exact RR.retv mx_2440 rfl rfl rfl
theorem s_m_starts {d : Nat} {S' : St} {r : Unit} (S : St) (h : m_starts S = some (r, S')) : RC KM (d + 2) 2440 [.ref 500] S none S' := RC.of rfl (s0_m_starts S h)
-- readsAll ()Z
def m_readsAll_241 (S : St) : Re Int32 :=
  some ((1 : Int32), S)
set_option maxRecDepth 100000 in
theorem s_m_readsAll_241 {d : Nat} {S' : St} {r : Int32} (S : St) (h : m_readsAll_241 S = some (r, S')) : RR KM (d + 5) 2441 241 [] [] S (some (.int r)) S' := by
  unfold m_readsAll_241 at h
  refine RR.runs (pc' := 242) (lc' := []) (st' := [.int (1 : Int32)]) (S1 := S) (nL := 2) (cd := cd_2441) mx_2441 rfl rfl 1 rfl ?_
  cases h
  exact RR.retz mx_2441 rfl rfl rfl rfl
def m_readsAll_236 (S : St) : Re Int32 :=
  some ((0 : Int32), S)
set_option maxRecDepth 100000 in
theorem s_m_readsAll_236 {d : Nat} {S' : St} {r : Int32} (S : St) (h : m_readsAll_236 S = some (r, S')) : RR KM (d + 5) 2441 236 [] [] S (some (.int r)) S' := by
  unfold m_readsAll_236 at h
  refine RR.runs (pc' := 237) (lc' := []) (st' := [.int (0 : Int32)]) (S1 := S) (nL := 2) (cd := cd_2441) mx_2441 rfl rfl 1 rfl ?_
  cases h
  exact RR.retz mx_2441 rfl rfl rfl rfl
def m_readsAll_231 (k64 : St → Re Int32) (p0 : Int32) (S : St) : Re Int32 :=
  if p0 = 0 then (
    m_readsAll_236 S)
  else (
    k64 S)
set_option maxRecDepth 100000 in
theorem s_m_readsAll_231 {d : Nat} (k64 : St → Re Int32) {S' : St} {r : Int32} (b64 : ∀ (S : St), k64 S = some (r, S') → RR KM (d + 5) 2441 64 [(0, .ref 500)] [] S (some (.int r)) S') (p0 : Int32) (S : St) (h : m_readsAll_231 k64 p0 S = some (r, S')) : RR KM (d + 5) 2441 231 [(0, .ref 500)] [.int p0] S (some (.int r)) S' := by
  unfold m_readsAll_231 at h
  refine RR.runs (pc' := icm .ne p0 0 238 236) (lc' := [(1, .int p0), (0, .ref 500)]) (st' := []) (S1 := S) (nL := 2) (cd := cd_2441) mx_2441 rfl rfl 3 rfl ?_
  rcases ifE h with ⟨c, h⟩ | ⟨c, h⟩
  · refine RR.c_ne (fun _ => ?_) (fun q => absurd c q)
    refine RR.weak [] trivial ?_
    exact s_m_readsAll_236 _ h
  · refine RR.c_ne (fun q => absurd q c) (fun _ => ?_)
    refine RR.runs (pc' := 64) (lc' := [(1, .int p0), (0, .ref 500)]) (st' := []) (S1 := S) (nL := 2) (cd := cd_2441) mx_2441 rfl rfl 1 rfl ?_
    refine RR.weak [(0, .ref 500)] ⟨rfl, trivial⟩ ?_
    exact b64 _ h
def m_readsAll_64 : Nat → St → Re Int32
  | 0, _ => none
  | n + 1, S =>
  if (rI S 500 6) = 0 then (
    m_readsAll_241 S)
  else (
    bn (m_isWord (858362 : Int64) S) fun r1 S2 =>
    if r1 = 0 then (
      bn (m_isWord (410684 : Int64) S2) fun r3 S4 =>
      if r3 = 0 then (
        bn (m_isWord (8371260 : Int64) S4) fun r5 S6 =>
        if r5 = 0 then (
          bn (m_isWord (232608281 : Int64) S6) fun r7 S8 =>
          if r7 = 0 then (
            bn (m_isWord (206754213222 : Int64) S8) fun r9 S10 =>
            if r9 = 0 then (
              bn (m_isWord (315851 : Int64) S10) fun r11 S12 =>
              if r11 = 0 then (
                bn (m_isWord (40487 : Int64) S12) fun r13 S14 =>
                if r13 = 0 then (
                  bn (m_isWord (279252 : Int64) S14) fun r15 S16 =>
                  if r15 = 0 then (
                    bn (m_isWord (11720705 : Int64) S16) fun r17 S18 =>
                    if r17 = 0 then (
                      bn (m_fails (1 : Int32) S18) fun r19 S20 =>
                      m_readsAll_231 (m_readsAll_64 n) r19 S20)
                    else (
                      bn (m_readsLaw (1 : Int32) S18) fun r21 S22 =>
                      m_readsAll_231 (m_readsAll_64 n) r21 S22))
                  else (
                    bn (m_readsLaw (0 : Int32) S16) fun r23 S24 =>
                    m_readsAll_231 (m_readsAll_64 n) r23 S24))
                else (
                  bn (m_readsBann S14) fun r25 S26 =>
                  m_readsAll_231 (m_readsAll_64 n) r25 S26))
              else (
                bn (m_readsPage S12) fun r27 S28 =>
                m_readsAll_231 (m_readsAll_64 n) r27 S28))
            else (
              bn (m_readsStranger S10) fun r29 S30 =>
              m_readsAll_231 (m_readsAll_64 n) r29 S30))
          else (
            bn (m_readsPerson S8) fun r31 S32 =>
            m_readsAll_231 (m_readsAll_64 n) r31 S32))
        else (
          bn (m_readsOther S6) fun r33 S34 =>
          m_readsAll_231 (m_readsAll_64 n) r33 S34))
      else (
        bn (m_readsTwin S4) fun r35 S36 =>
        m_readsAll_231 (m_readsAll_64 n) r35 S36))
    else (
      bn (m_readsApple S2) fun r37 S38 =>
      m_readsAll_231 (m_readsAll_64 n) r37 S38))
set_option maxRecDepth 100000 in
theorem s_m_readsAll_64 {d : Nat} {S' : St} {r : Int32} : ∀ (n : Nat) (S : St), m_readsAll_64 n S = some (r, S') → RR KM (d + 5) 2441 64 [(0, .ref 500)] [] S (some (.int r)) S' := by
  intro n
  induction n with
  | zero => intro S h; simp only [m_readsAll_64] at h; cases h
  | succ n ih =>
    intro S h
    simp only [m_readsAll_64] at h
    refine RR.runs (pc' := icm .eq (rI S 500 6) 0 241 71) (lc' := [(0, .ref 500)]) (st' := []) (S1 := S) (nL := 2) (cd := cd_2441) mx_2441 rfl rfl 3 rfl ?_
    rcases ifE h with ⟨c, h⟩ | ⟨c, h⟩
    · refine RR.c_eq (fun _ => ?_) (fun q => absurd c q)
      refine RR.weak [] trivial ?_
      exact s_m_readsAll_241 _ h
    · refine RR.c_eq (fun q => absurd q c) (fun _ => ?_)
      refine RR.runs (pc' := 75) (lc' := [(0, .ref 500)]) (st' := [.long (858362 : Int64), .ref 500]) (S1 := S) (nL := 2) (cd := cd_2441) mx_2441 rfl rfl 2 rfl ?_
      obtain ⟨r1, S2, h1, h⟩ := bnE h
      refine RR.callV (b := 500) (as := [.long (858362 : Int64)]) (rest := []) (r1 := (some (.int r1))) (S1 := S2) mx_2441 rfl rfl mx_2409 rfl rfl (by decide) (Or.inl rfl) (Nat.le_of_ble_eq_true rfl) (Nat.le_of_ble_eq_true rfl) (RC.deep (by omega) (s_m_isWord (d := d) _ _ h1)) ?_
      show RR KM _ 2441 78 [(0, .ref 500)] [.int r1] S2 _ _
      refine RR.runs (pc' := icm .eq r1 0 88 81) (lc' := [(0, .ref 500)]) (st' := []) (S1 := S2) (nL := 2) (cd := cd_2441) mx_2441 rfl rfl 1 rfl ?_
      rcases ifE h with ⟨c, h⟩ | ⟨c, h⟩
      · refine RR.c_eq (fun _ => ?_) (fun q => absurd c q)
        refine RR.runs (pc' := 92) (lc' := [(0, .ref 500)]) (st' := [.long (410684 : Int64), .ref 500]) (S1 := S2) (nL := 2) (cd := cd_2441) mx_2441 rfl rfl 2 rfl ?_
        obtain ⟨r3, S4, h1, h⟩ := bnE h
        refine RR.callV (b := 500) (as := [.long (410684 : Int64)]) (rest := []) (r1 := (some (.int r3))) (S1 := S4) mx_2441 rfl rfl mx_2409 rfl rfl (by decide) (Or.inl rfl) (Nat.le_of_ble_eq_true rfl) (Nat.le_of_ble_eq_true rfl) (RC.deep (by omega) (s_m_isWord (d := d) _ _ h1)) ?_
        show RR KM _ 2441 95 [(0, .ref 500)] [.int r3] S4 _ _
        refine RR.runs (pc' := icm .eq r3 0 105 98) (lc' := [(0, .ref 500)]) (st' := []) (S1 := S4) (nL := 2) (cd := cd_2441) mx_2441 rfl rfl 1 rfl ?_
        rcases ifE h with ⟨c, h⟩ | ⟨c, h⟩
        · refine RR.c_eq (fun _ => ?_) (fun q => absurd c q)
          refine RR.runs (pc' := 109) (lc' := [(0, .ref 500)]) (st' := [.long (8371260 : Int64), .ref 500]) (S1 := S4) (nL := 2) (cd := cd_2441) mx_2441 rfl rfl 2 rfl ?_
          obtain ⟨r5, S6, h1, h⟩ := bnE h
          refine RR.callV (b := 500) (as := [.long (8371260 : Int64)]) (rest := []) (r1 := (some (.int r5))) (S1 := S6) mx_2441 rfl rfl mx_2409 rfl rfl (by decide) (Or.inl rfl) (Nat.le_of_ble_eq_true rfl) (Nat.le_of_ble_eq_true rfl) (RC.deep (by omega) (s_m_isWord (d := d) _ _ h1)) ?_
          show RR KM _ 2441 112 [(0, .ref 500)] [.int r5] S6 _ _
          refine RR.runs (pc' := icm .eq r5 0 122 115) (lc' := [(0, .ref 500)]) (st' := []) (S1 := S6) (nL := 2) (cd := cd_2441) mx_2441 rfl rfl 1 rfl ?_
          rcases ifE h with ⟨c, h⟩ | ⟨c, h⟩
          · refine RR.c_eq (fun _ => ?_) (fun q => absurd c q)
            refine RR.runs (pc' := 126) (lc' := [(0, .ref 500)]) (st' := [.long (232608281 : Int64), .ref 500]) (S1 := S6) (nL := 2) (cd := cd_2441) mx_2441 rfl rfl 2 rfl ?_
            obtain ⟨r7, S8, h1, h⟩ := bnE h
            refine RR.callV (b := 500) (as := [.long (232608281 : Int64)]) (rest := []) (r1 := (some (.int r7))) (S1 := S8) mx_2441 rfl rfl mx_2409 rfl rfl (by decide) (Or.inl rfl) (Nat.le_of_ble_eq_true rfl) (Nat.le_of_ble_eq_true rfl) (RC.deep (by omega) (s_m_isWord (d := d) _ _ h1)) ?_
            show RR KM _ 2441 129 [(0, .ref 500)] [.int r7] S8 _ _
            refine RR.runs (pc' := icm .eq r7 0 139 132) (lc' := [(0, .ref 500)]) (st' := []) (S1 := S8) (nL := 2) (cd := cd_2441) mx_2441 rfl rfl 1 rfl ?_
            rcases ifE h with ⟨c, h⟩ | ⟨c, h⟩
            · refine RR.c_eq (fun _ => ?_) (fun q => absurd c q)
              refine RR.runs (pc' := 143) (lc' := [(0, .ref 500)]) (st' := [.long (206754213222 : Int64), .ref 500]) (S1 := S8) (nL := 2) (cd := cd_2441) mx_2441 rfl rfl 2 rfl ?_
              obtain ⟨r9, S10, h1, h⟩ := bnE h
              refine RR.callV (b := 500) (as := [.long (206754213222 : Int64)]) (rest := []) (r1 := (some (.int r9))) (S1 := S10) mx_2441 rfl rfl mx_2409 rfl rfl (by decide) (Or.inl rfl) (Nat.le_of_ble_eq_true rfl) (Nat.le_of_ble_eq_true rfl) (RC.deep (by omega) (s_m_isWord (d := d) _ _ h1)) ?_
              show RR KM _ 2441 146 [(0, .ref 500)] [.int r9] S10 _ _
              refine RR.runs (pc' := icm .eq r9 0 156 149) (lc' := [(0, .ref 500)]) (st' := []) (S1 := S10) (nL := 2) (cd := cd_2441) mx_2441 rfl rfl 1 rfl ?_
              rcases ifE h with ⟨c, h⟩ | ⟨c, h⟩
              · refine RR.c_eq (fun _ => ?_) (fun q => absurd c q)
                refine RR.runs (pc' := 160) (lc' := [(0, .ref 500)]) (st' := [.long (315851 : Int64), .ref 500]) (S1 := S10) (nL := 2) (cd := cd_2441) mx_2441 rfl rfl 2 rfl ?_
                obtain ⟨r11, S12, h1, h⟩ := bnE h
                refine RR.callV (b := 500) (as := [.long (315851 : Int64)]) (rest := []) (r1 := (some (.int r11))) (S1 := S12) mx_2441 rfl rfl mx_2409 rfl rfl (by decide) (Or.inl rfl) (Nat.le_of_ble_eq_true rfl) (Nat.le_of_ble_eq_true rfl) (RC.deep (by omega) (s_m_isWord (d := d) _ _ h1)) ?_
                show RR KM _ 2441 163 [(0, .ref 500)] [.int r11] S12 _ _
                refine RR.runs (pc' := icm .eq r11 0 173 166) (lc' := [(0, .ref 500)]) (st' := []) (S1 := S12) (nL := 2) (cd := cd_2441) mx_2441 rfl rfl 1 rfl ?_
                rcases ifE h with ⟨c, h⟩ | ⟨c, h⟩
                · refine RR.c_eq (fun _ => ?_) (fun q => absurd c q)
                  refine RR.runs (pc' := 177) (lc' := [(0, .ref 500)]) (st' := [.long (40487 : Int64), .ref 500]) (S1 := S12) (nL := 2) (cd := cd_2441) mx_2441 rfl rfl 2 rfl ?_
                  obtain ⟨r13, S14, h1, h⟩ := bnE h
                  refine RR.callV (b := 500) (as := [.long (40487 : Int64)]) (rest := []) (r1 := (some (.int r13))) (S1 := S14) mx_2441 rfl rfl mx_2409 rfl rfl (by decide) (Or.inl rfl) (Nat.le_of_ble_eq_true rfl) (Nat.le_of_ble_eq_true rfl) (RC.deep (by omega) (s_m_isWord (d := d) _ _ h1)) ?_
                  show RR KM _ 2441 180 [(0, .ref 500)] [.int r13] S14 _ _
                  refine RR.runs (pc' := icm .eq r13 0 190 183) (lc' := [(0, .ref 500)]) (st' := []) (S1 := S14) (nL := 2) (cd := cd_2441) mx_2441 rfl rfl 1 rfl ?_
                  rcases ifE h with ⟨c, h⟩ | ⟨c, h⟩
                  · refine RR.c_eq (fun _ => ?_) (fun q => absurd c q)
                    refine RR.runs (pc' := 194) (lc' := [(0, .ref 500)]) (st' := [.long (279252 : Int64), .ref 500]) (S1 := S14) (nL := 2) (cd := cd_2441) mx_2441 rfl rfl 2 rfl ?_
                    obtain ⟨r15, S16, h1, h⟩ := bnE h
                    refine RR.callV (b := 500) (as := [.long (279252 : Int64)]) (rest := []) (r1 := (some (.int r15))) (S1 := S16) mx_2441 rfl rfl mx_2409 rfl rfl (by decide) (Or.inl rfl) (Nat.le_of_ble_eq_true rfl) (Nat.le_of_ble_eq_true rfl) (RC.deep (by omega) (s_m_isWord (d := d) _ _ h1)) ?_
                    show RR KM _ 2441 197 [(0, .ref 500)] [.int r15] S16 _ _
                    refine RR.runs (pc' := icm .eq r15 0 208 200) (lc' := [(0, .ref 500)]) (st' := []) (S1 := S16) (nL := 2) (cd := cd_2441) mx_2441 rfl rfl 1 rfl ?_
                    rcases ifE h with ⟨c, h⟩ | ⟨c, h⟩
                    · refine RR.c_eq (fun _ => ?_) (fun q => absurd c q)
                      refine RR.runs (pc' := 212) (lc' := [(0, .ref 500)]) (st' := [.long (11720705 : Int64), .ref 500]) (S1 := S16) (nL := 2) (cd := cd_2441) mx_2441 rfl rfl 2 rfl ?_
                      obtain ⟨r17, S18, h1, h⟩ := bnE h
                      refine RR.callV (b := 500) (as := [.long (11720705 : Int64)]) (rest := []) (r1 := (some (.int r17))) (S1 := S18) mx_2441 rfl rfl mx_2409 rfl rfl (by decide) (Or.inl rfl) (Nat.le_of_ble_eq_true rfl) (Nat.le_of_ble_eq_true rfl) (RC.deep (by omega) (s_m_isWord (d := d) _ _ h1)) ?_
                      show RR KM _ 2441 215 [(0, .ref 500)] [.int r17] S18 _ _
                      refine RR.runs (pc' := icm .eq r17 0 226 218) (lc' := [(0, .ref 500)]) (st' := []) (S1 := S18) (nL := 2) (cd := cd_2441) mx_2441 rfl rfl 1 rfl ?_
                      rcases ifE h with ⟨c, h⟩ | ⟨c, h⟩
                      · refine RR.c_eq (fun _ => ?_) (fun q => absurd c q)
                        refine RR.runs (pc' := 228) (lc' := [(0, .ref 500)]) (st' := [.int (1 : Int32), .ref 500]) (S1 := S18) (nL := 2) (cd := cd_2441) mx_2441 rfl rfl 2 rfl ?_
                        obtain ⟨r19, S20, h1, h⟩ := bnE h
                        refine RR.callV (b := 500) (as := [.int (1 : Int32)]) (rest := []) (r1 := (some (.int r19))) (S1 := S20) mx_2441 rfl rfl mx_2411 rfl rfl (by decide) (Or.inl rfl) (Nat.le_of_ble_eq_true rfl) (Nat.le_of_ble_eq_true rfl) (RC.deep (by omega) (s_m_fails (d := d) _ _ h1)) ?_
                        show RR KM _ 2441 231 [(0, .ref 500)] [.int r19] S20 _ _
                        refine RR.weak [(0, .ref 500)] ⟨rfl, trivial⟩ ?_
                        exact s_m_readsAll_231 _ (fun S h => ih S h) _ _ h
                      · refine RR.c_eq (fun q => absurd q c) (fun _ => ?_)
                        refine RR.runs (pc' := 220) (lc' := [(0, .ref 500)]) (st' := [.int (1 : Int32), .ref 500]) (S1 := S18) (nL := 2) (cd := cd_2441) mx_2441 rfl rfl 2 rfl ?_
                        obtain ⟨r21, S22, h1, h⟩ := bnE h
                        refine RR.callV (b := 500) (as := [.int (1 : Int32)]) (rest := []) (r1 := (some (.int r21))) (S1 := S22) mx_2441 rfl rfl mx_2439 rfl rfl (by decide) (Or.inl rfl) (Nat.le_of_ble_eq_true rfl) (Nat.le_of_ble_eq_true rfl) (RC.deep (by omega) (s_m_readsLaw (d := d) _ _ h1)) ?_
                        show RR KM _ 2441 223 [(0, .ref 500)] [.int r21] S22 _ _
                        refine RR.runs (pc' := 231) (lc' := [(0, .ref 500)]) (st' := [.int r21]) (S1 := S22) (nL := 2) (cd := cd_2441) mx_2441 rfl rfl 1 rfl ?_
                        refine RR.weak [(0, .ref 500)] ⟨rfl, trivial⟩ ?_
                        exact s_m_readsAll_231 _ (fun S h => ih S h) _ _ h
                    · refine RR.c_eq (fun q => absurd q c) (fun _ => ?_)
                      refine RR.runs (pc' := 202) (lc' := [(0, .ref 500)]) (st' := [.int (0 : Int32), .ref 500]) (S1 := S16) (nL := 2) (cd := cd_2441) mx_2441 rfl rfl 2 rfl ?_
                      obtain ⟨r23, S24, h1, h⟩ := bnE h
                      refine RR.callV (b := 500) (as := [.int (0 : Int32)]) (rest := []) (r1 := (some (.int r23))) (S1 := S24) mx_2441 rfl rfl mx_2439 rfl rfl (by decide) (Or.inl rfl) (Nat.le_of_ble_eq_true rfl) (Nat.le_of_ble_eq_true rfl) (RC.deep (by omega) (s_m_readsLaw (d := d) _ _ h1)) ?_
                      show RR KM _ 2441 205 [(0, .ref 500)] [.int r23] S24 _ _
                      refine RR.runs (pc' := 231) (lc' := [(0, .ref 500)]) (st' := [.int r23]) (S1 := S24) (nL := 2) (cd := cd_2441) mx_2441 rfl rfl 1 rfl ?_
                      refine RR.weak [(0, .ref 500)] ⟨rfl, trivial⟩ ?_
                      exact s_m_readsAll_231 _ (fun S h => ih S h) _ _ h
                  · refine RR.c_eq (fun q => absurd q c) (fun _ => ?_)
                    refine RR.runs (pc' := 184) (lc' := [(0, .ref 500)]) (st' := [.ref 500]) (S1 := S14) (nL := 2) (cd := cd_2441) mx_2441 rfl rfl 1 rfl ?_
                    obtain ⟨r25, S26, h1, h⟩ := bnE h
                    refine RR.callV (b := 500) (as := []) (rest := []) (r1 := (some (.int r25))) (S1 := S26) mx_2441 rfl rfl mx_2438 rfl rfl (by decide) (Or.inl rfl) (Nat.le_of_ble_eq_true rfl) (Nat.le_of_ble_eq_true rfl) (RC.deep (by omega) (s_m_readsBann (d := d) _ h1)) ?_
                    show RR KM _ 2441 187 [(0, .ref 500)] [.int r25] S26 _ _
                    refine RR.runs (pc' := 231) (lc' := [(0, .ref 500)]) (st' := [.int r25]) (S1 := S26) (nL := 2) (cd := cd_2441) mx_2441 rfl rfl 1 rfl ?_
                    refine RR.weak [(0, .ref 500)] ⟨rfl, trivial⟩ ?_
                    exact s_m_readsAll_231 _ (fun S h => ih S h) _ _ h
                · refine RR.c_eq (fun q => absurd q c) (fun _ => ?_)
                  refine RR.runs (pc' := 167) (lc' := [(0, .ref 500)]) (st' := [.ref 500]) (S1 := S12) (nL := 2) (cd := cd_2441) mx_2441 rfl rfl 1 rfl ?_
                  obtain ⟨r27, S28, h1, h⟩ := bnE h
                  refine RR.callV (b := 500) (as := []) (rest := []) (r1 := (some (.int r27))) (S1 := S28) mx_2441 rfl rfl mx_2437 rfl rfl (by decide) (Or.inl rfl) (Nat.le_of_ble_eq_true rfl) (Nat.le_of_ble_eq_true rfl) (RC.deep (by omega) (s_m_readsPage (d := d) _ h1)) ?_
                  show RR KM _ 2441 170 [(0, .ref 500)] [.int r27] S28 _ _
                  refine RR.runs (pc' := 231) (lc' := [(0, .ref 500)]) (st' := [.int r27]) (S1 := S28) (nL := 2) (cd := cd_2441) mx_2441 rfl rfl 1 rfl ?_
                  refine RR.weak [(0, .ref 500)] ⟨rfl, trivial⟩ ?_
                  exact s_m_readsAll_231 _ (fun S h => ih S h) _ _ h
              · refine RR.c_eq (fun q => absurd q c) (fun _ => ?_)
                refine RR.runs (pc' := 150) (lc' := [(0, .ref 500)]) (st' := [.ref 500]) (S1 := S10) (nL := 2) (cd := cd_2441) mx_2441 rfl rfl 1 rfl ?_
                obtain ⟨r29, S30, h1, h⟩ := bnE h
                refine RR.callV (b := 500) (as := []) (rest := []) (r1 := (some (.int r29))) (S1 := S30) mx_2441 rfl rfl mx_2436 rfl rfl (by decide) (Or.inl rfl) (Nat.le_of_ble_eq_true rfl) (Nat.le_of_ble_eq_true rfl) (RC.deep (by omega) (s_m_readsStranger (d := d) _ h1)) ?_
                show RR KM _ 2441 153 [(0, .ref 500)] [.int r29] S30 _ _
                refine RR.runs (pc' := 231) (lc' := [(0, .ref 500)]) (st' := [.int r29]) (S1 := S30) (nL := 2) (cd := cd_2441) mx_2441 rfl rfl 1 rfl ?_
                refine RR.weak [(0, .ref 500)] ⟨rfl, trivial⟩ ?_
                exact s_m_readsAll_231 _ (fun S h => ih S h) _ _ h
            · refine RR.c_eq (fun q => absurd q c) (fun _ => ?_)
              refine RR.runs (pc' := 133) (lc' := [(0, .ref 500)]) (st' := [.ref 500]) (S1 := S8) (nL := 2) (cd := cd_2441) mx_2441 rfl rfl 1 rfl ?_
              obtain ⟨r31, S32, h1, h⟩ := bnE h
              refine RR.callV (b := 500) (as := []) (rest := []) (r1 := (some (.int r31))) (S1 := S32) mx_2441 rfl rfl mx_2435 rfl rfl (by decide) (Or.inl rfl) (Nat.le_of_ble_eq_true rfl) (Nat.le_of_ble_eq_true rfl) (RC.deep (by omega) (s_m_readsPerson (d := d) _ h1)) ?_
              show RR KM _ 2441 136 [(0, .ref 500)] [.int r31] S32 _ _
              refine RR.runs (pc' := 231) (lc' := [(0, .ref 500)]) (st' := [.int r31]) (S1 := S32) (nL := 2) (cd := cd_2441) mx_2441 rfl rfl 1 rfl ?_
              refine RR.weak [(0, .ref 500)] ⟨rfl, trivial⟩ ?_
              exact s_m_readsAll_231 _ (fun S h => ih S h) _ _ h
          · refine RR.c_eq (fun q => absurd q c) (fun _ => ?_)
            refine RR.runs (pc' := 116) (lc' := [(0, .ref 500)]) (st' := [.ref 500]) (S1 := S6) (nL := 2) (cd := cd_2441) mx_2441 rfl rfl 1 rfl ?_
            obtain ⟨r33, S34, h1, h⟩ := bnE h
            refine RR.callV (b := 500) (as := []) (rest := []) (r1 := (some (.int r33))) (S1 := S34) mx_2441 rfl rfl mx_2433 rfl rfl (by decide) (Or.inl rfl) (Nat.le_of_ble_eq_true rfl) (Nat.le_of_ble_eq_true rfl) (RC.deep (by omega) (s_m_readsOther (d := d) _ h1)) ?_
            show RR KM _ 2441 119 [(0, .ref 500)] [.int r33] S34 _ _
            refine RR.runs (pc' := 231) (lc' := [(0, .ref 500)]) (st' := [.int r33]) (S1 := S34) (nL := 2) (cd := cd_2441) mx_2441 rfl rfl 1 rfl ?_
            refine RR.weak [(0, .ref 500)] ⟨rfl, trivial⟩ ?_
            exact s_m_readsAll_231 _ (fun S h => ih S h) _ _ h
        · refine RR.c_eq (fun q => absurd q c) (fun _ => ?_)
          refine RR.runs (pc' := 99) (lc' := [(0, .ref 500)]) (st' := [.ref 500]) (S1 := S4) (nL := 2) (cd := cd_2441) mx_2441 rfl rfl 1 rfl ?_
          obtain ⟨r35, S36, h1, h⟩ := bnE h
          refine RR.callV (b := 500) (as := []) (rest := []) (r1 := (some (.int r35))) (S1 := S36) mx_2441 rfl rfl mx_2432 rfl rfl (by decide) (Or.inl rfl) (Nat.le_of_ble_eq_true rfl) (Nat.le_of_ble_eq_true rfl) (RC.deep (by omega) (s_m_readsTwin (d := d) _ h1)) ?_
          show RR KM _ 2441 102 [(0, .ref 500)] [.int r35] S36 _ _
          refine RR.runs (pc' := 231) (lc' := [(0, .ref 500)]) (st' := [.int r35]) (S1 := S36) (nL := 2) (cd := cd_2441) mx_2441 rfl rfl 1 rfl ?_
          refine RR.weak [(0, .ref 500)] ⟨rfl, trivial⟩ ?_
          exact s_m_readsAll_231 _ (fun S h => ih S h) _ _ h
      · refine RR.c_eq (fun q => absurd q c) (fun _ => ?_)
        refine RR.runs (pc' := 82) (lc' := [(0, .ref 500)]) (st' := [.ref 500]) (S1 := S2) (nL := 2) (cd := cd_2441) mx_2441 rfl rfl 1 rfl ?_
        obtain ⟨r37, S38, h1, h⟩ := bnE h
        refine RR.callV (b := 500) (as := []) (rest := []) (r1 := (some (.int r37))) (S1 := S38) mx_2441 rfl rfl mx_2431 rfl rfl (by decide) (Or.inl rfl) (Nat.le_of_ble_eq_true rfl) (Nat.le_of_ble_eq_true rfl) (RC.deep (by omega) (s_m_readsApple (d := d) _ h1)) ?_
        show RR KM _ 2441 85 [(0, .ref 500)] [.int r37] S38 _ _
        refine RR.runs (pc' := 231) (lc' := [(0, .ref 500)]) (st' := [.int r37]) (S1 := S38) (nL := 2) (cd := cd_2441) mx_2441 rfl rfl 1 rfl ?_
        refine RR.weak [(0, .ref 500)] ⟨rfl, trivial⟩ ?_
        exact s_m_readsAll_231 _ (fun S h => ih S h) _ _ h
def m_readsAll_53 (S : St) : Re Int32 :=
  lt' (wI S 500 32 (1000 : Int32)) fun S1 =>
  bn (m_starts S1) fun r2 S3 =>
  m_readsAll_64 FU S3
set_option maxRecDepth 100000 in
theorem s_m_readsAll_53 {d : Nat} {S' : St} {r : Int32} (S : St) (h : m_readsAll_53 S = some (r, S')) : RR KM (d + 5) 2441 53 [(0, .ref 500)] [] S (some (.int r)) S' := by
  unfold m_readsAll_53 at h
  refine RR.runs (pc' := 60) (lc' := [(0, .ref 500)]) (st' := []) (S1 := (wI S 500 32 (1000 : Int32))) (nL := 2) (cd := cd_2441) mx_2441 rfl rfl 3 rfl ?_
  obtain ⟨S1, eS1, h⟩ := ltE h
  rw [← eS1]
  refine RR.runs (pc' := 61) (lc' := [(0, .ref 500)]) (st' := [.ref 500]) (S1 := S1) (nL := 2) (cd := cd_2441) mx_2441 rfl rfl 1 rfl ?_
  obtain ⟨r2, S3, h1, h⟩ := bnE h
  refine RR.callV (b := 500) (as := []) (rest := []) (r1 := none) (S1 := S3) mx_2441 rfl rfl mx_2440 rfl rfl (by decide) (Or.inl rfl) (Nat.le_of_ble_eq_true rfl) (Nat.le_of_ble_eq_true rfl) (RC.deep (by omega) (s_m_starts (d := d) _ h1)) ?_
  show RR KM _ 2441 64 [(0, .ref 500)] [] S3 _ _
  refine RR.weak [(0, .ref 500)] ⟨rfl, trivial⟩ ?_
  exact s_m_readsAll_64 _ _ h
def m_readsAll_24 : Nat → Int32 → St → Re Int32
  | 0, _, _ => none
  | n + 1, v1, S =>
  if v1 < (4 : Int32) then (
    if v1 < 0 ∨ 4 ≤ v1.toNatClampNeg then none else
    lt' (wI S 521 v1.toNatClampNeg (1000 : Int32)) fun S1 =>
    if v1 < 0 ∨ 4 ≤ v1.toNatClampNeg then none else
    lt' (wI S1 522 v1.toNatClampNeg (1000 : Int32)) fun S2 =>
    lt' ((v1 + (1 : Int32)) : Int32) fun x3 =>
    m_readsAll_24 n x3 S2)
  else (
    m_readsAll_53 S)
set_option maxRecDepth 100000 in
theorem s_m_readsAll_24 {d : Nat} {S' : St} {r : Int32} : ∀ (n : Nat) (v1 : Int32) (S : St), m_readsAll_24 n v1 S = some (r, S') → RR KM (d + 5) 2441 24 [(0, .ref 500), (1, .int v1)] [] S (some (.int r)) S' := by
  intro n
  induction n with
  | zero => intro v1 S h; simp only [m_readsAll_24] at h; cases h
  | succ n ih =>
    intro v1 S h
    simp only [m_readsAll_24] at h
    refine RR.runs (pc' := icm .ge v1 (4 : Int32) 53 29) (lc' := [(0, .ref 500), (1, .int v1)]) (st' := []) (S1 := S) (nL := 2) (cd := cd_2441) mx_2441 rfl rfl 3 rfl ?_
    rcases ifE h with ⟨c, h⟩ | ⟨c, h⟩
    · refine RR.c_ge (fun _ => ?_) (fun q => absurd c q)
      refine RR.runs (pc' := 37) (lc' := [(0, .ref 500), (1, .int v1)]) (st' := [.int (1000 : Int32), .int v1, .ref 521]) (S1 := S) (nL := 2) (cd := cd_2441) mx_2441 rfl rfl 4 rfl ?_
      obtain ⟨g, h⟩ := gnE h
      refine RR.gPN (c2 := (KM.1 521).1 = 1) (pc' := 38) (lc' := [(0, .ref 500), (1, .int v1)]) (st' := []) (S1 := (wI S 521 v1.toNatClampNeg (1000 : Int32))) (nL := 2) (cd := cd_2441) mx_2441 rfl rfl rfl rfl g ?_
      obtain ⟨S1, eS1, h⟩ := ltE h
      rw [← eS1]
      refine RR.runs (pc' := 46) (lc' := [(0, .ref 500), (1, .int v1)]) (st' := [.int (1000 : Int32), .int v1, .ref 522]) (S1 := S1) (nL := 2) (cd := cd_2441) mx_2441 rfl rfl 4 rfl ?_
      obtain ⟨g, h⟩ := gnE h
      refine RR.gPN (c2 := (KM.1 522).1 = 1) (pc' := 47) (lc' := [(0, .ref 500), (1, .int v1)]) (st' := []) (S1 := (wI S1 522 v1.toNatClampNeg (1000 : Int32))) (nL := 2) (cd := cd_2441) mx_2441 rfl rfl rfl rfl g ?_
      obtain ⟨S2, eS2, h⟩ := ltE h
      rw [← eS2]
      refine RR.runs (pc' := 50) (lc' := [(1, .int ((v1 + (1 : Int32)))), (0, .ref 500)]) (st' := []) (S1 := S2) (nL := 2) (cd := cd_2441) mx_2441 rfl rfl 1 rfl ?_
      obtain ⟨x3, ex3, h⟩ := ltE h
      rw [← ex3]
      refine RR.runs (pc' := 24) (lc' := [(1, .int x3), (0, .ref 500)]) (st' := []) (S1 := S2) (nL := 2) (cd := cd_2441) mx_2441 rfl rfl 1 rfl ?_
      refine RR.weak [(0, .ref 500), (1, .int x3)] ⟨rfl, rfl, trivial⟩ ?_
      exact ih _ _ h
    · refine RR.c_ge (fun q => absurd q c) (fun _ => ?_)
      refine RR.weak [(0, .ref 500)] ⟨rfl, trivial⟩ ?_
      exact s_m_readsAll_53 _ h
def m_readsAll_22 (S : St) : Re Int32 :=
  m_readsAll_24 FU (2 : Int32) S
set_option maxRecDepth 100000 in
theorem s_m_readsAll_22 {d : Nat} {S' : St} {r : Int32} (S : St) (h : m_readsAll_22 S = some (r, S')) : RR KM (d + 5) 2441 22 [(0, .ref 500)] [] S (some (.int r)) S' := by
  unfold m_readsAll_22 at h
  refine RR.runs (pc' := 24) (lc' := [(1, .int (2 : Int32)), (0, .ref 500)]) (st' := []) (S1 := S) (nL := 2) (cd := cd_2441) mx_2441 rfl rfl 2 rfl ?_
  refine RR.weak [(0, .ref 500), (1, .int (2 : Int32))] ⟨rfl, rfl, trivial⟩ ?_
  exact s_m_readsAll_24 _ _ _ h
def m_readsAll_3 : Nat → Int32 → St → Re Int32
  | 0, _, _ => none
  | n + 1, v1, S =>
  if v1 < (12 : Int32) then (
    if v1 < 0 ∨ 12 ≤ v1.toNatClampNeg then none else
    lt' (wI S 502 v1.toNatClampNeg (0 : Int32)) fun S1 =>
    lt' ((v1 + (1 : Int32)) : Int32) fun x2 =>
    m_readsAll_3 n x2 S1)
  else (
    m_readsAll_22 S)
set_option maxRecDepth 100000 in
theorem s_m_readsAll_3 {d : Nat} {S' : St} {r : Int32} : ∀ (n : Nat) (v1 : Int32) (S : St), m_readsAll_3 n v1 S = some (r, S') → RR KM (d + 5) 2441 3 [(0, .ref 500), (1, .int v1)] [] S (some (.int r)) S' := by
  intro n
  induction n with
  | zero => intro v1 S h; simp only [m_readsAll_3] at h; cases h
  | succ n ih =>
    intro v1 S h
    simp only [m_readsAll_3] at h
    refine RR.runs (pc' := icm .ge v1 (12 : Int32) 22 9) (lc' := [(0, .ref 500), (1, .int v1)]) (st' := []) (S1 := S) (nL := 2) (cd := cd_2441) mx_2441 rfl rfl 3 rfl ?_
    rcases ifE h with ⟨c, h⟩ | ⟨c, h⟩
    · refine RR.c_ge (fun _ => ?_) (fun q => absurd c q)
      refine RR.runs (pc' := 15) (lc' := [(0, .ref 500), (1, .int v1)]) (st' := [.int (0 : Int32), .int v1, .ref 502]) (S1 := S) (nL := 2) (cd := cd_2441) mx_2441 rfl rfl 4 rfl ?_
      obtain ⟨g, h⟩ := gnE h
      refine RR.gPN (c2 := (KM.1 502).1 = 1) (pc' := 16) (lc' := [(0, .ref 500), (1, .int v1)]) (st' := []) (S1 := (wI S 502 v1.toNatClampNeg (0 : Int32))) (nL := 2) (cd := cd_2441) mx_2441 rfl rfl rfl rfl g ?_
      obtain ⟨S1, eS1, h⟩ := ltE h
      rw [← eS1]
      refine RR.runs (pc' := 19) (lc' := [(1, .int ((v1 + (1 : Int32)))), (0, .ref 500)]) (st' := []) (S1 := S1) (nL := 2) (cd := cd_2441) mx_2441 rfl rfl 1 rfl ?_
      obtain ⟨x2, ex2, h⟩ := ltE h
      rw [← ex2]
      refine RR.runs (pc' := 3) (lc' := [(1, .int x2), (0, .ref 500)]) (st' := []) (S1 := S1) (nL := 2) (cd := cd_2441) mx_2441 rfl rfl 1 rfl ?_
      refine RR.weak [(0, .ref 500), (1, .int x2)] ⟨rfl, rfl, trivial⟩ ?_
      exact ih _ _ h
    · refine RR.c_ge (fun q => absurd q c) (fun _ => ?_)
      refine RR.weak [(0, .ref 500)] ⟨rfl, trivial⟩ ?_
      exact s_m_readsAll_22 _ h
def m_readsAll (S : St) : Re Int32 :=
  m_readsAll_3 FU (6 : Int32) S
set_option maxRecDepth 100000 in
theorem s0_m_readsAll {d : Nat} {S' : St} {r : Int32} (S : St) (h : m_readsAll S = some (r, S')) : RR KM (d + 5) 2441 0 [(0, .ref 500)] [] S (some (.int r)) S' := by
  unfold m_readsAll at h
  refine RR.runs (pc' := 3) (lc' := [(1, .int (6 : Int32)), (0, .ref 500)]) (st' := []) (S1 := S) (nL := 2) (cd := cd_2441) mx_2441 rfl rfl 2 rfl ?_
  refine RR.weak [(0, .ref 500), (1, .int (6 : Int32))] ⟨rfl, rfl, trivial⟩ ?_
  exact s_m_readsAll_3 _ _ _ h
theorem s_m_readsAll {d : Nat} {S' : St} {r : Int32} (S : St) (h : m_readsAll S = some (r, S')) : RC KM (d + 5) 2441 [.ref 500] S (some (.int r)) S' := RC.of rfl (s0_m_readsAll S h)
-- moves ([II)V
def m_moves_21 (S : St) : Re Unit :=
  some ((), S)
set_option maxRecDepth 100000 in
theorem s_m_moves_21 {d : Nat} {S' : St} {r : Unit} (S : St) (h : m_moves_21 S = some (r, S')) : RR KM (d + 0) 2442 21 [] [] S none S' := by
  unfold m_moves_21 at h
  cases h
  exact RR.retv mx_2442 rfl rfl rfl
def m_moves_2 : Nat → Nat → Int32 → Int32 → St → Re Unit
  | 0, _, _, _, _ => none
  | n + 1, v0, v1, v2, S =>
  if v2 < v1 then (
    if (KM.1 v0).1 = 1 then (
    if (v1 + v2) < 0 ∨ (KM.1 v0).2 ≤ (v1 + v2).toNatClampNeg then none else
    if (KM.1 v0).1 = 1 then (
    if v2 < 0 ∨ (KM.1 v0).2 ≤ v2.toNatClampNeg then none else
    lt' (wI S v0 v2.toNatClampNeg ((rI S v0 (v1 + v2).toNatClampNeg))) fun S1 =>
    lt' ((v2 + (1 : Int32)) : Int32) fun x2 =>
    m_moves_2 n v0 v1 x2 S1) else none) else none)
  else (
    m_moves_21 S)
set_option maxRecDepth 100000 in
theorem s_m_moves_2 {d : Nat} {S' : St} {r : Unit} : ∀ (n : Nat) (v0 : Nat) (v1 : Int32) (v2 : Int32) (S : St), m_moves_2 n v0 v1 v2 S = some (r, S') → RR KM (d + 0) 2442 2 [(0, .ref v0), (1, .int v1), (2, .int v2)] [] S none S' := by
  intro n
  induction n with
  | zero => intro v0 v1 v2 S h; simp only [m_moves_2] at h; cases h
  | succ n ih =>
    intro v0 v1 v2 S h
    simp only [m_moves_2] at h
    refine RR.runs (pc' := icm .ge v2 v1 21 7) (lc' := [(0, .ref v0), (1, .int v1), (2, .int v2)]) (st' := []) (S1 := S) (nL := 3) (cd := cd_2442) mx_2442 rfl rfl 3 rfl ?_
    rcases ifE h with ⟨c, h⟩ | ⟨c, h⟩
    · refine RR.c_ge (fun _ => ?_) (fun q => absurd c q)
      refine RR.runs (pc' := 13) (lc' := [(0, .ref v0), (1, .int v1), (2, .int v2)]) (st' := [.int (v1 + v2), .ref v0, .int v2, .ref v0]) (S1 := S) (nL := 3) (cd := cd_2442) mx_2442 rfl rfl 6 rfl ?_
      obtain ⟨gq, h⟩ := gpE h
      obtain ⟨g, h⟩ := gnE h
      refine RR.gPNo (c2 := (KM.1 v0).1 = 1) (pc' := 14) (lc' := [(0, .ref v0), (1, .int v1), (2, .int v2)]) (st' := [.int ((rI S v0 (v1 + v2).toNatClampNeg)), .int v2, .ref v0]) (S1 := S) (nL := 3) (cd := cd_2442) mx_2442 rfl rfl rfl gq g ?_
      obtain ⟨gq, h⟩ := gpE h
      obtain ⟨g, h⟩ := gnE h
      refine RR.gPNo (c2 := (KM.1 v0).1 = 1) (pc' := 15) (lc' := [(0, .ref v0), (1, .int v1), (2, .int v2)]) (st' := []) (S1 := (wI S v0 v2.toNatClampNeg ((rI S v0 (v1 + v2).toNatClampNeg)))) (nL := 3) (cd := cd_2442) mx_2442 rfl rfl rfl gq g ?_
      obtain ⟨S1, eS1, h⟩ := ltE h
      rw [← eS1]
      refine RR.runs (pc' := 18) (lc' := [(2, .int ((v2 + (1 : Int32)))), (0, .ref v0), (1, .int v1)]) (st' := []) (S1 := S1) (nL := 3) (cd := cd_2442) mx_2442 rfl rfl 1 rfl ?_
      obtain ⟨x2, ex2, h⟩ := ltE h
      rw [← ex2]
      refine RR.runs (pc' := 2) (lc' := [(2, .int x2), (0, .ref v0), (1, .int v1)]) (st' := []) (S1 := S1) (nL := 3) (cd := cd_2442) mx_2442 rfl rfl 1 rfl ?_
      refine RR.weak [(0, .ref v0), (1, .int v1), (2, .int x2)] ⟨rfl, rfl, rfl, trivial⟩ ?_
      exact ih _ _ _ _ h
    · refine RR.c_ge (fun q => absurd q c) (fun _ => ?_)
      refine RR.weak [] trivial ?_
      exact s_m_moves_21 _ h
def m_moves (v0 : Nat) (v1 : Int32) (S : St) : Re Unit :=
  m_moves_2 FU v0 v1 (0 : Int32) S
set_option maxRecDepth 100000 in
theorem s0_m_moves {d : Nat} {S' : St} {r : Unit} (v0 : Nat) (v1 : Int32) (S : St) (h : m_moves v0 v1 S = some (r, S')) : RR KM (d + 0) 2442 0 [(0, .ref v0), (1, .int v1)] [] S none S' := by
  unfold m_moves at h
  refine RR.runs (pc' := 2) (lc' := [(2, .int (0 : Int32)), (0, .ref v0), (1, .int v1)]) (st' := []) (S1 := S) (nL := 3) (cd := cd_2442) mx_2442 rfl rfl 2 rfl ?_
  refine RR.weak [(0, .ref v0), (1, .int v1), (2, .int (0 : Int32))] ⟨rfl, rfl, rfl, trivial⟩ ?_
  exact s_m_moves_2 _ _ _ _ _ h
theorem s_m_moves {d : Nat} {S' : St} {r : Unit} (v0 : Nat) (v1 : Int32) (S : St) (h : m_moves v0 v1 S = some (r, S')) : RC KM (d + 0) 2442 [.ref v0, .int v1] S none S' := RC.of rfl (s0_m_moves v0 v1 S h)
-- movesNames ([JI)V
def m_movesNames_21 (S : St) : Re Unit :=
  some ((), S)
set_option maxRecDepth 100000 in
theorem s_m_movesNames_21 {d : Nat} {S' : St} {r : Unit} (S : St) (h : m_movesNames_21 S = some (r, S')) : RR KM (d + 0) 2443 21 [] [] S none S' := by
  unfold m_movesNames_21 at h
  cases h
  exact RR.retv mx_2443 rfl rfl rfl
def m_movesNames_2 : Nat → Nat → Int32 → Int32 → St → Re Unit
  | 0, _, _, _, _ => none
  | n + 1, v0, v1, v2, S =>
  if v2 < v1 then (
    if (KM.1 v0).1 = 4 then (
    if (v1 + v2) < 0 ∨ (KM.1 v0).2 ≤ (v1 + v2).toNatClampNeg then none else
    if (KM.1 v0).1 = 4 then (
    if v2 < 0 ∨ (KM.1 v0).2 ≤ v2.toNatClampNeg then none else
    lt' (wJ S v0 v2.toNatClampNeg ((rJ S v0 (v1 + v2).toNatClampNeg))) fun S1 =>
    lt' ((v2 + (1 : Int32)) : Int32) fun x2 =>
    m_movesNames_2 n v0 v1 x2 S1) else none) else none)
  else (
    m_movesNames_21 S)
set_option maxRecDepth 100000 in
theorem s_m_movesNames_2 {d : Nat} {S' : St} {r : Unit} : ∀ (n : Nat) (v0 : Nat) (v1 : Int32) (v2 : Int32) (S : St), m_movesNames_2 n v0 v1 v2 S = some (r, S') → RR KM (d + 0) 2443 2 [(0, .ref v0), (1, .int v1), (2, .int v2)] [] S none S' := by
  intro n
  induction n with
  | zero => intro v0 v1 v2 S h; simp only [m_movesNames_2] at h; cases h
  | succ n ih =>
    intro v0 v1 v2 S h
    simp only [m_movesNames_2] at h
    refine RR.runs (pc' := icm .ge v2 v1 21 7) (lc' := [(0, .ref v0), (1, .int v1), (2, .int v2)]) (st' := []) (S1 := S) (nL := 3) (cd := cd_2443) mx_2443 rfl rfl 3 rfl ?_
    rcases ifE h with ⟨c, h⟩ | ⟨c, h⟩
    · refine RR.c_ge (fun _ => ?_) (fun q => absurd c q)
      refine RR.runs (pc' := 13) (lc' := [(0, .ref v0), (1, .int v1), (2, .int v2)]) (st' := [.int (v1 + v2), .ref v0, .int v2, .ref v0]) (S1 := S) (nL := 3) (cd := cd_2443) mx_2443 rfl rfl 6 rfl ?_
      obtain ⟨gq, h⟩ := gpE h
      obtain ⟨g, h⟩ := gnE h
      refine RR.gPN (c2 := (KM.1 v0).1 = 4) (pc' := 14) (lc' := [(0, .ref v0), (1, .int v1), (2, .int v2)]) (st' := [.long ((rJ S v0 (v1 + v2).toNatClampNeg)), .int v2, .ref v0]) (S1 := S) (nL := 3) (cd := cd_2443) mx_2443 rfl rfl rfl gq g ?_
      obtain ⟨gq, h⟩ := gpE h
      obtain ⟨g, h⟩ := gnE h
      refine RR.gPN (c2 := (KM.1 v0).1 = 4) (pc' := 15) (lc' := [(0, .ref v0), (1, .int v1), (2, .int v2)]) (st' := []) (S1 := (wJ S v0 v2.toNatClampNeg ((rJ S v0 (v1 + v2).toNatClampNeg)))) (nL := 3) (cd := cd_2443) mx_2443 rfl rfl rfl gq g ?_
      obtain ⟨S1, eS1, h⟩ := ltE h
      rw [← eS1]
      refine RR.runs (pc' := 18) (lc' := [(2, .int ((v2 + (1 : Int32)))), (0, .ref v0), (1, .int v1)]) (st' := []) (S1 := S1) (nL := 3) (cd := cd_2443) mx_2443 rfl rfl 1 rfl ?_
      obtain ⟨x2, ex2, h⟩ := ltE h
      rw [← ex2]
      refine RR.runs (pc' := 2) (lc' := [(2, .int x2), (0, .ref v0), (1, .int v1)]) (st' := []) (S1 := S1) (nL := 3) (cd := cd_2443) mx_2443 rfl rfl 1 rfl ?_
      refine RR.weak [(0, .ref v0), (1, .int v1), (2, .int x2)] ⟨rfl, rfl, rfl, trivial⟩ ?_
      exact ih _ _ _ _ h
    · refine RR.c_ge (fun q => absurd q c) (fun _ => ?_)
      refine RR.weak [] trivial ?_
      exact s_m_movesNames_21 _ h
def m_movesNames (v0 : Nat) (v1 : Int32) (S : St) : Re Unit :=
  m_movesNames_2 FU v0 v1 (0 : Int32) S
set_option maxRecDepth 100000 in
theorem s0_m_movesNames {d : Nat} {S' : St} {r : Unit} (v0 : Nat) (v1 : Int32) (S : St) (h : m_movesNames v0 v1 S = some (r, S')) : RR KM (d + 0) 2443 0 [(0, .ref v0), (1, .int v1)] [] S none S' := by
  unfold m_movesNames at h
  refine RR.runs (pc' := 2) (lc' := [(2, .int (0 : Int32)), (0, .ref v0), (1, .int v1)]) (st' := []) (S1 := S) (nL := 3) (cd := cd_2443) mx_2443 rfl rfl 2 rfl ?_
  refine RR.weak [(0, .ref v0), (1, .int v1), (2, .int (0 : Int32))] ⟨rfl, rfl, rfl, trivial⟩ ?_
  exact s_m_movesNames_2 _ _ _ _ _ h
theorem s_m_movesNames {d : Nat} {S' : St} {r : Unit} (v0 : Nat) (v1 : Int32) (S : St) (h : m_movesNames v0 v1 S = some (r, S')) : RC KM (d + 0) 2443 [.ref v0, .int v1] S none S' := RC.of rfl (s0_m_movesNames v0 v1 S h)
-- spells (J[I)I
def m_spells_64 (v3 : Int32) (S : St) : Re Int32 :=
  some (v3, S)
set_option maxRecDepth 100000 in
theorem s_m_spells_64 {d : Nat} {S' : St} {r : Int32} (v3 : Int32) (S : St) (h : m_spells_64 v3 S = some (r, S')) : RR KM (d + 0) 2445 64 [(3, .int v3)] [] S (some (.int r)) S' := by
  unfold m_spells_64 at h
  refine RR.runs (pc' := 65) (lc' := [(3, .int v3)]) (st' := [.int v3]) (S1 := S) (nL := 7) (cd := cd_2445) mx_2445 rfl rfl 1 rfl ?_
  cases h
  exact RR.reti mx_2445 rfl rfl rfl
def m_spells_34 : Nat → Nat → Int32 → Int64 → Int32 → St → Re Int32
  | 0, _, _, _, _, _ => none
  | n + 1, v2, v3, v4, v6, S =>
  if v6 < 0 then (
    m_spells_64 v3 S)
  else (
    if (KM.1 v2).1 = 1 then (
    if v6 < 0 ∨ (KM.1 v2).2 ≤ v6.toNatClampNeg then none else
    lt' (wI S v2 v6.toNatClampNeg (((v4 - v4 / (27 : Int64) * (27 : Int64))).toInt32)) fun S1 =>
    lt' ((v4 / (27 : Int64)) : Int64) fun x2 =>
    lt' ((v6 + (-1 : Int32)) : Int32) fun x3 =>
    m_spells_34 n v2 v3 x2 x3 S1) else none)
set_option maxRecDepth 100000 in
theorem s_m_spells_34 {d : Nat} {S' : St} {r : Int32} : ∀ (n : Nat) (v2 : Nat) (v3 : Int32) (v4 : Int64) (v6 : Int32) (S : St), m_spells_34 n v2 v3 v4 v6 S = some (r, S') → RR KM (d + 0) 2445 34 [(2, .ref v2), (3, .int v3), (4, .long v4), (6, .int v6)] [] S (some (.int r)) S' := by
  intro n
  induction n with
  | zero => intro v2 v3 v4 v6 S h; simp only [m_spells_34] at h; cases h
  | succ n ih =>
    intro v2 v3 v4 v6 S h
    simp only [m_spells_34] at h
    refine RR.runs (pc' := icm .lt v6 0 64 39) (lc' := [(2, .ref v2), (3, .int v3), (4, .long v4), (6, .int v6)]) (st' := []) (S1 := S) (nL := 7) (cd := cd_2445) mx_2445 rfl rfl 2 rfl ?_
    rcases ifE h with ⟨c, h⟩ | ⟨c, h⟩
    · refine RR.c_lt (fun _ => ?_) (fun q => absurd c q)
      refine RR.weak [(3, .int v3)] ⟨rfl, trivial⟩ ?_
      exact s_m_spells_64 _ _ h
    · refine RR.c_lt (fun q => absurd q c) (fun _ => ?_)
      refine RR.runs (pc' := 49) (lc' := [(2, .ref v2), (3, .int v3), (4, .long v4), (6, .int v6)]) (st' := [.int (((v4 - v4 / (27 : Int64) * (27 : Int64))).toInt32), .int v6, .ref v2]) (S1 := S) (nL := 7) (cd := cd_2445) mx_2445 rfl rfl 6 rfl ?_
      obtain ⟨gq, h⟩ := gpE h
      obtain ⟨g, h⟩ := gnE h
      refine RR.gPNo (c2 := (KM.1 v2).1 = 1) (pc' := 50) (lc' := [(2, .ref v2), (3, .int v3), (4, .long v4), (6, .int v6)]) (st' := []) (S1 := (wI S v2 v6.toNatClampNeg (((v4 - v4 / (27 : Int64) * (27 : Int64))).toInt32))) (nL := 7) (cd := cd_2445) mx_2445 rfl rfl rfl gq g ?_
      obtain ⟨S1, eS1, h⟩ := ltE h
      rw [← eS1]
      refine RR.runs (pc' := 58) (lc' := [(4, .long ((v4 / (27 : Int64)))), (2, .ref v2), (3, .int v3), (6, .int v6)]) (st' := []) (S1 := S1) (nL := 7) (cd := cd_2445) mx_2445 rfl rfl 4 rfl ?_
      obtain ⟨x2, ex2, h⟩ := ltE h
      rw [← ex2]
      refine RR.runs (pc' := 61) (lc' := [(6, .int ((v6 + (-1 : Int32)))), (4, .long x2), (2, .ref v2), (3, .int v3)]) (st' := []) (S1 := S1) (nL := 7) (cd := cd_2445) mx_2445 rfl rfl 1 rfl ?_
      obtain ⟨x3, ex3, h⟩ := ltE h
      rw [← ex3]
      refine RR.runs (pc' := 34) (lc' := [(6, .int x3), (4, .long x2), (2, .ref v2), (3, .int v3)]) (st' := []) (S1 := S1) (nL := 7) (cd := cd_2445) mx_2445 rfl rfl 1 rfl ?_
      refine RR.weak [(2, .ref v2), (3, .int v3), (4, .long x2), (6, .int x3)] ⟨rfl, rfl, rfl, rfl, trivial⟩ ?_
      exact ih _ _ _ _ _ h
def m_spells_26 (v0 : Int64) (v2 : Nat) (v3 : Int32) (S : St) : Re Int32 :=
  lt' ((v3 - (1 : Int32)) : Int32) fun x1 =>
  m_spells_34 FU v2 v3 v0 x1 S
set_option maxRecDepth 100000 in
theorem s_m_spells_26 {d : Nat} {S' : St} {r : Int32} (v0 : Int64) (v2 : Nat) (v3 : Int32) (S : St) (h : m_spells_26 v0 v2 v3 S = some (r, S')) : RR KM (d + 0) 2445 26 [(0, .long v0), (2, .ref v2), (3, .int v3)] [] S (some (.int r)) S' := by
  unfold m_spells_26 at h
  refine RR.runs (pc' := 34) (lc' := [(6, .int ((v3 - (1 : Int32)))), (4, .long v0), (0, .long v0), (2, .ref v2), (3, .int v3)]) (st' := []) (S1 := S) (nL := 7) (cd := cd_2445) mx_2445 rfl rfl 6 rfl ?_
  obtain ⟨x1, ex1, h⟩ := ltE h
  rw [← ex1]
  refine RR.weak [(2, .ref v2), (3, .int v3), (4, .long v0), (6, .int x1)] ⟨rfl, rfl, rfl, rfl, trivial⟩ ?_
  exact s_m_spells_34 _ _ _ _ _ _ h
def m_spells_5 : Nat → Int64 → Nat → Int32 → Int64 → St → Re Int32
  | 0, _, _, _, _, _ => none
  | n + 1, v0, v2, v3, v4, S =>
  if 0 < (lg_cmp v4 (0 : Int64)) then (
    lt' ((v3 + (1 : Int32)) : Int32) fun x1 =>
    lt' ((v4 / (27 : Int64)) : Int64) fun x2 =>
    m_spells_5 n v0 v2 x1 x2 S)
  else (
    m_spells_26 v0 v2 v3 S)
set_option maxRecDepth 100000 in
theorem s_m_spells_5 {d : Nat} {S' : St} {r : Int32} : ∀ (n : Nat) (v0 : Int64) (v2 : Nat) (v3 : Int32) (v4 : Int64) (S : St), m_spells_5 n v0 v2 v3 v4 S = some (r, S') → RR KM (d + 0) 2445 5 [(0, .long v0), (2, .ref v2), (3, .int v3), (4, .long v4)] [] S (some (.int r)) S' := by
  intro n
  induction n with
  | zero => intro v0 v2 v3 v4 S h; simp only [m_spells_5] at h; cases h
  | succ n ih =>
    intro v0 v2 v3 v4 S h
    simp only [m_spells_5] at h
    refine RR.runs (pc' := icm .le ((lg_cmp v4 (0 : Int64))) 0 26 12) (lc' := [(0, .long v0), (2, .ref v2), (3, .int v3), (4, .long v4)]) (st' := []) (S1 := S) (nL := 7) (cd := cd_2445) mx_2445 rfl rfl 4 rfl ?_
    rcases ifE h with ⟨c, h⟩ | ⟨c, h⟩
    · refine RR.c_le (fun _ => ?_) (fun q => absurd c q)
      refine RR.runs (pc' := 15) (lc' := [(3, .int ((v3 + (1 : Int32)))), (0, .long v0), (2, .ref v2), (4, .long v4)]) (st' := []) (S1 := S) (nL := 7) (cd := cd_2445) mx_2445 rfl rfl 1 rfl ?_
      obtain ⟨x1, ex1, h⟩ := ltE h
      rw [← ex1]
      refine RR.runs (pc' := 23) (lc' := [(4, .long ((v4 / (27 : Int64)))), (3, .int x1), (0, .long v0), (2, .ref v2)]) (st' := []) (S1 := S) (nL := 7) (cd := cd_2445) mx_2445 rfl rfl 4 rfl ?_
      obtain ⟨x2, ex2, h⟩ := ltE h
      rw [← ex2]
      refine RR.runs (pc' := 5) (lc' := [(4, .long x2), (3, .int x1), (0, .long v0), (2, .ref v2)]) (st' := []) (S1 := S) (nL := 7) (cd := cd_2445) mx_2445 rfl rfl 1 rfl ?_
      refine RR.weak [(0, .long v0), (2, .ref v2), (3, .int x1), (4, .long x2)] ⟨rfl, rfl, rfl, rfl, trivial⟩ ?_
      exact ih _ _ _ _ _ h
    · refine RR.c_le (fun q => absurd q c) (fun _ => ?_)
      refine RR.weak [(0, .long v0), (2, .ref v2), (3, .int v3)] ⟨rfl, rfl, rfl, trivial⟩ ?_
      exact s_m_spells_26 _ _ _ _ h
def m_spells (v0 : Int64) (v2 : Nat) (S : St) : Re Int32 :=
  m_spells_5 FU v0 v2 (0 : Int32) v0 S
set_option maxRecDepth 100000 in
theorem s0_m_spells {d : Nat} {S' : St} {r : Int32} (v0 : Int64) (v2 : Nat) (S : St) (h : m_spells v0 v2 S = some (r, S')) : RR KM (d + 0) 2445 0 [(0, .long v0), (2, .ref v2)] [] S (some (.int r)) S' := by
  unfold m_spells at h
  refine RR.runs (pc' := 5) (lc' := [(4, .long v0), (3, .int (0 : Int32)), (0, .long v0), (2, .ref v2)]) (st' := []) (S1 := S) (nL := 7) (cd := cd_2445) mx_2445 rfl rfl 4 rfl ?_
  refine RR.weak [(0, .long v0), (2, .ref v2), (3, .int (0 : Int32)), (4, .long v0)] ⟨rfl, rfl, rfl, rfl, trivial⟩ ?_
  exact s_m_spells_5 _ _ _ _ _ _ h
theorem s_m_spells {d : Nat} {S' : St} {r : Int32} (v0 : Int64) (v2 : Nat) (S : St) (h : m_spells v0 v2 S = some (r, S')) : RC KM (d + 0) 2445 [.long v0, .ref v2] S (some (.int r)) S' := RC.of rfl (s0_m_spells v0 v2 S h)
-- min (II)I
def m_min_10 (p0 : Int32) (S : St) : Re Int32 :=
  some (p0, S)
set_option maxRecDepth 100000 in
theorem s_m_min_10 {d : Nat} {S' : St} {r : Int32} (p0 : Int32) (S : St) (h : m_min_10 p0 S = some (r, S')) : RR KM (d + 0) 2600 10 [] [.int p0] S (some (.int r)) S' := by
  unfold m_min_10 at h
  cases h
  exact RR.reti mx_2600 rfl rfl rfl
def m_min (v0 : Int32) (v1 : Int32) (S : St) : Re Int32 :=
  if v1 < v0 then (
    m_min_10 v1 S)
  else (
    m_min_10 v0 S)
set_option maxRecDepth 100000 in
theorem s0_m_min {d : Nat} {S' : St} {r : Int32} (v0 : Int32) (v1 : Int32) (S : St) (h : m_min v0 v1 S = some (r, S')) : RR KM (d + 0) 2600 0 [(0, .int v0), (1, .int v1)] [] S (some (.int r)) S' := by
  unfold m_min at h
  refine RR.runs (pc' := icm .gt v0 v1 9 5) (lc' := [(0, .int v0), (1, .int v1)]) (st' := []) (S1 := S) (nL := 2) (cd := cd_2600) mx_2600 rfl rfl 3 rfl ?_
  rcases ifE h with ⟨c, h⟩ | ⟨c, h⟩
  · refine RR.c_gt (fun _ => ?_) (fun q => absurd c q)
    refine RR.runs (pc' := 10) (lc' := [(0, .int v0), (1, .int v1)]) (st' := [.int v1]) (S1 := S) (nL := 2) (cd := cd_2600) mx_2600 rfl rfl 1 rfl ?_
    refine RR.weak [] trivial ?_
    exact s_m_min_10 _ _ h
  · refine RR.c_gt (fun q => absurd q c) (fun _ => ?_)
    refine RR.runs (pc' := 10) (lc' := [(0, .int v0), (1, .int v1)]) (st' := [.int v0]) (S1 := S) (nL := 2) (cd := cd_2600) mx_2600 rfl rfl 2 rfl ?_
    refine RR.weak [] trivial ?_
    exact s_m_min_10 _ _ h
theorem s_m_min {d : Nat} {S' : St} {r : Int32} (v0 : Int32) (v1 : Int32) (S : St) (h : m_min v0 v1 S = some (r, S')) : RC KM (d + 0) 2600 [.int v0, .int v1] S (some (.int r)) S' := RC.of rfl (s0_m_min v0 v1 S h)
-- compares (II)V
def m_compares_358 (p0 : Int32) (p1 : Int32) (S : St) : Re Unit :=
  if p1 < 0 ∨ 256 ≤ p1.toNatClampNeg then none else
  lt' (wI S 539 p1.toNatClampNeg (vp_nar .boolean p0)) fun S1 =>
  some ((), S1)
set_option maxRecDepth 100000 in
theorem s_m_compares_358 {d : Nat} {S' : St} {r : Unit} (p0 : Int32) (p1 : Int32) (S : St) (h : m_compares_358 p0 p1 S = some (r, S')) : RR KM (d + 3) 2446 358 [] [.int p0, .int p1, .ref 539] S none S' := by
  unfold m_compares_358 at h
  obtain ⟨g, h⟩ := gnE h
  refine RR.gPN (c2 := (KM.1 539).1 = 3) (pc' := 359) (lc' := []) (st' := []) (S1 := (wI S 539 p1.toNatClampNeg (vp_nar .boolean p0))) (nL := 9) (cd := cd_2446) mx_2446 rfl rfl rfl rfl g ?_
  obtain ⟨S1, eS1, h⟩ := ltE h
  rw [← eS1]
  cases h
  exact RR.retv mx_2446 rfl rfl rfl
def m_compares_422 (p0 : Int32) (p1 : Int32) (S : St) : Re Unit :=
  if p1 < 0 ∨ 256 ≤ p1.toNatClampNeg then none else
  lt' (wI S 539 p1.toNatClampNeg (vp_nar .boolean p0)) fun S1 =>
  some ((), S1)
set_option maxRecDepth 100000 in
theorem s_m_compares_422 {d : Nat} {S' : St} {r : Unit} (p0 : Int32) (p1 : Int32) (S : St) (h : m_compares_422 p0 p1 S = some (r, S')) : RR KM (d + 3) 2446 422 [] [.int p0, .int p1, .ref 539] S none S' := by
  unfold m_compares_422 at h
  obtain ⟨g, h⟩ := gnE h
  refine RR.gPN (c2 := (KM.1 539).1 = 3) (pc' := 423) (lc' := []) (st' := []) (S1 := (wI S 539 p1.toNatClampNeg (vp_nar .boolean p0))) (nL := 9) (cd := cd_2446) mx_2446 rfl rfl rfl rfl g ?_
  obtain ⟨S1, eS1, h⟩ := ltE h
  rw [← eS1]
  cases h
  exact RR.retv mx_2446 rfl rfl rfl
def m_compares_316 (v3 : Int32) (v4 : Int32) (v6 : Int32) (S : St) : Re Unit :=
  if v3 < 0 ∨ 256 ≤ v3.toNatClampNeg then none else
  lt' (wI S 538 v3.toNatClampNeg v6) fun S1 =>
  if (0 : Int32) < 0 ∨ 4 ≤ (0 : Int32).toNatClampNeg then none else
  if (0 : Int32) < 0 ∨ 4 ≤ (0 : Int32).toNatClampNeg then none else
  if (rI S1 522 (0 : Int32).toNatClampNeg) = (rI S1 521 (0 : Int32).toNatClampNeg) then (
    if v3 < 0 ∨ 256 ≤ v3.toNatClampNeg then none else
    if (rI S1 536 v3.toNatClampNeg) = 0 then (
      m_compares_358 (1 : Int32) v3 S1)
    else (
      m_compares_358 (0 : Int32) v3 S1))
  else (
    if v3 < 0 ∨ 256 ≤ v3.toNatClampNeg then none else
    if (1 : Int32) < 0 ∨ 20 ≤ (1 : Int32).toNatClampNeg then none else
    lt' (wI S1 535 (1 : Int32).toNatClampNeg (rI S1 536 v3.toNatClampNeg)) fun S2 =>
    if v3 < 0 ∨ 256 ≤ v3.toNatClampNeg then none else
    if (2 : Int32) < 0 ∨ 20 ≤ (2 : Int32).toNatClampNeg then none else
    lt' (wI S2 535 (2 : Int32).toNatClampNeg (rI S2 537 v3.toNatClampNeg)) fun S3 =>
    if v3 < 0 ∨ 256 ≤ v3.toNatClampNeg then none else
    if (3 : Int32) < 0 ∨ 20 ≤ (3 : Int32).toNatClampNeg then none else
    lt' (wI S3 535 (3 : Int32).toNatClampNeg (rI S3 538 v3.toNatClampNeg)) fun S4 =>
    if (4 : Int32) < 0 ∨ 20 ≤ (4 : Int32).toNatClampNeg then none else
    lt' (wI S4 535 (4 : Int32).toNatClampNeg v4) fun S5 =>
    bn (m_worked (0 : Int32) S5) fun r6 S7 =>
    if r6 = 0 then (
      m_compares_422 (0 : Int32) v3 S7)
    else (
      m_compares_422 (1 : Int32) v3 S7))
set_option maxRecDepth 100000 in
theorem s_m_compares_316 {d : Nat} {S' : St} {r : Unit} (v3 : Int32) (v4 : Int32) (v6 : Int32) (S : St) (h : m_compares_316 v3 v4 v6 S = some (r, S')) : RR KM (d + 3) 2446 316 [(0, .ref 500), (3, .int v3), (4, .int v4), (6, .int v6)] [] S none S' := by
  unfold m_compares_316 at h
  refine RR.runs (pc' := 323) (lc' := [(0, .ref 500), (3, .int v3), (4, .int v4), (6, .int v6)]) (st' := [.int v6, .int v3, .ref 538]) (S1 := S) (nL := 9) (cd := cd_2446) mx_2446 rfl rfl 4 rfl ?_
  obtain ⟨g, h⟩ := gnE h
  refine RR.gPN (c2 := (KM.1 538).1 = 1) (pc' := 324) (lc' := [(0, .ref 500), (3, .int v3), (4, .int v4), (6, .int v6)]) (st' := []) (S1 := (wI S 538 v3.toNatClampNeg v6)) (nL := 9) (cd := cd_2446) mx_2446 rfl rfl rfl rfl g ?_
  obtain ⟨S1, eS1, h⟩ := ltE h
  rw [← eS1]
  refine RR.runs (pc' := 329) (lc' := [(0, .ref 500), (3, .int v3), (4, .int v4), (6, .int v6)]) (st' := [.int (0 : Int32), .ref 522]) (S1 := S1) (nL := 9) (cd := cd_2446) mx_2446 rfl rfl 3 rfl ?_
  obtain ⟨g, h⟩ := gnE h
  refine RR.gPN (c2 := (KM.1 522).1 = 1) (pc' := 330) (lc' := [(0, .ref 500), (3, .int v3), (4, .int v4), (6, .int v6)]) (st' := [.int ((rI S1 522 (0 : Int32).toNatClampNeg))]) (S1 := S1) (nL := 9) (cd := cd_2446) mx_2446 rfl rfl rfl rfl g ?_
  refine RR.runs (pc' := 335) (lc' := [(0, .ref 500), (3, .int v3), (4, .int v4), (6, .int v6)]) (st' := [.int (0 : Int32), .ref 521, .int ((rI S1 522 (0 : Int32).toNatClampNeg))]) (S1 := S1) (nL := 9) (cd := cd_2446) mx_2446 rfl rfl 3 rfl ?_
  obtain ⟨g, h⟩ := gnE h
  refine RR.gPN (c2 := (KM.1 521).1 = 1) (pc' := 336) (lc' := [(0, .ref 500), (3, .int v3), (4, .int v4), (6, .int v6)]) (st' := [.int ((rI S1 521 (0 : Int32).toNatClampNeg)), .int ((rI S1 522 (0 : Int32).toNatClampNeg))]) (S1 := S1) (nL := 9) (cd := cd_2446) mx_2446 rfl rfl rfl rfl g ?_
  refine RR.runs (pc' := icm .ne ((rI S1 522 (0 : Int32).toNatClampNeg)) ((rI S1 521 (0 : Int32).toNatClampNeg)) 360 339) (lc' := [(0, .ref 500), (3, .int v3), (4, .int v4), (6, .int v6)]) (st' := []) (S1 := S1) (nL := 9) (cd := cd_2446) mx_2446 rfl rfl 1 rfl ?_
  rcases ifE h with ⟨c, h⟩ | ⟨c, h⟩
  · refine RR.c_ne (fun _ => ?_) (fun q => absurd c q)
    refine RR.runs (pc' := 349) (lc' := [(0, .ref 500), (3, .int v3), (4, .int v4), (6, .int v6)]) (st' := [.int v3, .ref 536, .int v3, .ref 539]) (S1 := S1) (nL := 9) (cd := cd_2446) mx_2446 rfl rfl 6 rfl ?_
    obtain ⟨g, h⟩ := gnE h
    refine RR.gPN (c2 := (KM.1 536).1 = 1) (pc' := 350) (lc' := [(0, .ref 500), (3, .int v3), (4, .int v4), (6, .int v6)]) (st' := [.int (rI S1 536 v3.toNatClampNeg), .int v3, .ref 539]) (S1 := S1) (nL := 9) (cd := cd_2446) mx_2446 rfl rfl rfl rfl g ?_
    refine RR.runs (pc' := icm .ne (rI S1 536 v3.toNatClampNeg) 0 357 353) (lc' := [(0, .ref 500), (3, .int v3), (4, .int v4), (6, .int v6)]) (st' := [.int v3, .ref 539]) (S1 := S1) (nL := 9) (cd := cd_2446) mx_2446 rfl rfl 1 rfl ?_
    rcases ifE h with ⟨c, h⟩ | ⟨c, h⟩
    · refine RR.c_ne (fun _ => ?_) (fun q => absurd c q)
      refine RR.runs (pc' := 358) (lc' := [(0, .ref 500), (3, .int v3), (4, .int v4), (6, .int v6)]) (st' := [.int (1 : Int32), .int v3, .ref 539]) (S1 := S1) (nL := 9) (cd := cd_2446) mx_2446 rfl rfl 2 rfl ?_
      refine RR.weak [] trivial ?_
      exact s_m_compares_358 _ _ _ h
    · refine RR.c_ne (fun q => absurd q c) (fun _ => ?_)
      refine RR.runs (pc' := 358) (lc' := [(0, .ref 500), (3, .int v3), (4, .int v4), (6, .int v6)]) (st' := [.int (0 : Int32), .int v3, .ref 539]) (S1 := S1) (nL := 9) (cd := cd_2446) mx_2446 rfl rfl 1 rfl ?_
      refine RR.weak [] trivial ?_
      exact s_m_compares_358 _ _ _ h
  · refine RR.c_ne (fun q => absurd q c) (fun _ => ?_)
    refine RR.runs (pc' := 370) (lc' := [(0, .ref 500), (3, .int v3), (4, .int v4), (6, .int v6)]) (st' := [.int v3, .ref 536, .int (1 : Int32), .ref 535]) (S1 := S1) (nL := 9) (cd := cd_2446) mx_2446 rfl rfl 6 rfl ?_
    obtain ⟨g, h⟩ := gnE h
    refine RR.gPN (c2 := (KM.1 536).1 = 1) (pc' := 371) (lc' := [(0, .ref 500), (3, .int v3), (4, .int v4), (6, .int v6)]) (st' := [.int (rI S1 536 v3.toNatClampNeg), .int (1 : Int32), .ref 535]) (S1 := S1) (nL := 9) (cd := cd_2446) mx_2446 rfl rfl rfl rfl g ?_
    obtain ⟨g, h⟩ := gnE h
    refine RR.gPN (c2 := (KM.1 535).1 = 1) (pc' := 372) (lc' := [(0, .ref 500), (3, .int v3), (4, .int v4), (6, .int v6)]) (st' := []) (S1 := (wI S1 535 (1 : Int32).toNatClampNeg (rI S1 536 v3.toNatClampNeg))) (nL := 9) (cd := cd_2446) mx_2446 rfl rfl rfl rfl g ?_
    obtain ⟨S2, eS2, h⟩ := ltE h
    rw [← eS2]
    refine RR.runs (pc' := 382) (lc' := [(0, .ref 500), (3, .int v3), (4, .int v4), (6, .int v6)]) (st' := [.int v3, .ref 537, .int (2 : Int32), .ref 535]) (S1 := S2) (nL := 9) (cd := cd_2446) mx_2446 rfl rfl 6 rfl ?_
    obtain ⟨g, h⟩ := gnE h
    refine RR.gPN (c2 := (KM.1 537).1 = 1) (pc' := 383) (lc' := [(0, .ref 500), (3, .int v3), (4, .int v4), (6, .int v6)]) (st' := [.int (rI S2 537 v3.toNatClampNeg), .int (2 : Int32), .ref 535]) (S1 := S2) (nL := 9) (cd := cd_2446) mx_2446 rfl rfl rfl rfl g ?_
    obtain ⟨g, h⟩ := gnE h
    refine RR.gPN (c2 := (KM.1 535).1 = 1) (pc' := 384) (lc' := [(0, .ref 500), (3, .int v3), (4, .int v4), (6, .int v6)]) (st' := []) (S1 := (wI S2 535 (2 : Int32).toNatClampNeg (rI S2 537 v3.toNatClampNeg))) (nL := 9) (cd := cd_2446) mx_2446 rfl rfl rfl rfl g ?_
    obtain ⟨S3, eS3, h⟩ := ltE h
    rw [← eS3]
    refine RR.runs (pc' := 394) (lc' := [(0, .ref 500), (3, .int v3), (4, .int v4), (6, .int v6)]) (st' := [.int v3, .ref 538, .int (3 : Int32), .ref 535]) (S1 := S3) (nL := 9) (cd := cd_2446) mx_2446 rfl rfl 6 rfl ?_
    obtain ⟨g, h⟩ := gnE h
    refine RR.gPN (c2 := (KM.1 538).1 = 1) (pc' := 395) (lc' := [(0, .ref 500), (3, .int v3), (4, .int v4), (6, .int v6)]) (st' := [.int (rI S3 538 v3.toNatClampNeg), .int (3 : Int32), .ref 535]) (S1 := S3) (nL := 9) (cd := cd_2446) mx_2446 rfl rfl rfl rfl g ?_
    obtain ⟨g, h⟩ := gnE h
    refine RR.gPN (c2 := (KM.1 535).1 = 1) (pc' := 396) (lc' := [(0, .ref 500), (3, .int v3), (4, .int v4), (6, .int v6)]) (st' := []) (S1 := (wI S3 535 (3 : Int32).toNatClampNeg (rI S3 538 v3.toNatClampNeg))) (nL := 9) (cd := cd_2446) mx_2446 rfl rfl rfl rfl g ?_
    obtain ⟨S4, eS4, h⟩ := ltE h
    rw [← eS4]
    refine RR.runs (pc' := 403) (lc' := [(0, .ref 500), (3, .int v3), (4, .int v4), (6, .int v6)]) (st' := [.int v4, .int (4 : Int32), .ref 535]) (S1 := S4) (nL := 9) (cd := cd_2446) mx_2446 rfl rfl 4 rfl ?_
    obtain ⟨g, h⟩ := gnE h
    refine RR.gPN (c2 := (KM.1 535).1 = 1) (pc' := 404) (lc' := [(0, .ref 500), (3, .int v3), (4, .int v4), (6, .int v6)]) (st' := []) (S1 := (wI S4 535 (4 : Int32).toNatClampNeg v4)) (nL := 9) (cd := cd_2446) mx_2446 rfl rfl rfl rfl g ?_
    obtain ⟨S5, eS5, h⟩ := ltE h
    rw [← eS5]
    refine RR.runs (pc' := 411) (lc' := [(0, .ref 500), (3, .int v3), (4, .int v4), (6, .int v6)]) (st' := [.int (0 : Int32), .ref 500, .int v3, .ref 539]) (S1 := S5) (nL := 9) (cd := cd_2446) mx_2446 rfl rfl 5 rfl ?_
    obtain ⟨r6, S7, h1, h⟩ := bnE h
    refine RR.callV (b := 500) (as := [.int (0 : Int32)]) (rest := [.int v3, .ref 539]) (r1 := (some (.int r6))) (S1 := S7) mx_2446 rfl rfl mx_2418 rfl rfl (by decide) (Or.inl rfl) (Nat.le_of_ble_eq_true rfl) (Nat.le_of_ble_eq_true rfl) (RC.deep (by omega) (s_m_worked (d := d) _ _ h1)) ?_
    show RR KM _ 2446 414 [(0, .ref 500), (3, .int v3), (4, .int v4), (6, .int v6)] [.int r6, .int v3, .ref 539] S7 _ _
    refine RR.runs (pc' := icm .eq r6 0 421 417) (lc' := [(0, .ref 500), (3, .int v3), (4, .int v4), (6, .int v6)]) (st' := [.int v3, .ref 539]) (S1 := S7) (nL := 9) (cd := cd_2446) mx_2446 rfl rfl 1 rfl ?_
    rcases ifE h with ⟨c, h⟩ | ⟨c, h⟩
    · refine RR.c_eq (fun _ => ?_) (fun q => absurd c q)
      refine RR.runs (pc' := 422) (lc' := [(0, .ref 500), (3, .int v3), (4, .int v4), (6, .int v6)]) (st' := [.int (0 : Int32), .int v3, .ref 539]) (S1 := S7) (nL := 9) (cd := cd_2446) mx_2446 rfl rfl 1 rfl ?_
      refine RR.weak [] trivial ?_
      exact s_m_compares_422 _ _ _ h
    · refine RR.c_eq (fun q => absurd q c) (fun _ => ?_)
      refine RR.runs (pc' := 422) (lc' := [(0, .ref 500), (3, .int v3), (4, .int v4), (6, .int v6)]) (st' := [.int (1 : Int32), .int v3, .ref 539]) (S1 := S7) (nL := 9) (cd := cd_2446) mx_2446 rfl rfl 2 rfl ?_
      refine RR.weak [] trivial ?_
      exact s_m_compares_422 _ _ _ h
def m_compares_269 : Nat → Int32 → Int32 → Int32 → Int32 → St → Re Unit
  | 0, _, _, _, _, _ => none
  | n + 1, v3, v4, v5, v6, S =>
  if v6 < v4 then (
    if v6 < v5 then (
      if ((v4 - (1 : Int32)) - v6) < 0 ∨ 8 ≤ (((v4 - (1 : Int32)) - v6)).toNatClampNeg then none else
      if ((v5 - (1 : Int32)) - v6) < 0 ∨ 8 ≤ (((v5 - (1 : Int32)) - v6)).toNatClampNeg then none else
      if (rI S 540 (((v4 - (1 : Int32)) - v6)).toNatClampNeg) = (rI S 541 (((v5 - (1 : Int32)) - v6)).toNatClampNeg) then (
        lt' ((v6 + (1 : Int32)) : Int32) fun x1 =>
        m_compares_269 n v3 v4 v5 x1 S)
      else (
        m_compares_316 v3 v4 v6 S))
    else (
      m_compares_316 v3 v4 v6 S))
  else (
    m_compares_316 v3 v4 v6 S)
set_option maxRecDepth 100000 in
theorem s_m_compares_269 {d : Nat} {S' : St} {r : Unit} : ∀ (n : Nat) (v3 : Int32) (v4 : Int32) (v5 : Int32) (v6 : Int32) (S : St), m_compares_269 n v3 v4 v5 v6 S = some (r, S') → RR KM (d + 3) 2446 269 [(0, .ref 500), (3, .int v3), (4, .int v4), (5, .int v5), (6, .int v6)] [] S none S' := by
  intro n
  induction n with
  | zero => intro v3 v4 v5 v6 S h; simp only [m_compares_269] at h; cases h
  | succ n ih =>
    intro v3 v4 v5 v6 S h
    simp only [m_compares_269] at h
    refine RR.runs (pc' := icm .ge v6 v4 316 276) (lc' := [(0, .ref 500), (3, .int v3), (4, .int v4), (5, .int v5), (6, .int v6)]) (st' := []) (S1 := S) (nL := 9) (cd := cd_2446) mx_2446 rfl rfl 3 rfl ?_
    rcases ifE h with ⟨c, h⟩ | ⟨c, h⟩
    · refine RR.c_ge (fun _ => ?_) (fun q => absurd c q)
      refine RR.runs (pc' := icm .ge v6 v5 316 283) (lc' := [(0, .ref 500), (3, .int v3), (4, .int v4), (5, .int v5), (6, .int v6)]) (st' := []) (S1 := S) (nL := 9) (cd := cd_2446) mx_2446 rfl rfl 3 rfl ?_
      rcases ifE h with ⟨c, h⟩ | ⟨c, h⟩
      · refine RR.c_ge (fun _ => ?_) (fun q => absurd c q)
        refine RR.runs (pc' := 294) (lc' := [(0, .ref 500), (3, .int v3), (4, .int v4), (5, .int v5), (6, .int v6)]) (st' := [.int (((v4 - (1 : Int32)) - v6)), .ref 540]) (S1 := S) (nL := 9) (cd := cd_2446) mx_2446 rfl rfl 7 rfl ?_
        obtain ⟨g, h⟩ := gnE h
        refine RR.gPN (c2 := (KM.1 540).1 = 1) (pc' := 295) (lc' := [(0, .ref 500), (3, .int v3), (4, .int v4), (5, .int v5), (6, .int v6)]) (st' := [.int ((rI S 540 (((v4 - (1 : Int32)) - v6)).toNatClampNeg))]) (S1 := S) (nL := 9) (cd := cd_2446) mx_2446 rfl rfl rfl rfl g ?_
        refine RR.runs (pc' := 306) (lc' := [(0, .ref 500), (3, .int v3), (4, .int v4), (5, .int v5), (6, .int v6)]) (st' := [.int (((v5 - (1 : Int32)) - v6)), .ref 541, .int ((rI S 540 (((v4 - (1 : Int32)) - v6)).toNatClampNeg))]) (S1 := S) (nL := 9) (cd := cd_2446) mx_2446 rfl rfl 7 rfl ?_
        obtain ⟨g, h⟩ := gnE h
        refine RR.gPN (c2 := (KM.1 541).1 = 1) (pc' := 307) (lc' := [(0, .ref 500), (3, .int v3), (4, .int v4), (5, .int v5), (6, .int v6)]) (st' := [.int ((rI S 541 (((v5 - (1 : Int32)) - v6)).toNatClampNeg)), .int ((rI S 540 (((v4 - (1 : Int32)) - v6)).toNatClampNeg))]) (S1 := S) (nL := 9) (cd := cd_2446) mx_2446 rfl rfl rfl rfl g ?_
        refine RR.runs (pc' := icm .ne ((rI S 540 (((v4 - (1 : Int32)) - v6)).toNatClampNeg)) ((rI S 541 (((v5 - (1 : Int32)) - v6)).toNatClampNeg)) 316 310) (lc' := [(0, .ref 500), (3, .int v3), (4, .int v4), (5, .int v5), (6, .int v6)]) (st' := []) (S1 := S) (nL := 9) (cd := cd_2446) mx_2446 rfl rfl 1 rfl ?_
        rcases ifE h with ⟨c, h⟩ | ⟨c, h⟩
        · refine RR.c_ne (fun _ => ?_) (fun q => absurd c q)
          refine RR.runs (pc' := 313) (lc' := [(6, .int ((v6 + (1 : Int32)))), (0, .ref 500), (3, .int v3), (4, .int v4), (5, .int v5)]) (st' := []) (S1 := S) (nL := 9) (cd := cd_2446) mx_2446 rfl rfl 1 rfl ?_
          obtain ⟨x1, ex1, h⟩ := ltE h
          rw [← ex1]
          refine RR.runs (pc' := 269) (lc' := [(6, .int x1), (0, .ref 500), (3, .int v3), (4, .int v4), (5, .int v5)]) (st' := []) (S1 := S) (nL := 9) (cd := cd_2446) mx_2446 rfl rfl 1 rfl ?_
          refine RR.weak [(0, .ref 500), (3, .int v3), (4, .int v4), (5, .int v5), (6, .int x1)] ⟨rfl, rfl, rfl, rfl, rfl, trivial⟩ ?_
          exact ih _ _ _ _ _ h
        · refine RR.c_ne (fun q => absurd q c) (fun _ => ?_)
          refine RR.weak [(0, .ref 500), (3, .int v3), (4, .int v4), (6, .int v6)] ⟨rfl, rfl, rfl, rfl, trivial⟩ ?_
          exact s_m_compares_316 _ _ _ _ h
      · refine RR.c_ge (fun q => absurd q c) (fun _ => ?_)
        refine RR.weak [(0, .ref 500), (3, .int v3), (4, .int v4), (6, .int v6)] ⟨rfl, rfl, rfl, rfl, trivial⟩ ?_
        exact s_m_compares_316 _ _ _ _ h
    · refine RR.c_ge (fun q => absurd q c) (fun _ => ?_)
      refine RR.weak [(0, .ref 500), (3, .int v3), (4, .int v4), (6, .int v6)] ⟨rfl, rfl, rfl, rfl, trivial⟩ ?_
      exact s_m_compares_316 _ _ _ _ h
def m_compares_258 (v3 : Int32) (v4 : Int32) (v5 : Int32) (v6 : Int32) (S : St) : Re Unit :=
  if v3 < 0 ∨ 256 ≤ v3.toNatClampNeg then none else
  lt' (wI S 537 v3.toNatClampNeg v6) fun S1 =>
  m_compares_269 FU v3 v4 v5 (0 : Int32) S1
set_option maxRecDepth 100000 in
theorem s_m_compares_258 {d : Nat} {S' : St} {r : Unit} (v3 : Int32) (v4 : Int32) (v5 : Int32) (v6 : Int32) (S : St) (h : m_compares_258 v3 v4 v5 v6 S = some (r, S')) : RR KM (d + 3) 2446 258 [(0, .ref 500), (3, .int v3), (4, .int v4), (5, .int v5), (6, .int v6)] [] S none S' := by
  unfold m_compares_258 at h
  refine RR.runs (pc' := 265) (lc' := [(0, .ref 500), (3, .int v3), (4, .int v4), (5, .int v5), (6, .int v6)]) (st' := [.int v6, .int v3, .ref 537]) (S1 := S) (nL := 9) (cd := cd_2446) mx_2446 rfl rfl 4 rfl ?_
  obtain ⟨g, h⟩ := gnE h
  refine RR.gPN (c2 := (KM.1 537).1 = 1) (pc' := 266) (lc' := [(0, .ref 500), (3, .int v3), (4, .int v4), (5, .int v5), (6, .int v6)]) (st' := []) (S1 := (wI S 537 v3.toNatClampNeg v6)) (nL := 9) (cd := cd_2446) mx_2446 rfl rfl rfl rfl g ?_
  obtain ⟨S1, eS1, h⟩ := ltE h
  rw [← eS1]
  refine RR.runs (pc' := 269) (lc' := [(6, .int (0 : Int32)), (0, .ref 500), (3, .int v3), (4, .int v4), (5, .int v5)]) (st' := []) (S1 := S1) (nL := 9) (cd := cd_2446) mx_2446 rfl rfl 2 rfl ?_
  refine RR.weak [(0, .ref 500), (3, .int v3), (4, .int v4), (5, .int v5), (6, .int (0 : Int32))] ⟨rfl, rfl, rfl, rfl, rfl, trivial⟩ ?_
  exact s_m_compares_269 _ _ _ _ _ _ h
def m_compares_221 : Nat → Int32 → Int32 → Int32 → Int32 → St → Re Unit
  | 0, _, _, _, _, _ => none
  | n + 1, v3, v4, v5, v6, S =>
  if v6 < v4 then (
    if v6 < v5 then (
      if v6 < 0 ∨ 8 ≤ v6.toNatClampNeg then none else
      if v6 < 0 ∨ 8 ≤ v6.toNatClampNeg then none else
      if (rI S 540 v6.toNatClampNeg) = (rI S 541 v6.toNatClampNeg) then (
        lt' ((v6 + (1 : Int32)) : Int32) fun x1 =>
        m_compares_221 n v3 v4 v5 x1 S)
      else (
        m_compares_258 v3 v4 v5 v6 S))
    else (
      m_compares_258 v3 v4 v5 v6 S))
  else (
    m_compares_258 v3 v4 v5 v6 S)
set_option maxRecDepth 100000 in
theorem s_m_compares_221 {d : Nat} {S' : St} {r : Unit} : ∀ (n : Nat) (v3 : Int32) (v4 : Int32) (v5 : Int32) (v6 : Int32) (S : St), m_compares_221 n v3 v4 v5 v6 S = some (r, S') → RR KM (d + 3) 2446 221 [(0, .ref 500), (3, .int v3), (4, .int v4), (5, .int v5), (6, .int v6)] [] S none S' := by
  intro n
  induction n with
  | zero => intro v3 v4 v5 v6 S h; simp only [m_compares_221] at h; cases h
  | succ n ih =>
    intro v3 v4 v5 v6 S h
    simp only [m_compares_221] at h
    refine RR.runs (pc' := icm .ge v6 v4 258 228) (lc' := [(0, .ref 500), (3, .int v3), (4, .int v4), (5, .int v5), (6, .int v6)]) (st' := []) (S1 := S) (nL := 9) (cd := cd_2446) mx_2446 rfl rfl 3 rfl ?_
    rcases ifE h with ⟨c, h⟩ | ⟨c, h⟩
    · refine RR.c_ge (fun _ => ?_) (fun q => absurd c q)
      refine RR.runs (pc' := icm .ge v6 v5 258 235) (lc' := [(0, .ref 500), (3, .int v3), (4, .int v4), (5, .int v5), (6, .int v6)]) (st' := []) (S1 := S) (nL := 9) (cd := cd_2446) mx_2446 rfl rfl 3 rfl ?_
      rcases ifE h with ⟨c, h⟩ | ⟨c, h⟩
      · refine RR.c_ge (fun _ => ?_) (fun q => absurd c q)
        refine RR.runs (pc' := 241) (lc' := [(0, .ref 500), (3, .int v3), (4, .int v4), (5, .int v5), (6, .int v6)]) (st' := [.int v6, .ref 540]) (S1 := S) (nL := 9) (cd := cd_2446) mx_2446 rfl rfl 3 rfl ?_
        obtain ⟨g, h⟩ := gnE h
        refine RR.gPN (c2 := (KM.1 540).1 = 1) (pc' := 242) (lc' := [(0, .ref 500), (3, .int v3), (4, .int v4), (5, .int v5), (6, .int v6)]) (st' := [.int (rI S 540 v6.toNatClampNeg)]) (S1 := S) (nL := 9) (cd := cd_2446) mx_2446 rfl rfl rfl rfl g ?_
        refine RR.runs (pc' := 248) (lc' := [(0, .ref 500), (3, .int v3), (4, .int v4), (5, .int v5), (6, .int v6)]) (st' := [.int v6, .ref 541, .int (rI S 540 v6.toNatClampNeg)]) (S1 := S) (nL := 9) (cd := cd_2446) mx_2446 rfl rfl 3 rfl ?_
        obtain ⟨g, h⟩ := gnE h
        refine RR.gPN (c2 := (KM.1 541).1 = 1) (pc' := 249) (lc' := [(0, .ref 500), (3, .int v3), (4, .int v4), (5, .int v5), (6, .int v6)]) (st' := [.int (rI S 541 v6.toNatClampNeg), .int (rI S 540 v6.toNatClampNeg)]) (S1 := S) (nL := 9) (cd := cd_2446) mx_2446 rfl rfl rfl rfl g ?_
        refine RR.runs (pc' := icm .ne (rI S 540 v6.toNatClampNeg) (rI S 541 v6.toNatClampNeg) 258 252) (lc' := [(0, .ref 500), (3, .int v3), (4, .int v4), (5, .int v5), (6, .int v6)]) (st' := []) (S1 := S) (nL := 9) (cd := cd_2446) mx_2446 rfl rfl 1 rfl ?_
        rcases ifE h with ⟨c, h⟩ | ⟨c, h⟩
        · refine RR.c_ne (fun _ => ?_) (fun q => absurd c q)
          refine RR.runs (pc' := 255) (lc' := [(6, .int ((v6 + (1 : Int32)))), (0, .ref 500), (3, .int v3), (4, .int v4), (5, .int v5)]) (st' := []) (S1 := S) (nL := 9) (cd := cd_2446) mx_2446 rfl rfl 1 rfl ?_
          obtain ⟨x1, ex1, h⟩ := ltE h
          rw [← ex1]
          refine RR.runs (pc' := 221) (lc' := [(6, .int x1), (0, .ref 500), (3, .int v3), (4, .int v4), (5, .int v5)]) (st' := []) (S1 := S) (nL := 9) (cd := cd_2446) mx_2446 rfl rfl 1 rfl ?_
          refine RR.weak [(0, .ref 500), (3, .int v3), (4, .int v4), (5, .int v5), (6, .int x1)] ⟨rfl, rfl, rfl, rfl, rfl, trivial⟩ ?_
          exact ih _ _ _ _ _ h
        · refine RR.c_ne (fun q => absurd q c) (fun _ => ?_)
          refine RR.weak [(0, .ref 500), (3, .int v3), (4, .int v4), (5, .int v5), (6, .int v6)] ⟨rfl, rfl, rfl, rfl, rfl, trivial⟩ ?_
          exact s_m_compares_258 _ _ _ _ _ h
      · refine RR.c_ge (fun q => absurd q c) (fun _ => ?_)
        refine RR.weak [(0, .ref 500), (3, .int v3), (4, .int v4), (5, .int v5), (6, .int v6)] ⟨rfl, rfl, rfl, rfl, rfl, trivial⟩ ?_
        exact s_m_compares_258 _ _ _ _ _ h
    · refine RR.c_ge (fun q => absurd q c) (fun _ => ?_)
      refine RR.weak [(0, .ref 500), (3, .int v3), (4, .int v4), (5, .int v5), (6, .int v6)] ⟨rfl, rfl, rfl, rfl, rfl, trivial⟩ ?_
      exact s_m_compares_258 _ _ _ _ _ h
def m_compares_199 (v3 : Int32) (v4 : Int32) (v5 : Int32) (S : St) : Re Unit :=
  if (((9 : Int32) * v4) + v5) < 0 ∨ 81 ≤ ((((9 : Int32) * v4) + v5)).toNatClampNeg then none else
  if v3 < 0 ∨ 256 ≤ v3.toNatClampNeg then none else
  lt' (wI S 536 v3.toNatClampNeg ((rI S 542 ((((9 : Int32) * v4) + v5)).toNatClampNeg))) fun S1 =>
  m_compares_221 FU v3 v4 v5 (0 : Int32) S1
set_option maxRecDepth 100000 in
theorem s_m_compares_199 {d : Nat} {S' : St} {r : Unit} (v3 : Int32) (v4 : Int32) (v5 : Int32) (S : St) (h : m_compares_199 v3 v4 v5 S = some (r, S')) : RR KM (d + 3) 2446 199 [(0, .ref 500), (3, .int v3), (4, .int v4), (5, .int v5)] [] S none S' := by
  unfold m_compares_199 at h
  refine RR.runs (pc' := 216) (lc' := [(0, .ref 500), (3, .int v3), (4, .int v4), (5, .int v5)]) (st' := [.int ((((9 : Int32) * v4) + v5)), .ref 542, .int v3, .ref 536]) (S1 := S) (nL := 9) (cd := cd_2446) mx_2446 rfl rfl 10 rfl ?_
  obtain ⟨g, h⟩ := gnE h
  refine RR.gPN (c2 := (KM.1 542).1 = 1) (pc' := 217) (lc' := [(0, .ref 500), (3, .int v3), (4, .int v4), (5, .int v5)]) (st' := [.int ((rI S 542 ((((9 : Int32) * v4) + v5)).toNatClampNeg)), .int v3, .ref 536]) (S1 := S) (nL := 9) (cd := cd_2446) mx_2446 rfl rfl rfl rfl g ?_
  obtain ⟨g, h⟩ := gnE h
  refine RR.gPN (c2 := (KM.1 536).1 = 1) (pc' := 218) (lc' := [(0, .ref 500), (3, .int v3), (4, .int v4), (5, .int v5)]) (st' := []) (S1 := (wI S 536 v3.toNatClampNeg ((rI S 542 ((((9 : Int32) * v4) + v5)).toNatClampNeg)))) (nL := 9) (cd := cd_2446) mx_2446 rfl rfl rfl rfl g ?_
  obtain ⟨S1, eS1, h⟩ := ltE h
  rw [← eS1]
  refine RR.runs (pc' := 221) (lc' := [(6, .int (0 : Int32)), (0, .ref 500), (3, .int v3), (4, .int v4), (5, .int v5)]) (st' := []) (S1 := S1) (nL := 9) (cd := cd_2446) mx_2446 rfl rfl 2 rfl ?_
  refine RR.weak [(0, .ref 500), (3, .int v3), (4, .int v4), (5, .int v5), (6, .int (0 : Int32))] ⟨rfl, rfl, rfl, rfl, rfl, trivial⟩ ?_
  exact s_m_compares_221 _ _ _ _ _ _ h
def m_compares_193 (k40 : Int32 → Int32 → Int32 → Int32 → St → Re Unit) (v3 : Int32) (v4 : Int32) (v5 : Int32) (v6 : Int32) (S : St) : Re Unit :=
  lt' ((v6 + (1 : Int32)) : Int32) fun x1 =>
  k40 v3 v4 v5 x1 S
set_option maxRecDepth 100000 in
theorem s_m_compares_193 {d : Nat} (k40 : Int32 → Int32 → Int32 → Int32 → St → Re Unit) {S' : St} {r : Unit} (b40 : ∀ (v3 : Int32) (v4 : Int32) (v5 : Int32) (v6 : Int32) (S : St), k40 v3 v4 v5 v6 S = some (r, S') → RR KM (d + 3) 2446 40 [(0, .ref 500), (3, .int v3), (4, .int v4), (5, .int v5), (6, .int v6)] [] S none S') (v3 : Int32) (v4 : Int32) (v5 : Int32) (v6 : Int32) (S : St) (h : m_compares_193 k40 v3 v4 v5 v6 S = some (r, S')) : RR KM (d + 3) 2446 193 [(0, .ref 500), (3, .int v3), (4, .int v4), (5, .int v5), (6, .int v6)] [] S none S' := by
  unfold m_compares_193 at h
  refine RR.runs (pc' := 196) (lc' := [(6, .int ((v6 + (1 : Int32)))), (0, .ref 500), (3, .int v3), (4, .int v4), (5, .int v5)]) (st' := []) (S1 := S) (nL := 9) (cd := cd_2446) mx_2446 rfl rfl 1 rfl ?_
  obtain ⟨x1, ex1, h⟩ := ltE h
  rw [← ex1]
  refine RR.runs (pc' := 40) (lc' := [(6, .int x1), (0, .ref 500), (3, .int v3), (4, .int v4), (5, .int v5)]) (st' := []) (S1 := S) (nL := 9) (cd := cd_2446) mx_2446 rfl rfl 1 rfl ?_
  refine RR.weak [(0, .ref 500), (3, .int v3), (4, .int v4), (5, .int v5), (6, .int x1)] ⟨rfl, rfl, rfl, rfl, rfl, trivial⟩ ?_
  exact b40 _ _ _ _ _ h
def m_compares_187 (k50 : Int32 → Int32 → Int32 → Int32 → Int32 → St → Re Unit) (v3 : Int32) (v4 : Int32) (v5 : Int32) (v6 : Int32) (v7 : Int32) (S : St) : Re Unit :=
  lt' ((v7 + (1 : Int32)) : Int32) fun x1 =>
  k50 v3 v4 v5 v6 x1 S
set_option maxRecDepth 100000 in
theorem s_m_compares_187 {d : Nat} (k50 : Int32 → Int32 → Int32 → Int32 → Int32 → St → Re Unit) {S' : St} {r : Unit} (b50 : ∀ (v3 : Int32) (v4 : Int32) (v5 : Int32) (v6 : Int32) (v7 : Int32) (S : St), k50 v3 v4 v5 v6 v7 S = some (r, S') → RR KM (d + 3) 2446 50 [(0, .ref 500), (3, .int v3), (4, .int v4), (5, .int v5), (6, .int v6), (7, .int v7)] [] S none S') (v3 : Int32) (v4 : Int32) (v5 : Int32) (v6 : Int32) (v7 : Int32) (S : St) (h : m_compares_187 k50 v3 v4 v5 v6 v7 S = some (r, S')) : RR KM (d + 3) 2446 187 [(0, .ref 500), (3, .int v3), (4, .int v4), (5, .int v5), (6, .int v6), (7, .int v7)] [] S none S' := by
  unfold m_compares_187 at h
  refine RR.runs (pc' := 190) (lc' := [(7, .int ((v7 + (1 : Int32)))), (0, .ref 500), (3, .int v3), (4, .int v4), (5, .int v5), (6, .int v6)]) (st' := []) (S1 := S) (nL := 9) (cd := cd_2446) mx_2446 rfl rfl 1 rfl ?_
  obtain ⟨x1, ex1, h⟩ := ltE h
  rw [← ex1]
  refine RR.runs (pc' := 50) (lc' := [(7, .int x1), (0, .ref 500), (3, .int v3), (4, .int v4), (5, .int v5), (6, .int v6)]) (st' := []) (S1 := S) (nL := 9) (cd := cd_2446) mx_2446 rfl rfl 1 rfl ?_
  refine RR.weak [(0, .ref 500), (3, .int v3), (4, .int v4), (5, .int v5), (6, .int v6), (7, .int x1)] ⟨rfl, rfl, rfl, rfl, rfl, rfl, trivial⟩ ?_
  exact b50 _ _ _ _ _ _ h
def m_compares_67 (k50 : Int32 → Int32 → Int32 → Int32 → Int32 → St → Re Unit) (v3 : Int32) (v4 : Int32) (v5 : Int32) (v6 : Int32) (v7 : Int32) (S : St) : Re Unit :=
  if (((9 : Int32) * v6) + v7) < 0 ∨ 81 ≤ ((((9 : Int32) * v6) + v7)).toNatClampNeg then none else
  lt' (wI S 542 ((((9 : Int32) * v6) + v7)).toNatClampNeg (v6 + v7)) fun S1 =>
  m_compares_187 k50 v3 v4 v5 v6 v7 S1
set_option maxRecDepth 100000 in
theorem s_m_compares_67 {d : Nat} (k50 : Int32 → Int32 → Int32 → Int32 → Int32 → St → Re Unit) {S' : St} {r : Unit} (b50 : ∀ (v3 : Int32) (v4 : Int32) (v5 : Int32) (v6 : Int32) (v7 : Int32) (S : St), k50 v3 v4 v5 v6 v7 S = some (r, S') → RR KM (d + 3) 2446 50 [(0, .ref 500), (3, .int v3), (4, .int v4), (5, .int v5), (6, .int v6), (7, .int v7)] [] S none S') (v3 : Int32) (v4 : Int32) (v5 : Int32) (v6 : Int32) (v7 : Int32) (S : St) (h : m_compares_67 k50 v3 v4 v5 v6 v7 S = some (r, S')) : RR KM (d + 3) 2446 67 [(0, .ref 500), (3, .int v3), (4, .int v4), (5, .int v5), (6, .int v6), (7, .int v7)] [] S none S' := by
  unfold m_compares_67 at h
  refine RR.runs (pc' := 84) (lc' := [(0, .ref 500), (3, .int v3), (4, .int v4), (5, .int v5), (6, .int v6), (7, .int v7)]) (st' := [.int (v6 + v7), .int ((((9 : Int32) * v6) + v7)), .ref 542]) (S1 := S) (nL := 9) (cd := cd_2446) mx_2446 rfl rfl 10 rfl ?_
  obtain ⟨g, h⟩ := gnE h
  refine RR.gPN (c2 := (KM.1 542).1 = 1) (pc' := 85) (lc' := [(0, .ref 500), (3, .int v3), (4, .int v4), (5, .int v5), (6, .int v6), (7, .int v7)]) (st' := []) (S1 := (wI S 542 ((((9 : Int32) * v6) + v7)).toNatClampNeg (v6 + v7))) (nL := 9) (cd := cd_2446) mx_2446 rfl rfl rfl rfl g ?_
  obtain ⟨S1, eS1, h⟩ := ltE h
  rw [← eS1]
  refine RR.runs (pc' := 187) (lc' := [(0, .ref 500), (3, .int v3), (4, .int v4), (5, .int v5), (6, .int v6), (7, .int v7)]) (st' := []) (S1 := S1) (nL := 9) (cd := cd_2446) mx_2446 rfl rfl 1 rfl ?_
  refine RR.weak [(0, .ref 500), (3, .int v3), (4, .int v4), (5, .int v5), (6, .int v6), (7, .int v7)] ⟨rfl, rfl, rfl, rfl, rfl, rfl, trivial⟩ ?_
  exact s_m_compares_187 _ b50 _ _ _ _ _ _ h
def m_compares_131 (k50 : Int32 → Int32 → Int32 → Int32 → Int32 → St → Re Unit) (v3 : Int32) (v4 : Int32) (v5 : Int32) (v6 : Int32) (v7 : Int32) (p0 : Int32) (p1 : Int32) (S : St) : Re Unit :=
  lt' ((p1 + p0) : Int32) fun x1 =>
  if (((9 : Int32) * (v6 - (1 : Int32))) + v7) < 0 ∨ 81 ≤ ((((9 : Int32) * (v6 - (1 : Int32))) + v7)).toNatClampNeg then none else
  if ((((9 : Int32) * v6) + v7) - (1 : Int32)) < 0 ∨ 81 ≤ (((((9 : Int32) * v6) + v7) - (1 : Int32))).toNatClampNeg then none else
  bn (m_min ((rI S 542 ((((9 : Int32) * (v6 - (1 : Int32))) + v7)).toNatClampNeg)) ((rI S 542 (((((9 : Int32) * v6) + v7) - (1 : Int32))).toNatClampNeg)) S) fun r2 S3 =>
  bn (m_min x1 (((1 : Int32) + r2)) S3) fun r4 S5 =>
  if (((9 : Int32) * v6) + v7) < 0 ∨ 81 ≤ ((((9 : Int32) * v6) + v7)).toNatClampNeg then none else
  lt' (wI S5 542 ((((9 : Int32) * v6) + v7)).toNatClampNeg r4) fun S6 =>
  m_compares_187 k50 v3 v4 v5 v6 v7 S6
set_option maxRecDepth 100000 in
theorem s_m_compares_131 {d : Nat} (k50 : Int32 → Int32 → Int32 → Int32 → Int32 → St → Re Unit) {S' : St} {r : Unit} (b50 : ∀ (v3 : Int32) (v4 : Int32) (v5 : Int32) (v6 : Int32) (v7 : Int32) (S : St), k50 v3 v4 v5 v6 v7 S = some (r, S') → RR KM (d + 3) 2446 50 [(0, .ref 500), (3, .int v3), (4, .int v4), (5, .int v5), (6, .int v6), (7, .int v7)] [] S none S') (v3 : Int32) (v4 : Int32) (v5 : Int32) (v6 : Int32) (v7 : Int32) (p0 : Int32) (p1 : Int32) (S : St) (h : m_compares_131 k50 v3 v4 v5 v6 v7 p0 p1 S = some (r, S')) : RR KM (d + 3) 2446 131 [(0, .ref 500), (3, .int v3), (4, .int v4), (5, .int v5), (6, .int v6), (7, .int v7)] [.int p0, .int p1] S none S' := by
  unfold m_compares_131 at h
  refine RR.runs (pc' := 134) (lc' := [(8, .int (p1 + p0)), (0, .ref 500), (3, .int v3), (4, .int v4), (5, .int v5), (6, .int v6), (7, .int v7)]) (st' := []) (S1 := S) (nL := 9) (cd := cd_2446) mx_2446 rfl rfl 2 rfl ?_
  obtain ⟨x1, ex1, h⟩ := ltE h
  rw [← ex1]
  refine RR.runs (pc' := 163) (lc' := [(8, .int x1), (0, .ref 500), (3, .int v3), (4, .int v4), (5, .int v5), (6, .int v6), (7, .int v7)]) (st' := [.int ((((9 : Int32) * (v6 - (1 : Int32))) + v7)), .ref 542, .int (1 : Int32), .int x1, .int ((((9 : Int32) * v6) + v7)), .ref 542]) (S1 := S) (nL := 9) (cd := cd_2446) mx_2446 rfl rfl 18 rfl ?_
  obtain ⟨g, h⟩ := gnE h
  refine RR.gPN (c2 := (KM.1 542).1 = 1) (pc' := 164) (lc' := [(8, .int x1), (0, .ref 500), (3, .int v3), (4, .int v4), (5, .int v5), (6, .int v6), (7, .int v7)]) (st' := [.int ((rI S 542 ((((9 : Int32) * (v6 - (1 : Int32))) + v7)).toNatClampNeg)), .int (1 : Int32), .int x1, .int ((((9 : Int32) * v6) + v7)), .ref 542]) (S1 := S) (nL := 9) (cd := cd_2446) mx_2446 rfl rfl rfl rfl g ?_
  refine RR.runs (pc' := 178) (lc' := [(8, .int x1), (0, .ref 500), (3, .int v3), (4, .int v4), (5, .int v5), (6, .int v6), (7, .int v7)]) (st' := [.int (((((9 : Int32) * v6) + v7) - (1 : Int32))), .ref 542, .int ((rI S 542 ((((9 : Int32) * (v6 - (1 : Int32))) + v7)).toNatClampNeg)), .int (1 : Int32), .int x1, .int ((((9 : Int32) * v6) + v7)), .ref 542]) (S1 := S) (nL := 9) (cd := cd_2446) mx_2446 rfl rfl 9 rfl ?_
  obtain ⟨g, h⟩ := gnE h
  refine RR.gPN (c2 := (KM.1 542).1 = 1) (pc' := 179) (lc' := [(8, .int x1), (0, .ref 500), (3, .int v3), (4, .int v4), (5, .int v5), (6, .int v6), (7, .int v7)]) (st' := [.int ((rI S 542 (((((9 : Int32) * v6) + v7) - (1 : Int32))).toNatClampNeg)), .int ((rI S 542 ((((9 : Int32) * (v6 - (1 : Int32))) + v7)).toNatClampNeg)), .int (1 : Int32), .int x1, .int ((((9 : Int32) * v6) + v7)), .ref 542]) (S1 := S) (nL := 9) (cd := cd_2446) mx_2446 rfl rfl rfl rfl g ?_
  obtain ⟨r2, S3, h1, h⟩ := bnE h
  refine RR.callS (as := [.int ((rI S 542 ((((9 : Int32) * (v6 - (1 : Int32))) + v7)).toNatClampNeg)), .int ((rI S 542 (((((9 : Int32) * v6) + v7) - (1 : Int32))).toNatClampNeg))]) (rest := [.int (1 : Int32), .int x1, .int ((((9 : Int32) * v6) + v7)), .ref 542]) (r1 := (some (.int r2))) (S1 := S3) mx_2446 rfl rfl mx_2600 rfl rfl (by decide) (Nat.le_of_ble_eq_true rfl) (Nat.le_of_ble_eq_true rfl) (Nat.le_of_ble_eq_true rfl) (RC.deep (by omega) (s_m_min (d := d) _ _ _ h1)) ?_
  show RR KM _ 2446 182 [(8, .int x1), (0, .ref 500), (3, .int v3), (4, .int v4), (5, .int v5), (6, .int v6), (7, .int v7)] [.int r2, .int (1 : Int32), .int x1, .int ((((9 : Int32) * v6) + v7)), .ref 542] S3 _ _
  refine RR.runs (pc' := 183) (lc' := [(8, .int x1), (0, .ref 500), (3, .int v3), (4, .int v4), (5, .int v5), (6, .int v6), (7, .int v7)]) (st' := [.int (((1 : Int32) + r2)), .int x1, .int ((((9 : Int32) * v6) + v7)), .ref 542]) (S1 := S3) (nL := 9) (cd := cd_2446) mx_2446 rfl rfl 1 rfl ?_
  obtain ⟨r4, S5, h1, h⟩ := bnE h
  refine RR.callS (as := [.int x1, .int (((1 : Int32) + r2))]) (rest := [.int ((((9 : Int32) * v6) + v7)), .ref 542]) (r1 := (some (.int r4))) (S1 := S5) mx_2446 rfl rfl mx_2600 rfl rfl (by decide) (Nat.le_of_ble_eq_true rfl) (Nat.le_of_ble_eq_true rfl) (Nat.le_of_ble_eq_true rfl) (RC.deep (by omega) (s_m_min (d := d) _ _ _ h1)) ?_
  show RR KM _ 2446 186 [(8, .int x1), (0, .ref 500), (3, .int v3), (4, .int v4), (5, .int v5), (6, .int v6), (7, .int v7)] [.int r4, .int ((((9 : Int32) * v6) + v7)), .ref 542] S5 _ _
  obtain ⟨g, h⟩ := gnE h
  refine RR.gPN (c2 := (KM.1 542).1 = 1) (pc' := 187) (lc' := [(8, .int x1), (0, .ref 500), (3, .int v3), (4, .int v4), (5, .int v5), (6, .int v6), (7, .int v7)]) (st' := []) (S1 := (wI S5 542 ((((9 : Int32) * v6) + v7)).toNatClampNeg r4)) (nL := 9) (cd := cd_2446) mx_2446 rfl rfl rfl rfl g ?_
  obtain ⟨S6, eS6, h⟩ := ltE h
  rw [← eS6]
  refine RR.weak [(0, .ref 500), (3, .int v3), (4, .int v4), (5, .int v5), (6, .int v6), (7, .int v7)] ⟨rfl, rfl, rfl, rfl, rfl, rfl, trivial⟩ ?_
  exact s_m_compares_187 _ b50 _ _ _ _ _ _ h
def m_compares_50 (k40 : Int32 → Int32 → Int32 → Int32 → St → Re Unit) : Nat → Int32 → Int32 → Int32 → Int32 → Int32 → St → Re Unit
  | 0, _, _, _, _, _, _ => none
  | n + 1, v3, v4, v5, v6, v7, S =>
  if v5 < v7 then (
    m_compares_193 k40 v3 v4 v5 v6 S)
  else (
    if v6 = 0 then (
      m_compares_67 (m_compares_50 k40 n) v3 v4 v5 v6 v7 S)
    else (
      if v7 = 0 then (
        m_compares_67 (m_compares_50 k40 n) v3 v4 v5 v6 v7 S)
      else (
        if ((((9 : Int32) * (v6 - (1 : Int32))) + v7) - (1 : Int32)) < 0 ∨ 81 ≤ (((((9 : Int32) * (v6 - (1 : Int32))) + v7) - (1 : Int32))).toNatClampNeg then none else
        if (v6 - (1 : Int32)) < 0 ∨ 8 ≤ ((v6 - (1 : Int32))).toNatClampNeg then none else
        if (v7 - (1 : Int32)) < 0 ∨ 8 ≤ ((v7 - (1 : Int32))).toNatClampNeg then none else
        if (rI S 540 ((v6 - (1 : Int32))).toNatClampNeg) = (rI S 541 ((v7 - (1 : Int32))).toNatClampNeg) then (
          m_compares_131 (m_compares_50 k40 n) v3 v4 v5 v6 v7 (0 : Int32) ((rI S 542 (((((9 : Int32) * (v6 - (1 : Int32))) + v7) - (1 : Int32))).toNatClampNeg)) S)
        else (
          m_compares_131 (m_compares_50 k40 n) v3 v4 v5 v6 v7 (1 : Int32) ((rI S 542 (((((9 : Int32) * (v6 - (1 : Int32))) + v7) - (1 : Int32))).toNatClampNeg)) S))))
set_option maxRecDepth 100000 in
theorem s_m_compares_50 {d : Nat} (k40 : Int32 → Int32 → Int32 → Int32 → St → Re Unit) {S' : St} {r : Unit} (b40 : ∀ (v3 : Int32) (v4 : Int32) (v5 : Int32) (v6 : Int32) (S : St), k40 v3 v4 v5 v6 S = some (r, S') → RR KM (d + 3) 2446 40 [(0, .ref 500), (3, .int v3), (4, .int v4), (5, .int v5), (6, .int v6)] [] S none S') : ∀ (n : Nat) (v3 : Int32) (v4 : Int32) (v5 : Int32) (v6 : Int32) (v7 : Int32) (S : St), m_compares_50 k40 n v3 v4 v5 v6 v7 S = some (r, S') → RR KM (d + 3) 2446 50 [(0, .ref 500), (3, .int v3), (4, .int v4), (5, .int v5), (6, .int v6), (7, .int v7)] [] S none S' := by
  intro n
  induction n with
  | zero => intro v3 v4 v5 v6 v7 S h; simp only [m_compares_50] at h; cases h
  | succ n ih =>
    intro v3 v4 v5 v6 v7 S h
    simp only [m_compares_50] at h
    refine RR.runs (pc' := icm .gt v7 v5 193 57) (lc' := [(0, .ref 500), (3, .int v3), (4, .int v4), (5, .int v5), (6, .int v6), (7, .int v7)]) (st' := []) (S1 := S) (nL := 9) (cd := cd_2446) mx_2446 rfl rfl 3 rfl ?_
    rcases ifE h with ⟨c, h⟩ | ⟨c, h⟩
    · refine RR.c_gt (fun _ => ?_) (fun q => absurd c q)
      refine RR.weak [(0, .ref 500), (3, .int v3), (4, .int v4), (5, .int v5), (6, .int v6)] ⟨rfl, rfl, rfl, rfl, rfl, trivial⟩ ?_
      exact s_m_compares_193 _ b40 _ _ _ _ _ h
    · refine RR.c_gt (fun q => absurd q c) (fun _ => ?_)
      refine RR.runs (pc' := icm .eq v6 0 67 62) (lc' := [(0, .ref 500), (3, .int v3), (4, .int v4), (5, .int v5), (6, .int v6), (7, .int v7)]) (st' := []) (S1 := S) (nL := 9) (cd := cd_2446) mx_2446 rfl rfl 2 rfl ?_
      rcases ifE h with ⟨c, h⟩ | ⟨c, h⟩
      · refine RR.c_eq (fun _ => ?_) (fun q => absurd c q)
        refine RR.weak [(0, .ref 500), (3, .int v3), (4, .int v4), (5, .int v5), (6, .int v6), (7, .int v7)] ⟨rfl, rfl, rfl, rfl, rfl, rfl, trivial⟩ ?_
        exact s_m_compares_67 _ (fun _ _ _ _ _ S h => ih _ _ _ _ _ S h) _ _ _ _ _ _ h
      · refine RR.c_eq (fun q => absurd q c) (fun _ => ?_)
        refine RR.runs (pc' := icm .ne v7 0 88 67) (lc' := [(0, .ref 500), (3, .int v3), (4, .int v4), (5, .int v5), (6, .int v6), (7, .int v7)]) (st' := []) (S1 := S) (nL := 9) (cd := cd_2446) mx_2446 rfl rfl 2 rfl ?_
        rcases ifE h with ⟨c, h⟩ | ⟨c, h⟩
        · refine RR.c_ne (fun _ => ?_) (fun q => absurd c q)
          refine RR.weak [(0, .ref 500), (3, .int v3), (4, .int v4), (5, .int v5), (6, .int v6), (7, .int v7)] ⟨rfl, rfl, rfl, rfl, rfl, rfl, trivial⟩ ?_
          exact s_m_compares_67 _ (fun _ _ _ _ _ S h => ih _ _ _ _ _ S h) _ _ _ _ _ _ h
        · refine RR.c_ne (fun q => absurd q c) (fun _ => ?_)
          refine RR.runs (pc' := 104) (lc' := [(0, .ref 500), (3, .int v3), (4, .int v4), (5, .int v5), (6, .int v6), (7, .int v7)]) (st' := [.int (((((9 : Int32) * (v6 - (1 : Int32))) + v7) - (1 : Int32))), .ref 542]) (S1 := S) (nL := 9) (cd := cd_2446) mx_2446 rfl rfl 11 rfl ?_
          obtain ⟨g, h⟩ := gnE h
          refine RR.gPN (c2 := (KM.1 542).1 = 1) (pc' := 105) (lc' := [(0, .ref 500), (3, .int v3), (4, .int v4), (5, .int v5), (6, .int v6), (7, .int v7)]) (st' := [.int ((rI S 542 (((((9 : Int32) * (v6 - (1 : Int32))) + v7) - (1 : Int32))).toNatClampNeg))]) (S1 := S) (nL := 9) (cd := cd_2446) mx_2446 rfl rfl rfl rfl g ?_
          refine RR.runs (pc' := 113) (lc' := [(0, .ref 500), (3, .int v3), (4, .int v4), (5, .int v5), (6, .int v6), (7, .int v7)]) (st' := [.int ((v6 - (1 : Int32))), .ref 540, .int ((rI S 542 (((((9 : Int32) * (v6 - (1 : Int32))) + v7) - (1 : Int32))).toNatClampNeg))]) (S1 := S) (nL := 9) (cd := cd_2446) mx_2446 rfl rfl 5 rfl ?_
          obtain ⟨g, h⟩ := gnE h
          refine RR.gPN (c2 := (KM.1 540).1 = 1) (pc' := 114) (lc' := [(0, .ref 500), (3, .int v3), (4, .int v4), (5, .int v5), (6, .int v6), (7, .int v7)]) (st' := [.int ((rI S 540 ((v6 - (1 : Int32))).toNatClampNeg)), .int ((rI S 542 (((((9 : Int32) * (v6 - (1 : Int32))) + v7) - (1 : Int32))).toNatClampNeg))]) (S1 := S) (nL := 9) (cd := cd_2446) mx_2446 rfl rfl rfl rfl g ?_
          refine RR.runs (pc' := 122) (lc' := [(0, .ref 500), (3, .int v3), (4, .int v4), (5, .int v5), (6, .int v6), (7, .int v7)]) (st' := [.int ((v7 - (1 : Int32))), .ref 541, .int ((rI S 540 ((v6 - (1 : Int32))).toNatClampNeg)), .int ((rI S 542 (((((9 : Int32) * (v6 - (1 : Int32))) + v7) - (1 : Int32))).toNatClampNeg))]) (S1 := S) (nL := 9) (cd := cd_2446) mx_2446 rfl rfl 5 rfl ?_
          obtain ⟨g, h⟩ := gnE h
          refine RR.gPN (c2 := (KM.1 541).1 = 1) (pc' := 123) (lc' := [(0, .ref 500), (3, .int v3), (4, .int v4), (5, .int v5), (6, .int v6), (7, .int v7)]) (st' := [.int ((rI S 541 ((v7 - (1 : Int32))).toNatClampNeg)), .int ((rI S 540 ((v6 - (1 : Int32))).toNatClampNeg)), .int ((rI S 542 (((((9 : Int32) * (v6 - (1 : Int32))) + v7) - (1 : Int32))).toNatClampNeg))]) (S1 := S) (nL := 9) (cd := cd_2446) mx_2446 rfl rfl rfl rfl g ?_
          refine RR.runs (pc' := icm .ne ((rI S 540 ((v6 - (1 : Int32))).toNatClampNeg)) ((rI S 541 ((v7 - (1 : Int32))).toNatClampNeg)) 130 126) (lc' := [(0, .ref 500), (3, .int v3), (4, .int v4), (5, .int v5), (6, .int v6), (7, .int v7)]) (st' := [.int ((rI S 542 (((((9 : Int32) * (v6 - (1 : Int32))) + v7) - (1 : Int32))).toNatClampNeg))]) (S1 := S) (nL := 9) (cd := cd_2446) mx_2446 rfl rfl 1 rfl ?_
          rcases ifE h with ⟨c, h⟩ | ⟨c, h⟩
          · refine RR.c_ne (fun _ => ?_) (fun q => absurd c q)
            refine RR.runs (pc' := 131) (lc' := [(0, .ref 500), (3, .int v3), (4, .int v4), (5, .int v5), (6, .int v6), (7, .int v7)]) (st' := [.int (0 : Int32), .int ((rI S 542 (((((9 : Int32) * (v6 - (1 : Int32))) + v7) - (1 : Int32))).toNatClampNeg))]) (S1 := S) (nL := 9) (cd := cd_2446) mx_2446 rfl rfl 2 rfl ?_
            refine RR.weak [(0, .ref 500), (3, .int v3), (4, .int v4), (5, .int v5), (6, .int v6), (7, .int v7)] ⟨rfl, rfl, rfl, rfl, rfl, rfl, trivial⟩ ?_
            exact s_m_compares_131 _ (fun _ _ _ _ _ S h => ih _ _ _ _ _ S h) _ _ _ _ _ _ _ _ h
          · refine RR.c_ne (fun q => absurd q c) (fun _ => ?_)
            refine RR.runs (pc' := 131) (lc' := [(0, .ref 500), (3, .int v3), (4, .int v4), (5, .int v5), (6, .int v6), (7, .int v7)]) (st' := [.int (1 : Int32), .int ((rI S 542 (((((9 : Int32) * (v6 - (1 : Int32))) + v7) - (1 : Int32))).toNatClampNeg))]) (S1 := S) (nL := 9) (cd := cd_2446) mx_2446 rfl rfl 1 rfl ?_
            refine RR.weak [(0, .ref 500), (3, .int v3), (4, .int v4), (5, .int v5), (6, .int v6), (7, .int v7)] ⟨rfl, rfl, rfl, rfl, rfl, rfl, trivial⟩ ?_
            exact s_m_compares_131 _ (fun _ _ _ _ _ S h => ih _ _ _ _ _ S h) _ _ _ _ _ _ _ _ h
def m_compares_40 : Nat → Int32 → Int32 → Int32 → Int32 → St → Re Unit
  | 0, _, _, _, _, _ => none
  | n + 1, v3, v4, v5, v6, S =>
  if v4 < v6 then (
    m_compares_199 v3 v4 v5 S)
  else (
    m_compares_50 (m_compares_40 n) FU v3 v4 v5 v6 (0 : Int32) S)
set_option maxRecDepth 100000 in
theorem s_m_compares_40 {d : Nat} {S' : St} {r : Unit} : ∀ (n : Nat) (v3 : Int32) (v4 : Int32) (v5 : Int32) (v6 : Int32) (S : St), m_compares_40 n v3 v4 v5 v6 S = some (r, S') → RR KM (d + 3) 2446 40 [(0, .ref 500), (3, .int v3), (4, .int v4), (5, .int v5), (6, .int v6)] [] S none S' := by
  intro n
  induction n with
  | zero => intro v3 v4 v5 v6 S h; simp only [m_compares_40] at h; cases h
  | succ n ih =>
    intro v3 v4 v5 v6 S h
    simp only [m_compares_40] at h
    refine RR.runs (pc' := icm .gt v6 v4 199 47) (lc' := [(0, .ref 500), (3, .int v3), (4, .int v4), (5, .int v5), (6, .int v6)]) (st' := []) (S1 := S) (nL := 9) (cd := cd_2446) mx_2446 rfl rfl 3 rfl ?_
    rcases ifE h with ⟨c, h⟩ | ⟨c, h⟩
    · refine RR.c_gt (fun _ => ?_) (fun q => absurd c q)
      refine RR.weak [(0, .ref 500), (3, .int v3), (4, .int v4), (5, .int v5)] ⟨rfl, rfl, rfl, rfl, trivial⟩ ?_
      exact s_m_compares_199 _ _ _ _ h
    · refine RR.c_gt (fun q => absurd q c) (fun _ => ?_)
      refine RR.runs (pc' := 50) (lc' := [(7, .int (0 : Int32)), (0, .ref 500), (3, .int v3), (4, .int v4), (5, .int v5), (6, .int v6)]) (st' := []) (S1 := S) (nL := 9) (cd := cd_2446) mx_2446 rfl rfl 2 rfl ?_
      refine RR.weak [(0, .ref 500), (3, .int v3), (4, .int v4), (5, .int v5), (6, .int v6), (7, .int (0 : Int32))] ⟨rfl, rfl, rfl, rfl, rfl, rfl, trivial⟩ ?_
      exact s_m_compares_50 _ (fun _ _ _ _ S h => ih _ _ _ _ S h) _ _ _ _ _ _ _ h
def m_compares (v1 : Int32) (v2 : Int32) (S : St) : Re Unit :=
  lt' ((((16 : Int32) * v1) + v2) : Int32) fun x1 =>
  if v1 < 0 ∨ 32 ≤ v1.toNatClampNeg then none else
  bn (m_spells (rJ S 503 v1.toNatClampNeg) 540 S) fun r2 S3 =>
  if v2 < 0 ∨ 32 ≤ v2.toNatClampNeg then none else
  bn (m_spells (rJ S3 503 v2.toNatClampNeg) 541 S3) fun r4 S5 =>
  m_compares_40 FU x1 r2 r4 (0 : Int32) S5
set_option maxRecDepth 100000 in
theorem s0_m_compares {d : Nat} {S' : St} {r : Unit} (v1 : Int32) (v2 : Int32) (S : St) (h : m_compares v1 v2 S = some (r, S')) : RR KM (d + 3) 2446 0 [(0, .ref 500), (1, .int v1), (2, .int v2)] [] S none S' := by
  unfold m_compares at h
  refine RR.runs (pc' := 7) (lc' := [(3, .int ((((16 : Int32) * v1) + v2))), (0, .ref 500), (1, .int v1), (2, .int v2)]) (st' := []) (S1 := S) (nL := 9) (cd := cd_2446) mx_2446 rfl rfl 6 rfl ?_
  obtain ⟨x1, ex1, h⟩ := ltE h
  rw [← ex1]
  refine RR.runs (pc' := 12) (lc' := [(3, .int x1), (0, .ref 500), (1, .int v1), (2, .int v2)]) (st' := [.int v1, .ref 503]) (S1 := S) (nL := 9) (cd := cd_2446) mx_2446 rfl rfl 3 rfl ?_
  obtain ⟨g, h⟩ := gnE h
  refine RR.gPN (c2 := (KM.1 503).1 = 4) (pc' := 13) (lc' := [(3, .int x1), (0, .ref 500), (1, .int v1), (2, .int v2)]) (st' := [.long (rJ S 503 v1.toNatClampNeg)]) (S1 := S) (nL := 9) (cd := cd_2446) mx_2446 rfl rfl rfl rfl g ?_
  refine RR.runs (pc' := 17) (lc' := [(3, .int x1), (0, .ref 500), (1, .int v1), (2, .int v2)]) (st' := [.ref 540, .long (rJ S 503 v1.toNatClampNeg)]) (S1 := S) (nL := 9) (cd := cd_2446) mx_2446 rfl rfl 2 rfl ?_
  obtain ⟨r2, S3, h1, h⟩ := bnE h
  refine RR.callS (as := [.long (rJ S 503 v1.toNatClampNeg), .ref 540]) (rest := []) (r1 := (some (.int r2))) (S1 := S3) mx_2446 rfl rfl mx_2445 rfl rfl (by decide) (Nat.le_of_ble_eq_true rfl) (Nat.le_of_ble_eq_true rfl) (Nat.le_of_ble_eq_true rfl) (RC.deep (by omega) (s_m_spells (d := d) _ _ _ h1)) ?_
  show RR KM _ 2446 20 [(3, .int x1), (0, .ref 500), (1, .int v1), (2, .int v2)] [.int r2] S3 _ _
  refine RR.runs (pc' := 27) (lc' := [(4, .int r2), (3, .int x1), (0, .ref 500), (1, .int v1), (2, .int v2)]) (st' := [.int v2, .ref 503]) (S1 := S3) (nL := 9) (cd := cd_2446) mx_2446 rfl rfl 4 rfl ?_
  obtain ⟨g, h⟩ := gnE h
  refine RR.gPN (c2 := (KM.1 503).1 = 4) (pc' := 28) (lc' := [(4, .int r2), (3, .int x1), (0, .ref 500), (1, .int v1), (2, .int v2)]) (st' := [.long (rJ S3 503 v2.toNatClampNeg)]) (S1 := S3) (nL := 9) (cd := cd_2446) mx_2446 rfl rfl rfl rfl g ?_
  refine RR.runs (pc' := 32) (lc' := [(4, .int r2), (3, .int x1), (0, .ref 500), (1, .int v1), (2, .int v2)]) (st' := [.ref 541, .long (rJ S3 503 v2.toNatClampNeg)]) (S1 := S3) (nL := 9) (cd := cd_2446) mx_2446 rfl rfl 2 rfl ?_
  obtain ⟨r4, S5, h1, h⟩ := bnE h
  refine RR.callS (as := [.long (rJ S3 503 v2.toNatClampNeg), .ref 541]) (rest := []) (r1 := (some (.int r4))) (S1 := S5) mx_2446 rfl rfl mx_2445 rfl rfl (by decide) (Nat.le_of_ble_eq_true rfl) (Nat.le_of_ble_eq_true rfl) (Nat.le_of_ble_eq_true rfl) (RC.deep (by omega) (s_m_spells (d := d) _ _ _ h1)) ?_
  show RR KM _ 2446 35 [(4, .int r2), (3, .int x1), (0, .ref 500), (1, .int v1), (2, .int v2)] [.int r4] S5 _ _
  refine RR.runs (pc' := 40) (lc' := [(6, .int (0 : Int32)), (5, .int r4), (4, .int r2), (3, .int x1), (0, .ref 500), (1, .int v1), (2, .int v2)]) (st' := []) (S1 := S5) (nL := 9) (cd := cd_2446) mx_2446 rfl rfl 3 rfl ?_
  refine RR.weak [(0, .ref 500), (3, .int x1), (4, .int r2), (5, .int r4), (6, .int (0 : Int32))] ⟨rfl, rfl, rfl, rfl, rfl, trivial⟩ ?_
  exact s_m_compares_40 _ _ _ _ _ _ h
theorem s_m_compares {d : Nat} {S' : St} {r : Unit} (v1 : Int32) (v2 : Int32) (S : St) (h : m_compares v1 v2 S = some (r, S')) : RC KM (d + 3) 2446 [.ref 500, .int v1, .int v2] S none S' := RC.of rfl (s0_m_compares v1 v2 S h)
-- lays ()V
def m_lays_259 (k225 : Int32 → St → Re Unit) (v1 : Int32) (S : St) : Re Unit :=
  lt' ((v1 + (1 : Int32)) : Int32) fun x1 =>
  k225 x1 S
set_option maxRecDepth 100000 in
theorem s_m_lays_259 {d : Nat} (k225 : Int32 → St → Re Unit) {S' : St} {r : Unit} (b225 : ∀ (v1 : Int32) (S : St), k225 v1 S = some (r, S') → RR KM (d + 4) 2444 225 [(0, .ref 500), (1, .int v1)] [] S none S') (v1 : Int32) (S : St) (h : m_lays_259 k225 v1 S = some (r, S')) : RR KM (d + 4) 2444 259 [(0, .ref 500), (1, .int v1)] [] S none S' := by
  unfold m_lays_259 at h
  refine RR.runs (pc' := 262) (lc' := [(1, .int ((v1 + (1 : Int32)))), (0, .ref 500)]) (st' := []) (S1 := S) (nL := 3) (cd := cd_2444) mx_2444 rfl rfl 1 rfl ?_
  obtain ⟨x1, ex1, h⟩ := ltE h
  rw [← ex1]
  refine RR.runs (pc' := 225) (lc' := [(1, .int x1), (0, .ref 500)]) (st' := []) (S1 := S) (nL := 3) (cd := cd_2444) mx_2444 rfl rfl 1 rfl ?_
  refine RR.weak [(0, .ref 500), (1, .int x1)] ⟨rfl, rfl, trivial⟩ ?_
  exact b225 _ _ h
def m_lays_237 (k225 : Int32 → St → Re Unit) : Nat → Int32 → Int32 → St → Re Unit
  | 0, _, _, _ => none
  | n + 1, v1, v2, S =>
  if (1 : Int32) < 0 ∨ 12 ≤ (1 : Int32).toNatClampNeg then none else
  if v2 < (rI S 502 (1 : Int32).toNatClampNeg) then (
    bn (m_compares v1 v2 S) fun r1 S2 =>
    lt' ((v2 + (1 : Int32)) : Int32) fun x3 =>
    m_lays_237 k225 n v1 x3 S2)
  else (
    m_lays_259 k225 v1 S)
set_option maxRecDepth 100000 in
theorem s_m_lays_237 {d : Nat} (k225 : Int32 → St → Re Unit) {S' : St} {r : Unit} (b225 : ∀ (v1 : Int32) (S : St), k225 v1 S = some (r, S') → RR KM (d + 4) 2444 225 [(0, .ref 500), (1, .int v1)] [] S none S') : ∀ (n : Nat) (v1 : Int32) (v2 : Int32) (S : St), m_lays_237 k225 n v1 v2 S = some (r, S') → RR KM (d + 4) 2444 237 [(0, .ref 500), (1, .int v1), (2, .int v2)] [] S none S' := by
  intro n
  induction n with
  | zero => intro v1 v2 S h; simp only [m_lays_237] at h; cases h
  | succ n ih =>
    intro v1 v2 S h
    simp only [m_lays_237] at h
    refine RR.runs (pc' := 243) (lc' := [(0, .ref 500), (1, .int v1), (2, .int v2)]) (st' := [.int (1 : Int32), .ref 502, .int v2]) (S1 := S) (nL := 3) (cd := cd_2444) mx_2444 rfl rfl 4 rfl ?_
    obtain ⟨g, h⟩ := gnE h
    refine RR.gPN (c2 := (KM.1 502).1 = 1) (pc' := 244) (lc' := [(0, .ref 500), (1, .int v1), (2, .int v2)]) (st' := [.int ((rI S 502 (1 : Int32).toNatClampNeg)), .int v2]) (S1 := S) (nL := 3) (cd := cd_2444) mx_2444 rfl rfl rfl rfl g ?_
    refine RR.runs (pc' := icm .ge v2 ((rI S 502 (1 : Int32).toNatClampNeg)) 259 247) (lc' := [(0, .ref 500), (1, .int v1), (2, .int v2)]) (st' := []) (S1 := S) (nL := 3) (cd := cd_2444) mx_2444 rfl rfl 1 rfl ?_
    rcases ifE h with ⟨c, h⟩ | ⟨c, h⟩
    · refine RR.c_ge (fun _ => ?_) (fun q => absurd c q)
      refine RR.runs (pc' := 250) (lc' := [(0, .ref 500), (1, .int v1), (2, .int v2)]) (st' := [.int v2, .int v1, .ref 500]) (S1 := S) (nL := 3) (cd := cd_2444) mx_2444 rfl rfl 3 rfl ?_
      obtain ⟨r1, S2, h1, h⟩ := bnE h
      refine RR.callV (b := 500) (as := [.int v1, .int v2]) (rest := []) (r1 := none) (S1 := S2) mx_2444 rfl rfl mx_2446 rfl rfl (by decide) (Or.inl rfl) (Nat.le_of_ble_eq_true rfl) (Nat.le_of_ble_eq_true rfl) (RC.deep (by omega) (s_m_compares (d := d) _ _ _ h1)) ?_
      show RR KM _ 2444 253 [(0, .ref 500), (1, .int v1), (2, .int v2)] [] S2 _ _
      refine RR.runs (pc' := 256) (lc' := [(2, .int ((v2 + (1 : Int32)))), (0, .ref 500), (1, .int v1)]) (st' := []) (S1 := S2) (nL := 3) (cd := cd_2444) mx_2444 rfl rfl 1 rfl ?_
      obtain ⟨x3, ex3, h⟩ := ltE h
      rw [← ex3]
      refine RR.runs (pc' := 237) (lc' := [(2, .int x3), (0, .ref 500), (1, .int v1)]) (st' := []) (S1 := S2) (nL := 3) (cd := cd_2444) mx_2444 rfl rfl 1 rfl ?_
      refine RR.weak [(0, .ref 500), (1, .int v1), (2, .int x3)] ⟨rfl, rfl, rfl, trivial⟩ ?_
      exact ih _ _ _ h
    · refine RR.c_ge (fun q => absurd q c) (fun _ => ?_)
      refine RR.weak [(0, .ref 500), (1, .int v1)] ⟨rfl, rfl, trivial⟩ ?_
      exact s_m_lays_259 _ b225 _ _ h
def m_lays_265 (S : St) : Re Unit :=
  some ((), S)
set_option maxRecDepth 100000 in
theorem s_m_lays_265 {d : Nat} {S' : St} {r : Unit} (S : St) (h : m_lays_265 S = some (r, S')) : RR KM (d + 4) 2444 265 [] [] S none S' := by
  unfold m_lays_265 at h
  cases h
  exact RR.retv mx_2444 rfl rfl rfl
def m_lays_225 : Nat → Int32 → St → Re Unit
  | 0, _, _ => none
  | n + 1, v1, S =>
  if (1 : Int32) < 0 ∨ 12 ≤ (1 : Int32).toNatClampNeg then none else
  if v1 < (rI S 502 (1 : Int32).toNatClampNeg) then (
    m_lays_237 (m_lays_225 n) FU v1 (0 : Int32) S)
  else (
    m_lays_265 S)
set_option maxRecDepth 100000 in
theorem s_m_lays_225 {d : Nat} {S' : St} {r : Unit} : ∀ (n : Nat) (v1 : Int32) (S : St), m_lays_225 n v1 S = some (r, S') → RR KM (d + 4) 2444 225 [(0, .ref 500), (1, .int v1)] [] S none S' := by
  intro n
  induction n with
  | zero => intro v1 S h; simp only [m_lays_225] at h; cases h
  | succ n ih =>
    intro v1 S h
    simp only [m_lays_225] at h
    refine RR.runs (pc' := 231) (lc' := [(0, .ref 500), (1, .int v1)]) (st' := [.int (1 : Int32), .ref 502, .int v1]) (S1 := S) (nL := 3) (cd := cd_2444) mx_2444 rfl rfl 4 rfl ?_
    obtain ⟨g, h⟩ := gnE h
    refine RR.gPN (c2 := (KM.1 502).1 = 1) (pc' := 232) (lc' := [(0, .ref 500), (1, .int v1)]) (st' := [.int ((rI S 502 (1 : Int32).toNatClampNeg)), .int v1]) (S1 := S) (nL := 3) (cd := cd_2444) mx_2444 rfl rfl rfl rfl g ?_
    refine RR.runs (pc' := icm .ge v1 ((rI S 502 (1 : Int32).toNatClampNeg)) 265 235) (lc' := [(0, .ref 500), (1, .int v1)]) (st' := []) (S1 := S) (nL := 3) (cd := cd_2444) mx_2444 rfl rfl 1 rfl ?_
    rcases ifE h with ⟨c, h⟩ | ⟨c, h⟩
    · refine RR.c_ge (fun _ => ?_) (fun q => absurd c q)
      refine RR.runs (pc' := 237) (lc' := [(2, .int (0 : Int32)), (0, .ref 500), (1, .int v1)]) (st' := []) (S1 := S) (nL := 3) (cd := cd_2444) mx_2444 rfl rfl 2 rfl ?_
      refine RR.weak [(0, .ref 500), (1, .int v1), (2, .int (0 : Int32))] ⟨rfl, rfl, rfl, trivial⟩ ?_
      exact s_m_lays_237 _ (fun _ S h => ih _ S h) _ _ _ _ h
    · refine RR.c_ge (fun q => absurd q c) (fun _ => ?_)
      refine RR.weak [] trivial ?_
      exact s_m_lays_265 _ h
def m_lays_223 (S : St) : Re Unit :=
  m_lays_225 FU (0 : Int32) S
set_option maxRecDepth 100000 in
theorem s_m_lays_223 {d : Nat} {S' : St} {r : Unit} (S : St) (h : m_lays_223 S = some (r, S')) : RR KM (d + 4) 2444 223 [(0, .ref 500)] [] S none S' := by
  unfold m_lays_223 at h
  refine RR.runs (pc' := 225) (lc' := [(1, .int (0 : Int32)), (0, .ref 500)]) (st' := []) (S1 := S) (nL := 3) (cd := cd_2444) mx_2444 rfl rfl 2 rfl ?_
  refine RR.weak [(0, .ref 500), (1, .int (0 : Int32))] ⟨rfl, rfl, trivial⟩ ?_
  exact s_m_lays_225 _ _ _ h
def m_lays_176 : Nat → Int32 → St → Re Unit
  | 0, _, _ => none
  | n + 1, v1, S =>
  if v1 < (2 : Int32) then (
    if ((2 : Int32) + v1) < 0 ∨ 4 ≤ (((2 : Int32) + v1)).toNatClampNeg then none else
    if v1 < 0 ∨ 4 ≤ v1.toNatClampNeg then none else
    lt' (wI S 521 v1.toNatClampNeg (((rI S 521 (((2 : Int32) + v1)).toNatClampNeg) - (1000 : Int32)))) fun S1 =>
    if ((2 : Int32) + v1) < 0 ∨ 4 ≤ (((2 : Int32) + v1)).toNatClampNeg then none else
    if v1 < 0 ∨ 4 ≤ v1.toNatClampNeg then none else
    lt' (wI S1 522 v1.toNatClampNeg (((rI S1 522 (((2 : Int32) + v1)).toNatClampNeg) - (1000 : Int32)))) fun S2 =>
    lt' ((v1 + (1 : Int32)) : Int32) fun x3 =>
    m_lays_176 n x3 S2)
  else (
    m_lays_223 S)
set_option maxRecDepth 100000 in
theorem s_m_lays_176 {d : Nat} {S' : St} {r : Unit} : ∀ (n : Nat) (v1 : Int32) (S : St), m_lays_176 n v1 S = some (r, S') → RR KM (d + 4) 2444 176 [(0, .ref 500), (1, .int v1)] [] S none S' := by
  intro n
  induction n with
  | zero => intro v1 S h; simp only [m_lays_176] at h; cases h
  | succ n ih =>
    intro v1 S h
    simp only [m_lays_176] at h
    refine RR.runs (pc' := icm .ge v1 (2 : Int32) 223 181) (lc' := [(0, .ref 500), (1, .int v1)]) (st' := []) (S1 := S) (nL := 3) (cd := cd_2444) mx_2444 rfl rfl 3 rfl ?_
    rcases ifE h with ⟨c, h⟩ | ⟨c, h⟩
    · refine RR.c_ge (fun _ => ?_) (fun q => absurd c q)
      refine RR.runs (pc' := 193) (lc' := [(0, .ref 500), (1, .int v1)]) (st' := [.int (((2 : Int32) + v1)), .ref 521, .int v1, .ref 521]) (S1 := S) (nL := 3) (cd := cd_2444) mx_2444 rfl rfl 8 rfl ?_
      obtain ⟨g, h⟩ := gnE h
      refine RR.gPN (c2 := (KM.1 521).1 = 1) (pc' := 194) (lc' := [(0, .ref 500), (1, .int v1)]) (st' := [.int ((rI S 521 (((2 : Int32) + v1)).toNatClampNeg)), .int v1, .ref 521]) (S1 := S) (nL := 3) (cd := cd_2444) mx_2444 rfl rfl rfl rfl g ?_
      refine RR.runs (pc' := 198) (lc' := [(0, .ref 500), (1, .int v1)]) (st' := [.int (((rI S 521 (((2 : Int32) + v1)).toNatClampNeg) - (1000 : Int32))), .int v1, .ref 521]) (S1 := S) (nL := 3) (cd := cd_2444) mx_2444 rfl rfl 2 rfl ?_
      obtain ⟨g, h⟩ := gnE h
      refine RR.gPN (c2 := (KM.1 521).1 = 1) (pc' := 199) (lc' := [(0, .ref 500), (1, .int v1)]) (st' := []) (S1 := (wI S 521 v1.toNatClampNeg (((rI S 521 (((2 : Int32) + v1)).toNatClampNeg) - (1000 : Int32))))) (nL := 3) (cd := cd_2444) mx_2444 rfl rfl rfl rfl g ?_
      obtain ⟨S1, eS1, h⟩ := ltE h
      rw [← eS1]
      refine RR.runs (pc' := 211) (lc' := [(0, .ref 500), (1, .int v1)]) (st' := [.int (((2 : Int32) + v1)), .ref 522, .int v1, .ref 522]) (S1 := S1) (nL := 3) (cd := cd_2444) mx_2444 rfl rfl 8 rfl ?_
      obtain ⟨g, h⟩ := gnE h
      refine RR.gPN (c2 := (KM.1 522).1 = 1) (pc' := 212) (lc' := [(0, .ref 500), (1, .int v1)]) (st' := [.int ((rI S1 522 (((2 : Int32) + v1)).toNatClampNeg)), .int v1, .ref 522]) (S1 := S1) (nL := 3) (cd := cd_2444) mx_2444 rfl rfl rfl rfl g ?_
      refine RR.runs (pc' := 216) (lc' := [(0, .ref 500), (1, .int v1)]) (st' := [.int (((rI S1 522 (((2 : Int32) + v1)).toNatClampNeg) - (1000 : Int32))), .int v1, .ref 522]) (S1 := S1) (nL := 3) (cd := cd_2444) mx_2444 rfl rfl 2 rfl ?_
      obtain ⟨g, h⟩ := gnE h
      refine RR.gPN (c2 := (KM.1 522).1 = 1) (pc' := 217) (lc' := [(0, .ref 500), (1, .int v1)]) (st' := []) (S1 := (wI S1 522 v1.toNatClampNeg (((rI S1 522 (((2 : Int32) + v1)).toNatClampNeg) - (1000 : Int32))))) (nL := 3) (cd := cd_2444) mx_2444 rfl rfl rfl rfl g ?_
      obtain ⟨S2, eS2, h⟩ := ltE h
      rw [← eS2]
      refine RR.runs (pc' := 220) (lc' := [(1, .int ((v1 + (1 : Int32)))), (0, .ref 500)]) (st' := []) (S1 := S2) (nL := 3) (cd := cd_2444) mx_2444 rfl rfl 1 rfl ?_
      obtain ⟨x3, ex3, h⟩ := ltE h
      rw [← ex3]
      refine RR.runs (pc' := 176) (lc' := [(1, .int x3), (0, .ref 500)]) (st' := []) (S1 := S2) (nL := 3) (cd := cd_2444) mx_2444 rfl rfl 1 rfl ?_
      refine RR.weak [(0, .ref 500), (1, .int x3)] ⟨rfl, rfl, trivial⟩ ?_
      exact ih _ _ h
    · refine RR.c_ge (fun q => absurd q c) (fun _ => ?_)
      refine RR.weak [(0, .ref 500)] ⟨rfl, trivial⟩ ?_
      exact s_m_lays_223 _ h
def m_lays (S : St) : Re Unit :=
  bn (m_moves 502 (6 : Int32) S) fun r1 S2 =>
  bn (m_movesNames 503 (16 : Int32) S2) fun r3 S4 =>
  bn (m_movesNames 504 (5 : Int32) S4) fun r5 S6 =>
  bn (m_moves 505 (10 : Int32) S6) fun r7 S8 =>
  bn (m_moves 506 (10 : Int32) S8) fun r9 S10 =>
  bn (m_moves 507 (10 : Int32) S10) fun r11 S12 =>
  bn (m_moves 508 (10 : Int32) S12) fun r13 S14 =>
  bn (m_moves 509 (10 : Int32) S14) fun r15 S16 =>
  bn (m_moves 510 (10 : Int32) S16) fun r17 S18 =>
  bn (m_moves 511 (10 : Int32) S18) fun r19 S20 =>
  bn (m_moves 512 (5 : Int32) S20) fun r21 S22 =>
  bn (m_moves 513 (5 : Int32) S22) fun r23 S24 =>
  bn (m_moves 514 (5 : Int32) S24) fun r25 S26 =>
  bn (m_moves 515 (6 : Int32) S26) fun r27 S28 =>
  bn (m_moves 516 (6 : Int32) S28) fun r29 S30 =>
  bn (m_moves 517 (40 : Int32) S30) fun r31 S32 =>
  bn (m_moves 518 (4 : Int32) S32) fun r33 S34 =>
  bn (m_moves 519 (4 : Int32) S34) fun r35 S36 =>
  bn (m_moves 520 (4 : Int32) S36) fun r37 S38 =>
  bn (m_moves 523 (1000 : Int32) S38) fun r39 S40 =>
  m_lays_176 FU (0 : Int32) S40
set_option maxRecDepth 100000 in
theorem s0_m_lays {d : Nat} {S' : St} {r : Unit} (S : St) (h : m_lays S = some (r, S')) : RR KM (d + 4) 2444 0 [(0, .ref 500)] [] S none S' := by
  unfold m_lays at h
  refine RR.runs (pc' := 6) (lc' := [(0, .ref 500)]) (st' := [.int (6 : Int32), .ref 502]) (S1 := S) (nL := 3) (cd := cd_2444) mx_2444 rfl rfl 3 rfl ?_
  obtain ⟨r1, S2, h1, h⟩ := bnE h
  refine RR.callS (as := [.ref 502, .int (6 : Int32)]) (rest := []) (r1 := none) (S1 := S2) mx_2444 rfl rfl mx_2442 rfl rfl (by decide) (Nat.le_of_ble_eq_true rfl) (Nat.le_of_ble_eq_true rfl) (Nat.le_of_ble_eq_true rfl) (RC.deep (by omega) (s_m_moves (d := d) _ _ _ h1)) ?_
  show RR KM _ 2444 9 [(0, .ref 500)] [] S2 _ _
  refine RR.runs (pc' := 15) (lc' := [(0, .ref 500)]) (st' := [.int (16 : Int32), .ref 503]) (S1 := S2) (nL := 3) (cd := cd_2444) mx_2444 rfl rfl 3 rfl ?_
  obtain ⟨r3, S4, h1, h⟩ := bnE h
  refine RR.callS (as := [.ref 503, .int (16 : Int32)]) (rest := []) (r1 := none) (S1 := S4) mx_2444 rfl rfl mx_2443 rfl rfl (by decide) (Nat.le_of_ble_eq_true rfl) (Nat.le_of_ble_eq_true rfl) (Nat.le_of_ble_eq_true rfl) (RC.deep (by omega) (s_m_movesNames (d := d) _ _ _ h1)) ?_
  show RR KM _ 2444 18 [(0, .ref 500)] [] S4 _ _
  refine RR.runs (pc' := 23) (lc' := [(0, .ref 500)]) (st' := [.int (5 : Int32), .ref 504]) (S1 := S4) (nL := 3) (cd := cd_2444) mx_2444 rfl rfl 3 rfl ?_
  obtain ⟨r5, S6, h1, h⟩ := bnE h
  refine RR.callS (as := [.ref 504, .int (5 : Int32)]) (rest := []) (r1 := none) (S1 := S6) mx_2444 rfl rfl mx_2443 rfl rfl (by decide) (Nat.le_of_ble_eq_true rfl) (Nat.le_of_ble_eq_true rfl) (Nat.le_of_ble_eq_true rfl) (RC.deep (by omega) (s_m_movesNames (d := d) _ _ _ h1)) ?_
  show RR KM _ 2444 26 [(0, .ref 500)] [] S6 _ _
  refine RR.runs (pc' := 32) (lc' := [(0, .ref 500)]) (st' := [.int (10 : Int32), .ref 505]) (S1 := S6) (nL := 3) (cd := cd_2444) mx_2444 rfl rfl 3 rfl ?_
  obtain ⟨r7, S8, h1, h⟩ := bnE h
  refine RR.callS (as := [.ref 505, .int (10 : Int32)]) (rest := []) (r1 := none) (S1 := S8) mx_2444 rfl rfl mx_2442 rfl rfl (by decide) (Nat.le_of_ble_eq_true rfl) (Nat.le_of_ble_eq_true rfl) (Nat.le_of_ble_eq_true rfl) (RC.deep (by omega) (s_m_moves (d := d) _ _ _ h1)) ?_
  show RR KM _ 2444 35 [(0, .ref 500)] [] S8 _ _
  refine RR.runs (pc' := 41) (lc' := [(0, .ref 500)]) (st' := [.int (10 : Int32), .ref 506]) (S1 := S8) (nL := 3) (cd := cd_2444) mx_2444 rfl rfl 3 rfl ?_
  obtain ⟨r9, S10, h1, h⟩ := bnE h
  refine RR.callS (as := [.ref 506, .int (10 : Int32)]) (rest := []) (r1 := none) (S1 := S10) mx_2444 rfl rfl mx_2442 rfl rfl (by decide) (Nat.le_of_ble_eq_true rfl) (Nat.le_of_ble_eq_true rfl) (Nat.le_of_ble_eq_true rfl) (RC.deep (by omega) (s_m_moves (d := d) _ _ _ h1)) ?_
  show RR KM _ 2444 44 [(0, .ref 500)] [] S10 _ _
  refine RR.runs (pc' := 50) (lc' := [(0, .ref 500)]) (st' := [.int (10 : Int32), .ref 507]) (S1 := S10) (nL := 3) (cd := cd_2444) mx_2444 rfl rfl 3 rfl ?_
  obtain ⟨r11, S12, h1, h⟩ := bnE h
  refine RR.callS (as := [.ref 507, .int (10 : Int32)]) (rest := []) (r1 := none) (S1 := S12) mx_2444 rfl rfl mx_2442 rfl rfl (by decide) (Nat.le_of_ble_eq_true rfl) (Nat.le_of_ble_eq_true rfl) (Nat.le_of_ble_eq_true rfl) (RC.deep (by omega) (s_m_moves (d := d) _ _ _ h1)) ?_
  show RR KM _ 2444 53 [(0, .ref 500)] [] S12 _ _
  refine RR.runs (pc' := 59) (lc' := [(0, .ref 500)]) (st' := [.int (10 : Int32), .ref 508]) (S1 := S12) (nL := 3) (cd := cd_2444) mx_2444 rfl rfl 3 rfl ?_
  obtain ⟨r13, S14, h1, h⟩ := bnE h
  refine RR.callS (as := [.ref 508, .int (10 : Int32)]) (rest := []) (r1 := none) (S1 := S14) mx_2444 rfl rfl mx_2442 rfl rfl (by decide) (Nat.le_of_ble_eq_true rfl) (Nat.le_of_ble_eq_true rfl) (Nat.le_of_ble_eq_true rfl) (RC.deep (by omega) (s_m_moves (d := d) _ _ _ h1)) ?_
  show RR KM _ 2444 62 [(0, .ref 500)] [] S14 _ _
  refine RR.runs (pc' := 68) (lc' := [(0, .ref 500)]) (st' := [.int (10 : Int32), .ref 509]) (S1 := S14) (nL := 3) (cd := cd_2444) mx_2444 rfl rfl 3 rfl ?_
  obtain ⟨r15, S16, h1, h⟩ := bnE h
  refine RR.callS (as := [.ref 509, .int (10 : Int32)]) (rest := []) (r1 := none) (S1 := S16) mx_2444 rfl rfl mx_2442 rfl rfl (by decide) (Nat.le_of_ble_eq_true rfl) (Nat.le_of_ble_eq_true rfl) (Nat.le_of_ble_eq_true rfl) (RC.deep (by omega) (s_m_moves (d := d) _ _ _ h1)) ?_
  show RR KM _ 2444 71 [(0, .ref 500)] [] S16 _ _
  refine RR.runs (pc' := 77) (lc' := [(0, .ref 500)]) (st' := [.int (10 : Int32), .ref 510]) (S1 := S16) (nL := 3) (cd := cd_2444) mx_2444 rfl rfl 3 rfl ?_
  obtain ⟨r17, S18, h1, h⟩ := bnE h
  refine RR.callS (as := [.ref 510, .int (10 : Int32)]) (rest := []) (r1 := none) (S1 := S18) mx_2444 rfl rfl mx_2442 rfl rfl (by decide) (Nat.le_of_ble_eq_true rfl) (Nat.le_of_ble_eq_true rfl) (Nat.le_of_ble_eq_true rfl) (RC.deep (by omega) (s_m_moves (d := d) _ _ _ h1)) ?_
  show RR KM _ 2444 80 [(0, .ref 500)] [] S18 _ _
  refine RR.runs (pc' := 86) (lc' := [(0, .ref 500)]) (st' := [.int (10 : Int32), .ref 511]) (S1 := S18) (nL := 3) (cd := cd_2444) mx_2444 rfl rfl 3 rfl ?_
  obtain ⟨r19, S20, h1, h⟩ := bnE h
  refine RR.callS (as := [.ref 511, .int (10 : Int32)]) (rest := []) (r1 := none) (S1 := S20) mx_2444 rfl rfl mx_2442 rfl rfl (by decide) (Nat.le_of_ble_eq_true rfl) (Nat.le_of_ble_eq_true rfl) (Nat.le_of_ble_eq_true rfl) (RC.deep (by omega) (s_m_moves (d := d) _ _ _ h1)) ?_
  show RR KM _ 2444 89 [(0, .ref 500)] [] S20 _ _
  refine RR.runs (pc' := 94) (lc' := [(0, .ref 500)]) (st' := [.int (5 : Int32), .ref 512]) (S1 := S20) (nL := 3) (cd := cd_2444) mx_2444 rfl rfl 3 rfl ?_
  obtain ⟨r21, S22, h1, h⟩ := bnE h
  refine RR.callS (as := [.ref 512, .int (5 : Int32)]) (rest := []) (r1 := none) (S1 := S22) mx_2444 rfl rfl mx_2442 rfl rfl (by decide) (Nat.le_of_ble_eq_true rfl) (Nat.le_of_ble_eq_true rfl) (Nat.le_of_ble_eq_true rfl) (RC.deep (by omega) (s_m_moves (d := d) _ _ _ h1)) ?_
  show RR KM _ 2444 97 [(0, .ref 500)] [] S22 _ _
  refine RR.runs (pc' := 102) (lc' := [(0, .ref 500)]) (st' := [.int (5 : Int32), .ref 513]) (S1 := S22) (nL := 3) (cd := cd_2444) mx_2444 rfl rfl 3 rfl ?_
  obtain ⟨r23, S24, h1, h⟩ := bnE h
  refine RR.callS (as := [.ref 513, .int (5 : Int32)]) (rest := []) (r1 := none) (S1 := S24) mx_2444 rfl rfl mx_2442 rfl rfl (by decide) (Nat.le_of_ble_eq_true rfl) (Nat.le_of_ble_eq_true rfl) (Nat.le_of_ble_eq_true rfl) (RC.deep (by omega) (s_m_moves (d := d) _ _ _ h1)) ?_
  show RR KM _ 2444 105 [(0, .ref 500)] [] S24 _ _
  refine RR.runs (pc' := 110) (lc' := [(0, .ref 500)]) (st' := [.int (5 : Int32), .ref 514]) (S1 := S24) (nL := 3) (cd := cd_2444) mx_2444 rfl rfl 3 rfl ?_
  obtain ⟨r25, S26, h1, h⟩ := bnE h
  refine RR.callS (as := [.ref 514, .int (5 : Int32)]) (rest := []) (r1 := none) (S1 := S26) mx_2444 rfl rfl mx_2442 rfl rfl (by decide) (Nat.le_of_ble_eq_true rfl) (Nat.le_of_ble_eq_true rfl) (Nat.le_of_ble_eq_true rfl) (RC.deep (by omega) (s_m_moves (d := d) _ _ _ h1)) ?_
  show RR KM _ 2444 113 [(0, .ref 500)] [] S26 _ _
  refine RR.runs (pc' := 119) (lc' := [(0, .ref 500)]) (st' := [.int (6 : Int32), .ref 515]) (S1 := S26) (nL := 3) (cd := cd_2444) mx_2444 rfl rfl 3 rfl ?_
  obtain ⟨r27, S28, h1, h⟩ := bnE h
  refine RR.callS (as := [.ref 515, .int (6 : Int32)]) (rest := []) (r1 := none) (S1 := S28) mx_2444 rfl rfl mx_2442 rfl rfl (by decide) (Nat.le_of_ble_eq_true rfl) (Nat.le_of_ble_eq_true rfl) (Nat.le_of_ble_eq_true rfl) (RC.deep (by omega) (s_m_moves (d := d) _ _ _ h1)) ?_
  show RR KM _ 2444 122 [(0, .ref 500)] [] S28 _ _
  refine RR.runs (pc' := 128) (lc' := [(0, .ref 500)]) (st' := [.int (6 : Int32), .ref 516]) (S1 := S28) (nL := 3) (cd := cd_2444) mx_2444 rfl rfl 3 rfl ?_
  obtain ⟨r29, S30, h1, h⟩ := bnE h
  refine RR.callS (as := [.ref 516, .int (6 : Int32)]) (rest := []) (r1 := none) (S1 := S30) mx_2444 rfl rfl mx_2442 rfl rfl (by decide) (Nat.le_of_ble_eq_true rfl) (Nat.le_of_ble_eq_true rfl) (Nat.le_of_ble_eq_true rfl) (RC.deep (by omega) (s_m_moves (d := d) _ _ _ h1)) ?_
  show RR KM _ 2444 131 [(0, .ref 500)] [] S30 _ _
  refine RR.runs (pc' := 137) (lc' := [(0, .ref 500)]) (st' := [.int (40 : Int32), .ref 517]) (S1 := S30) (nL := 3) (cd := cd_2444) mx_2444 rfl rfl 3 rfl ?_
  obtain ⟨r31, S32, h1, h⟩ := bnE h
  refine RR.callS (as := [.ref 517, .int (40 : Int32)]) (rest := []) (r1 := none) (S1 := S32) mx_2444 rfl rfl mx_2442 rfl rfl (by decide) (Nat.le_of_ble_eq_true rfl) (Nat.le_of_ble_eq_true rfl) (Nat.le_of_ble_eq_true rfl) (RC.deep (by omega) (s_m_moves (d := d) _ _ _ h1)) ?_
  show RR KM _ 2444 140 [(0, .ref 500)] [] S32 _ _
  refine RR.runs (pc' := 145) (lc' := [(0, .ref 500)]) (st' := [.int (4 : Int32), .ref 518]) (S1 := S32) (nL := 3) (cd := cd_2444) mx_2444 rfl rfl 3 rfl ?_
  obtain ⟨r33, S34, h1, h⟩ := bnE h
  refine RR.callS (as := [.ref 518, .int (4 : Int32)]) (rest := []) (r1 := none) (S1 := S34) mx_2444 rfl rfl mx_2442 rfl rfl (by decide) (Nat.le_of_ble_eq_true rfl) (Nat.le_of_ble_eq_true rfl) (Nat.le_of_ble_eq_true rfl) (RC.deep (by omega) (s_m_moves (d := d) _ _ _ h1)) ?_
  show RR KM _ 2444 148 [(0, .ref 500)] [] S34 _ _
  refine RR.runs (pc' := 153) (lc' := [(0, .ref 500)]) (st' := [.int (4 : Int32), .ref 519]) (S1 := S34) (nL := 3) (cd := cd_2444) mx_2444 rfl rfl 3 rfl ?_
  obtain ⟨r35, S36, h1, h⟩ := bnE h
  refine RR.callS (as := [.ref 519, .int (4 : Int32)]) (rest := []) (r1 := none) (S1 := S36) mx_2444 rfl rfl mx_2442 rfl rfl (by decide) (Nat.le_of_ble_eq_true rfl) (Nat.le_of_ble_eq_true rfl) (Nat.le_of_ble_eq_true rfl) (RC.deep (by omega) (s_m_moves (d := d) _ _ _ h1)) ?_
  show RR KM _ 2444 156 [(0, .ref 500)] [] S36 _ _
  refine RR.runs (pc' := 161) (lc' := [(0, .ref 500)]) (st' := [.int (4 : Int32), .ref 520]) (S1 := S36) (nL := 3) (cd := cd_2444) mx_2444 rfl rfl 3 rfl ?_
  obtain ⟨r37, S38, h1, h⟩ := bnE h
  refine RR.callS (as := [.ref 520, .int (4 : Int32)]) (rest := []) (r1 := none) (S1 := S38) mx_2444 rfl rfl mx_2442 rfl rfl (by decide) (Nat.le_of_ble_eq_true rfl) (Nat.le_of_ble_eq_true rfl) (Nat.le_of_ble_eq_true rfl) (RC.deep (by omega) (s_m_moves (d := d) _ _ _ h1)) ?_
  show RR KM _ 2444 164 [(0, .ref 500)] [] S38 _ _
  refine RR.runs (pc' := 171) (lc' := [(0, .ref 500)]) (st' := [.int (1000 : Int32), .ref 523]) (S1 := S38) (nL := 3) (cd := cd_2444) mx_2444 rfl rfl 3 rfl ?_
  obtain ⟨r39, S40, h1, h⟩ := bnE h
  refine RR.callS (as := [.ref 523, .int (1000 : Int32)]) (rest := []) (r1 := none) (S1 := S40) mx_2444 rfl rfl mx_2442 rfl rfl (by decide) (Nat.le_of_ble_eq_true rfl) (Nat.le_of_ble_eq_true rfl) (Nat.le_of_ble_eq_true rfl) (RC.deep (by omega) (s_m_moves (d := d) _ _ _ h1)) ?_
  show RR KM _ 2444 174 [(0, .ref 500)] [] S40 _ _
  refine RR.runs (pc' := 176) (lc' := [(1, .int (0 : Int32)), (0, .ref 500)]) (st' := []) (S1 := S40) (nL := 3) (cd := cd_2444) mx_2444 rfl rfl 2 rfl ?_
  refine RR.weak [(0, .ref 500), (1, .int (0 : Int32))] ⟨rfl, rfl, trivial⟩ ?_
  exact s_m_lays_176 _ _ _ h
theorem s_m_lays {d : Nat} {S' : St} {r : Unit} (S : St) (h : m_lays S = some (r, S')) : RC KM (d + 4) 2444 [.ref 500] S none S' := RC.of rfl (s0_m_lays S h)
-- isSaid (II)Z
def m_isSaid_40 (S : St) : Re Int32 :=
  some ((0 : Int32), S)
set_option maxRecDepth 100000 in
theorem s_m_isSaid_40 {d : Nat} {S' : St} {r : Int32} (S : St) (h : m_isSaid_40 S = some (r, S')) : RR KM (d + 0) 2447 40 [] [] S (some (.int r)) S' := by
  unfold m_isSaid_40 at h
  refine RR.runs (pc' := 41) (lc' := []) (st' := [.int (0 : Int32)]) (S1 := S) (nL := 5) (cd := cd_2447) mx_2447 rfl rfl 1 rfl ?_
  cases h
  exact RR.retz mx_2447 rfl rfl rfl rfl
def m_isSaid_51 (S : St) : Re Int32 :=
  some ((1 : Int32), S)
set_option maxRecDepth 100000 in
theorem s_m_isSaid_51 {d : Nat} {S' : St} {r : Int32} (S : St) (h : m_isSaid_51 S = some (r, S')) : RR KM (d + 0) 2447 51 [] [] S (some (.int r)) S' := by
  unfold m_isSaid_51 at h
  refine RR.runs (pc' := 52) (lc' := []) (st' := [.int (1 : Int32)]) (S1 := S) (nL := 5) (cd := cd_2447) mx_2447 rfl rfl 1 rfl ?_
  cases h
  exact RR.retz mx_2447 rfl rfl rfl rfl
def m_isSaid_18 : Nat → Int32 → Int64 → St → Re Int32
  | 0, _, _, _ => none
  | n + 1, v1, v3, S =>
  if 0 < (lg_cmp v3 (0 : Int64)) then (
    if v1 < 0 ∨ 10 ≤ v1.toNatClampNeg then none else
    if (lg_cmp ((v3 - v3 / (27 : Int64) * (27 : Int64))) ((rI S 514 v1.toNatClampNeg).toInt64)) = 0 then (
      m_isSaid_40 S)
    else (
      lt' ((v3 / (27 : Int64)) : Int64) fun x1 =>
      m_isSaid_18 n v1 x1 S))
  else (
    m_isSaid_51 S)
set_option maxRecDepth 100000 in
theorem s_m_isSaid_18 {d : Nat} {S' : St} {r : Int32} : ∀ (n : Nat) (v1 : Int32) (v3 : Int64) (S : St), m_isSaid_18 n v1 v3 S = some (r, S') → RR KM (d + 0) 2447 18 [(0, .ref 500), (1, .int v1), (3, .long v3)] [] S (some (.int r)) S' := by
  intro n
  induction n with
  | zero => intro v1 v3 S h; simp only [m_isSaid_18] at h; cases h
  | succ n ih =>
    intro v1 v3 S h
    simp only [m_isSaid_18] at h
    refine RR.runs (pc' := icm .le ((lg_cmp v3 (0 : Int64))) 0 51 24) (lc' := [(0, .ref 500), (1, .int v1), (3, .long v3)]) (st' := []) (S1 := S) (nL := 5) (cd := cd_2447) mx_2447 rfl rfl 4 rfl ?_
    rcases ifE h with ⟨c, h⟩ | ⟨c, h⟩
    · refine RR.c_le (fun _ => ?_) (fun q => absurd c q)
      refine RR.runs (pc' := 34) (lc' := [(0, .ref 500), (1, .int v1), (3, .long v3)]) (st' := [.int v1, .ref 514, .long ((v3 - v3 / (27 : Int64) * (27 : Int64)))]) (S1 := S) (nL := 5) (cd := cd_2447) mx_2447 rfl rfl 6 rfl ?_
      obtain ⟨g, h⟩ := gnE h
      refine RR.gPN (c2 := (KM.1 514).1 = 1) (pc' := 35) (lc' := [(0, .ref 500), (1, .int v1), (3, .long v3)]) (st' := [.int (rI S 514 v1.toNatClampNeg), .long ((v3 - v3 / (27 : Int64) * (27 : Int64)))]) (S1 := S) (nL := 5) (cd := cd_2447) mx_2447 rfl rfl rfl rfl g ?_
      refine RR.runs (pc' := icm .ne ((lg_cmp ((v3 - v3 / (27 : Int64) * (27 : Int64))) ((rI S 514 v1.toNatClampNeg).toInt64))) 0 42 40) (lc' := [(0, .ref 500), (1, .int v1), (3, .long v3)]) (st' := []) (S1 := S) (nL := 5) (cd := cd_2447) mx_2447 rfl rfl 3 rfl ?_
      rcases ifE h with ⟨c, h⟩ | ⟨c, h⟩
      · refine RR.c_ne (fun _ => ?_) (fun q => absurd c q)
        refine RR.weak [] trivial ?_
        exact s_m_isSaid_40 _ h
      · refine RR.c_ne (fun q => absurd q c) (fun _ => ?_)
        refine RR.runs (pc' := 48) (lc' := [(3, .long ((v3 / (27 : Int64)))), (0, .ref 500), (1, .int v1)]) (st' := []) (S1 := S) (nL := 5) (cd := cd_2447) mx_2447 rfl rfl 4 rfl ?_
        obtain ⟨x1, ex1, h⟩ := ltE h
        rw [← ex1]
        refine RR.runs (pc' := 18) (lc' := [(3, .long x1), (0, .ref 500), (1, .int v1)]) (st' := []) (S1 := S) (nL := 5) (cd := cd_2447) mx_2447 rfl rfl 1 rfl ?_
        refine RR.weak [(0, .ref 500), (1, .int v1), (3, .long x1)] ⟨rfl, rfl, rfl, trivial⟩ ?_
        exact ih _ _ _ h
    · refine RR.c_le (fun q => absurd q c) (fun _ => ?_)
      refine RR.weak [] trivial ?_
      exact s_m_isSaid_51 _ h
def m_isSaid (v1 : Int32) (v2 : Int32) (S : St) : Re Int32 :=
  if v1 < 0 ∨ 10 ≤ v1.toNatClampNeg then none else
  if (rI S 514 v1.toNatClampNeg) = 0 then (
    some ((1 : Int32), S))
  else (
    if v2 < 0 ∨ 32 ≤ v2.toNatClampNeg then none else
    lt' ((rJ S 503 v2.toNatClampNeg) : Int64) fun x1 =>
    m_isSaid_18 FU v1 x1 S)
set_option maxRecDepth 100000 in
theorem s0_m_isSaid {d : Nat} {S' : St} {r : Int32} (v1 : Int32) (v2 : Int32) (S : St) (h : m_isSaid v1 v2 S = some (r, S')) : RR KM (d + 0) 2447 0 [(0, .ref 500), (1, .int v1), (2, .int v2)] [] S (some (.int r)) S' := by
  unfold m_isSaid at h
  refine RR.runs (pc' := 5) (lc' := [(0, .ref 500), (1, .int v1), (2, .int v2)]) (st' := [.int v1, .ref 514]) (S1 := S) (nL := 5) (cd := cd_2447) mx_2447 rfl rfl 3 rfl ?_
  obtain ⟨g, h⟩ := gnE h
  refine RR.gPN (c2 := (KM.1 514).1 = 1) (pc' := 6) (lc' := [(0, .ref 500), (1, .int v1), (2, .int v2)]) (st' := [.int (rI S 514 v1.toNatClampNeg)]) (S1 := S) (nL := 5) (cd := cd_2447) mx_2447 rfl rfl rfl rfl g ?_
  refine RR.runs (pc' := icm .ne (rI S 514 v1.toNatClampNeg) 0 11 9) (lc' := [(0, .ref 500), (1, .int v1), (2, .int v2)]) (st' := []) (S1 := S) (nL := 5) (cd := cd_2447) mx_2447 rfl rfl 1 rfl ?_
  rcases ifE h with ⟨c, h⟩ | ⟨c, h⟩
  · refine RR.c_ne (fun _ => ?_) (fun q => absurd c q)
    refine RR.runs (pc' := 10) (lc' := [(0, .ref 500), (1, .int v1), (2, .int v2)]) (st' := [.int (1 : Int32)]) (S1 := S) (nL := 5) (cd := cd_2447) mx_2447 rfl rfl 1 rfl ?_
    cases h
    exact RR.retz mx_2447 rfl rfl rfl rfl
  · refine RR.c_ne (fun q => absurd q c) (fun _ => ?_)
    refine RR.runs (pc' := 16) (lc' := [(0, .ref 500), (1, .int v1), (2, .int v2)]) (st' := [.int v2, .ref 503]) (S1 := S) (nL := 5) (cd := cd_2447) mx_2447 rfl rfl 3 rfl ?_
    obtain ⟨g, h⟩ := gnE h
    refine RR.gPN (c2 := (KM.1 503).1 = 4) (pc' := 17) (lc' := [(0, .ref 500), (1, .int v1), (2, .int v2)]) (st' := [.long (rJ S 503 v2.toNatClampNeg)]) (S1 := S) (nL := 5) (cd := cd_2447) mx_2447 rfl rfl rfl rfl g ?_
    refine RR.runs (pc' := 18) (lc' := [(3, .long (rJ S 503 v2.toNatClampNeg)), (0, .ref 500), (1, .int v1), (2, .int v2)]) (st' := []) (S1 := S) (nL := 5) (cd := cd_2447) mx_2447 rfl rfl 1 rfl ?_
    obtain ⟨x1, ex1, h⟩ := ltE h
    rw [← ex1]
    refine RR.weak [(0, .ref 500), (1, .int v1), (3, .long x1)] ⟨rfl, rfl, rfl, trivial⟩ ?_
    exact s_m_isSaid_18 _ _ _ _ h
theorem s_m_isSaid {d : Nat} {S' : St} {r : Int32} (v1 : Int32) (v2 : Int32) (S : St) (h : m_isSaid v1 v2 S = some (r, S')) : RC KM (d + 0) 2447 [.ref 500, .int v1, .int v2] S (some (.int r)) S' := RC.of rfl (s0_m_isSaid v1 v2 S h)
-- copies ([II[II)V
def m_copies_28 (S : St) : Re Unit :=
  some ((), S)
set_option maxRecDepth 100000 in
theorem s_m_copies_28 {d : Nat} {S' : St} {r : Unit} (S : St) (h : m_copies_28 S = some (r, S')) : RR KM (d + 0) 2448 28 [] [] S none S' := by
  unfold m_copies_28 at h
  cases h
  exact RR.retv mx_2448 rfl rfl rfl
def m_copies_3 : Nat → Nat → Int32 → Nat → Int32 → Int32 → St → Re Unit
  | 0, _, _, _, _, _, _ => none
  | n + 1, v0, v1, v2, v3, v4, S =>
  if v4 < (15 : Int32) then (
    if (KM.1 v0).1 = 1 then (
    if (v1 + v4) < 0 ∨ (KM.1 v0).2 ≤ (v1 + v4).toNatClampNeg then none else
    if (KM.1 v2).1 = 1 then (
    if (v3 + v4) < 0 ∨ (KM.1 v2).2 ≤ (v3 + v4).toNatClampNeg then none else
    lt' (wI S v2 (v3 + v4).toNatClampNeg ((rI S v0 (v1 + v4).toNatClampNeg))) fun S1 =>
    lt' ((v4 + (1 : Int32)) : Int32) fun x2 =>
    m_copies_3 n v0 v1 v2 v3 x2 S1) else none) else none)
  else (
    m_copies_28 S)
set_option maxRecDepth 100000 in
theorem s_m_copies_3 {d : Nat} {S' : St} {r : Unit} : ∀ (n : Nat) (v0 : Nat) (v1 : Int32) (v2 : Nat) (v3 : Int32) (v4 : Int32) (S : St), m_copies_3 n v0 v1 v2 v3 v4 S = some (r, S') → RR KM (d + 0) 2448 3 [(0, .ref v0), (1, .int v1), (2, .ref v2), (3, .int v3), (4, .int v4)] [] S none S' := by
  intro n
  induction n with
  | zero => intro v0 v1 v2 v3 v4 S h; simp only [m_copies_3] at h; cases h
  | succ n ih =>
    intro v0 v1 v2 v3 v4 S h
    simp only [m_copies_3] at h
    refine RR.runs (pc' := icm .ge v4 (15 : Int32) 28 10) (lc' := [(0, .ref v0), (1, .int v1), (2, .ref v2), (3, .int v3), (4, .int v4)]) (st' := []) (S1 := S) (nL := 5) (cd := cd_2448) mx_2448 rfl rfl 3 rfl ?_
    rcases ifE h with ⟨c, h⟩ | ⟨c, h⟩
    · refine RR.c_ge (fun _ => ?_) (fun q => absurd c q)
      refine RR.runs (pc' := 20) (lc' := [(0, .ref v0), (1, .int v1), (2, .ref v2), (3, .int v3), (4, .int v4)]) (st' := [.int (v1 + v4), .ref v0, .int (v3 + v4), .ref v2]) (S1 := S) (nL := 5) (cd := cd_2448) mx_2448 rfl rfl 8 rfl ?_
      obtain ⟨gq, h⟩ := gpE h
      obtain ⟨g, h⟩ := gnE h
      refine RR.gPNo (c2 := (KM.1 v0).1 = 1) (pc' := 21) (lc' := [(0, .ref v0), (1, .int v1), (2, .ref v2), (3, .int v3), (4, .int v4)]) (st' := [.int ((rI S v0 (v1 + v4).toNatClampNeg)), .int (v3 + v4), .ref v2]) (S1 := S) (nL := 5) (cd := cd_2448) mx_2448 rfl rfl rfl gq g ?_
      obtain ⟨gq, h⟩ := gpE h
      obtain ⟨g, h⟩ := gnE h
      refine RR.gPNo (c2 := (KM.1 v2).1 = 1) (pc' := 22) (lc' := [(0, .ref v0), (1, .int v1), (2, .ref v2), (3, .int v3), (4, .int v4)]) (st' := []) (S1 := (wI S v2 (v3 + v4).toNatClampNeg ((rI S v0 (v1 + v4).toNatClampNeg)))) (nL := 5) (cd := cd_2448) mx_2448 rfl rfl rfl gq g ?_
      obtain ⟨S1, eS1, h⟩ := ltE h
      rw [← eS1]
      refine RR.runs (pc' := 25) (lc' := [(4, .int ((v4 + (1 : Int32)))), (0, .ref v0), (1, .int v1), (2, .ref v2), (3, .int v3)]) (st' := []) (S1 := S1) (nL := 5) (cd := cd_2448) mx_2448 rfl rfl 1 rfl ?_
      obtain ⟨x2, ex2, h⟩ := ltE h
      rw [← ex2]
      refine RR.runs (pc' := 3) (lc' := [(4, .int x2), (0, .ref v0), (1, .int v1), (2, .ref v2), (3, .int v3)]) (st' := []) (S1 := S1) (nL := 5) (cd := cd_2448) mx_2448 rfl rfl 1 rfl ?_
      refine RR.weak [(0, .ref v0), (1, .int v1), (2, .ref v2), (3, .int v3), (4, .int x2)] ⟨rfl, rfl, rfl, rfl, rfl, trivial⟩ ?_
      exact ih _ _ _ _ _ _ h
    · refine RR.c_ge (fun q => absurd q c) (fun _ => ?_)
      refine RR.weak [] trivial ?_
      exact s_m_copies_28 _ h
def m_copies (v0 : Nat) (v1 : Int32) (v2 : Nat) (v3 : Int32) (S : St) : Re Unit :=
  m_copies_3 FU v0 v1 v2 v3 (0 : Int32) S
set_option maxRecDepth 100000 in
theorem s0_m_copies {d : Nat} {S' : St} {r : Unit} (v0 : Nat) (v1 : Int32) (v2 : Nat) (v3 : Int32) (S : St) (h : m_copies v0 v1 v2 v3 S = some (r, S')) : RR KM (d + 0) 2448 0 [(0, .ref v0), (1, .int v1), (2, .ref v2), (3, .int v3)] [] S none S' := by
  unfold m_copies at h
  refine RR.runs (pc' := 3) (lc' := [(4, .int (0 : Int32)), (0, .ref v0), (1, .int v1), (2, .ref v2), (3, .int v3)]) (st' := []) (S1 := S) (nL := 5) (cd := cd_2448) mx_2448 rfl rfl 2 rfl ?_
  refine RR.weak [(0, .ref v0), (1, .int v1), (2, .ref v2), (3, .int v3), (4, .int (0 : Int32))] ⟨rfl, rfl, rfl, rfl, rfl, trivial⟩ ?_
  exact s_m_copies_3 _ _ _ _ _ _ _ h
theorem s_m_copies {d : Nat} {S' : St} {r : Unit} (v0 : Nat) (v1 : Int32) (v2 : Nat) (v3 : Int32) (S : St) (h : m_copies v0 v1 v2 v3 S = some (r, S')) : RC KM (d + 0) 2448 [.ref v0, .int v1, .ref v2, .int v3] S none S' := RC.of rfl (s0_m_copies v0 v1 v2 v3 S h)
-- readsLine ()Z
def m_readsLine_196 (S : St) : Re Int32 :=
  if (5 : Int32) < 0 ∨ 6 ≤ (5 : Int32).toNatClampNeg then none else
  if (5 : Int32) < 0 ∨ 6 ≤ (5 : Int32).toNatClampNeg then none else
  lt' (wI S 543 (5 : Int32).toNatClampNeg (((rI S 543 (5 : Int32).toNatClampNeg) + (1 : Int32)))) fun S1 =>
  bn (m_closes S1) fun r2 S3 =>
  if isBo r2 = true then some (r2, S3) else none
set_option maxRecDepth 100000 in
theorem s_m_readsLine_196 {d : Nat} {S' : St} {r : Int32} (S : St) (h : m_readsLine_196 S = some (r, S')) : RR KM (d + 3) 2449 196 [(0, .ref 500)] [] S (some (.int r)) S' := by
  unfold m_readsLine_196 at h
  refine RR.runs (pc' := 202) (lc' := [(0, .ref 500)]) (st' := [.int (5 : Int32), .ref 543, .int (5 : Int32), .ref 543]) (S1 := S) (nL := 3) (cd := cd_2449) mx_2449 rfl rfl 4 rfl ?_
  obtain ⟨g, h⟩ := gnE h
  refine RR.gPN (c2 := (KM.1 543).1 = 1) (pc' := 203) (lc' := [(0, .ref 500)]) (st' := [.int ((rI S 543 (5 : Int32).toNatClampNeg)), .int (5 : Int32), .ref 543]) (S1 := S) (nL := 3) (cd := cd_2449) mx_2449 rfl rfl rfl rfl g ?_
  refine RR.runs (pc' := 205) (lc' := [(0, .ref 500)]) (st' := [.int (((rI S 543 (5 : Int32).toNatClampNeg) + (1 : Int32))), .int (5 : Int32), .ref 543]) (S1 := S) (nL := 3) (cd := cd_2449) mx_2449 rfl rfl 2 rfl ?_
  obtain ⟨g, h⟩ := gnE h
  refine RR.gPN (c2 := (KM.1 543).1 = 1) (pc' := 206) (lc' := [(0, .ref 500)]) (st' := []) (S1 := (wI S 543 (5 : Int32).toNatClampNeg (((rI S 543 (5 : Int32).toNatClampNeg) + (1 : Int32))))) (nL := 3) (cd := cd_2449) mx_2449 rfl rfl rfl rfl g ?_
  obtain ⟨S1, eS1, h⟩ := ltE h
  rw [← eS1]
  refine RR.runs (pc' := 207) (lc' := [(0, .ref 500)]) (st' := [.ref 500]) (S1 := S1) (nL := 3) (cd := cd_2449) mx_2449 rfl rfl 1 rfl ?_
  obtain ⟨r2, S3, h1, h⟩ := bnE h
  refine RR.callV (b := 500) (as := []) (rest := []) (r1 := (some (.int r2))) (S1 := S3) mx_2449 rfl rfl mx_2426 rfl rfl (by decide) (Or.inl rfl) (Nat.le_of_ble_eq_true rfl) (Nat.le_of_ble_eq_true rfl) (RC.deep (by omega) (s_m_closes (d := d) _ h1)) ?_
  show RR KM _ 2449 210 [(0, .ref 500)] [.int r2] S3 _ _
  obtain ⟨g, h⟩ := gpE h
  cases h
  exact RR.retz mx_2449 rfl rfl rfl g
def m_readsLine_43 (p0 : Int32) (S : St) : Re Int32 :=
  if p0 < 0 then (
    bn (m_fails (1 : Int32) S) fun r1 S2 =>
    if isBo r1 = true then some (r1, S2) else none)
  else (
    if (5 : Int32) < 0 ∨ 6 ≤ (5 : Int32).toNatClampNeg then none else
    if (rI S 543 (5 : Int32).toNatClampNeg) = (40 : Int32) then (
      bn (m_fails (5 : Int32) S) fun r3 S4 =>
      if isBo r3 = true then some (r3, S4) else none)
    else (
      bn (m_nextToken S) fun r5 S6 =>
      if (5 : Int32) < 0 ∨ 6 ≤ (5 : Int32).toNatClampNeg then none else
      lt' (((200 : Int32) + (rI S6 543 (5 : Int32).toNatClampNeg)) : Int32) fun x7 =>
      if x7 < 0 ∨ 240 ≤ x7.toNatClampNeg then none else
      lt' (wI S6 544 x7.toNatClampNeg p0) fun S8 =>
      if p0 = 0 then (
        bn (m_isKept S8) fun r9 S10 =>
        if r9 = 0 then (
          bn (m_personNamed (0 : Int32) S10) fun r11 S12 =>
          if x7 < 0 ∨ 240 ≤ x7.toNatClampNeg then none else
          lt' (wI S12 545 x7.toNatClampNeg r11) fun S13 =>
          if x7 < 0 ∨ 240 ≤ x7.toNatClampNeg then none else
          if (rI S13 545 x7.toNatClampNeg) < 0 then (
            bn (m_fails (2 : Int32) S13) fun r14 S15 =>
            if isBo r14 = true then some (r14, S15) else none)
          else (
            bn (m_nextToken S13) fun r16 S17 =>
            bn (m_needsSound (0 : Int32) S17) fun r18 S19 =>
            if r18 = 0 then (
              some ((0 : Int32), S19))
            else (
              if x7 < 0 ∨ 240 ≤ x7.toNatClampNeg then none else
              lt' (wI S19 546 x7.toNatClampNeg (rI S19 500 46)) fun S20 =>
              bn (m_nextToken S20) fun r21 S22 =>
              m_readsLine_196 S22)))
        else (
          bn (m_fails (1 : Int32) S10) fun r23 S24 =>
          if isBo r23 = true then some (r23, S24) else none))
      else (
        if p0 = (1 : Int32) then (
          bn (m_needsApple (0 : Int32) S8) fun r25 S26 =>
          if r25 = 0 then (
            some ((0 : Int32), S26))
          else (
            if x7 < 0 ∨ 240 ≤ x7.toNatClampNeg then none else
            lt' (wI S26 546 x7.toNatClampNeg (rI S26 500 46)) fun S27 =>
            bn (m_nextToken S27) fun r28 S29 =>
            m_readsLine_196 S29))
        else (
          m_readsLine_196 S8))))
set_option maxRecDepth 100000 in
theorem s_m_readsLine_43 {d : Nat} {S' : St} {r : Int32} (p0 : Int32) (S : St) (h : m_readsLine_43 p0 S = some (r, S')) : RR KM (d + 3) 2449 43 [(0, .ref 500)] [.int p0] S (some (.int r)) S' := by
  unfold m_readsLine_43 at h
  refine RR.runs (pc' := icm .ge p0 0 54 48) (lc' := [(1, .int p0), (0, .ref 500)]) (st' := []) (S1 := S) (nL := 3) (cd := cd_2449) mx_2449 rfl rfl 3 rfl ?_
  rcases ifE h with ⟨c, h⟩ | ⟨c, h⟩
  · refine RR.c_ge (fun _ => ?_) (fun q => absurd c q)
    refine RR.runs (pc' := 50) (lc' := [(1, .int p0), (0, .ref 500)]) (st' := [.int (1 : Int32), .ref 500]) (S1 := S) (nL := 3) (cd := cd_2449) mx_2449 rfl rfl 2 rfl ?_
    obtain ⟨r1, S2, h1, h⟩ := bnE h
    refine RR.callV (b := 500) (as := [.int (1 : Int32)]) (rest := []) (r1 := (some (.int r1))) (S1 := S2) mx_2449 rfl rfl mx_2411 rfl rfl (by decide) (Or.inl rfl) (Nat.le_of_ble_eq_true rfl) (Nat.le_of_ble_eq_true rfl) (RC.deep (by omega) (s_m_fails (d := d) _ _ h1)) ?_
    show RR KM _ 2449 53 [(1, .int p0), (0, .ref 500)] [.int r1] S2 _ _
    obtain ⟨g, h⟩ := gpE h
    cases h
    exact RR.retz mx_2449 rfl rfl rfl g
  · refine RR.c_ge (fun q => absurd q c) (fun _ => ?_)
    refine RR.runs (pc' := 59) (lc' := [(1, .int p0), (0, .ref 500)]) (st' := [.int (5 : Int32), .ref 543]) (S1 := S) (nL := 3) (cd := cd_2449) mx_2449 rfl rfl 3 rfl ?_
    obtain ⟨g, h⟩ := gnE h
    refine RR.gPN (c2 := (KM.1 543).1 = 1) (pc' := 60) (lc' := [(1, .int p0), (0, .ref 500)]) (st' := [.int ((rI S 543 (5 : Int32).toNatClampNeg))]) (S1 := S) (nL := 3) (cd := cd_2449) mx_2449 rfl rfl rfl rfl g ?_
    refine RR.runs (pc' := icm .ne ((rI S 543 (5 : Int32).toNatClampNeg)) (40 : Int32) 71 65) (lc' := [(1, .int p0), (0, .ref 500)]) (st' := []) (S1 := S) (nL := 3) (cd := cd_2449) mx_2449 rfl rfl 2 rfl ?_
    rcases ifE h with ⟨c, h⟩ | ⟨c, h⟩
    · refine RR.c_ne (fun _ => ?_) (fun q => absurd c q)
      refine RR.runs (pc' := 67) (lc' := [(1, .int p0), (0, .ref 500)]) (st' := [.int (5 : Int32), .ref 500]) (S1 := S) (nL := 3) (cd := cd_2449) mx_2449 rfl rfl 2 rfl ?_
      obtain ⟨r3, S4, h1, h⟩ := bnE h
      refine RR.callV (b := 500) (as := [.int (5 : Int32)]) (rest := []) (r1 := (some (.int r3))) (S1 := S4) mx_2449 rfl rfl mx_2411 rfl rfl (by decide) (Or.inl rfl) (Nat.le_of_ble_eq_true rfl) (Nat.le_of_ble_eq_true rfl) (RC.deep (by omega) (s_m_fails (d := d) _ _ h1)) ?_
      show RR KM _ 2449 70 [(1, .int p0), (0, .ref 500)] [.int r3] S4 _ _
      obtain ⟨g, h⟩ := gpE h
      cases h
      exact RR.retz mx_2449 rfl rfl rfl g
    · refine RR.c_ne (fun q => absurd q c) (fun _ => ?_)
      refine RR.runs (pc' := 72) (lc' := [(1, .int p0), (0, .ref 500)]) (st' := [.ref 500]) (S1 := S) (nL := 3) (cd := cd_2449) mx_2449 rfl rfl 1 rfl ?_
      obtain ⟨r5, S6, h1, h⟩ := bnE h
      refine RR.callV (b := 500) (as := []) (rest := []) (r1 := none) (S1 := S6) mx_2449 rfl rfl mx_2408 rfl rfl (by decide) (Or.inl rfl) (Nat.le_of_ble_eq_true rfl) (Nat.le_of_ble_eq_true rfl) (RC.deep (by omega) (s_m_nextToken (d := d) _ h1)) ?_
      show RR KM _ 2449 75 [(1, .int p0), (0, .ref 500)] [] S6 _ _
      refine RR.runs (pc' := 83) (lc' := [(1, .int p0), (0, .ref 500)]) (st' := [.int (5 : Int32), .ref 543, .int (200 : Int32)]) (S1 := S6) (nL := 3) (cd := cd_2449) mx_2449 rfl rfl 4 rfl ?_
      obtain ⟨g, h⟩ := gnE h
      refine RR.gPN (c2 := (KM.1 543).1 = 1) (pc' := 84) (lc' := [(1, .int p0), (0, .ref 500)]) (st' := [.int ((rI S6 543 (5 : Int32).toNatClampNeg)), .int (200 : Int32)]) (S1 := S6) (nL := 3) (cd := cd_2449) mx_2449 rfl rfl rfl rfl g ?_
      refine RR.runs (pc' := 86) (lc' := [(2, .int (((200 : Int32) + (rI S6 543 (5 : Int32).toNatClampNeg)))), (1, .int p0), (0, .ref 500)]) (st' := []) (S1 := S6) (nL := 3) (cd := cd_2449) mx_2449 rfl rfl 2 rfl ?_
      obtain ⟨x7, ex7, h⟩ := ltE h
      rw [← ex7]
      refine RR.runs (pc' := 92) (lc' := [(2, .int x7), (1, .int p0), (0, .ref 500)]) (st' := [.int p0, .int x7, .ref 544]) (S1 := S6) (nL := 3) (cd := cd_2449) mx_2449 rfl rfl 4 rfl ?_
      obtain ⟨g, h⟩ := gnE h
      refine RR.gPN (c2 := (KM.1 544).1 = 1) (pc' := 93) (lc' := [(2, .int x7), (1, .int p0), (0, .ref 500)]) (st' := []) (S1 := (wI S6 544 x7.toNatClampNeg p0)) (nL := 3) (cd := cd_2449) mx_2449 rfl rfl rfl rfl g ?_
      obtain ⟨S8, eS8, h⟩ := ltE h
      rw [← eS8]
      refine RR.runs (pc' := icm .ne p0 0 167 97) (lc' := [(2, .int x7), (1, .int p0), (0, .ref 500)]) (st' := []) (S1 := S8) (nL := 3) (cd := cd_2449) mx_2449 rfl rfl 2 rfl ?_
      rcases ifE h with ⟨c, h⟩ | ⟨c, h⟩
      · refine RR.c_ne (fun _ => ?_) (fun q => absurd c q)
        refine RR.runs (pc' := 98) (lc' := [(2, .int x7), (1, .int p0), (0, .ref 500)]) (st' := [.ref 500]) (S1 := S8) (nL := 3) (cd := cd_2449) mx_2449 rfl rfl 1 rfl ?_
        obtain ⟨r9, S10, h1, h⟩ := bnE h
        refine RR.callV (b := 500) (as := []) (rest := []) (r1 := (some (.int r9))) (S1 := S10) mx_2449 rfl rfl mx_2419 rfl rfl (by decide) (Or.inl rfl) (Nat.le_of_ble_eq_true rfl) (Nat.le_of_ble_eq_true rfl) (RC.deep (by omega) (s_m_isKept (d := d) _ h1)) ?_
        show RR KM _ 2449 101 [(2, .int x7), (1, .int p0), (0, .ref 500)] [.int r9] S10 _ _
        refine RR.runs (pc' := icm .eq r9 0 110 104) (lc' := [(2, .int x7), (1, .int p0), (0, .ref 500)]) (st' := []) (S1 := S10) (nL := 3) (cd := cd_2449) mx_2449 rfl rfl 1 rfl ?_
        rcases ifE h with ⟨c, h⟩ | ⟨c, h⟩
        · refine RR.c_eq (fun _ => ?_) (fun q => absurd c q)
          refine RR.runs (pc' := 117) (lc' := [(2, .int x7), (1, .int p0), (0, .ref 500)]) (st' := [.int (0 : Int32), .ref 500, .int x7, .ref 545]) (S1 := S10) (nL := 3) (cd := cd_2449) mx_2449 rfl rfl 5 rfl ?_
          obtain ⟨r11, S12, h1, h⟩ := bnE h
          refine RR.callV (b := 500) (as := [.int (0 : Int32)]) (rest := [.int x7, .ref 545]) (r1 := (some (.int r11))) (S1 := S12) mx_2449 rfl rfl mx_2421 rfl rfl (by decide) (Or.inl rfl) (Nat.le_of_ble_eq_true rfl) (Nat.le_of_ble_eq_true rfl) (RC.deep (by omega) (s_m_personNamed (d := d) _ _ h1)) ?_
          show RR KM _ 2449 120 [(2, .int x7), (1, .int p0), (0, .ref 500)] [.int r11, .int x7, .ref 545] S12 _ _
          obtain ⟨g, h⟩ := gnE h
          refine RR.gPN (c2 := (KM.1 545).1 = 1) (pc' := 121) (lc' := [(2, .int x7), (1, .int p0), (0, .ref 500)]) (st' := []) (S1 := (wI S12 545 x7.toNatClampNeg r11)) (nL := 3) (cd := cd_2449) mx_2449 rfl rfl rfl rfl g ?_
          obtain ⟨S13, eS13, h⟩ := ltE h
          rw [← eS13]
          refine RR.runs (pc' := 126) (lc' := [(2, .int x7), (1, .int p0), (0, .ref 500)]) (st' := [.int x7, .ref 545]) (S1 := S13) (nL := 3) (cd := cd_2449) mx_2449 rfl rfl 3 rfl ?_
          obtain ⟨g, h⟩ := gnE h
          refine RR.gPN (c2 := (KM.1 545).1 = 1) (pc' := 127) (lc' := [(2, .int x7), (1, .int p0), (0, .ref 500)]) (st' := [.int (rI S13 545 x7.toNatClampNeg)]) (S1 := S13) (nL := 3) (cd := cd_2449) mx_2449 rfl rfl rfl rfl g ?_
          refine RR.runs (pc' := icm .ge (rI S13 545 x7.toNatClampNeg) 0 136 130) (lc' := [(2, .int x7), (1, .int p0), (0, .ref 500)]) (st' := []) (S1 := S13) (nL := 3) (cd := cd_2449) mx_2449 rfl rfl 1 rfl ?_
          rcases ifE h with ⟨c, h⟩ | ⟨c, h⟩
          · refine RR.c_ge (fun _ => ?_) (fun q => absurd c q)
            refine RR.runs (pc' := 132) (lc' := [(2, .int x7), (1, .int p0), (0, .ref 500)]) (st' := [.int (2 : Int32), .ref 500]) (S1 := S13) (nL := 3) (cd := cd_2449) mx_2449 rfl rfl 2 rfl ?_
            obtain ⟨r14, S15, h1, h⟩ := bnE h
            refine RR.callV (b := 500) (as := [.int (2 : Int32)]) (rest := []) (r1 := (some (.int r14))) (S1 := S15) mx_2449 rfl rfl mx_2411 rfl rfl (by decide) (Or.inl rfl) (Nat.le_of_ble_eq_true rfl) (Nat.le_of_ble_eq_true rfl) (RC.deep (by omega) (s_m_fails (d := d) _ _ h1)) ?_
            show RR KM _ 2449 135 [(2, .int x7), (1, .int p0), (0, .ref 500)] [.int r14] S15 _ _
            obtain ⟨g, h⟩ := gpE h
            cases h
            exact RR.retz mx_2449 rfl rfl rfl g
          · refine RR.c_ge (fun q => absurd q c) (fun _ => ?_)
            refine RR.runs (pc' := 137) (lc' := [(2, .int x7), (1, .int p0), (0, .ref 500)]) (st' := [.ref 500]) (S1 := S13) (nL := 3) (cd := cd_2449) mx_2449 rfl rfl 1 rfl ?_
            obtain ⟨r16, S17, h1, h⟩ := bnE h
            refine RR.callV (b := 500) (as := []) (rest := []) (r1 := none) (S1 := S17) mx_2449 rfl rfl mx_2408 rfl rfl (by decide) (Or.inl rfl) (Nat.le_of_ble_eq_true rfl) (Nat.le_of_ble_eq_true rfl) (RC.deep (by omega) (s_m_nextToken (d := d) _ h1)) ?_
            show RR KM _ 2449 140 [(2, .int x7), (1, .int p0), (0, .ref 500)] [] S17 _ _
            refine RR.runs (pc' := 142) (lc' := [(2, .int x7), (1, .int p0), (0, .ref 500)]) (st' := [.int (0 : Int32), .ref 500]) (S1 := S17) (nL := 3) (cd := cd_2449) mx_2449 rfl rfl 2 rfl ?_
            obtain ⟨r18, S19, h1, h⟩ := bnE h
            refine RR.callV (b := 500) (as := [.int (0 : Int32)]) (rest := []) (r1 := (some (.int r18))) (S1 := S19) mx_2449 rfl rfl mx_2428 rfl rfl (by decide) (Or.inl rfl) (Nat.le_of_ble_eq_true rfl) (Nat.le_of_ble_eq_true rfl) (RC.deep (by omega) (s_m_needsSound (d := d) _ _ h1)) ?_
            show RR KM _ 2449 145 [(2, .int x7), (1, .int p0), (0, .ref 500)] [.int r18] S19 _ _
            refine RR.runs (pc' := icm .ne r18 0 150 148) (lc' := [(2, .int x7), (1, .int p0), (0, .ref 500)]) (st' := []) (S1 := S19) (nL := 3) (cd := cd_2449) mx_2449 rfl rfl 1 rfl ?_
            rcases ifE h with ⟨c, h⟩ | ⟨c, h⟩
            · refine RR.c_ne (fun _ => ?_) (fun q => absurd c q)
              refine RR.runs (pc' := 149) (lc' := [(2, .int x7), (1, .int p0), (0, .ref 500)]) (st' := [.int (0 : Int32)]) (S1 := S19) (nL := 3) (cd := cd_2449) mx_2449 rfl rfl 1 rfl ?_
              cases h
              exact RR.retz mx_2449 rfl rfl rfl rfl
            · refine RR.c_ne (fun q => absurd q c) (fun _ => ?_)
              refine RR.runs (pc' := 159) (lc' := [(2, .int x7), (1, .int p0), (0, .ref 500)]) (st' := [.int (rI S19 500 46), .int x7, .ref 546]) (S1 := S19) (nL := 3) (cd := cd_2449) mx_2449 rfl rfl 5 rfl ?_
              obtain ⟨g, h⟩ := gnE h
              refine RR.gPN (c2 := (KM.1 546).1 = 1) (pc' := 160) (lc' := [(2, .int x7), (1, .int p0), (0, .ref 500)]) (st' := []) (S1 := (wI S19 546 x7.toNatClampNeg (rI S19 500 46))) (nL := 3) (cd := cd_2449) mx_2449 rfl rfl rfl rfl g ?_
              obtain ⟨S20, eS20, h⟩ := ltE h
              rw [← eS20]
              refine RR.runs (pc' := 161) (lc' := [(2, .int x7), (1, .int p0), (0, .ref 500)]) (st' := [.ref 500]) (S1 := S20) (nL := 3) (cd := cd_2449) mx_2449 rfl rfl 1 rfl ?_
              obtain ⟨r21, S22, h1, h⟩ := bnE h
              refine RR.callV (b := 500) (as := []) (rest := []) (r1 := none) (S1 := S22) mx_2449 rfl rfl mx_2408 rfl rfl (by decide) (Or.inl rfl) (Nat.le_of_ble_eq_true rfl) (Nat.le_of_ble_eq_true rfl) (RC.deep (by omega) (s_m_nextToken (d := d) _ h1)) ?_
              show RR KM _ 2449 164 [(2, .int x7), (1, .int p0), (0, .ref 500)] [] S22 _ _
              refine RR.runs (pc' := 196) (lc' := [(2, .int x7), (1, .int p0), (0, .ref 500)]) (st' := []) (S1 := S22) (nL := 3) (cd := cd_2449) mx_2449 rfl rfl 1 rfl ?_
              refine RR.weak [(0, .ref 500)] ⟨rfl, trivial⟩ ?_
              exact s_m_readsLine_196 _ h
        · refine RR.c_eq (fun q => absurd q c) (fun _ => ?_)
          refine RR.runs (pc' := 106) (lc' := [(2, .int x7), (1, .int p0), (0, .ref 500)]) (st' := [.int (1 : Int32), .ref 500]) (S1 := S10) (nL := 3) (cd := cd_2449) mx_2449 rfl rfl 2 rfl ?_
          obtain ⟨r23, S24, h1, h⟩ := bnE h
          refine RR.callV (b := 500) (as := [.int (1 : Int32)]) (rest := []) (r1 := (some (.int r23))) (S1 := S24) mx_2449 rfl rfl mx_2411 rfl rfl (by decide) (Or.inl rfl) (Nat.le_of_ble_eq_true rfl) (Nat.le_of_ble_eq_true rfl) (RC.deep (by omega) (s_m_fails (d := d) _ _ h1)) ?_
          show RR KM _ 2449 109 [(2, .int x7), (1, .int p0), (0, .ref 500)] [.int r23] S24 _ _
          obtain ⟨g, h⟩ := gpE h
          cases h
          exact RR.retz mx_2449 rfl rfl rfl g
      · refine RR.c_ne (fun q => absurd q c) (fun _ => ?_)
        refine RR.runs (pc' := icm .ne p0 (1 : Int32) 196 172) (lc' := [(2, .int x7), (1, .int p0), (0, .ref 500)]) (st' := []) (S1 := S8) (nL := 3) (cd := cd_2449) mx_2449 rfl rfl 3 rfl ?_
        rcases ifE h with ⟨c, h⟩ | ⟨c, h⟩
        · refine RR.c_ne (fun _ => ?_) (fun q => absurd c q)
          refine RR.runs (pc' := 174) (lc' := [(2, .int x7), (1, .int p0), (0, .ref 500)]) (st' := [.int (0 : Int32), .ref 500]) (S1 := S8) (nL := 3) (cd := cd_2449) mx_2449 rfl rfl 2 rfl ?_
          obtain ⟨r25, S26, h1, h⟩ := bnE h
          refine RR.callV (b := 500) (as := [.int (0 : Int32)]) (rest := []) (r1 := (some (.int r25))) (S1 := S26) mx_2449 rfl rfl mx_2429 rfl rfl (by decide) (Or.inl rfl) (Nat.le_of_ble_eq_true rfl) (Nat.le_of_ble_eq_true rfl) (RC.deep (by omega) (s_m_needsApple (d := d) _ _ h1)) ?_
          show RR KM _ 2449 177 [(2, .int x7), (1, .int p0), (0, .ref 500)] [.int r25] S26 _ _
          refine RR.runs (pc' := icm .ne r25 0 182 180) (lc' := [(2, .int x7), (1, .int p0), (0, .ref 500)]) (st' := []) (S1 := S26) (nL := 3) (cd := cd_2449) mx_2449 rfl rfl 1 rfl ?_
          rcases ifE h with ⟨c, h⟩ | ⟨c, h⟩
          · refine RR.c_ne (fun _ => ?_) (fun q => absurd c q)
            refine RR.runs (pc' := 181) (lc' := [(2, .int x7), (1, .int p0), (0, .ref 500)]) (st' := [.int (0 : Int32)]) (S1 := S26) (nL := 3) (cd := cd_2449) mx_2449 rfl rfl 1 rfl ?_
            cases h
            exact RR.retz mx_2449 rfl rfl rfl rfl
          · refine RR.c_ne (fun q => absurd q c) (fun _ => ?_)
            refine RR.runs (pc' := 191) (lc' := [(2, .int x7), (1, .int p0), (0, .ref 500)]) (st' := [.int (rI S26 500 46), .int x7, .ref 546]) (S1 := S26) (nL := 3) (cd := cd_2449) mx_2449 rfl rfl 5 rfl ?_
            obtain ⟨g, h⟩ := gnE h
            refine RR.gPN (c2 := (KM.1 546).1 = 1) (pc' := 192) (lc' := [(2, .int x7), (1, .int p0), (0, .ref 500)]) (st' := []) (S1 := (wI S26 546 x7.toNatClampNeg (rI S26 500 46))) (nL := 3) (cd := cd_2449) mx_2449 rfl rfl rfl rfl g ?_
            obtain ⟨S27, eS27, h⟩ := ltE h
            rw [← eS27]
            refine RR.runs (pc' := 193) (lc' := [(2, .int x7), (1, .int p0), (0, .ref 500)]) (st' := [.ref 500]) (S1 := S27) (nL := 3) (cd := cd_2449) mx_2449 rfl rfl 1 rfl ?_
            obtain ⟨r28, S29, h1, h⟩ := bnE h
            refine RR.callV (b := 500) (as := []) (rest := []) (r1 := none) (S1 := S29) mx_2449 rfl rfl mx_2408 rfl rfl (by decide) (Or.inl rfl) (Nat.le_of_ble_eq_true rfl) (Nat.le_of_ble_eq_true rfl) (RC.deep (by omega) (s_m_nextToken (d := d) _ h1)) ?_
            show RR KM _ 2449 196 [(2, .int x7), (1, .int p0), (0, .ref 500)] [] S29 _ _
            refine RR.weak [(0, .ref 500)] ⟨rfl, trivial⟩ ?_
            exact s_m_readsLine_196 _ h
        · refine RR.c_ne (fun q => absurd q c) (fun _ => ?_)
          refine RR.weak [(0, .ref 500)] ⟨rfl, trivial⟩ ?_
          exact s_m_readsLine_196 _ h
def m_readsLine (S : St) : Re Int32 :=
  bn (m_isWord (60114 : Int64) S) fun r1 S2 =>
  if r1 = 0 then (
    bn (m_isWord (321581 : Int64) S2) fun r3 S4 =>
    if r3 = 0 then (
      bn (m_isWord (2968 : Int64) S4) fun r5 S6 =>
      if r5 = 0 then (
        m_readsLine_43 (-1 : Int32) S6)
      else (
        m_readsLine_43 (2 : Int32) S6))
    else (
      m_readsLine_43 (1 : Int32) S4))
  else (
    m_readsLine_43 (0 : Int32) S2)
set_option maxRecDepth 100000 in
theorem s0_m_readsLine {d : Nat} {S' : St} {r : Int32} (S : St) (h : m_readsLine S = some (r, S')) : RR KM (d + 3) 2449 0 [(0, .ref 500)] [] S (some (.int r)) S' := by
  unfold m_readsLine at h
  refine RR.runs (pc' := 4) (lc' := [(0, .ref 500)]) (st' := [.long (60114 : Int64), .ref 500]) (S1 := S) (nL := 3) (cd := cd_2449) mx_2449 rfl rfl 2 rfl ?_
  obtain ⟨r1, S2, h1, h⟩ := bnE h
  refine RR.callV (b := 500) (as := [.long (60114 : Int64)]) (rest := []) (r1 := (some (.int r1))) (S1 := S2) mx_2449 rfl rfl mx_2409 rfl rfl (by decide) (Or.inl rfl) (Nat.le_of_ble_eq_true rfl) (Nat.le_of_ble_eq_true rfl) (RC.deep (by omega) (s_m_isWord (d := d) _ _ h1)) ?_
  show RR KM _ 2449 7 [(0, .ref 500)] [.int r1] S2 _ _
  refine RR.runs (pc' := icm .eq r1 0 14 10) (lc' := [(0, .ref 500)]) (st' := []) (S1 := S2) (nL := 3) (cd := cd_2449) mx_2449 rfl rfl 1 rfl ?_
  rcases ifE h with ⟨c, h⟩ | ⟨c, h⟩
  · refine RR.c_eq (fun _ => ?_) (fun q => absurd c q)
    refine RR.runs (pc' := 18) (lc' := [(0, .ref 500)]) (st' := [.long (321581 : Int64), .ref 500]) (S1 := S2) (nL := 3) (cd := cd_2449) mx_2449 rfl rfl 2 rfl ?_
    obtain ⟨r3, S4, h1, h⟩ := bnE h
    refine RR.callV (b := 500) (as := [.long (321581 : Int64)]) (rest := []) (r1 := (some (.int r3))) (S1 := S4) mx_2449 rfl rfl mx_2409 rfl rfl (by decide) (Or.inl rfl) (Nat.le_of_ble_eq_true rfl) (Nat.le_of_ble_eq_true rfl) (RC.deep (by omega) (s_m_isWord (d := d) _ _ h1)) ?_
    show RR KM _ 2449 21 [(0, .ref 500)] [.int r3] S4 _ _
    refine RR.runs (pc' := icm .eq r3 0 28 24) (lc' := [(0, .ref 500)]) (st' := []) (S1 := S4) (nL := 3) (cd := cd_2449) mx_2449 rfl rfl 1 rfl ?_
    rcases ifE h with ⟨c, h⟩ | ⟨c, h⟩
    · refine RR.c_eq (fun _ => ?_) (fun q => absurd c q)
      refine RR.runs (pc' := 32) (lc' := [(0, .ref 500)]) (st' := [.long (2968 : Int64), .ref 500]) (S1 := S4) (nL := 3) (cd := cd_2449) mx_2449 rfl rfl 2 rfl ?_
      obtain ⟨r5, S6, h1, h⟩ := bnE h
      refine RR.callV (b := 500) (as := [.long (2968 : Int64)]) (rest := []) (r1 := (some (.int r5))) (S1 := S6) mx_2449 rfl rfl mx_2409 rfl rfl (by decide) (Or.inl rfl) (Nat.le_of_ble_eq_true rfl) (Nat.le_of_ble_eq_true rfl) (RC.deep (by omega) (s_m_isWord (d := d) _ _ h1)) ?_
      show RR KM _ 2449 35 [(0, .ref 500)] [.int r5] S6 _ _
      refine RR.runs (pc' := icm .eq r5 0 42 38) (lc' := [(0, .ref 500)]) (st' := []) (S1 := S6) (nL := 3) (cd := cd_2449) mx_2449 rfl rfl 1 rfl ?_
      rcases ifE h with ⟨c, h⟩ | ⟨c, h⟩
      · refine RR.c_eq (fun _ => ?_) (fun q => absurd c q)
        refine RR.runs (pc' := 43) (lc' := [(0, .ref 500)]) (st' := [.int (-1 : Int32)]) (S1 := S6) (nL := 3) (cd := cd_2449) mx_2449 rfl rfl 1 rfl ?_
        refine RR.weak [(0, .ref 500)] ⟨rfl, trivial⟩ ?_
        exact s_m_readsLine_43 _ _ h
      · refine RR.c_eq (fun q => absurd q c) (fun _ => ?_)
        refine RR.runs (pc' := 43) (lc' := [(0, .ref 500)]) (st' := [.int (2 : Int32)]) (S1 := S6) (nL := 3) (cd := cd_2449) mx_2449 rfl rfl 2 rfl ?_
        refine RR.weak [(0, .ref 500)] ⟨rfl, trivial⟩ ?_
        exact s_m_readsLine_43 _ _ h
    · refine RR.c_eq (fun q => absurd q c) (fun _ => ?_)
      refine RR.runs (pc' := 43) (lc' := [(0, .ref 500)]) (st' := [.int (1 : Int32)]) (S1 := S4) (nL := 3) (cd := cd_2449) mx_2449 rfl rfl 2 rfl ?_
      refine RR.weak [(0, .ref 500)] ⟨rfl, trivial⟩ ?_
      exact s_m_readsLine_43 _ _ h
  · refine RR.c_eq (fun q => absurd q c) (fun _ => ?_)
    refine RR.runs (pc' := 43) (lc' := [(0, .ref 500)]) (st' := [.int (0 : Int32)]) (S1 := S2) (nL := 3) (cd := cd_2449) mx_2449 rfl rfl 2 rfl ?_
    refine RR.weak [(0, .ref 500)] ⟨rfl, trivial⟩ ?_
    exact s_m_readsLine_43 _ _ h
theorem s_m_readsLine {d : Nat} {S' : St} {r : Int32} (S : St) (h : m_readsLine S = some (r, S')) : RC KM (d + 3) 2449 [.ref 500] S (some (.int r)) S' := RC.of rfl (s0_m_readsLine S h)
-- laysLines (II)V
def m_laysLines_92 (S : St) : Re Unit :=
  some ((), S)
set_option maxRecDepth 100000 in
theorem s_m_laysLines_92 {d : Nat} {S' : St} {r : Unit} (S : St) (h : m_laysLines_92 S = some (r, S')) : RR KM (d + 0) 2450 92 [] [] S none S' := by
  unfold m_laysLines_92 at h
  cases h
  exact RR.retv mx_2450 rfl rfl rfl
def m_laysLines_14 : Nat → Int32 → Int32 → Int32 → St → Re Unit
  | 0, _, _, _, _ => none
  | n + 1, v1, v2, v3, S =>
  if v3 < (40 : Int32) then (
    if (((40 : Int32) * v1) + v3) < 0 ∨ 240 ≤ ((((40 : Int32) * v1) + v3)).toNatClampNeg then none else
    if (((40 : Int32) * v2) + v3) < 0 ∨ 240 ≤ ((((40 : Int32) * v2) + v3)).toNatClampNeg then none else
    lt' (wI S 544 ((((40 : Int32) * v2) + v3)).toNatClampNeg ((rI S 544 ((((40 : Int32) * v1) + v3)).toNatClampNeg))) fun S1 =>
    if (((40 : Int32) * v1) + v3) < 0 ∨ 240 ≤ ((((40 : Int32) * v1) + v3)).toNatClampNeg then none else
    if (((40 : Int32) * v2) + v3) < 0 ∨ 240 ≤ ((((40 : Int32) * v2) + v3)).toNatClampNeg then none else
    lt' (wI S1 545 ((((40 : Int32) * v2) + v3)).toNatClampNeg ((rI S1 545 ((((40 : Int32) * v1) + v3)).toNatClampNeg))) fun S2 =>
    if (((40 : Int32) * v1) + v3) < 0 ∨ 240 ≤ ((((40 : Int32) * v1) + v3)).toNatClampNeg then none else
    if (((40 : Int32) * v2) + v3) < 0 ∨ 240 ≤ ((((40 : Int32) * v2) + v3)).toNatClampNeg then none else
    lt' (wI S2 546 ((((40 : Int32) * v2) + v3)).toNatClampNeg ((rI S2 546 ((((40 : Int32) * v1) + v3)).toNatClampNeg))) fun S3 =>
    lt' ((v3 + (1 : Int32)) : Int32) fun x4 =>
    m_laysLines_14 n v1 v2 x4 S3)
  else (
    m_laysLines_92 S)
set_option maxRecDepth 100000 in
theorem s_m_laysLines_14 {d : Nat} {S' : St} {r : Unit} : ∀ (n : Nat) (v1 : Int32) (v2 : Int32) (v3 : Int32) (S : St), m_laysLines_14 n v1 v2 v3 S = some (r, S') → RR KM (d + 0) 2450 14 [(0, .ref 500), (1, .int v1), (2, .int v2), (3, .int v3)] [] S none S' := by
  intro n
  induction n with
  | zero => intro v1 v2 v3 S h; simp only [m_laysLines_14] at h; cases h
  | succ n ih =>
    intro v1 v2 v3 S h
    simp only [m_laysLines_14] at h
    refine RR.runs (pc' := icm .ge v3 (40 : Int32) 92 20) (lc' := [(0, .ref 500), (1, .int v1), (2, .int v2), (3, .int v3)]) (st' := []) (S1 := S) (nL := 4) (cd := cd_2450) mx_2450 rfl rfl 3 rfl ?_
    rcases ifE h with ⟨c, h⟩ | ⟨c, h⟩
    · refine RR.c_ge (fun _ => ?_) (fun q => absurd c q)
      refine RR.runs (pc' := 40) (lc' := [(0, .ref 500), (1, .int v1), (2, .int v2), (3, .int v3)]) (st' := [.int ((((40 : Int32) * v1) + v3)), .ref 544, .int ((((40 : Int32) * v2) + v3)), .ref 544]) (S1 := S) (nL := 4) (cd := cd_2450) mx_2450 rfl rfl 14 rfl ?_
      obtain ⟨g, h⟩ := gnE h
      refine RR.gPN (c2 := (KM.1 544).1 = 1) (pc' := 41) (lc' := [(0, .ref 500), (1, .int v1), (2, .int v2), (3, .int v3)]) (st' := [.int ((rI S 544 ((((40 : Int32) * v1) + v3)).toNatClampNeg)), .int ((((40 : Int32) * v2) + v3)), .ref 544]) (S1 := S) (nL := 4) (cd := cd_2450) mx_2450 rfl rfl rfl rfl g ?_
      obtain ⟨g, h⟩ := gnE h
      refine RR.gPN (c2 := (KM.1 544).1 = 1) (pc' := 42) (lc' := [(0, .ref 500), (1, .int v1), (2, .int v2), (3, .int v3)]) (st' := []) (S1 := (wI S 544 ((((40 : Int32) * v2) + v3)).toNatClampNeg ((rI S 544 ((((40 : Int32) * v1) + v3)).toNatClampNeg)))) (nL := 4) (cd := cd_2450) mx_2450 rfl rfl rfl rfl g ?_
      obtain ⟨S1, eS1, h⟩ := ltE h
      rw [← eS1]
      refine RR.runs (pc' := 62) (lc' := [(0, .ref 500), (1, .int v1), (2, .int v2), (3, .int v3)]) (st' := [.int ((((40 : Int32) * v1) + v3)), .ref 545, .int ((((40 : Int32) * v2) + v3)), .ref 545]) (S1 := S1) (nL := 4) (cd := cd_2450) mx_2450 rfl rfl 14 rfl ?_
      obtain ⟨g, h⟩ := gnE h
      refine RR.gPN (c2 := (KM.1 545).1 = 1) (pc' := 63) (lc' := [(0, .ref 500), (1, .int v1), (2, .int v2), (3, .int v3)]) (st' := [.int ((rI S1 545 ((((40 : Int32) * v1) + v3)).toNatClampNeg)), .int ((((40 : Int32) * v2) + v3)), .ref 545]) (S1 := S1) (nL := 4) (cd := cd_2450) mx_2450 rfl rfl rfl rfl g ?_
      obtain ⟨g, h⟩ := gnE h
      refine RR.gPN (c2 := (KM.1 545).1 = 1) (pc' := 64) (lc' := [(0, .ref 500), (1, .int v1), (2, .int v2), (3, .int v3)]) (st' := []) (S1 := (wI S1 545 ((((40 : Int32) * v2) + v3)).toNatClampNeg ((rI S1 545 ((((40 : Int32) * v1) + v3)).toNatClampNeg)))) (nL := 4) (cd := cd_2450) mx_2450 rfl rfl rfl rfl g ?_
      obtain ⟨S2, eS2, h⟩ := ltE h
      rw [← eS2]
      refine RR.runs (pc' := 84) (lc' := [(0, .ref 500), (1, .int v1), (2, .int v2), (3, .int v3)]) (st' := [.int ((((40 : Int32) * v1) + v3)), .ref 546, .int ((((40 : Int32) * v2) + v3)), .ref 546]) (S1 := S2) (nL := 4) (cd := cd_2450) mx_2450 rfl rfl 14 rfl ?_
      obtain ⟨g, h⟩ := gnE h
      refine RR.gPN (c2 := (KM.1 546).1 = 1) (pc' := 85) (lc' := [(0, .ref 500), (1, .int v1), (2, .int v2), (3, .int v3)]) (st' := [.int ((rI S2 546 ((((40 : Int32) * v1) + v3)).toNatClampNeg)), .int ((((40 : Int32) * v2) + v3)), .ref 546]) (S1 := S2) (nL := 4) (cd := cd_2450) mx_2450 rfl rfl rfl rfl g ?_
      obtain ⟨g, h⟩ := gnE h
      refine RR.gPN (c2 := (KM.1 546).1 = 1) (pc' := 86) (lc' := [(0, .ref 500), (1, .int v1), (2, .int v2), (3, .int v3)]) (st' := []) (S1 := (wI S2 546 ((((40 : Int32) * v2) + v3)).toNatClampNeg ((rI S2 546 ((((40 : Int32) * v1) + v3)).toNatClampNeg)))) (nL := 4) (cd := cd_2450) mx_2450 rfl rfl rfl rfl g ?_
      obtain ⟨S3, eS3, h⟩ := ltE h
      rw [← eS3]
      refine RR.runs (pc' := 89) (lc' := [(3, .int ((v3 + (1 : Int32)))), (0, .ref 500), (1, .int v1), (2, .int v2)]) (st' := []) (S1 := S3) (nL := 4) (cd := cd_2450) mx_2450 rfl rfl 1 rfl ?_
      obtain ⟨x4, ex4, h⟩ := ltE h
      rw [← ex4]
      refine RR.runs (pc' := 14) (lc' := [(3, .int x4), (0, .ref 500), (1, .int v1), (2, .int v2)]) (st' := []) (S1 := S3) (nL := 4) (cd := cd_2450) mx_2450 rfl rfl 1 rfl ?_
      refine RR.weak [(0, .ref 500), (1, .int v1), (2, .int v2), (3, .int x4)] ⟨rfl, rfl, rfl, rfl, trivial⟩ ?_
      exact ih _ _ _ _ h
    · refine RR.c_ge (fun q => absurd q c) (fun _ => ?_)
      refine RR.weak [] trivial ?_
      exact s_m_laysLines_92 _ h
def m_laysLines (v1 : Int32) (v2 : Int32) (S : St) : Re Unit :=
  if v1 < 0 ∨ 6 ≤ v1.toNatClampNeg then none else
  if v2 < 0 ∨ 6 ≤ v2.toNatClampNeg then none else
  lt' (wI S 543 v2.toNatClampNeg (rI S 543 v1.toNatClampNeg)) fun S1 =>
  m_laysLines_14 FU v1 v2 (0 : Int32) S1
set_option maxRecDepth 100000 in
theorem s0_m_laysLines {d : Nat} {S' : St} {r : Unit} (v1 : Int32) (v2 : Int32) (S : St) (h : m_laysLines v1 v2 S = some (r, S')) : RR KM (d + 0) 2450 0 [(0, .ref 500), (1, .int v1), (2, .int v2)] [] S none S' := by
  unfold m_laysLines at h
  refine RR.runs (pc' := 10) (lc' := [(0, .ref 500), (1, .int v1), (2, .int v2)]) (st' := [.int v1, .ref 543, .int v2, .ref 543]) (S1 := S) (nL := 4) (cd := cd_2450) mx_2450 rfl rfl 6 rfl ?_
  obtain ⟨g, h⟩ := gnE h
  refine RR.gPN (c2 := (KM.1 543).1 = 1) (pc' := 11) (lc' := [(0, .ref 500), (1, .int v1), (2, .int v2)]) (st' := [.int (rI S 543 v1.toNatClampNeg), .int v2, .ref 543]) (S1 := S) (nL := 4) (cd := cd_2450) mx_2450 rfl rfl rfl rfl g ?_
  obtain ⟨g, h⟩ := gnE h
  refine RR.gPN (c2 := (KM.1 543).1 = 1) (pc' := 12) (lc' := [(0, .ref 500), (1, .int v1), (2, .int v2)]) (st' := []) (S1 := (wI S 543 v2.toNatClampNeg (rI S 543 v1.toNatClampNeg))) (nL := 4) (cd := cd_2450) mx_2450 rfl rfl rfl rfl g ?_
  obtain ⟨S1, eS1, h⟩ := ltE h
  rw [← eS1]
  refine RR.runs (pc' := 14) (lc' := [(3, .int (0 : Int32)), (0, .ref 500), (1, .int v1), (2, .int v2)]) (st' := []) (S1 := S1) (nL := 4) (cd := cd_2450) mx_2450 rfl rfl 2 rfl ?_
  refine RR.weak [(0, .ref 500), (1, .int v1), (2, .int v2), (3, .int (0 : Int32))] ⟨rfl, rfl, rfl, rfl, trivial⟩ ?_
  exact s_m_laysLines_14 _ _ _ _ _ h
theorem s_m_laysLines {d : Nat} {S' : St} {r : Unit} (v1 : Int32) (v2 : Int32) (S : St) (h : m_laysLines v1 v2 S = some (r, S')) : RC KM (d + 0) 2450 [.ref 500, .int v1, .int v2] S none S' := RC.of rfl (s0_m_laysLines v1 v2 S h)
-- laysTold (II)V
def m_laysTold_116 (S : St) : Re Unit :=
  some ((), S)
set_option maxRecDepth 100000 in
theorem s_m_laysTold_116 {d : Nat} {S' : St} {r : Unit} (S : St) (h : m_laysTold_116 S = some (r, S')) : RR KM (d + 0) 2451 116 [] [] S none S' := by
  unfold m_laysTold_116 at h
  cases h
  exact RR.retv mx_2451 rfl rfl rfl
def m_laysTold_38 : Nat → Int32 → Int32 → Int32 → St → Re Unit
  | 0, _, _, _, _ => none
  | n + 1, v1, v2, v3, S =>
  if v3 < (12 : Int32) then (
    if (((12 : Int32) * v1) + v3) < 0 ∨ 60 ≤ ((((12 : Int32) * v1) + v3)).toNatClampNeg then none else
    if (((12 : Int32) * v2) + v3) < 0 ∨ 60 ≤ ((((12 : Int32) * v2) + v3)).toNatClampNeg then none else
    lt' (wI S 550 ((((12 : Int32) * v2) + v3)).toNatClampNeg ((rI S 550 ((((12 : Int32) * v1) + v3)).toNatClampNeg))) fun S1 =>
    if (((12 : Int32) * v1) + v3) < 0 ∨ 60 ≤ ((((12 : Int32) * v1) + v3)).toNatClampNeg then none else
    if (((12 : Int32) * v2) + v3) < 0 ∨ 60 ≤ ((((12 : Int32) * v2) + v3)).toNatClampNeg then none else
    lt' (wI S1 551 ((((12 : Int32) * v2) + v3)).toNatClampNeg ((rI S1 551 ((((12 : Int32) * v1) + v3)).toNatClampNeg))) fun S2 =>
    if (((12 : Int32) * v1) + v3) < 0 ∨ 60 ≤ ((((12 : Int32) * v1) + v3)).toNatClampNeg then none else
    if (((12 : Int32) * v2) + v3) < 0 ∨ 60 ≤ ((((12 : Int32) * v2) + v3)).toNatClampNeg then none else
    lt' (wI S2 552 ((((12 : Int32) * v2) + v3)).toNatClampNeg ((vp_nar .boolean ((rI S2 552 ((((12 : Int32) * v1) + v3)).toNatClampNeg))))) fun S3 =>
    lt' ((v3 + (1 : Int32)) : Int32) fun x4 =>
    m_laysTold_38 n v1 v2 x4 S3)
  else (
    m_laysTold_116 S)
set_option maxRecDepth 100000 in
theorem s_m_laysTold_38 {d : Nat} {S' : St} {r : Unit} : ∀ (n : Nat) (v1 : Int32) (v2 : Int32) (v3 : Int32) (S : St), m_laysTold_38 n v1 v2 v3 S = some (r, S') → RR KM (d + 0) 2451 38 [(0, .ref 500), (1, .int v1), (2, .int v2), (3, .int v3)] [] S none S' := by
  intro n
  induction n with
  | zero => intro v1 v2 v3 S h; simp only [m_laysTold_38] at h; cases h
  | succ n ih =>
    intro v1 v2 v3 S h
    simp only [m_laysTold_38] at h
    refine RR.runs (pc' := icm .ge v3 (12 : Int32) 116 44) (lc' := [(0, .ref 500), (1, .int v1), (2, .int v2), (3, .int v3)]) (st' := []) (S1 := S) (nL := 4) (cd := cd_2451) mx_2451 rfl rfl 3 rfl ?_
    rcases ifE h with ⟨c, h⟩ | ⟨c, h⟩
    · refine RR.c_ge (fun _ => ?_) (fun q => absurd c q)
      refine RR.runs (pc' := 64) (lc' := [(0, .ref 500), (1, .int v1), (2, .int v2), (3, .int v3)]) (st' := [.int ((((12 : Int32) * v1) + v3)), .ref 550, .int ((((12 : Int32) * v2) + v3)), .ref 550]) (S1 := S) (nL := 4) (cd := cd_2451) mx_2451 rfl rfl 14 rfl ?_
      obtain ⟨g, h⟩ := gnE h
      refine RR.gPN (c2 := (KM.1 550).1 = 1) (pc' := 65) (lc' := [(0, .ref 500), (1, .int v1), (2, .int v2), (3, .int v3)]) (st' := [.int ((rI S 550 ((((12 : Int32) * v1) + v3)).toNatClampNeg)), .int ((((12 : Int32) * v2) + v3)), .ref 550]) (S1 := S) (nL := 4) (cd := cd_2451) mx_2451 rfl rfl rfl rfl g ?_
      obtain ⟨g, h⟩ := gnE h
      refine RR.gPN (c2 := (KM.1 550).1 = 1) (pc' := 66) (lc' := [(0, .ref 500), (1, .int v1), (2, .int v2), (3, .int v3)]) (st' := []) (S1 := (wI S 550 ((((12 : Int32) * v2) + v3)).toNatClampNeg ((rI S 550 ((((12 : Int32) * v1) + v3)).toNatClampNeg)))) (nL := 4) (cd := cd_2451) mx_2451 rfl rfl rfl rfl g ?_
      obtain ⟨S1, eS1, h⟩ := ltE h
      rw [← eS1]
      refine RR.runs (pc' := 86) (lc' := [(0, .ref 500), (1, .int v1), (2, .int v2), (3, .int v3)]) (st' := [.int ((((12 : Int32) * v1) + v3)), .ref 551, .int ((((12 : Int32) * v2) + v3)), .ref 551]) (S1 := S1) (nL := 4) (cd := cd_2451) mx_2451 rfl rfl 14 rfl ?_
      obtain ⟨g, h⟩ := gnE h
      refine RR.gPN (c2 := (KM.1 551).1 = 1) (pc' := 87) (lc' := [(0, .ref 500), (1, .int v1), (2, .int v2), (3, .int v3)]) (st' := [.int ((rI S1 551 ((((12 : Int32) * v1) + v3)).toNatClampNeg)), .int ((((12 : Int32) * v2) + v3)), .ref 551]) (S1 := S1) (nL := 4) (cd := cd_2451) mx_2451 rfl rfl rfl rfl g ?_
      obtain ⟨g, h⟩ := gnE h
      refine RR.gPN (c2 := (KM.1 551).1 = 1) (pc' := 88) (lc' := [(0, .ref 500), (1, .int v1), (2, .int v2), (3, .int v3)]) (st' := []) (S1 := (wI S1 551 ((((12 : Int32) * v2) + v3)).toNatClampNeg ((rI S1 551 ((((12 : Int32) * v1) + v3)).toNatClampNeg)))) (nL := 4) (cd := cd_2451) mx_2451 rfl rfl rfl rfl g ?_
      obtain ⟨S2, eS2, h⟩ := ltE h
      rw [← eS2]
      refine RR.runs (pc' := 108) (lc' := [(0, .ref 500), (1, .int v1), (2, .int v2), (3, .int v3)]) (st' := [.int ((((12 : Int32) * v1) + v3)), .ref 552, .int ((((12 : Int32) * v2) + v3)), .ref 552]) (S1 := S2) (nL := 4) (cd := cd_2451) mx_2451 rfl rfl 14 rfl ?_
      obtain ⟨g, h⟩ := gnE h
      refine RR.gPN (c2 := (KM.1 552).1 = 3) (pc' := 109) (lc' := [(0, .ref 500), (1, .int v1), (2, .int v2), (3, .int v3)]) (st' := [.int ((rI S2 552 ((((12 : Int32) * v1) + v3)).toNatClampNeg)), .int ((((12 : Int32) * v2) + v3)), .ref 552]) (S1 := S2) (nL := 4) (cd := cd_2451) mx_2451 rfl rfl rfl rfl g ?_
      obtain ⟨g, h⟩ := gnE h
      refine RR.gPN (c2 := (KM.1 552).1 = 3) (pc' := 110) (lc' := [(0, .ref 500), (1, .int v1), (2, .int v2), (3, .int v3)]) (st' := []) (S1 := (wI S2 552 ((((12 : Int32) * v2) + v3)).toNatClampNeg ((vp_nar .boolean ((rI S2 552 ((((12 : Int32) * v1) + v3)).toNatClampNeg)))))) (nL := 4) (cd := cd_2451) mx_2451 rfl rfl rfl rfl g ?_
      obtain ⟨S3, eS3, h⟩ := ltE h
      rw [← eS3]
      refine RR.runs (pc' := 113) (lc' := [(3, .int ((v3 + (1 : Int32)))), (0, .ref 500), (1, .int v1), (2, .int v2)]) (st' := []) (S1 := S3) (nL := 4) (cd := cd_2451) mx_2451 rfl rfl 1 rfl ?_
      obtain ⟨x4, ex4, h⟩ := ltE h
      rw [← ex4]
      refine RR.runs (pc' := 38) (lc' := [(3, .int x4), (0, .ref 500), (1, .int v1), (2, .int v2)]) (st' := []) (S1 := S3) (nL := 4) (cd := cd_2451) mx_2451 rfl rfl 1 rfl ?_
      refine RR.weak [(0, .ref 500), (1, .int v1), (2, .int v2), (3, .int x4)] ⟨rfl, rfl, rfl, rfl, trivial⟩ ?_
      exact ih _ _ _ _ h
    · refine RR.c_ge (fun q => absurd q c) (fun _ => ?_)
      refine RR.weak [] trivial ?_
      exact s_m_laysTold_116 _ h
def m_laysTold (v1 : Int32) (v2 : Int32) (S : St) : Re Unit :=
  if v1 < 0 ∨ 5 ≤ v1.toNatClampNeg then none else
  if v2 < 0 ∨ 5 ≤ v2.toNatClampNeg then none else
  lt' (wI S 547 v2.toNatClampNeg (rI S 547 v1.toNatClampNeg)) fun S1 =>
  if v1 < 0 ∨ 5 ≤ v1.toNatClampNeg then none else
  if v2 < 0 ∨ 5 ≤ v2.toNatClampNeg then none else
  lt' (wI S1 548 v2.toNatClampNeg (rI S1 548 v1.toNatClampNeg)) fun S2 =>
  if v1 < 0 ∨ 5 ≤ v1.toNatClampNeg then none else
  if v2 < 0 ∨ 5 ≤ v2.toNatClampNeg then none else
  lt' (wI S2 549 v2.toNatClampNeg (rI S2 549 v1.toNatClampNeg)) fun S3 =>
  m_laysTold_38 FU v1 v2 (0 : Int32) S3
set_option maxRecDepth 100000 in
theorem s0_m_laysTold {d : Nat} {S' : St} {r : Unit} (v1 : Int32) (v2 : Int32) (S : St) (h : m_laysTold v1 v2 S = some (r, S')) : RR KM (d + 0) 2451 0 [(0, .ref 500), (1, .int v1), (2, .int v2)] [] S none S' := by
  unfold m_laysTold at h
  refine RR.runs (pc' := 10) (lc' := [(0, .ref 500), (1, .int v1), (2, .int v2)]) (st' := [.int v1, .ref 547, .int v2, .ref 547]) (S1 := S) (nL := 4) (cd := cd_2451) mx_2451 rfl rfl 6 rfl ?_
  obtain ⟨g, h⟩ := gnE h
  refine RR.gPN (c2 := (KM.1 547).1 = 1) (pc' := 11) (lc' := [(0, .ref 500), (1, .int v1), (2, .int v2)]) (st' := [.int (rI S 547 v1.toNatClampNeg), .int v2, .ref 547]) (S1 := S) (nL := 4) (cd := cd_2451) mx_2451 rfl rfl rfl rfl g ?_
  obtain ⟨g, h⟩ := gnE h
  refine RR.gPN (c2 := (KM.1 547).1 = 1) (pc' := 12) (lc' := [(0, .ref 500), (1, .int v1), (2, .int v2)]) (st' := []) (S1 := (wI S 547 v2.toNatClampNeg (rI S 547 v1.toNatClampNeg))) (nL := 4) (cd := cd_2451) mx_2451 rfl rfl rfl rfl g ?_
  obtain ⟨S1, eS1, h⟩ := ltE h
  rw [← eS1]
  refine RR.runs (pc' := 22) (lc' := [(0, .ref 500), (1, .int v1), (2, .int v2)]) (st' := [.int v1, .ref 548, .int v2, .ref 548]) (S1 := S1) (nL := 4) (cd := cd_2451) mx_2451 rfl rfl 6 rfl ?_
  obtain ⟨g, h⟩ := gnE h
  refine RR.gPN (c2 := (KM.1 548).1 = 1) (pc' := 23) (lc' := [(0, .ref 500), (1, .int v1), (2, .int v2)]) (st' := [.int (rI S1 548 v1.toNatClampNeg), .int v2, .ref 548]) (S1 := S1) (nL := 4) (cd := cd_2451) mx_2451 rfl rfl rfl rfl g ?_
  obtain ⟨g, h⟩ := gnE h
  refine RR.gPN (c2 := (KM.1 548).1 = 1) (pc' := 24) (lc' := [(0, .ref 500), (1, .int v1), (2, .int v2)]) (st' := []) (S1 := (wI S1 548 v2.toNatClampNeg (rI S1 548 v1.toNatClampNeg))) (nL := 4) (cd := cd_2451) mx_2451 rfl rfl rfl rfl g ?_
  obtain ⟨S2, eS2, h⟩ := ltE h
  rw [← eS2]
  refine RR.runs (pc' := 34) (lc' := [(0, .ref 500), (1, .int v1), (2, .int v2)]) (st' := [.int v1, .ref 549, .int v2, .ref 549]) (S1 := S2) (nL := 4) (cd := cd_2451) mx_2451 rfl rfl 6 rfl ?_
  obtain ⟨g, h⟩ := gnE h
  refine RR.gPN (c2 := (KM.1 549).1 = 1) (pc' := 35) (lc' := [(0, .ref 500), (1, .int v1), (2, .int v2)]) (st' := [.int (rI S2 549 v1.toNatClampNeg), .int v2, .ref 549]) (S1 := S2) (nL := 4) (cd := cd_2451) mx_2451 rfl rfl rfl rfl g ?_
  obtain ⟨g, h⟩ := gnE h
  refine RR.gPN (c2 := (KM.1 549).1 = 1) (pc' := 36) (lc' := [(0, .ref 500), (1, .int v1), (2, .int v2)]) (st' := []) (S1 := (wI S2 549 v2.toNatClampNeg (rI S2 549 v1.toNatClampNeg))) (nL := 4) (cd := cd_2451) mx_2451 rfl rfl rfl rfl g ?_
  obtain ⟨S3, eS3, h⟩ := ltE h
  rw [← eS3]
  refine RR.runs (pc' := 38) (lc' := [(3, .int (0 : Int32)), (0, .ref 500), (1, .int v1), (2, .int v2)]) (st' := []) (S1 := S3) (nL := 4) (cd := cd_2451) mx_2451 rfl rfl 2 rfl ?_
  refine RR.weak [(0, .ref 500), (1, .int v1), (2, .int v2), (3, .int (0 : Int32))] ⟨rfl, rfl, rfl, rfl, trivial⟩ ?_
  exact s_m_laysTold_38 _ _ _ _ _ h
theorem s_m_laysTold {d : Nat} {S' : St} {r : Unit} (v1 : Int32) (v2 : Int32) (S : St) (h : m_laysTold v1 v2 S = some (r, S')) : RC KM (d + 0) 2451 [.ref 500, .int v1, .int v2] S none S' := RC.of rfl (s0_m_laysTold v1 v2 S h)
