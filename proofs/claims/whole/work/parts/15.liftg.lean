/-! Methods of the reference, lifted (laid by wip/whole/gen/model.py) -/
-- cropOf (IIIIZ)I
def m_cropOf_152 (rec : Int32 → Int32 → Int32 → Int32 → Int32 → St → Re Int32) (k36 : Int32 → Int32 → Int32 → Int32 → Int32 → Int32 → Int32 → St → Re Int32) (v1 : Int32) (v2 : Int32) (v3 : Int32) (v4 : Int32) (v5 : Int32) (v6 : Int32) (v7 : Int32) (S : St) : Re Int32 :=
  lt' ((v7 + (1 : Int32)) : Int32) fun x1 =>
  k36 v1 v2 v3 v4 v5 v6 x1 S
set_option maxRecDepth 100000 in
theorem s_m_cropOf_152 {d : Nat} (rec : Int32 → Int32 → Int32 → Int32 → Int32 → St → Re Int32) (k36 : Int32 → Int32 → Int32 → Int32 → Int32 → Int32 → Int32 → St → Re Int32) {S' : St} {r : Int32} (hrec : ∀ (v1 : Int32) (v2 : Int32) (v3 : Int32) (v4 : Int32) (v5 : Int32) (S : St) (r : Int32) (S' : St), rec v1 v2 v3 v4 v5 S = some (r, S') → RC KM (d + 1) 2485 [.ref 500, .int v1, .int v2, .int v3, .int v4, .int v5] S (some (.int r)) S') (b36 : ∀ (v1 : Int32) (v2 : Int32) (v3 : Int32) (v4 : Int32) (v5 : Int32) (v6 : Int32) (v7 : Int32) (S : St), k36 v1 v2 v3 v4 v5 v6 v7 S = some (r, S') → RR KM (d + 2) 2485 36 [(0, .ref 500), (1, .int v1), (2, .int v2), (3, .int v3), (4, .int v4), (5, .int v5), (6, .int v6), (7, .int v7)] [] S (some (.int r)) S') (v1 : Int32) (v2 : Int32) (v3 : Int32) (v4 : Int32) (v5 : Int32) (v6 : Int32) (v7 : Int32) (S : St) (h : m_cropOf_152 rec k36 v1 v2 v3 v4 v5 v6 v7 S = some (r, S')) : RR KM (d + 2) 2485 152 [(0, .ref 500), (1, .int v1), (2, .int v2), (3, .int v3), (4, .int v4), (5, .int v5), (6, .int v6), (7, .int v7)] [] S (some (.int r)) S' := by
  unfold m_cropOf_152 at h
  refine RR.runs (pc' := 155) (lc' := [(7, .int ((v7 + (1 : Int32)))), (0, .ref 500), (1, .int v1), (2, .int v2), (3, .int v3), (4, .int v4), (5, .int v5), (6, .int v6)]) (st' := []) (S1 := S) (nL := 10) (cd := cd_2485) mx_2485 rfl rfl 1 rfl ?_
  obtain ⟨x1, ex1, h⟩ := ltE h
  rw [← ex1]
  refine RR.runs (pc' := 36) (lc' := [(7, .int x1), (0, .ref 500), (1, .int v1), (2, .int v2), (3, .int v3), (4, .int v4), (5, .int v5), (6, .int v6)]) (st' := []) (S1 := S) (nL := 10) (cd := cd_2485) mx_2485 rfl rfl 1 rfl ?_
  refine RR.weak [(0, .ref 500), (1, .int v1), (2, .int v2), (3, .int v3), (4, .int v4), (5, .int v5), (6, .int v6), (7, .int x1)] ⟨rfl, rfl, rfl, rfl, rfl, rfl, rfl, rfl, trivial⟩ ?_
  exact b36 _ _ _ _ _ _ _ _ h
def m_cropOf_158 (rec : Int32 → Int32 → Int32 → Int32 → Int32 → St → Re Int32) (v6 : Int32) (S : St) : Re Int32 :=
  some (v6, S)
set_option maxRecDepth 100000 in
theorem s_m_cropOf_158 {d : Nat} (rec : Int32 → Int32 → Int32 → Int32 → Int32 → St → Re Int32) {S' : St} {r : Int32} (hrec : ∀ (v1 : Int32) (v2 : Int32) (v3 : Int32) (v4 : Int32) (v5 : Int32) (S : St) (r : Int32) (S' : St), rec v1 v2 v3 v4 v5 S = some (r, S') → RC KM (d + 1) 2485 [.ref 500, .int v1, .int v2, .int v3, .int v4, .int v5] S (some (.int r)) S') (v6 : Int32) (S : St) (h : m_cropOf_158 rec v6 S = some (r, S')) : RR KM (d + 2) 2485 158 [(6, .int v6)] [] S (some (.int r)) S' := by
  unfold m_cropOf_158 at h
  refine RR.runs (pc' := 160) (lc' := [(6, .int v6)]) (st' := [.int v6]) (S1 := S) (nL := 10) (cd := cd_2485) mx_2485 rfl rfl 1 rfl ?_
  cases h
  exact RR.reti mx_2485 rfl rfl rfl
def m_cropOf_36 (rec : Int32 → Int32 → Int32 → Int32 → Int32 → St → Re Int32) : Nat → Int32 → Int32 → Int32 → Int32 → Int32 → Int32 → Int32 → St → Re Int32
  | 0, _, _, _, _, _, _, _, _ => none
  | n + 1, v1, v2, v3, v4, v5, v6, v7, S =>
  if v7 < (rI S 500 77) then (
    if v7 < 0 ∨ 80 ≤ v7.toNatClampNeg then none else
    if v7 < 0 ∨ 80 ≤ v7.toNatClampNeg then none else
    if (v1 &&& ((rI S 558 v7.toNatClampNeg) ||| (rI S 559 v7.toNatClampNeg))) = 0 then (
      m_cropOf_152 rec (m_cropOf_36 rec n) v1 v2 v3 v4 v5 v6 v7 S)
    else (
      if v7 < 0 ∨ 80 ≤ v7.toNatClampNeg then none else
      if v7 < 0 ∨ 80 ≤ v7.toNatClampNeg then none else
      bn (m_fallsBy v1 v2 (rI S 558 v7.toNatClampNeg) (rI S 559 v7.toNatClampNeg) S) fun r1 S2 =>
      bn (m_cropWorth r1 v3 S2) fun r3 S4 =>
      bn (rec ((v1 &&& (r1 ^^^ (-1 : Int32)))) (rI S4 500 72) ((v3 + (1 : Int32))) ((v4 - (1 : Int32))) (0 : Int32) S4) fun r5 S6 =>
      lt' ((r3 + r5) : Int32) fun x7 =>
      if v6 < x7 then (
        if v5 = 0 then (
          m_cropOf_152 rec (m_cropOf_36 rec n) v1 v2 v3 v4 v5 x7 v7 S6)
        else (
          if v7 < 0 ∨ 80 ≤ v7.toNatClampNeg then none else
          lt' (wI S6 500 79 (rI S6 560 v7.toNatClampNeg)) fun S8 =>
          m_cropOf_152 rec (m_cropOf_36 rec n) v1 v2 v3 v4 v5 x7 v7 S8))
      else (
        m_cropOf_152 rec (m_cropOf_36 rec n) v1 v2 v3 v4 v5 v6 v7 S6)))
  else (
    m_cropOf_158 rec v6 S)
set_option maxRecDepth 100000 in
theorem s_m_cropOf_36 {d : Nat} (rec : Int32 → Int32 → Int32 → Int32 → Int32 → St → Re Int32) {S' : St} {r : Int32} (hrec : ∀ (v1 : Int32) (v2 : Int32) (v3 : Int32) (v4 : Int32) (v5 : Int32) (S : St) (r : Int32) (S' : St), rec v1 v2 v3 v4 v5 S = some (r, S') → RC KM (d + 1) 2485 [.ref 500, .int v1, .int v2, .int v3, .int v4, .int v5] S (some (.int r)) S') : ∀ (n : Nat) (v1 : Int32) (v2 : Int32) (v3 : Int32) (v4 : Int32) (v5 : Int32) (v6 : Int32) (v7 : Int32) (S : St), m_cropOf_36 rec n v1 v2 v3 v4 v5 v6 v7 S = some (r, S') → RR KM (d + 2) 2485 36 [(0, .ref 500), (1, .int v1), (2, .int v2), (3, .int v3), (4, .int v4), (5, .int v5), (6, .int v6), (7, .int v7)] [] S (some (.int r)) S' := by
  intro n
  induction n with
  | zero => intro v1 v2 v3 v4 v5 v6 v7 S h; simp only [m_cropOf_36] at h; cases h
  | succ n ih =>
    intro v1 v2 v3 v4 v5 v6 v7 S h
    simp only [m_cropOf_36] at h
    refine RR.runs (pc' := icm .ge v7 (rI S 500 77) 158 45) (lc' := [(0, .ref 500), (1, .int v1), (2, .int v2), (3, .int v3), (4, .int v4), (5, .int v5), (6, .int v6), (7, .int v7)]) (st' := []) (S1 := S) (nL := 10) (cd := cd_2485) mx_2485 rfl rfl 4 rfl ?_
    rcases ifE h with ⟨c, h⟩ | ⟨c, h⟩
    · refine RR.c_ge (fun _ => ?_) (fun q => absurd c q)
      refine RR.runs (pc' := 52) (lc' := [(0, .ref 500), (1, .int v1), (2, .int v2), (3, .int v3), (4, .int v4), (5, .int v5), (6, .int v6), (7, .int v7)]) (st' := [.int v7, .ref 558, .int v1]) (S1 := S) (nL := 10) (cd := cd_2485) mx_2485 rfl rfl 4 rfl ?_
      obtain ⟨g, h⟩ := gnE h
      refine RR.gPN (c2 := (KM.1 558).1 = 1) (pc' := 53) (lc' := [(0, .ref 500), (1, .int v1), (2, .int v2), (3, .int v3), (4, .int v4), (5, .int v5), (6, .int v6), (7, .int v7)]) (st' := [.int (rI S 558 v7.toNatClampNeg), .int v1]) (S1 := S) (nL := 10) (cd := cd_2485) mx_2485 rfl rfl rfl rfl g ?_
      refine RR.runs (pc' := 59) (lc' := [(0, .ref 500), (1, .int v1), (2, .int v2), (3, .int v3), (4, .int v4), (5, .int v5), (6, .int v6), (7, .int v7)]) (st' := [.int v7, .ref 559, .int (rI S 558 v7.toNatClampNeg), .int v1]) (S1 := S) (nL := 10) (cd := cd_2485) mx_2485 rfl rfl 3 rfl ?_
      obtain ⟨g, h⟩ := gnE h
      refine RR.gPN (c2 := (KM.1 559).1 = 1) (pc' := 60) (lc' := [(0, .ref 500), (1, .int v1), (2, .int v2), (3, .int v3), (4, .int v4), (5, .int v5), (6, .int v6), (7, .int v7)]) (st' := [.int (rI S 559 v7.toNatClampNeg), .int (rI S 558 v7.toNatClampNeg), .int v1]) (S1 := S) (nL := 10) (cd := cd_2485) mx_2485 rfl rfl rfl rfl g ?_
      refine RR.runs (pc' := icm .ne ((v1 &&& ((rI S 558 v7.toNatClampNeg) ||| (rI S 559 v7.toNatClampNeg)))) 0 68 65) (lc' := [(0, .ref 500), (1, .int v1), (2, .int v2), (3, .int v3), (4, .int v4), (5, .int v5), (6, .int v6), (7, .int v7)]) (st' := []) (S1 := S) (nL := 10) (cd := cd_2485) mx_2485 rfl rfl 3 rfl ?_
      rcases ifE h with ⟨c, h⟩ | ⟨c, h⟩
      · refine RR.c_ne (fun _ => ?_) (fun q => absurd c q)
        refine RR.runs (pc' := 152) (lc' := [(0, .ref 500), (1, .int v1), (2, .int v2), (3, .int v3), (4, .int v4), (5, .int v5), (6, .int v6), (7, .int v7)]) (st' := []) (S1 := S) (nL := 10) (cd := cd_2485) mx_2485 rfl rfl 1 rfl ?_
        refine RR.weak [(0, .ref 500), (1, .int v1), (2, .int v2), (3, .int v3), (4, .int v4), (5, .int v5), (6, .int v6), (7, .int v7)] ⟨rfl, rfl, rfl, rfl, rfl, rfl, rfl, rfl, trivial⟩ ?_
        exact s_m_cropOf_152 _ _ hrec (fun _ _ _ _ _ _ _ S h => ih _ _ _ _ _ _ _ S h) _ _ _ _ _ _ _ _ h
      · refine RR.c_ne (fun q => absurd q c) (fun _ => ?_)
        refine RR.runs (pc' := 77) (lc' := [(0, .ref 500), (1, .int v1), (2, .int v2), (3, .int v3), (4, .int v4), (5, .int v5), (6, .int v6), (7, .int v7)]) (st' := [.int v7, .ref 558, .int v2, .int v1, .ref 500]) (S1 := S) (nL := 10) (cd := cd_2485) mx_2485 rfl rfl 6 rfl ?_
        obtain ⟨g, h⟩ := gnE h
        refine RR.gPN (c2 := (KM.1 558).1 = 1) (pc' := 78) (lc' := [(0, .ref 500), (1, .int v1), (2, .int v2), (3, .int v3), (4, .int v4), (5, .int v5), (6, .int v6), (7, .int v7)]) (st' := [.int (rI S 558 v7.toNatClampNeg), .int v2, .int v1, .ref 500]) (S1 := S) (nL := 10) (cd := cd_2485) mx_2485 rfl rfl rfl rfl g ?_
        refine RR.runs (pc' := 84) (lc' := [(0, .ref 500), (1, .int v1), (2, .int v2), (3, .int v3), (4, .int v4), (5, .int v5), (6, .int v6), (7, .int v7)]) (st' := [.int v7, .ref 559, .int (rI S 558 v7.toNatClampNeg), .int v2, .int v1, .ref 500]) (S1 := S) (nL := 10) (cd := cd_2485) mx_2485 rfl rfl 3 rfl ?_
        obtain ⟨g, h⟩ := gnE h
        refine RR.gPN (c2 := (KM.1 559).1 = 1) (pc' := 85) (lc' := [(0, .ref 500), (1, .int v1), (2, .int v2), (3, .int v3), (4, .int v4), (5, .int v5), (6, .int v6), (7, .int v7)]) (st' := [.int (rI S 559 v7.toNatClampNeg), .int (rI S 558 v7.toNatClampNeg), .int v2, .int v1, .ref 500]) (S1 := S) (nL := 10) (cd := cd_2485) mx_2485 rfl rfl rfl rfl g ?_
        obtain ⟨r1, S2, h1, h⟩ := bnE h
        refine RR.callV (b := 500) (as := [.int v1, .int v2, .int (rI S 558 v7.toNatClampNeg), .int (rI S 559 v7.toNatClampNeg)]) (rest := []) (r1 := (some (.int r1))) (S1 := S2) mx_2485 rfl rfl mx_2466 rfl rfl (by decide) (Or.inl rfl) (Nat.le_of_ble_eq_true rfl) (Nat.le_of_ble_eq_true rfl) (RC.deep (by omega) (s_m_fallsBy (d := d) _ _ _ _ _ h1)) ?_
        show RR KM _ 2485 88 [(0, .ref 500), (1, .int v1), (2, .int v2), (3, .int v3), (4, .int v4), (5, .int v5), (6, .int v6), (7, .int v7)] [.int r1] S2 _ _
        refine RR.runs (pc' := 94) (lc' := [(8, .int r1), (0, .ref 500), (1, .int v1), (2, .int v2), (3, .int v3), (4, .int v4), (5, .int v5), (6, .int v6), (7, .int v7)]) (st' := [.int v3, .int r1, .ref 500]) (S1 := S2) (nL := 10) (cd := cd_2485) mx_2485 rfl rfl 4 rfl ?_
        obtain ⟨r3, S4, h1, h⟩ := bnE h
        refine RR.callV (b := 500) (as := [.int r1, .int v3]) (rest := []) (r1 := (some (.int r3))) (S1 := S4) mx_2485 rfl rfl mx_2484 rfl rfl (by decide) (Or.inl rfl) (Nat.le_of_ble_eq_true rfl) (Nat.le_of_ble_eq_true rfl) (RC.deep (by omega) (s_m_cropWorth (d := d) _ _ _ h1)) ?_
        show RR KM _ 2485 97 [(8, .int r1), (0, .ref 500), (1, .int v1), (2, .int v2), (3, .int v3), (4, .int v4), (5, .int v5), (6, .int v6), (7, .int v7)] [.int r3] S4 _ _
        refine RR.runs (pc' := 116) (lc' := [(8, .int r1), (0, .ref 500), (1, .int v1), (2, .int v2), (3, .int v3), (4, .int v4), (5, .int v5), (6, .int v6), (7, .int v7)]) (st' := [.int (0 : Int32), .int ((v4 - (1 : Int32))), .int ((v3 + (1 : Int32))), .int (rI S4 500 72), .int ((v1 &&& (r1 ^^^ (-1 : Int32)))), .ref 500, .int r3]) (S1 := S4) (nL := 10) (cd := cd_2485) mx_2485 rfl rfl 15 rfl ?_
        obtain ⟨r5, S6, h1, h⟩ := bnE h
        refine RR.callV (b := 500) (as := [.int ((v1 &&& (r1 ^^^ (-1 : Int32)))), .int (rI S4 500 72), .int ((v3 + (1 : Int32))), .int ((v4 - (1 : Int32))), .int (0 : Int32)]) (rest := [.int r3]) (r1 := (some (.int r5))) (S1 := S6) mx_2485 rfl rfl mx_2485 rfl rfl (by decide) (Or.inl rfl) (Nat.le_of_ble_eq_true rfl) (Nat.le_of_ble_eq_true rfl) (hrec _ _ _ _ _ _ _ _ h1) ?_
        show RR KM _ 2485 119 [(8, .int r1), (0, .ref 500), (1, .int v1), (2, .int v2), (3, .int v3), (4, .int v4), (5, .int v5), (6, .int v6), (7, .int v7)] [.int r5, .int r3] S6 _ _
        refine RR.runs (pc' := 122) (lc' := [(9, .int (r3 + r5)), (8, .int r1), (0, .ref 500), (1, .int v1), (2, .int v2), (3, .int v3), (4, .int v4), (5, .int v5), (6, .int v6), (7, .int v7)]) (st' := []) (S1 := S6) (nL := 10) (cd := cd_2485) mx_2485 rfl rfl 2 rfl ?_
        obtain ⟨x7, ex7, h⟩ := ltE h
        rw [← ex7]
        refine RR.runs (pc' := icm .gt x7 v6 132 129) (lc' := [(9, .int x7), (8, .int r1), (0, .ref 500), (1, .int v1), (2, .int v2), (3, .int v3), (4, .int v4), (5, .int v5), (6, .int v6), (7, .int v7)]) (st' := []) (S1 := S6) (nL := 10) (cd := cd_2485) mx_2485 rfl rfl 3 rfl ?_
        rcases ifE h with ⟨c, h⟩ | ⟨c, h⟩
        · refine RR.c_gt (fun _ => ?_) (fun q => absurd c q)
          refine RR.runs (pc' := icm .eq v5 0 152 141) (lc' := [(6, .int x7), (9, .int x7), (8, .int r1), (0, .ref 500), (1, .int v1), (2, .int v2), (3, .int v3), (4, .int v4), (5, .int v5), (7, .int v7)]) (st' := []) (S1 := S6) (nL := 10) (cd := cd_2485) mx_2485 rfl rfl 4 rfl ?_
          rcases ifE h with ⟨c, h⟩ | ⟨c, h⟩
          · refine RR.c_eq (fun _ => ?_) (fun q => absurd c q)
            refine RR.weak [(0, .ref 500), (1, .int v1), (2, .int v2), (3, .int v3), (4, .int v4), (5, .int v5), (6, .int x7), (7, .int v7)] ⟨rfl, rfl, rfl, rfl, rfl, rfl, rfl, rfl, trivial⟩ ?_
            exact s_m_cropOf_152 _ _ hrec (fun _ _ _ _ _ _ _ S h => ih _ _ _ _ _ _ _ S h) _ _ _ _ _ _ _ _ h
          · refine RR.c_eq (fun q => absurd q c) (fun _ => ?_)
            refine RR.runs (pc' := 148) (lc' := [(6, .int x7), (9, .int x7), (8, .int r1), (0, .ref 500), (1, .int v1), (2, .int v2), (3, .int v3), (4, .int v4), (5, .int v5), (7, .int v7)]) (st' := [.int v7, .ref 560, .ref 500]) (S1 := S6) (nL := 10) (cd := cd_2485) mx_2485 rfl rfl 4 rfl ?_
            obtain ⟨g, h⟩ := gnE h
            refine RR.gPN (c2 := (KM.1 560).1 = 1) (pc' := 149) (lc' := [(6, .int x7), (9, .int x7), (8, .int r1), (0, .ref 500), (1, .int v1), (2, .int v2), (3, .int v3), (4, .int v4), (5, .int v5), (7, .int v7)]) (st' := [.int (rI S6 560 v7.toNatClampNeg), .ref 500]) (S1 := S6) (nL := 10) (cd := cd_2485) mx_2485 rfl rfl rfl rfl g ?_
            refine RR.runs (pc' := 152) (lc' := [(6, .int x7), (9, .int x7), (8, .int r1), (0, .ref 500), (1, .int v1), (2, .int v2), (3, .int v3), (4, .int v4), (5, .int v5), (7, .int v7)]) (st' := []) (S1 := (wI S6 500 79 (rI S6 560 v7.toNatClampNeg))) (nL := 10) (cd := cd_2485) mx_2485 rfl rfl 1 rfl ?_
            obtain ⟨S8, eS8, h⟩ := ltE h
            rw [← eS8]
            refine RR.weak [(0, .ref 500), (1, .int v1), (2, .int v2), (3, .int v3), (4, .int v4), (5, .int v5), (6, .int x7), (7, .int v7)] ⟨rfl, rfl, rfl, rfl, rfl, rfl, rfl, rfl, trivial⟩ ?_
            exact s_m_cropOf_152 _ _ hrec (fun _ _ _ _ _ _ _ S h => ih _ _ _ _ _ _ _ S h) _ _ _ _ _ _ _ _ h
        · refine RR.c_gt (fun q => absurd q c) (fun _ => ?_)
          refine RR.runs (pc' := 152) (lc' := [(9, .int x7), (8, .int r1), (0, .ref 500), (1, .int v1), (2, .int v2), (3, .int v3), (4, .int v4), (5, .int v5), (6, .int v6), (7, .int v7)]) (st' := []) (S1 := S6) (nL := 10) (cd := cd_2485) mx_2485 rfl rfl 1 rfl ?_
          refine RR.weak [(0, .ref 500), (1, .int v1), (2, .int v2), (3, .int v3), (4, .int v4), (5, .int v5), (6, .int v6), (7, .int v7)] ⟨rfl, rfl, rfl, rfl, rfl, rfl, rfl, rfl, trivial⟩ ?_
          exact s_m_cropOf_152 _ _ hrec (fun _ _ _ _ _ _ _ S h => ih _ _ _ _ _ _ _ S h) _ _ _ _ _ _ _ _ h
    · refine RR.c_ge (fun q => absurd q c) (fun _ => ?_)
      refine RR.weak [(6, .int v6)] ⟨rfl, trivial⟩ ?_
      exact s_m_cropOf_158 _ hrec _ _ h
def m_cropOf_33 (rec : Int32 → Int32 → Int32 → Int32 → Int32 → St → Re Int32) (v1 : Int32) (v2 : Int32) (v3 : Int32) (v4 : Int32) (v5 : Int32) (v6 : Int32) (S : St) : Re Int32 :=
  m_cropOf_36 rec FU v1 v2 v3 v4 v5 v6 (0 : Int32) S
set_option maxRecDepth 100000 in
theorem s_m_cropOf_33 {d : Nat} (rec : Int32 → Int32 → Int32 → Int32 → Int32 → St → Re Int32) {S' : St} {r : Int32} (hrec : ∀ (v1 : Int32) (v2 : Int32) (v3 : Int32) (v4 : Int32) (v5 : Int32) (S : St) (r : Int32) (S' : St), rec v1 v2 v3 v4 v5 S = some (r, S') → RC KM (d + 1) 2485 [.ref 500, .int v1, .int v2, .int v3, .int v4, .int v5] S (some (.int r)) S') (v1 : Int32) (v2 : Int32) (v3 : Int32) (v4 : Int32) (v5 : Int32) (v6 : Int32) (S : St) (h : m_cropOf_33 rec v1 v2 v3 v4 v5 v6 S = some (r, S')) : RR KM (d + 2) 2485 33 [(0, .ref 500), (1, .int v1), (2, .int v2), (3, .int v3), (4, .int v4), (5, .int v5), (6, .int v6)] [] S (some (.int r)) S' := by
  unfold m_cropOf_33 at h
  refine RR.runs (pc' := 36) (lc' := [(7, .int (0 : Int32)), (0, .ref 500), (1, .int v1), (2, .int v2), (3, .int v3), (4, .int v4), (5, .int v5), (6, .int v6)]) (st' := []) (S1 := S) (nL := 10) (cd := cd_2485) mx_2485 rfl rfl 2 rfl ?_
  refine RR.weak [(0, .ref 500), (1, .int v1), (2, .int v2), (3, .int v3), (4, .int v4), (5, .int v5), (6, .int v6), (7, .int (0 : Int32))] ⟨rfl, rfl, rfl, rfl, rfl, rfl, rfl, rfl, trivial⟩ ?_
  exact s_m_cropOf_36 _ hrec _ _ _ _ _ _ _ _ _ h
def m_cropOf_b (rec : Int32 → Int32 → Int32 → Int32 → Int32 → St → Re Int32) (v1 : Int32) (v2 : Int32) (v3 : Int32) (v4 : Int32) (v5 : Int32) (S : St) : Re Int32 :=
  if v4 = 0 then (
    some ((0 : Int32), S))
  else (
    bn (rec v1 v2 ((v3 + (1 : Int32))) ((v4 - (1 : Int32))) (0 : Int32) S) fun r1 S2 =>
    if v5 = 0 then (
      m_cropOf_33 rec v1 v2 v3 v4 v5 r1 S2)
    else (
      lt' (wI S2 500 79 (-1 : Int32)) fun S3 =>
      m_cropOf_33 rec v1 v2 v3 v4 v5 r1 S3))
set_option maxRecDepth 100000 in
theorem s0_m_cropOf {d : Nat} (rec : Int32 → Int32 → Int32 → Int32 → Int32 → St → Re Int32) {S' : St} {r : Int32} (hrec : ∀ (v1 : Int32) (v2 : Int32) (v3 : Int32) (v4 : Int32) (v5 : Int32) (S : St) (r : Int32) (S' : St), rec v1 v2 v3 v4 v5 S = some (r, S') → RC KM (d + 1) 2485 [.ref 500, .int v1, .int v2, .int v3, .int v4, .int v5] S (some (.int r)) S') (v1 : Int32) (v2 : Int32) (v3 : Int32) (v4 : Int32) (v5 : Int32) (S : St) (h : m_cropOf_b rec v1 v2 v3 v4 v5 S = some (r, S')) : RR KM (d + 2) 2485 0 [(0, .ref 500), (1, .int v1), (2, .int v2), (3, .int v3), (4, .int v4), (5, .int v5)] [] S (some (.int r)) S' := by
  unfold m_cropOf_b at h
  refine RR.runs (pc' := icm .ne v4 0 7 5) (lc' := [(0, .ref 500), (1, .int v1), (2, .int v2), (3, .int v3), (4, .int v4), (5, .int v5)]) (st' := []) (S1 := S) (nL := 10) (cd := cd_2485) mx_2485 rfl rfl 2 rfl ?_
  rcases ifE h with ⟨c, h⟩ | ⟨c, h⟩
  · refine RR.c_ne (fun _ => ?_) (fun q => absurd c q)
    refine RR.runs (pc' := 6) (lc' := [(0, .ref 500), (1, .int v1), (2, .int v2), (3, .int v3), (4, .int v4), (5, .int v5)]) (st' := [.int (0 : Int32)]) (S1 := S) (nL := 10) (cd := cd_2485) mx_2485 rfl rfl 1 rfl ?_
    cases h
    exact RR.reti mx_2485 rfl rfl rfl
  · refine RR.c_ne (fun q => absurd q c) (fun _ => ?_)
    refine RR.runs (pc' := 18) (lc' := [(0, .ref 500), (1, .int v1), (2, .int v2), (3, .int v3), (4, .int v4), (5, .int v5)]) (st' := [.int (0 : Int32), .int ((v4 - (1 : Int32))), .int ((v3 + (1 : Int32))), .int v2, .int v1, .ref 500]) (S1 := S) (nL := 10) (cd := cd_2485) mx_2485 rfl rfl 10 rfl ?_
    obtain ⟨r1, S2, h1, h⟩ := bnE h
    refine RR.callV (b := 500) (as := [.int v1, .int v2, .int ((v3 + (1 : Int32))), .int ((v4 - (1 : Int32))), .int (0 : Int32)]) (rest := []) (r1 := (some (.int r1))) (S1 := S2) mx_2485 rfl rfl mx_2485 rfl rfl (by decide) (Or.inl rfl) (Nat.le_of_ble_eq_true rfl) (Nat.le_of_ble_eq_true rfl) (hrec _ _ _ _ _ _ _ _ h1) ?_
    show RR KM _ 2485 21 [(0, .ref 500), (1, .int v1), (2, .int v2), (3, .int v3), (4, .int v4), (5, .int v5)] [.int r1] S2 _ _
    refine RR.runs (pc' := icm .eq v5 0 33 28) (lc' := [(6, .int r1), (0, .ref 500), (1, .int v1), (2, .int v2), (3, .int v3), (4, .int v4), (5, .int v5)]) (st' := []) (S1 := S2) (nL := 10) (cd := cd_2485) mx_2485 rfl rfl 3 rfl ?_
    rcases ifE h with ⟨c, h⟩ | ⟨c, h⟩
    · refine RR.c_eq (fun _ => ?_) (fun q => absurd c q)
      refine RR.weak [(0, .ref 500), (1, .int v1), (2, .int v2), (3, .int v3), (4, .int v4), (5, .int v5), (6, .int r1)] ⟨rfl, rfl, rfl, rfl, rfl, rfl, rfl, trivial⟩ ?_
      exact s_m_cropOf_33 _ hrec _ _ _ _ _ _ _ h
    · refine RR.c_eq (fun q => absurd q c) (fun _ => ?_)
      refine RR.runs (pc' := 33) (lc' := [(6, .int r1), (0, .ref 500), (1, .int v1), (2, .int v2), (3, .int v3), (4, .int v4), (5, .int v5)]) (st' := []) (S1 := (wI S2 500 79 (-1 : Int32))) (nL := 10) (cd := cd_2485) mx_2485 rfl rfl 3 rfl ?_
      obtain ⟨S3, eS3, h⟩ := ltE h
      rw [← eS3]
      refine RR.weak [(0, .ref 500), (1, .int v1), (2, .int v2), (3, .int v3), (4, .int v4), (5, .int v5), (6, .int r1)] ⟨rfl, rfl, rfl, rfl, rfl, rfl, rfl, trivial⟩ ?_
      exact s_m_cropOf_33 _ hrec _ _ _ _ _ _ _ h
def m_cropOf : Nat → Int32 → Int32 → Int32 → Int32 → Int32 → St → Re Int32
  | 0, _, _, _, _, _, _ => none
  | n + 1, v1, v2, v3, v4, v5, S => m_cropOf_b (m_cropOf n) v1 v2 v3 v4 v5 S
theorem sn_m_cropOf : ∀ (n : Nat) {d : Nat} (v1 : Int32) (v2 : Int32) (v3 : Int32) (v4 : Int32) (v5 : Int32) (S : St) (r : Int32) (S' : St), m_cropOf n v1 v2 v3 v4 v5 S = some (r, S') → RC KM (d + n + 1) 2485 [.ref 500, .int v1, .int v2, .int v3, .int v4, .int v5] S (some (.int r)) S' := by
  intro n
  induction n with
  | zero => intro d v1 v2 v3 v4 v5 S r S' h; simp only [m_cropOf] at h; cases h
  | succ n ih =>
    intro d v1 v2 v3 v4 v5 S r S' h
    simp only [m_cropOf] at h
    have h9 : RR KM (d + n + 2) 2485 0 [(0, .ref 500), (1, .int v1), (2, .int v2), (3, .int v3), (4, .int v4), (5, .int v5)] [] S (some (.int r)) S' := s0_m_cropOf (d := d + n) (m_cropOf n) (fun _ _ _ _ _ S r S' h => ih _ _ _ _ _ S r S' h) v1 v2 v3 v4 v5 S h
    have e9 : d + (n + 1) + 1 = d + n + 2 := by omega
    rw [e9]
    exact RC.of rfl h9
theorem s_m_cropOf {d : Nat} {S' : St} {r : Int32} (v1 : Int32) (v2 : Int32) (v3 : Int32) (v4 : Int32) (v5 : Int32) (S : St) (h : m_cropOf 8 v1 v2 v3 v4 v5 S = some (r, S')) : RC KM (d + 9) 2485 [.ref 500, .int v1, .int v2, .int v3, .int v4, .int v5] S (some (.int r)) S' := sn_m_cropOf 8 (d := d) v1 v2 v3 v4 v5 S r S' h
-- crop (II)I
def m_crop_23 (S : St) : Re Int32 :=
  some ((-2 : Int32), S)
set_option maxRecDepth 100000 in
theorem s_m_crop_23 {d : Nat} {S' : St} {r : Int32} (S : St) (h : m_crop_23 S = some (r, S')) : RR KM (d + 10) 2486 23 [] [] S (some (.int r)) S' := by
  unfold m_crop_23 at h
  refine RR.runs (pc' := 25) (lc' := []) (st' := [.int (-2 : Int32)]) (S1 := S) (nL := 4) (cd := cd_2486) mx_2486 rfl rfl 1 rfl ?_
  cases h
  exact RR.reti mx_2486 rfl rfl rfl
def m_crop_77 (k32 : Int32 → Int32 → Int32 → St → Re Int32) (v1 : Int32) (v2 : Int32) (v3 : Int32) (p0 : Int32) (p1 : Int32) (S : St) : Re Int32 :=
  if p1 < 0 ∨ 30 ≤ p1.toNatClampNeg then none else
  lt' (wI S 561 p1.toNatClampNeg p0) fun S1 =>
  lt' ((v3 + (1 : Int32)) : Int32) fun x2 =>
  k32 v1 v2 x2 S1
set_option maxRecDepth 100000 in
theorem s_m_crop_77 {d : Nat} (k32 : Int32 → Int32 → Int32 → St → Re Int32) {S' : St} {r : Int32} (b32 : ∀ (v1 : Int32) (v2 : Int32) (v3 : Int32) (S : St), k32 v1 v2 v3 S = some (r, S') → RR KM (d + 10) 2486 32 [(0, .ref 500), (1, .int v1), (2, .int v2), (3, .int v3)] [] S (some (.int r)) S') (v1 : Int32) (v2 : Int32) (v3 : Int32) (p0 : Int32) (p1 : Int32) (S : St) (h : m_crop_77 k32 v1 v2 v3 p0 p1 S = some (r, S')) : RR KM (d + 10) 2486 77 [(0, .ref 500), (1, .int v1), (2, .int v2), (3, .int v3)] [.int p0, .int p1, .ref 561] S (some (.int r)) S' := by
  unfold m_crop_77 at h
  obtain ⟨g, h⟩ := gnE h
  refine RR.gPN (c2 := (KM.1 561).1 = 1) (pc' := 78) (lc' := [(0, .ref 500), (1, .int v1), (2, .int v2), (3, .int v3)]) (st' := []) (S1 := (wI S 561 p1.toNatClampNeg p0)) (nL := 4) (cd := cd_2486) mx_2486 rfl rfl rfl rfl g ?_
  obtain ⟨S1, eS1, h⟩ := ltE h
  rw [← eS1]
  refine RR.runs (pc' := 81) (lc' := [(3, .int ((v3 + (1 : Int32)))), (0, .ref 500), (1, .int v1), (2, .int v2)]) (st' := []) (S1 := S1) (nL := 4) (cd := cd_2486) mx_2486 rfl rfl 1 rfl ?_
  obtain ⟨x2, ex2, h⟩ := ltE h
  rw [← ex2]
  refine RR.runs (pc' := 32) (lc' := [(3, .int x2), (0, .ref 500), (1, .int v1), (2, .int v2)]) (st' := []) (S1 := S1) (nL := 4) (cd := cd_2486) mx_2486 rfl rfl 1 rfl ?_
  refine RR.weak [(0, .ref 500), (1, .int v1), (2, .int v2), (3, .int x2)] ⟨rfl, rfl, rfl, rfl, trivial⟩ ?_
  exact b32 _ _ _ _ h
def m_crop_121 (p0 : Int32) (S : St) : Re Int32 :=
  some (p0, S)
set_option maxRecDepth 100000 in
theorem s_m_crop_121 {d : Nat} {S' : St} {r : Int32} (p0 : Int32) (S : St) (h : m_crop_121 p0 S = some (r, S')) : RR KM (d + 10) 2486 121 [] [.int p0] S (some (.int r)) S' := by
  unfold m_crop_121 at h
  cases h
  exact RR.reti mx_2486 rfl rfl rfl
def m_crop_84 (v1 : Int32) (v2 : Int32) (S : St) : Re Int32 :=
  lt' (wI S 500 79 (-1 : Int32)) fun S1 =>
  if (0 : Int32) < 0 ∨ 15 ≤ (0 : Int32).toNatClampNeg then none else
  if (1 : Int32) < 0 ∨ 15 ≤ (1 : Int32).toNatClampNeg then none else
  bn (m_cropOf 8 ((rI S1 553 (0 : Int32).toNatClampNeg)) ((rI S1 553 (1 : Int32).toNatClampNeg)) (0 : Int32) v1 (1 : Int32) S1) fun r2 S3 =>
  if v2 = 0 then (
    m_crop_121 r2 S3)
  else (
    m_crop_121 (rI S3 500 79) S3)
set_option maxRecDepth 100000 in
theorem s_m_crop_84 {d : Nat} {S' : St} {r : Int32} (v1 : Int32) (v2 : Int32) (S : St) (h : m_crop_84 v1 v2 S = some (r, S')) : RR KM (d + 10) 2486 84 [(0, .ref 500), (1, .int v1), (2, .int v2)] [] S (some (.int r)) S' := by
  unfold m_crop_84 at h
  refine RR.runs (pc' := 89) (lc' := [(0, .ref 500), (1, .int v1), (2, .int v2)]) (st' := []) (S1 := (wI S 500 79 (-1 : Int32))) (nL := 4) (cd := cd_2486) mx_2486 rfl rfl 3 rfl ?_
  obtain ⟨S1, eS1, h⟩ := ltE h
  rw [← eS1]
  refine RR.runs (pc' := 95) (lc' := [(0, .ref 500), (1, .int v1), (2, .int v2)]) (st' := [.int (0 : Int32), .ref 553, .ref 500]) (S1 := S1) (nL := 4) (cd := cd_2486) mx_2486 rfl rfl 4 rfl ?_
  obtain ⟨g, h⟩ := gnE h
  refine RR.gPN (c2 := (KM.1 553).1 = 1) (pc' := 96) (lc' := [(0, .ref 500), (1, .int v1), (2, .int v2)]) (st' := [.int ((rI S1 553 (0 : Int32).toNatClampNeg)), .ref 500]) (S1 := S1) (nL := 4) (cd := cd_2486) mx_2486 rfl rfl rfl rfl g ?_
  refine RR.runs (pc' := 101) (lc' := [(0, .ref 500), (1, .int v1), (2, .int v2)]) (st' := [.int (1 : Int32), .ref 553, .int ((rI S1 553 (0 : Int32).toNatClampNeg)), .ref 500]) (S1 := S1) (nL := 4) (cd := cd_2486) mx_2486 rfl rfl 3 rfl ?_
  obtain ⟨g, h⟩ := gnE h
  refine RR.gPN (c2 := (KM.1 553).1 = 1) (pc' := 102) (lc' := [(0, .ref 500), (1, .int v1), (2, .int v2)]) (st' := [.int ((rI S1 553 (1 : Int32).toNatClampNeg)), .int ((rI S1 553 (0 : Int32).toNatClampNeg)), .ref 500]) (S1 := S1) (nL := 4) (cd := cd_2486) mx_2486 rfl rfl rfl rfl g ?_
  refine RR.runs (pc' := 105) (lc' := [(0, .ref 500), (1, .int v1), (2, .int v2)]) (st' := [.int (1 : Int32), .int v1, .int (0 : Int32), .int ((rI S1 553 (1 : Int32).toNatClampNeg)), .int ((rI S1 553 (0 : Int32).toNatClampNeg)), .ref 500]) (S1 := S1) (nL := 4) (cd := cd_2486) mx_2486 rfl rfl 3 rfl ?_
  obtain ⟨r2, S3, h1, h⟩ := bnE h
  refine RR.callV (b := 500) (as := [.int ((rI S1 553 (0 : Int32).toNatClampNeg)), .int ((rI S1 553 (1 : Int32).toNatClampNeg)), .int (0 : Int32), .int v1, .int (1 : Int32)]) (rest := []) (r1 := (some (.int r2))) (S1 := S3) mx_2486 rfl rfl mx_2485 rfl rfl (by decide) (Or.inl rfl) (Nat.le_of_ble_eq_true rfl) (Nat.le_of_ble_eq_true rfl) (RC.deep (by omega) (s_m_cropOf (d := d) _ _ _ _ _ _ h1)) ?_
  show RR KM _ 2486 108 [(0, .ref 500), (1, .int v1), (2, .int v2)] [.int r2] S3 _ _
  refine RR.runs (pc' := icm .ne v2 0 117 113) (lc' := [(3, .int r2), (0, .ref 500), (1, .int v1), (2, .int v2)]) (st' := []) (S1 := S3) (nL := 4) (cd := cd_2486) mx_2486 rfl rfl 3 rfl ?_
  rcases ifE h with ⟨c, h⟩ | ⟨c, h⟩
  · refine RR.c_ne (fun _ => ?_) (fun q => absurd c q)
    refine RR.runs (pc' := 121) (lc' := [(3, .int r2), (0, .ref 500), (1, .int v1), (2, .int v2)]) (st' := [.int r2]) (S1 := S3) (nL := 4) (cd := cd_2486) mx_2486 rfl rfl 2 rfl ?_
    refine RR.weak [] trivial ?_
    exact s_m_crop_121 _ _ h
  · refine RR.c_ne (fun q => absurd q c) (fun _ => ?_)
    refine RR.runs (pc' := 121) (lc' := [(3, .int r2), (0, .ref 500), (1, .int v1), (2, .int v2)]) (st' := [.int (rI S3 500 79)]) (S1 := S3) (nL := 4) (cd := cd_2486) mx_2486 rfl rfl 2 rfl ?_
    refine RR.weak [] trivial ?_
    exact s_m_crop_121 _ _ h
def m_crop_32 : Nat → Int32 → Int32 → Int32 → St → Re Int32
  | 0, _, _, _, _ => none
  | n + 1, v1, v2, v3, S =>
  if v3 < (30 : Int32) then (
    bn (m_isApple ((v3 - v3 / (10 : Int32) * (10 : Int32))) S) fun r1 S2 =>
    if r1 = 0 then (
      m_crop_77 (m_crop_32 n) v1 v2 v3 (0 : Int32) v3 S2)
    else (
      if (2 : Int32) < 0 ∨ 15 ≤ (2 : Int32).toNatClampNeg then none else
      bn (m_valueOn ((v3 - v3 / (10 : Int32) * (10 : Int32))) (((rI S2 553 (2 : Int32).toNatClampNeg) + (v3 / (10 : Int32)))) S2) fun r3 S4 =>
      m_crop_77 (m_crop_32 n) v1 v2 v3 r3 v3 S4))
  else (
    m_crop_84 v1 v2 S)
set_option maxRecDepth 100000 in
theorem s_m_crop_32 {d : Nat} {S' : St} {r : Int32} : ∀ (n : Nat) (v1 : Int32) (v2 : Int32) (v3 : Int32) (S : St), m_crop_32 n v1 v2 v3 S = some (r, S') → RR KM (d + 10) 2486 32 [(0, .ref 500), (1, .int v1), (2, .int v2), (3, .int v3)] [] S (some (.int r)) S' := by
  intro n
  induction n with
  | zero => intro v1 v2 v3 S h; simp only [m_crop_32] at h; cases h
  | succ n ih =>
    intro v1 v2 v3 S h
    simp only [m_crop_32] at h
    refine RR.runs (pc' := icm .ge v3 (30 : Int32) 84 38) (lc' := [(0, .ref 500), (1, .int v1), (2, .int v2), (3, .int v3)]) (st' := []) (S1 := S) (nL := 4) (cd := cd_2486) mx_2486 rfl rfl 3 rfl ?_
    rcases ifE h with ⟨c, h⟩ | ⟨c, h⟩
    · refine RR.c_ge (fun _ => ?_) (fun q => absurd c q)
      refine RR.runs (pc' := 48) (lc' := [(0, .ref 500), (1, .int v1), (2, .int v2), (3, .int v3)]) (st' := [.int ((v3 - v3 / (10 : Int32) * (10 : Int32))), .ref 500, .int v3, .ref 561]) (S1 := S) (nL := 4) (cd := cd_2486) mx_2486 rfl rfl 7 rfl ?_
      obtain ⟨r1, S2, h1, h⟩ := bnE h
      refine RR.callV (b := 500) (as := [.int ((v3 - v3 / (10 : Int32) * (10 : Int32)))]) (rest := [.int v3, .ref 561]) (r1 := (some (.int r1))) (S1 := S2) mx_2486 rfl rfl mx_2455 rfl rfl (by decide) (Or.inl rfl) (Nat.le_of_ble_eq_true rfl) (Nat.le_of_ble_eq_true rfl) (RC.deep (by omega) (s_m_isApple (d := d) _ _ h1)) ?_
      show RR KM _ 2486 51 [(0, .ref 500), (1, .int v1), (2, .int v2), (3, .int v3)] [.int r1, .int v3, .ref 561] S2 _ _
      refine RR.runs (pc' := icm .eq r1 0 76 54) (lc' := [(0, .ref 500), (1, .int v1), (2, .int v2), (3, .int v3)]) (st' := [.int v3, .ref 561]) (S1 := S2) (nL := 4) (cd := cd_2486) mx_2486 rfl rfl 1 rfl ?_
      rcases ifE h with ⟨c, h⟩ | ⟨c, h⟩
      · refine RR.c_eq (fun _ => ?_) (fun q => absurd c q)
        refine RR.runs (pc' := 77) (lc' := [(0, .ref 500), (1, .int v1), (2, .int v2), (3, .int v3)]) (st' := [.int (0 : Int32), .int v3, .ref 561]) (S1 := S2) (nL := 4) (cd := cd_2486) mx_2486 rfl rfl 1 rfl ?_
        refine RR.weak [(0, .ref 500), (1, .int v1), (2, .int v2), (3, .int v3)] ⟨rfl, rfl, rfl, rfl, trivial⟩ ?_
        exact s_m_crop_77 _ (fun _ _ _ S h => ih _ _ _ S h) _ _ _ _ _ _ h
      · refine RR.c_eq (fun q => absurd q c) (fun _ => ?_)
        refine RR.runs (pc' := 64) (lc' := [(0, .ref 500), (1, .int v1), (2, .int v2), (3, .int v3)]) (st' := [.int (2 : Int32), .ref 553, .int ((v3 - v3 / (10 : Int32) * (10 : Int32))), .ref 500, .int v3, .ref 561]) (S1 := S2) (nL := 4) (cd := cd_2486) mx_2486 rfl rfl 7 rfl ?_
        obtain ⟨g, h⟩ := gnE h
        refine RR.gPN (c2 := (KM.1 553).1 = 1) (pc' := 65) (lc' := [(0, .ref 500), (1, .int v1), (2, .int v2), (3, .int v3)]) (st' := [.int ((rI S2 553 (2 : Int32).toNatClampNeg)), .int ((v3 - v3 / (10 : Int32) * (10 : Int32))), .ref 500, .int v3, .ref 561]) (S1 := S2) (nL := 4) (cd := cd_2486) mx_2486 rfl rfl rfl rfl g ?_
        refine RR.runs (pc' := 70) (lc' := [(0, .ref 500), (1, .int v1), (2, .int v2), (3, .int v3)]) (st' := [.int (((rI S2 553 (2 : Int32).toNatClampNeg) + (v3 / (10 : Int32)))), .int ((v3 - v3 / (10 : Int32) * (10 : Int32))), .ref 500, .int v3, .ref 561]) (S1 := S2) (nL := 4) (cd := cd_2486) mx_2486 rfl rfl 4 rfl ?_
        obtain ⟨r3, S4, h1, h⟩ := bnE h
        refine RR.callV (b := 500) (as := [.int ((v3 - v3 / (10 : Int32) * (10 : Int32))), .int (((rI S2 553 (2 : Int32).toNatClampNeg) + (v3 / (10 : Int32))))]) (rest := [.int v3, .ref 561]) (r1 := (some (.int r3))) (S1 := S4) mx_2486 rfl rfl mx_2459 rfl rfl (by decide) (Or.inl rfl) (Nat.le_of_ble_eq_true rfl) (Nat.le_of_ble_eq_true rfl) (RC.deep (by omega) (s_m_valueOn (d := d) _ _ _ h1)) ?_
        show RR KM _ 2486 73 [(0, .ref 500), (1, .int v1), (2, .int v2), (3, .int v3)] [.int r3, .int v3, .ref 561] S4 _ _
        refine RR.runs (pc' := 77) (lc' := [(0, .ref 500), (1, .int v1), (2, .int v2), (3, .int v3)]) (st' := [.int r3, .int v3, .ref 561]) (S1 := S4) (nL := 4) (cd := cd_2486) mx_2486 rfl rfl 1 rfl ?_
        refine RR.weak [(0, .ref 500), (1, .int v1), (2, .int v2), (3, .int v3)] ⟨rfl, rfl, rfl, rfl, trivial⟩ ?_
        exact s_m_crop_77 _ (fun _ _ _ S h => ih _ _ _ S h) _ _ _ _ _ _ h
    · refine RR.c_ge (fun q => absurd q c) (fun _ => ?_)
      refine RR.weak [(0, .ref 500), (1, .int v1), (2, .int v2)] ⟨rfl, rfl, rfl, trivial⟩ ?_
      exact s_m_crop_84 _ _ _ h
def m_crop (v1 : Int32) (v2 : Int32) (S : St) : Re Int32 :=
  lt' (wI S 500 0 (0 : Int32)) fun S1 =>
  bn (m_within v1 (0 : Int32) (3 : Int32) S1) fun r2 S3 =>
  if r2 = 0 then (
    m_crop_23 S3)
  else (
    bn (m_within v2 (0 : Int32) (1 : Int32) S3) fun r4 S5 =>
    if r4 = 0 then (
      m_crop_23 S5)
    else (
      bn (m_laysCalls S5) fun r6 S7 =>
      m_crop_32 FU v1 v2 (0 : Int32) S7))
set_option maxRecDepth 100000 in
theorem s0_m_crop {d : Nat} {S' : St} {r : Int32} (v1 : Int32) (v2 : Int32) (S : St) (h : m_crop v1 v2 S = some (r, S')) : RR KM (d + 10) 2486 0 [(0, .ref 500), (1, .int v1), (2, .int v2)] [] S (some (.int r)) S' := by
  unfold m_crop at h
  refine RR.runs (pc' := 5) (lc' := [(0, .ref 500), (1, .int v1), (2, .int v2)]) (st' := []) (S1 := (wI S 500 0 (0 : Int32))) (nL := 4) (cd := cd_2486) mx_2486 rfl rfl 3 rfl ?_
  obtain ⟨S1, eS1, h⟩ := ltE h
  rw [← eS1]
  refine RR.runs (pc' := 8) (lc' := [(0, .ref 500), (1, .int v1), (2, .int v2)]) (st' := [.int (3 : Int32), .int (0 : Int32), .int v1]) (S1 := S1) (nL := 4) (cd := cd_2486) mx_2486 rfl rfl 3 rfl ?_
  obtain ⟨r2, S3, h1, h⟩ := bnE h
  refine RR.callS (as := [.int v1, .int (0 : Int32), .int (3 : Int32)]) (rest := []) (r1 := (some (.int r2))) (S1 := S3) mx_2486 rfl rfl mx_2402 rfl rfl (by decide) (Nat.le_of_ble_eq_true rfl) (Nat.le_of_ble_eq_true rfl) (Nat.le_of_ble_eq_true rfl) (RC.deep (by omega) (s_m_within (d := d) _ _ _ _ h1)) ?_
  show RR KM _ 2486 11 [(0, .ref 500), (1, .int v1), (2, .int v2)] [.int r2] S3 _ _
  refine RR.runs (pc' := icm .eq r2 0 23 14) (lc' := [(0, .ref 500), (1, .int v1), (2, .int v2)]) (st' := []) (S1 := S3) (nL := 4) (cd := cd_2486) mx_2486 rfl rfl 1 rfl ?_
  rcases ifE h with ⟨c, h⟩ | ⟨c, h⟩
  · refine RR.c_eq (fun _ => ?_) (fun q => absurd c q)
    refine RR.weak [] trivial ?_
    exact s_m_crop_23 _ h
  · refine RR.c_eq (fun q => absurd q c) (fun _ => ?_)
    refine RR.runs (pc' := 17) (lc' := [(0, .ref 500), (1, .int v1), (2, .int v2)]) (st' := [.int (1 : Int32), .int (0 : Int32), .int v2]) (S1 := S3) (nL := 4) (cd := cd_2486) mx_2486 rfl rfl 3 rfl ?_
    obtain ⟨r4, S5, h1, h⟩ := bnE h
    refine RR.callS (as := [.int v2, .int (0 : Int32), .int (1 : Int32)]) (rest := []) (r1 := (some (.int r4))) (S1 := S5) mx_2486 rfl rfl mx_2402 rfl rfl (by decide) (Nat.le_of_ble_eq_true rfl) (Nat.le_of_ble_eq_true rfl) (Nat.le_of_ble_eq_true rfl) (RC.deep (by omega) (s_m_within (d := d) _ _ _ _ h1)) ?_
    show RR KM _ 2486 20 [(0, .ref 500), (1, .int v1), (2, .int v2)] [.int r4] S5 _ _
    refine RR.runs (pc' := icm .ne r4 0 26 23) (lc' := [(0, .ref 500), (1, .int v1), (2, .int v2)]) (st' := []) (S1 := S5) (nL := 4) (cd := cd_2486) mx_2486 rfl rfl 1 rfl ?_
    rcases ifE h with ⟨c, h⟩ | ⟨c, h⟩
    · refine RR.c_ne (fun _ => ?_) (fun q => absurd c q)
      refine RR.weak [] trivial ?_
      exact s_m_crop_23 _ h
    · refine RR.c_ne (fun q => absurd q c) (fun _ => ?_)
      refine RR.runs (pc' := 27) (lc' := [(0, .ref 500), (1, .int v1), (2, .int v2)]) (st' := [.ref 500]) (S1 := S5) (nL := 4) (cd := cd_2486) mx_2486 rfl rfl 1 rfl ?_
      obtain ⟨r6, S7, h1, h⟩ := bnE h
      refine RR.callV (b := 500) (as := []) (rest := []) (r1 := none) (S1 := S7) mx_2486 rfl rfl mx_2483 rfl rfl (by decide) (Or.inl rfl) (Nat.le_of_ble_eq_true rfl) (Nat.le_of_ble_eq_true rfl) (RC.deep (by omega) (s_m_laysCalls (d := d) _ h1)) ?_
      show RR KM _ 2486 30 [(0, .ref 500), (1, .int v1), (2, .int v2)] [] S7 _ _
      refine RR.runs (pc' := 32) (lc' := [(3, .int (0 : Int32)), (0, .ref 500), (1, .int v1), (2, .int v2)]) (st' := []) (S1 := S7) (nL := 4) (cd := cd_2486) mx_2486 rfl rfl 2 rfl ?_
      refine RR.weak [(0, .ref 500), (1, .int v1), (2, .int v2), (3, .int (0 : Int32))] ⟨rfl, rfl, rfl, rfl, trivial⟩ ?_
      exact s_m_crop_32 _ _ _ _ _ h
theorem s_m_crop {d : Nat} {S' : St} {r : Int32} (v1 : Int32) (v2 : Int32) (S : St) (h : m_crop v1 v2 S = some (r, S')) : RC KM (d + 10) 2486 [.ref 500, .int v1, .int v2] S (some (.int r)) S' := RC.of rfl (s0_m_crop v1 v2 S h)
-- reads0 (IIIIIII)V
def m_reads0_62 (rec : Int32 → Int32 → Int32 → Int32 → Int32 → Int32 → Int32 → St → Re Unit) (S : St) : Re Unit :=
  some ((), S)
set_option maxRecDepth 100000 in
theorem s_m_reads0_62 {d : Nat} (rec : Int32 → Int32 → Int32 → Int32 → Int32 → Int32 → Int32 → St → Re Unit) {S' : St} {r : Unit} (hrec : ∀ (v1 : Int32) (v2 : Int32) (v3 : Int32) (v4 : Int32) (v5 : Int32) (v6 : Int32) (v7 : Int32) (S : St) (r : Unit) (S' : St), rec v1 v2 v3 v4 v5 v6 v7 S = some (r, S') → RC KM (d + 4) 2502 [.ref 500, .int v1, .int v2, .int v3, .int v4, .int v5, .int v6, .int v7] S none S') (S : St) (h : m_reads0_62 rec S = some (r, S')) : RR KM (d + 5) 2502 62 [] [] S none S' := by
  unfold m_reads0_62 at h
  cases h
  exact RR.retv mx_2502 rfl rfl rfl
def m_reads0_36 (rec : Int32 → Int32 → Int32 → Int32 → Int32 → Int32 → Int32 → St → Re Unit) : Nat → Int32 → St → Re Unit
  | 0, _, _ => none
  | n + 1, v8, S =>
  if v8 < (4 : Int32) then (
    if v8 < 0 ∨ 4 ≤ v8.toNatClampNeg then none else
    if v8 < 0 ∨ 4 ≤ v8.toNatClampNeg then none else
    lt' (wI S 566 v8.toNatClampNeg (rI S 565 v8.toNatClampNeg)) fun S1 =>
    lt' ((v8 + (1 : Int32)) : Int32) fun x2 =>
    m_reads0_36 rec n x2 S1)
  else (
    m_reads0_62 rec S)
set_option maxRecDepth 100000 in
theorem s_m_reads0_36 {d : Nat} (rec : Int32 → Int32 → Int32 → Int32 → Int32 → Int32 → Int32 → St → Re Unit) {S' : St} {r : Unit} (hrec : ∀ (v1 : Int32) (v2 : Int32) (v3 : Int32) (v4 : Int32) (v5 : Int32) (v6 : Int32) (v7 : Int32) (S : St) (r : Unit) (S' : St), rec v1 v2 v3 v4 v5 v6 v7 S = some (r, S') → RC KM (d + 4) 2502 [.ref 500, .int v1, .int v2, .int v3, .int v4, .int v5, .int v6, .int v7] S none S') : ∀ (n : Nat) (v8 : Int32) (S : St), m_reads0_36 rec n v8 S = some (r, S') → RR KM (d + 5) 2502 36 [(0, .ref 500), (8, .int v8)] [] S none S' := by
  intro n
  induction n with
  | zero => intro v8 S h; simp only [m_reads0_36] at h; cases h
  | succ n ih =>
    intro v8 S h
    simp only [m_reads0_36] at h
    refine RR.runs (pc' := icm .ge v8 (4 : Int32) 62 42) (lc' := [(0, .ref 500), (8, .int v8)]) (st' := []) (S1 := S) (nL := 14) (cd := cd_2502) mx_2502 rfl rfl 3 rfl ?_
    rcases ifE h with ⟨c, h⟩ | ⟨c, h⟩
    · refine RR.c_ge (fun _ => ?_) (fun q => absurd c q)
      refine RR.runs (pc' := 54) (lc' := [(0, .ref 500), (8, .int v8)]) (st' := [.int v8, .ref 565, .int v8, .ref 566]) (S1 := S) (nL := 14) (cd := cd_2502) mx_2502 rfl rfl 6 rfl ?_
      obtain ⟨g, h⟩ := gnE h
      refine RR.gPN (c2 := (KM.1 565).1 = 1) (pc' := 55) (lc' := [(0, .ref 500), (8, .int v8)]) (st' := [.int (rI S 565 v8.toNatClampNeg), .int v8, .ref 566]) (S1 := S) (nL := 14) (cd := cd_2502) mx_2502 rfl rfl rfl rfl g ?_
      obtain ⟨g, h⟩ := gnE h
      refine RR.gPN (c2 := (KM.1 566).1 = 1) (pc' := 56) (lc' := [(0, .ref 500), (8, .int v8)]) (st' := []) (S1 := (wI S 566 v8.toNatClampNeg (rI S 565 v8.toNatClampNeg))) (nL := 14) (cd := cd_2502) mx_2502 rfl rfl rfl rfl g ?_
      obtain ⟨S1, eS1, h⟩ := ltE h
      rw [← eS1]
      refine RR.runs (pc' := 59) (lc' := [(8, .int ((v8 + (1 : Int32)))), (0, .ref 500)]) (st' := []) (S1 := S1) (nL := 14) (cd := cd_2502) mx_2502 rfl rfl 1 rfl ?_
      obtain ⟨x2, ex2, h⟩ := ltE h
      rw [← ex2]
      refine RR.runs (pc' := 36) (lc' := [(8, .int x2), (0, .ref 500)]) (st' := []) (S1 := S1) (nL := 14) (cd := cd_2502) mx_2502 rfl rfl 1 rfl ?_
      refine RR.weak [(0, .ref 500), (8, .int x2)] ⟨rfl, rfl, trivial⟩ ?_
      exact ih _ _ h
    · refine RR.c_ge (fun q => absurd q c) (fun _ => ?_)
      refine RR.weak [] trivial ?_
      exact s_m_reads0_62 _ hrec _ h
def m_reads0_27 (rec : Int32 → Int32 → Int32 → Int32 → Int32 → Int32 → Int32 → St → Re Unit) (v5 : Int32) (S : St) : Re Unit :=
  lt' (wI S 500 85 v5) fun S1 =>
  m_reads0_36 rec FU (0 : Int32) S1
set_option maxRecDepth 100000 in
theorem s_m_reads0_27 {d : Nat} (rec : Int32 → Int32 → Int32 → Int32 → Int32 → Int32 → Int32 → St → Re Unit) {S' : St} {r : Unit} (hrec : ∀ (v1 : Int32) (v2 : Int32) (v3 : Int32) (v4 : Int32) (v5 : Int32) (v6 : Int32) (v7 : Int32) (S : St) (r : Unit) (S' : St), rec v1 v2 v3 v4 v5 v6 v7 S = some (r, S') → RC KM (d + 4) 2502 [.ref 500, .int v1, .int v2, .int v3, .int v4, .int v5, .int v6, .int v7] S none S') (v5 : Int32) (S : St) (h : m_reads0_27 rec v5 S = some (r, S')) : RR KM (d + 5) 2502 27 [(0, .ref 500), (5, .int v5)] [] S none S' := by
  unfold m_reads0_27 at h
  refine RR.runs (pc' := 33) (lc' := [(0, .ref 500), (5, .int v5)]) (st' := []) (S1 := (wI S 500 85 v5)) (nL := 14) (cd := cd_2502) mx_2502 rfl rfl 3 rfl ?_
  obtain ⟨S1, eS1, h⟩ := ltE h
  rw [← eS1]
  refine RR.runs (pc' := 36) (lc' := [(8, .int (0 : Int32)), (0, .ref 500), (5, .int v5)]) (st' := []) (S1 := S1) (nL := 14) (cd := cd_2502) mx_2502 rfl rfl 2 rfl ?_
  refine RR.weak [(0, .ref 500), (8, .int (0 : Int32))] ⟨rfl, rfl, trivial⟩ ?_
  exact s_m_reads0_36 _ hrec _ _ _ h
def m_reads0_232 (rec : Int32 → Int32 → Int32 → Int32 → Int32 → Int32 → Int32 → St → Re Unit) (k66 : Int32 → Int32 → Int32 → Int32 → Int32 → Int32 → Int32 → Int32 → St → Re Unit) (v1 : Int32) (v2 : Int32) (v3 : Int32) (v4 : Int32) (v5 : Int32) (v6 : Int32) (v7 : Int32) (v8 : Int32) (S : St) : Re Unit :=
  lt' ((v8 + (1 : Int32)) : Int32) fun x1 =>
  k66 v1 v2 v3 v4 v5 v6 v7 x1 S
set_option maxRecDepth 100000 in
theorem s_m_reads0_232 {d : Nat} (rec : Int32 → Int32 → Int32 → Int32 → Int32 → Int32 → Int32 → St → Re Unit) (k66 : Int32 → Int32 → Int32 → Int32 → Int32 → Int32 → Int32 → Int32 → St → Re Unit) {S' : St} {r : Unit} (hrec : ∀ (v1 : Int32) (v2 : Int32) (v3 : Int32) (v4 : Int32) (v5 : Int32) (v6 : Int32) (v7 : Int32) (S : St) (r : Unit) (S' : St), rec v1 v2 v3 v4 v5 v6 v7 S = some (r, S') → RC KM (d + 4) 2502 [.ref 500, .int v1, .int v2, .int v3, .int v4, .int v5, .int v6, .int v7] S none S') (b66 : ∀ (v1 : Int32) (v2 : Int32) (v3 : Int32) (v4 : Int32) (v5 : Int32) (v6 : Int32) (v7 : Int32) (v8 : Int32) (S : St), k66 v1 v2 v3 v4 v5 v6 v7 v8 S = some (r, S') → RR KM (d + 5) 2502 66 [(0, .ref 500), (1, .int v1), (2, .int v2), (3, .int v3), (4, .int v4), (5, .int v5), (6, .int v6), (7, .int v7), (8, .int v8)] [] S none S') (v1 : Int32) (v2 : Int32) (v3 : Int32) (v4 : Int32) (v5 : Int32) (v6 : Int32) (v7 : Int32) (v8 : Int32) (S : St) (h : m_reads0_232 rec k66 v1 v2 v3 v4 v5 v6 v7 v8 S = some (r, S')) : RR KM (d + 5) 2502 232 [(0, .ref 500), (1, .int v1), (2, .int v2), (3, .int v3), (4, .int v4), (5, .int v5), (6, .int v6), (7, .int v7), (8, .int v8)] [] S none S' := by
  unfold m_reads0_232 at h
  refine RR.runs (pc' := 235) (lc' := [(8, .int ((v8 + (1 : Int32)))), (0, .ref 500), (1, .int v1), (2, .int v2), (3, .int v3), (4, .int v4), (5, .int v5), (6, .int v6), (7, .int v7)]) (st' := []) (S1 := S) (nL := 14) (cd := cd_2502) mx_2502 rfl rfl 1 rfl ?_
  obtain ⟨x1, ex1, h⟩ := ltE h
  rw [← ex1]
  refine RR.runs (pc' := 66) (lc' := [(8, .int x1), (0, .ref 500), (1, .int v1), (2, .int v2), (3, .int v3), (4, .int v4), (5, .int v5), (6, .int v6), (7, .int v7)]) (st' := []) (S1 := S) (nL := 14) (cd := cd_2502) mx_2502 rfl rfl 1 rfl ?_
  refine RR.weak [(0, .ref 500), (1, .int v1), (2, .int v2), (3, .int v3), (4, .int v4), (5, .int v5), (6, .int v6), (7, .int v7), (8, .int x1)] ⟨rfl, rfl, rfl, rfl, rfl, rfl, rfl, rfl, rfl, trivial⟩ ?_
  exact b66 _ _ _ _ _ _ _ _ _ h
def m_reads0_141 (rec : Int32 → Int32 → Int32 → Int32 → Int32 → Int32 → Int32 → St → Re Unit) (k112 : Int32 → Int32 → Int32 → Int32 → Int32 → Int32 → Int32 → Int32 → Int32 → Int32 → Int32 → Int32 → St → Re Unit) (v1 : Int32) (v2 : Int32) (v3 : Int32) (v4 : Int32) (v5 : Int32) (v6 : Int32) (v7 : Int32) (v8 : Int32) (v9 : Int32) (v10 : Int32) (v11 : Int32) (v12 : Int32) (p0 : Int32) (S : St) : Re Unit :=
  bn (m_hears p0 v6 v7 S) fun r1 S2 =>
  bn (m_fallsBy v9 v10 (rI S2 500 70) (rI S2 500 71) S2) fun r3 S4 =>
  lt' ((v9 &&& (r3 ^^^ (-1 : Int32))) : Int32) fun x5 =>
  lt' ((rI S4 500 72) : Int32) fun x6 =>
  if (2 : Int32) < 0 ∨ 15 ≤ (2 : Int32).toNatClampNeg then none else
  bn (m_worthOf r3 (((rI S4 553 (2 : Int32).toNatClampNeg) + ((7 : Int32) * v1))) S4) fun r7 S8 =>
  lt' ((v11 + r7) : Int32) fun x9 =>
  lt' ((v12 + (1 : Int32)) : Int32) fun x10 =>
  k112 v1 v2 v3 v4 v5 v6 v7 v8 x5 x6 x9 x10 S8
set_option maxRecDepth 100000 in
theorem s_m_reads0_141 {d : Nat} (rec : Int32 → Int32 → Int32 → Int32 → Int32 → Int32 → Int32 → St → Re Unit) (k112 : Int32 → Int32 → Int32 → Int32 → Int32 → Int32 → Int32 → Int32 → Int32 → Int32 → Int32 → Int32 → St → Re Unit) {S' : St} {r : Unit} (hrec : ∀ (v1 : Int32) (v2 : Int32) (v3 : Int32) (v4 : Int32) (v5 : Int32) (v6 : Int32) (v7 : Int32) (S : St) (r : Unit) (S' : St), rec v1 v2 v3 v4 v5 v6 v7 S = some (r, S') → RC KM (d + 4) 2502 [.ref 500, .int v1, .int v2, .int v3, .int v4, .int v5, .int v6, .int v7] S none S') (b112 : ∀ (v1 : Int32) (v2 : Int32) (v3 : Int32) (v4 : Int32) (v5 : Int32) (v6 : Int32) (v7 : Int32) (v8 : Int32) (v9 : Int32) (v10 : Int32) (v11 : Int32) (v12 : Int32) (S : St), k112 v1 v2 v3 v4 v5 v6 v7 v8 v9 v10 v11 v12 S = some (r, S') → RR KM (d + 5) 2502 112 [(0, .ref 500), (1, .int v1), (2, .int v2), (3, .int v3), (4, .int v4), (5, .int v5), (6, .int v6), (7, .int v7), (8, .int v8), (9, .int v9), (10, .int v10), (11, .int v11), (12, .int v12)] [] S none S') (v1 : Int32) (v2 : Int32) (v3 : Int32) (v4 : Int32) (v5 : Int32) (v6 : Int32) (v7 : Int32) (v8 : Int32) (v9 : Int32) (v10 : Int32) (v11 : Int32) (v12 : Int32) (p0 : Int32) (S : St) (h : m_reads0_141 rec k112 v1 v2 v3 v4 v5 v6 v7 v8 v9 v10 v11 v12 p0 S = some (r, S')) : RR KM (d + 5) 2502 141 [(0, .ref 500), (1, .int v1), (2, .int v2), (3, .int v3), (4, .int v4), (5, .int v5), (6, .int v6), (7, .int v7), (8, .int v8), (9, .int v9), (10, .int v10), (11, .int v11), (12, .int v12)] [.int p0, .ref 500] S none S' := by
  unfold m_reads0_141 at h
  refine RR.runs (pc' := 145) (lc' := [(0, .ref 500), (1, .int v1), (2, .int v2), (3, .int v3), (4, .int v4), (5, .int v5), (6, .int v6), (7, .int v7), (8, .int v8), (9, .int v9), (10, .int v10), (11, .int v11), (12, .int v12)]) (st' := [.int v7, .int v6, .int p0, .ref 500]) (S1 := S) (nL := 14) (cd := cd_2502) mx_2502 rfl rfl 2 rfl ?_
  obtain ⟨r1, S2, h1, h⟩ := bnE h
  refine RR.callV (b := 500) (as := [.int p0, .int v6, .int v7]) (rest := []) (r1 := none) (S1 := S2) mx_2502 rfl rfl mx_2464 rfl rfl (by decide) (Or.inl rfl) (Nat.le_of_ble_eq_true rfl) (Nat.le_of_ble_eq_true rfl) (RC.deep (by omega) (s_m_hears (d := d) _ _ _ _ h1)) ?_
  show RR KM _ 2502 148 [(0, .ref 500), (1, .int v1), (2, .int v2), (3, .int v3), (4, .int v4), (5, .int v5), (6, .int v6), (7, .int v7), (8, .int v8), (9, .int v9), (10, .int v10), (11, .int v11), (12, .int v12)] [] S2 _ _
  refine RR.runs (pc' := 161) (lc' := [(0, .ref 500), (1, .int v1), (2, .int v2), (3, .int v3), (4, .int v4), (5, .int v5), (6, .int v6), (7, .int v7), (8, .int v8), (9, .int v9), (10, .int v10), (11, .int v11), (12, .int v12)]) (st' := [.int (rI S2 500 71), .int (rI S2 500 70), .int v10, .int v9, .ref 500]) (S1 := S2) (nL := 14) (cd := cd_2502) mx_2502 rfl rfl 7 rfl ?_
  obtain ⟨r3, S4, h1, h⟩ := bnE h
  refine RR.callV (b := 500) (as := [.int v9, .int v10, .int (rI S2 500 70), .int (rI S2 500 71)]) (rest := []) (r1 := (some (.int r3))) (S1 := S4) mx_2502 rfl rfl mx_2466 rfl rfl (by decide) (Or.inl rfl) (Nat.le_of_ble_eq_true rfl) (Nat.le_of_ble_eq_true rfl) (RC.deep (by omega) (s_m_fallsBy (d := d) _ _ _ _ _ h1)) ?_
  show RR KM _ 2502 164 [(0, .ref 500), (1, .int v1), (2, .int v2), (3, .int v3), (4, .int v4), (5, .int v5), (6, .int v6), (7, .int v7), (8, .int v8), (9, .int v9), (10, .int v10), (11, .int v11), (12, .int v12)] [.int r3] S4 _ _
  refine RR.runs (pc' := 175) (lc' := [(9, .int ((v9 &&& (r3 ^^^ (-1 : Int32))))), (13, .int r3), (0, .ref 500), (1, .int v1), (2, .int v2), (3, .int v3), (4, .int v4), (5, .int v5), (6, .int v6), (7, .int v7), (8, .int v8), (10, .int v10), (11, .int v11), (12, .int v12)]) (st' := []) (S1 := S4) (nL := 14) (cd := cd_2502) mx_2502 rfl rfl 7 rfl ?_
  obtain ⟨x5, ex5, h⟩ := ltE h
  rw [← ex5]
  refine RR.runs (pc' := 181) (lc' := [(10, .int (rI S4 500 72)), (9, .int x5), (13, .int r3), (0, .ref 500), (1, .int v1), (2, .int v2), (3, .int v3), (4, .int v4), (5, .int v5), (6, .int v6), (7, .int v7), (8, .int v8), (11, .int v11), (12, .int v12)]) (st' := []) (S1 := S4) (nL := 14) (cd := cd_2502) mx_2502 rfl rfl 3 rfl ?_
  obtain ⟨x6, ex6, h⟩ := ltE h
  rw [← ex6]
  refine RR.runs (pc' := 191) (lc' := [(10, .int x6), (9, .int x5), (13, .int r3), (0, .ref 500), (1, .int v1), (2, .int v2), (3, .int v3), (4, .int v4), (5, .int v5), (6, .int v6), (7, .int v7), (8, .int v8), (11, .int v11), (12, .int v12)]) (st' := [.int (2 : Int32), .ref 553, .int r3, .ref 500, .int v11]) (S1 := S4) (nL := 14) (cd := cd_2502) mx_2502 rfl rfl 6 rfl ?_
  obtain ⟨g, h⟩ := gnE h
  refine RR.gPN (c2 := (KM.1 553).1 = 1) (pc' := 192) (lc' := [(10, .int x6), (9, .int x5), (13, .int r3), (0, .ref 500), (1, .int v1), (2, .int v2), (3, .int v3), (4, .int v4), (5, .int v5), (6, .int v6), (7, .int v7), (8, .int v8), (11, .int v11), (12, .int v12)]) (st' := [.int ((rI S4 553 (2 : Int32).toNatClampNeg)), .int r3, .ref 500, .int v11]) (S1 := S4) (nL := 14) (cd := cd_2502) mx_2502 rfl rfl rfl rfl g ?_
  refine RR.runs (pc' := 197) (lc' := [(10, .int x6), (9, .int x5), (13, .int r3), (0, .ref 500), (1, .int v1), (2, .int v2), (3, .int v3), (4, .int v4), (5, .int v5), (6, .int v6), (7, .int v7), (8, .int v8), (11, .int v11), (12, .int v12)]) (st' := [.int (((rI S4 553 (2 : Int32).toNatClampNeg) + ((7 : Int32) * v1))), .int r3, .ref 500, .int v11]) (S1 := S4) (nL := 14) (cd := cd_2502) mx_2502 rfl rfl 4 rfl ?_
  obtain ⟨r7, S8, h1, h⟩ := bnE h
  refine RR.callV (b := 500) (as := [.int r3, .int (((rI S4 553 (2 : Int32).toNatClampNeg) + ((7 : Int32) * v1)))]) (rest := [.int v11]) (r1 := (some (.int r7))) (S1 := S8) mx_2502 rfl rfl mx_2467 rfl rfl (by decide) (Or.inl rfl) (Nat.le_of_ble_eq_true rfl) (Nat.le_of_ble_eq_true rfl) (RC.deep (by omega) (s_m_worthOf (d := d) _ _ _ h1)) ?_
  show RR KM _ 2502 200 [(10, .int x6), (9, .int x5), (13, .int r3), (0, .ref 500), (1, .int v1), (2, .int v2), (3, .int v3), (4, .int v4), (5, .int v5), (6, .int v6), (7, .int v7), (8, .int v8), (11, .int v11), (12, .int v12)] [.int r7, .int v11] S8 _ _
  refine RR.runs (pc' := 203) (lc' := [(11, .int (v11 + r7)), (10, .int x6), (9, .int x5), (13, .int r3), (0, .ref 500), (1, .int v1), (2, .int v2), (3, .int v3), (4, .int v4), (5, .int v5), (6, .int v6), (7, .int v7), (8, .int v8), (12, .int v12)]) (st' := []) (S1 := S8) (nL := 14) (cd := cd_2502) mx_2502 rfl rfl 2 rfl ?_
  obtain ⟨x9, ex9, h⟩ := ltE h
  rw [← ex9]
  refine RR.runs (pc' := 206) (lc' := [(12, .int ((v12 + (1 : Int32)))), (11, .int x9), (10, .int x6), (9, .int x5), (13, .int r3), (0, .ref 500), (1, .int v1), (2, .int v2), (3, .int v3), (4, .int v4), (5, .int v5), (6, .int v6), (7, .int v7), (8, .int v8)]) (st' := []) (S1 := S8) (nL := 14) (cd := cd_2502) mx_2502 rfl rfl 1 rfl ?_
  obtain ⟨x10, ex10, h⟩ := ltE h
  rw [← ex10]
  refine RR.runs (pc' := 112) (lc' := [(12, .int x10), (11, .int x9), (10, .int x6), (9, .int x5), (13, .int r3), (0, .ref 500), (1, .int v1), (2, .int v2), (3, .int v3), (4, .int v4), (5, .int v5), (6, .int v6), (7, .int v7), (8, .int v8)]) (st' := []) (S1 := S8) (nL := 14) (cd := cd_2502) mx_2502 rfl rfl 1 rfl ?_
  refine RR.weak [(0, .ref 500), (1, .int v1), (2, .int v2), (3, .int v3), (4, .int v4), (5, .int v5), (6, .int v6), (7, .int v7), (8, .int v8), (9, .int x5), (10, .int x6), (11, .int x9), (12, .int x10)] ⟨rfl, rfl, rfl, rfl, rfl, rfl, rfl, rfl, rfl, rfl, rfl, rfl, rfl, trivial⟩ ?_
  exact b112 _ _ _ _ _ _ _ _ _ _ _ _ _ h
def m_reads0_209 (rec : Int32 → Int32 → Int32 → Int32 → Int32 → Int32 → Int32 → St → Re Unit) (k66 : Int32 → Int32 → Int32 → Int32 → Int32 → Int32 → Int32 → Int32 → St → Re Unit) (v1 : Int32) (v2 : Int32) (v3 : Int32) (v4 : Int32) (v5 : Int32) (v6 : Int32) (v7 : Int32) (v8 : Int32) (v9 : Int32) (v10 : Int32) (v11 : Int32) (S : St) : Re Unit :=
  bn (rec ((v1 + (1 : Int32))) ((v2 ||| ((1 : Int32) <<< (v8 &&& 31)))) v9 v10 v11 v6 v7 S) fun r1 S2 =>
  m_reads0_232 rec k66 v1 v2 v3 v4 v5 v6 v7 v8 S2
set_option maxRecDepth 100000 in
theorem s_m_reads0_209 {d : Nat} (rec : Int32 → Int32 → Int32 → Int32 → Int32 → Int32 → Int32 → St → Re Unit) (k66 : Int32 → Int32 → Int32 → Int32 → Int32 → Int32 → Int32 → Int32 → St → Re Unit) {S' : St} {r : Unit} (hrec : ∀ (v1 : Int32) (v2 : Int32) (v3 : Int32) (v4 : Int32) (v5 : Int32) (v6 : Int32) (v7 : Int32) (S : St) (r : Unit) (S' : St), rec v1 v2 v3 v4 v5 v6 v7 S = some (r, S') → RC KM (d + 4) 2502 [.ref 500, .int v1, .int v2, .int v3, .int v4, .int v5, .int v6, .int v7] S none S') (b66 : ∀ (v1 : Int32) (v2 : Int32) (v3 : Int32) (v4 : Int32) (v5 : Int32) (v6 : Int32) (v7 : Int32) (v8 : Int32) (S : St), k66 v1 v2 v3 v4 v5 v6 v7 v8 S = some (r, S') → RR KM (d + 5) 2502 66 [(0, .ref 500), (1, .int v1), (2, .int v2), (3, .int v3), (4, .int v4), (5, .int v5), (6, .int v6), (7, .int v7), (8, .int v8)] [] S none S') (v1 : Int32) (v2 : Int32) (v3 : Int32) (v4 : Int32) (v5 : Int32) (v6 : Int32) (v7 : Int32) (v8 : Int32) (v9 : Int32) (v10 : Int32) (v11 : Int32) (S : St) (h : m_reads0_209 rec k66 v1 v2 v3 v4 v5 v6 v7 v8 v9 v10 v11 S = some (r, S')) : RR KM (d + 5) 2502 209 [(0, .ref 500), (1, .int v1), (2, .int v2), (3, .int v3), (4, .int v4), (5, .int v5), (6, .int v6), (7, .int v7), (8, .int v8), (9, .int v9), (10, .int v10), (11, .int v11)] [] S none S' := by
  unfold m_reads0_209 at h
  refine RR.runs (pc' := 229) (lc' := [(0, .ref 500), (1, .int v1), (2, .int v2), (3, .int v3), (4, .int v4), (5, .int v5), (6, .int v6), (7, .int v7), (8, .int v8), (9, .int v9), (10, .int v10), (11, .int v11)]) (st' := [.int v7, .int v6, .int v11, .int v10, .int v9, .int ((v2 ||| ((1 : Int32) <<< (v8 &&& 31)))), .int ((v1 + (1 : Int32))), .ref 500]) (S1 := S) (nL := 14) (cd := cd_2502) mx_2502 rfl rfl 14 rfl ?_
  obtain ⟨r1, S2, h1, h⟩ := bnE h
  refine RR.callV (b := 500) (as := [.int ((v1 + (1 : Int32))), .int ((v2 ||| ((1 : Int32) <<< (v8 &&& 31)))), .int v9, .int v10, .int v11, .int v6, .int v7]) (rest := []) (r1 := none) (S1 := S2) mx_2502 rfl rfl mx_2502 rfl rfl (by decide) (Or.inl rfl) (Nat.le_of_ble_eq_true rfl) (Nat.le_of_ble_eq_true rfl) (hrec _ _ _ _ _ _ _ _ _ _ h1) ?_
  show RR KM _ 2502 232 [(0, .ref 500), (1, .int v1), (2, .int v2), (3, .int v3), (4, .int v4), (5, .int v5), (6, .int v6), (7, .int v7), (8, .int v8), (9, .int v9), (10, .int v10), (11, .int v11)] [] S2 _ _
  refine RR.weak [(0, .ref 500), (1, .int v1), (2, .int v2), (3, .int v3), (4, .int v4), (5, .int v5), (6, .int v6), (7, .int v7), (8, .int v8)] ⟨rfl, rfl, rfl, rfl, rfl, rfl, rfl, rfl, rfl, trivial⟩ ?_
  exact s_m_reads0_232 _ _ hrec b66 _ _ _ _ _ _ _ _ _ h
def m_reads0_112 (rec : Int32 → Int32 → Int32 → Int32 → Int32 → Int32 → Int32 → St → Re Unit) (k66 : Int32 → Int32 → Int32 → Int32 → Int32 → Int32 → Int32 → Int32 → St → Re Unit) : Nat → Int32 → Int32 → Int32 → Int32 → Int32 → Int32 → Int32 → Int32 → Int32 → Int32 → Int32 → Int32 → St → Re Unit
  | 0, _, _, _, _, _, _, _, _, _, _, _, _, _ => none
  | n + 1, v1, v2, v3, v4, v5, v6, v7, v8, v9, v10, v11, v12, S =>
  if v12 < (2 : Int32) then (
    if v12 = 0 then (
      if v8 < 0 ∨ 8 ≤ v8.toNatClampNeg then none else
      m_reads0_141 rec (m_reads0_112 rec k66 n) v1 v2 v3 v4 v5 v6 v7 v8 v9 v10 v11 v12 (rI S 519 v8.toNatClampNeg) S)
    else (
      if v8 < 0 ∨ 8 ≤ v8.toNatClampNeg then none else
      m_reads0_141 rec (m_reads0_112 rec k66 n) v1 v2 v3 v4 v5 v6 v7 v8 v9 v10 v11 v12 (rI S 520 v8.toNatClampNeg) S))
  else (
    m_reads0_209 rec k66 v1 v2 v3 v4 v5 v6 v7 v8 v9 v10 v11 S)
set_option maxRecDepth 100000 in
theorem s_m_reads0_112 {d : Nat} (rec : Int32 → Int32 → Int32 → Int32 → Int32 → Int32 → Int32 → St → Re Unit) (k66 : Int32 → Int32 → Int32 → Int32 → Int32 → Int32 → Int32 → Int32 → St → Re Unit) {S' : St} {r : Unit} (hrec : ∀ (v1 : Int32) (v2 : Int32) (v3 : Int32) (v4 : Int32) (v5 : Int32) (v6 : Int32) (v7 : Int32) (S : St) (r : Unit) (S' : St), rec v1 v2 v3 v4 v5 v6 v7 S = some (r, S') → RC KM (d + 4) 2502 [.ref 500, .int v1, .int v2, .int v3, .int v4, .int v5, .int v6, .int v7] S none S') (b66 : ∀ (v1 : Int32) (v2 : Int32) (v3 : Int32) (v4 : Int32) (v5 : Int32) (v6 : Int32) (v7 : Int32) (v8 : Int32) (S : St), k66 v1 v2 v3 v4 v5 v6 v7 v8 S = some (r, S') → RR KM (d + 5) 2502 66 [(0, .ref 500), (1, .int v1), (2, .int v2), (3, .int v3), (4, .int v4), (5, .int v5), (6, .int v6), (7, .int v7), (8, .int v8)] [] S none S') : ∀ (n : Nat) (v1 : Int32) (v2 : Int32) (v3 : Int32) (v4 : Int32) (v5 : Int32) (v6 : Int32) (v7 : Int32) (v8 : Int32) (v9 : Int32) (v10 : Int32) (v11 : Int32) (v12 : Int32) (S : St), m_reads0_112 rec k66 n v1 v2 v3 v4 v5 v6 v7 v8 v9 v10 v11 v12 S = some (r, S') → RR KM (d + 5) 2502 112 [(0, .ref 500), (1, .int v1), (2, .int v2), (3, .int v3), (4, .int v4), (5, .int v5), (6, .int v6), (7, .int v7), (8, .int v8), (9, .int v9), (10, .int v10), (11, .int v11), (12, .int v12)] [] S none S' := by
  intro n
  induction n with
  | zero => intro v1 v2 v3 v4 v5 v6 v7 v8 v9 v10 v11 v12 S h; simp only [m_reads0_112] at h; cases h
  | succ n ih =>
    intro v1 v2 v3 v4 v5 v6 v7 v8 v9 v10 v11 v12 S h
    simp only [m_reads0_112] at h
    refine RR.runs (pc' := icm .ge v12 (2 : Int32) 209 118) (lc' := [(0, .ref 500), (1, .int v1), (2, .int v2), (3, .int v3), (4, .int v4), (5, .int v5), (6, .int v6), (7, .int v7), (8, .int v8), (9, .int v9), (10, .int v10), (11, .int v11), (12, .int v12)]) (st' := []) (S1 := S) (nL := 14) (cd := cd_2502) mx_2502 rfl rfl 3 rfl ?_
    rcases ifE h with ⟨c, h⟩ | ⟨c, h⟩
    · refine RR.c_ge (fun _ => ?_) (fun q => absurd c q)
      refine RR.runs (pc' := icm .ne v12 0 134 124) (lc' := [(0, .ref 500), (1, .int v1), (2, .int v2), (3, .int v3), (4, .int v4), (5, .int v5), (6, .int v6), (7, .int v7), (8, .int v8), (9, .int v9), (10, .int v10), (11, .int v11), (12, .int v12)]) (st' := [.ref 500]) (S1 := S) (nL := 14) (cd := cd_2502) mx_2502 rfl rfl 3 rfl ?_
      rcases ifE h with ⟨c, h⟩ | ⟨c, h⟩
      · refine RR.c_ne (fun _ => ?_) (fun q => absurd c q)
        refine RR.runs (pc' := 130) (lc' := [(0, .ref 500), (1, .int v1), (2, .int v2), (3, .int v3), (4, .int v4), (5, .int v5), (6, .int v6), (7, .int v7), (8, .int v8), (9, .int v9), (10, .int v10), (11, .int v11), (12, .int v12)]) (st' := [.int v8, .ref 519, .ref 500]) (S1 := S) (nL := 14) (cd := cd_2502) mx_2502 rfl rfl 3 rfl ?_
        obtain ⟨g, h⟩ := gnE h
        refine RR.gPN (c2 := (KM.1 519).1 = 1) (pc' := 131) (lc' := [(0, .ref 500), (1, .int v1), (2, .int v2), (3, .int v3), (4, .int v4), (5, .int v5), (6, .int v6), (7, .int v7), (8, .int v8), (9, .int v9), (10, .int v10), (11, .int v11), (12, .int v12)]) (st' := [.int (rI S 519 v8.toNatClampNeg), .ref 500]) (S1 := S) (nL := 14) (cd := cd_2502) mx_2502 rfl rfl rfl rfl g ?_
        refine RR.runs (pc' := 141) (lc' := [(0, .ref 500), (1, .int v1), (2, .int v2), (3, .int v3), (4, .int v4), (5, .int v5), (6, .int v6), (7, .int v7), (8, .int v8), (9, .int v9), (10, .int v10), (11, .int v11), (12, .int v12)]) (st' := [.int (rI S 519 v8.toNatClampNeg), .ref 500]) (S1 := S) (nL := 14) (cd := cd_2502) mx_2502 rfl rfl 1 rfl ?_
        refine RR.weak [(0, .ref 500), (1, .int v1), (2, .int v2), (3, .int v3), (4, .int v4), (5, .int v5), (6, .int v6), (7, .int v7), (8, .int v8), (9, .int v9), (10, .int v10), (11, .int v11), (12, .int v12)] ⟨rfl, rfl, rfl, rfl, rfl, rfl, rfl, rfl, rfl, rfl, rfl, rfl, rfl, trivial⟩ ?_
        exact s_m_reads0_141 _ _ hrec (fun _ _ _ _ _ _ _ _ _ _ _ _ S h => ih _ _ _ _ _ _ _ _ _ _ _ _ S h) _ _ _ _ _ _ _ _ _ _ _ _ _ _ h
      · refine RR.c_ne (fun q => absurd q c) (fun _ => ?_)
        refine RR.runs (pc' := 140) (lc' := [(0, .ref 500), (1, .int v1), (2, .int v2), (3, .int v3), (4, .int v4), (5, .int v5), (6, .int v6), (7, .int v7), (8, .int v8), (9, .int v9), (10, .int v10), (11, .int v11), (12, .int v12)]) (st' := [.int v8, .ref 520, .ref 500]) (S1 := S) (nL := 14) (cd := cd_2502) mx_2502 rfl rfl 3 rfl ?_
        obtain ⟨g, h⟩ := gnE h
        refine RR.gPN (c2 := (KM.1 520).1 = 1) (pc' := 141) (lc' := [(0, .ref 500), (1, .int v1), (2, .int v2), (3, .int v3), (4, .int v4), (5, .int v5), (6, .int v6), (7, .int v7), (8, .int v8), (9, .int v9), (10, .int v10), (11, .int v11), (12, .int v12)]) (st' := [.int (rI S 520 v8.toNatClampNeg), .ref 500]) (S1 := S) (nL := 14) (cd := cd_2502) mx_2502 rfl rfl rfl rfl g ?_
        refine RR.weak [(0, .ref 500), (1, .int v1), (2, .int v2), (3, .int v3), (4, .int v4), (5, .int v5), (6, .int v6), (7, .int v7), (8, .int v8), (9, .int v9), (10, .int v10), (11, .int v11), (12, .int v12)] ⟨rfl, rfl, rfl, rfl, rfl, rfl, rfl, rfl, rfl, rfl, rfl, rfl, rfl, trivial⟩ ?_
        exact s_m_reads0_141 _ _ hrec (fun _ _ _ _ _ _ _ _ _ _ _ _ S h => ih _ _ _ _ _ _ _ _ _ _ _ _ S h) _ _ _ _ _ _ _ _ _ _ _ _ _ _ h
    · refine RR.c_ge (fun q => absurd q c) (fun _ => ?_)
      refine RR.weak [(0, .ref 500), (1, .int v1), (2, .int v2), (3, .int v3), (4, .int v4), (5, .int v5), (6, .int v6), (7, .int v7), (8, .int v8), (9, .int v9), (10, .int v10), (11, .int v11)] ⟨rfl, rfl, rfl, rfl, rfl, rfl, rfl, rfl, rfl, rfl, rfl, rfl, trivial⟩ ?_
      exact s_m_reads0_209 _ _ hrec b66 _ _ _ _ _ _ _ _ _ _ _ _ h
def m_reads0_238 (rec : Int32 → Int32 → Int32 → Int32 → Int32 → Int32 → Int32 → St → Re Unit) (S : St) : Re Unit :=
  some ((), S)
set_option maxRecDepth 100000 in
theorem s_m_reads0_238 {d : Nat} (rec : Int32 → Int32 → Int32 → Int32 → Int32 → Int32 → Int32 → St → Re Unit) {S' : St} {r : Unit} (hrec : ∀ (v1 : Int32) (v2 : Int32) (v3 : Int32) (v4 : Int32) (v5 : Int32) (v6 : Int32) (v7 : Int32) (S : St) (r : Unit) (S' : St), rec v1 v2 v3 v4 v5 v6 v7 S = some (r, S') → RC KM (d + 4) 2502 [.ref 500, .int v1, .int v2, .int v3, .int v4, .int v5, .int v6, .int v7] S none S') (S : St) (h : m_reads0_238 rec S = some (r, S')) : RR KM (d + 5) 2502 238 [] [] S none S' := by
  unfold m_reads0_238 at h
  cases h
  exact RR.retv mx_2502 rfl rfl rfl
def m_reads0_66 (rec : Int32 → Int32 → Int32 → Int32 → Int32 → Int32 → Int32 → St → Re Unit) : Nat → Int32 → Int32 → Int32 → Int32 → Int32 → Int32 → Int32 → Int32 → St → Re Unit
  | 0, _, _, _, _, _, _, _, _, _ => none
  | n + 1, v1, v2, v3, v4, v5, v6, v7, v8, S =>
  if (5 : Int32) < 0 ∨ 12 ≤ (5 : Int32).toNatClampNeg then none else
  if v8 < (rI S 502 (5 : Int32).toNatClampNeg) then (
    if ((v2 >>> (v8 &&& 31)) &&& (1 : Int32)) = (1 : Int32) then (
      m_reads0_232 rec (m_reads0_66 rec n) v1 v2 v3 v4 v5 v6 v7 v8 S)
    else (
      if v1 < 0 ∨ 4 ≤ v1.toNatClampNeg then none else
      lt' (wI S 565 v1.toNatClampNeg v8) fun S1 =>
      m_reads0_112 rec (m_reads0_66 rec n) FU v1 v2 v3 v4 v5 v6 v7 v8 v3 v4 v5 (0 : Int32) S1))
  else (
    m_reads0_238 rec S)
set_option maxRecDepth 100000 in
theorem s_m_reads0_66 {d : Nat} (rec : Int32 → Int32 → Int32 → Int32 → Int32 → Int32 → Int32 → St → Re Unit) {S' : St} {r : Unit} (hrec : ∀ (v1 : Int32) (v2 : Int32) (v3 : Int32) (v4 : Int32) (v5 : Int32) (v6 : Int32) (v7 : Int32) (S : St) (r : Unit) (S' : St), rec v1 v2 v3 v4 v5 v6 v7 S = some (r, S') → RC KM (d + 4) 2502 [.ref 500, .int v1, .int v2, .int v3, .int v4, .int v5, .int v6, .int v7] S none S') : ∀ (n : Nat) (v1 : Int32) (v2 : Int32) (v3 : Int32) (v4 : Int32) (v5 : Int32) (v6 : Int32) (v7 : Int32) (v8 : Int32) (S : St), m_reads0_66 rec n v1 v2 v3 v4 v5 v6 v7 v8 S = some (r, S') → RR KM (d + 5) 2502 66 [(0, .ref 500), (1, .int v1), (2, .int v2), (3, .int v3), (4, .int v4), (5, .int v5), (6, .int v6), (7, .int v7), (8, .int v8)] [] S none S' := by
  intro n
  induction n with
  | zero => intro v1 v2 v3 v4 v5 v6 v7 v8 S h; simp only [m_reads0_66] at h; cases h
  | succ n ih =>
    intro v1 v2 v3 v4 v5 v6 v7 v8 S h
    simp only [m_reads0_66] at h
    refine RR.runs (pc' := 73) (lc' := [(0, .ref 500), (1, .int v1), (2, .int v2), (3, .int v3), (4, .int v4), (5, .int v5), (6, .int v6), (7, .int v7), (8, .int v8)]) (st' := [.int (5 : Int32), .ref 502, .int v8]) (S1 := S) (nL := 14) (cd := cd_2502) mx_2502 rfl rfl 4 rfl ?_
    obtain ⟨g, h⟩ := gnE h
    refine RR.gPN (c2 := (KM.1 502).1 = 1) (pc' := 74) (lc' := [(0, .ref 500), (1, .int v1), (2, .int v2), (3, .int v3), (4, .int v4), (5, .int v5), (6, .int v6), (7, .int v7), (8, .int v8)]) (st' := [.int ((rI S 502 (5 : Int32).toNatClampNeg)), .int v8]) (S1 := S) (nL := 14) (cd := cd_2502) mx_2502 rfl rfl rfl rfl g ?_
    refine RR.runs (pc' := icm .ge v8 ((rI S 502 (5 : Int32).toNatClampNeg)) 238 77) (lc' := [(0, .ref 500), (1, .int v1), (2, .int v2), (3, .int v3), (4, .int v4), (5, .int v5), (6, .int v6), (7, .int v7), (8, .int v8)]) (st' := []) (S1 := S) (nL := 14) (cd := cd_2502) mx_2502 rfl rfl 1 rfl ?_
    rcases ifE h with ⟨c, h⟩ | ⟨c, h⟩
    · refine RR.c_ge (fun _ => ?_) (fun q => absurd c q)
      refine RR.runs (pc' := icm .ne (((v2 >>> (v8 &&& 31)) &&& (1 : Int32))) (1 : Int32) 90 87) (lc' := [(0, .ref 500), (1, .int v1), (2, .int v2), (3, .int v3), (4, .int v4), (5, .int v5), (6, .int v6), (7, .int v7), (8, .int v8)]) (st' := []) (S1 := S) (nL := 14) (cd := cd_2502) mx_2502 rfl rfl 7 rfl ?_
      rcases ifE h with ⟨c, h⟩ | ⟨c, h⟩
      · refine RR.c_ne (fun _ => ?_) (fun q => absurd c q)
        refine RR.runs (pc' := 232) (lc' := [(0, .ref 500), (1, .int v1), (2, .int v2), (3, .int v3), (4, .int v4), (5, .int v5), (6, .int v6), (7, .int v7), (8, .int v8)]) (st' := []) (S1 := S) (nL := 14) (cd := cd_2502) mx_2502 rfl rfl 1 rfl ?_
        refine RR.weak [(0, .ref 500), (1, .int v1), (2, .int v2), (3, .int v3), (4, .int v4), (5, .int v5), (6, .int v6), (7, .int v7), (8, .int v8)] ⟨rfl, rfl, rfl, rfl, rfl, rfl, rfl, rfl, rfl, trivial⟩ ?_
        exact s_m_reads0_232 _ _ hrec (fun _ _ _ _ _ _ _ _ S h => ih _ _ _ _ _ _ _ _ S h) _ _ _ _ _ _ _ _ _ h
      · refine RR.c_ne (fun q => absurd q c) (fun _ => ?_)
        refine RR.runs (pc' := 97) (lc' := [(0, .ref 500), (1, .int v1), (2, .int v2), (3, .int v3), (4, .int v4), (5, .int v5), (6, .int v6), (7, .int v7), (8, .int v8)]) (st' := [.int v8, .int v1, .ref 565]) (S1 := S) (nL := 14) (cd := cd_2502) mx_2502 rfl rfl 4 rfl ?_
        obtain ⟨g, h⟩ := gnE h
        refine RR.gPN (c2 := (KM.1 565).1 = 1) (pc' := 98) (lc' := [(0, .ref 500), (1, .int v1), (2, .int v2), (3, .int v3), (4, .int v4), (5, .int v5), (6, .int v6), (7, .int v7), (8, .int v8)]) (st' := []) (S1 := (wI S 565 v1.toNatClampNeg v8)) (nL := 14) (cd := cd_2502) mx_2502 rfl rfl rfl rfl g ?_
        obtain ⟨S1, eS1, h⟩ := ltE h
        rw [← eS1]
        refine RR.runs (pc' := 112) (lc' := [(12, .int (0 : Int32)), (11, .int v5), (10, .int v4), (9, .int v3), (0, .ref 500), (1, .int v1), (2, .int v2), (3, .int v3), (4, .int v4), (5, .int v5), (6, .int v6), (7, .int v7), (8, .int v8)]) (st' := []) (S1 := S1) (nL := 14) (cd := cd_2502) mx_2502 rfl rfl 8 rfl ?_
        refine RR.weak [(0, .ref 500), (1, .int v1), (2, .int v2), (3, .int v3), (4, .int v4), (5, .int v5), (6, .int v6), (7, .int v7), (8, .int v8), (9, .int v3), (10, .int v4), (11, .int v5), (12, .int (0 : Int32))] ⟨rfl, rfl, rfl, rfl, rfl, rfl, rfl, rfl, rfl, rfl, rfl, rfl, rfl, trivial⟩ ?_
        exact s_m_reads0_112 _ _ hrec (fun _ _ _ _ _ _ _ _ S h => ih _ _ _ _ _ _ _ _ S h) _ _ _ _ _ _ _ _ _ _ _ _ _ _ h
    · refine RR.c_ge (fun q => absurd q c) (fun _ => ?_)
      refine RR.weak [] trivial ?_
      exact s_m_reads0_238 _ hrec _ h
def m_reads0_b (rec : Int32 → Int32 → Int32 → Int32 → Int32 → Int32 → Int32 → St → Re Unit) (v1 : Int32) (v2 : Int32) (v3 : Int32) (v4 : Int32) (v5 : Int32) (v6 : Int32) (v7 : Int32) (S : St) : Re Unit :=
  if (5 : Int32) < 0 ∨ 12 ≤ (5 : Int32).toNatClampNeg then none else
  if v1 = (rI S 502 (5 : Int32).toNatClampNeg) then (
    if (rI S 500 85) < 0 then (
      m_reads0_27 rec v5 S)
    else (
      if v5 < (rI S 500 85) then (
        m_reads0_27 rec v5 S)
      else (
        some ((), S))))
  else (
    m_reads0_66 rec FU v1 v2 v3 v4 v5 v6 v7 (0 : Int32) S)
set_option maxRecDepth 100000 in
theorem s0_m_reads0 {d : Nat} (rec : Int32 → Int32 → Int32 → Int32 → Int32 → Int32 → Int32 → St → Re Unit) {S' : St} {r : Unit} (hrec : ∀ (v1 : Int32) (v2 : Int32) (v3 : Int32) (v4 : Int32) (v5 : Int32) (v6 : Int32) (v7 : Int32) (S : St) (r : Unit) (S' : St), rec v1 v2 v3 v4 v5 v6 v7 S = some (r, S') → RC KM (d + 4) 2502 [.ref 500, .int v1, .int v2, .int v3, .int v4, .int v5, .int v6, .int v7] S none S') (v1 : Int32) (v2 : Int32) (v3 : Int32) (v4 : Int32) (v5 : Int32) (v6 : Int32) (v7 : Int32) (S : St) (h : m_reads0_b rec v1 v2 v3 v4 v5 v6 v7 S = some (r, S')) : RR KM (d + 5) 2502 0 [(0, .ref 500), (1, .int v1), (2, .int v2), (3, .int v3), (4, .int v4), (5, .int v5), (6, .int v6), (7, .int v7)] [] S none S' := by
  unfold m_reads0_b at h
  refine RR.runs (pc' := 6) (lc' := [(0, .ref 500), (1, .int v1), (2, .int v2), (3, .int v3), (4, .int v4), (5, .int v5), (6, .int v6), (7, .int v7)]) (st' := [.int (5 : Int32), .ref 502, .int v1]) (S1 := S) (nL := 14) (cd := cd_2502) mx_2502 rfl rfl 4 rfl ?_
  obtain ⟨g, h⟩ := gnE h
  refine RR.gPN (c2 := (KM.1 502).1 = 1) (pc' := 7) (lc' := [(0, .ref 500), (1, .int v1), (2, .int v2), (3, .int v3), (4, .int v4), (5, .int v5), (6, .int v6), (7, .int v7)]) (st' := [.int ((rI S 502 (5 : Int32).toNatClampNeg)), .int v1]) (S1 := S) (nL := 14) (cd := cd_2502) mx_2502 rfl rfl rfl rfl g ?_
  refine RR.runs (pc' := icm .ne v1 ((rI S 502 (5 : Int32).toNatClampNeg)) 63 10) (lc' := [(0, .ref 500), (1, .int v1), (2, .int v2), (3, .int v3), (4, .int v4), (5, .int v5), (6, .int v6), (7, .int v7)]) (st' := []) (S1 := S) (nL := 14) (cd := cd_2502) mx_2502 rfl rfl 1 rfl ?_
  rcases ifE h with ⟨c, h⟩ | ⟨c, h⟩
  · refine RR.c_ne (fun _ => ?_) (fun q => absurd c q)
    refine RR.runs (pc' := icm .lt (rI S 500 85) 0 27 17) (lc' := [(0, .ref 500), (1, .int v1), (2, .int v2), (3, .int v3), (4, .int v4), (5, .int v5), (6, .int v6), (7, .int v7)]) (st' := []) (S1 := S) (nL := 14) (cd := cd_2502) mx_2502 rfl rfl 3 rfl ?_
    rcases ifE h with ⟨c, h⟩ | ⟨c, h⟩
    · refine RR.c_lt (fun _ => ?_) (fun q => absurd c q)
      refine RR.weak [(0, .ref 500), (5, .int v5)] ⟨rfl, rfl, trivial⟩ ?_
      exact s_m_reads0_27 _ hrec _ _ h
    · refine RR.c_lt (fun q => absurd q c) (fun _ => ?_)
      refine RR.runs (pc' := icm .lt v5 (rI S 500 85) 27 26) (lc' := [(0, .ref 500), (1, .int v1), (2, .int v2), (3, .int v3), (4, .int v4), (5, .int v5), (6, .int v6), (7, .int v7)]) (st' := []) (S1 := S) (nL := 14) (cd := cd_2502) mx_2502 rfl rfl 4 rfl ?_
      rcases ifE h with ⟨c, h⟩ | ⟨c, h⟩
      · refine RR.c_lt (fun _ => ?_) (fun q => absurd c q)
        refine RR.weak [(0, .ref 500), (5, .int v5)] ⟨rfl, rfl, trivial⟩ ?_
        exact s_m_reads0_27 _ hrec _ _ h
      · refine RR.c_lt (fun q => absurd q c) (fun _ => ?_)
        cases h
        exact RR.retv mx_2502 rfl rfl rfl
  · refine RR.c_ne (fun q => absurd q c) (fun _ => ?_)
    refine RR.runs (pc' := 66) (lc' := [(8, .int (0 : Int32)), (0, .ref 500), (1, .int v1), (2, .int v2), (3, .int v3), (4, .int v4), (5, .int v5), (6, .int v6), (7, .int v7)]) (st' := []) (S1 := S) (nL := 14) (cd := cd_2502) mx_2502 rfl rfl 2 rfl ?_
    refine RR.weak [(0, .ref 500), (1, .int v1), (2, .int v2), (3, .int v3), (4, .int v4), (5, .int v5), (6, .int v6), (7, .int v7), (8, .int (0 : Int32))] ⟨rfl, rfl, rfl, rfl, rfl, rfl, rfl, rfl, rfl, trivial⟩ ?_
    exact s_m_reads0_66 _ hrec _ _ _ _ _ _ _ _ _ _ h
def m_reads0 : Nat → Int32 → Int32 → Int32 → Int32 → Int32 → Int32 → Int32 → St → Re Unit
  | 0, _, _, _, _, _, _, _, _ => none
  | n + 1, v1, v2, v3, v4, v5, v6, v7, S => m_reads0_b (m_reads0 n) v1 v2 v3 v4 v5 v6 v7 S
theorem sn_m_reads0 : ∀ (n : Nat) {d : Nat} (v1 : Int32) (v2 : Int32) (v3 : Int32) (v4 : Int32) (v5 : Int32) (v6 : Int32) (v7 : Int32) (S : St) (r : Unit) (S' : St), m_reads0 n v1 v2 v3 v4 v5 v6 v7 S = some (r, S') → RC KM (d + n + 4) 2502 [.ref 500, .int v1, .int v2, .int v3, .int v4, .int v5, .int v6, .int v7] S none S' := by
  intro n
  induction n with
  | zero => intro d v1 v2 v3 v4 v5 v6 v7 S r S' h; simp only [m_reads0] at h; cases h
  | succ n ih =>
    intro d v1 v2 v3 v4 v5 v6 v7 S r S' h
    simp only [m_reads0] at h
    have h9 : RR KM (d + n + 5) 2502 0 [(0, .ref 500), (1, .int v1), (2, .int v2), (3, .int v3), (4, .int v4), (5, .int v5), (6, .int v6), (7, .int v7)] [] S none S' := s0_m_reads0 (d := d + n) (m_reads0 n) (fun _ _ _ _ _ _ _ S r S' h => ih _ _ _ _ _ _ _ S r S' h) v1 v2 v3 v4 v5 v6 v7 S h
    have e9 : d + (n + 1) + 4 = d + n + 5 := by omega
    rw [e9]
    exact RC.of rfl h9
theorem s_m_reads0 {d : Nat} {S' : St} {r : Unit} (v1 : Int32) (v2 : Int32) (v3 : Int32) (v4 : Int32) (v5 : Int32) (v6 : Int32) (v7 : Int32) (S : St) (h : m_reads0 8 v1 v2 v3 v4 v5 v6 v7 S = some (r, S')) : RC KM (d + 12) 2502 [.ref 500, .int v1, .int v2, .int v3, .int v4, .int v5, .int v6, .int v7] S none S' := sn_m_reads0 8 (d := d) v1 v2 v3 v4 v5 v6 v7 S r S' h
-- banns (III)I
def m_banns_36 (S : St) : Re Int32 :=
  some ((-1 : Int32), S)
set_option maxRecDepth 100000 in
theorem s_m_banns_36 {d : Nat} {S' : St} {r : Int32} (S : St) (h : m_banns_36 S = some (r, S')) : RR KM (d + 13) 2503 36 [] [] S (some (.int r)) S' := by
  unfold m_banns_36 at h
  refine RR.runs (pc' := 37) (lc' := []) (st' := [.int (-1 : Int32)]) (S1 := S) (nL := 4) (cd := cd_2503) mx_2503 rfl rfl 1 rfl ?_
  cases h
  exact RR.reti mx_2503 rfl rfl rfl
def m_banns_83 (p0 : Int32) (S : St) : Re Int32 :=
  some (p0, S)
set_option maxRecDepth 100000 in
theorem s_m_banns_83 {d : Nat} {S' : St} {r : Int32} (p0 : Int32) (S : St) (h : m_banns_83 p0 S = some (r, S')) : RR KM (d + 13) 2503 83 [] [.int p0] S (some (.int r)) S' := by
  unfold m_banns_83 at h
  cases h
  exact RR.reti mx_2503 rfl rfl rfl
def m_banns (v1 : Int32) (v2 : Int32) (v3 : Int32) (S : St) : Re Int32 :=
  lt' (wI S 500 0 (0 : Int32)) fun S1 =>
  bn (m_isVoice v1 v2 S1) fun r2 S3 =>
  if r2 = 0 then (
    m_banns_36 S3)
  else (
    if (5 : Int32) < 0 ∨ 12 ≤ (5 : Int32).toNatClampNeg then none else
    if (rI S3 502 (5 : Int32).toNatClampNeg) = 0 then (
      m_banns_36 S3)
    else (
      if (5 : Int32) < 0 ∨ 12 ≤ (5 : Int32).toNatClampNeg then none else
      bn (m_within v3 (0 : Int32) ((rI S3 502 (5 : Int32).toNatClampNeg)) S3) fun r4 S5 =>
      if r4 = 0 then (
        m_banns_36 S5)
      else (
        lt' (wI S5 500 85 (-1 : Int32)) fun S6 =>
        if (0 : Int32) < 0 ∨ 15 ≤ (0 : Int32).toNatClampNeg then none else
        if (1 : Int32) < 0 ∨ 15 ≤ (1 : Int32).toNatClampNeg then none else
        bn (m_reads0 8 (0 : Int32) (0 : Int32) ((rI S6 553 (0 : Int32).toNatClampNeg)) ((rI S6 553 (1 : Int32).toNatClampNeg)) (0 : Int32) v1 v2 S6) fun r7 S8 =>
        if v3 = 0 then (
          m_banns_83 (rI S8 500 85) S8)
        else (
          if (v3 - (1 : Int32)) < 0 ∨ 4 ≤ ((v3 - (1 : Int32))).toNatClampNeg then none else
          m_banns_83 ((rI S8 566 ((v3 - (1 : Int32))).toNatClampNeg)) S8))))
set_option maxRecDepth 100000 in
theorem s0_m_banns {d : Nat} {S' : St} {r : Int32} (v1 : Int32) (v2 : Int32) (v3 : Int32) (S : St) (h : m_banns v1 v2 v3 S = some (r, S')) : RR KM (d + 13) 2503 0 [(0, .ref 500), (1, .int v1), (2, .int v2), (3, .int v3)] [] S (some (.int r)) S' := by
  unfold m_banns at h
  refine RR.runs (pc' := 5) (lc' := [(0, .ref 500), (1, .int v1), (2, .int v2), (3, .int v3)]) (st' := []) (S1 := (wI S 500 0 (0 : Int32))) (nL := 4) (cd := cd_2503) mx_2503 rfl rfl 3 rfl ?_
  obtain ⟨S1, eS1, h⟩ := ltE h
  rw [← eS1]
  refine RR.runs (pc' := 7) (lc' := [(0, .ref 500), (1, .int v1), (2, .int v2), (3, .int v3)]) (st' := [.int v2, .int v1]) (S1 := S1) (nL := 4) (cd := cd_2503) mx_2503 rfl rfl 2 rfl ?_
  obtain ⟨r2, S3, h1, h⟩ := bnE h
  refine RR.callS (as := [.int v1, .int v2]) (rest := []) (r1 := (some (.int r2))) (S1 := S3) mx_2503 rfl rfl mx_2499 rfl rfl (by decide) (Nat.le_of_ble_eq_true rfl) (Nat.le_of_ble_eq_true rfl) (Nat.le_of_ble_eq_true rfl) (RC.deep (by omega) (s_m_isVoice (d := d) _ _ _ h1)) ?_
  show RR KM _ 2503 10 [(0, .ref 500), (1, .int v1), (2, .int v2), (3, .int v3)] [.int r2] S3 _ _
  refine RR.runs (pc' := icm .eq r2 0 36 13) (lc' := [(0, .ref 500), (1, .int v1), (2, .int v2), (3, .int v3)]) (st' := []) (S1 := S3) (nL := 4) (cd := cd_2503) mx_2503 rfl rfl 1 rfl ?_
  rcases ifE h with ⟨c, h⟩ | ⟨c, h⟩
  · refine RR.c_eq (fun _ => ?_) (fun q => absurd c q)
    refine RR.weak [] trivial ?_
    exact s_m_banns_36 _ h
  · refine RR.c_eq (fun q => absurd q c) (fun _ => ?_)
    refine RR.runs (pc' := 18) (lc' := [(0, .ref 500), (1, .int v1), (2, .int v2), (3, .int v3)]) (st' := [.int (5 : Int32), .ref 502]) (S1 := S3) (nL := 4) (cd := cd_2503) mx_2503 rfl rfl 3 rfl ?_
    obtain ⟨g, h⟩ := gnE h
    refine RR.gPN (c2 := (KM.1 502).1 = 1) (pc' := 19) (lc' := [(0, .ref 500), (1, .int v1), (2, .int v2), (3, .int v3)]) (st' := [.int ((rI S3 502 (5 : Int32).toNatClampNeg))]) (S1 := S3) (nL := 4) (cd := cd_2503) mx_2503 rfl rfl rfl rfl g ?_
    refine RR.runs (pc' := icm .eq ((rI S3 502 (5 : Int32).toNatClampNeg)) 0 36 22) (lc' := [(0, .ref 500), (1, .int v1), (2, .int v2), (3, .int v3)]) (st' := []) (S1 := S3) (nL := 4) (cd := cd_2503) mx_2503 rfl rfl 1 rfl ?_
    rcases ifE h with ⟨c, h⟩ | ⟨c, h⟩
    · refine RR.c_eq (fun _ => ?_) (fun q => absurd c q)
      refine RR.weak [] trivial ?_
      exact s_m_banns_36 _ h
    · refine RR.c_eq (fun q => absurd q c) (fun _ => ?_)
      refine RR.runs (pc' := 29) (lc' := [(0, .ref 500), (1, .int v1), (2, .int v2), (3, .int v3)]) (st' := [.int (5 : Int32), .ref 502, .int (0 : Int32), .int v3]) (S1 := S3) (nL := 4) (cd := cd_2503) mx_2503 rfl rfl 5 rfl ?_
      obtain ⟨g, h⟩ := gnE h
      refine RR.gPN (c2 := (KM.1 502).1 = 1) (pc' := 30) (lc' := [(0, .ref 500), (1, .int v1), (2, .int v2), (3, .int v3)]) (st' := [.int ((rI S3 502 (5 : Int32).toNatClampNeg)), .int (0 : Int32), .int v3]) (S1 := S3) (nL := 4) (cd := cd_2503) mx_2503 rfl rfl rfl rfl g ?_
      obtain ⟨r4, S5, h1, h⟩ := bnE h
      refine RR.callS (as := [.int v3, .int (0 : Int32), .int ((rI S3 502 (5 : Int32).toNatClampNeg))]) (rest := []) (r1 := (some (.int r4))) (S1 := S5) mx_2503 rfl rfl mx_2402 rfl rfl (by decide) (Nat.le_of_ble_eq_true rfl) (Nat.le_of_ble_eq_true rfl) (Nat.le_of_ble_eq_true rfl) (RC.deep (by omega) (s_m_within (d := d) _ _ _ _ h1)) ?_
      show RR KM _ 2503 33 [(0, .ref 500), (1, .int v1), (2, .int v2), (3, .int v3)] [.int r4] S5 _ _
      refine RR.runs (pc' := icm .ne r4 0 38 36) (lc' := [(0, .ref 500), (1, .int v1), (2, .int v2), (3, .int v3)]) (st' := []) (S1 := S5) (nL := 4) (cd := cd_2503) mx_2503 rfl rfl 1 rfl ?_
      rcases ifE h with ⟨c, h⟩ | ⟨c, h⟩
      · refine RR.c_ne (fun _ => ?_) (fun q => absurd c q)
        refine RR.weak [] trivial ?_
        exact s_m_banns_36 _ h
      · refine RR.c_ne (fun q => absurd q c) (fun _ => ?_)
        refine RR.runs (pc' := 43) (lc' := [(0, .ref 500), (1, .int v1), (2, .int v2), (3, .int v3)]) (st' := []) (S1 := (wI S5 500 85 (-1 : Int32))) (nL := 4) (cd := cd_2503) mx_2503 rfl rfl 3 rfl ?_
        obtain ⟨S6, eS6, h⟩ := ltE h
        rw [← eS6]
        refine RR.runs (pc' := 51) (lc' := [(0, .ref 500), (1, .int v1), (2, .int v2), (3, .int v3)]) (st' := [.int (0 : Int32), .ref 553, .int (0 : Int32), .int (0 : Int32), .ref 500]) (S1 := S6) (nL := 4) (cd := cd_2503) mx_2503 rfl rfl 6 rfl ?_
        obtain ⟨g, h⟩ := gnE h
        refine RR.gPN (c2 := (KM.1 553).1 = 1) (pc' := 52) (lc' := [(0, .ref 500), (1, .int v1), (2, .int v2), (3, .int v3)]) (st' := [.int ((rI S6 553 (0 : Int32).toNatClampNeg)), .int (0 : Int32), .int (0 : Int32), .ref 500]) (S1 := S6) (nL := 4) (cd := cd_2503) mx_2503 rfl rfl rfl rfl g ?_
        refine RR.runs (pc' := 57) (lc' := [(0, .ref 500), (1, .int v1), (2, .int v2), (3, .int v3)]) (st' := [.int (1 : Int32), .ref 553, .int ((rI S6 553 (0 : Int32).toNatClampNeg)), .int (0 : Int32), .int (0 : Int32), .ref 500]) (S1 := S6) (nL := 4) (cd := cd_2503) mx_2503 rfl rfl 3 rfl ?_
        obtain ⟨g, h⟩ := gnE h
        refine RR.gPN (c2 := (KM.1 553).1 = 1) (pc' := 58) (lc' := [(0, .ref 500), (1, .int v1), (2, .int v2), (3, .int v3)]) (st' := [.int ((rI S6 553 (1 : Int32).toNatClampNeg)), .int ((rI S6 553 (0 : Int32).toNatClampNeg)), .int (0 : Int32), .int (0 : Int32), .ref 500]) (S1 := S6) (nL := 4) (cd := cd_2503) mx_2503 rfl rfl rfl rfl g ?_
        refine RR.runs (pc' := 61) (lc' := [(0, .ref 500), (1, .int v1), (2, .int v2), (3, .int v3)]) (st' := [.int v2, .int v1, .int (0 : Int32), .int ((rI S6 553 (1 : Int32).toNatClampNeg)), .int ((rI S6 553 (0 : Int32).toNatClampNeg)), .int (0 : Int32), .int (0 : Int32), .ref 500]) (S1 := S6) (nL := 4) (cd := cd_2503) mx_2503 rfl rfl 3 rfl ?_
        obtain ⟨r7, S8, h1, h⟩ := bnE h
        refine RR.callV (b := 500) (as := [.int (0 : Int32), .int (0 : Int32), .int ((rI S6 553 (0 : Int32).toNatClampNeg)), .int ((rI S6 553 (1 : Int32).toNatClampNeg)), .int (0 : Int32), .int v1, .int v2]) (rest := []) (r1 := none) (S1 := S8) mx_2503 rfl rfl mx_2502 rfl rfl (by decide) (Or.inl rfl) (Nat.le_of_ble_eq_true rfl) (Nat.le_of_ble_eq_true rfl) (RC.deep (by omega) (s_m_reads0 (d := d) _ _ _ _ _ _ _ _ h1)) ?_
        show RR KM _ 2503 64 [(0, .ref 500), (1, .int v1), (2, .int v2), (3, .int v3)] [] S8 _ _
        refine RR.runs (pc' := icm .ne v3 0 75 68) (lc' := [(0, .ref 500), (1, .int v1), (2, .int v2), (3, .int v3)]) (st' := []) (S1 := S8) (nL := 4) (cd := cd_2503) mx_2503 rfl rfl 2 rfl ?_
        rcases ifE h with ⟨c, h⟩ | ⟨c, h⟩
        · refine RR.c_ne (fun _ => ?_) (fun q => absurd c q)
          refine RR.runs (pc' := 83) (lc' := [(0, .ref 500), (1, .int v1), (2, .int v2), (3, .int v3)]) (st' := [.int (rI S8 500 85)]) (S1 := S8) (nL := 4) (cd := cd_2503) mx_2503 rfl rfl 3 rfl ?_
          refine RR.weak [] trivial ?_
          exact s_m_banns_83 _ _ h
        · refine RR.c_ne (fun q => absurd q c) (fun _ => ?_)
          refine RR.runs (pc' := 82) (lc' := [(0, .ref 500), (1, .int v1), (2, .int v2), (3, .int v3)]) (st' := [.int ((v3 - (1 : Int32))), .ref 566]) (S1 := S8) (nL := 4) (cd := cd_2503) mx_2503 rfl rfl 5 rfl ?_
          obtain ⟨g, h⟩ := gnE h
          refine RR.gPN (c2 := (KM.1 566).1 = 1) (pc' := 83) (lc' := [(0, .ref 500), (1, .int v1), (2, .int v2), (3, .int v3)]) (st' := [.int ((rI S8 566 ((v3 - (1 : Int32))).toNatClampNeg))]) (S1 := S8) (nL := 4) (cd := cd_2503) mx_2503 rfl rfl rfl rfl g ?_
          refine RR.weak [] trivial ?_
          exact s_m_banns_83 _ _ h
theorem s_m_banns {d : Nat} {S' : St} {r : Int32} (v1 : Int32) (v2 : Int32) (v3 : Int32) (S : St) (h : m_banns v1 v2 v3 S = some (r, S')) : RC KM (d + 13) 2503 [.ref 500, .int v1, .int v2, .int v3] S (some (.int r)) S' := RC.of rfl (s0_m_banns v1 v2 v3 S h)
