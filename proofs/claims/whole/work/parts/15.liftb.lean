/-! Methods of the reference, lifted (laid by wip/whole/gen/model.py) -/
-- isKept ()Z
def m_isKept_279 (p0 : Int32) (S : St) : Re Int32 :=
  if isBo p0 = true then some (p0, S) else none
set_option maxRecDepth 100000 in
theorem s_m_isKept_279 {d : Nat} {S' : St} {r : Int32} (p0 : Int32) (S : St) (h : m_isKept_279 p0 S = some (r, S')) : RR KM (d + 0) 2419 279 [] [.int p0] S (some (.int r)) S' := by
  unfold m_isKept_279 at h
  obtain ⟨g, h⟩ := gpE h
  cases h
  exact RR.retz mx_2419 rfl rfl rfl g
def m_isKept_274 (S : St) : Re Int32 :=
  m_isKept_279 (1 : Int32) S
set_option maxRecDepth 100000 in
theorem s_m_isKept_274 {d : Nat} {S' : St} {r : Int32} (S : St) (h : m_isKept_274 S = some (r, S')) : RR KM (d + 0) 2419 274 [] [] S (some (.int r)) S' := by
  unfold m_isKept_274 at h
  refine RR.runs (pc' := 279) (lc' := []) (st' := [.int (1 : Int32)]) (S1 := S) (nL := 1) (cd := cd_2419) mx_2419 rfl rfl 2 rfl ?_
  refine RR.weak [] trivial ?_
  exact s_m_isKept_279 _ _ h
def m_isKept (S : St) : Re Int32 :=
  if (rI S 500 6) = (1 : Int32) then (
    if (lg_cmp (rJ S 500 7) (858362 : Int64)) = 0 then (
      m_isKept_274 S)
    else (
      if (lg_cmp (rJ S 500 7) (47 : Int64)) = 0 then (
        m_isKept_274 S)
      else (
        if (lg_cmp (rJ S 500 7) (361292 : Int64)) = 0 then (
          m_isKept_274 S)
        else (
          if (lg_cmp (rJ S 500 7) (12532058 : Int64)) = 0 then (
            m_isKept_274 S)
          else (
            if (lg_cmp (rJ S 500 7) (410684 : Int64)) = 0 then (
              m_isKept_274 S)
            else (
              if (lg_cmp (rJ S 500 7) (8371260 : Int64)) = 0 then (
                m_isKept_274 S)
              else (
                if (lg_cmp (rJ S 500 7) (232608281 : Int64)) = 0 then (
                  m_isKept_274 S)
                else (
                  if (lg_cmp (rJ S 500 7) (237308 : Int64)) = 0 then (
                    m_isKept_274 S)
                  else (
                    if (lg_cmp (rJ S 500 7) (247702 : Int64)) = 0 then (
                      m_isKept_274 S)
                    else (
                      if (lg_cmp (rJ S 500 7) (206754213222 : Int64)) = 0 then (
                        m_isKept_274 S)
                      else (
                        if (lg_cmp (rJ S 500 7) (315851 : Int64)) = 0 then (
                          m_isKept_274 S)
                        else (
                          if (lg_cmp (rJ S 500 7) (40487 : Int64)) = 0 then (
                            m_isKept_274 S)
                          else (
                            if (lg_cmp (rJ S 500 7) (279252 : Int64)) = 0 then (
                              m_isKept_274 S)
                            else (
                              if (lg_cmp (rJ S 500 7) (11720705 : Int64)) = 0 then (
                                m_isKept_274 S)
                              else (
                                if (lg_cmp (rJ S 500 7) (60114 : Int64)) = 0 then (
                                  m_isKept_274 S)
                                else (
                                  if (lg_cmp (rJ S 500 7) (321581 : Int64)) = 0 then (
                                    m_isKept_274 S)
                                  else (
                                    if (lg_cmp (rJ S 500 7) (2968 : Int64)) = 0 then (
                                      m_isKept_274 S)
                                    else (
                                      if (lg_cmp (rJ S 500 7) (8740238 : Int64)) = 0 then (
                                        m_isKept_274 S)
                                      else (
                                        if (lg_cmp (rJ S 500 7) (774244 : Int64)) = 0 then (
                                          m_isKept_274 S)
                                        else (
                                          if (lg_cmp (rJ S 500 7) (12330827 : Int64)) = 0 then (
                                            m_isKept_274 S)
                                          else (
                                            if (lg_cmp (rJ S 500 7) (82410 : Int64)) = 0 then (
                                              m_isKept_274 S)
                                            else (
                                              if (lg_cmp (rJ S 500 7) (10631 : Int64)) = 0 then (
                                                m_isKept_274 S)
                                              else (
                                                if (lg_cmp (rJ S 500 7) (1111 : Int64)) = 0 then (
                                                  m_isKept_274 S)
                                                else (
                                                  if (lg_cmp (rJ S 500 7) (423 : Int64)) = 0 then (
                                                    m_isKept_274 S)
                                                  else (
                                                    m_isKept_279 (0 : Int32) S)))))))))))))))))))))))))
  else (
    some ((1 : Int32), S))
set_option maxRecDepth 100000 in
theorem s0_m_isKept {d : Nat} {S' : St} {r : Int32} (S : St) (h : m_isKept S = some (r, S')) : RR KM (d + 0) 2419 0 [(0, .ref 500)] [] S (some (.int r)) S' := by
  unfold m_isKept at h
  refine RR.runs (pc' := icm .eq (rI S 500 6) (1 : Int32) 10 8) (lc' := [(0, .ref 500)]) (st' := []) (S1 := S) (nL := 1) (cd := cd_2419) mx_2419 rfl rfl 4 rfl ?_
  rcases ifE h with ⟨c, h⟩ | ⟨c, h⟩
  · refine RR.c_eq (fun _ => ?_) (fun q => absurd c q)
    refine RR.runs (pc' := icm .eq ((lg_cmp (rJ S 500 7) (858362 : Int64))) 0 274 21) (lc' := [(0, .ref 500)]) (st' := []) (S1 := S) (nL := 1) (cd := cd_2419) mx_2419 rfl rfl 5 rfl ?_
    rcases ifE h with ⟨c, h⟩ | ⟨c, h⟩
    · refine RR.c_eq (fun _ => ?_) (fun q => absurd c q)
      refine RR.weak [] trivial ?_
      exact s_m_isKept_274 _ h
    · refine RR.c_eq (fun q => absurd q c) (fun _ => ?_)
      refine RR.runs (pc' := icm .eq ((lg_cmp (rJ S 500 7) (47 : Int64))) 0 274 32) (lc' := [(0, .ref 500)]) (st' := []) (S1 := S) (nL := 1) (cd := cd_2419) mx_2419 rfl rfl 5 rfl ?_
      rcases ifE h with ⟨c, h⟩ | ⟨c, h⟩
      · refine RR.c_eq (fun _ => ?_) (fun q => absurd c q)
        refine RR.weak [] trivial ?_
        exact s_m_isKept_274 _ h
      · refine RR.c_eq (fun q => absurd q c) (fun _ => ?_)
        refine RR.runs (pc' := icm .eq ((lg_cmp (rJ S 500 7) (361292 : Int64))) 0 274 43) (lc' := [(0, .ref 500)]) (st' := []) (S1 := S) (nL := 1) (cd := cd_2419) mx_2419 rfl rfl 5 rfl ?_
        rcases ifE h with ⟨c, h⟩ | ⟨c, h⟩
        · refine RR.c_eq (fun _ => ?_) (fun q => absurd c q)
          refine RR.weak [] trivial ?_
          exact s_m_isKept_274 _ h
        · refine RR.c_eq (fun q => absurd q c) (fun _ => ?_)
          refine RR.runs (pc' := icm .eq ((lg_cmp (rJ S 500 7) (12532058 : Int64))) 0 274 54) (lc' := [(0, .ref 500)]) (st' := []) (S1 := S) (nL := 1) (cd := cd_2419) mx_2419 rfl rfl 5 rfl ?_
          rcases ifE h with ⟨c, h⟩ | ⟨c, h⟩
          · refine RR.c_eq (fun _ => ?_) (fun q => absurd c q)
            refine RR.weak [] trivial ?_
            exact s_m_isKept_274 _ h
          · refine RR.c_eq (fun q => absurd q c) (fun _ => ?_)
            refine RR.runs (pc' := icm .eq ((lg_cmp (rJ S 500 7) (410684 : Int64))) 0 274 65) (lc' := [(0, .ref 500)]) (st' := []) (S1 := S) (nL := 1) (cd := cd_2419) mx_2419 rfl rfl 5 rfl ?_
            rcases ifE h with ⟨c, h⟩ | ⟨c, h⟩
            · refine RR.c_eq (fun _ => ?_) (fun q => absurd c q)
              refine RR.weak [] trivial ?_
              exact s_m_isKept_274 _ h
            · refine RR.c_eq (fun q => absurd q c) (fun _ => ?_)
              refine RR.runs (pc' := icm .eq ((lg_cmp (rJ S 500 7) (8371260 : Int64))) 0 274 76) (lc' := [(0, .ref 500)]) (st' := []) (S1 := S) (nL := 1) (cd := cd_2419) mx_2419 rfl rfl 5 rfl ?_
              rcases ifE h with ⟨c, h⟩ | ⟨c, h⟩
              · refine RR.c_eq (fun _ => ?_) (fun q => absurd c q)
                refine RR.weak [] trivial ?_
                exact s_m_isKept_274 _ h
              · refine RR.c_eq (fun q => absurd q c) (fun _ => ?_)
                refine RR.runs (pc' := icm .eq ((lg_cmp (rJ S 500 7) (232608281 : Int64))) 0 274 87) (lc' := [(0, .ref 500)]) (st' := []) (S1 := S) (nL := 1) (cd := cd_2419) mx_2419 rfl rfl 5 rfl ?_
                rcases ifE h with ⟨c, h⟩ | ⟨c, h⟩
                · refine RR.c_eq (fun _ => ?_) (fun q => absurd c q)
                  refine RR.weak [] trivial ?_
                  exact s_m_isKept_274 _ h
                · refine RR.c_eq (fun q => absurd q c) (fun _ => ?_)
                  refine RR.runs (pc' := icm .eq ((lg_cmp (rJ S 500 7) (237308 : Int64))) 0 274 98) (lc' := [(0, .ref 500)]) (st' := []) (S1 := S) (nL := 1) (cd := cd_2419) mx_2419 rfl rfl 5 rfl ?_
                  rcases ifE h with ⟨c, h⟩ | ⟨c, h⟩
                  · refine RR.c_eq (fun _ => ?_) (fun q => absurd c q)
                    refine RR.weak [] trivial ?_
                    exact s_m_isKept_274 _ h
                  · refine RR.c_eq (fun q => absurd q c) (fun _ => ?_)
                    refine RR.runs (pc' := icm .eq ((lg_cmp (rJ S 500 7) (247702 : Int64))) 0 274 109) (lc' := [(0, .ref 500)]) (st' := []) (S1 := S) (nL := 1) (cd := cd_2419) mx_2419 rfl rfl 5 rfl ?_
                    rcases ifE h with ⟨c, h⟩ | ⟨c, h⟩
                    · refine RR.c_eq (fun _ => ?_) (fun q => absurd c q)
                      refine RR.weak [] trivial ?_
                      exact s_m_isKept_274 _ h
                    · refine RR.c_eq (fun q => absurd q c) (fun _ => ?_)
                      refine RR.runs (pc' := icm .eq ((lg_cmp (rJ S 500 7) (206754213222 : Int64))) 0 274 120) (lc' := [(0, .ref 500)]) (st' := []) (S1 := S) (nL := 1) (cd := cd_2419) mx_2419 rfl rfl 5 rfl ?_
                      rcases ifE h with ⟨c, h⟩ | ⟨c, h⟩
                      · refine RR.c_eq (fun _ => ?_) (fun q => absurd c q)
                        refine RR.weak [] trivial ?_
                        exact s_m_isKept_274 _ h
                      · refine RR.c_eq (fun q => absurd q c) (fun _ => ?_)
                        refine RR.runs (pc' := icm .eq ((lg_cmp (rJ S 500 7) (315851 : Int64))) 0 274 131) (lc' := [(0, .ref 500)]) (st' := []) (S1 := S) (nL := 1) (cd := cd_2419) mx_2419 rfl rfl 5 rfl ?_
                        rcases ifE h with ⟨c, h⟩ | ⟨c, h⟩
                        · refine RR.c_eq (fun _ => ?_) (fun q => absurd c q)
                          refine RR.weak [] trivial ?_
                          exact s_m_isKept_274 _ h
                        · refine RR.c_eq (fun q => absurd q c) (fun _ => ?_)
                          refine RR.runs (pc' := icm .eq ((lg_cmp (rJ S 500 7) (40487 : Int64))) 0 274 142) (lc' := [(0, .ref 500)]) (st' := []) (S1 := S) (nL := 1) (cd := cd_2419) mx_2419 rfl rfl 5 rfl ?_
                          rcases ifE h with ⟨c, h⟩ | ⟨c, h⟩
                          · refine RR.c_eq (fun _ => ?_) (fun q => absurd c q)
                            refine RR.weak [] trivial ?_
                            exact s_m_isKept_274 _ h
                          · refine RR.c_eq (fun q => absurd q c) (fun _ => ?_)
                            refine RR.runs (pc' := icm .eq ((lg_cmp (rJ S 500 7) (279252 : Int64))) 0 274 153) (lc' := [(0, .ref 500)]) (st' := []) (S1 := S) (nL := 1) (cd := cd_2419) mx_2419 rfl rfl 5 rfl ?_
                            rcases ifE h with ⟨c, h⟩ | ⟨c, h⟩
                            · refine RR.c_eq (fun _ => ?_) (fun q => absurd c q)
                              refine RR.weak [] trivial ?_
                              exact s_m_isKept_274 _ h
                            · refine RR.c_eq (fun q => absurd q c) (fun _ => ?_)
                              refine RR.runs (pc' := icm .eq ((lg_cmp (rJ S 500 7) (11720705 : Int64))) 0 274 164) (lc' := [(0, .ref 500)]) (st' := []) (S1 := S) (nL := 1) (cd := cd_2419) mx_2419 rfl rfl 5 rfl ?_
                              rcases ifE h with ⟨c, h⟩ | ⟨c, h⟩
                              · refine RR.c_eq (fun _ => ?_) (fun q => absurd c q)
                                refine RR.weak [] trivial ?_
                                exact s_m_isKept_274 _ h
                              · refine RR.c_eq (fun q => absurd q c) (fun _ => ?_)
                                refine RR.runs (pc' := icm .eq ((lg_cmp (rJ S 500 7) (60114 : Int64))) 0 274 175) (lc' := [(0, .ref 500)]) (st' := []) (S1 := S) (nL := 1) (cd := cd_2419) mx_2419 rfl rfl 5 rfl ?_
                                rcases ifE h with ⟨c, h⟩ | ⟨c, h⟩
                                · refine RR.c_eq (fun _ => ?_) (fun q => absurd c q)
                                  refine RR.weak [] trivial ?_
                                  exact s_m_isKept_274 _ h
                                · refine RR.c_eq (fun q => absurd q c) (fun _ => ?_)
                                  refine RR.runs (pc' := icm .eq ((lg_cmp (rJ S 500 7) (321581 : Int64))) 0 274 186) (lc' := [(0, .ref 500)]) (st' := []) (S1 := S) (nL := 1) (cd := cd_2419) mx_2419 rfl rfl 5 rfl ?_
                                  rcases ifE h with ⟨c, h⟩ | ⟨c, h⟩
                                  · refine RR.c_eq (fun _ => ?_) (fun q => absurd c q)
                                    refine RR.weak [] trivial ?_
                                    exact s_m_isKept_274 _ h
                                  · refine RR.c_eq (fun q => absurd q c) (fun _ => ?_)
                                    refine RR.runs (pc' := icm .eq ((lg_cmp (rJ S 500 7) (2968 : Int64))) 0 274 197) (lc' := [(0, .ref 500)]) (st' := []) (S1 := S) (nL := 1) (cd := cd_2419) mx_2419 rfl rfl 5 rfl ?_
                                    rcases ifE h with ⟨c, h⟩ | ⟨c, h⟩
                                    · refine RR.c_eq (fun _ => ?_) (fun q => absurd c q)
                                      refine RR.weak [] trivial ?_
                                      exact s_m_isKept_274 _ h
                                    · refine RR.c_eq (fun q => absurd q c) (fun _ => ?_)
                                      refine RR.runs (pc' := icm .eq ((lg_cmp (rJ S 500 7) (8740238 : Int64))) 0 274 208) (lc' := [(0, .ref 500)]) (st' := []) (S1 := S) (nL := 1) (cd := cd_2419) mx_2419 rfl rfl 5 rfl ?_
                                      rcases ifE h with ⟨c, h⟩ | ⟨c, h⟩
                                      · refine RR.c_eq (fun _ => ?_) (fun q => absurd c q)
                                        refine RR.weak [] trivial ?_
                                        exact s_m_isKept_274 _ h
                                      · refine RR.c_eq (fun q => absurd q c) (fun _ => ?_)
                                        refine RR.runs (pc' := icm .eq ((lg_cmp (rJ S 500 7) (774244 : Int64))) 0 274 219) (lc' := [(0, .ref 500)]) (st' := []) (S1 := S) (nL := 1) (cd := cd_2419) mx_2419 rfl rfl 5 rfl ?_
                                        rcases ifE h with ⟨c, h⟩ | ⟨c, h⟩
                                        · refine RR.c_eq (fun _ => ?_) (fun q => absurd c q)
                                          refine RR.weak [] trivial ?_
                                          exact s_m_isKept_274 _ h
                                        · refine RR.c_eq (fun q => absurd q c) (fun _ => ?_)
                                          refine RR.runs (pc' := icm .eq ((lg_cmp (rJ S 500 7) (12330827 : Int64))) 0 274 230) (lc' := [(0, .ref 500)]) (st' := []) (S1 := S) (nL := 1) (cd := cd_2419) mx_2419 rfl rfl 5 rfl ?_
                                          rcases ifE h with ⟨c, h⟩ | ⟨c, h⟩
                                          · refine RR.c_eq (fun _ => ?_) (fun q => absurd c q)
                                            refine RR.weak [] trivial ?_
                                            exact s_m_isKept_274 _ h
                                          · refine RR.c_eq (fun q => absurd q c) (fun _ => ?_)
                                            refine RR.runs (pc' := icm .eq ((lg_cmp (rJ S 500 7) (82410 : Int64))) 0 274 241) (lc' := [(0, .ref 500)]) (st' := []) (S1 := S) (nL := 1) (cd := cd_2419) mx_2419 rfl rfl 5 rfl ?_
                                            rcases ifE h with ⟨c, h⟩ | ⟨c, h⟩
                                            · refine RR.c_eq (fun _ => ?_) (fun q => absurd c q)
                                              refine RR.weak [] trivial ?_
                                              exact s_m_isKept_274 _ h
                                            · refine RR.c_eq (fun q => absurd q c) (fun _ => ?_)
                                              refine RR.runs (pc' := icm .eq ((lg_cmp (rJ S 500 7) (10631 : Int64))) 0 274 252) (lc' := [(0, .ref 500)]) (st' := []) (S1 := S) (nL := 1) (cd := cd_2419) mx_2419 rfl rfl 5 rfl ?_
                                              rcases ifE h with ⟨c, h⟩ | ⟨c, h⟩
                                              · refine RR.c_eq (fun _ => ?_) (fun q => absurd c q)
                                                refine RR.weak [] trivial ?_
                                                exact s_m_isKept_274 _ h
                                              · refine RR.c_eq (fun q => absurd q c) (fun _ => ?_)
                                                refine RR.runs (pc' := icm .eq ((lg_cmp (rJ S 500 7) (1111 : Int64))) 0 274 263) (lc' := [(0, .ref 500)]) (st' := []) (S1 := S) (nL := 1) (cd := cd_2419) mx_2419 rfl rfl 5 rfl ?_
                                                rcases ifE h with ⟨c, h⟩ | ⟨c, h⟩
                                                · refine RR.c_eq (fun _ => ?_) (fun q => absurd c q)
                                                  refine RR.weak [] trivial ?_
                                                  exact s_m_isKept_274 _ h
                                                · refine RR.c_eq (fun q => absurd q c) (fun _ => ?_)
                                                  refine RR.runs (pc' := icm .ne ((lg_cmp (rJ S 500 7) (423 : Int64))) 0 278 274) (lc' := [(0, .ref 500)]) (st' := []) (S1 := S) (nL := 1) (cd := cd_2419) mx_2419 rfl rfl 5 rfl ?_
                                                  rcases ifE h with ⟨c, h⟩ | ⟨c, h⟩
                                                  · refine RR.c_ne (fun _ => ?_) (fun q => absurd c q)
                                                    refine RR.weak [] trivial ?_
                                                    exact s_m_isKept_274 _ h
                                                  · refine RR.c_ne (fun q => absurd q c) (fun _ => ?_)
                                                    refine RR.runs (pc' := 279) (lc' := [(0, .ref 500)]) (st' := [.int (0 : Int32)]) (S1 := S) (nL := 1) (cd := cd_2419) mx_2419 rfl rfl 1 rfl ?_
                                                    refine RR.weak [] trivial ?_
                                                    exact s_m_isKept_279 _ _ h
  · refine RR.c_eq (fun q => absurd q c) (fun _ => ?_)
    refine RR.runs (pc' := 9) (lc' := [(0, .ref 500)]) (st' := [.int (1 : Int32)]) (S1 := S) (nL := 1) (cd := cd_2419) mx_2419 rfl rfl 1 rfl ?_
    cases h
    exact RR.retz mx_2419 rfl rfl rfl rfl
theorem s_m_isKept {d : Nat} {S' : St} {r : Int32} (S : St) (h : m_isKept S = some (r, S')) : RC KM (d + 0) 2419 [.ref 500] S (some (.int r)) S' := RC.of rfl (s0_m_isKept S h)
-- soundNamed (I)I
def m_soundNamed_36 (v2 : Int32) (S : St) : Re Int32 :=
  some (v2, S)
set_option maxRecDepth 100000 in
theorem s_m_soundNamed_36 {d : Nat} {S' : St} {r : Int32} (v2 : Int32) (S : St) (h : m_soundNamed_36 v2 S = some (r, S')) : RR KM (d + 0) 2420 36 [(2, .int v2)] [] S (some (.int r)) S' := by
  unfold m_soundNamed_36 at h
  refine RR.runs (pc' := 37) (lc' := [(2, .int v2)]) (st' := [.int v2]) (S1 := S) (nL := 3) (cd := cd_2420) mx_2420 rfl rfl 1 rfl ?_
  cases h
  exact RR.reti mx_2420 rfl rfl rfl
def m_soundNamed_44 (S : St) : Re Int32 :=
  some ((-1 : Int32), S)
set_option maxRecDepth 100000 in
theorem s_m_soundNamed_44 {d : Nat} {S' : St} {r : Int32} (S : St) (h : m_soundNamed_44 S = some (r, S')) : RR KM (d + 0) 2420 44 [] [] S (some (.int r)) S' := by
  unfold m_soundNamed_44 at h
  refine RR.runs (pc' := 45) (lc' := []) (st' := [.int (-1 : Int32)]) (S1 := S) (nL := 3) (cd := cd_2420) mx_2420 rfl rfl 1 rfl ?_
  cases h
  exact RR.reti mx_2420 rfl rfl rfl
def m_soundNamed_2 : Nat → Int32 → Int32 → St → Re Int32
  | 0, _, _, _ => none
  | n + 1, v1, v2, S =>
  if (((6 : Int32) * v1) + (1 : Int32)) < 0 ∨ 12 ≤ ((((6 : Int32) * v1) + (1 : Int32))).toNatClampNeg then none else
  if v2 < (rI S 502 ((((6 : Int32) * v1) + (1 : Int32))).toNatClampNeg) then (
    if (((16 : Int32) * v1) + v2) < 0 ∨ 32 ≤ ((((16 : Int32) * v1) + v2)).toNatClampNeg then none else
    if (lg_cmp ((rJ S 503 ((((16 : Int32) * v1) + v2)).toNatClampNeg)) (rJ S 500 7)) = 0 then (
      m_soundNamed_36 v2 S)
    else (
      lt' ((v2 + (1 : Int32)) : Int32) fun x1 =>
      m_soundNamed_2 n v1 x1 S))
  else (
    m_soundNamed_44 S)
set_option maxRecDepth 100000 in
theorem s_m_soundNamed_2 {d : Nat} {S' : St} {r : Int32} : ∀ (n : Nat) (v1 : Int32) (v2 : Int32) (S : St), m_soundNamed_2 n v1 v2 S = some (r, S') → RR KM (d + 0) 2420 2 [(0, .ref 500), (1, .int v1), (2, .int v2)] [] S (some (.int r)) S' := by
  intro n
  induction n with
  | zero => intro v1 v2 S h; simp only [m_soundNamed_2] at h; cases h
  | succ n ih =>
    intro v1 v2 S h
    simp only [m_soundNamed_2] at h
    refine RR.runs (pc' := 13) (lc' := [(0, .ref 500), (1, .int v1), (2, .int v2)]) (st' := [.int ((((6 : Int32) * v1) + (1 : Int32))), .ref 502, .int v2]) (S1 := S) (nL := 3) (cd := cd_2420) mx_2420 rfl rfl 8 rfl ?_
    obtain ⟨g, h⟩ := gnE h
    refine RR.gPN (c2 := (KM.1 502).1 = 1) (pc' := 14) (lc' := [(0, .ref 500), (1, .int v1), (2, .int v2)]) (st' := [.int ((rI S 502 ((((6 : Int32) * v1) + (1 : Int32))).toNatClampNeg)), .int v2]) (S1 := S) (nL := 3) (cd := cd_2420) mx_2420 rfl rfl rfl rfl g ?_
    refine RR.runs (pc' := icm .ge v2 ((rI S 502 ((((6 : Int32) * v1) + (1 : Int32))).toNatClampNeg)) 44 17) (lc' := [(0, .ref 500), (1, .int v1), (2, .int v2)]) (st' := []) (S1 := S) (nL := 3) (cd := cd_2420) mx_2420 rfl rfl 1 rfl ?_
    rcases ifE h with ⟨c, h⟩ | ⟨c, h⟩
    · refine RR.c_ge (fun _ => ?_) (fun q => absurd c q)
      refine RR.runs (pc' := 27) (lc' := [(0, .ref 500), (1, .int v1), (2, .int v2)]) (st' := [.int ((((16 : Int32) * v1) + v2)), .ref 503]) (S1 := S) (nL := 3) (cd := cd_2420) mx_2420 rfl rfl 7 rfl ?_
      obtain ⟨g, h⟩ := gnE h
      refine RR.gPN (c2 := (KM.1 503).1 = 4) (pc' := 28) (lc' := [(0, .ref 500), (1, .int v1), (2, .int v2)]) (st' := [.long ((rJ S 503 ((((16 : Int32) * v1) + v2)).toNatClampNeg))]) (S1 := S) (nL := 3) (cd := cd_2420) mx_2420 rfl rfl rfl rfl g ?_
      refine RR.runs (pc' := icm .ne ((lg_cmp ((rJ S 503 ((((16 : Int32) * v1) + v2)).toNatClampNeg)) (rJ S 500 7))) 0 38 36) (lc' := [(0, .ref 500), (1, .int v1), (2, .int v2)]) (st' := []) (S1 := S) (nL := 3) (cd := cd_2420) mx_2420 rfl rfl 4 rfl ?_
      rcases ifE h with ⟨c, h⟩ | ⟨c, h⟩
      · refine RR.c_ne (fun _ => ?_) (fun q => absurd c q)
        refine RR.weak [(2, .int v2)] ⟨rfl, trivial⟩ ?_
        exact s_m_soundNamed_36 _ _ h
      · refine RR.c_ne (fun q => absurd q c) (fun _ => ?_)
        refine RR.runs (pc' := 41) (lc' := [(2, .int ((v2 + (1 : Int32)))), (0, .ref 500), (1, .int v1)]) (st' := []) (S1 := S) (nL := 3) (cd := cd_2420) mx_2420 rfl rfl 1 rfl ?_
        obtain ⟨x1, ex1, h⟩ := ltE h
        rw [← ex1]
        refine RR.runs (pc' := 2) (lc' := [(2, .int x1), (0, .ref 500), (1, .int v1)]) (st' := []) (S1 := S) (nL := 3) (cd := cd_2420) mx_2420 rfl rfl 1 rfl ?_
        refine RR.weak [(0, .ref 500), (1, .int v1), (2, .int x1)] ⟨rfl, rfl, rfl, trivial⟩ ?_
        exact ih _ _ _ h
    · refine RR.c_ge (fun q => absurd q c) (fun _ => ?_)
      refine RR.weak [] trivial ?_
      exact s_m_soundNamed_44 _ h
def m_soundNamed (v1 : Int32) (S : St) : Re Int32 :=
  m_soundNamed_2 FU v1 (0 : Int32) S
set_option maxRecDepth 100000 in
theorem s0_m_soundNamed {d : Nat} {S' : St} {r : Int32} (v1 : Int32) (S : St) (h : m_soundNamed v1 S = some (r, S')) : RR KM (d + 0) 2420 0 [(0, .ref 500), (1, .int v1)] [] S (some (.int r)) S' := by
  unfold m_soundNamed at h
  refine RR.runs (pc' := 2) (lc' := [(2, .int (0 : Int32)), (0, .ref 500), (1, .int v1)]) (st' := []) (S1 := S) (nL := 3) (cd := cd_2420) mx_2420 rfl rfl 2 rfl ?_
  refine RR.weak [(0, .ref 500), (1, .int v1), (2, .int (0 : Int32))] ⟨rfl, rfl, rfl, trivial⟩ ?_
  exact s_m_soundNamed_2 _ _ _ _ h
theorem s_m_soundNamed {d : Nat} {S' : St} {r : Int32} (v1 : Int32) (S : St) (h : m_soundNamed v1 S = some (r, S')) : RC KM (d + 0) 2420 [.ref 500, .int v1] S (some (.int r)) S' := RC.of rfl (s0_m_soundNamed v1 S h)
-- personNamed (I)I
def m_personNamed_35 (v2 : Int32) (S : St) : Re Int32 :=
  some (v2, S)
set_option maxRecDepth 100000 in
theorem s_m_personNamed_35 {d : Nat} {S' : St} {r : Int32} (v2 : Int32) (S : St) (h : m_personNamed_35 v2 S = some (r, S')) : RR KM (d + 0) 2421 35 [(2, .int v2)] [] S (some (.int r)) S' := by
  unfold m_personNamed_35 at h
  refine RR.runs (pc' := 36) (lc' := [(2, .int v2)]) (st' := [.int v2]) (S1 := S) (nL := 3) (cd := cd_2421) mx_2421 rfl rfl 1 rfl ?_
  cases h
  exact RR.reti mx_2421 rfl rfl rfl
def m_personNamed_43 (S : St) : Re Int32 :=
  some ((-1 : Int32), S)
set_option maxRecDepth 100000 in
theorem s_m_personNamed_43 {d : Nat} {S' : St} {r : Int32} (S : St) (h : m_personNamed_43 S = some (r, S')) : RR KM (d + 0) 2421 43 [] [] S (some (.int r)) S' := by
  unfold m_personNamed_43 at h
  refine RR.runs (pc' := 44) (lc' := []) (st' := [.int (-1 : Int32)]) (S1 := S) (nL := 3) (cd := cd_2421) mx_2421 rfl rfl 1 rfl ?_
  cases h
  exact RR.reti mx_2421 rfl rfl rfl
def m_personNamed_2 : Nat → Int32 → Int32 → St → Re Int32
  | 0, _, _, _ => none
  | n + 1, v1, v2, S =>
  if (((6 : Int32) * v1) + (2 : Int32)) < 0 ∨ 12 ≤ ((((6 : Int32) * v1) + (2 : Int32))).toNatClampNeg then none else
  if v2 < (rI S 502 ((((6 : Int32) * v1) + (2 : Int32))).toNatClampNeg) then (
    if (((5 : Int32) * v1) + v2) < 0 ∨ 10 ≤ ((((5 : Int32) * v1) + v2)).toNatClampNeg then none else
    if (lg_cmp ((rJ S 504 ((((5 : Int32) * v1) + v2)).toNatClampNeg)) (rJ S 500 7)) = 0 then (
      m_personNamed_35 v2 S)
    else (
      lt' ((v2 + (1 : Int32)) : Int32) fun x1 =>
      m_personNamed_2 n v1 x1 S))
  else (
    m_personNamed_43 S)
set_option maxRecDepth 100000 in
theorem s_m_personNamed_2 {d : Nat} {S' : St} {r : Int32} : ∀ (n : Nat) (v1 : Int32) (v2 : Int32) (S : St), m_personNamed_2 n v1 v2 S = some (r, S') → RR KM (d + 0) 2421 2 [(0, .ref 500), (1, .int v1), (2, .int v2)] [] S (some (.int r)) S' := by
  intro n
  induction n with
  | zero => intro v1 v2 S h; simp only [m_personNamed_2] at h; cases h
  | succ n ih =>
    intro v1 v2 S h
    simp only [m_personNamed_2] at h
    refine RR.runs (pc' := 13) (lc' := [(0, .ref 500), (1, .int v1), (2, .int v2)]) (st' := [.int ((((6 : Int32) * v1) + (2 : Int32))), .ref 502, .int v2]) (S1 := S) (nL := 3) (cd := cd_2421) mx_2421 rfl rfl 8 rfl ?_
    obtain ⟨g, h⟩ := gnE h
    refine RR.gPN (c2 := (KM.1 502).1 = 1) (pc' := 14) (lc' := [(0, .ref 500), (1, .int v1), (2, .int v2)]) (st' := [.int ((rI S 502 ((((6 : Int32) * v1) + (2 : Int32))).toNatClampNeg)), .int v2]) (S1 := S) (nL := 3) (cd := cd_2421) mx_2421 rfl rfl rfl rfl g ?_
    refine RR.runs (pc' := icm .ge v2 ((rI S 502 ((((6 : Int32) * v1) + (2 : Int32))).toNatClampNeg)) 43 17) (lc' := [(0, .ref 500), (1, .int v1), (2, .int v2)]) (st' := []) (S1 := S) (nL := 3) (cd := cd_2421) mx_2421 rfl rfl 1 rfl ?_
    rcases ifE h with ⟨c, h⟩ | ⟨c, h⟩
    · refine RR.c_ge (fun _ => ?_) (fun q => absurd c q)
      refine RR.runs (pc' := 26) (lc' := [(0, .ref 500), (1, .int v1), (2, .int v2)]) (st' := [.int ((((5 : Int32) * v1) + v2)), .ref 504]) (S1 := S) (nL := 3) (cd := cd_2421) mx_2421 rfl rfl 7 rfl ?_
      obtain ⟨g, h⟩ := gnE h
      refine RR.gPN (c2 := (KM.1 504).1 = 4) (pc' := 27) (lc' := [(0, .ref 500), (1, .int v1), (2, .int v2)]) (st' := [.long ((rJ S 504 ((((5 : Int32) * v1) + v2)).toNatClampNeg))]) (S1 := S) (nL := 3) (cd := cd_2421) mx_2421 rfl rfl rfl rfl g ?_
      refine RR.runs (pc' := icm .ne ((lg_cmp ((rJ S 504 ((((5 : Int32) * v1) + v2)).toNatClampNeg)) (rJ S 500 7))) 0 37 35) (lc' := [(0, .ref 500), (1, .int v1), (2, .int v2)]) (st' := []) (S1 := S) (nL := 3) (cd := cd_2421) mx_2421 rfl rfl 4 rfl ?_
      rcases ifE h with ⟨c, h⟩ | ⟨c, h⟩
      · refine RR.c_ne (fun _ => ?_) (fun q => absurd c q)
        refine RR.weak [(2, .int v2)] ⟨rfl, trivial⟩ ?_
        exact s_m_personNamed_35 _ _ h
      · refine RR.c_ne (fun q => absurd q c) (fun _ => ?_)
        refine RR.runs (pc' := 40) (lc' := [(2, .int ((v2 + (1 : Int32)))), (0, .ref 500), (1, .int v1)]) (st' := []) (S1 := S) (nL := 3) (cd := cd_2421) mx_2421 rfl rfl 1 rfl ?_
        obtain ⟨x1, ex1, h⟩ := ltE h
        rw [← ex1]
        refine RR.runs (pc' := 2) (lc' := [(2, .int x1), (0, .ref 500), (1, .int v1)]) (st' := []) (S1 := S) (nL := 3) (cd := cd_2421) mx_2421 rfl rfl 1 rfl ?_
        refine RR.weak [(0, .ref 500), (1, .int v1), (2, .int x1)] ⟨rfl, rfl, rfl, trivial⟩ ?_
        exact ih _ _ _ h
    · refine RR.c_ge (fun q => absurd q c) (fun _ => ?_)
      refine RR.weak [] trivial ?_
      exact s_m_personNamed_43 _ h
def m_personNamed (v1 : Int32) (S : St) : Re Int32 :=
  m_personNamed_2 FU v1 (0 : Int32) S
set_option maxRecDepth 100000 in
theorem s0_m_personNamed {d : Nat} {S' : St} {r : Int32} (v1 : Int32) (S : St) (h : m_personNamed v1 S = some (r, S')) : RR KM (d + 0) 2421 0 [(0, .ref 500), (1, .int v1)] [] S (some (.int r)) S' := by
  unfold m_personNamed at h
  refine RR.runs (pc' := 2) (lc' := [(2, .int (0 : Int32)), (0, .ref 500), (1, .int v1)]) (st' := []) (S1 := S) (nL := 3) (cd := cd_2421) mx_2421 rfl rfl 2 rfl ?_
  refine RR.weak [(0, .ref 500), (1, .int v1), (2, .int (0 : Int32))] ⟨rfl, rfl, rfl, trivial⟩ ?_
  exact s_m_personNamed_2 _ _ _ _ h
theorem s_m_personNamed {d : Nat} {S' : St} {r : Int32} (v1 : Int32) (S : St) (h : m_personNamed v1 S = some (r, S')) : RC KM (d + 0) 2421 [.ref 500, .int v1] S (some (.int r)) S' := RC.of rfl (s0_m_personNamed v1 S h)
-- appleNamed (I)I
def m_appleNamed_50 (S : St) : Re Int32 :=
  some ((-1 : Int32), S)
set_option maxRecDepth 100000 in
theorem s_m_appleNamed_50 {d : Nat} {S' : St} {r : Int32} (S : St) (h : m_appleNamed_50 S = some (r, S')) : RR KM (d + 1) 2422 50 [] [] S (some (.int r)) S' := by
  unfold m_appleNamed_50 at h
  refine RR.runs (pc' := 51) (lc' := []) (st' := [.int (-1 : Int32)]) (S1 := S) (nL := 4) (cd := cd_2422) mx_2422 rfl rfl 1 rfl ?_
  cases h
  exact RR.reti mx_2422 rfl rfl rfl
def m_appleNamed_42 (v3 : Int32) (S : St) : Re Int32 :=
  some (v3, S)
set_option maxRecDepth 100000 in
theorem s_m_appleNamed_42 {d : Nat} {S' : St} {r : Int32} (v3 : Int32) (S : St) (h : m_appleNamed_42 v3 S = some (r, S')) : RR KM (d + 1) 2422 42 [(3, .int v3)] [] S (some (.int r)) S' := by
  unfold m_appleNamed_42 at h
  refine RR.runs (pc' := 43) (lc' := [(3, .int v3)]) (st' := [.int v3]) (S1 := S) (nL := 4) (cd := cd_2422) mx_2422 rfl rfl 1 rfl ?_
  cases h
  exact RR.reti mx_2422 rfl rfl rfl
def m_appleNamed_8 : Nat → Int32 → Int32 → Int32 → St → Re Int32
  | 0, _, _, _, _ => none
  | n + 1, v1, v2, v3, S =>
  if (((6 : Int32) * v1) + (0 : Int32)) < 0 ∨ 12 ≤ ((((6 : Int32) * v1) + (0 : Int32))).toNatClampNeg then none else
  if v3 < (rI S 502 ((((6 : Int32) * v1) + (0 : Int32))).toNatClampNeg) then (
    if v2 < 0 then (
      m_appleNamed_50 S)
    else (
      if (((10 : Int32) * v1) + v3) < 0 ∨ 20 ≤ ((((10 : Int32) * v1) + v3)).toNatClampNeg then none else
      if (rI S 505 ((((10 : Int32) * v1) + v3)).toNatClampNeg) = v2 then (
        m_appleNamed_42 v3 S)
      else (
        lt' ((v3 + (1 : Int32)) : Int32) fun x1 =>
        m_appleNamed_8 n v1 v2 x1 S)))
  else (
    m_appleNamed_50 S)
set_option maxRecDepth 100000 in
theorem s_m_appleNamed_8 {d : Nat} {S' : St} {r : Int32} : ∀ (n : Nat) (v1 : Int32) (v2 : Int32) (v3 : Int32) (S : St), m_appleNamed_8 n v1 v2 v3 S = some (r, S') → RR KM (d + 1) 2422 8 [(0, .ref 500), (1, .int v1), (2, .int v2), (3, .int v3)] [] S (some (.int r)) S' := by
  intro n
  induction n with
  | zero => intro v1 v2 v3 S h; simp only [m_appleNamed_8] at h; cases h
  | succ n ih =>
    intro v1 v2 v3 S h
    simp only [m_appleNamed_8] at h
    refine RR.runs (pc' := 19) (lc' := [(0, .ref 500), (1, .int v1), (2, .int v2), (3, .int v3)]) (st' := [.int ((((6 : Int32) * v1) + (0 : Int32))), .ref 502, .int v3]) (S1 := S) (nL := 4) (cd := cd_2422) mx_2422 rfl rfl 8 rfl ?_
    obtain ⟨g, h⟩ := gnE h
    refine RR.gPN (c2 := (KM.1 502).1 = 1) (pc' := 20) (lc' := [(0, .ref 500), (1, .int v1), (2, .int v2), (3, .int v3)]) (st' := [.int ((rI S 502 ((((6 : Int32) * v1) + (0 : Int32))).toNatClampNeg)), .int v3]) (S1 := S) (nL := 4) (cd := cd_2422) mx_2422 rfl rfl rfl rfl g ?_
    refine RR.runs (pc' := icm .ge v3 ((rI S 502 ((((6 : Int32) * v1) + (0 : Int32))).toNatClampNeg)) 50 23) (lc' := [(0, .ref 500), (1, .int v1), (2, .int v2), (3, .int v3)]) (st' := []) (S1 := S) (nL := 4) (cd := cd_2422) mx_2422 rfl rfl 1 rfl ?_
    rcases ifE h with ⟨c, h⟩ | ⟨c, h⟩
    · refine RR.c_ge (fun _ => ?_) (fun q => absurd c q)
      refine RR.runs (pc' := icm .lt v2 0 50 27) (lc' := [(0, .ref 500), (1, .int v1), (2, .int v2), (3, .int v3)]) (st' := []) (S1 := S) (nL := 4) (cd := cd_2422) mx_2422 rfl rfl 2 rfl ?_
      rcases ifE h with ⟨c, h⟩ | ⟨c, h⟩
      · refine RR.c_lt (fun _ => ?_) (fun q => absurd c q)
        refine RR.weak [] trivial ?_
        exact s_m_appleNamed_50 _ h
      · refine RR.c_lt (fun q => absurd q c) (fun _ => ?_)
        refine RR.runs (pc' := 37) (lc' := [(0, .ref 500), (1, .int v1), (2, .int v2), (3, .int v3)]) (st' := [.int ((((10 : Int32) * v1) + v3)), .ref 505]) (S1 := S) (nL := 4) (cd := cd_2422) mx_2422 rfl rfl 7 rfl ?_
        obtain ⟨g, h⟩ := gnE h
        refine RR.gPN (c2 := (KM.1 505).1 = 1) (pc' := 38) (lc' := [(0, .ref 500), (1, .int v1), (2, .int v2), (3, .int v3)]) (st' := [.int ((rI S 505 ((((10 : Int32) * v1) + v3)).toNatClampNeg))]) (S1 := S) (nL := 4) (cd := cd_2422) mx_2422 rfl rfl rfl rfl g ?_
        refine RR.runs (pc' := icm .ne ((rI S 505 ((((10 : Int32) * v1) + v3)).toNatClampNeg)) v2 44 42) (lc' := [(0, .ref 500), (1, .int v1), (2, .int v2), (3, .int v3)]) (st' := []) (S1 := S) (nL := 4) (cd := cd_2422) mx_2422 rfl rfl 2 rfl ?_
        rcases ifE h with ⟨c, h⟩ | ⟨c, h⟩
        · refine RR.c_ne (fun _ => ?_) (fun q => absurd c q)
          refine RR.weak [(3, .int v3)] ⟨rfl, trivial⟩ ?_
          exact s_m_appleNamed_42 _ _ h
        · refine RR.c_ne (fun q => absurd q c) (fun _ => ?_)
          refine RR.runs (pc' := 47) (lc' := [(3, .int ((v3 + (1 : Int32)))), (0, .ref 500), (1, .int v1), (2, .int v2)]) (st' := []) (S1 := S) (nL := 4) (cd := cd_2422) mx_2422 rfl rfl 1 rfl ?_
          obtain ⟨x1, ex1, h⟩ := ltE h
          rw [← ex1]
          refine RR.runs (pc' := 8) (lc' := [(3, .int x1), (0, .ref 500), (1, .int v1), (2, .int v2)]) (st' := []) (S1 := S) (nL := 4) (cd := cd_2422) mx_2422 rfl rfl 1 rfl ?_
          refine RR.weak [(0, .ref 500), (1, .int v1), (2, .int v2), (3, .int x1)] ⟨rfl, rfl, rfl, rfl, trivial⟩ ?_
          exact ih _ _ _ _ h
    · refine RR.c_ge (fun q => absurd q c) (fun _ => ?_)
      refine RR.weak [] trivial ?_
      exact s_m_appleNamed_50 _ h
def m_appleNamed (v1 : Int32) (S : St) : Re Int32 :=
  bn (m_soundNamed v1 S) fun r1 S2 =>
  m_appleNamed_8 FU v1 r1 (0 : Int32) S2
set_option maxRecDepth 100000 in
theorem s0_m_appleNamed {d : Nat} {S' : St} {r : Int32} (v1 : Int32) (S : St) (h : m_appleNamed v1 S = some (r, S')) : RR KM (d + 1) 2422 0 [(0, .ref 500), (1, .int v1)] [] S (some (.int r)) S' := by
  unfold m_appleNamed at h
  refine RR.runs (pc' := 2) (lc' := [(0, .ref 500), (1, .int v1)]) (st' := [.int v1, .ref 500]) (S1 := S) (nL := 4) (cd := cd_2422) mx_2422 rfl rfl 2 rfl ?_
  obtain ⟨r1, S2, h1, h⟩ := bnE h
  refine RR.callV (b := 500) (as := [.int v1]) (rest := []) (r1 := (some (.int r1))) (S1 := S2) mx_2422 rfl rfl mx_2420 rfl rfl (by decide) (Or.inl rfl) (Nat.le_of_ble_eq_true rfl) (Nat.le_of_ble_eq_true rfl) (RC.deep (by omega) (s_m_soundNamed (d := d) _ _ h1)) ?_
  show RR KM _ 2422 5 [(0, .ref 500), (1, .int v1)] [.int r1] S2 _ _
  refine RR.runs (pc' := 8) (lc' := [(3, .int (0 : Int32)), (2, .int r1), (0, .ref 500), (1, .int v1)]) (st' := []) (S1 := S2) (nL := 4) (cd := cd_2422) mx_2422 rfl rfl 3 rfl ?_
  refine RR.weak [(0, .ref 500), (1, .int v1), (2, .int r1), (3, .int (0 : Int32))] ⟨rfl, rfl, rfl, rfl, trivial⟩ ?_
  exact s_m_appleNamed_8 _ _ _ _ _ h
theorem s_m_appleNamed {d : Nat} {S' : St} {r : Int32} (v1 : Int32) (S : St) (h : m_appleNamed v1 S = some (r, S')) : RC KM (d + 1) 2422 [.ref 500, .int v1] S (some (.int r)) S' := RC.of rfl (s0_m_appleNamed v1 S h)
-- needsNumber (II)Z
def m_needsNumber (v1 : Int32) (v2 : Int32) (S : St) : Re Int32 :=
  if (rI S 500 6) = (2 : Int32) then (
    bn (m_within (rI S 500 8) v1 v2 S) fun r1 S2 =>
    if r1 = 0 then (
      bn (m_fails (4 : Int32) S2) fun r3 S4 =>
      if isBo r3 = true then some (r3, S4) else none)
    else (
      lt' (wI S2 500 46 (rI S2 500 8)) fun S5 =>
      bn (m_nextToken S5) fun r6 S7 =>
      some ((1 : Int32), S7)))
  else (
    bn (m_fails (1 : Int32) S) fun r8 S9 =>
    if isBo r8 = true then some (r8, S9) else none)
set_option maxRecDepth 100000 in
theorem s0_m_needsNumber {d : Nat} {S' : St} {r : Int32} (v1 : Int32) (v2 : Int32) (S : St) (h : m_needsNumber v1 v2 S = some (r, S')) : RR KM (d + 2) 2423 0 [(0, .ref 500), (1, .int v1), (2, .int v2)] [] S (some (.int r)) S' := by
  unfold m_needsNumber at h
  refine RR.runs (pc' := icm .eq (rI S 500 6) (2 : Int32) 14 8) (lc' := [(0, .ref 500), (1, .int v1), (2, .int v2)]) (st' := []) (S1 := S) (nL := 3) (cd := cd_2423) mx_2423 rfl rfl 4 rfl ?_
  rcases ifE h with ⟨c, h⟩ | ⟨c, h⟩
  · refine RR.c_eq (fun _ => ?_) (fun q => absurd c q)
    refine RR.runs (pc' := 20) (lc' := [(0, .ref 500), (1, .int v1), (2, .int v2)]) (st' := [.int v2, .int v1, .int (rI S 500 8)]) (S1 := S) (nL := 3) (cd := cd_2423) mx_2423 rfl rfl 4 rfl ?_
    obtain ⟨r1, S2, h1, h⟩ := bnE h
    refine RR.callS (as := [.int (rI S 500 8), .int v1, .int v2]) (rest := []) (r1 := (some (.int r1))) (S1 := S2) mx_2423 rfl rfl mx_2402 rfl rfl (by decide) (Nat.le_of_ble_eq_true rfl) (Nat.le_of_ble_eq_true rfl) (Nat.le_of_ble_eq_true rfl) (RC.deep (by omega) (s_m_within (d := d) _ _ _ _ h1)) ?_
    show RR KM _ 2423 23 [(0, .ref 500), (1, .int v1), (2, .int v2)] [.int r1] S2 _ _
    refine RR.runs (pc' := icm .ne r1 0 32 26) (lc' := [(0, .ref 500), (1, .int v1), (2, .int v2)]) (st' := []) (S1 := S2) (nL := 3) (cd := cd_2423) mx_2423 rfl rfl 1 rfl ?_
    rcases ifE h with ⟨c, h⟩ | ⟨c, h⟩
    · refine RR.c_ne (fun _ => ?_) (fun q => absurd c q)
      refine RR.runs (pc' := 28) (lc' := [(0, .ref 500), (1, .int v1), (2, .int v2)]) (st' := [.int (4 : Int32), .ref 500]) (S1 := S2) (nL := 3) (cd := cd_2423) mx_2423 rfl rfl 2 rfl ?_
      obtain ⟨r3, S4, h1, h⟩ := bnE h
      refine RR.callV (b := 500) (as := [.int (4 : Int32)]) (rest := []) (r1 := (some (.int r3))) (S1 := S4) mx_2423 rfl rfl mx_2411 rfl rfl (by decide) (Or.inl rfl) (Nat.le_of_ble_eq_true rfl) (Nat.le_of_ble_eq_true rfl) (RC.deep (by omega) (s_m_fails (d := d) _ _ h1)) ?_
      show RR KM _ 2423 31 [(0, .ref 500), (1, .int v1), (2, .int v2)] [.int r3] S4 _ _
      obtain ⟨g, h⟩ := gpE h
      cases h
      exact RR.retz mx_2423 rfl rfl rfl g
    · refine RR.c_ne (fun q => absurd q c) (fun _ => ?_)
      refine RR.runs (pc' := 40) (lc' := [(0, .ref 500), (1, .int v1), (2, .int v2)]) (st' := []) (S1 := (wI S2 500 46 (rI S2 500 8))) (nL := 3) (cd := cd_2423) mx_2423 rfl rfl 4 rfl ?_
      obtain ⟨S5, eS5, h⟩ := ltE h
      rw [← eS5]
      refine RR.runs (pc' := 41) (lc' := [(0, .ref 500), (1, .int v1), (2, .int v2)]) (st' := [.ref 500]) (S1 := S5) (nL := 3) (cd := cd_2423) mx_2423 rfl rfl 1 rfl ?_
      obtain ⟨r6, S7, h1, h⟩ := bnE h
      refine RR.callV (b := 500) (as := []) (rest := []) (r1 := none) (S1 := S7) mx_2423 rfl rfl mx_2408 rfl rfl (by decide) (Or.inl rfl) (Nat.le_of_ble_eq_true rfl) (Nat.le_of_ble_eq_true rfl) (RC.deep (by omega) (s_m_nextToken (d := d) _ h1)) ?_
      show RR KM _ 2423 44 [(0, .ref 500), (1, .int v1), (2, .int v2)] [] S7 _ _
      refine RR.runs (pc' := 45) (lc' := [(0, .ref 500), (1, .int v1), (2, .int v2)]) (st' := [.int (1 : Int32)]) (S1 := S7) (nL := 3) (cd := cd_2423) mx_2423 rfl rfl 1 rfl ?_
      cases h
      exact RR.retz mx_2423 rfl rfl rfl rfl
  · refine RR.c_eq (fun q => absurd q c) (fun _ => ?_)
    refine RR.runs (pc' := 10) (lc' := [(0, .ref 500), (1, .int v1), (2, .int v2)]) (st' := [.int (1 : Int32), .ref 500]) (S1 := S) (nL := 3) (cd := cd_2423) mx_2423 rfl rfl 2 rfl ?_
    obtain ⟨r8, S9, h1, h⟩ := bnE h
    refine RR.callV (b := 500) (as := [.int (1 : Int32)]) (rest := []) (r1 := (some (.int r8))) (S1 := S9) mx_2423 rfl rfl mx_2411 rfl rfl (by decide) (Or.inl rfl) (Nat.le_of_ble_eq_true rfl) (Nat.le_of_ble_eq_true rfl) (RC.deep (by omega) (s_m_fails (d := d) _ _ h1)) ?_
    show RR KM _ 2423 13 [(0, .ref 500), (1, .int v1), (2, .int v2)] [.int r8] S9 _ _
    obtain ⟨g, h⟩ := gpE h
    cases h
    exact RR.retz mx_2423 rfl rfl rfl g
theorem s_m_needsNumber {d : Nat} {S' : St} {r : Int32} (v1 : Int32) (v2 : Int32) (S : St) (h : m_needsNumber v1 v2 S = some (r, S')) : RC KM (d + 2) 2423 [.ref 500, .int v1, .int v2] S (some (.int r)) S' := RC.of rfl (s0_m_needsNumber v1 v2 S h)
-- needsWord (J)Z
def m_needsWord (v1 : Int64) (S : St) : Re Int32 :=
  bn (m_isWord v1 S) fun r1 S2 =>
  if r1 = 0 then (
    bn (m_fails (1 : Int32) S2) fun r3 S4 =>
    if isBo r3 = true then some (r3, S4) else none)
  else (
    bn (m_nextToken S2) fun r5 S6 =>
    some ((1 : Int32), S6))
set_option maxRecDepth 100000 in
theorem s0_m_needsWord {d : Nat} {S' : St} {r : Int32} (v1 : Int64) (S : St) (h : m_needsWord v1 S = some (r, S')) : RR KM (d + 2) 2424 0 [(0, .ref 500), (1, .long v1)] [] S (some (.int r)) S' := by
  unfold m_needsWord at h
  refine RR.runs (pc' := 2) (lc' := [(0, .ref 500), (1, .long v1)]) (st' := [.long v1, .ref 500]) (S1 := S) (nL := 3) (cd := cd_2424) mx_2424 rfl rfl 2 rfl ?_
  obtain ⟨r1, S2, h1, h⟩ := bnE h
  refine RR.callV (b := 500) (as := [.long v1]) (rest := []) (r1 := (some (.int r1))) (S1 := S2) mx_2424 rfl rfl mx_2409 rfl rfl (by decide) (Or.inl rfl) (Nat.le_of_ble_eq_true rfl) (Nat.le_of_ble_eq_true rfl) (RC.deep (by omega) (s_m_isWord (d := d) _ _ h1)) ?_
  show RR KM _ 2424 5 [(0, .ref 500), (1, .long v1)] [.int r1] S2 _ _
  refine RR.runs (pc' := icm .ne r1 0 14 8) (lc' := [(0, .ref 500), (1, .long v1)]) (st' := []) (S1 := S2) (nL := 3) (cd := cd_2424) mx_2424 rfl rfl 1 rfl ?_
  rcases ifE h with ⟨c, h⟩ | ⟨c, h⟩
  · refine RR.c_ne (fun _ => ?_) (fun q => absurd c q)
    refine RR.runs (pc' := 10) (lc' := [(0, .ref 500), (1, .long v1)]) (st' := [.int (1 : Int32), .ref 500]) (S1 := S2) (nL := 3) (cd := cd_2424) mx_2424 rfl rfl 2 rfl ?_
    obtain ⟨r3, S4, h1, h⟩ := bnE h
    refine RR.callV (b := 500) (as := [.int (1 : Int32)]) (rest := []) (r1 := (some (.int r3))) (S1 := S4) mx_2424 rfl rfl mx_2411 rfl rfl (by decide) (Or.inl rfl) (Nat.le_of_ble_eq_true rfl) (Nat.le_of_ble_eq_true rfl) (RC.deep (by omega) (s_m_fails (d := d) _ _ h1)) ?_
    show RR KM _ 2424 13 [(0, .ref 500), (1, .long v1)] [.int r3] S4 _ _
    obtain ⟨g, h⟩ := gpE h
    cases h
    exact RR.retz mx_2424 rfl rfl rfl g
  · refine RR.c_ne (fun q => absurd q c) (fun _ => ?_)
    refine RR.runs (pc' := 15) (lc' := [(0, .ref 500), (1, .long v1)]) (st' := [.ref 500]) (S1 := S2) (nL := 3) (cd := cd_2424) mx_2424 rfl rfl 1 rfl ?_
    obtain ⟨r5, S6, h1, h⟩ := bnE h
    refine RR.callV (b := 500) (as := []) (rest := []) (r1 := none) (S1 := S6) mx_2424 rfl rfl mx_2408 rfl rfl (by decide) (Or.inl rfl) (Nat.le_of_ble_eq_true rfl) (Nat.le_of_ble_eq_true rfl) (RC.deep (by omega) (s_m_nextToken (d := d) _ h1)) ?_
    show RR KM _ 2424 18 [(0, .ref 500), (1, .long v1)] [] S6 _ _
    refine RR.runs (pc' := 19) (lc' := [(0, .ref 500), (1, .long v1)]) (st' := [.int (1 : Int32)]) (S1 := S6) (nL := 3) (cd := cd_2424) mx_2424 rfl rfl 1 rfl ?_
    cases h
    exact RR.retz mx_2424 rfl rfl rfl rfl
theorem s_m_needsWord {d : Nat} {S' : St} {r : Int32} (v1 : Int64) (S : St) (h : m_needsWord v1 S = some (r, S')) : RC KM (d + 2) 2424 [.ref 500, .long v1] S (some (.int r)) S' := RC.of rfl (s0_m_needsWord v1 S h)
-- needsBoth (JII)Z
def m_needsBoth_23 (p0 : Int32) (S : St) : Re Int32 :=
  if isBo p0 = true then some (p0, S) else none
set_option maxRecDepth 100000 in
theorem s_m_needsBoth_23 {d : Nat} {S' : St} {r : Int32} (p0 : Int32) (S : St) (h : m_needsBoth_23 p0 S = some (r, S')) : RR KM (d + 3) 2425 23 [] [.int p0] S (some (.int r)) S' := by
  unfold m_needsBoth_23 at h
  obtain ⟨g, h⟩ := gpE h
  cases h
  exact RR.retz mx_2425 rfl rfl rfl g
def m_needsBoth_22 (S : St) : Re Int32 :=
  m_needsBoth_23 (0 : Int32) S
set_option maxRecDepth 100000 in
theorem s_m_needsBoth_22 {d : Nat} {S' : St} {r : Int32} (S : St) (h : m_needsBoth_22 S = some (r, S')) : RR KM (d + 3) 2425 22 [] [] S (some (.int r)) S' := by
  unfold m_needsBoth_22 at h
  refine RR.runs (pc' := 23) (lc' := []) (st' := [.int (0 : Int32)]) (S1 := S) (nL := 5) (cd := cd_2425) mx_2425 rfl rfl 1 rfl ?_
  refine RR.weak [] trivial ?_
  exact s_m_needsBoth_23 _ _ h
def m_needsBoth (v1 : Int64) (v3 : Int32) (v4 : Int32) (S : St) : Re Int32 :=
  bn (m_needsWord v1 S) fun r1 S2 =>
  if r1 = 0 then (
    m_needsBoth_22 S2)
  else (
    bn (m_needsNumber v3 v4 S2) fun r3 S4 =>
    if r3 = 0 then (
      m_needsBoth_22 S4)
    else (
      m_needsBoth_23 (1 : Int32) S4))
set_option maxRecDepth 100000 in
theorem s0_m_needsBoth {d : Nat} {S' : St} {r : Int32} (v1 : Int64) (v3 : Int32) (v4 : Int32) (S : St) (h : m_needsBoth v1 v3 v4 S = some (r, S')) : RR KM (d + 3) 2425 0 [(0, .ref 500), (1, .long v1), (3, .int v3), (4, .int v4)] [] S (some (.int r)) S' := by
  unfold m_needsBoth at h
  refine RR.runs (pc' := 2) (lc' := [(0, .ref 500), (1, .long v1), (3, .int v3), (4, .int v4)]) (st' := [.long v1, .ref 500]) (S1 := S) (nL := 5) (cd := cd_2425) mx_2425 rfl rfl 2 rfl ?_
  obtain ⟨r1, S2, h1, h⟩ := bnE h
  refine RR.callV (b := 500) (as := [.long v1]) (rest := []) (r1 := (some (.int r1))) (S1 := S2) mx_2425 rfl rfl mx_2424 rfl rfl (by decide) (Or.inl rfl) (Nat.le_of_ble_eq_true rfl) (Nat.le_of_ble_eq_true rfl) (RC.deep (by omega) (s_m_needsWord (d := d) _ _ h1)) ?_
  show RR KM _ 2425 5 [(0, .ref 500), (1, .long v1), (3, .int v3), (4, .int v4)] [.int r1] S2 _ _
  refine RR.runs (pc' := icm .eq r1 0 22 8) (lc' := [(0, .ref 500), (1, .long v1), (3, .int v3), (4, .int v4)]) (st' := []) (S1 := S2) (nL := 5) (cd := cd_2425) mx_2425 rfl rfl 1 rfl ?_
  rcases ifE h with ⟨c, h⟩ | ⟨c, h⟩
  · refine RR.c_eq (fun _ => ?_) (fun q => absurd c q)
    refine RR.weak [] trivial ?_
    exact s_m_needsBoth_22 _ h
  · refine RR.c_eq (fun q => absurd q c) (fun _ => ?_)
    refine RR.runs (pc' := 12) (lc' := [(0, .ref 500), (1, .long v1), (3, .int v3), (4, .int v4)]) (st' := [.int v4, .int v3, .ref 500]) (S1 := S2) (nL := 5) (cd := cd_2425) mx_2425 rfl rfl 3 rfl ?_
    obtain ⟨r3, S4, h1, h⟩ := bnE h
    refine RR.callV (b := 500) (as := [.int v3, .int v4]) (rest := []) (r1 := (some (.int r3))) (S1 := S4) mx_2425 rfl rfl mx_2423 rfl rfl (by decide) (Or.inl rfl) (Nat.le_of_ble_eq_true rfl) (Nat.le_of_ble_eq_true rfl) (RC.deep (by omega) (s_m_needsNumber (d := d) _ _ _ h1)) ?_
    show RR KM _ 2425 15 [(0, .ref 500), (1, .long v1), (3, .int v3), (4, .int v4)] [.int r3] S4 _ _
    refine RR.runs (pc' := icm .eq r3 0 22 18) (lc' := [(0, .ref 500), (1, .long v1), (3, .int v3), (4, .int v4)]) (st' := []) (S1 := S4) (nL := 5) (cd := cd_2425) mx_2425 rfl rfl 1 rfl ?_
    rcases ifE h with ⟨c, h⟩ | ⟨c, h⟩
    · refine RR.c_eq (fun _ => ?_) (fun q => absurd c q)
      refine RR.weak [] trivial ?_
      exact s_m_needsBoth_22 _ h
    · refine RR.c_eq (fun q => absurd q c) (fun _ => ?_)
      refine RR.runs (pc' := 23) (lc' := [(0, .ref 500), (1, .long v1), (3, .int v3), (4, .int v4)]) (st' := [.int (1 : Int32)]) (S1 := S4) (nL := 5) (cd := cd_2425) mx_2425 rfl rfl 2 rfl ?_
      refine RR.weak [] trivial ?_
      exact s_m_needsBoth_23 _ _ h
theorem s_m_needsBoth {d : Nat} {S' : St} {r : Int32} (v1 : Int64) (v3 : Int32) (v4 : Int32) (S : St) (h : m_needsBoth v1 v3 v4 S = some (r, S')) : RC KM (d + 3) 2425 [.ref 500, .long v1, .int v3, .int v4] S (some (.int r)) S' := RC.of rfl (s0_m_needsBoth v1 v3 v4 S h)
-- closes ()Z
def m_closes (S : St) : Re Int32 :=
  bn (m_isSign (59 : Int32) S) fun r1 S2 =>
  if r1 = 0 then (
    bn (m_fails (1 : Int32) S2) fun r3 S4 =>
    if isBo r3 = true then some (r3, S4) else none)
  else (
    bn (m_nextToken S2) fun r5 S6 =>
    some ((1 : Int32), S6))
set_option maxRecDepth 100000 in
theorem s0_m_closes {d : Nat} {S' : St} {r : Int32} (S : St) (h : m_closes S = some (r, S')) : RR KM (d + 2) 2426 0 [(0, .ref 500)] [] S (some (.int r)) S' := by
  unfold m_closes at h
  refine RR.runs (pc' := 3) (lc' := [(0, .ref 500)]) (st' := [.int (59 : Int32), .ref 500]) (S1 := S) (nL := 1) (cd := cd_2426) mx_2426 rfl rfl 2 rfl ?_
  obtain ⟨r1, S2, h1, h⟩ := bnE h
  refine RR.callV (b := 500) (as := [.int (59 : Int32)]) (rest := []) (r1 := (some (.int r1))) (S1 := S2) mx_2426 rfl rfl mx_2410 rfl rfl (by decide) (Or.inl rfl) (Nat.le_of_ble_eq_true rfl) (Nat.le_of_ble_eq_true rfl) (RC.deep (by omega) (s_m_isSign (d := d) _ _ h1)) ?_
  show RR KM _ 2426 6 [(0, .ref 500)] [.int r1] S2 _ _
  refine RR.runs (pc' := icm .ne r1 0 15 9) (lc' := [(0, .ref 500)]) (st' := []) (S1 := S2) (nL := 1) (cd := cd_2426) mx_2426 rfl rfl 1 rfl ?_
  rcases ifE h with ⟨c, h⟩ | ⟨c, h⟩
  · refine RR.c_ne (fun _ => ?_) (fun q => absurd c q)
    refine RR.runs (pc' := 11) (lc' := [(0, .ref 500)]) (st' := [.int (1 : Int32), .ref 500]) (S1 := S2) (nL := 1) (cd := cd_2426) mx_2426 rfl rfl 2 rfl ?_
    obtain ⟨r3, S4, h1, h⟩ := bnE h
    refine RR.callV (b := 500) (as := [.int (1 : Int32)]) (rest := []) (r1 := (some (.int r3))) (S1 := S4) mx_2426 rfl rfl mx_2411 rfl rfl (by decide) (Or.inl rfl) (Nat.le_of_ble_eq_true rfl) (Nat.le_of_ble_eq_true rfl) (RC.deep (by omega) (s_m_fails (d := d) _ _ h1)) ?_
    show RR KM _ 2426 14 [(0, .ref 500)] [.int r3] S4 _ _
    obtain ⟨g, h⟩ := gpE h
    cases h
    exact RR.retz mx_2426 rfl rfl rfl g
  · refine RR.c_ne (fun q => absurd q c) (fun _ => ?_)
    refine RR.runs (pc' := 16) (lc' := [(0, .ref 500)]) (st' := [.ref 500]) (S1 := S2) (nL := 1) (cd := cd_2426) mx_2426 rfl rfl 1 rfl ?_
    obtain ⟨r5, S6, h1, h⟩ := bnE h
    refine RR.callV (b := 500) (as := []) (rest := []) (r1 := none) (S1 := S6) mx_2426 rfl rfl mx_2408 rfl rfl (by decide) (Or.inl rfl) (Nat.le_of_ble_eq_true rfl) (Nat.le_of_ble_eq_true rfl) (RC.deep (by omega) (s_m_nextToken (d := d) _ h1)) ?_
    show RR KM _ 2426 19 [(0, .ref 500)] [] S6 _ _
    refine RR.runs (pc' := 20) (lc' := [(0, .ref 500)]) (st' := [.int (1 : Int32)]) (S1 := S6) (nL := 1) (cd := cd_2426) mx_2426 rfl rfl 1 rfl ?_
    cases h
    exact RR.retz mx_2426 rfl rfl rfl rfl
theorem s_m_closes {d : Nat} {S' : St} {r : Int32} (S : St) (h : m_closes S = some (r, S')) : RC KM (d + 2) 2426 [.ref 500] S (some (.int r)) S' := RC.of rfl (s0_m_closes S h)
-- isNew ()Z
def m_isNew_42 (p0 : Int32) (S : St) : Re Int32 :=
  if isBo p0 = true then some (p0, S) else none
set_option maxRecDepth 100000 in
theorem s_m_isNew_42 {d : Nat} {S' : St} {r : Int32} (p0 : Int32) (S : St) (h : m_isNew_42 p0 S = some (r, S')) : RR KM (d + 1) 2427 42 [] [.int p0] S (some (.int r)) S' := by
  unfold m_isNew_42 at h
  obtain ⟨g, h⟩ := gpE h
  cases h
  exact RR.retz mx_2427 rfl rfl rfl g
def m_isNew_37 (S : St) : Re Int32 :=
  m_isNew_42 (1 : Int32) S
set_option maxRecDepth 100000 in
theorem s_m_isNew_37 {d : Nat} {S' : St} {r : Int32} (S : St) (h : m_isNew_37 S = some (r, S')) : RR KM (d + 1) 2427 37 [] [] S (some (.int r)) S' := by
  unfold m_isNew_37 at h
  refine RR.runs (pc' := 42) (lc' := []) (st' := [.int (1 : Int32)]) (S1 := S) (nL := 1) (cd := cd_2427) mx_2427 rfl rfl 2 rfl ?_
  refine RR.weak [] trivial ?_
  exact s_m_isNew_42 _ _ h
def m_isNew_29 (S : St) : Re Int32 :=
  bn (m_fails (3 : Int32) S) fun r1 S2 =>
  if r1 = 0 then (
    m_isNew_42 (0 : Int32) S2)
  else (
    m_isNew_37 S2)
set_option maxRecDepth 100000 in
theorem s_m_isNew_29 {d : Nat} {S' : St} {r : Int32} (S : St) (h : m_isNew_29 S = some (r, S')) : RR KM (d + 1) 2427 29 [(0, .ref 500)] [] S (some (.int r)) S' := by
  unfold m_isNew_29 at h
  refine RR.runs (pc' := 31) (lc' := [(0, .ref 500)]) (st' := [.int (3 : Int32), .ref 500]) (S1 := S) (nL := 1) (cd := cd_2427) mx_2427 rfl rfl 2 rfl ?_
  obtain ⟨r1, S2, h1, h⟩ := bnE h
  refine RR.callV (b := 500) (as := [.int (3 : Int32)]) (rest := []) (r1 := (some (.int r1))) (S1 := S2) mx_2427 rfl rfl mx_2411 rfl rfl (by decide) (Or.inl rfl) (Nat.le_of_ble_eq_true rfl) (Nat.le_of_ble_eq_true rfl) (RC.deep (by omega) (s_m_fails (d := d) _ _ h1)) ?_
  show RR KM _ 2427 34 [(0, .ref 500)] [.int r1] S2 _ _
  refine RR.runs (pc' := icm .eq r1 0 41 37) (lc' := [(0, .ref 500)]) (st' := []) (S1 := S2) (nL := 1) (cd := cd_2427) mx_2427 rfl rfl 1 rfl ?_
  rcases ifE h with ⟨c, h⟩ | ⟨c, h⟩
  · refine RR.c_eq (fun _ => ?_) (fun q => absurd c q)
    refine RR.runs (pc' := 42) (lc' := [(0, .ref 500)]) (st' := [.int (0 : Int32)]) (S1 := S2) (nL := 1) (cd := cd_2427) mx_2427 rfl rfl 1 rfl ?_
    refine RR.weak [] trivial ?_
    exact s_m_isNew_42 _ _ h
  · refine RR.c_eq (fun q => absurd q c) (fun _ => ?_)
    refine RR.weak [] trivial ?_
    exact s_m_isNew_37 _ h
def m_isNew (S : St) : Re Int32 :=
  bn (m_isKept S) fun r1 S2 =>
  if r1 = 0 then (
    bn (m_soundNamed (1 : Int32) S2) fun r3 S4 =>
    if r3 < 0 then (
      bn (m_personNamed (1 : Int32) S4) fun r5 S6 =>
      if r5 < 0 then (
        m_isNew_37 S6)
      else (
        m_isNew_29 S6))
    else (
      m_isNew_29 S4))
  else (
    bn (m_fails (1 : Int32) S2) fun r7 S8 =>
    if isBo r7 = true then some (r7, S8) else none)
set_option maxRecDepth 100000 in
theorem s0_m_isNew {d : Nat} {S' : St} {r : Int32} (S : St) (h : m_isNew S = some (r, S')) : RR KM (d + 1) 2427 0 [(0, .ref 500)] [] S (some (.int r)) S' := by
  unfold m_isNew at h
  refine RR.runs (pc' := 1) (lc' := [(0, .ref 500)]) (st' := [.ref 500]) (S1 := S) (nL := 1) (cd := cd_2427) mx_2427 rfl rfl 1 rfl ?_
  obtain ⟨r1, S2, h1, h⟩ := bnE h
  refine RR.callV (b := 500) (as := []) (rest := []) (r1 := (some (.int r1))) (S1 := S2) mx_2427 rfl rfl mx_2419 rfl rfl (by decide) (Or.inl rfl) (Nat.le_of_ble_eq_true rfl) (Nat.le_of_ble_eq_true rfl) (RC.deep (by omega) (s_m_isKept (d := d) _ h1)) ?_
  show RR KM _ 2427 4 [(0, .ref 500)] [.int r1] S2 _ _
  refine RR.runs (pc' := icm .eq r1 0 13 7) (lc' := [(0, .ref 500)]) (st' := []) (S1 := S2) (nL := 1) (cd := cd_2427) mx_2427 rfl rfl 1 rfl ?_
  rcases ifE h with ⟨c, h⟩ | ⟨c, h⟩
  · refine RR.c_eq (fun _ => ?_) (fun q => absurd c q)
    refine RR.runs (pc' := 15) (lc' := [(0, .ref 500)]) (st' := [.int (1 : Int32), .ref 500]) (S1 := S2) (nL := 1) (cd := cd_2427) mx_2427 rfl rfl 2 rfl ?_
    obtain ⟨r3, S4, h1, h⟩ := bnE h
    refine RR.callV (b := 500) (as := [.int (1 : Int32)]) (rest := []) (r1 := (some (.int r3))) (S1 := S4) mx_2427 rfl rfl mx_2420 rfl rfl (by decide) (Or.inl rfl) (Nat.le_of_ble_eq_true rfl) (Nat.le_of_ble_eq_true rfl) (RC.deep (by omega) (s_m_soundNamed (d := d) _ _ h1)) ?_
    show RR KM _ 2427 18 [(0, .ref 500)] [.int r3] S4 _ _
    refine RR.runs (pc' := icm .ge r3 0 29 21) (lc' := [(0, .ref 500)]) (st' := []) (S1 := S4) (nL := 1) (cd := cd_2427) mx_2427 rfl rfl 1 rfl ?_
    rcases ifE h with ⟨c, h⟩ | ⟨c, h⟩
    · refine RR.c_ge (fun _ => ?_) (fun q => absurd c q)
      refine RR.runs (pc' := 23) (lc' := [(0, .ref 500)]) (st' := [.int (1 : Int32), .ref 500]) (S1 := S4) (nL := 1) (cd := cd_2427) mx_2427 rfl rfl 2 rfl ?_
      obtain ⟨r5, S6, h1, h⟩ := bnE h
      refine RR.callV (b := 500) (as := [.int (1 : Int32)]) (rest := []) (r1 := (some (.int r5))) (S1 := S6) mx_2427 rfl rfl mx_2421 rfl rfl (by decide) (Or.inl rfl) (Nat.le_of_ble_eq_true rfl) (Nat.le_of_ble_eq_true rfl) (RC.deep (by omega) (s_m_personNamed (d := d) _ _ h1)) ?_
      show RR KM _ 2427 26 [(0, .ref 500)] [.int r5] S6 _ _
      refine RR.runs (pc' := icm .lt r5 0 37 29) (lc' := [(0, .ref 500)]) (st' := []) (S1 := S6) (nL := 1) (cd := cd_2427) mx_2427 rfl rfl 1 rfl ?_
      rcases ifE h with ⟨c, h⟩ | ⟨c, h⟩
      · refine RR.c_lt (fun _ => ?_) (fun q => absurd c q)
        refine RR.weak [] trivial ?_
        exact s_m_isNew_37 _ h
      · refine RR.c_lt (fun q => absurd q c) (fun _ => ?_)
        refine RR.weak [(0, .ref 500)] ⟨rfl, trivial⟩ ?_
        exact s_m_isNew_29 _ h
    · refine RR.c_ge (fun q => absurd q c) (fun _ => ?_)
      refine RR.weak [(0, .ref 500)] ⟨rfl, trivial⟩ ?_
      exact s_m_isNew_29 _ h
  · refine RR.c_eq (fun q => absurd q c) (fun _ => ?_)
    refine RR.runs (pc' := 9) (lc' := [(0, .ref 500)]) (st' := [.int (1 : Int32), .ref 500]) (S1 := S2) (nL := 1) (cd := cd_2427) mx_2427 rfl rfl 2 rfl ?_
    obtain ⟨r7, S8, h1, h⟩ := bnE h
    refine RR.callV (b := 500) (as := [.int (1 : Int32)]) (rest := []) (r1 := (some (.int r7))) (S1 := S8) mx_2427 rfl rfl mx_2411 rfl rfl (by decide) (Or.inl rfl) (Nat.le_of_ble_eq_true rfl) (Nat.le_of_ble_eq_true rfl) (RC.deep (by omega) (s_m_fails (d := d) _ _ h1)) ?_
    show RR KM _ 2427 12 [(0, .ref 500)] [.int r7] S8 _ _
    obtain ⟨g, h⟩ := gpE h
    cases h
    exact RR.retz mx_2427 rfl rfl rfl g
theorem s_m_isNew {d : Nat} {S' : St} {r : Int32} (S : St) (h : m_isNew S = some (r, S')) : RC KM (d + 1) 2427 [.ref 500] S (some (.int r)) S' := RC.of rfl (s0_m_isNew S h)
-- needsSound (I)Z
def m_needsSound_42 (p0 : Int32) (S : St) : Re Int32 :=
  if isBo p0 = true then some (p0, S) else none
set_option maxRecDepth 100000 in
theorem s_m_needsSound_42 {d : Nat} {S' : St} {r : Int32} (p0 : Int32) (S : St) (h : m_needsSound_42 p0 S = some (r, S')) : RR KM (d + 1) 2428 42 [] [.int p0] S (some (.int r)) S' := by
  unfold m_needsSound_42 at h
  obtain ⟨g, h⟩ := gpE h
  cases h
  exact RR.retz mx_2428 rfl rfl rfl g
def m_needsSound_37 (S : St) : Re Int32 :=
  m_needsSound_42 (1 : Int32) S
set_option maxRecDepth 100000 in
theorem s_m_needsSound_37 {d : Nat} {S' : St} {r : Int32} (S : St) (h : m_needsSound_37 S = some (r, S')) : RR KM (d + 1) 2428 37 [] [] S (some (.int r)) S' := by
  unfold m_needsSound_37 at h
  refine RR.runs (pc' := 42) (lc' := []) (st' := [.int (1 : Int32)]) (S1 := S) (nL := 2) (cd := cd_2428) mx_2428 rfl rfl 2 rfl ?_
  refine RR.weak [] trivial ?_
  exact s_m_needsSound_42 _ _ h
def m_needsSound (v1 : Int32) (S : St) : Re Int32 :=
  bn (m_isKept S) fun r1 S2 =>
  if r1 = 0 then (
    bn (m_soundNamed v1 S2) fun r3 S4 =>
    lt' (wI S4 500 46 r3) fun S5 =>
    if (rI S5 500 46) < 0 then (
      bn (m_fails (2 : Int32) S5) fun r6 S7 =>
      if r6 = 0 then (
        m_needsSound_42 (0 : Int32) S7)
      else (
        m_needsSound_37 S7))
    else (
      m_needsSound_37 S5))
  else (
    bn (m_fails (1 : Int32) S2) fun r8 S9 =>
    if isBo r8 = true then some (r8, S9) else none)
set_option maxRecDepth 100000 in
theorem s0_m_needsSound {d : Nat} {S' : St} {r : Int32} (v1 : Int32) (S : St) (h : m_needsSound v1 S = some (r, S')) : RR KM (d + 1) 2428 0 [(0, .ref 500), (1, .int v1)] [] S (some (.int r)) S' := by
  unfold m_needsSound at h
  refine RR.runs (pc' := 1) (lc' := [(0, .ref 500), (1, .int v1)]) (st' := [.ref 500]) (S1 := S) (nL := 2) (cd := cd_2428) mx_2428 rfl rfl 1 rfl ?_
  obtain ⟨r1, S2, h1, h⟩ := bnE h
  refine RR.callV (b := 500) (as := []) (rest := []) (r1 := (some (.int r1))) (S1 := S2) mx_2428 rfl rfl mx_2419 rfl rfl (by decide) (Or.inl rfl) (Nat.le_of_ble_eq_true rfl) (Nat.le_of_ble_eq_true rfl) (RC.deep (by omega) (s_m_isKept (d := d) _ h1)) ?_
  show RR KM _ 2428 4 [(0, .ref 500), (1, .int v1)] [.int r1] S2 _ _
  refine RR.runs (pc' := icm .eq r1 0 13 7) (lc' := [(0, .ref 500), (1, .int v1)]) (st' := []) (S1 := S2) (nL := 2) (cd := cd_2428) mx_2428 rfl rfl 1 rfl ?_
  rcases ifE h with ⟨c, h⟩ | ⟨c, h⟩
  · refine RR.c_eq (fun _ => ?_) (fun q => absurd c q)
    refine RR.runs (pc' := 16) (lc' := [(0, .ref 500), (1, .int v1)]) (st' := [.int v1, .ref 500, .ref 500]) (S1 := S2) (nL := 2) (cd := cd_2428) mx_2428 rfl rfl 3 rfl ?_
    obtain ⟨r3, S4, h1, h⟩ := bnE h
    refine RR.callV (b := 500) (as := [.int v1]) (rest := [.ref 500]) (r1 := (some (.int r3))) (S1 := S4) mx_2428 rfl rfl mx_2420 rfl rfl (by decide) (Or.inl rfl) (Nat.le_of_ble_eq_true rfl) (Nat.le_of_ble_eq_true rfl) (RC.deep (by omega) (s_m_soundNamed (d := d) _ _ h1)) ?_
    show RR KM _ 2428 19 [(0, .ref 500), (1, .int v1)] [.int r3, .ref 500] S4 _ _
    refine RR.runs (pc' := 22) (lc' := [(0, .ref 500), (1, .int v1)]) (st' := []) (S1 := (wI S4 500 46 r3)) (nL := 2) (cd := cd_2428) mx_2428 rfl rfl 1 rfl ?_
    obtain ⟨S5, eS5, h⟩ := ltE h
    rw [← eS5]
    refine RR.runs (pc' := icm .ge (rI S5 500 46) 0 37 29) (lc' := [(0, .ref 500), (1, .int v1)]) (st' := []) (S1 := S5) (nL := 2) (cd := cd_2428) mx_2428 rfl rfl 3 rfl ?_
    rcases ifE h with ⟨c, h⟩ | ⟨c, h⟩
    · refine RR.c_ge (fun _ => ?_) (fun q => absurd c q)
      refine RR.runs (pc' := 31) (lc' := [(0, .ref 500), (1, .int v1)]) (st' := [.int (2 : Int32), .ref 500]) (S1 := S5) (nL := 2) (cd := cd_2428) mx_2428 rfl rfl 2 rfl ?_
      obtain ⟨r6, S7, h1, h⟩ := bnE h
      refine RR.callV (b := 500) (as := [.int (2 : Int32)]) (rest := []) (r1 := (some (.int r6))) (S1 := S7) mx_2428 rfl rfl mx_2411 rfl rfl (by decide) (Or.inl rfl) (Nat.le_of_ble_eq_true rfl) (Nat.le_of_ble_eq_true rfl) (RC.deep (by omega) (s_m_fails (d := d) _ _ h1)) ?_
      show RR KM _ 2428 34 [(0, .ref 500), (1, .int v1)] [.int r6] S7 _ _
      refine RR.runs (pc' := icm .eq r6 0 41 37) (lc' := [(0, .ref 500), (1, .int v1)]) (st' := []) (S1 := S7) (nL := 2) (cd := cd_2428) mx_2428 rfl rfl 1 rfl ?_
      rcases ifE h with ⟨c, h⟩ | ⟨c, h⟩
      · refine RR.c_eq (fun _ => ?_) (fun q => absurd c q)
        refine RR.runs (pc' := 42) (lc' := [(0, .ref 500), (1, .int v1)]) (st' := [.int (0 : Int32)]) (S1 := S7) (nL := 2) (cd := cd_2428) mx_2428 rfl rfl 1 rfl ?_
        refine RR.weak [] trivial ?_
        exact s_m_needsSound_42 _ _ h
      · refine RR.c_eq (fun q => absurd q c) (fun _ => ?_)
        refine RR.weak [] trivial ?_
        exact s_m_needsSound_37 _ h
    · refine RR.c_ge (fun q => absurd q c) (fun _ => ?_)
      refine RR.weak [] trivial ?_
      exact s_m_needsSound_37 _ h
  · refine RR.c_eq (fun q => absurd q c) (fun _ => ?_)
    refine RR.runs (pc' := 9) (lc' := [(0, .ref 500), (1, .int v1)]) (st' := [.int (1 : Int32), .ref 500]) (S1 := S2) (nL := 2) (cd := cd_2428) mx_2428 rfl rfl 2 rfl ?_
    obtain ⟨r8, S9, h1, h⟩ := bnE h
    refine RR.callV (b := 500) (as := [.int (1 : Int32)]) (rest := []) (r1 := (some (.int r8))) (S1 := S9) mx_2428 rfl rfl mx_2411 rfl rfl (by decide) (Or.inl rfl) (Nat.le_of_ble_eq_true rfl) (Nat.le_of_ble_eq_true rfl) (RC.deep (by omega) (s_m_fails (d := d) _ _ h1)) ?_
    show RR KM _ 2428 12 [(0, .ref 500), (1, .int v1)] [.int r8] S9 _ _
    obtain ⟨g, h⟩ := gpE h
    cases h
    exact RR.retz mx_2428 rfl rfl rfl g
theorem s_m_needsSound {d : Nat} {S' : St} {r : Int32} (v1 : Int32) (S : St) (h : m_needsSound v1 S = some (r, S')) : RC KM (d + 1) 2428 [.ref 500, .int v1] S (some (.int r)) S' := RC.of rfl (s0_m_needsSound v1 S h)
-- needsApple (I)Z
def m_needsApple_42 (p0 : Int32) (S : St) : Re Int32 :=
  if isBo p0 = true then some (p0, S) else none
set_option maxRecDepth 100000 in
theorem s_m_needsApple_42 {d : Nat} {S' : St} {r : Int32} (p0 : Int32) (S : St) (h : m_needsApple_42 p0 S = some (r, S')) : RR KM (d + 2) 2429 42 [] [.int p0] S (some (.int r)) S' := by
  unfold m_needsApple_42 at h
  obtain ⟨g, h⟩ := gpE h
  cases h
  exact RR.retz mx_2429 rfl rfl rfl g
def m_needsApple_37 (S : St) : Re Int32 :=
  m_needsApple_42 (1 : Int32) S
set_option maxRecDepth 100000 in
theorem s_m_needsApple_37 {d : Nat} {S' : St} {r : Int32} (S : St) (h : m_needsApple_37 S = some (r, S')) : RR KM (d + 2) 2429 37 [] [] S (some (.int r)) S' := by
  unfold m_needsApple_37 at h
  refine RR.runs (pc' := 42) (lc' := []) (st' := [.int (1 : Int32)]) (S1 := S) (nL := 2) (cd := cd_2429) mx_2429 rfl rfl 2 rfl ?_
  refine RR.weak [] trivial ?_
  exact s_m_needsApple_42 _ _ h
def m_needsApple (v1 : Int32) (S : St) : Re Int32 :=
  bn (m_isKept S) fun r1 S2 =>
  if r1 = 0 then (
    bn (m_appleNamed v1 S2) fun r3 S4 =>
    lt' (wI S4 500 46 r3) fun S5 =>
    if (rI S5 500 46) < 0 then (
      bn (m_fails (2 : Int32) S5) fun r6 S7 =>
      if r6 = 0 then (
        m_needsApple_42 (0 : Int32) S7)
      else (
        m_needsApple_37 S7))
    else (
      m_needsApple_37 S5))
  else (
    bn (m_fails (1 : Int32) S2) fun r8 S9 =>
    if isBo r8 = true then some (r8, S9) else none)
set_option maxRecDepth 100000 in
theorem s0_m_needsApple {d : Nat} {S' : St} {r : Int32} (v1 : Int32) (S : St) (h : m_needsApple v1 S = some (r, S')) : RR KM (d + 2) 2429 0 [(0, .ref 500), (1, .int v1)] [] S (some (.int r)) S' := by
  unfold m_needsApple at h
  refine RR.runs (pc' := 1) (lc' := [(0, .ref 500), (1, .int v1)]) (st' := [.ref 500]) (S1 := S) (nL := 2) (cd := cd_2429) mx_2429 rfl rfl 1 rfl ?_
  obtain ⟨r1, S2, h1, h⟩ := bnE h
  refine RR.callV (b := 500) (as := []) (rest := []) (r1 := (some (.int r1))) (S1 := S2) mx_2429 rfl rfl mx_2419 rfl rfl (by decide) (Or.inl rfl) (Nat.le_of_ble_eq_true rfl) (Nat.le_of_ble_eq_true rfl) (RC.deep (by omega) (s_m_isKept (d := d) _ h1)) ?_
  show RR KM _ 2429 4 [(0, .ref 500), (1, .int v1)] [.int r1] S2 _ _
  refine RR.runs (pc' := icm .eq r1 0 13 7) (lc' := [(0, .ref 500), (1, .int v1)]) (st' := []) (S1 := S2) (nL := 2) (cd := cd_2429) mx_2429 rfl rfl 1 rfl ?_
  rcases ifE h with ⟨c, h⟩ | ⟨c, h⟩
  · refine RR.c_eq (fun _ => ?_) (fun q => absurd c q)
    refine RR.runs (pc' := 16) (lc' := [(0, .ref 500), (1, .int v1)]) (st' := [.int v1, .ref 500, .ref 500]) (S1 := S2) (nL := 2) (cd := cd_2429) mx_2429 rfl rfl 3 rfl ?_
    obtain ⟨r3, S4, h1, h⟩ := bnE h
    refine RR.callV (b := 500) (as := [.int v1]) (rest := [.ref 500]) (r1 := (some (.int r3))) (S1 := S4) mx_2429 rfl rfl mx_2422 rfl rfl (by decide) (Or.inl rfl) (Nat.le_of_ble_eq_true rfl) (Nat.le_of_ble_eq_true rfl) (RC.deep (by omega) (s_m_appleNamed (d := d) _ _ h1)) ?_
    show RR KM _ 2429 19 [(0, .ref 500), (1, .int v1)] [.int r3, .ref 500] S4 _ _
    refine RR.runs (pc' := 22) (lc' := [(0, .ref 500), (1, .int v1)]) (st' := []) (S1 := (wI S4 500 46 r3)) (nL := 2) (cd := cd_2429) mx_2429 rfl rfl 1 rfl ?_
    obtain ⟨S5, eS5, h⟩ := ltE h
    rw [← eS5]
    refine RR.runs (pc' := icm .ge (rI S5 500 46) 0 37 29) (lc' := [(0, .ref 500), (1, .int v1)]) (st' := []) (S1 := S5) (nL := 2) (cd := cd_2429) mx_2429 rfl rfl 3 rfl ?_
    rcases ifE h with ⟨c, h⟩ | ⟨c, h⟩
    · refine RR.c_ge (fun _ => ?_) (fun q => absurd c q)
      refine RR.runs (pc' := 31) (lc' := [(0, .ref 500), (1, .int v1)]) (st' := [.int (2 : Int32), .ref 500]) (S1 := S5) (nL := 2) (cd := cd_2429) mx_2429 rfl rfl 2 rfl ?_
      obtain ⟨r6, S7, h1, h⟩ := bnE h
      refine RR.callV (b := 500) (as := [.int (2 : Int32)]) (rest := []) (r1 := (some (.int r6))) (S1 := S7) mx_2429 rfl rfl mx_2411 rfl rfl (by decide) (Or.inl rfl) (Nat.le_of_ble_eq_true rfl) (Nat.le_of_ble_eq_true rfl) (RC.deep (by omega) (s_m_fails (d := d) _ _ h1)) ?_
      show RR KM _ 2429 34 [(0, .ref 500), (1, .int v1)] [.int r6] S7 _ _
      refine RR.runs (pc' := icm .eq r6 0 41 37) (lc' := [(0, .ref 500), (1, .int v1)]) (st' := []) (S1 := S7) (nL := 2) (cd := cd_2429) mx_2429 rfl rfl 1 rfl ?_
      rcases ifE h with ⟨c, h⟩ | ⟨c, h⟩
      · refine RR.c_eq (fun _ => ?_) (fun q => absurd c q)
        refine RR.runs (pc' := 42) (lc' := [(0, .ref 500), (1, .int v1)]) (st' := [.int (0 : Int32)]) (S1 := S7) (nL := 2) (cd := cd_2429) mx_2429 rfl rfl 1 rfl ?_
        refine RR.weak [] trivial ?_
        exact s_m_needsApple_42 _ _ h
      · refine RR.c_eq (fun q => absurd q c) (fun _ => ?_)
        refine RR.weak [] trivial ?_
        exact s_m_needsApple_37 _ h
    · refine RR.c_ge (fun q => absurd q c) (fun _ => ?_)
      refine RR.weak [] trivial ?_
      exact s_m_needsApple_37 _ h
  · refine RR.c_eq (fun q => absurd q c) (fun _ => ?_)
    refine RR.runs (pc' := 9) (lc' := [(0, .ref 500), (1, .int v1)]) (st' := [.int (1 : Int32), .ref 500]) (S1 := S2) (nL := 2) (cd := cd_2429) mx_2429 rfl rfl 2 rfl ?_
    obtain ⟨r8, S9, h1, h⟩ := bnE h
    refine RR.callV (b := 500) (as := [.int (1 : Int32)]) (rest := []) (r1 := (some (.int r8))) (S1 := S9) mx_2429 rfl rfl mx_2411 rfl rfl (by decide) (Or.inl rfl) (Nat.le_of_ble_eq_true rfl) (Nat.le_of_ble_eq_true rfl) (RC.deep (by omega) (s_m_fails (d := d) _ _ h1)) ?_
    show RR KM _ 2429 12 [(0, .ref 500), (1, .int v1)] [.int r8] S9 _ _
    obtain ⟨g, h⟩ := gpE h
    cases h
    exact RR.retz mx_2429 rfl rfl rfl g
theorem s_m_needsApple {d : Nat} {S' : St} {r : Int32} (v1 : Int32) (S : St) (h : m_needsApple v1 S = some (r, S')) : RC KM (d + 2) 2429 [.ref 500, .int v1] S (some (.int r)) S' := RC.of rfl (s0_m_needsApple v1 S h)
-- takesSound (J)V
def m_takesSound (v1 : Int64) (S : St) : Re Unit :=
  if (7 : Int32) < 0 ∨ 12 ≤ (7 : Int32).toNatClampNeg then none else
  if ((16 : Int32) + (rI S 502 (7 : Int32).toNatClampNeg)) < 0 ∨ 32 ≤ (((16 : Int32) + (rI S 502 (7 : Int32).toNatClampNeg))).toNatClampNeg then none else
  lt' (wJ S 503 (((16 : Int32) + (rI S 502 (7 : Int32).toNatClampNeg))).toNatClampNeg v1) fun S1 =>
  if (7 : Int32) < 0 ∨ 12 ≤ (7 : Int32).toNatClampNeg then none else
  if (7 : Int32) < 0 ∨ 12 ≤ (7 : Int32).toNatClampNeg then none else
  lt' (wI S1 502 (7 : Int32).toNatClampNeg (((rI S1 502 (7 : Int32).toNatClampNeg) + (1 : Int32)))) fun S2 =>
  some ((), S2)
set_option maxRecDepth 100000 in
theorem s0_m_takesSound {d : Nat} {S' : St} {r : Unit} (v1 : Int64) (S : St) (h : m_takesSound v1 S = some (r, S')) : RR KM (d + 0) 2430 0 [(0, .ref 500), (1, .long v1)] [] S none S' := by
  unfold m_takesSound at h
  refine RR.runs (pc' := 12) (lc' := [(0, .ref 500), (1, .long v1)]) (st' := [.int (7 : Int32), .ref 502, .int (16 : Int32), .ref 503]) (S1 := S) (nL := 3) (cd := cd_2430) mx_2430 rfl rfl 6 rfl ?_
  obtain ⟨g, h⟩ := gnE h
  refine RR.gPN (c2 := (KM.1 502).1 = 1) (pc' := 13) (lc' := [(0, .ref 500), (1, .long v1)]) (st' := [.int ((rI S 502 (7 : Int32).toNatClampNeg)), .int (16 : Int32), .ref 503]) (S1 := S) (nL := 3) (cd := cd_2430) mx_2430 rfl rfl rfl rfl g ?_
  refine RR.runs (pc' := 15) (lc' := [(0, .ref 500), (1, .long v1)]) (st' := [.long v1, .int (((16 : Int32) + (rI S 502 (7 : Int32).toNatClampNeg))), .ref 503]) (S1 := S) (nL := 3) (cd := cd_2430) mx_2430 rfl rfl 2 rfl ?_
  obtain ⟨g, h⟩ := gnE h
  refine RR.gPN (c2 := (KM.1 503).1 = 4) (pc' := 16) (lc' := [(0, .ref 500), (1, .long v1)]) (st' := []) (S1 := (wJ S 503 (((16 : Int32) + (rI S 502 (7 : Int32).toNatClampNeg))).toNatClampNeg v1)) (nL := 3) (cd := cd_2430) mx_2430 rfl rfl rfl rfl g ?_
  obtain ⟨S1, eS1, h⟩ := ltE h
  rw [← eS1]
  refine RR.runs (pc' := 23) (lc' := [(0, .ref 500), (1, .long v1)]) (st' := [.int (7 : Int32), .ref 502, .int (7 : Int32), .ref 502]) (S1 := S1) (nL := 3) (cd := cd_2430) mx_2430 rfl rfl 4 rfl ?_
  obtain ⟨g, h⟩ := gnE h
  refine RR.gPN (c2 := (KM.1 502).1 = 1) (pc' := 24) (lc' := [(0, .ref 500), (1, .long v1)]) (st' := [.int ((rI S1 502 (7 : Int32).toNatClampNeg)), .int (7 : Int32), .ref 502]) (S1 := S1) (nL := 3) (cd := cd_2430) mx_2430 rfl rfl rfl rfl g ?_
  refine RR.runs (pc' := 26) (lc' := [(0, .ref 500), (1, .long v1)]) (st' := [.int (((rI S1 502 (7 : Int32).toNatClampNeg) + (1 : Int32))), .int (7 : Int32), .ref 502]) (S1 := S1) (nL := 3) (cd := cd_2430) mx_2430 rfl rfl 2 rfl ?_
  obtain ⟨g, h⟩ := gnE h
  refine RR.gPN (c2 := (KM.1 502).1 = 1) (pc' := 27) (lc' := [(0, .ref 500), (1, .long v1)]) (st' := []) (S1 := (wI S1 502 (7 : Int32).toNatClampNeg (((rI S1 502 (7 : Int32).toNatClampNeg) + (1 : Int32))))) (nL := 3) (cd := cd_2430) mx_2430 rfl rfl rfl rfl g ?_
  obtain ⟨S2, eS2, h⟩ := ltE h
  rw [← eS2]
  cases h
  exact RR.retv mx_2430 rfl rfl rfl
theorem s_m_takesSound {d : Nat} {S' : St} {r : Unit} (v1 : Int64) (S : St) (h : m_takesSound v1 S = some (r, S')) : RC KM (d + 0) 2430 [.ref 500, .long v1] S none S' := RC.of rfl (s0_m_takesSound v1 S h)
-- readsApple ()Z
def m_readsApple_107 (v1 : Int32) (v2 : Int64) (p0 : Int32) (p1 : Int32) (S : St) : Re Int32 :=
  if p1 < 0 ∨ 20 ≤ p1.toNatClampNeg then none else
  lt' (wI S 506 p1.toNatClampNeg p0) fun S1 =>
  if v1 < 0 ∨ 20 ≤ v1.toNatClampNeg then none else
  if (rI S1 506 v1.toNatClampNeg) < 0 then (
    bn (m_fails (1 : Int32) S1) fun r2 S3 =>
    if isBo r2 = true then some (r2, S3) else none)
  else (
    bn (m_nextToken S1) fun r4 S5 =>
    bn (m_needsBoth (47 : Int64) (0 : Int32) (11 : Int32) S5) fun r6 S7 =>
    if r6 = 0 then (
      some ((0 : Int32), S7))
    else (
      if v1 < 0 ∨ 20 ≤ v1.toNatClampNeg then none else
      lt' (wI S7 507 v1.toNatClampNeg (rI S7 500 46)) fun S8 =>
      bn (m_needsNumber (0 : Int32) (11 : Int32) S8) fun r9 S10 =>
      if r9 = 0 then (
        some ((0 : Int32), S10))
      else (
        if v1 < 0 ∨ 20 ≤ v1.toNatClampNeg then none else
        lt' (wI S10 508 v1.toNatClampNeg (rI S10 500 46)) fun S11 =>
        bn (m_needsBoth (361292 : Int64) (0 : Int32) (60 : Int32) S11) fun r12 S13 =>
        if r12 = 0 then (
          some ((0 : Int32), S13))
        else (
          if v1 < 0 ∨ 20 ≤ v1.toNatClampNeg then none else
          lt' (wI S13 509 v1.toNatClampNeg (rI S13 500 46)) fun S14 =>
          bn (m_needsBoth (12532058 : Int64) (0 : Int32) (99 : Int32) S14) fun r15 S16 =>
          if r15 = 0 then (
            some ((0 : Int32), S16))
          else (
            if v1 < 0 ∨ 20 ≤ v1.toNatClampNeg then none else
            lt' (wI S16 510 v1.toNatClampNeg (rI S16 500 46)) fun S17 =>
            if v1 < 0 ∨ 20 ≤ v1.toNatClampNeg then none else
            lt' (wI S17 511 v1.toNatClampNeg (-1 : Int32)) fun S18 =>
            if (7 : Int32) < 0 ∨ 12 ≤ (7 : Int32).toNatClampNeg then none else
            if v1 < 0 ∨ 20 ≤ v1.toNatClampNeg then none else
            lt' (wI S18 505 v1.toNatClampNeg ((rI S18 502 (7 : Int32).toNatClampNeg))) fun S19 =>
            bn (m_takesSound v2 S19) fun r20 S21 =>
            if (6 : Int32) < 0 ∨ 12 ≤ (6 : Int32).toNatClampNeg then none else
            if (6 : Int32) < 0 ∨ 12 ≤ (6 : Int32).toNatClampNeg then none else
            lt' (wI S21 502 (6 : Int32).toNatClampNeg (((rI S21 502 (6 : Int32).toNatClampNeg) + (1 : Int32)))) fun S22 =>
            bn (m_closes S22) fun r23 S24 =>
            if isBo r23 = true then some (r23, S24) else none)))))
set_option maxRecDepth 100000 in
theorem s_m_readsApple_107 {d : Nat} {S' : St} {r : Int32} (v1 : Int32) (v2 : Int64) (p0 : Int32) (p1 : Int32) (S : St) (h : m_readsApple_107 v1 v2 p0 p1 S = some (r, S')) : RR KM (d + 4) 2431 107 [(0, .ref 500), (1, .int v1), (2, .long v2)] [.int p0, .int p1, .ref 506] S (some (.int r)) S' := by
  unfold m_readsApple_107 at h
  obtain ⟨g, h⟩ := gnE h
  refine RR.gPN (c2 := (KM.1 506).1 = 1) (pc' := 108) (lc' := [(0, .ref 500), (1, .int v1), (2, .long v2)]) (st' := []) (S1 := (wI S 506 p1.toNatClampNeg p0)) (nL := 4) (cd := cd_2431) mx_2431 rfl rfl rfl rfl g ?_
  obtain ⟨S1, eS1, h⟩ := ltE h
  rw [← eS1]
  refine RR.runs (pc' := 113) (lc' := [(0, .ref 500), (1, .int v1), (2, .long v2)]) (st' := [.int v1, .ref 506]) (S1 := S1) (nL := 4) (cd := cd_2431) mx_2431 rfl rfl 3 rfl ?_
  obtain ⟨g, h⟩ := gnE h
  refine RR.gPN (c2 := (KM.1 506).1 = 1) (pc' := 114) (lc' := [(0, .ref 500), (1, .int v1), (2, .long v2)]) (st' := [.int (rI S1 506 v1.toNatClampNeg)]) (S1 := S1) (nL := 4) (cd := cd_2431) mx_2431 rfl rfl rfl rfl g ?_
  refine RR.runs (pc' := icm .ge (rI S1 506 v1.toNatClampNeg) 0 123 117) (lc' := [(0, .ref 500), (1, .int v1), (2, .long v2)]) (st' := []) (S1 := S1) (nL := 4) (cd := cd_2431) mx_2431 rfl rfl 1 rfl ?_
  rcases ifE h with ⟨c, h⟩ | ⟨c, h⟩
  · refine RR.c_ge (fun _ => ?_) (fun q => absurd c q)
    refine RR.runs (pc' := 119) (lc' := [(0, .ref 500), (1, .int v1), (2, .long v2)]) (st' := [.int (1 : Int32), .ref 500]) (S1 := S1) (nL := 4) (cd := cd_2431) mx_2431 rfl rfl 2 rfl ?_
    obtain ⟨r2, S3, h1, h⟩ := bnE h
    refine RR.callV (b := 500) (as := [.int (1 : Int32)]) (rest := []) (r1 := (some (.int r2))) (S1 := S3) mx_2431 rfl rfl mx_2411 rfl rfl (by decide) (Or.inl rfl) (Nat.le_of_ble_eq_true rfl) (Nat.le_of_ble_eq_true rfl) (RC.deep (by omega) (s_m_fails (d := d) _ _ h1)) ?_
    show RR KM _ 2431 122 [(0, .ref 500), (1, .int v1), (2, .long v2)] [.int r2] S3 _ _
    obtain ⟨g, h⟩ := gpE h
    cases h
    exact RR.retz mx_2431 rfl rfl rfl g
  · refine RR.c_ge (fun q => absurd q c) (fun _ => ?_)
    refine RR.runs (pc' := 124) (lc' := [(0, .ref 500), (1, .int v1), (2, .long v2)]) (st' := [.ref 500]) (S1 := S1) (nL := 4) (cd := cd_2431) mx_2431 rfl rfl 1 rfl ?_
    obtain ⟨r4, S5, h1, h⟩ := bnE h
    refine RR.callV (b := 500) (as := []) (rest := []) (r1 := none) (S1 := S5) mx_2431 rfl rfl mx_2408 rfl rfl (by decide) (Or.inl rfl) (Nat.le_of_ble_eq_true rfl) (Nat.le_of_ble_eq_true rfl) (RC.deep (by omega) (s_m_nextToken (d := d) _ h1)) ?_
    show RR KM _ 2431 127 [(0, .ref 500), (1, .int v1), (2, .long v2)] [] S5 _ _
    refine RR.runs (pc' := 134) (lc' := [(0, .ref 500), (1, .int v1), (2, .long v2)]) (st' := [.int (11 : Int32), .int (0 : Int32), .long (47 : Int64), .ref 500]) (S1 := S5) (nL := 4) (cd := cd_2431) mx_2431 rfl rfl 4 rfl ?_
    obtain ⟨r6, S7, h1, h⟩ := bnE h
    refine RR.callV (b := 500) (as := [.long (47 : Int64), .int (0 : Int32), .int (11 : Int32)]) (rest := []) (r1 := (some (.int r6))) (S1 := S7) mx_2431 rfl rfl mx_2425 rfl rfl (by decide) (Or.inl rfl) (Nat.le_of_ble_eq_true rfl) (Nat.le_of_ble_eq_true rfl) (RC.deep (by omega) (s_m_needsBoth (d := d) _ _ _ _ h1)) ?_
    show RR KM _ 2431 137 [(0, .ref 500), (1, .int v1), (2, .long v2)] [.int r6] S7 _ _
    refine RR.runs (pc' := icm .ne r6 0 142 140) (lc' := [(0, .ref 500), (1, .int v1), (2, .long v2)]) (st' := []) (S1 := S7) (nL := 4) (cd := cd_2431) mx_2431 rfl rfl 1 rfl ?_
    rcases ifE h with ⟨c, h⟩ | ⟨c, h⟩
    · refine RR.c_ne (fun _ => ?_) (fun q => absurd c q)
      refine RR.runs (pc' := 141) (lc' := [(0, .ref 500), (1, .int v1), (2, .long v2)]) (st' := [.int (0 : Int32)]) (S1 := S7) (nL := 4) (cd := cd_2431) mx_2431 rfl rfl 1 rfl ?_
      cases h
      exact RR.retz mx_2431 rfl rfl rfl rfl
    · refine RR.c_ne (fun q => absurd q c) (fun _ => ?_)
      refine RR.runs (pc' := 151) (lc' := [(0, .ref 500), (1, .int v1), (2, .long v2)]) (st' := [.int (rI S7 500 46), .int v1, .ref 507]) (S1 := S7) (nL := 4) (cd := cd_2431) mx_2431 rfl rfl 5 rfl ?_
      obtain ⟨g, h⟩ := gnE h
      refine RR.gPN (c2 := (KM.1 507).1 = 1) (pc' := 152) (lc' := [(0, .ref 500), (1, .int v1), (2, .long v2)]) (st' := []) (S1 := (wI S7 507 v1.toNatClampNeg (rI S7 500 46))) (nL := 4) (cd := cd_2431) mx_2431 rfl rfl rfl rfl g ?_
      obtain ⟨S8, eS8, h⟩ := ltE h
      rw [← eS8]
      refine RR.runs (pc' := 156) (lc' := [(0, .ref 500), (1, .int v1), (2, .long v2)]) (st' := [.int (11 : Int32), .int (0 : Int32), .ref 500]) (S1 := S8) (nL := 4) (cd := cd_2431) mx_2431 rfl rfl 3 rfl ?_
      obtain ⟨r9, S10, h1, h⟩ := bnE h
      refine RR.callV (b := 500) (as := [.int (0 : Int32), .int (11 : Int32)]) (rest := []) (r1 := (some (.int r9))) (S1 := S10) mx_2431 rfl rfl mx_2423 rfl rfl (by decide) (Or.inl rfl) (Nat.le_of_ble_eq_true rfl) (Nat.le_of_ble_eq_true rfl) (RC.deep (by omega) (s_m_needsNumber (d := d) _ _ _ h1)) ?_
      show RR KM _ 2431 159 [(0, .ref 500), (1, .int v1), (2, .long v2)] [.int r9] S10 _ _
      refine RR.runs (pc' := icm .ne r9 0 164 162) (lc' := [(0, .ref 500), (1, .int v1), (2, .long v2)]) (st' := []) (S1 := S10) (nL := 4) (cd := cd_2431) mx_2431 rfl rfl 1 rfl ?_
      rcases ifE h with ⟨c, h⟩ | ⟨c, h⟩
      · refine RR.c_ne (fun _ => ?_) (fun q => absurd c q)
        refine RR.runs (pc' := 163) (lc' := [(0, .ref 500), (1, .int v1), (2, .long v2)]) (st' := [.int (0 : Int32)]) (S1 := S10) (nL := 4) (cd := cd_2431) mx_2431 rfl rfl 1 rfl ?_
        cases h
        exact RR.retz mx_2431 rfl rfl rfl rfl
      · refine RR.c_ne (fun q => absurd q c) (fun _ => ?_)
        refine RR.runs (pc' := 173) (lc' := [(0, .ref 500), (1, .int v1), (2, .long v2)]) (st' := [.int (rI S10 500 46), .int v1, .ref 508]) (S1 := S10) (nL := 4) (cd := cd_2431) mx_2431 rfl rfl 5 rfl ?_
        obtain ⟨g, h⟩ := gnE h
        refine RR.gPN (c2 := (KM.1 508).1 = 1) (pc' := 174) (lc' := [(0, .ref 500), (1, .int v1), (2, .long v2)]) (st' := []) (S1 := (wI S10 508 v1.toNatClampNeg (rI S10 500 46))) (nL := 4) (cd := cd_2431) mx_2431 rfl rfl rfl rfl g ?_
        obtain ⟨S11, eS11, h⟩ := ltE h
        rw [← eS11]
        refine RR.runs (pc' := 181) (lc' := [(0, .ref 500), (1, .int v1), (2, .long v2)]) (st' := [.int (60 : Int32), .int (0 : Int32), .long (361292 : Int64), .ref 500]) (S1 := S11) (nL := 4) (cd := cd_2431) mx_2431 rfl rfl 4 rfl ?_
        obtain ⟨r12, S13, h1, h⟩ := bnE h
        refine RR.callV (b := 500) (as := [.long (361292 : Int64), .int (0 : Int32), .int (60 : Int32)]) (rest := []) (r1 := (some (.int r12))) (S1 := S13) mx_2431 rfl rfl mx_2425 rfl rfl (by decide) (Or.inl rfl) (Nat.le_of_ble_eq_true rfl) (Nat.le_of_ble_eq_true rfl) (RC.deep (by omega) (s_m_needsBoth (d := d) _ _ _ _ h1)) ?_
        show RR KM _ 2431 184 [(0, .ref 500), (1, .int v1), (2, .long v2)] [.int r12] S13 _ _
        refine RR.runs (pc' := icm .ne r12 0 189 187) (lc' := [(0, .ref 500), (1, .int v1), (2, .long v2)]) (st' := []) (S1 := S13) (nL := 4) (cd := cd_2431) mx_2431 rfl rfl 1 rfl ?_
        rcases ifE h with ⟨c, h⟩ | ⟨c, h⟩
        · refine RR.c_ne (fun _ => ?_) (fun q => absurd c q)
          refine RR.runs (pc' := 188) (lc' := [(0, .ref 500), (1, .int v1), (2, .long v2)]) (st' := [.int (0 : Int32)]) (S1 := S13) (nL := 4) (cd := cd_2431) mx_2431 rfl rfl 1 rfl ?_
          cases h
          exact RR.retz mx_2431 rfl rfl rfl rfl
        · refine RR.c_ne (fun q => absurd q c) (fun _ => ?_)
          refine RR.runs (pc' := 198) (lc' := [(0, .ref 500), (1, .int v1), (2, .long v2)]) (st' := [.int (rI S13 500 46), .int v1, .ref 509]) (S1 := S13) (nL := 4) (cd := cd_2431) mx_2431 rfl rfl 5 rfl ?_
          obtain ⟨g, h⟩ := gnE h
          refine RR.gPN (c2 := (KM.1 509).1 = 1) (pc' := 199) (lc' := [(0, .ref 500), (1, .int v1), (2, .long v2)]) (st' := []) (S1 := (wI S13 509 v1.toNatClampNeg (rI S13 500 46))) (nL := 4) (cd := cd_2431) mx_2431 rfl rfl rfl rfl g ?_
          obtain ⟨S14, eS14, h⟩ := ltE h
          rw [← eS14]
          refine RR.runs (pc' := 206) (lc' := [(0, .ref 500), (1, .int v1), (2, .long v2)]) (st' := [.int (99 : Int32), .int (0 : Int32), .long (12532058 : Int64), .ref 500]) (S1 := S14) (nL := 4) (cd := cd_2431) mx_2431 rfl rfl 4 rfl ?_
          obtain ⟨r15, S16, h1, h⟩ := bnE h
          refine RR.callV (b := 500) (as := [.long (12532058 : Int64), .int (0 : Int32), .int (99 : Int32)]) (rest := []) (r1 := (some (.int r15))) (S1 := S16) mx_2431 rfl rfl mx_2425 rfl rfl (by decide) (Or.inl rfl) (Nat.le_of_ble_eq_true rfl) (Nat.le_of_ble_eq_true rfl) (RC.deep (by omega) (s_m_needsBoth (d := d) _ _ _ _ h1)) ?_
          show RR KM _ 2431 209 [(0, .ref 500), (1, .int v1), (2, .long v2)] [.int r15] S16 _ _
          refine RR.runs (pc' := icm .ne r15 0 214 212) (lc' := [(0, .ref 500), (1, .int v1), (2, .long v2)]) (st' := []) (S1 := S16) (nL := 4) (cd := cd_2431) mx_2431 rfl rfl 1 rfl ?_
          rcases ifE h with ⟨c, h⟩ | ⟨c, h⟩
          · refine RR.c_ne (fun _ => ?_) (fun q => absurd c q)
            refine RR.runs (pc' := 213) (lc' := [(0, .ref 500), (1, .int v1), (2, .long v2)]) (st' := [.int (0 : Int32)]) (S1 := S16) (nL := 4) (cd := cd_2431) mx_2431 rfl rfl 1 rfl ?_
            cases h
            exact RR.retz mx_2431 rfl rfl rfl rfl
          · refine RR.c_ne (fun q => absurd q c) (fun _ => ?_)
            refine RR.runs (pc' := 223) (lc' := [(0, .ref 500), (1, .int v1), (2, .long v2)]) (st' := [.int (rI S16 500 46), .int v1, .ref 510]) (S1 := S16) (nL := 4) (cd := cd_2431) mx_2431 rfl rfl 5 rfl ?_
            obtain ⟨g, h⟩ := gnE h
            refine RR.gPN (c2 := (KM.1 510).1 = 1) (pc' := 224) (lc' := [(0, .ref 500), (1, .int v1), (2, .long v2)]) (st' := []) (S1 := (wI S16 510 v1.toNatClampNeg (rI S16 500 46))) (nL := 4) (cd := cd_2431) mx_2431 rfl rfl rfl rfl g ?_
            obtain ⟨S17, eS17, h⟩ := ltE h
            rw [← eS17]
            refine RR.runs (pc' := 230) (lc' := [(0, .ref 500), (1, .int v1), (2, .long v2)]) (st' := [.int (-1 : Int32), .int v1, .ref 511]) (S1 := S17) (nL := 4) (cd := cd_2431) mx_2431 rfl rfl 4 rfl ?_
            obtain ⟨g, h⟩ := gnE h
            refine RR.gPN (c2 := (KM.1 511).1 = 1) (pc' := 231) (lc' := [(0, .ref 500), (1, .int v1), (2, .long v2)]) (st' := []) (S1 := (wI S17 511 v1.toNatClampNeg (-1 : Int32))) (nL := 4) (cd := cd_2431) mx_2431 rfl rfl rfl rfl g ?_
            obtain ⟨S18, eS18, h⟩ := ltE h
            rw [← eS18]
            refine RR.runs (pc' := 242) (lc' := [(0, .ref 500), (1, .int v1), (2, .long v2)]) (st' := [.int (7 : Int32), .ref 502, .int v1, .ref 505]) (S1 := S18) (nL := 4) (cd := cd_2431) mx_2431 rfl rfl 6 rfl ?_
            obtain ⟨g, h⟩ := gnE h
            refine RR.gPN (c2 := (KM.1 502).1 = 1) (pc' := 243) (lc' := [(0, .ref 500), (1, .int v1), (2, .long v2)]) (st' := [.int ((rI S18 502 (7 : Int32).toNatClampNeg)), .int v1, .ref 505]) (S1 := S18) (nL := 4) (cd := cd_2431) mx_2431 rfl rfl rfl rfl g ?_
            obtain ⟨g, h⟩ := gnE h
            refine RR.gPN (c2 := (KM.1 505).1 = 1) (pc' := 244) (lc' := [(0, .ref 500), (1, .int v1), (2, .long v2)]) (st' := []) (S1 := (wI S18 505 v1.toNatClampNeg ((rI S18 502 (7 : Int32).toNatClampNeg)))) (nL := 4) (cd := cd_2431) mx_2431 rfl rfl rfl rfl g ?_
            obtain ⟨S19, eS19, h⟩ := ltE h
            rw [← eS19]
            refine RR.runs (pc' := 246) (lc' := [(0, .ref 500), (1, .int v1), (2, .long v2)]) (st' := [.long v2, .ref 500]) (S1 := S19) (nL := 4) (cd := cd_2431) mx_2431 rfl rfl 2 rfl ?_
            obtain ⟨r20, S21, h1, h⟩ := bnE h
            refine RR.callV (b := 500) (as := [.long v2]) (rest := []) (r1 := none) (S1 := S21) mx_2431 rfl rfl mx_2430 rfl rfl (by decide) (Or.inl rfl) (Nat.le_of_ble_eq_true rfl) (Nat.le_of_ble_eq_true rfl) (RC.deep (by omega) (s_m_takesSound (d := d) _ _ h1)) ?_
            show RR KM _ 2431 249 [(0, .ref 500), (1, .int v1), (2, .long v2)] [] S21 _ _
            refine RR.runs (pc' := 256) (lc' := [(0, .ref 500), (1, .int v1), (2, .long v2)]) (st' := [.int (6 : Int32), .ref 502, .int (6 : Int32), .ref 502]) (S1 := S21) (nL := 4) (cd := cd_2431) mx_2431 rfl rfl 4 rfl ?_
            obtain ⟨g, h⟩ := gnE h
            refine RR.gPN (c2 := (KM.1 502).1 = 1) (pc' := 257) (lc' := [(0, .ref 500), (1, .int v1), (2, .long v2)]) (st' := [.int ((rI S21 502 (6 : Int32).toNatClampNeg)), .int (6 : Int32), .ref 502]) (S1 := S21) (nL := 4) (cd := cd_2431) mx_2431 rfl rfl rfl rfl g ?_
            refine RR.runs (pc' := 259) (lc' := [(0, .ref 500), (1, .int v1), (2, .long v2)]) (st' := [.int (((rI S21 502 (6 : Int32).toNatClampNeg) + (1 : Int32))), .int (6 : Int32), .ref 502]) (S1 := S21) (nL := 4) (cd := cd_2431) mx_2431 rfl rfl 2 rfl ?_
            obtain ⟨g, h⟩ := gnE h
            refine RR.gPN (c2 := (KM.1 502).1 = 1) (pc' := 260) (lc' := [(0, .ref 500), (1, .int v1), (2, .long v2)]) (st' := []) (S1 := (wI S21 502 (6 : Int32).toNatClampNeg (((rI S21 502 (6 : Int32).toNatClampNeg) + (1 : Int32))))) (nL := 4) (cd := cd_2431) mx_2431 rfl rfl rfl rfl g ?_
            obtain ⟨S22, eS22, h⟩ := ltE h
            rw [← eS22]
            refine RR.runs (pc' := 261) (lc' := [(0, .ref 500), (1, .int v1), (2, .long v2)]) (st' := [.ref 500]) (S1 := S22) (nL := 4) (cd := cd_2431) mx_2431 rfl rfl 1 rfl ?_
            obtain ⟨r23, S24, h1, h⟩ := bnE h
            refine RR.callV (b := 500) (as := []) (rest := []) (r1 := (some (.int r23))) (S1 := S24) mx_2431 rfl rfl mx_2426 rfl rfl (by decide) (Or.inl rfl) (Nat.le_of_ble_eq_true rfl) (Nat.le_of_ble_eq_true rfl) (RC.deep (by omega) (s_m_closes (d := d) _ h1)) ?_
            show RR KM _ 2431 264 [(0, .ref 500), (1, .int v1), (2, .long v2)] [.int r23] S24 _ _
            obtain ⟨g, h⟩ := gpE h
            cases h
            exact RR.retz mx_2431 rfl rfl rfl g
def m_readsApple (S : St) : Re Int32 :=
  if (6 : Int32) < 0 ∨ 12 ≤ (6 : Int32).toNatClampNeg then none else
  lt' (((10 : Int32) + (rI S 502 (6 : Int32).toNatClampNeg)) : Int32) fun x1 =>
  if x1 = (20 : Int32) then (
    bn (m_fails (5 : Int32) S) fun r2 S3 =>
    if isBo r2 = true then some (r2, S3) else none)
  else (
    bn (m_nextToken S) fun r4 S5 =>
    bn (m_isNew S5) fun r6 S7 =>
    if r6 = 0 then (
      some ((0 : Int32), S7))
    else (
      lt' ((rJ S7 500 7) : Int64) fun x8 =>
      bn (m_nextToken S7) fun r9 S10 =>
      bn (m_isWord (8740238 : Int64) S10) fun r11 S12 =>
      if r11 = 0 then (
        bn (m_isWord (774244 : Int64) S12) fun r13 S14 =>
        if r13 = 0 then (
          bn (m_isWord (12330827 : Int64) S14) fun r15 S16 =>
          if r15 = 0 then (
            bn (m_isWord (82410 : Int64) S16) fun r17 S18 =>
            if r17 = 0 then (
              m_readsApple_107 x1 x8 (-1 : Int32) x1 S18)
            else (
              m_readsApple_107 x1 x8 (3 : Int32) x1 S18))
          else (
            m_readsApple_107 x1 x8 (2 : Int32) x1 S16))
        else (
          m_readsApple_107 x1 x8 (1 : Int32) x1 S14))
      else (
        m_readsApple_107 x1 x8 (0 : Int32) x1 S12)))
set_option maxRecDepth 100000 in
theorem s0_m_readsApple {d : Nat} {S' : St} {r : Int32} (S : St) (h : m_readsApple S = some (r, S')) : RR KM (d + 4) 2431 0 [(0, .ref 500)] [] S (some (.int r)) S' := by
  unfold m_readsApple at h
  refine RR.runs (pc' := 8) (lc' := [(0, .ref 500)]) (st' := [.int (6 : Int32), .ref 502, .int (10 : Int32)]) (S1 := S) (nL := 4) (cd := cd_2431) mx_2431 rfl rfl 4 rfl ?_
  obtain ⟨g, h⟩ := gnE h
  refine RR.gPN (c2 := (KM.1 502).1 = 1) (pc' := 9) (lc' := [(0, .ref 500)]) (st' := [.int ((rI S 502 (6 : Int32).toNatClampNeg)), .int (10 : Int32)]) (S1 := S) (nL := 4) (cd := cd_2431) mx_2431 rfl rfl rfl rfl g ?_
  refine RR.runs (pc' := 11) (lc' := [(1, .int (((10 : Int32) + (rI S 502 (6 : Int32).toNatClampNeg)))), (0, .ref 500)]) (st' := []) (S1 := S) (nL := 4) (cd := cd_2431) mx_2431 rfl rfl 2 rfl ?_
  obtain ⟨x1, ex1, h⟩ := ltE h
  rw [← ex1]
  refine RR.runs (pc' := icm .ne x1 (20 : Int32) 23 17) (lc' := [(1, .int x1), (0, .ref 500)]) (st' := []) (S1 := S) (nL := 4) (cd := cd_2431) mx_2431 rfl rfl 3 rfl ?_
  rcases ifE h with ⟨c, h⟩ | ⟨c, h⟩
  · refine RR.c_ne (fun _ => ?_) (fun q => absurd c q)
    refine RR.runs (pc' := 19) (lc' := [(1, .int x1), (0, .ref 500)]) (st' := [.int (5 : Int32), .ref 500]) (S1 := S) (nL := 4) (cd := cd_2431) mx_2431 rfl rfl 2 rfl ?_
    obtain ⟨r2, S3, h1, h⟩ := bnE h
    refine RR.callV (b := 500) (as := [.int (5 : Int32)]) (rest := []) (r1 := (some (.int r2))) (S1 := S3) mx_2431 rfl rfl mx_2411 rfl rfl (by decide) (Or.inl rfl) (Nat.le_of_ble_eq_true rfl) (Nat.le_of_ble_eq_true rfl) (RC.deep (by omega) (s_m_fails (d := d) _ _ h1)) ?_
    show RR KM _ 2431 22 [(1, .int x1), (0, .ref 500)] [.int r2] S3 _ _
    obtain ⟨g, h⟩ := gpE h
    cases h
    exact RR.retz mx_2431 rfl rfl rfl g
  · refine RR.c_ne (fun q => absurd q c) (fun _ => ?_)
    refine RR.runs (pc' := 24) (lc' := [(1, .int x1), (0, .ref 500)]) (st' := [.ref 500]) (S1 := S) (nL := 4) (cd := cd_2431) mx_2431 rfl rfl 1 rfl ?_
    obtain ⟨r4, S5, h1, h⟩ := bnE h
    refine RR.callV (b := 500) (as := []) (rest := []) (r1 := none) (S1 := S5) mx_2431 rfl rfl mx_2408 rfl rfl (by decide) (Or.inl rfl) (Nat.le_of_ble_eq_true rfl) (Nat.le_of_ble_eq_true rfl) (RC.deep (by omega) (s_m_nextToken (d := d) _ h1)) ?_
    show RR KM _ 2431 27 [(1, .int x1), (0, .ref 500)] [] S5 _ _
    refine RR.runs (pc' := 28) (lc' := [(1, .int x1), (0, .ref 500)]) (st' := [.ref 500]) (S1 := S5) (nL := 4) (cd := cd_2431) mx_2431 rfl rfl 1 rfl ?_
    obtain ⟨r6, S7, h1, h⟩ := bnE h
    refine RR.callV (b := 500) (as := []) (rest := []) (r1 := (some (.int r6))) (S1 := S7) mx_2431 rfl rfl mx_2427 rfl rfl (by decide) (Or.inl rfl) (Nat.le_of_ble_eq_true rfl) (Nat.le_of_ble_eq_true rfl) (RC.deep (by omega) (s_m_isNew (d := d) _ h1)) ?_
    show RR KM _ 2431 31 [(1, .int x1), (0, .ref 500)] [.int r6] S7 _ _
    refine RR.runs (pc' := icm .ne r6 0 36 34) (lc' := [(1, .int x1), (0, .ref 500)]) (st' := []) (S1 := S7) (nL := 4) (cd := cd_2431) mx_2431 rfl rfl 1 rfl ?_
    rcases ifE h with ⟨c, h⟩ | ⟨c, h⟩
    · refine RR.c_ne (fun _ => ?_) (fun q => absurd c q)
      refine RR.runs (pc' := 35) (lc' := [(1, .int x1), (0, .ref 500)]) (st' := [.int (0 : Int32)]) (S1 := S7) (nL := 4) (cd := cd_2431) mx_2431 rfl rfl 1 rfl ?_
      cases h
      exact RR.retz mx_2431 rfl rfl rfl rfl
    · refine RR.c_ne (fun q => absurd q c) (fun _ => ?_)
      refine RR.runs (pc' := 41) (lc' := [(2, .long (rJ S7 500 7)), (1, .int x1), (0, .ref 500)]) (st' := []) (S1 := S7) (nL := 4) (cd := cd_2431) mx_2431 rfl rfl 3 rfl ?_
      obtain ⟨x8, ex8, h⟩ := ltE h
      rw [← ex8]
      refine RR.runs (pc' := 42) (lc' := [(2, .long x8), (1, .int x1), (0, .ref 500)]) (st' := [.ref 500]) (S1 := S7) (nL := 4) (cd := cd_2431) mx_2431 rfl rfl 1 rfl ?_
      obtain ⟨r9, S10, h1, h⟩ := bnE h
      refine RR.callV (b := 500) (as := []) (rest := []) (r1 := none) (S1 := S10) mx_2431 rfl rfl mx_2408 rfl rfl (by decide) (Or.inl rfl) (Nat.le_of_ble_eq_true rfl) (Nat.le_of_ble_eq_true rfl) (RC.deep (by omega) (s_m_nextToken (d := d) _ h1)) ?_
      show RR KM _ 2431 45 [(2, .long x8), (1, .int x1), (0, .ref 500)] [] S10 _ _
      refine RR.runs (pc' := 54) (lc' := [(2, .long x8), (1, .int x1), (0, .ref 500)]) (st' := [.long (8740238 : Int64), .ref 500, .int x1, .ref 506]) (S1 := S10) (nL := 4) (cd := cd_2431) mx_2431 rfl rfl 5 rfl ?_
      obtain ⟨r11, S12, h1, h⟩ := bnE h
      refine RR.callV (b := 500) (as := [.long (8740238 : Int64)]) (rest := [.int x1, .ref 506]) (r1 := (some (.int r11))) (S1 := S12) mx_2431 rfl rfl mx_2409 rfl rfl (by decide) (Or.inl rfl) (Nat.le_of_ble_eq_true rfl) (Nat.le_of_ble_eq_true rfl) (RC.deep (by omega) (s_m_isWord (d := d) _ _ h1)) ?_
      show RR KM _ 2431 57 [(2, .long x8), (1, .int x1), (0, .ref 500)] [.int r11, .int x1, .ref 506] S12 _ _
      refine RR.runs (pc' := icm .eq r11 0 64 60) (lc' := [(2, .long x8), (1, .int x1), (0, .ref 500)]) (st' := [.int x1, .ref 506]) (S1 := S12) (nL := 4) (cd := cd_2431) mx_2431 rfl rfl 1 rfl ?_
      rcases ifE h with ⟨c, h⟩ | ⟨c, h⟩
      · refine RR.c_eq (fun _ => ?_) (fun q => absurd c q)
        refine RR.runs (pc' := 68) (lc' := [(2, .long x8), (1, .int x1), (0, .ref 500)]) (st' := [.long (774244 : Int64), .ref 500, .int x1, .ref 506]) (S1 := S12) (nL := 4) (cd := cd_2431) mx_2431 rfl rfl 2 rfl ?_
        obtain ⟨r13, S14, h1, h⟩ := bnE h
        refine RR.callV (b := 500) (as := [.long (774244 : Int64)]) (rest := [.int x1, .ref 506]) (r1 := (some (.int r13))) (S1 := S14) mx_2431 rfl rfl mx_2409 rfl rfl (by decide) (Or.inl rfl) (Nat.le_of_ble_eq_true rfl) (Nat.le_of_ble_eq_true rfl) (RC.deep (by omega) (s_m_isWord (d := d) _ _ h1)) ?_
        show RR KM _ 2431 71 [(2, .long x8), (1, .int x1), (0, .ref 500)] [.int r13, .int x1, .ref 506] S14 _ _
        refine RR.runs (pc' := icm .eq r13 0 78 74) (lc' := [(2, .long x8), (1, .int x1), (0, .ref 500)]) (st' := [.int x1, .ref 506]) (S1 := S14) (nL := 4) (cd := cd_2431) mx_2431 rfl rfl 1 rfl ?_
        rcases ifE h with ⟨c, h⟩ | ⟨c, h⟩
        · refine RR.c_eq (fun _ => ?_) (fun q => absurd c q)
          refine RR.runs (pc' := 82) (lc' := [(2, .long x8), (1, .int x1), (0, .ref 500)]) (st' := [.long (12330827 : Int64), .ref 500, .int x1, .ref 506]) (S1 := S14) (nL := 4) (cd := cd_2431) mx_2431 rfl rfl 2 rfl ?_
          obtain ⟨r15, S16, h1, h⟩ := bnE h
          refine RR.callV (b := 500) (as := [.long (12330827 : Int64)]) (rest := [.int x1, .ref 506]) (r1 := (some (.int r15))) (S1 := S16) mx_2431 rfl rfl mx_2409 rfl rfl (by decide) (Or.inl rfl) (Nat.le_of_ble_eq_true rfl) (Nat.le_of_ble_eq_true rfl) (RC.deep (by omega) (s_m_isWord (d := d) _ _ h1)) ?_
          show RR KM _ 2431 85 [(2, .long x8), (1, .int x1), (0, .ref 500)] [.int r15, .int x1, .ref 506] S16 _ _
          refine RR.runs (pc' := icm .eq r15 0 92 88) (lc' := [(2, .long x8), (1, .int x1), (0, .ref 500)]) (st' := [.int x1, .ref 506]) (S1 := S16) (nL := 4) (cd := cd_2431) mx_2431 rfl rfl 1 rfl ?_
          rcases ifE h with ⟨c, h⟩ | ⟨c, h⟩
          · refine RR.c_eq (fun _ => ?_) (fun q => absurd c q)
            refine RR.runs (pc' := 96) (lc' := [(2, .long x8), (1, .int x1), (0, .ref 500)]) (st' := [.long (82410 : Int64), .ref 500, .int x1, .ref 506]) (S1 := S16) (nL := 4) (cd := cd_2431) mx_2431 rfl rfl 2 rfl ?_
            obtain ⟨r17, S18, h1, h⟩ := bnE h
            refine RR.callV (b := 500) (as := [.long (82410 : Int64)]) (rest := [.int x1, .ref 506]) (r1 := (some (.int r17))) (S1 := S18) mx_2431 rfl rfl mx_2409 rfl rfl (by decide) (Or.inl rfl) (Nat.le_of_ble_eq_true rfl) (Nat.le_of_ble_eq_true rfl) (RC.deep (by omega) (s_m_isWord (d := d) _ _ h1)) ?_
            show RR KM _ 2431 99 [(2, .long x8), (1, .int x1), (0, .ref 500)] [.int r17, .int x1, .ref 506] S18 _ _
            refine RR.runs (pc' := icm .eq r17 0 106 102) (lc' := [(2, .long x8), (1, .int x1), (0, .ref 500)]) (st' := [.int x1, .ref 506]) (S1 := S18) (nL := 4) (cd := cd_2431) mx_2431 rfl rfl 1 rfl ?_
            rcases ifE h with ⟨c, h⟩ | ⟨c, h⟩
            · refine RR.c_eq (fun _ => ?_) (fun q => absurd c q)
              refine RR.runs (pc' := 107) (lc' := [(2, .long x8), (1, .int x1), (0, .ref 500)]) (st' := [.int (-1 : Int32), .int x1, .ref 506]) (S1 := S18) (nL := 4) (cd := cd_2431) mx_2431 rfl rfl 1 rfl ?_
              refine RR.weak [(0, .ref 500), (1, .int x1), (2, .long x8)] ⟨rfl, rfl, rfl, trivial⟩ ?_
              exact s_m_readsApple_107 _ _ _ _ _ h
            · refine RR.c_eq (fun q => absurd q c) (fun _ => ?_)
              refine RR.runs (pc' := 107) (lc' := [(2, .long x8), (1, .int x1), (0, .ref 500)]) (st' := [.int (3 : Int32), .int x1, .ref 506]) (S1 := S18) (nL := 4) (cd := cd_2431) mx_2431 rfl rfl 2 rfl ?_
              refine RR.weak [(0, .ref 500), (1, .int x1), (2, .long x8)] ⟨rfl, rfl, rfl, trivial⟩ ?_
              exact s_m_readsApple_107 _ _ _ _ _ h
          · refine RR.c_eq (fun q => absurd q c) (fun _ => ?_)
            refine RR.runs (pc' := 107) (lc' := [(2, .long x8), (1, .int x1), (0, .ref 500)]) (st' := [.int (2 : Int32), .int x1, .ref 506]) (S1 := S16) (nL := 4) (cd := cd_2431) mx_2431 rfl rfl 2 rfl ?_
            refine RR.weak [(0, .ref 500), (1, .int x1), (2, .long x8)] ⟨rfl, rfl, rfl, trivial⟩ ?_
            exact s_m_readsApple_107 _ _ _ _ _ h
        · refine RR.c_eq (fun q => absurd q c) (fun _ => ?_)
          refine RR.runs (pc' := 107) (lc' := [(2, .long x8), (1, .int x1), (0, .ref 500)]) (st' := [.int (1 : Int32), .int x1, .ref 506]) (S1 := S14) (nL := 4) (cd := cd_2431) mx_2431 rfl rfl 2 rfl ?_
          refine RR.weak [(0, .ref 500), (1, .int x1), (2, .long x8)] ⟨rfl, rfl, rfl, trivial⟩ ?_
          exact s_m_readsApple_107 _ _ _ _ _ h
      · refine RR.c_eq (fun q => absurd q c) (fun _ => ?_)
        refine RR.runs (pc' := 107) (lc' := [(2, .long x8), (1, .int x1), (0, .ref 500)]) (st' := [.int (0 : Int32), .int x1, .ref 506]) (S1 := S12) (nL := 4) (cd := cd_2431) mx_2431 rfl rfl 2 rfl ?_
        refine RR.weak [(0, .ref 500), (1, .int x1), (2, .long x8)] ⟨rfl, rfl, rfl, trivial⟩ ?_
        exact s_m_readsApple_107 _ _ _ _ _ h
theorem s_m_readsApple {d : Nat} {S' : St} {r : Int32} (S : St) (h : m_readsApple S = some (r, S')) : RC KM (d + 4) 2431 [.ref 500] S (some (.int r)) S' := RC.of rfl (s0_m_readsApple S h)
-- readsTwin ()Z
def m_readsTwin_73 (S : St) : Re Int32 :=
  bn (m_fails (3 : Int32) S) fun r1 S2 =>
  if isBo r1 = true then some (r1, S2) else none
set_option maxRecDepth 100000 in
theorem s_m_readsTwin_73 {d : Nat} {S' : St} {r : Int32} (S : St) (h : m_readsTwin_73 S = some (r, S')) : RR KM (d + 3) 2432 73 [(0, .ref 500)] [] S (some (.int r)) S' := by
  unfold m_readsTwin_73 at h
  refine RR.runs (pc' := 75) (lc' := [(0, .ref 500)]) (st' := [.int (3 : Int32), .ref 500]) (S1 := S) (nL := 3) (cd := cd_2432) mx_2432 rfl rfl 2 rfl ?_
  obtain ⟨r1, S2, h1, h⟩ := bnE h
  refine RR.callV (b := 500) (as := [.int (3 : Int32)]) (rest := []) (r1 := (some (.int r1))) (S1 := S2) mx_2432 rfl rfl mx_2411 rfl rfl (by decide) (Or.inl rfl) (Nat.le_of_ble_eq_true rfl) (Nat.le_of_ble_eq_true rfl) (RC.deep (by omega) (s_m_fails (d := d) _ _ h1)) ?_
  show RR KM _ 2432 78 [(0, .ref 500)] [.int r1] S2 _ _
  obtain ⟨g, h⟩ := gpE h
  cases h
  exact RR.retz mx_2432 rfl rfl rfl g
def m_readsTwin (S : St) : Re Int32 :=
  bn (m_nextToken S) fun r1 S2 =>
  bn (m_needsApple (1 : Int32) S2) fun r3 S4 =>
  if r3 = 0 then (
    some ((0 : Int32), S4))
  else (
    lt' ((rI S4 500 46) : Int32) fun x5 =>
    if ((10 : Int32) + x5) < 0 ∨ 20 ≤ (((10 : Int32) + x5)).toNatClampNeg then none else
    if (rI S4 511 (((10 : Int32) + x5)).toNatClampNeg) < 0 then (
      bn (m_nextToken S4) fun r6 S7 =>
      bn (m_needsApple (1 : Int32) S7) fun r8 S9 =>
      if r8 = 0 then (
        some ((0 : Int32), S9))
      else (
        lt' ((rI S9 500 46) : Int32) fun x10 =>
        if x5 = x10 then (
          m_readsTwin_73 S9)
        else (
          if ((10 : Int32) + x10) < 0 ∨ 20 ≤ (((10 : Int32) + x10)).toNatClampNeg then none else
          if (rI S9 511 (((10 : Int32) + x10)).toNatClampNeg) < 0 then (
            bn (m_nextToken S9) fun r11 S12 =>
            if ((10 : Int32) + x5) < 0 ∨ 20 ≤ (((10 : Int32) + x5)).toNatClampNeg then none else
            lt' (wI S12 511 (((10 : Int32) + x5)).toNatClampNeg x10) fun S13 =>
            if ((10 : Int32) + x10) < 0 ∨ 20 ≤ (((10 : Int32) + x10)).toNatClampNeg then none else
            lt' (wI S13 511 (((10 : Int32) + x10)).toNatClampNeg x5) fun S14 =>
            bn (m_closes S14) fun r15 S16 =>
            if isBo r15 = true then some (r15, S16) else none)
          else (
            m_readsTwin_73 S9))))
    else (
      bn (m_fails (3 : Int32) S4) fun r17 S18 =>
      if isBo r17 = true then some (r17, S18) else none))
set_option maxRecDepth 100000 in
theorem s0_m_readsTwin {d : Nat} {S' : St} {r : Int32} (S : St) (h : m_readsTwin S = some (r, S')) : RR KM (d + 3) 2432 0 [(0, .ref 500)] [] S (some (.int r)) S' := by
  unfold m_readsTwin at h
  refine RR.runs (pc' := 1) (lc' := [(0, .ref 500)]) (st' := [.ref 500]) (S1 := S) (nL := 3) (cd := cd_2432) mx_2432 rfl rfl 1 rfl ?_
  obtain ⟨r1, S2, h1, h⟩ := bnE h
  refine RR.callV (b := 500) (as := []) (rest := []) (r1 := none) (S1 := S2) mx_2432 rfl rfl mx_2408 rfl rfl (by decide) (Or.inl rfl) (Nat.le_of_ble_eq_true rfl) (Nat.le_of_ble_eq_true rfl) (RC.deep (by omega) (s_m_nextToken (d := d) _ h1)) ?_
  show RR KM _ 2432 4 [(0, .ref 500)] [] S2 _ _
  refine RR.runs (pc' := 6) (lc' := [(0, .ref 500)]) (st' := [.int (1 : Int32), .ref 500]) (S1 := S2) (nL := 3) (cd := cd_2432) mx_2432 rfl rfl 2 rfl ?_
  obtain ⟨r3, S4, h1, h⟩ := bnE h
  refine RR.callV (b := 500) (as := [.int (1 : Int32)]) (rest := []) (r1 := (some (.int r3))) (S1 := S4) mx_2432 rfl rfl mx_2429 rfl rfl (by decide) (Or.inl rfl) (Nat.le_of_ble_eq_true rfl) (Nat.le_of_ble_eq_true rfl) (RC.deep (by omega) (s_m_needsApple (d := d) _ _ h1)) ?_
  show RR KM _ 2432 9 [(0, .ref 500)] [.int r3] S4 _ _
  refine RR.runs (pc' := icm .ne r3 0 14 12) (lc' := [(0, .ref 500)]) (st' := []) (S1 := S4) (nL := 3) (cd := cd_2432) mx_2432 rfl rfl 1 rfl ?_
  rcases ifE h with ⟨c, h⟩ | ⟨c, h⟩
  · refine RR.c_ne (fun _ => ?_) (fun q => absurd c q)
    refine RR.runs (pc' := 13) (lc' := [(0, .ref 500)]) (st' := [.int (0 : Int32)]) (S1 := S4) (nL := 3) (cd := cd_2432) mx_2432 rfl rfl 1 rfl ?_
    cases h
    exact RR.retz mx_2432 rfl rfl rfl rfl
  · refine RR.c_ne (fun q => absurd q c) (fun _ => ?_)
    refine RR.runs (pc' := 19) (lc' := [(1, .int (rI S4 500 46)), (0, .ref 500)]) (st' := []) (S1 := S4) (nL := 3) (cd := cd_2432) mx_2432 rfl rfl 3 rfl ?_
    obtain ⟨x5, ex5, h⟩ := ltE h
    rw [← ex5]
    refine RR.runs (pc' := 27) (lc' := [(1, .int x5), (0, .ref 500)]) (st' := [.int (((10 : Int32) + x5)), .ref 511]) (S1 := S4) (nL := 3) (cd := cd_2432) mx_2432 rfl rfl 5 rfl ?_
    obtain ⟨g, h⟩ := gnE h
    refine RR.gPN (c2 := (KM.1 511).1 = 1) (pc' := 28) (lc' := [(1, .int x5), (0, .ref 500)]) (st' := [.int ((rI S4 511 (((10 : Int32) + x5)).toNatClampNeg))]) (S1 := S4) (nL := 3) (cd := cd_2432) mx_2432 rfl rfl rfl rfl g ?_
    refine RR.runs (pc' := icm .lt ((rI S4 511 (((10 : Int32) + x5)).toNatClampNeg)) 0 37 31) (lc' := [(1, .int x5), (0, .ref 500)]) (st' := []) (S1 := S4) (nL := 3) (cd := cd_2432) mx_2432 rfl rfl 1 rfl ?_
    rcases ifE h with ⟨c, h⟩ | ⟨c, h⟩
    · refine RR.c_lt (fun _ => ?_) (fun q => absurd c q)
      refine RR.runs (pc' := 38) (lc' := [(1, .int x5), (0, .ref 500)]) (st' := [.ref 500]) (S1 := S4) (nL := 3) (cd := cd_2432) mx_2432 rfl rfl 1 rfl ?_
      obtain ⟨r6, S7, h1, h⟩ := bnE h
      refine RR.callV (b := 500) (as := []) (rest := []) (r1 := none) (S1 := S7) mx_2432 rfl rfl mx_2408 rfl rfl (by decide) (Or.inl rfl) (Nat.le_of_ble_eq_true rfl) (Nat.le_of_ble_eq_true rfl) (RC.deep (by omega) (s_m_nextToken (d := d) _ h1)) ?_
      show RR KM _ 2432 41 [(1, .int x5), (0, .ref 500)] [] S7 _ _
      refine RR.runs (pc' := 43) (lc' := [(1, .int x5), (0, .ref 500)]) (st' := [.int (1 : Int32), .ref 500]) (S1 := S7) (nL := 3) (cd := cd_2432) mx_2432 rfl rfl 2 rfl ?_
      obtain ⟨r8, S9, h1, h⟩ := bnE h
      refine RR.callV (b := 500) (as := [.int (1 : Int32)]) (rest := []) (r1 := (some (.int r8))) (S1 := S9) mx_2432 rfl rfl mx_2429 rfl rfl (by decide) (Or.inl rfl) (Nat.le_of_ble_eq_true rfl) (Nat.le_of_ble_eq_true rfl) (RC.deep (by omega) (s_m_needsApple (d := d) _ _ h1)) ?_
      show RR KM _ 2432 46 [(1, .int x5), (0, .ref 500)] [.int r8] S9 _ _
      refine RR.runs (pc' := icm .ne r8 0 51 49) (lc' := [(1, .int x5), (0, .ref 500)]) (st' := []) (S1 := S9) (nL := 3) (cd := cd_2432) mx_2432 rfl rfl 1 rfl ?_
      rcases ifE h with ⟨c, h⟩ | ⟨c, h⟩
      · refine RR.c_ne (fun _ => ?_) (fun q => absurd c q)
        refine RR.runs (pc' := 50) (lc' := [(1, .int x5), (0, .ref 500)]) (st' := [.int (0 : Int32)]) (S1 := S9) (nL := 3) (cd := cd_2432) mx_2432 rfl rfl 1 rfl ?_
        cases h
        exact RR.retz mx_2432 rfl rfl rfl rfl
      · refine RR.c_ne (fun q => absurd q c) (fun _ => ?_)
        refine RR.runs (pc' := 56) (lc' := [(2, .int (rI S9 500 46)), (1, .int x5), (0, .ref 500)]) (st' := []) (S1 := S9) (nL := 3) (cd := cd_2432) mx_2432 rfl rfl 3 rfl ?_
        obtain ⟨x10, ex10, h⟩ := ltE h
        rw [← ex10]
        refine RR.runs (pc' := icm .eq x5 x10 73 61) (lc' := [(2, .int x10), (1, .int x5), (0, .ref 500)]) (st' := []) (S1 := S9) (nL := 3) (cd := cd_2432) mx_2432 rfl rfl 3 rfl ?_
        rcases ifE h with ⟨c, h⟩ | ⟨c, h⟩
        · refine RR.c_eq (fun _ => ?_) (fun q => absurd c q)
          refine RR.weak [(0, .ref 500)] ⟨rfl, trivial⟩ ?_
          exact s_m_readsTwin_73 _ h
        · refine RR.c_eq (fun q => absurd q c) (fun _ => ?_)
          refine RR.runs (pc' := 69) (lc' := [(2, .int x10), (1, .int x5), (0, .ref 500)]) (st' := [.int (((10 : Int32) + x10)), .ref 511]) (S1 := S9) (nL := 3) (cd := cd_2432) mx_2432 rfl rfl 5 rfl ?_
          obtain ⟨g, h⟩ := gnE h
          refine RR.gPN (c2 := (KM.1 511).1 = 1) (pc' := 70) (lc' := [(2, .int x10), (1, .int x5), (0, .ref 500)]) (st' := [.int ((rI S9 511 (((10 : Int32) + x10)).toNatClampNeg))]) (S1 := S9) (nL := 3) (cd := cd_2432) mx_2432 rfl rfl rfl rfl g ?_
          refine RR.runs (pc' := icm .lt ((rI S9 511 (((10 : Int32) + x10)).toNatClampNeg)) 0 79 73) (lc' := [(2, .int x10), (1, .int x5), (0, .ref 500)]) (st' := []) (S1 := S9) (nL := 3) (cd := cd_2432) mx_2432 rfl rfl 1 rfl ?_
          rcases ifE h with ⟨c, h⟩ | ⟨c, h⟩
          · refine RR.c_lt (fun _ => ?_) (fun q => absurd c q)
            refine RR.runs (pc' := 80) (lc' := [(2, .int x10), (1, .int x5), (0, .ref 500)]) (st' := [.ref 500]) (S1 := S9) (nL := 3) (cd := cd_2432) mx_2432 rfl rfl 1 rfl ?_
            obtain ⟨r11, S12, h1, h⟩ := bnE h
            refine RR.callV (b := 500) (as := []) (rest := []) (r1 := none) (S1 := S12) mx_2432 rfl rfl mx_2408 rfl rfl (by decide) (Or.inl rfl) (Nat.le_of_ble_eq_true rfl) (Nat.le_of_ble_eq_true rfl) (RC.deep (by omega) (s_m_nextToken (d := d) _ h1)) ?_
            show RR KM _ 2432 83 [(2, .int x10), (1, .int x5), (0, .ref 500)] [] S12 _ _
            refine RR.runs (pc' := 92) (lc' := [(2, .int x10), (1, .int x5), (0, .ref 500)]) (st' := [.int x10, .int (((10 : Int32) + x5)), .ref 511]) (S1 := S12) (nL := 3) (cd := cd_2432) mx_2432 rfl rfl 6 rfl ?_
            obtain ⟨g, h⟩ := gnE h
            refine RR.gPN (c2 := (KM.1 511).1 = 1) (pc' := 93) (lc' := [(2, .int x10), (1, .int x5), (0, .ref 500)]) (st' := []) (S1 := (wI S12 511 (((10 : Int32) + x5)).toNatClampNeg x10)) (nL := 3) (cd := cd_2432) mx_2432 rfl rfl rfl rfl g ?_
            obtain ⟨S13, eS13, h⟩ := ltE h
            rw [← eS13]
            refine RR.runs (pc' := 102) (lc' := [(2, .int x10), (1, .int x5), (0, .ref 500)]) (st' := [.int x5, .int (((10 : Int32) + x10)), .ref 511]) (S1 := S13) (nL := 3) (cd := cd_2432) mx_2432 rfl rfl 6 rfl ?_
            obtain ⟨g, h⟩ := gnE h
            refine RR.gPN (c2 := (KM.1 511).1 = 1) (pc' := 103) (lc' := [(2, .int x10), (1, .int x5), (0, .ref 500)]) (st' := []) (S1 := (wI S13 511 (((10 : Int32) + x10)).toNatClampNeg x5)) (nL := 3) (cd := cd_2432) mx_2432 rfl rfl rfl rfl g ?_
            obtain ⟨S14, eS14, h⟩ := ltE h
            rw [← eS14]
            refine RR.runs (pc' := 104) (lc' := [(2, .int x10), (1, .int x5), (0, .ref 500)]) (st' := [.ref 500]) (S1 := S14) (nL := 3) (cd := cd_2432) mx_2432 rfl rfl 1 rfl ?_
            obtain ⟨r15, S16, h1, h⟩ := bnE h
            refine RR.callV (b := 500) (as := []) (rest := []) (r1 := (some (.int r15))) (S1 := S16) mx_2432 rfl rfl mx_2426 rfl rfl (by decide) (Or.inl rfl) (Nat.le_of_ble_eq_true rfl) (Nat.le_of_ble_eq_true rfl) (RC.deep (by omega) (s_m_closes (d := d) _ h1)) ?_
            show RR KM _ 2432 107 [(2, .int x10), (1, .int x5), (0, .ref 500)] [.int r15] S16 _ _
            obtain ⟨g, h⟩ := gpE h
            cases h
            exact RR.retz mx_2432 rfl rfl rfl g
          · refine RR.c_lt (fun q => absurd q c) (fun _ => ?_)
            refine RR.weak [(0, .ref 500)] ⟨rfl, trivial⟩ ?_
            exact s_m_readsTwin_73 _ h
    · refine RR.c_lt (fun q => absurd q c) (fun _ => ?_)
      refine RR.runs (pc' := 33) (lc' := [(1, .int x5), (0, .ref 500)]) (st' := [.int (3 : Int32), .ref 500]) (S1 := S4) (nL := 3) (cd := cd_2432) mx_2432 rfl rfl 2 rfl ?_
      obtain ⟨r17, S18, h1, h⟩ := bnE h
      refine RR.callV (b := 500) (as := [.int (3 : Int32)]) (rest := []) (r1 := (some (.int r17))) (S1 := S18) mx_2432 rfl rfl mx_2411 rfl rfl (by decide) (Or.inl rfl) (Nat.le_of_ble_eq_true rfl) (Nat.le_of_ble_eq_true rfl) (RC.deep (by omega) (s_m_fails (d := d) _ _ h1)) ?_
      show RR KM _ 2432 36 [(1, .int x5), (0, .ref 500)] [.int r17] S18 _ _
      obtain ⟨g, h⟩ := gpE h
      cases h
      exact RR.retz mx_2432 rfl rfl rfl g
theorem s_m_readsTwin {d : Nat} {S' : St} {r : Int32} (S : St) (h : m_readsTwin S = some (r, S')) : RC KM (d + 3) 2432 [.ref 500] S (some (.int r)) S' := RC.of rfl (s0_m_readsTwin S h)
-- readsOther ()Z
def m_readsOther (S : St) : Re Int32 :=
  if (7 : Int32) < 0 ∨ 12 ≤ (7 : Int32).toNatClampNeg then none else
  if (6 : Int32) < 0 ∨ 12 ≤ (6 : Int32).toNatClampNeg then none else
  if ((rI S 502 (7 : Int32).toNatClampNeg) - (rI S 502 (6 : Int32).toNatClampNeg)) = (6 : Int32) then (
    bn (m_fails (5 : Int32) S) fun r1 S2 =>
    if isBo r1 = true then some (r1, S2) else none)
  else (
    bn (m_nextToken S) fun r3 S4 =>
    bn (m_isNew S4) fun r5 S6 =>
    if r5 = 0 then (
      some ((0 : Int32), S6))
    else (
      bn (m_takesSound (rJ S6 500 7) S6) fun r7 S8 =>
      bn (m_nextToken S8) fun r9 S10 =>
      bn (m_closes S10) fun r11 S12 =>
      if isBo r11 = true then some (r11, S12) else none))
set_option maxRecDepth 100000 in
theorem s0_m_readsOther {d : Nat} {S' : St} {r : Int32} (S : St) (h : m_readsOther S = some (r, S')) : RR KM (d + 3) 2433 0 [(0, .ref 500)] [] S (some (.int r)) S' := by
  unfold m_readsOther at h
  refine RR.runs (pc' := 6) (lc' := [(0, .ref 500)]) (st' := [.int (7 : Int32), .ref 502]) (S1 := S) (nL := 1) (cd := cd_2433) mx_2433 rfl rfl 3 rfl ?_
  obtain ⟨g, h⟩ := gnE h
  refine RR.gPN (c2 := (KM.1 502).1 = 1) (pc' := 7) (lc' := [(0, .ref 500)]) (st' := [.int ((rI S 502 (7 : Int32).toNatClampNeg))]) (S1 := S) (nL := 1) (cd := cd_2433) mx_2433 rfl rfl rfl rfl g ?_
  refine RR.runs (pc' := 13) (lc' := [(0, .ref 500)]) (st' := [.int (6 : Int32), .ref 502, .int ((rI S 502 (7 : Int32).toNatClampNeg))]) (S1 := S) (nL := 1) (cd := cd_2433) mx_2433 rfl rfl 3 rfl ?_
  obtain ⟨g, h⟩ := gnE h
  refine RR.gPN (c2 := (KM.1 502).1 = 1) (pc' := 14) (lc' := [(0, .ref 500)]) (st' := [.int ((rI S 502 (6 : Int32).toNatClampNeg)), .int ((rI S 502 (7 : Int32).toNatClampNeg))]) (S1 := S) (nL := 1) (cd := cd_2433) mx_2433 rfl rfl rfl rfl g ?_
  refine RR.runs (pc' := icm .ne (((rI S 502 (7 : Int32).toNatClampNeg) - (rI S 502 (6 : Int32).toNatClampNeg))) (6 : Int32) 26 20) (lc' := [(0, .ref 500)]) (st' := []) (S1 := S) (nL := 1) (cd := cd_2433) mx_2433 rfl rfl 3 rfl ?_
  rcases ifE h with ⟨c, h⟩ | ⟨c, h⟩
  · refine RR.c_ne (fun _ => ?_) (fun q => absurd c q)
    refine RR.runs (pc' := 22) (lc' := [(0, .ref 500)]) (st' := [.int (5 : Int32), .ref 500]) (S1 := S) (nL := 1) (cd := cd_2433) mx_2433 rfl rfl 2 rfl ?_
    obtain ⟨r1, S2, h1, h⟩ := bnE h
    refine RR.callV (b := 500) (as := [.int (5 : Int32)]) (rest := []) (r1 := (some (.int r1))) (S1 := S2) mx_2433 rfl rfl mx_2411 rfl rfl (by decide) (Or.inl rfl) (Nat.le_of_ble_eq_true rfl) (Nat.le_of_ble_eq_true rfl) (RC.deep (by omega) (s_m_fails (d := d) _ _ h1)) ?_
    show RR KM _ 2433 25 [(0, .ref 500)] [.int r1] S2 _ _
    obtain ⟨g, h⟩ := gpE h
    cases h
    exact RR.retz mx_2433 rfl rfl rfl g
  · refine RR.c_ne (fun q => absurd q c) (fun _ => ?_)
    refine RR.runs (pc' := 27) (lc' := [(0, .ref 500)]) (st' := [.ref 500]) (S1 := S) (nL := 1) (cd := cd_2433) mx_2433 rfl rfl 1 rfl ?_
    obtain ⟨r3, S4, h1, h⟩ := bnE h
    refine RR.callV (b := 500) (as := []) (rest := []) (r1 := none) (S1 := S4) mx_2433 rfl rfl mx_2408 rfl rfl (by decide) (Or.inl rfl) (Nat.le_of_ble_eq_true rfl) (Nat.le_of_ble_eq_true rfl) (RC.deep (by omega) (s_m_nextToken (d := d) _ h1)) ?_
    show RR KM _ 2433 30 [(0, .ref 500)] [] S4 _ _
    refine RR.runs (pc' := 31) (lc' := [(0, .ref 500)]) (st' := [.ref 500]) (S1 := S4) (nL := 1) (cd := cd_2433) mx_2433 rfl rfl 1 rfl ?_
    obtain ⟨r5, S6, h1, h⟩ := bnE h
    refine RR.callV (b := 500) (as := []) (rest := []) (r1 := (some (.int r5))) (S1 := S6) mx_2433 rfl rfl mx_2427 rfl rfl (by decide) (Or.inl rfl) (Nat.le_of_ble_eq_true rfl) (Nat.le_of_ble_eq_true rfl) (RC.deep (by omega) (s_m_isNew (d := d) _ h1)) ?_
    show RR KM _ 2433 34 [(0, .ref 500)] [.int r5] S6 _ _
    refine RR.runs (pc' := icm .ne r5 0 39 37) (lc' := [(0, .ref 500)]) (st' := []) (S1 := S6) (nL := 1) (cd := cd_2433) mx_2433 rfl rfl 1 rfl ?_
    rcases ifE h with ⟨c, h⟩ | ⟨c, h⟩
    · refine RR.c_ne (fun _ => ?_) (fun q => absurd c q)
      refine RR.runs (pc' := 38) (lc' := [(0, .ref 500)]) (st' := [.int (0 : Int32)]) (S1 := S6) (nL := 1) (cd := cd_2433) mx_2433 rfl rfl 1 rfl ?_
      cases h
      exact RR.retz mx_2433 rfl rfl rfl rfl
    · refine RR.c_ne (fun q => absurd q c) (fun _ => ?_)
      refine RR.runs (pc' := 44) (lc' := [(0, .ref 500)]) (st' := [.long (rJ S6 500 7), .ref 500]) (S1 := S6) (nL := 1) (cd := cd_2433) mx_2433 rfl rfl 3 rfl ?_
      obtain ⟨r7, S8, h1, h⟩ := bnE h
      refine RR.callV (b := 500) (as := [.long (rJ S6 500 7)]) (rest := []) (r1 := none) (S1 := S8) mx_2433 rfl rfl mx_2430 rfl rfl (by decide) (Or.inl rfl) (Nat.le_of_ble_eq_true rfl) (Nat.le_of_ble_eq_true rfl) (RC.deep (by omega) (s_m_takesSound (d := d) _ _ h1)) ?_
      show RR KM _ 2433 47 [(0, .ref 500)] [] S8 _ _
      refine RR.runs (pc' := 48) (lc' := [(0, .ref 500)]) (st' := [.ref 500]) (S1 := S8) (nL := 1) (cd := cd_2433) mx_2433 rfl rfl 1 rfl ?_
      obtain ⟨r9, S10, h1, h⟩ := bnE h
      refine RR.callV (b := 500) (as := []) (rest := []) (r1 := none) (S1 := S10) mx_2433 rfl rfl mx_2408 rfl rfl (by decide) (Or.inl rfl) (Nat.le_of_ble_eq_true rfl) (Nat.le_of_ble_eq_true rfl) (RC.deep (by omega) (s_m_nextToken (d := d) _ h1)) ?_
      show RR KM _ 2433 51 [(0, .ref 500)] [] S10 _ _
      refine RR.runs (pc' := 52) (lc' := [(0, .ref 500)]) (st' := [.ref 500]) (S1 := S10) (nL := 1) (cd := cd_2433) mx_2433 rfl rfl 1 rfl ?_
      obtain ⟨r11, S12, h1, h⟩ := bnE h
      refine RR.callV (b := 500) (as := []) (rest := []) (r1 := (some (.int r11))) (S1 := S12) mx_2433 rfl rfl mx_2426 rfl rfl (by decide) (Or.inl rfl) (Nat.le_of_ble_eq_true rfl) (Nat.le_of_ble_eq_true rfl) (RC.deep (by omega) (s_m_closes (d := d) _ h1)) ?_
      show RR KM _ 2433 55 [(0, .ref 500)] [.int r11] S12 _ _
      obtain ⟨g, h⟩ := gpE h
      cases h
      exact RR.retz mx_2433 rfl rfl rfl g
theorem s_m_readsOther {d : Nat} {S' : St} {r : Int32} (S : St) (h : m_readsOther S = some (r, S')) : RC KM (d + 3) 2433 [.ref 500] S (some (.int r)) S' := RC.of rfl (s0_m_readsOther S h)
-- firstLetter (J)I
def m_firstLetter_19 (v2 : Int64) (S : St) : Re Int32 :=
  some (v2.toInt32, S)
set_option maxRecDepth 100000 in
theorem s_m_firstLetter_19 {d : Nat} {S' : St} {r : Int32} (v2 : Int64) (S : St) (h : m_firstLetter_19 v2 S = some (r, S')) : RR KM (d + 0) 2434 19 [(2, .long v2)] [] S (some (.int r)) S' := by
  unfold m_firstLetter_19 at h
  refine RR.runs (pc' := 21) (lc' := [(2, .long v2)]) (st' := [.int v2.toInt32]) (S1 := S) (nL := 4) (cd := cd_2434) mx_2434 rfl rfl 2 rfl ?_
  cases h
  exact RR.reti mx_2434 rfl rfl rfl
def m_firstLetter_2 : Nat → Int64 → St → Re Int32
  | 0, _, _ => none
  | n + 1, v2, S =>
  if 0 < (lg_cmp v2 (26 : Int64)) then (
    lt' ((v2 / (27 : Int64)) : Int64) fun x1 =>
    m_firstLetter_2 n x1 S)
  else (
    m_firstLetter_19 v2 S)
set_option maxRecDepth 100000 in
theorem s_m_firstLetter_2 {d : Nat} {S' : St} {r : Int32} : ∀ (n : Nat) (v2 : Int64) (S : St), m_firstLetter_2 n v2 S = some (r, S') → RR KM (d + 0) 2434 2 [(2, .long v2)] [] S (some (.int r)) S' := by
  intro n
  induction n with
  | zero => intro v2 S h; simp only [m_firstLetter_2] at h; cases h
  | succ n ih =>
    intro v2 S h
    simp only [m_firstLetter_2] at h
    refine RR.runs (pc' := icm .le ((lg_cmp v2 (26 : Int64))) 0 19 10) (lc' := [(2, .long v2)]) (st' := []) (S1 := S) (nL := 4) (cd := cd_2434) mx_2434 rfl rfl 4 rfl ?_
    rcases ifE h with ⟨c, h⟩ | ⟨c, h⟩
    · refine RR.c_le (fun _ => ?_) (fun q => absurd c q)
      refine RR.runs (pc' := 16) (lc' := [(2, .long ((v2 / (27 : Int64))))]) (st' := []) (S1 := S) (nL := 4) (cd := cd_2434) mx_2434 rfl rfl 4 rfl ?_
      obtain ⟨x1, ex1, h⟩ := ltE h
      rw [← ex1]
      refine RR.runs (pc' := 2) (lc' := [(2, .long x1)]) (st' := []) (S1 := S) (nL := 4) (cd := cd_2434) mx_2434 rfl rfl 1 rfl ?_
      refine RR.weak [(2, .long x1)] ⟨rfl, trivial⟩ ?_
      exact ih _ _ h
    · refine RR.c_le (fun q => absurd q c) (fun _ => ?_)
      refine RR.weak [(2, .long v2)] ⟨rfl, trivial⟩ ?_
      exact s_m_firstLetter_19 _ _ h
def m_firstLetter (v0 : Int64) (S : St) : Re Int32 :=
  m_firstLetter_2 FU v0 S
set_option maxRecDepth 100000 in
theorem s0_m_firstLetter {d : Nat} {S' : St} {r : Int32} (v0 : Int64) (S : St) (h : m_firstLetter v0 S = some (r, S')) : RR KM (d + 0) 2434 0 [(0, .long v0)] [] S (some (.int r)) S' := by
  unfold m_firstLetter at h
  refine RR.runs (pc' := 2) (lc' := [(2, .long v0), (0, .long v0)]) (st' := []) (S1 := S) (nL := 4) (cd := cd_2434) mx_2434 rfl rfl 2 rfl ?_
  refine RR.weak [(2, .long v0)] ⟨rfl, trivial⟩ ?_
  exact s_m_firstLetter_2 _ _ _ h
theorem s_m_firstLetter {d : Nat} {S' : St} {r : Int32} (v0 : Int64) (S : St) (h : m_firstLetter v0 S = some (r, S')) : RC KM (d + 0) 2434 [.long v0] S (some (.int r)) S' := RC.of rfl (s0_m_firstLetter v0 S h)
-- readsPerson ()Z
def m_readsPerson_142 (v1 : Int32) (v2 : Int64) (S : St) : Re Int32 :=
  if v1 < 0 ∨ 10 ≤ v1.toNatClampNeg then none else
  lt' (wJ S 504 v1.toNatClampNeg v2) fun S1 =>
  if (8 : Int32) < 0 ∨ 12 ≤ (8 : Int32).toNatClampNeg then none else
  if (8 : Int32) < 0 ∨ 12 ≤ (8 : Int32).toNatClampNeg then none else
  lt' (wI S1 502 (8 : Int32).toNatClampNeg (((rI S1 502 (8 : Int32).toNatClampNeg) + (1 : Int32)))) fun S2 =>
  bn (m_closes S2) fun r3 S4 =>
  if isBo r3 = true then some (r3, S4) else none
set_option maxRecDepth 100000 in
theorem s_m_readsPerson_142 {d : Nat} {S' : St} {r : Int32} (v1 : Int32) (v2 : Int64) (S : St) (h : m_readsPerson_142 v1 v2 S = some (r, S')) : RR KM (d + 4) 2435 142 [(0, .ref 500), (1, .int v1), (2, .long v2)] [] S (some (.int r)) S' := by
  unfold m_readsPerson_142 at h
  refine RR.runs (pc' := 148) (lc' := [(0, .ref 500), (1, .int v1), (2, .long v2)]) (st' := [.long v2, .int v1, .ref 504]) (S1 := S) (nL := 4) (cd := cd_2435) mx_2435 rfl rfl 4 rfl ?_
  obtain ⟨g, h⟩ := gnE h
  refine RR.gPN (c2 := (KM.1 504).1 = 4) (pc' := 149) (lc' := [(0, .ref 500), (1, .int v1), (2, .long v2)]) (st' := []) (S1 := (wJ S 504 v1.toNatClampNeg v2)) (nL := 4) (cd := cd_2435) mx_2435 rfl rfl rfl rfl g ?_
  obtain ⟨S1, eS1, h⟩ := ltE h
  rw [← eS1]
  refine RR.runs (pc' := 156) (lc' := [(0, .ref 500), (1, .int v1), (2, .long v2)]) (st' := [.int (8 : Int32), .ref 502, .int (8 : Int32), .ref 502]) (S1 := S1) (nL := 4) (cd := cd_2435) mx_2435 rfl rfl 4 rfl ?_
  obtain ⟨g, h⟩ := gnE h
  refine RR.gPN (c2 := (KM.1 502).1 = 1) (pc' := 157) (lc' := [(0, .ref 500), (1, .int v1), (2, .long v2)]) (st' := [.int ((rI S1 502 (8 : Int32).toNatClampNeg)), .int (8 : Int32), .ref 502]) (S1 := S1) (nL := 4) (cd := cd_2435) mx_2435 rfl rfl rfl rfl g ?_
  refine RR.runs (pc' := 159) (lc' := [(0, .ref 500), (1, .int v1), (2, .long v2)]) (st' := [.int (((rI S1 502 (8 : Int32).toNatClampNeg) + (1 : Int32))), .int (8 : Int32), .ref 502]) (S1 := S1) (nL := 4) (cd := cd_2435) mx_2435 rfl rfl 2 rfl ?_
  obtain ⟨g, h⟩ := gnE h
  refine RR.gPN (c2 := (KM.1 502).1 = 1) (pc' := 160) (lc' := [(0, .ref 500), (1, .int v1), (2, .long v2)]) (st' := []) (S1 := (wI S1 502 (8 : Int32).toNatClampNeg (((rI S1 502 (8 : Int32).toNatClampNeg) + (1 : Int32))))) (nL := 4) (cd := cd_2435) mx_2435 rfl rfl rfl rfl g ?_
  obtain ⟨S2, eS2, h⟩ := ltE h
  rw [← eS2]
  refine RR.runs (pc' := 161) (lc' := [(0, .ref 500), (1, .int v1), (2, .long v2)]) (st' := [.ref 500]) (S1 := S2) (nL := 4) (cd := cd_2435) mx_2435 rfl rfl 1 rfl ?_
  obtain ⟨r3, S4, h1, h⟩ := bnE h
  refine RR.callV (b := 500) (as := []) (rest := []) (r1 := (some (.int r3))) (S1 := S4) mx_2435 rfl rfl mx_2426 rfl rfl (by decide) (Or.inl rfl) (Nat.le_of_ble_eq_true rfl) (Nat.le_of_ble_eq_true rfl) (RC.deep (by omega) (s_m_closes (d := d) _ h1)) ?_
  show RR KM _ 2435 164 [(0, .ref 500), (1, .int v1), (2, .long v2)] [.int r3] S4 _ _
  obtain ⟨g, h⟩ := gpE h
  cases h
  exact RR.retz mx_2435 rfl rfl rfl g
def m_readsPerson (S : St) : Re Int32 :=
  if (8 : Int32) < 0 ∨ 12 ≤ (8 : Int32).toNatClampNeg then none else
  lt' (((5 : Int32) + (rI S 502 (8 : Int32).toNatClampNeg)) : Int32) fun x1 =>
  if x1 = (10 : Int32) then (
    bn (m_fails (5 : Int32) S) fun r2 S3 =>
    if isBo r2 = true then some (r2, S3) else none)
  else (
    bn (m_nextToken S) fun r4 S5 =>
    bn (m_isNew S5) fun r6 S7 =>
    if r6 = 0 then (
      some ((0 : Int32), S7))
    else (
      lt' ((rJ S7 500 7) : Int64) fun x8 =>
      bn (m_nextToken S7) fun r9 S10 =>
      bn (m_needsBoth (237308 : Int64) (0 : Int32) (11 : Int32) S10) fun r11 S12 =>
      if r11 = 0 then (
        some ((0 : Int32), S12))
      else (
        if x1 < 0 ∨ 10 ≤ x1.toNatClampNeg then none else
        lt' (wI S12 512 x1.toNatClampNeg (rI S12 500 46)) fun S13 =>
        bn (m_needsBoth (247702 : Int64) (0 : Int32) (6 : Int32) S13) fun r14 S15 =>
        if r14 = 0 then (
          some ((0 : Int32), S15))
        else (
          if x1 < 0 ∨ 10 ≤ x1.toNatClampNeg then none else
          lt' (wI S15 513 x1.toNatClampNeg (rI S15 500 46)) fun S16 =>
          if x1 < 0 ∨ 10 ≤ x1.toNatClampNeg then none else
          lt' (wI S16 514 x1.toNatClampNeg (0 : Int32)) fun S17 =>
          bn (m_isWord (10631 : Int64) S17) fun r18 S19 =>
          if r18 = 0 then (
            m_readsPerson_142 x1 x8 S19)
          else (
            bn (m_nextToken S19) fun r20 S21 =>
            bn (m_needsSound (1 : Int32) S21) fun r22 S23 =>
            if r22 = 0 then (
              some ((0 : Int32), S23))
            else (
              bn (m_firstLetter (rJ S23 500 7) S23) fun r24 S25 =>
              if x1 < 0 ∨ 10 ≤ x1.toNatClampNeg then none else
              lt' (wI S25 514 x1.toNatClampNeg r24) fun S26 =>
              bn (m_nextToken S26) fun r27 S28 =>
              m_readsPerson_142 x1 x8 S28))))))
set_option maxRecDepth 100000 in
theorem s0_m_readsPerson {d : Nat} {S' : St} {r : Int32} (S : St) (h : m_readsPerson S = some (r, S')) : RR KM (d + 4) 2435 0 [(0, .ref 500)] [] S (some (.int r)) S' := by
  unfold m_readsPerson at h
  refine RR.runs (pc' := 7) (lc' := [(0, .ref 500)]) (st' := [.int (8 : Int32), .ref 502, .int (5 : Int32)]) (S1 := S) (nL := 4) (cd := cd_2435) mx_2435 rfl rfl 4 rfl ?_
  obtain ⟨g, h⟩ := gnE h
  refine RR.gPN (c2 := (KM.1 502).1 = 1) (pc' := 8) (lc' := [(0, .ref 500)]) (st' := [.int ((rI S 502 (8 : Int32).toNatClampNeg)), .int (5 : Int32)]) (S1 := S) (nL := 4) (cd := cd_2435) mx_2435 rfl rfl rfl rfl g ?_
  refine RR.runs (pc' := 10) (lc' := [(1, .int (((5 : Int32) + (rI S 502 (8 : Int32).toNatClampNeg)))), (0, .ref 500)]) (st' := []) (S1 := S) (nL := 4) (cd := cd_2435) mx_2435 rfl rfl 2 rfl ?_
  obtain ⟨x1, ex1, h⟩ := ltE h
  rw [← ex1]
  refine RR.runs (pc' := icm .ne x1 (10 : Int32) 22 16) (lc' := [(1, .int x1), (0, .ref 500)]) (st' := []) (S1 := S) (nL := 4) (cd := cd_2435) mx_2435 rfl rfl 3 rfl ?_
  rcases ifE h with ⟨c, h⟩ | ⟨c, h⟩
  · refine RR.c_ne (fun _ => ?_) (fun q => absurd c q)
    refine RR.runs (pc' := 18) (lc' := [(1, .int x1), (0, .ref 500)]) (st' := [.int (5 : Int32), .ref 500]) (S1 := S) (nL := 4) (cd := cd_2435) mx_2435 rfl rfl 2 rfl ?_
    obtain ⟨r2, S3, h1, h⟩ := bnE h
    refine RR.callV (b := 500) (as := [.int (5 : Int32)]) (rest := []) (r1 := (some (.int r2))) (S1 := S3) mx_2435 rfl rfl mx_2411 rfl rfl (by decide) (Or.inl rfl) (Nat.le_of_ble_eq_true rfl) (Nat.le_of_ble_eq_true rfl) (RC.deep (by omega) (s_m_fails (d := d) _ _ h1)) ?_
    show RR KM _ 2435 21 [(1, .int x1), (0, .ref 500)] [.int r2] S3 _ _
    obtain ⟨g, h⟩ := gpE h
    cases h
    exact RR.retz mx_2435 rfl rfl rfl g
  · refine RR.c_ne (fun q => absurd q c) (fun _ => ?_)
    refine RR.runs (pc' := 23) (lc' := [(1, .int x1), (0, .ref 500)]) (st' := [.ref 500]) (S1 := S) (nL := 4) (cd := cd_2435) mx_2435 rfl rfl 1 rfl ?_
    obtain ⟨r4, S5, h1, h⟩ := bnE h
    refine RR.callV (b := 500) (as := []) (rest := []) (r1 := none) (S1 := S5) mx_2435 rfl rfl mx_2408 rfl rfl (by decide) (Or.inl rfl) (Nat.le_of_ble_eq_true rfl) (Nat.le_of_ble_eq_true rfl) (RC.deep (by omega) (s_m_nextToken (d := d) _ h1)) ?_
    show RR KM _ 2435 26 [(1, .int x1), (0, .ref 500)] [] S5 _ _
    refine RR.runs (pc' := 27) (lc' := [(1, .int x1), (0, .ref 500)]) (st' := [.ref 500]) (S1 := S5) (nL := 4) (cd := cd_2435) mx_2435 rfl rfl 1 rfl ?_
    obtain ⟨r6, S7, h1, h⟩ := bnE h
    refine RR.callV (b := 500) (as := []) (rest := []) (r1 := (some (.int r6))) (S1 := S7) mx_2435 rfl rfl mx_2427 rfl rfl (by decide) (Or.inl rfl) (Nat.le_of_ble_eq_true rfl) (Nat.le_of_ble_eq_true rfl) (RC.deep (by omega) (s_m_isNew (d := d) _ h1)) ?_
    show RR KM _ 2435 30 [(1, .int x1), (0, .ref 500)] [.int r6] S7 _ _
    refine RR.runs (pc' := icm .ne r6 0 35 33) (lc' := [(1, .int x1), (0, .ref 500)]) (st' := []) (S1 := S7) (nL := 4) (cd := cd_2435) mx_2435 rfl rfl 1 rfl ?_
    rcases ifE h with ⟨c, h⟩ | ⟨c, h⟩
    · refine RR.c_ne (fun _ => ?_) (fun q => absurd c q)
      refine RR.runs (pc' := 34) (lc' := [(1, .int x1), (0, .ref 500)]) (st' := [.int (0 : Int32)]) (S1 := S7) (nL := 4) (cd := cd_2435) mx_2435 rfl rfl 1 rfl ?_
      cases h
      exact RR.retz mx_2435 rfl rfl rfl rfl
    · refine RR.c_ne (fun q => absurd q c) (fun _ => ?_)
      refine RR.runs (pc' := 40) (lc' := [(2, .long (rJ S7 500 7)), (1, .int x1), (0, .ref 500)]) (st' := []) (S1 := S7) (nL := 4) (cd := cd_2435) mx_2435 rfl rfl 3 rfl ?_
      obtain ⟨x8, ex8, h⟩ := ltE h
      rw [← ex8]
      refine RR.runs (pc' := 41) (lc' := [(2, .long x8), (1, .int x1), (0, .ref 500)]) (st' := [.ref 500]) (S1 := S7) (nL := 4) (cd := cd_2435) mx_2435 rfl rfl 1 rfl ?_
      obtain ⟨r9, S10, h1, h⟩ := bnE h
      refine RR.callV (b := 500) (as := []) (rest := []) (r1 := none) (S1 := S10) mx_2435 rfl rfl mx_2408 rfl rfl (by decide) (Or.inl rfl) (Nat.le_of_ble_eq_true rfl) (Nat.le_of_ble_eq_true rfl) (RC.deep (by omega) (s_m_nextToken (d := d) _ h1)) ?_
      show RR KM _ 2435 44 [(2, .long x8), (1, .int x1), (0, .ref 500)] [] S10 _ _
      refine RR.runs (pc' := 51) (lc' := [(2, .long x8), (1, .int x1), (0, .ref 500)]) (st' := [.int (11 : Int32), .int (0 : Int32), .long (237308 : Int64), .ref 500]) (S1 := S10) (nL := 4) (cd := cd_2435) mx_2435 rfl rfl 4 rfl ?_
      obtain ⟨r11, S12, h1, h⟩ := bnE h
      refine RR.callV (b := 500) (as := [.long (237308 : Int64), .int (0 : Int32), .int (11 : Int32)]) (rest := []) (r1 := (some (.int r11))) (S1 := S12) mx_2435 rfl rfl mx_2425 rfl rfl (by decide) (Or.inl rfl) (Nat.le_of_ble_eq_true rfl) (Nat.le_of_ble_eq_true rfl) (RC.deep (by omega) (s_m_needsBoth (d := d) _ _ _ _ h1)) ?_
      show RR KM _ 2435 54 [(2, .long x8), (1, .int x1), (0, .ref 500)] [.int r11] S12 _ _
      refine RR.runs (pc' := icm .ne r11 0 59 57) (lc' := [(2, .long x8), (1, .int x1), (0, .ref 500)]) (st' := []) (S1 := S12) (nL := 4) (cd := cd_2435) mx_2435 rfl rfl 1 rfl ?_
      rcases ifE h with ⟨c, h⟩ | ⟨c, h⟩
      · refine RR.c_ne (fun _ => ?_) (fun q => absurd c q)
        refine RR.runs (pc' := 58) (lc' := [(2, .long x8), (1, .int x1), (0, .ref 500)]) (st' := [.int (0 : Int32)]) (S1 := S12) (nL := 4) (cd := cd_2435) mx_2435 rfl rfl 1 rfl ?_
        cases h
        exact RR.retz mx_2435 rfl rfl rfl rfl
      · refine RR.c_ne (fun q => absurd q c) (fun _ => ?_)
        refine RR.runs (pc' := 68) (lc' := [(2, .long x8), (1, .int x1), (0, .ref 500)]) (st' := [.int (rI S12 500 46), .int x1, .ref 512]) (S1 := S12) (nL := 4) (cd := cd_2435) mx_2435 rfl rfl 5 rfl ?_
        obtain ⟨g, h⟩ := gnE h
        refine RR.gPN (c2 := (KM.1 512).1 = 1) (pc' := 69) (lc' := [(2, .long x8), (1, .int x1), (0, .ref 500)]) (st' := []) (S1 := (wI S12 512 x1.toNatClampNeg (rI S12 500 46))) (nL := 4) (cd := cd_2435) mx_2435 rfl rfl rfl rfl g ?_
        obtain ⟨S13, eS13, h⟩ := ltE h
        rw [← eS13]
        refine RR.runs (pc' := 76) (lc' := [(2, .long x8), (1, .int x1), (0, .ref 500)]) (st' := [.int (6 : Int32), .int (0 : Int32), .long (247702 : Int64), .ref 500]) (S1 := S13) (nL := 4) (cd := cd_2435) mx_2435 rfl rfl 4 rfl ?_
        obtain ⟨r14, S15, h1, h⟩ := bnE h
        refine RR.callV (b := 500) (as := [.long (247702 : Int64), .int (0 : Int32), .int (6 : Int32)]) (rest := []) (r1 := (some (.int r14))) (S1 := S15) mx_2435 rfl rfl mx_2425 rfl rfl (by decide) (Or.inl rfl) (Nat.le_of_ble_eq_true rfl) (Nat.le_of_ble_eq_true rfl) (RC.deep (by omega) (s_m_needsBoth (d := d) _ _ _ _ h1)) ?_
        show RR KM _ 2435 79 [(2, .long x8), (1, .int x1), (0, .ref 500)] [.int r14] S15 _ _
        refine RR.runs (pc' := icm .ne r14 0 84 82) (lc' := [(2, .long x8), (1, .int x1), (0, .ref 500)]) (st' := []) (S1 := S15) (nL := 4) (cd := cd_2435) mx_2435 rfl rfl 1 rfl ?_
        rcases ifE h with ⟨c, h⟩ | ⟨c, h⟩
        · refine RR.c_ne (fun _ => ?_) (fun q => absurd c q)
          refine RR.runs (pc' := 83) (lc' := [(2, .long x8), (1, .int x1), (0, .ref 500)]) (st' := [.int (0 : Int32)]) (S1 := S15) (nL := 4) (cd := cd_2435) mx_2435 rfl rfl 1 rfl ?_
          cases h
          exact RR.retz mx_2435 rfl rfl rfl rfl
        · refine RR.c_ne (fun q => absurd q c) (fun _ => ?_)
          refine RR.runs (pc' := 93) (lc' := [(2, .long x8), (1, .int x1), (0, .ref 500)]) (st' := [.int (rI S15 500 46), .int x1, .ref 513]) (S1 := S15) (nL := 4) (cd := cd_2435) mx_2435 rfl rfl 5 rfl ?_
          obtain ⟨g, h⟩ := gnE h
          refine RR.gPN (c2 := (KM.1 513).1 = 1) (pc' := 94) (lc' := [(2, .long x8), (1, .int x1), (0, .ref 500)]) (st' := []) (S1 := (wI S15 513 x1.toNatClampNeg (rI S15 500 46))) (nL := 4) (cd := cd_2435) mx_2435 rfl rfl rfl rfl g ?_
          obtain ⟨S16, eS16, h⟩ := ltE h
          rw [← eS16]
          refine RR.runs (pc' := 100) (lc' := [(2, .long x8), (1, .int x1), (0, .ref 500)]) (st' := [.int (0 : Int32), .int x1, .ref 514]) (S1 := S16) (nL := 4) (cd := cd_2435) mx_2435 rfl rfl 4 rfl ?_
          obtain ⟨g, h⟩ := gnE h
          refine RR.gPN (c2 := (KM.1 514).1 = 1) (pc' := 101) (lc' := [(2, .long x8), (1, .int x1), (0, .ref 500)]) (st' := []) (S1 := (wI S16 514 x1.toNatClampNeg (0 : Int32))) (nL := 4) (cd := cd_2435) mx_2435 rfl rfl rfl rfl g ?_
          obtain ⟨S17, eS17, h⟩ := ltE h
          rw [← eS17]
          refine RR.runs (pc' := 105) (lc' := [(2, .long x8), (1, .int x1), (0, .ref 500)]) (st' := [.long (10631 : Int64), .ref 500]) (S1 := S17) (nL := 4) (cd := cd_2435) mx_2435 rfl rfl 2 rfl ?_
          obtain ⟨r18, S19, h1, h⟩ := bnE h
          refine RR.callV (b := 500) (as := [.long (10631 : Int64)]) (rest := []) (r1 := (some (.int r18))) (S1 := S19) mx_2435 rfl rfl mx_2409 rfl rfl (by decide) (Or.inl rfl) (Nat.le_of_ble_eq_true rfl) (Nat.le_of_ble_eq_true rfl) (RC.deep (by omega) (s_m_isWord (d := d) _ _ h1)) ?_
          show RR KM _ 2435 108 [(2, .long x8), (1, .int x1), (0, .ref 500)] [.int r18] S19 _ _
          refine RR.runs (pc' := icm .eq r18 0 142 111) (lc' := [(2, .long x8), (1, .int x1), (0, .ref 500)]) (st' := []) (S1 := S19) (nL := 4) (cd := cd_2435) mx_2435 rfl rfl 1 rfl ?_
          rcases ifE h with ⟨c, h⟩ | ⟨c, h⟩
          · refine RR.c_eq (fun _ => ?_) (fun q => absurd c q)
            refine RR.weak [(0, .ref 500), (1, .int x1), (2, .long x8)] ⟨rfl, rfl, rfl, trivial⟩ ?_
            exact s_m_readsPerson_142 _ _ _ h
          · refine RR.c_eq (fun q => absurd q c) (fun _ => ?_)
            refine RR.runs (pc' := 112) (lc' := [(2, .long x8), (1, .int x1), (0, .ref 500)]) (st' := [.ref 500]) (S1 := S19) (nL := 4) (cd := cd_2435) mx_2435 rfl rfl 1 rfl ?_
            obtain ⟨r20, S21, h1, h⟩ := bnE h
            refine RR.callV (b := 500) (as := []) (rest := []) (r1 := none) (S1 := S21) mx_2435 rfl rfl mx_2408 rfl rfl (by decide) (Or.inl rfl) (Nat.le_of_ble_eq_true rfl) (Nat.le_of_ble_eq_true rfl) (RC.deep (by omega) (s_m_nextToken (d := d) _ h1)) ?_
            show RR KM _ 2435 115 [(2, .long x8), (1, .int x1), (0, .ref 500)] [] S21 _ _
            refine RR.runs (pc' := 117) (lc' := [(2, .long x8), (1, .int x1), (0, .ref 500)]) (st' := [.int (1 : Int32), .ref 500]) (S1 := S21) (nL := 4) (cd := cd_2435) mx_2435 rfl rfl 2 rfl ?_
            obtain ⟨r22, S23, h1, h⟩ := bnE h
            refine RR.callV (b := 500) (as := [.int (1 : Int32)]) (rest := []) (r1 := (some (.int r22))) (S1 := S23) mx_2435 rfl rfl mx_2428 rfl rfl (by decide) (Or.inl rfl) (Nat.le_of_ble_eq_true rfl) (Nat.le_of_ble_eq_true rfl) (RC.deep (by omega) (s_m_needsSound (d := d) _ _ h1)) ?_
            show RR KM _ 2435 120 [(2, .long x8), (1, .int x1), (0, .ref 500)] [.int r22] S23 _ _
            refine RR.runs (pc' := icm .ne r22 0 125 123) (lc' := [(2, .long x8), (1, .int x1), (0, .ref 500)]) (st' := []) (S1 := S23) (nL := 4) (cd := cd_2435) mx_2435 rfl rfl 1 rfl ?_
            rcases ifE h with ⟨c, h⟩ | ⟨c, h⟩
            · refine RR.c_ne (fun _ => ?_) (fun q => absurd c q)
              refine RR.runs (pc' := 124) (lc' := [(2, .long x8), (1, .int x1), (0, .ref 500)]) (st' := [.int (0 : Int32)]) (S1 := S23) (nL := 4) (cd := cd_2435) mx_2435 rfl rfl 1 rfl ?_
              cases h
              exact RR.retz mx_2435 rfl rfl rfl rfl
            · refine RR.c_ne (fun q => absurd q c) (fun _ => ?_)
              refine RR.runs (pc' := 134) (lc' := [(2, .long x8), (1, .int x1), (0, .ref 500)]) (st' := [.long (rJ S23 500 7), .int x1, .ref 514]) (S1 := S23) (nL := 4) (cd := cd_2435) mx_2435 rfl rfl 5 rfl ?_
              obtain ⟨r24, S25, h1, h⟩ := bnE h
              refine RR.callS (as := [.long (rJ S23 500 7)]) (rest := [.int x1, .ref 514]) (r1 := (some (.int r24))) (S1 := S25) mx_2435 rfl rfl mx_2434 rfl rfl (by decide) (Nat.le_of_ble_eq_true rfl) (Nat.le_of_ble_eq_true rfl) (Nat.le_of_ble_eq_true rfl) (RC.deep (by omega) (s_m_firstLetter (d := d) _ _ h1)) ?_
              show RR KM _ 2435 137 [(2, .long x8), (1, .int x1), (0, .ref 500)] [.int r24, .int x1, .ref 514] S25 _ _
              obtain ⟨g, h⟩ := gnE h
              refine RR.gPN (c2 := (KM.1 514).1 = 1) (pc' := 138) (lc' := [(2, .long x8), (1, .int x1), (0, .ref 500)]) (st' := []) (S1 := (wI S25 514 x1.toNatClampNeg r24)) (nL := 4) (cd := cd_2435) mx_2435 rfl rfl rfl rfl g ?_
              obtain ⟨S26, eS26, h⟩ := ltE h
              rw [← eS26]
              refine RR.runs (pc' := 139) (lc' := [(2, .long x8), (1, .int x1), (0, .ref 500)]) (st' := [.ref 500]) (S1 := S26) (nL := 4) (cd := cd_2435) mx_2435 rfl rfl 1 rfl ?_
              obtain ⟨r27, S28, h1, h⟩ := bnE h
              refine RR.callV (b := 500) (as := []) (rest := []) (r1 := none) (S1 := S28) mx_2435 rfl rfl mx_2408 rfl rfl (by decide) (Or.inl rfl) (Nat.le_of_ble_eq_true rfl) (Nat.le_of_ble_eq_true rfl) (RC.deep (by omega) (s_m_nextToken (d := d) _ h1)) ?_
              show RR KM _ 2435 142 [(2, .long x8), (1, .int x1), (0, .ref 500)] [] S28 _ _
              refine RR.weak [(0, .ref 500), (1, .int x1), (2, .long x8)] ⟨rfl, rfl, rfl, trivial⟩ ?_
              exact s_m_readsPerson_142 _ _ _ h
theorem s_m_readsPerson {d : Nat} {S' : St} {r : Int32} (S : St) (h : m_readsPerson S = some (r, S')) : RC KM (d + 4) 2435 [.ref 500] S (some (.int r)) S' := RC.of rfl (s0_m_readsPerson S h)
-- readsStranger ()Z
def m_readsStranger_58 (S : St) : Re Int32 :=
  bn (m_fails (3 : Int32) S) fun r1 S2 =>
  if isBo r1 = true then some (r1, S2) else none
set_option maxRecDepth 100000 in
theorem s_m_readsStranger_58 {d : Nat} {S' : St} {r : Int32} (S : St) (h : m_readsStranger_58 S = some (r, S')) : RR KM (d + 3) 2436 58 [(0, .ref 500)] [] S (some (.int r)) S' := by
  unfold m_readsStranger_58 at h
  refine RR.runs (pc' := 60) (lc' := [(0, .ref 500)]) (st' := [.int (3 : Int32), .ref 500]) (S1 := S) (nL := 3) (cd := cd_2436) mx_2436 rfl rfl 2 rfl ?_
  obtain ⟨r1, S2, h1, h⟩ := bnE h
  refine RR.callV (b := 500) (as := [.int (3 : Int32)]) (rest := []) (r1 := (some (.int r1))) (S1 := S2) mx_2436 rfl rfl mx_2411 rfl rfl (by decide) (Or.inl rfl) (Nat.le_of_ble_eq_true rfl) (Nat.le_of_ble_eq_true rfl) (RC.deep (by omega) (s_m_fails (d := d) _ _ h1)) ?_
  show RR KM _ 2436 63 [(0, .ref 500)] [.int r1] S2 _ _
  obtain ⟨g, h⟩ := gpE h
  cases h
  exact RR.retz mx_2436 rfl rfl rfl g
def m_readsStranger_70 (v1 : Int32) (S : St) : Re Int32 :=
  if v1 < 0 ∨ 12 ≤ v1.toNatClampNeg then none else
  lt' (wI S 515 v1.toNatClampNeg (rI S 500 46)) fun S1 =>
  bn (m_nextToken S1) fun r2 S3 =>
  bn (m_needsNumber (0 : Int32) (10 : Int32) S3) fun r4 S5 =>
  if r4 = 0 then (
    some ((0 : Int32), S5))
  else (
    if v1 < 0 ∨ 12 ≤ v1.toNatClampNeg then none else
    lt' (wI S5 516 v1.toNatClampNeg (rI S5 500 46)) fun S6 =>
    if (9 : Int32) < 0 ∨ 12 ≤ (9 : Int32).toNatClampNeg then none else
    if (9 : Int32) < 0 ∨ 12 ≤ (9 : Int32).toNatClampNeg then none else
    lt' (wI S6 502 (9 : Int32).toNatClampNeg (((rI S6 502 (9 : Int32).toNatClampNeg) + (1 : Int32)))) fun S7 =>
    bn (m_closes S7) fun r8 S9 =>
    if isBo r8 = true then some (r8, S9) else none)
set_option maxRecDepth 100000 in
theorem s_m_readsStranger_70 {d : Nat} {S' : St} {r : Int32} (v1 : Int32) (S : St) (h : m_readsStranger_70 v1 S = some (r, S')) : RR KM (d + 3) 2436 70 [(0, .ref 500), (1, .int v1)] [] S (some (.int r)) S' := by
  unfold m_readsStranger_70 at h
  refine RR.runs (pc' := 79) (lc' := [(0, .ref 500), (1, .int v1)]) (st' := [.int (rI S 500 46), .int v1, .ref 515]) (S1 := S) (nL := 3) (cd := cd_2436) mx_2436 rfl rfl 5 rfl ?_
  obtain ⟨g, h⟩ := gnE h
  refine RR.gPN (c2 := (KM.1 515).1 = 1) (pc' := 80) (lc' := [(0, .ref 500), (1, .int v1)]) (st' := []) (S1 := (wI S 515 v1.toNatClampNeg (rI S 500 46))) (nL := 3) (cd := cd_2436) mx_2436 rfl rfl rfl rfl g ?_
  obtain ⟨S1, eS1, h⟩ := ltE h
  rw [← eS1]
  refine RR.runs (pc' := 81) (lc' := [(0, .ref 500), (1, .int v1)]) (st' := [.ref 500]) (S1 := S1) (nL := 3) (cd := cd_2436) mx_2436 rfl rfl 1 rfl ?_
  obtain ⟨r2, S3, h1, h⟩ := bnE h
  refine RR.callV (b := 500) (as := []) (rest := []) (r1 := none) (S1 := S3) mx_2436 rfl rfl mx_2408 rfl rfl (by decide) (Or.inl rfl) (Nat.le_of_ble_eq_true rfl) (Nat.le_of_ble_eq_true rfl) (RC.deep (by omega) (s_m_nextToken (d := d) _ h1)) ?_
  show RR KM _ 2436 84 [(0, .ref 500), (1, .int v1)] [] S3 _ _
  refine RR.runs (pc' := 88) (lc' := [(0, .ref 500), (1, .int v1)]) (st' := [.int (10 : Int32), .int (0 : Int32), .ref 500]) (S1 := S3) (nL := 3) (cd := cd_2436) mx_2436 rfl rfl 3 rfl ?_
  obtain ⟨r4, S5, h1, h⟩ := bnE h
  refine RR.callV (b := 500) (as := [.int (0 : Int32), .int (10 : Int32)]) (rest := []) (r1 := (some (.int r4))) (S1 := S5) mx_2436 rfl rfl mx_2423 rfl rfl (by decide) (Or.inl rfl) (Nat.le_of_ble_eq_true rfl) (Nat.le_of_ble_eq_true rfl) (RC.deep (by omega) (s_m_needsNumber (d := d) _ _ _ h1)) ?_
  show RR KM _ 2436 91 [(0, .ref 500), (1, .int v1)] [.int r4] S5 _ _
  refine RR.runs (pc' := icm .ne r4 0 96 94) (lc' := [(0, .ref 500), (1, .int v1)]) (st' := []) (S1 := S5) (nL := 3) (cd := cd_2436) mx_2436 rfl rfl 1 rfl ?_
  rcases ifE h with ⟨c, h⟩ | ⟨c, h⟩
  · refine RR.c_ne (fun _ => ?_) (fun q => absurd c q)
    refine RR.runs (pc' := 95) (lc' := [(0, .ref 500), (1, .int v1)]) (st' := [.int (0 : Int32)]) (S1 := S5) (nL := 3) (cd := cd_2436) mx_2436 rfl rfl 1 rfl ?_
    cases h
    exact RR.retz mx_2436 rfl rfl rfl rfl
  · refine RR.c_ne (fun q => absurd q c) (fun _ => ?_)
    refine RR.runs (pc' := 105) (lc' := [(0, .ref 500), (1, .int v1)]) (st' := [.int (rI S5 500 46), .int v1, .ref 516]) (S1 := S5) (nL := 3) (cd := cd_2436) mx_2436 rfl rfl 5 rfl ?_
    obtain ⟨g, h⟩ := gnE h
    refine RR.gPN (c2 := (KM.1 516).1 = 1) (pc' := 106) (lc' := [(0, .ref 500), (1, .int v1)]) (st' := []) (S1 := (wI S5 516 v1.toNatClampNeg (rI S5 500 46))) (nL := 3) (cd := cd_2436) mx_2436 rfl rfl rfl rfl g ?_
    obtain ⟨S6, eS6, h⟩ := ltE h
    rw [← eS6]
    refine RR.runs (pc' := 113) (lc' := [(0, .ref 500), (1, .int v1)]) (st' := [.int (9 : Int32), .ref 502, .int (9 : Int32), .ref 502]) (S1 := S6) (nL := 3) (cd := cd_2436) mx_2436 rfl rfl 4 rfl ?_
    obtain ⟨g, h⟩ := gnE h
    refine RR.gPN (c2 := (KM.1 502).1 = 1) (pc' := 114) (lc' := [(0, .ref 500), (1, .int v1)]) (st' := [.int ((rI S6 502 (9 : Int32).toNatClampNeg)), .int (9 : Int32), .ref 502]) (S1 := S6) (nL := 3) (cd := cd_2436) mx_2436 rfl rfl rfl rfl g ?_
    refine RR.runs (pc' := 116) (lc' := [(0, .ref 500), (1, .int v1)]) (st' := [.int (((rI S6 502 (9 : Int32).toNatClampNeg) + (1 : Int32))), .int (9 : Int32), .ref 502]) (S1 := S6) (nL := 3) (cd := cd_2436) mx_2436 rfl rfl 2 rfl ?_
    obtain ⟨g, h⟩ := gnE h
    refine RR.gPN (c2 := (KM.1 502).1 = 1) (pc' := 117) (lc' := [(0, .ref 500), (1, .int v1)]) (st' := []) (S1 := (wI S6 502 (9 : Int32).toNatClampNeg (((rI S6 502 (9 : Int32).toNatClampNeg) + (1 : Int32))))) (nL := 3) (cd := cd_2436) mx_2436 rfl rfl rfl rfl g ?_
    obtain ⟨S7, eS7, h⟩ := ltE h
    rw [← eS7]
    refine RR.runs (pc' := 118) (lc' := [(0, .ref 500), (1, .int v1)]) (st' := [.ref 500]) (S1 := S7) (nL := 3) (cd := cd_2436) mx_2436 rfl rfl 1 rfl ?_
    obtain ⟨r8, S9, h1, h⟩ := bnE h
    refine RR.callV (b := 500) (as := []) (rest := []) (r1 := (some (.int r8))) (S1 := S9) mx_2436 rfl rfl mx_2426 rfl rfl (by decide) (Or.inl rfl) (Nat.le_of_ble_eq_true rfl) (Nat.le_of_ble_eq_true rfl) (RC.deep (by omega) (s_m_closes (d := d) _ h1)) ?_
    show RR KM _ 2436 121 [(0, .ref 500), (1, .int v1)] [.int r8] S9 _ _
    obtain ⟨g, h⟩ := gpE h
    cases h
    exact RR.retz mx_2436 rfl rfl rfl g
def m_readsStranger_40 : Nat → Int32 → Int32 → St → Re Int32
  | 0, _, _, _ => none
  | n + 1, v1, v2, S =>
  if v2 < v1 then (
    if v2 < 0 ∨ 12 ≤ v2.toNatClampNeg then none else
    if (rI S 515 v2.toNatClampNeg) = (rI S 500 46) then (
      m_readsStranger_58 S)
    else (
      lt' ((v2 + (1 : Int32)) : Int32) fun x1 =>
      m_readsStranger_40 n v1 x1 S))
  else (
    m_readsStranger_70 v1 S)
set_option maxRecDepth 100000 in
theorem s_m_readsStranger_40 {d : Nat} {S' : St} {r : Int32} : ∀ (n : Nat) (v1 : Int32) (v2 : Int32) (S : St), m_readsStranger_40 n v1 v2 S = some (r, S') → RR KM (d + 3) 2436 40 [(0, .ref 500), (1, .int v1), (2, .int v2)] [] S (some (.int r)) S' := by
  intro n
  induction n with
  | zero => intro v1 v2 S h; simp only [m_readsStranger_40] at h; cases h
  | succ n ih =>
    intro v1 v2 S h
    simp only [m_readsStranger_40] at h
    refine RR.runs (pc' := icm .ge v2 v1 70 45) (lc' := [(0, .ref 500), (1, .int v1), (2, .int v2)]) (st' := []) (S1 := S) (nL := 3) (cd := cd_2436) mx_2436 rfl rfl 3 rfl ?_
    rcases ifE h with ⟨c, h⟩ | ⟨c, h⟩
    · refine RR.c_ge (fun _ => ?_) (fun q => absurd c q)
      refine RR.runs (pc' := 50) (lc' := [(0, .ref 500), (1, .int v1), (2, .int v2)]) (st' := [.int v2, .ref 515]) (S1 := S) (nL := 3) (cd := cd_2436) mx_2436 rfl rfl 3 rfl ?_
      obtain ⟨g, h⟩ := gnE h
      refine RR.gPN (c2 := (KM.1 515).1 = 1) (pc' := 51) (lc' := [(0, .ref 500), (1, .int v1), (2, .int v2)]) (st' := [.int (rI S 515 v2.toNatClampNeg)]) (S1 := S) (nL := 3) (cd := cd_2436) mx_2436 rfl rfl rfl rfl g ?_
      refine RR.runs (pc' := icm .ne (rI S 515 v2.toNatClampNeg) (rI S 500 46) 64 58) (lc' := [(0, .ref 500), (1, .int v1), (2, .int v2)]) (st' := []) (S1 := S) (nL := 3) (cd := cd_2436) mx_2436 rfl rfl 3 rfl ?_
      rcases ifE h with ⟨c, h⟩ | ⟨c, h⟩
      · refine RR.c_ne (fun _ => ?_) (fun q => absurd c q)
        refine RR.weak [(0, .ref 500)] ⟨rfl, trivial⟩ ?_
        exact s_m_readsStranger_58 _ h
      · refine RR.c_ne (fun q => absurd q c) (fun _ => ?_)
        refine RR.runs (pc' := 67) (lc' := [(2, .int ((v2 + (1 : Int32)))), (0, .ref 500), (1, .int v1)]) (st' := []) (S1 := S) (nL := 3) (cd := cd_2436) mx_2436 rfl rfl 1 rfl ?_
        obtain ⟨x1, ex1, h⟩ := ltE h
        rw [← ex1]
        refine RR.runs (pc' := 40) (lc' := [(2, .int x1), (0, .ref 500), (1, .int v1)]) (st' := []) (S1 := S) (nL := 3) (cd := cd_2436) mx_2436 rfl rfl 1 rfl ?_
        refine RR.weak [(0, .ref 500), (1, .int v1), (2, .int x1)] ⟨rfl, rfl, rfl, trivial⟩ ?_
        exact ih _ _ _ h
    · refine RR.c_ge (fun q => absurd q c) (fun _ => ?_)
      refine RR.weak [(0, .ref 500), (1, .int v1)] ⟨rfl, rfl, trivial⟩ ?_
      exact s_m_readsStranger_70 _ _ h
def m_readsStranger (S : St) : Re Int32 :=
  if (9 : Int32) < 0 ∨ 12 ≤ (9 : Int32).toNatClampNeg then none else
  lt' (((6 : Int32) + (rI S 502 (9 : Int32).toNatClampNeg)) : Int32) fun x1 =>
  if x1 = (12 : Int32) then (
    bn (m_fails (5 : Int32) S) fun r2 S3 =>
    if isBo r2 = true then some (r2, S3) else none)
  else (
    bn (m_nextToken S) fun r4 S5 =>
    bn (m_needsSound (1 : Int32) S5) fun r6 S7 =>
    if r6 = 0 then (
      some ((0 : Int32), S7))
    else (
      m_readsStranger_40 FU x1 (6 : Int32) S7))
set_option maxRecDepth 100000 in
theorem s0_m_readsStranger {d : Nat} {S' : St} {r : Int32} (S : St) (h : m_readsStranger S = some (r, S')) : RR KM (d + 3) 2436 0 [(0, .ref 500)] [] S (some (.int r)) S' := by
  unfold m_readsStranger at h
  refine RR.runs (pc' := 8) (lc' := [(0, .ref 500)]) (st' := [.int (9 : Int32), .ref 502, .int (6 : Int32)]) (S1 := S) (nL := 3) (cd := cd_2436) mx_2436 rfl rfl 4 rfl ?_
  obtain ⟨g, h⟩ := gnE h
  refine RR.gPN (c2 := (KM.1 502).1 = 1) (pc' := 9) (lc' := [(0, .ref 500)]) (st' := [.int ((rI S 502 (9 : Int32).toNatClampNeg)), .int (6 : Int32)]) (S1 := S) (nL := 3) (cd := cd_2436) mx_2436 rfl rfl rfl rfl g ?_
  refine RR.runs (pc' := 11) (lc' := [(1, .int (((6 : Int32) + (rI S 502 (9 : Int32).toNatClampNeg)))), (0, .ref 500)]) (st' := []) (S1 := S) (nL := 3) (cd := cd_2436) mx_2436 rfl rfl 2 rfl ?_
  obtain ⟨x1, ex1, h⟩ := ltE h
  rw [← ex1]
  refine RR.runs (pc' := icm .ne x1 (12 : Int32) 23 17) (lc' := [(1, .int x1), (0, .ref 500)]) (st' := []) (S1 := S) (nL := 3) (cd := cd_2436) mx_2436 rfl rfl 3 rfl ?_
  rcases ifE h with ⟨c, h⟩ | ⟨c, h⟩
  · refine RR.c_ne (fun _ => ?_) (fun q => absurd c q)
    refine RR.runs (pc' := 19) (lc' := [(1, .int x1), (0, .ref 500)]) (st' := [.int (5 : Int32), .ref 500]) (S1 := S) (nL := 3) (cd := cd_2436) mx_2436 rfl rfl 2 rfl ?_
    obtain ⟨r2, S3, h1, h⟩ := bnE h
    refine RR.callV (b := 500) (as := [.int (5 : Int32)]) (rest := []) (r1 := (some (.int r2))) (S1 := S3) mx_2436 rfl rfl mx_2411 rfl rfl (by decide) (Or.inl rfl) (Nat.le_of_ble_eq_true rfl) (Nat.le_of_ble_eq_true rfl) (RC.deep (by omega) (s_m_fails (d := d) _ _ h1)) ?_
    show RR KM _ 2436 22 [(1, .int x1), (0, .ref 500)] [.int r2] S3 _ _
    obtain ⟨g, h⟩ := gpE h
    cases h
    exact RR.retz mx_2436 rfl rfl rfl g
  · refine RR.c_ne (fun q => absurd q c) (fun _ => ?_)
    refine RR.runs (pc' := 24) (lc' := [(1, .int x1), (0, .ref 500)]) (st' := [.ref 500]) (S1 := S) (nL := 3) (cd := cd_2436) mx_2436 rfl rfl 1 rfl ?_
    obtain ⟨r4, S5, h1, h⟩ := bnE h
    refine RR.callV (b := 500) (as := []) (rest := []) (r1 := none) (S1 := S5) mx_2436 rfl rfl mx_2408 rfl rfl (by decide) (Or.inl rfl) (Nat.le_of_ble_eq_true rfl) (Nat.le_of_ble_eq_true rfl) (RC.deep (by omega) (s_m_nextToken (d := d) _ h1)) ?_
    show RR KM _ 2436 27 [(1, .int x1), (0, .ref 500)] [] S5 _ _
    refine RR.runs (pc' := 29) (lc' := [(1, .int x1), (0, .ref 500)]) (st' := [.int (1 : Int32), .ref 500]) (S1 := S5) (nL := 3) (cd := cd_2436) mx_2436 rfl rfl 2 rfl ?_
    obtain ⟨r6, S7, h1, h⟩ := bnE h
    refine RR.callV (b := 500) (as := [.int (1 : Int32)]) (rest := []) (r1 := (some (.int r6))) (S1 := S7) mx_2436 rfl rfl mx_2428 rfl rfl (by decide) (Or.inl rfl) (Nat.le_of_ble_eq_true rfl) (Nat.le_of_ble_eq_true rfl) (RC.deep (by omega) (s_m_needsSound (d := d) _ _ h1)) ?_
    show RR KM _ 2436 32 [(1, .int x1), (0, .ref 500)] [.int r6] S7 _ _
    refine RR.runs (pc' := icm .ne r6 0 37 35) (lc' := [(1, .int x1), (0, .ref 500)]) (st' := []) (S1 := S7) (nL := 3) (cd := cd_2436) mx_2436 rfl rfl 1 rfl ?_
    rcases ifE h with ⟨c, h⟩ | ⟨c, h⟩
    · refine RR.c_ne (fun _ => ?_) (fun q => absurd c q)
      refine RR.runs (pc' := 36) (lc' := [(1, .int x1), (0, .ref 500)]) (st' := [.int (0 : Int32)]) (S1 := S7) (nL := 3) (cd := cd_2436) mx_2436 rfl rfl 1 rfl ?_
      cases h
      exact RR.retz mx_2436 rfl rfl rfl rfl
    · refine RR.c_ne (fun q => absurd q c) (fun _ => ?_)
      refine RR.runs (pc' := 40) (lc' := [(2, .int (6 : Int32)), (1, .int x1), (0, .ref 500)]) (st' := []) (S1 := S7) (nL := 3) (cd := cd_2436) mx_2436 rfl rfl 2 rfl ?_
      refine RR.weak [(0, .ref 500), (1, .int x1), (2, .int (6 : Int32))] ⟨rfl, rfl, rfl, trivial⟩ ?_
      exact s_m_readsStranger_40 _ _ _ _ h
theorem s_m_readsStranger {d : Nat} {S' : St} {r : Int32} (S : St) (h : m_readsStranger S = some (r, S')) : RC KM (d + 3) 2436 [.ref 500] S (some (.int r)) S' := RC.of rfl (s0_m_readsStranger S h)
-- readsPage ()Z
def m_readsPage_61 (S : St) : Re Int32 :=
  some ((0 : Int32), S)
set_option maxRecDepth 100000 in
theorem s_m_readsPage_61 {d : Nat} {S' : St} {r : Int32} (S : St) (h : m_readsPage_61 S = some (r, S')) : RR KM (d + 3) 2437 61 [] [] S (some (.int r)) S' := by
  unfold m_readsPage_61 at h
  refine RR.runs (pc' := 62) (lc' := []) (st' := [.int (0 : Int32)]) (S1 := S) (nL := 3) (cd := cd_2437) mx_2437 rfl rfl 1 rfl ?_
  cases h
  exact RR.retz mx_2437 rfl rfl rfl rfl
def m_readsPage_75 (S : St) : Re Int32 :=
  bn (m_fails (3 : Int32) S) fun r1 S2 =>
  if isBo r1 = true then some (r1, S2) else none
set_option maxRecDepth 100000 in
theorem s_m_readsPage_75 {d : Nat} {S' : St} {r : Int32} (S : St) (h : m_readsPage_75 S = some (r, S')) : RR KM (d + 3) 2437 75 [(0, .ref 500)] [] S (some (.int r)) S' := by
  unfold m_readsPage_75 at h
  refine RR.runs (pc' := 77) (lc' := [(0, .ref 500)]) (st' := [.int (3 : Int32), .ref 500]) (S1 := S) (nL := 3) (cd := cd_2437) mx_2437 rfl rfl 2 rfl ?_
  obtain ⟨r1, S2, h1, h⟩ := bnE h
  refine RR.callV (b := 500) (as := [.int (3 : Int32)]) (rest := []) (r1 := (some (.int r1))) (S1 := S2) mx_2437 rfl rfl mx_2411 rfl rfl (by decide) (Or.inl rfl) (Nat.le_of_ble_eq_true rfl) (Nat.le_of_ble_eq_true rfl) (RC.deep (by omega) (s_m_fails (d := d) _ _ h1)) ?_
  show RR KM _ 2437 80 [(0, .ref 500)] [.int r1] S2 _ _
  obtain ⟨g, h⟩ := gpE h
  cases h
  exact RR.retz mx_2437 rfl rfl rfl g
def m_readsPage_53 (k35 : Int32 → Int32 → St → Re Int32) (v1 : Int32) (v2 : Int32) (S : St) : Re Int32 :=
  bn (m_needsApple (1 : Int32) S) fun r1 S2 =>
  if r1 = 0 then (
    m_readsPage_61 S2)
  else (
    if ((v2 >>> ((rI S2 500 46) &&& 31)) &&& (1 : Int32)) = (1 : Int32) then (
      m_readsPage_75 S2)
    else (
      lt' ((v2 ||| ((1 : Int32) <<< ((rI S2 500 46) &&& 31))) : Int32) fun x3 =>
      if v1 < 0 ∨ 8 ≤ v1.toNatClampNeg then none else
      if (((10 : Int32) * v1) + (rI S2 518 v1.toNatClampNeg)) < 0 ∨ 80 ≤ ((((10 : Int32) * v1) + (rI S2 518 v1.toNatClampNeg))).toNatClampNeg then none else
      lt' (wI S2 517 ((((10 : Int32) * v1) + (rI S2 518 v1.toNatClampNeg))).toNatClampNeg (rI S2 500 46)) fun S4 =>
      if v1 < 0 ∨ 8 ≤ v1.toNatClampNeg then none else
      if v1 < 0 ∨ 8 ≤ v1.toNatClampNeg then none else
      lt' (wI S4 518 v1.toNatClampNeg (((rI S4 518 v1.toNatClampNeg) + (1 : Int32)))) fun S5 =>
      bn (m_nextToken S5) fun r6 S7 =>
      k35 v1 x3 S7))
set_option maxRecDepth 100000 in
theorem s_m_readsPage_53 {d : Nat} (k35 : Int32 → Int32 → St → Re Int32) {S' : St} {r : Int32} (b35 : ∀ (v1 : Int32) (v2 : Int32) (S : St), k35 v1 v2 S = some (r, S') → RR KM (d + 3) 2437 35 [(0, .ref 500), (1, .int v1), (2, .int v2)] [] S (some (.int r)) S') (v1 : Int32) (v2 : Int32) (S : St) (h : m_readsPage_53 k35 v1 v2 S = some (r, S')) : RR KM (d + 3) 2437 53 [(0, .ref 500), (1, .int v1), (2, .int v2)] [] S (some (.int r)) S' := by
  unfold m_readsPage_53 at h
  refine RR.runs (pc' := 55) (lc' := [(0, .ref 500), (1, .int v1), (2, .int v2)]) (st' := [.int (1 : Int32), .ref 500]) (S1 := S) (nL := 3) (cd := cd_2437) mx_2437 rfl rfl 2 rfl ?_
  obtain ⟨r1, S2, h1, h⟩ := bnE h
  refine RR.callV (b := 500) (as := [.int (1 : Int32)]) (rest := []) (r1 := (some (.int r1))) (S1 := S2) mx_2437 rfl rfl mx_2429 rfl rfl (by decide) (Or.inl rfl) (Nat.le_of_ble_eq_true rfl) (Nat.le_of_ble_eq_true rfl) (RC.deep (by omega) (s_m_needsApple (d := d) _ _ h1)) ?_
  show RR KM _ 2437 58 [(0, .ref 500), (1, .int v1), (2, .int v2)] [.int r1] S2 _ _
  refine RR.runs (pc' := icm .ne r1 0 63 61) (lc' := [(0, .ref 500), (1, .int v1), (2, .int v2)]) (st' := []) (S1 := S2) (nL := 3) (cd := cd_2437) mx_2437 rfl rfl 1 rfl ?_
  rcases ifE h with ⟨c, h⟩ | ⟨c, h⟩
  · refine RR.c_ne (fun _ => ?_) (fun q => absurd c q)
    refine RR.weak [] trivial ?_
    exact s_m_readsPage_61 _ h
  · refine RR.c_ne (fun q => absurd q c) (fun _ => ?_)
    refine RR.runs (pc' := icm .ne (((v2 >>> ((rI S2 500 46) &&& 31)) &&& (1 : Int32))) (1 : Int32) 81 75) (lc' := [(0, .ref 500), (1, .int v1), (2, .int v2)]) (st' := []) (S1 := S2) (nL := 3) (cd := cd_2437) mx_2437 rfl rfl 8 rfl ?_
    rcases ifE h with ⟨c, h⟩ | ⟨c, h⟩
    · refine RR.c_ne (fun _ => ?_) (fun q => absurd c q)
      refine RR.weak [(0, .ref 500)] ⟨rfl, trivial⟩ ?_
      exact s_m_readsPage_75 _ h
    · refine RR.c_ne (fun q => absurd q c) (fun _ => ?_)
      refine RR.runs (pc' := 90) (lc' := [(2, .int ((v2 ||| ((1 : Int32) <<< ((rI S2 500 46) &&& 31))))), (0, .ref 500), (1, .int v1)]) (st' := []) (S1 := S2) (nL := 3) (cd := cd_2437) mx_2437 rfl rfl 7 rfl ?_
      obtain ⟨x3, ex3, h⟩ := ltE h
      rw [← ex3]
      refine RR.runs (pc' := 103) (lc' := [(2, .int x3), (0, .ref 500), (1, .int v1)]) (st' := [.int v1, .ref 518, .int (((10 : Int32) * v1)), .ref 517]) (S1 := S2) (nL := 3) (cd := cd_2437) mx_2437 rfl rfl 8 rfl ?_
      obtain ⟨g, h⟩ := gnE h
      refine RR.gPN (c2 := (KM.1 518).1 = 1) (pc' := 104) (lc' := [(2, .int x3), (0, .ref 500), (1, .int v1)]) (st' := [.int (rI S2 518 v1.toNatClampNeg), .int (((10 : Int32) * v1)), .ref 517]) (S1 := S2) (nL := 3) (cd := cd_2437) mx_2437 rfl rfl rfl rfl g ?_
      refine RR.runs (pc' := 109) (lc' := [(2, .int x3), (0, .ref 500), (1, .int v1)]) (st' := [.int (rI S2 500 46), .int ((((10 : Int32) * v1) + (rI S2 518 v1.toNatClampNeg))), .ref 517]) (S1 := S2) (nL := 3) (cd := cd_2437) mx_2437 rfl rfl 3 rfl ?_
      obtain ⟨g, h⟩ := gnE h
      refine RR.gPN (c2 := (KM.1 517).1 = 1) (pc' := 110) (lc' := [(2, .int x3), (0, .ref 500), (1, .int v1)]) (st' := []) (S1 := (wI S2 517 ((((10 : Int32) * v1) + (rI S2 518 v1.toNatClampNeg))).toNatClampNeg (rI S2 500 46))) (nL := 3) (cd := cd_2437) mx_2437 rfl rfl rfl rfl g ?_
      obtain ⟨S4, eS4, h⟩ := ltE h
      rw [← eS4]
      refine RR.runs (pc' := 116) (lc' := [(2, .int x3), (0, .ref 500), (1, .int v1)]) (st' := [.int v1, .ref 518, .int v1, .ref 518]) (S1 := S4) (nL := 3) (cd := cd_2437) mx_2437 rfl rfl 4 rfl ?_
      obtain ⟨g, h⟩ := gnE h
      refine RR.gPN (c2 := (KM.1 518).1 = 1) (pc' := 117) (lc' := [(2, .int x3), (0, .ref 500), (1, .int v1)]) (st' := [.int (rI S4 518 v1.toNatClampNeg), .int v1, .ref 518]) (S1 := S4) (nL := 3) (cd := cd_2437) mx_2437 rfl rfl rfl rfl g ?_
      refine RR.runs (pc' := 119) (lc' := [(2, .int x3), (0, .ref 500), (1, .int v1)]) (st' := [.int (((rI S4 518 v1.toNatClampNeg) + (1 : Int32))), .int v1, .ref 518]) (S1 := S4) (nL := 3) (cd := cd_2437) mx_2437 rfl rfl 2 rfl ?_
      obtain ⟨g, h⟩ := gnE h
      refine RR.gPN (c2 := (KM.1 518).1 = 1) (pc' := 120) (lc' := [(2, .int x3), (0, .ref 500), (1, .int v1)]) (st' := []) (S1 := (wI S4 518 v1.toNatClampNeg (((rI S4 518 v1.toNatClampNeg) + (1 : Int32))))) (nL := 3) (cd := cd_2437) mx_2437 rfl rfl rfl rfl g ?_
      obtain ⟨S5, eS5, h⟩ := ltE h
      rw [← eS5]
      refine RR.runs (pc' := 121) (lc' := [(2, .int x3), (0, .ref 500), (1, .int v1)]) (st' := [.ref 500]) (S1 := S5) (nL := 3) (cd := cd_2437) mx_2437 rfl rfl 1 rfl ?_
      obtain ⟨r6, S7, h1, h⟩ := bnE h
      refine RR.callV (b := 500) (as := []) (rest := []) (r1 := none) (S1 := S7) mx_2437 rfl rfl mx_2408 rfl rfl (by decide) (Or.inl rfl) (Nat.le_of_ble_eq_true rfl) (Nat.le_of_ble_eq_true rfl) (RC.deep (by omega) (s_m_nextToken (d := d) _ h1)) ?_
      show RR KM _ 2437 124 [(2, .int x3), (0, .ref 500), (1, .int v1)] [] S7 _ _
      refine RR.runs (pc' := 35) (lc' := [(2, .int x3), (0, .ref 500), (1, .int v1)]) (st' := []) (S1 := S7) (nL := 3) (cd := cd_2437) mx_2437 rfl rfl 1 rfl ?_
      refine RR.weak [(0, .ref 500), (1, .int v1), (2, .int x3)] ⟨rfl, rfl, rfl, trivial⟩ ?_
      exact b35 _ _ _ h
def m_readsPage_127 (S : St) : Re Int32 :=
  if (10 : Int32) < 0 ∨ 12 ≤ (10 : Int32).toNatClampNeg then none else
  if (10 : Int32) < 0 ∨ 12 ≤ (10 : Int32).toNatClampNeg then none else
  lt' (wI S 502 (10 : Int32).toNatClampNeg (((rI S 502 (10 : Int32).toNatClampNeg) + (1 : Int32)))) fun S1 =>
  bn (m_closes S1) fun r2 S3 =>
  if isBo r2 = true then some (r2, S3) else none
set_option maxRecDepth 100000 in
theorem s_m_readsPage_127 {d : Nat} {S' : St} {r : Int32} (S : St) (h : m_readsPage_127 S = some (r, S')) : RR KM (d + 3) 2437 127 [(0, .ref 500)] [] S (some (.int r)) S' := by
  unfold m_readsPage_127 at h
  refine RR.runs (pc' := 134) (lc' := [(0, .ref 500)]) (st' := [.int (10 : Int32), .ref 502, .int (10 : Int32), .ref 502]) (S1 := S) (nL := 3) (cd := cd_2437) mx_2437 rfl rfl 4 rfl ?_
  obtain ⟨g, h⟩ := gnE h
  refine RR.gPN (c2 := (KM.1 502).1 = 1) (pc' := 135) (lc' := [(0, .ref 500)]) (st' := [.int ((rI S 502 (10 : Int32).toNatClampNeg)), .int (10 : Int32), .ref 502]) (S1 := S) (nL := 3) (cd := cd_2437) mx_2437 rfl rfl rfl rfl g ?_
  refine RR.runs (pc' := 137) (lc' := [(0, .ref 500)]) (st' := [.int (((rI S 502 (10 : Int32).toNatClampNeg) + (1 : Int32))), .int (10 : Int32), .ref 502]) (S1 := S) (nL := 3) (cd := cd_2437) mx_2437 rfl rfl 2 rfl ?_
  obtain ⟨g, h⟩ := gnE h
  refine RR.gPN (c2 := (KM.1 502).1 = 1) (pc' := 138) (lc' := [(0, .ref 500)]) (st' := []) (S1 := (wI S 502 (10 : Int32).toNatClampNeg (((rI S 502 (10 : Int32).toNatClampNeg) + (1 : Int32))))) (nL := 3) (cd := cd_2437) mx_2437 rfl rfl rfl rfl g ?_
  obtain ⟨S1, eS1, h⟩ := ltE h
  rw [← eS1]
  refine RR.runs (pc' := 139) (lc' := [(0, .ref 500)]) (st' := [.ref 500]) (S1 := S1) (nL := 3) (cd := cd_2437) mx_2437 rfl rfl 1 rfl ?_
  obtain ⟨r2, S3, h1, h⟩ := bnE h
  refine RR.callV (b := 500) (as := []) (rest := []) (r1 := (some (.int r2))) (S1 := S3) mx_2437 rfl rfl mx_2426 rfl rfl (by decide) (Or.inl rfl) (Nat.le_of_ble_eq_true rfl) (Nat.le_of_ble_eq_true rfl) (RC.deep (by omega) (s_m_closes (d := d) _ h1)) ?_
  show RR KM _ 2437 142 [(0, .ref 500)] [.int r2] S3 _ _
  obtain ⟨g, h⟩ := gpE h
  cases h
  exact RR.retz mx_2437 rfl rfl rfl g
def m_readsPage_35 : Nat → Int32 → Int32 → St → Re Int32
  | 0, _, _, _ => none
  | n + 1, v1, v2, S =>
  if v1 < 0 ∨ 8 ≤ v1.toNatClampNeg then none else
  if (rI S 518 v1.toNatClampNeg) = 0 then (
    m_readsPage_53 (m_readsPage_35 n) v1 v2 S)
  else (
    bn (m_isSign (59 : Int32) S) fun r1 S2 =>
    if r1 = 0 then (
      m_readsPage_53 (m_readsPage_35 n) v1 v2 S2)
    else (
      m_readsPage_127 S2))
set_option maxRecDepth 100000 in
theorem s_m_readsPage_35 {d : Nat} {S' : St} {r : Int32} : ∀ (n : Nat) (v1 : Int32) (v2 : Int32) (S : St), m_readsPage_35 n v1 v2 S = some (r, S') → RR KM (d + 3) 2437 35 [(0, .ref 500), (1, .int v1), (2, .int v2)] [] S (some (.int r)) S' := by
  intro n
  induction n with
  | zero => intro v1 v2 S h; simp only [m_readsPage_35] at h; cases h
  | succ n ih =>
    intro v1 v2 S h
    simp only [m_readsPage_35] at h
    refine RR.runs (pc' := 40) (lc' := [(0, .ref 500), (1, .int v1), (2, .int v2)]) (st' := [.int v1, .ref 518]) (S1 := S) (nL := 3) (cd := cd_2437) mx_2437 rfl rfl 3 rfl ?_
    obtain ⟨g, h⟩ := gnE h
    refine RR.gPN (c2 := (KM.1 518).1 = 1) (pc' := 41) (lc' := [(0, .ref 500), (1, .int v1), (2, .int v2)]) (st' := [.int (rI S 518 v1.toNatClampNeg)]) (S1 := S) (nL := 3) (cd := cd_2437) mx_2437 rfl rfl rfl rfl g ?_
    refine RR.runs (pc' := icm .eq (rI S 518 v1.toNatClampNeg) 0 53 44) (lc' := [(0, .ref 500), (1, .int v1), (2, .int v2)]) (st' := []) (S1 := S) (nL := 3) (cd := cd_2437) mx_2437 rfl rfl 1 rfl ?_
    rcases ifE h with ⟨c, h⟩ | ⟨c, h⟩
    · refine RR.c_eq (fun _ => ?_) (fun q => absurd c q)
      refine RR.weak [(0, .ref 500), (1, .int v1), (2, .int v2)] ⟨rfl, rfl, rfl, trivial⟩ ?_
      exact s_m_readsPage_53 _ (fun _ _ S h => ih _ _ S h) _ _ _ h
    · refine RR.c_eq (fun q => absurd q c) (fun _ => ?_)
      refine RR.runs (pc' := 47) (lc' := [(0, .ref 500), (1, .int v1), (2, .int v2)]) (st' := [.int (59 : Int32), .ref 500]) (S1 := S) (nL := 3) (cd := cd_2437) mx_2437 rfl rfl 2 rfl ?_
      obtain ⟨r1, S2, h1, h⟩ := bnE h
      refine RR.callV (b := 500) (as := [.int (59 : Int32)]) (rest := []) (r1 := (some (.int r1))) (S1 := S2) mx_2437 rfl rfl mx_2410 rfl rfl (by decide) (Or.inl rfl) (Nat.le_of_ble_eq_true rfl) (Nat.le_of_ble_eq_true rfl) (RC.deep (by omega) (s_m_isSign (d := d) _ _ h1)) ?_
      show RR KM _ 2437 50 [(0, .ref 500), (1, .int v1), (2, .int v2)] [.int r1] S2 _ _
      refine RR.runs (pc' := icm .ne r1 0 127 53) (lc' := [(0, .ref 500), (1, .int v1), (2, .int v2)]) (st' := []) (S1 := S2) (nL := 3) (cd := cd_2437) mx_2437 rfl rfl 1 rfl ?_
      rcases ifE h with ⟨c, h⟩ | ⟨c, h⟩
      · refine RR.c_ne (fun _ => ?_) (fun q => absurd c q)
        refine RR.weak [(0, .ref 500), (1, .int v1), (2, .int v2)] ⟨rfl, rfl, rfl, trivial⟩ ?_
        exact s_m_readsPage_53 _ (fun _ _ S h => ih _ _ S h) _ _ _ h
      · refine RR.c_ne (fun q => absurd q c) (fun _ => ?_)
        refine RR.weak [(0, .ref 500)] ⟨rfl, trivial⟩ ?_
        exact s_m_readsPage_127 _ h
def m_readsPage (S : St) : Re Int32 :=
  if (10 : Int32) < 0 ∨ 12 ≤ (10 : Int32).toNatClampNeg then none else
  lt' (((4 : Int32) + (rI S 502 (10 : Int32).toNatClampNeg)) : Int32) fun x1 =>
  if x1 = (8 : Int32) then (
    bn (m_fails (5 : Int32) S) fun r2 S3 =>
    if isBo r2 = true then some (r2, S3) else none)
  else (
    bn (m_nextToken S) fun r4 S5 =>
    if x1 < 0 ∨ 8 ≤ x1.toNatClampNeg then none else
    lt' (wI S5 518 x1.toNatClampNeg (0 : Int32)) fun S6 =>
    m_readsPage_35 FU x1 (0 : Int32) S6)
set_option maxRecDepth 100000 in
theorem s0_m_readsPage {d : Nat} {S' : St} {r : Int32} (S : St) (h : m_readsPage S = some (r, S')) : RR KM (d + 3) 2437 0 [(0, .ref 500)] [] S (some (.int r)) S' := by
  unfold m_readsPage at h
  refine RR.runs (pc' := 7) (lc' := [(0, .ref 500)]) (st' := [.int (10 : Int32), .ref 502, .int (4 : Int32)]) (S1 := S) (nL := 3) (cd := cd_2437) mx_2437 rfl rfl 4 rfl ?_
  obtain ⟨g, h⟩ := gnE h
  refine RR.gPN (c2 := (KM.1 502).1 = 1) (pc' := 8) (lc' := [(0, .ref 500)]) (st' := [.int ((rI S 502 (10 : Int32).toNatClampNeg)), .int (4 : Int32)]) (S1 := S) (nL := 3) (cd := cd_2437) mx_2437 rfl rfl rfl rfl g ?_
  refine RR.runs (pc' := 10) (lc' := [(1, .int (((4 : Int32) + (rI S 502 (10 : Int32).toNatClampNeg)))), (0, .ref 500)]) (st' := []) (S1 := S) (nL := 3) (cd := cd_2437) mx_2437 rfl rfl 2 rfl ?_
  obtain ⟨x1, ex1, h⟩ := ltE h
  rw [← ex1]
  refine RR.runs (pc' := icm .ne x1 (8 : Int32) 22 16) (lc' := [(1, .int x1), (0, .ref 500)]) (st' := []) (S1 := S) (nL := 3) (cd := cd_2437) mx_2437 rfl rfl 3 rfl ?_
  rcases ifE h with ⟨c, h⟩ | ⟨c, h⟩
  · refine RR.c_ne (fun _ => ?_) (fun q => absurd c q)
    refine RR.runs (pc' := 18) (lc' := [(1, .int x1), (0, .ref 500)]) (st' := [.int (5 : Int32), .ref 500]) (S1 := S) (nL := 3) (cd := cd_2437) mx_2437 rfl rfl 2 rfl ?_
    obtain ⟨r2, S3, h1, h⟩ := bnE h
    refine RR.callV (b := 500) (as := [.int (5 : Int32)]) (rest := []) (r1 := (some (.int r2))) (S1 := S3) mx_2437 rfl rfl mx_2411 rfl rfl (by decide) (Or.inl rfl) (Nat.le_of_ble_eq_true rfl) (Nat.le_of_ble_eq_true rfl) (RC.deep (by omega) (s_m_fails (d := d) _ _ h1)) ?_
    show RR KM _ 2437 21 [(1, .int x1), (0, .ref 500)] [.int r2] S3 _ _
    obtain ⟨g, h⟩ := gpE h
    cases h
    exact RR.retz mx_2437 rfl rfl rfl g
  · refine RR.c_ne (fun q => absurd q c) (fun _ => ?_)
    refine RR.runs (pc' := 23) (lc' := [(1, .int x1), (0, .ref 500)]) (st' := [.ref 500]) (S1 := S) (nL := 3) (cd := cd_2437) mx_2437 rfl rfl 1 rfl ?_
    obtain ⟨r4, S5, h1, h⟩ := bnE h
    refine RR.callV (b := 500) (as := []) (rest := []) (r1 := none) (S1 := S5) mx_2437 rfl rfl mx_2408 rfl rfl (by decide) (Or.inl rfl) (Nat.le_of_ble_eq_true rfl) (Nat.le_of_ble_eq_true rfl) (RC.deep (by omega) (s_m_nextToken (d := d) _ h1)) ?_
    show RR KM _ 2437 26 [(1, .int x1), (0, .ref 500)] [] S5 _ _
    refine RR.runs (pc' := 32) (lc' := [(1, .int x1), (0, .ref 500)]) (st' := [.int (0 : Int32), .int x1, .ref 518]) (S1 := S5) (nL := 3) (cd := cd_2437) mx_2437 rfl rfl 4 rfl ?_
    obtain ⟨g, h⟩ := gnE h
    refine RR.gPN (c2 := (KM.1 518).1 = 1) (pc' := 33) (lc' := [(1, .int x1), (0, .ref 500)]) (st' := []) (S1 := (wI S5 518 x1.toNatClampNeg (0 : Int32))) (nL := 3) (cd := cd_2437) mx_2437 rfl rfl rfl rfl g ?_
    obtain ⟨S6, eS6, h⟩ := ltE h
    rw [← eS6]
    refine RR.runs (pc' := 35) (lc' := [(2, .int (0 : Int32)), (1, .int x1), (0, .ref 500)]) (st' := []) (S1 := S6) (nL := 3) (cd := cd_2437) mx_2437 rfl rfl 2 rfl ?_
    refine RR.weak [(0, .ref 500), (1, .int x1), (2, .int (0 : Int32))] ⟨rfl, rfl, rfl, trivial⟩ ?_
    exact s_m_readsPage_35 _ _ _ _ h
theorem s_m_readsPage {d : Nat} {S' : St} {r : Int32} (S : St) (h : m_readsPage S = some (r, S')) : RC KM (d + 3) 2437 [.ref 500] S (some (.int r)) S' := RC.of rfl (s0_m_readsPage S h)
-- readsBann ()Z
def m_readsBann (S : St) : Re Int32 :=
  if (11 : Int32) < 0 ∨ 12 ≤ (11 : Int32).toNatClampNeg then none else
  lt' (((4 : Int32) + (rI S 502 (11 : Int32).toNatClampNeg)) : Int32) fun x1 =>
  if x1 = (8 : Int32) then (
    bn (m_fails (5 : Int32) S) fun r2 S3 =>
    if isBo r2 = true then some (r2, S3) else none)
  else (
    bn (m_nextToken S) fun r4 S5 =>
    bn (m_needsSound (1 : Int32) S5) fun r6 S7 =>
    if r6 = 0 then (
      some ((0 : Int32), S7))
    else (
      if x1 < 0 ∨ 8 ≤ x1.toNatClampNeg then none else
      lt' (wI S7 519 x1.toNatClampNeg (rI S7 500 46)) fun S8 =>
      bn (m_nextToken S8) fun r9 S10 =>
      bn (m_needsSound (1 : Int32) S10) fun r11 S12 =>
      if r11 = 0 then (
        some ((0 : Int32), S12))
      else (
        if x1 < 0 ∨ 8 ≤ x1.toNatClampNeg then none else
        if (rI S12 500 46) = (rI S12 519 x1.toNatClampNeg) then (
          bn (m_fails (3 : Int32) S12) fun r13 S14 =>
          if isBo r13 = true then some (r13, S14) else none)
        else (
          if x1 < 0 ∨ 8 ≤ x1.toNatClampNeg then none else
          lt' (wI S12 520 x1.toNatClampNeg (rI S12 500 46)) fun S15 =>
          bn (m_nextToken S15) fun r16 S17 =>
          if (11 : Int32) < 0 ∨ 12 ≤ (11 : Int32).toNatClampNeg then none else
          if (11 : Int32) < 0 ∨ 12 ≤ (11 : Int32).toNatClampNeg then none else
          lt' (wI S17 502 (11 : Int32).toNatClampNeg (((rI S17 502 (11 : Int32).toNatClampNeg) + (1 : Int32)))) fun S18 =>
          bn (m_closes S18) fun r19 S20 =>
          if isBo r19 = true then some (r19, S20) else none))))
set_option maxRecDepth 100000 in
theorem s0_m_readsBann {d : Nat} {S' : St} {r : Int32} (S : St) (h : m_readsBann S = some (r, S')) : RR KM (d + 3) 2438 0 [(0, .ref 500)] [] S (some (.int r)) S' := by
  unfold m_readsBann at h
  refine RR.runs (pc' := 7) (lc' := [(0, .ref 500)]) (st' := [.int (11 : Int32), .ref 502, .int (4 : Int32)]) (S1 := S) (nL := 2) (cd := cd_2438) mx_2438 rfl rfl 4 rfl ?_
  obtain ⟨g, h⟩ := gnE h
  refine RR.gPN (c2 := (KM.1 502).1 = 1) (pc' := 8) (lc' := [(0, .ref 500)]) (st' := [.int ((rI S 502 (11 : Int32).toNatClampNeg)), .int (4 : Int32)]) (S1 := S) (nL := 2) (cd := cd_2438) mx_2438 rfl rfl rfl rfl g ?_
  refine RR.runs (pc' := 10) (lc' := [(1, .int (((4 : Int32) + (rI S 502 (11 : Int32).toNatClampNeg)))), (0, .ref 500)]) (st' := []) (S1 := S) (nL := 2) (cd := cd_2438) mx_2438 rfl rfl 2 rfl ?_
  obtain ⟨x1, ex1, h⟩ := ltE h
  rw [← ex1]
  refine RR.runs (pc' := icm .ne x1 (8 : Int32) 22 16) (lc' := [(1, .int x1), (0, .ref 500)]) (st' := []) (S1 := S) (nL := 2) (cd := cd_2438) mx_2438 rfl rfl 3 rfl ?_
  rcases ifE h with ⟨c, h⟩ | ⟨c, h⟩
  · refine RR.c_ne (fun _ => ?_) (fun q => absurd c q)
    refine RR.runs (pc' := 18) (lc' := [(1, .int x1), (0, .ref 500)]) (st' := [.int (5 : Int32), .ref 500]) (S1 := S) (nL := 2) (cd := cd_2438) mx_2438 rfl rfl 2 rfl ?_
    obtain ⟨r2, S3, h1, h⟩ := bnE h
    refine RR.callV (b := 500) (as := [.int (5 : Int32)]) (rest := []) (r1 := (some (.int r2))) (S1 := S3) mx_2438 rfl rfl mx_2411 rfl rfl (by decide) (Or.inl rfl) (Nat.le_of_ble_eq_true rfl) (Nat.le_of_ble_eq_true rfl) (RC.deep (by omega) (s_m_fails (d := d) _ _ h1)) ?_
    show RR KM _ 2438 21 [(1, .int x1), (0, .ref 500)] [.int r2] S3 _ _
    obtain ⟨g, h⟩ := gpE h
    cases h
    exact RR.retz mx_2438 rfl rfl rfl g
  · refine RR.c_ne (fun q => absurd q c) (fun _ => ?_)
    refine RR.runs (pc' := 23) (lc' := [(1, .int x1), (0, .ref 500)]) (st' := [.ref 500]) (S1 := S) (nL := 2) (cd := cd_2438) mx_2438 rfl rfl 1 rfl ?_
    obtain ⟨r4, S5, h1, h⟩ := bnE h
    refine RR.callV (b := 500) (as := []) (rest := []) (r1 := none) (S1 := S5) mx_2438 rfl rfl mx_2408 rfl rfl (by decide) (Or.inl rfl) (Nat.le_of_ble_eq_true rfl) (Nat.le_of_ble_eq_true rfl) (RC.deep (by omega) (s_m_nextToken (d := d) _ h1)) ?_
    show RR KM _ 2438 26 [(1, .int x1), (0, .ref 500)] [] S5 _ _
    refine RR.runs (pc' := 28) (lc' := [(1, .int x1), (0, .ref 500)]) (st' := [.int (1 : Int32), .ref 500]) (S1 := S5) (nL := 2) (cd := cd_2438) mx_2438 rfl rfl 2 rfl ?_
    obtain ⟨r6, S7, h1, h⟩ := bnE h
    refine RR.callV (b := 500) (as := [.int (1 : Int32)]) (rest := []) (r1 := (some (.int r6))) (S1 := S7) mx_2438 rfl rfl mx_2428 rfl rfl (by decide) (Or.inl rfl) (Nat.le_of_ble_eq_true rfl) (Nat.le_of_ble_eq_true rfl) (RC.deep (by omega) (s_m_needsSound (d := d) _ _ h1)) ?_
    show RR KM _ 2438 31 [(1, .int x1), (0, .ref 500)] [.int r6] S7 _ _
    refine RR.runs (pc' := icm .ne r6 0 36 34) (lc' := [(1, .int x1), (0, .ref 500)]) (st' := []) (S1 := S7) (nL := 2) (cd := cd_2438) mx_2438 rfl rfl 1 rfl ?_
    rcases ifE h with ⟨c, h⟩ | ⟨c, h⟩
    · refine RR.c_ne (fun _ => ?_) (fun q => absurd c q)
      refine RR.runs (pc' := 35) (lc' := [(1, .int x1), (0, .ref 500)]) (st' := [.int (0 : Int32)]) (S1 := S7) (nL := 2) (cd := cd_2438) mx_2438 rfl rfl 1 rfl ?_
      cases h
      exact RR.retz mx_2438 rfl rfl rfl rfl
    · refine RR.c_ne (fun q => absurd q c) (fun _ => ?_)
      refine RR.runs (pc' := 45) (lc' := [(1, .int x1), (0, .ref 500)]) (st' := [.int (rI S7 500 46), .int x1, .ref 519]) (S1 := S7) (nL := 2) (cd := cd_2438) mx_2438 rfl rfl 5 rfl ?_
      obtain ⟨g, h⟩ := gnE h
      refine RR.gPN (c2 := (KM.1 519).1 = 1) (pc' := 46) (lc' := [(1, .int x1), (0, .ref 500)]) (st' := []) (S1 := (wI S7 519 x1.toNatClampNeg (rI S7 500 46))) (nL := 2) (cd := cd_2438) mx_2438 rfl rfl rfl rfl g ?_
      obtain ⟨S8, eS8, h⟩ := ltE h
      rw [← eS8]
      refine RR.runs (pc' := 47) (lc' := [(1, .int x1), (0, .ref 500)]) (st' := [.ref 500]) (S1 := S8) (nL := 2) (cd := cd_2438) mx_2438 rfl rfl 1 rfl ?_
      obtain ⟨r9, S10, h1, h⟩ := bnE h
      refine RR.callV (b := 500) (as := []) (rest := []) (r1 := none) (S1 := S10) mx_2438 rfl rfl mx_2408 rfl rfl (by decide) (Or.inl rfl) (Nat.le_of_ble_eq_true rfl) (Nat.le_of_ble_eq_true rfl) (RC.deep (by omega) (s_m_nextToken (d := d) _ h1)) ?_
      show RR KM _ 2438 50 [(1, .int x1), (0, .ref 500)] [] S10 _ _
      refine RR.runs (pc' := 52) (lc' := [(1, .int x1), (0, .ref 500)]) (st' := [.int (1 : Int32), .ref 500]) (S1 := S10) (nL := 2) (cd := cd_2438) mx_2438 rfl rfl 2 rfl ?_
      obtain ⟨r11, S12, h1, h⟩ := bnE h
      refine RR.callV (b := 500) (as := [.int (1 : Int32)]) (rest := []) (r1 := (some (.int r11))) (S1 := S12) mx_2438 rfl rfl mx_2428 rfl rfl (by decide) (Or.inl rfl) (Nat.le_of_ble_eq_true rfl) (Nat.le_of_ble_eq_true rfl) (RC.deep (by omega) (s_m_needsSound (d := d) _ _ h1)) ?_
      show RR KM _ 2438 55 [(1, .int x1), (0, .ref 500)] [.int r11] S12 _ _
      refine RR.runs (pc' := icm .ne r11 0 60 58) (lc' := [(1, .int x1), (0, .ref 500)]) (st' := []) (S1 := S12) (nL := 2) (cd := cd_2438) mx_2438 rfl rfl 1 rfl ?_
      rcases ifE h with ⟨c, h⟩ | ⟨c, h⟩
      · refine RR.c_ne (fun _ => ?_) (fun q => absurd c q)
        refine RR.runs (pc' := 59) (lc' := [(1, .int x1), (0, .ref 500)]) (st' := [.int (0 : Int32)]) (S1 := S12) (nL := 2) (cd := cd_2438) mx_2438 rfl rfl 1 rfl ?_
        cases h
        exact RR.retz mx_2438 rfl rfl rfl rfl
      · refine RR.c_ne (fun q => absurd q c) (fun _ => ?_)
        refine RR.runs (pc' := 69) (lc' := [(1, .int x1), (0, .ref 500)]) (st' := [.int x1, .ref 519, .int (rI S12 500 46)]) (S1 := S12) (nL := 2) (cd := cd_2438) mx_2438 rfl rfl 5 rfl ?_
        obtain ⟨g, h⟩ := gnE h
        refine RR.gPN (c2 := (KM.1 519).1 = 1) (pc' := 70) (lc' := [(1, .int x1), (0, .ref 500)]) (st' := [.int (rI S12 519 x1.toNatClampNeg), .int (rI S12 500 46)]) (S1 := S12) (nL := 2) (cd := cd_2438) mx_2438 rfl rfl rfl rfl g ?_
        refine RR.runs (pc' := icm .ne (rI S12 500 46) (rI S12 519 x1.toNatClampNeg) 79 73) (lc' := [(1, .int x1), (0, .ref 500)]) (st' := []) (S1 := S12) (nL := 2) (cd := cd_2438) mx_2438 rfl rfl 1 rfl ?_
        rcases ifE h with ⟨c, h⟩ | ⟨c, h⟩
        · refine RR.c_ne (fun _ => ?_) (fun q => absurd c q)
          refine RR.runs (pc' := 75) (lc' := [(1, .int x1), (0, .ref 500)]) (st' := [.int (3 : Int32), .ref 500]) (S1 := S12) (nL := 2) (cd := cd_2438) mx_2438 rfl rfl 2 rfl ?_
          obtain ⟨r13, S14, h1, h⟩ := bnE h
          refine RR.callV (b := 500) (as := [.int (3 : Int32)]) (rest := []) (r1 := (some (.int r13))) (S1 := S14) mx_2438 rfl rfl mx_2411 rfl rfl (by decide) (Or.inl rfl) (Nat.le_of_ble_eq_true rfl) (Nat.le_of_ble_eq_true rfl) (RC.deep (by omega) (s_m_fails (d := d) _ _ h1)) ?_
          show RR KM _ 2438 78 [(1, .int x1), (0, .ref 500)] [.int r13] S14 _ _
          obtain ⟨g, h⟩ := gpE h
          cases h
          exact RR.retz mx_2438 rfl rfl rfl g
        · refine RR.c_ne (fun q => absurd q c) (fun _ => ?_)
          refine RR.runs (pc' := 88) (lc' := [(1, .int x1), (0, .ref 500)]) (st' := [.int (rI S12 500 46), .int x1, .ref 520]) (S1 := S12) (nL := 2) (cd := cd_2438) mx_2438 rfl rfl 5 rfl ?_
          obtain ⟨g, h⟩ := gnE h
          refine RR.gPN (c2 := (KM.1 520).1 = 1) (pc' := 89) (lc' := [(1, .int x1), (0, .ref 500)]) (st' := []) (S1 := (wI S12 520 x1.toNatClampNeg (rI S12 500 46))) (nL := 2) (cd := cd_2438) mx_2438 rfl rfl rfl rfl g ?_
          obtain ⟨S15, eS15, h⟩ := ltE h
          rw [← eS15]
          refine RR.runs (pc' := 90) (lc' := [(1, .int x1), (0, .ref 500)]) (st' := [.ref 500]) (S1 := S15) (nL := 2) (cd := cd_2438) mx_2438 rfl rfl 1 rfl ?_
          obtain ⟨r16, S17, h1, h⟩ := bnE h
          refine RR.callV (b := 500) (as := []) (rest := []) (r1 := none) (S1 := S17) mx_2438 rfl rfl mx_2408 rfl rfl (by decide) (Or.inl rfl) (Nat.le_of_ble_eq_true rfl) (Nat.le_of_ble_eq_true rfl) (RC.deep (by omega) (s_m_nextToken (d := d) _ h1)) ?_
          show RR KM _ 2438 93 [(1, .int x1), (0, .ref 500)] [] S17 _ _
          refine RR.runs (pc' := 100) (lc' := [(1, .int x1), (0, .ref 500)]) (st' := [.int (11 : Int32), .ref 502, .int (11 : Int32), .ref 502]) (S1 := S17) (nL := 2) (cd := cd_2438) mx_2438 rfl rfl 4 rfl ?_
          obtain ⟨g, h⟩ := gnE h
          refine RR.gPN (c2 := (KM.1 502).1 = 1) (pc' := 101) (lc' := [(1, .int x1), (0, .ref 500)]) (st' := [.int ((rI S17 502 (11 : Int32).toNatClampNeg)), .int (11 : Int32), .ref 502]) (S1 := S17) (nL := 2) (cd := cd_2438) mx_2438 rfl rfl rfl rfl g ?_
          refine RR.runs (pc' := 103) (lc' := [(1, .int x1), (0, .ref 500)]) (st' := [.int (((rI S17 502 (11 : Int32).toNatClampNeg) + (1 : Int32))), .int (11 : Int32), .ref 502]) (S1 := S17) (nL := 2) (cd := cd_2438) mx_2438 rfl rfl 2 rfl ?_
          obtain ⟨g, h⟩ := gnE h
          refine RR.gPN (c2 := (KM.1 502).1 = 1) (pc' := 104) (lc' := [(1, .int x1), (0, .ref 500)]) (st' := []) (S1 := (wI S17 502 (11 : Int32).toNatClampNeg (((rI S17 502 (11 : Int32).toNatClampNeg) + (1 : Int32))))) (nL := 2) (cd := cd_2438) mx_2438 rfl rfl rfl rfl g ?_
          obtain ⟨S18, eS18, h⟩ := ltE h
          rw [← eS18]
          refine RR.runs (pc' := 105) (lc' := [(1, .int x1), (0, .ref 500)]) (st' := [.ref 500]) (S1 := S18) (nL := 2) (cd := cd_2438) mx_2438 rfl rfl 1 rfl ?_
          obtain ⟨r19, S20, h1, h⟩ := bnE h
          refine RR.callV (b := 500) (as := []) (rest := []) (r1 := (some (.int r19))) (S1 := S20) mx_2438 rfl rfl mx_2426 rfl rfl (by decide) (Or.inl rfl) (Nat.le_of_ble_eq_true rfl) (Nat.le_of_ble_eq_true rfl) (RC.deep (by omega) (s_m_closes (d := d) _ h1)) ?_
          show RR KM _ 2438 108 [(1, .int x1), (0, .ref 500)] [.int r19] S20 _ _
          obtain ⟨g, h⟩ := gpE h
          cases h
          exact RR.retz mx_2438 rfl rfl rfl g
theorem s_m_readsBann {d : Nat} {S' : St} {r : Int32} (S : St) (h : m_readsBann S = some (r, S')) : RC KM (d + 3) 2438 [.ref 500] S (some (.int r)) S' := RC.of rfl (s0_m_readsBann S h)
