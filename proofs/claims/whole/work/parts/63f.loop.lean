/-! Reading a law: the whole loop. -/
section LOOPL
variable {n p b k i line f fr bz : Nat} {w : List Nat} {tx : Nat → Int32} {So Sm S S' So' Sm' : St} {P Q : Nat → Nat → Bool} {l : List (Nat × Int32)} {cs : List Nat} {sh r : List Sh} {s s' : Sh}
/-- the lowest frame is no not's -/
theorem lst_ok (V : Nat → Int32) : ∀ (cs : List Nat) (fs fs' : List Fm) (c c' : Option Int32), (∃ g h, fs = g ++ [h] ∧ h.2.2.2.2 = false) → lrun V cs (fs, c) = some (fs', c') → ∃ g h, fs' = g ++ [h] ∧ h.2.2.2.2 = false
  | [], fs, fs', c, c', hh, e => by
    rw [lrun] at e
    injection e with e
    injection e with e1 e2
    rw [← e1]
    exact hh
  | x :: cs, fs, fs', c, c', hh, e => by
    rw [lrun] at e
    have pn : ∀ (fs : List Fm) (v : Int32), (∃ g h, fs = g ++ [h] ∧ h.2.2.2.2 = false) → ∃ g h, (pnt fs v).1 = g ++ [h] ∧ h.2.2.2.2 = false := fun fs => by
      induction fs with
      | nil => intro v hh; exact hh
      | cons f r ih =>
        intro v hh
        cases r with
        | nil => exact hh
        | cons g r =>
          rw [pnt]
          by_cases q : f.2.2.2.2 = true
          · rw [if_pos q]
            refine ih _ ?_
            obtain ⟨g1, h1, e1, e2⟩ := hh
            cases g1 with
            | nil =>
              have := congrArg List.length e1
              simp at this
            | cons x xs =>
              rw [List.cons_append] at e1
              injection e1 with _ e3
              exact ⟨xs, h1, e3, e2⟩
          · rw [if_neg q]
            exact hh
    cases hs : lstep V x (fs, c) with
    | none => rw [hs] at e; cases e
    | some σ =>
      rw [hs, Option.bind_some] at e
      obtain ⟨f2, c2⟩ := σ
      refine lst_ok V cs f2 fs' c2 c' ?_ e
      have top : ∀ (f g : Fm) (r : List Fm), g.2.2.2.2 = f.2.2.2.2 → (∃ a h, f :: r = a ++ [h] ∧ h.2.2.2.2 = false) → ∃ a h, g :: r = a ++ [h] ∧ h.2.2.2.2 = false := fun f g r hg hh => by
        obtain ⟨a, h, e1, e2⟩ := hh
        cases a with
        | nil =>
          injection e1 with e3 e4
          exact ⟨[], g, by rw [e4]; rfl, by rw [hg, e3]; exact e2⟩
        | cons x xs =>
          rw [List.cons_append] at e1
          injection e1 with _ e3
          exact ⟨g :: xs, h, by rw [e3]; rfl, e2⟩
      cases c with
      | none =>
        unfold lstep at hs
        simp only at hs
        split at hs
        · split at hs
          · injection hs with hs
            injection hs with hs _
            obtain ⟨a, h, e1, e2⟩ := hh
            exact ⟨_ :: a, h, by rw [← hs, e1]; rfl, e2⟩
          · cases hs
        · split at hs
          · injection hs with hs
            injection hs with hs _
            rw [← hs]
            exact pn fs _ hh
          · cases hs
      | some v =>
        cases fs with
        | nil => cases hs
        | cons f r =>
          unfold lstep at hs
          simp only at hs
          split at hs
          · injection hs with hs
            injection hs with hs _
            rw [← hs]
            exact top f _ r rfl hh
          · split at hs
            · injection hs with hs
              injection hs with hs _
              rw [← hs]
              exact top f _ r rfl hh
            · split at hs
              · split at hs
                · injection hs with hs
                  injection hs with hs _
                  rw [← hs]
                  exact top f _ r rfl hh
                · cases hs
              · split at hs
                · injection hs with hs
                  injection hs with hs _
                  rw [← hs]
                  exact top f _ r rfl hh
                · split at hs
                  · rename_i q
                    injection hs with hs
                    injection hs with hs _
                    rw [← hs]
                    refine pn r _ ?_
                    obtain ⟨a, h, e1, e2⟩ := hh
                    cases a with
                    | nil =>
                      injection e1 with _ e4
                      exact absurd e4 q.2
                    | cons x xs =>
                      rw [List.cons_append] at e1
                      injection e1 with _ e3
                      exact ⟨xs, h, e3, e2⟩
                  · cases hs
theorem no_bot (hA : PAf line l cs [s]) (hq : s.2.2.2.2 = true) : False := by
  obtain ⟨fs, v, h1, h2, _⟩ := hA (fun k => if k = 0 then 0 else 0) (fun _ => 0) (fun k _ _ => by simp)
  obtain ⟨g, h, e1, e2⟩ := lst_ok _ cs [f0 false] fs none (some v) ⟨[], f0 false, rfl, rfl⟩ h2
  rw [e1, List.map_append] at h1
  cases g with
  | nil =>
    injection h1 with h3 _
    rw [← h3] at hq
    have hq : h.2.2.2.2 = true := hq
    rw [e2] at hq
    cases hq
  | cons x xs =>
    have := congrArg List.length h1
    simp at this
theorem hd_C (s : Sh) (R : List Nat) (hR : RH R) : (cT s ++ (kkT s ++ R)).head?.map stT = some 2 ↔ ¬ s.2.1 = 0 := by
  unfold cT
  by_cases q : s.2.1 = 0
  · rw [if_pos q, List.nil_append]
    constructor
    · intro c
      exfalso
      unfold kkT at c
      by_cases q2 : s.1 = 0
      · rw [if_pos q2, List.nil_append] at c
        rcases hR with rfl | ⟨x, r, rfl, hx⟩
        · cases c
        · have : stT x = 2 := Option.some.inj c
          omega
      · rw [if_neg q2] at c
        have : stT (if s.1 = 26 then 8 else 9) = 2 := Option.some.inj c
        revert this
        by_cases q3 : s.1 = 26
        · rw [if_pos q3]; decide
        · rw [if_neg q3]; decide
    · intro c
      exact absurd q c
  · rw [if_neg q]
    constructor
    · intro _
      exact q
    · intro _
      show some (stT (if s.2.1 = 24 then 10 else 11)) = some 2
      by_cases q3 : s.2.1 = 24
      · rw [if_pos q3]; rfl
      · rw [if_neg q3]; rfl
theorem rd_end (hf : 34 ≤ f ∧ f ≤ 37) (h : TK n tx k w b p So Sm) (hs : PLS line f fr l (s :: r) cs b So Sm) (hA : PAf line l cs (s :: r)) (hcs : cs ≠ []) (hnt : ∀ s' t r', s :: r = s' :: t :: r' → s'.2.2.2.2 = false) (hk0 : stT k = 0) (hk5 : ¬ (k = 5 ∧ r ≠ [])) (k15 : Nat → Int32 → Int32 → Int32 → Int32 → Int32 → St → Re Int32) (k11 : Int32 → Int32 → St → Re Int32) (fl : Int32) (hbz : bz ≤ b) : ∃ rr z So' Sm', o_fo_read_127 k15 f fl (bI false) (nI (cntO (s :: r))) (nI r.length) (nI i) (1000 + k) So = some (rr, So') ∧ m_reads_304 k11 (nI r.length) (bI false) Sm = some (bI z, Sm') ∧ Fr (fRo f) So So' ∧ Fr (fRm fr) Sm Sm' ∧ DONE n tx line f fr bz rr z So' Sm' := by
  obtain ⟨h1, h2, h3, h4, h5, h6, h7, h8, h9, h10⟩ := id hs
  have hn := h.1.1
  have hb := h.2.2.2.1
  have hk8 : ¬ k = 8 ∧ ¬ k = 9 := by
    constructor
    · intro q; rw [q] at hk0; exact absurd hk0 (by decide)
    · intro q; rw [q] at hk0; exact absurd hk0 (by decide)
  rw [List.length_cons] at h8
  obtain ⟨S1, a1, a2, a3, a4⟩ := fo_release h1 h2 (s := 1) (by decide) (by decide) (by omega)
  have hws := wsF_mk s r
  have hR := RH_mk s.2.2.2.2 r
  rw [hws, (rl_F s hR).1] at a2
  have f1 : Fr (fFf f) So S1 := a4
  have hpar : (0 : Int32) < nI (cntO (s :: r)) ↔ r ≠ [] := by
    cases r with
    | nil => exact ⟨fun q => absurd q (by show ¬ (0 : Int32) < nI 0; decide), fun q => absurd rfl q⟩
    | cons t r =>
      have := hnt s t r rfl
      refine ⟨fun _ => by simp, fun _ => ?_⟩
      rw [cntO, if_neg (by rw [this]; decide)]
      have hle : ∀ q : List Sh, cntO q ≤ q.length := fun q => by
        induction q with
        | nil => exact Nat.le_refl _
        | cons x xs ih =>
          cases xs with
          | nil => exact Nat.zero_le _
          | cons y ys =>
            rw [cntO]
            simp only [List.length_cons] at ih ⊢
            split <;> omega
      have := hle (t :: r)
      exact nI_lt (a := 0) (by omega) (by rw [List.length_cons] at h8 this; omega)
  have ecl : o_fo_read_127 k15 f fl (bI false) (nI (cntO (s :: r))) (nI r.length) (nI i) (1000 + k) So = some (if r = [] then 0 else 1, S1) := by
    have e224 : o_fo_read_224 f (nI (cntO (s :: r))) So = some (if r = [] then 0 else 1, S1) := by
      unfold o_fo_read_224 o_fo_read_239
      rw [if_pos h1.1.1, (show o_fo_release f 1 So = _ from a1), bnq]
      by_cases q : r = []
      · rw [if_neg (fun c => hpar.mp c q), if_pos q]
      · rw [if_pos (hpar.mpr q), if_neg q]
    unfold o_fo_read_127
    rw [if_pos bF, if_pos h.k20, (show tokIL.getD (KO.1 (1000 + k)).2 0 = 0 by rw [kt h.lt]; show tokIL.getD k 0 = 0; rw [stT_all k h.lt, hk0]; rfl), if_neg (by decide), if_pos (h.kc (j := 5) (by decide))]
    by_cases q : 1000 + k = 1005
    · rw [if_pos q, if_neg (fun c => hk5 ⟨by omega, hpar.mp c⟩)]
      exact e224
    · rw [if_neg q]
      exact e224
  have eD : nI r.length = 0 ↔ r = [] := by
    constructor
    · intro q
      have := nI_ofs (b := 0) q (by omega) (by decide)
      exact List.eq_nil_of_length_eq_zero this
    · intro q
      rw [q]
      rfl
  have eref : m_reads_304 k11 (nI r.length) (bI false) Sm = if r = [] then (if k = 6 then (bn (m_nextToken Sm) fun _ S4 => some ((1 : Int32), S4)) else some (0, wI Sm 500 9 (1 + 16 * nI b))) else some (0, wI Sm 500 9 (1 + 16 * nI b)) := by
    have e418 : m_reads_418 Sm = some (0, wI Sm 500 9 (1 + 16 * nI b)) := by
      unfold m_reads_418
      rw [m_fails_ok 1 Sm h.2.2.1.2, bnq, if_pos b0]
    have e399 : m_reads_399 (nI r.length) Sm = if r = [] then (if k = 6 then (bn (m_nextToken Sm) fun _ S4 => some ((1 : Int32), S4)) else some (0, wI Sm 500 9 (1 + 16 * nI b))) else some (0, wI Sm 500 9 (1 + 16 * nI b)) := by
      unfold m_reads_399
      by_cases q : r = []
      · rw [if_pos (eD.mpr q), if_pos q, isSign_ok h 6 (by decide) (x := 59) rfl, bnq, e418]
        by_cases q6 : k = 6
        · rw [decide_eq_true q6, if_neg bT, if_pos q6]
        · rw [decide_eq_false q6, if_pos bF, if_neg q6]
      · rw [if_neg (fun c => q (eD.mp c)), if_neg q, e418]
    unfold m_reads_304
    rw [isWord_ok h 8 (by decide) (K := 1111) (by decide), bnq, decide_eq_false hk8.1, if_pos bF, isWord_ok h 9 (by decide) (K := 423) (by decide), bnq, decide_eq_false hk8.2, if_pos bF, isSign_ok h 5 (by decide) (x := 41) rfl, bnq, e399]
    by_cases q5 : k = 5
    · rw [decide_eq_true q5, if_neg bT, if_neg (fun c => hk5 ⟨q5, fun q => by rw [q] at c; exact absurd c (by show ¬ (0 : Int32) < nI 0; decide)⟩)]
    · rw [decide_eq_false q5, if_pos bF]
  rw [ecl, eref]
  by_cases q : r = []
  · subst q
    rw [if_pos rfl, if_pos rfl]
    by_cases q6 : k = 6
    · obtain ⟨k', w', b', p', So2, Sm2, t1, t2, t3, t4, t5, t6⟩ := nx_ok (So := So) (Sm := Sm) h.1 h5 h.2.1.1 h.2.1.2 hb.2.1
      rw [if_pos q6, t2, bnq]
      refine ⟨0, true, S1, Sm2, rfl, rfl, fFf_O f1, t6.mo fun a k q => fRm_T q, Or.inl ⟨rfl, rfl, l ++ zst (tkF s), cs, w, b, p, Sm, ?_, t2, a2, h3.fr' t6 (by rfl) (fun k => by rfl), PA_end hA (h7 s List.mem_cons_self), ?_, hcs, hbz, h10⟩⟩
      · rw [q6] at h
        exact h.fo hf f1
      · rw [f1.i (fFf_n (by omega) (by omega))]
        exact h5
    · rw [if_neg q6]
      exact ⟨0, false, S1, _, rfl, rfl, fFf_O f1, Fr.wI rfl, bad_end (j := 1) h f1 Fr.rf hf h5 (Or.inl rfl) (Or.inl ⟨rfl, rfl, q6⟩)⟩
  · rw [if_neg q, if_neg q]
    exact ⟨1, false, S1, _, rfl, rfl, fFf_O f1, Fr.wI rfl, bad_end (j := 1) h f1 Fr.rf hf h5 (Or.inl rfl) (Or.inr rfl)⟩
theorem rd_close {t : Sh} (hf : 34 ≤ f ∧ f ≤ 37) (h : TK n tx 5 w b p So Sm) (hs : PLS line f fr l (s :: t :: r) cs b So Sm) (hA : PAf line l cs (s :: t :: r)) (hnt : s.2.2.2.2 = false) (k15 : Nat → Int32 → Int32 → Int32 → Int32 → Int32 → St → Re Int32) (k11 : Int32 → Int32 → St → Re Int32) (fl : Int32) (hR : RST n tx line f fr bz p k15 k11 fl i So Sm) : ∃ rr z So' Sm', o_fo_read_127 k15 f fl (bI false) (nI (cntO (s :: t :: r))) (nI (t :: r).length) (nI i) (1000 + 5) So = some (rr, So') ∧ m_reads_304 k11 (nI (t :: r).length) (bI false) Sm = some (bI z, Sm') ∧ Fr (fRo f) So So' ∧ Fr (fRm fr) Sm Sm' ∧ DONE n tx line f fr bz rr z So' Sm' := by
  obtain ⟨h1, h2, h3, h4, h5, h6, h7, h8, h9, h10⟩ := id hs
  have hn := h.1.1
  have hb := h.2.2.2.1
  have hbp := hb.2.2 (by decide)
  rw [List.length_cons] at h8
  have h7' : ∀ x ∈ t :: r, okS x := fun x hx => h7 x (List.mem_cons_of_mem _ hx)
  obtain ⟨S1, a1, a2, a3, a4⟩ := fo_release h1 h2 (s := 1) (by decide) (by decide) (by omega)
  have hws : wsF (s :: t :: r) = tkF s ++ 4 :: wsF (t :: r) := by
    rw [wsF, if_neg (by rw [hnt]; decide)]
  have hRH : RH (4 :: wsF (t :: r)) := Or.inr ⟨_, _, rfl, rfl⟩
  rw [hws, (rl_F s hRH).1] at a2
  rw [hws, (rl_F s hRH).2.1] at a3
  obtain ⟨S2, d1, d2, d3⟩ := fo_drop a3
  have hlen : (wsF (s :: t :: r)).length = (tkF s).length + ((wsF (t :: r)).length + 1) := by rw [hws, List.length_append, List.length_cons]
  have hl1 : (l ++ zst (tkF s)).length = l.length + (tkF s).length := by rw [List.length_append, zst_len]
  obtain ⟨S3, e1, e2, e3, e4⟩ := fo_nots (a2.fw d3) d2 (by rw [hl1]; omega)
  rw [pnS_ws _ h7'] at e3
  obtain ⟨p1, p2, p3, p4, p5⟩ := pnS_len (t :: r) h7'
  have fo : Fr (fFf f) So S3 := (a4.tr (d3.mo fun a k q => fFf_w q)).tr e4
  obtain ⟨M1, b1', b2, b3⟩ := m_puts_ok h3 (by omega) (show 29 < 20000 by decide)
  have fm : Fr (fPm fr) Sm M1 := b3.mo fun a k q => fPm_c q
  have hO1 : OPN (t :: r) M1 := (h4.fw b3 fun k => ⟨rfl, rfl⟩).tl
  have hpos : 1 ≤ (pnS (t :: r)).length := by
    cases hps : pnS (t :: r) with
    | nil => exact absurd hps (p2 (by simp))
    | cons x xs => rw [List.length_cons]; omega
  have hP : PLS line f fr (l ++ zst (tkF s) ++ List.replicate (ntN (wsF (t :: r))) (7, 0)) (pnS (t :: r)) (cs ++ [29]) p S3 M1 := by
    refine ⟨e2, e3, b2, OPN.pn M1 _ hO1, ?_, (fm.i (by rfl)).trans h6, p3, ⟨hpos, by omega⟩, ?_, ?_⟩
    · rw [fo.i (fFf_n (by omega) (by omega))]
      exact h5
    · rw [List.length_append, hl1, List.length_replicate, ← pnS_ws _ h7', List.length_drop]
      have := ntN_le (wsF (t :: r))
      omega
    · rw [List.length_append]
      show fr + (cs.length + 1) ≤ _
      omega
  obtain ⟨rr, z, So', Sm', r1, r2, r3, r4, r5⟩ := hR false _ _ _ _ _ fo fm hP (Or.inr ⟨rfl, PA_close hA h7, by simp, p5⟩)
  have hcnt : cntO (s :: t :: r) = cntO (pnS (t :: r)) + 1 := by
    rw [cntO, if_neg (by rw [hnt]; decide), p4, Nat.add_comm]
  have hle : ∀ q : List Sh, cntO q ≤ q.length := fun q => by
    induction q with
    | nil => exact Nat.le_refl _
    | cons x xs ih =>
      cases xs with
      | nil => exact Nat.zero_le _
      | cons y ys =>
        rw [cntO]
        simp only [List.length_cons] at ih ⊢
        split <;> omega
  have hle2 := hle (pnS (t :: r))
  refine ⟨rr, z, So', Sm', ?_, ?_, (fFf_O fo).tr r3, (fPm_M fm).tr r4, r5⟩
  · unfold o_fo_read_127
    rw [if_pos bF, if_pos h.k20, (show tokIL.getD (KO.1 (1000 + 5)).2 0 = 0 by rw [kt h.lt]; rfl), if_neg (by decide), if_pos (h.kc (j := 5) (by decide)), if_pos rfl, hcnt, if_pos (show (0 : Int32) < nI (cntO (pnS (t :: r)) + 1) from nI_lt (a := 0) (by omega) (by omega)), if_pos h1.1.1, (show o_fo_release f 1 So = _ from a1), bnq, d1, bnq, ← Int32.sub_eq_add_neg, nI_pred, ltq, e1, bnq, (show (1 : Int32) + nI (ntN (wsF (t :: r))) = nI (1 + ntN (wsF (t :: r))) from nI_add 1 _), nI_sub (by rw [List.length_cons] at p1 ⊢; omega), ltq, show (t :: r).length - (1 + ntN (wsF (t :: r))) = (pnS (t :: r)).length - 1 by omega]
    exact r1
  · unfold m_reads_304
    rw [isWord_ok h 8 (by decide) (K := 1111) (by decide), bnq, decide_eq_false (show ¬ 5 = 8 by decide), if_pos bF, isWord_ok h 9 (by decide) (K := 423) (by decide), bnq, decide_eq_false (show ¬ 5 = 9 by decide), if_pos bF, isSign_ok h 5 (by decide) (x := 41) rfl, bnq, decide_eq_true (show 5 = 5 from rfl), if_neg bT, if_pos (show (0 : Int32) < nI (t :: r).length from nI_lt (a := 0) (by rw [List.length_cons]; omega) (by omega)), (show m_puts 29 Sm = some ((), M1) from b1'), bnq, ← Int32.sub_eq_add_neg, (show nI (t :: r).length - 1 = nI ((t :: r).length - 1) by rw [List.length_cons, nI_pred]; rfl), ltq, (m_nots k11 (bI false) M1 (t :: r) FU hO1 (by simp) (by omega) (by unfold FU; omega)).2]
    unfold m_reads_424
    exact r2
theorem rd_after (hf : 34 ≤ f ∧ f ≤ 37) (h : TK n tx k w b p So Sm) (hs : PLS line f fr l (s :: r) cs b So Sm) (hA : PAf line l cs (s :: r)) (hcs : cs ≠ []) (hnt : ∀ s' t r', s :: r = s' :: t :: r' → s'.2.2.2.2 = false) (hi : i ≤ 1000) (hbz : bz ≤ b) {m m' : Nat} (fl : Int32) (hR : k ≠ 0 → RST n tx line f fr bz p (o_fo_read_15 m) (m_reads_11 m') fl i So Sm) : ∃ rr z So' Sm', o_fo_read_15 (m + 1) f fl (bI false) (nI (cntO (s :: r))) (nI r.length) (nI i) So = some (rr, So') ∧ m_reads_11 (m' + 1) (nI r.length) (bI false) Sm = some (bI z, Sm') ∧ Fr (fRo f) So So' ∧ Fr (fRm fr) Sm Sm' ∧ DONE n tx line f fr bz rr z So' Sm' := by
  obtain ⟨h1, h2, h3, h4, h5, h6, h7, h8, h9, h10⟩ := id hs
  have hok := h7 s List.mem_cons_self
  have hws := wsF_mk s r
  have hRH := RH_mk s.2.2.2.2 r
  obtain ⟨r1', r1D, r3', r3D, r4', r4D⟩ := rl_F s hRH
  have hrl : r.length < 7 := by
    rw [List.length_cons] at h8
    omega
  rw [cl_A h hi, m11_A h]
  have hC := hd_C s (mkR s.2.2.2.2 r) hRH
  by_cases q1 : k = 12 ∨ k = 13 ∨ k = 14
  · rw [if_pos q1]
    by_cases q14 : k = 14
    · have e206 : m_reads_206 (m_reads_11 m') (nI r.length) Sm = m_reads_237 (m_reads_11 m') (nI r.length) (nI 22) Sm := by
        unfold m_reads_206
        rw [isSign_ok h 12 (by decide) (x := 43) rfl, bnq, decide_eq_false (show ¬ k = 12 by omega), if_pos bF, isSign_ok h 13 (by decide) (x := 45) rfl, bnq, decide_eq_false (show ¬ k = 13 by omega), if_pos bF]
        rfl
      rw [e206]
      refine rd_op (s' := (s.1, s.2.1, s.2.2.1, 22, s.2.2.2.2)) (e := 4) (c := 22) hf h hs (by rw [q14]; decide) (by rw [q14]; rfl) (fun c => by rw [q14] at c; exact absurd c.1 (by decide)) ?_ rfl ⟨hok.1, hok.2.1, hok.2.2.1, Or.inr rfl, ?_⟩ (by decide) ?_ _ _ _ (hR (by omega)) (Or.inl ⟨rfl, rfl⟩)
      · rw [hws, r4D, wsF_mk, q14]
        unfold tkF tT
        simp only [List.append_assoc]
        rfl
      · intro q
        have hq : s.2.2.2.2 = true := q
        cases r with
        | nil =>
          exact absurd (no_bot hA hq) id
        | cons t r => rw [hnt s t r rfl] at hq; cases hq
      · rw [hws, r4']
        exact PA_mul hA
    · have hc : ∃ c, (c = 20 ∨ c = 21) ∧ k = (if c = 20 then 12 else 13) ∧ m_reads_206 (m_reads_11 m') (nI r.length) Sm = m_reads_237 (m_reads_11 m') (nI r.length) (nI c) Sm := by
        unfold m_reads_206
        rw [isSign_ok h 12 (by decide) (x := 43) rfl, bnq]
        by_cases q12 : k = 12
        · exact ⟨20, Or.inl rfl, q12, by rw [decide_eq_true q12, if_neg bT]; rfl⟩
        · have q13 : k = 13 := by omega
          exact ⟨21, Or.inr rfl, q13, by rw [decide_eq_false q12, if_pos bF, isSign_ok h 13 (by decide) (x := 45) rfl, bnq, decide_eq_true q13, if_neg bT]; rfl⟩
      obtain ⟨c, c1', c2', c3'⟩ := hc
      have hst : stT k = 3 := by
        rcases c1' with rfl | rfl
        · rw [c2']; rfl
        · rw [c2']; rfl
      rw [c3']
      refine rd_op (s' := (s.1, s.2.1, c, 0, s.2.2.2.2)) (e := 3) (c := c) hf h hs (by omega) (by rw [hst]; rfl) (fun q => by omega) ?_ rfl ⟨hok.1, hok.2.1, Or.inr c1', Or.inl rfl, ?_⟩ (by omega) ?_ _ _ _ (hR (by omega)) (Or.inl ⟨rfl, rfl⟩)
      · rw [hws, r3D, wsF_mk, c2']
        unfold tkF tT sT
        rw [if_pos (show ((s.1, s.2.1, c, 0, s.2.2.2.2) : Sh).2.2.2.1 = 0 from rfl), if_neg (show ¬ ((s.1, s.2.1, c, 0, s.2.2.2.2) : Sh).2.2.1 = 0 by show ¬ c = 0; omega)]
        simp only [List.append_assoc]
        rfl
      · intro q
        have hq : s.2.2.2.2 = true := q
        cases r with
        | nil => exact absurd (no_bot hA hq) id
        | cons t r => rw [hnt s t r rfl] at hq; cases hq
      · rw [hws, r3']
        exact PA_plus hA hok c1'
  · rw [if_neg q1]
    by_cases q2 : k = 10 ∨ k = 11
    · rw [if_pos q2]
      have hst : stT k = 2 := by
        rcases q2 with q | q
        · rw [q]; rfl
        · rw [q]; rfl
      have htop : rI Sm 525 r.length = bI (!decide (s.2.1 = 0)) := by
        have := (h4 r.length (by rw [List.length_cons]; omega)).2
        rw [List.length_cons, show r.length + 1 - 1 - r.length = 0 by omega] at this
        exact this
      unfold m_reads_263
      rw [if_neg (nI_in hrl (by decide)), nI_clamp (by omega), htop]
      by_cases q0 : s.2.1 = 0
      · rw [decide_eq_true q0, if_pos (show bI (!true) = 0 from rfl)]
        have hc : ∃ c, (c = 24 ∨ c = 25) ∧ k = (if c = 24 then 10 else 11) ∧ (bn (m_isSign 60 Sm) fun r1 S2 => if r1 = 0 then m_reads_289 (m_reads_11 m') (nI r.length) 25 S2 else m_reads_289 (m_reads_11 m') (nI r.length) 24 S2) = m_reads_289 (m_reads_11 m') (nI r.length) (nI c) Sm := by
          rw [isSign_ok h 10 (by decide) (x := 60) rfl, bnq]
          by_cases q10 : k = 10
          · exact ⟨24, Or.inl rfl, q10, by rw [decide_eq_true q10, if_neg bT]; rfl⟩
          · exact ⟨25, Or.inr rfl, by rw [if_neg (by decide)]; omega, by rw [decide_eq_false q10, if_pos bF]; rfl⟩
        obtain ⟨c, c1', c2', c3'⟩ := hc
        rw [c3']
        refine rd_op (s' := (s.1, c, 0, 0, s.2.2.2.2)) (e := 3) (c := c) hf h hs (by omega) (by rw [hst]; rfl) (fun q => ?_) ?_ rfl ⟨hok.1, Or.inr c1', Or.inl rfl, Or.inl rfl, ?_⟩ (by omega) ?_ _ _ _ (hR (by omega)) (Or.inr (Or.inl ⟨by show ¬ c = 0; omega, rfl⟩))
        · rw [hws, r3D] at q
          exact (hC.mp q.2) q0
        · rw [hws, r3D, wsF_mk, c2']
          unfold tkF tT sT cT
          rw [if_pos (show ((s.1, c, 0, 0, s.2.2.2.2) : Sh).2.2.2.1 = 0 from rfl), if_pos (show ((s.1, c, 0, 0, s.2.2.2.2) : Sh).2.2.1 = 0 from rfl), if_neg (show ¬ ((s.1, c, 0, 0, s.2.2.2.2) : Sh).2.1 = 0 by show ¬ c = 0; omega), if_pos q0]
          simp only [List.append_assoc, List.nil_append]
          rfl
        · intro q
          have hq : s.2.2.2.2 = true := q
          cases r with
          | nil => exact absurd (no_bot hA hq) id
          | cons t r => rw [hnt s t r rfl] at hq; cases hq
        · rw [hws, r3']
          exact PA_cmp hA hok q0 c1'
      · -- a second comparison of one test
        rw [decide_eq_false q0, if_neg (show ¬ bI (!false) = 0 from bT)]
        have e304 : m_reads_304 (m_reads_11 m') (nI r.length) (bI false) Sm = some (0, wI Sm 500 9 (1 + 16 * nI b)) := by
          have e418 : m_reads_418 Sm = some (0, wI Sm 500 9 (1 + 16 * nI b)) := by
            unfold m_reads_418
            rw [m_fails_ok 1 Sm h.2.2.1.2, bnq, if_pos b0]
          unfold m_reads_304 m_reads_399
          rw [isWord_ok h 8 (by decide) (K := 1111) (by decide), bnq, decide_eq_false (show ¬ k = 8 by omega), if_pos bF, isWord_ok h 9 (by decide) (K := 423) (by decide), bnq, decide_eq_false (show ¬ k = 9 by omega), if_pos bF, isSign_ok h 5 (by decide) (x := 41) rfl, bnq, decide_eq_false (show ¬ k = 5 by omega), if_pos bF, isSign_ok h 6 (by decide) (x := 59) rfl, bnq, decide_eq_false (show ¬ k = 6 by omega), if_pos bF, e418]
          by_cases qd : nI r.length = 0
          · rw [if_pos qd]
          · rw [if_neg qd]
        have hlen : l.length + (wsF (s :: r)).length ≤ 1000 := by
          have := h.1.1
          have := h.2.2.2.1
          omega
        obtain ⟨S1, a1, a2, a3, a4⟩ := fo_before h1 h2 hlen h.lt (by omega)
        have hb : (!(decide (stT k = 2) && decide ((rlD 3 (wsF (s :: r))).head?.map stT = some 2))) = false := by
          rw [decide_eq_true hst, decide_eq_true (show (rlD 3 (wsF (s :: r))).head?.map stT = some 2 by rw [hws, r3D]; exact hC.mpr q0)]
          rfl
        refine ⟨1, false, S1, wI Sm 500 9 (nI 1 + 16 * nI b), ?_, e304, fFf_O a4, Fr.wI rfl, bad_end (j := 1) h a4 Fr.rf hf h5 (Or.inl rfl) (Or.inr rfl)⟩
        unfold o_fo_read_127 o_fo_read_172
        rw [if_pos bF, if_pos h.k20, kt h.lt, stT_all k h.lt, if_pos (show (0 : Int32) < nI (stT k) from nI_lt (a := 0) (by omega) (by omega)), if_pos h1.1.1, a1, bnq, hb, if_pos bF]
    · rw [if_neg q2]
      by_cases q3 : k = 8 ∨ k = 9
      · have hst : stT k = 1 := by
          rcases q3 with q | q
          · rw [q]; rfl
          · rw [q]; rfl
        have hc : ∃ c, (c = 26 ∨ c = 27) ∧ k = (if c = 26 then 8 else 9) ∧ m_reads_304 (m_reads_11 m') (nI r.length) (bI false) Sm = m_reads_342 (m_reads_11 m') (nI r.length) (nI c) Sm := by
          unfold m_reads_304 m_reads_324
          rw [isWord_ok h 8 (by decide) (K := 1111) (by decide), bnq]
          by_cases q8 : k = 8
          · refine ⟨26, Or.inl rfl, q8, ?_⟩
            rw [decide_eq_true q8, if_neg bT, isWord_ok h 8 (by decide) (K := 1111) (by decide), bnq, decide_eq_true q8, if_neg bT]
            rfl
          · have q9 : k = 9 := by omega
            refine ⟨27, Or.inr rfl, q9, ?_⟩
            rw [decide_eq_false q8, if_pos bF, isWord_ok h 9 (by decide) (K := 423) (by decide), bnq, decide_eq_true q9, if_neg bT, isWord_ok h 8 (by decide) (K := 1111) (by decide), bnq, decide_eq_false q8, if_pos bF]
            rfl
        obtain ⟨c, c1', c2', c3'⟩ := hc
        rw [c3']
        refine rd_op (s' := (c, 0, 0, 0, s.2.2.2.2)) (e := 1) (c := c) hf h hs (by omega) (by rw [hst]; rfl) (fun q => by omega) ?_ rfl ⟨Or.inr c1', Or.inl rfl, Or.inl rfl, Or.inl rfl, ?_⟩ (by omega) ?_ _ _ _ (hR (by omega)) (Or.inr (Or.inr ⟨rfl, rfl⟩))
        · rw [hws, r1D, wsF_mk, c2']
          unfold tkF tT sT cT kkT
          rw [if_neg (show ¬ ((c, 0, 0, 0, s.2.2.2.2) : Sh).1 = 0 by show ¬ c = 0; omega)]
          rfl
        · intro q
          have hq : s.2.2.2.2 = true := q
          cases r with
          | nil => exact absurd (no_bot hA hq) id
          | cons t r => rw [hnt s t r rfl] at hq; cases hq
        · rw [hws, r1']
          exact PA_con hA hok c1'
      · have hst : stT k = 0 := by
          unfold stT
          rw [if_neg q3, if_neg q2, if_neg (by omega), if_neg (by omega)]
        by_cases q5 : k = 5 ∧ r ≠ []
        · obtain ⟨rfl, hr⟩ := q5
          cases r with
          | nil => exact absurd rfl hr
          | cons t r => exact rd_close hf h hs hA (hnt s t r rfl) _ _ _ (hR (by decide))
        · exact rd_end hf h hs hA hcs hnt hst q5 _ _ _ hbz
end LOOPL
