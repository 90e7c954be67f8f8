/-! Reading a law: while a part is wanted. -/
section WANT
variable {n p b k i line f fr bz : Nat} {w : List Nat} {tx : Nat → Int32} {So Sm S S' So' Sm' : St} {P Q : Nat → Nat → Bool} {l : List (Nat × Int32)} {cs : List Nat} {sh r : List Sh} {s : Sh}
/-- what is held at the next token -/
def HL (line : Nat) (want : Bool) (l : List (Nat × Int32)) (cs : List Nat) (sh : List Sh) : Prop := (want = true ∧ PWf line l cs sh) ∨ (want = false ∧ PAf line l cs sh ∧ cs ≠ [] ∧ ∀ s t r, sh = s :: t :: r → s.2.2.2.2 = false)
def RST (n : Nat) (tx : Nat → Int32) (line f fr bz p : Nat) (k15 : Nat → Int32 → Int32 → Int32 → Int32 → Int32 → St → Re Int32) (k11 : Int32 → Int32 → St → Re Int32) (fl : Int32) (i : Nat) (So Sm : St) : Prop := ∀ (want : Bool) (l : List (Nat × Int32)) (sh : List Sh) (cs : List Nat) (So1 Sm1 : St), Fr (fFf f) So So1 → Fr (fPm fr) Sm Sm1 → PLS line f fr l sh cs p So1 Sm1 → HL line want l cs sh → ∃ r z So' Sm', o_fo_read_240 k15 f fl (bI want) (nI (cntO sh)) (nI (sh.length - 1)) (nI i) So1 = some (r, So') ∧ (bn (m_nextToken Sm1) fun _ S2 => k11 (nI (sh.length - 1)) (bI want) S2) = some (bI z, Sm') ∧ Fr (fRo f) So1 So' ∧ Fr (fRm fr) Sm1 Sm' ∧ DONE n tx line f fr bz r z So' Sm'
theorem OPN.push (h : OPN sh S) (h1 : rI S' 524 sh.length = if s.2.2.2.2 = true then 1 else 2) (h2 : rI S' 525 sh.length = bI (!decide (s.2.1 = 0))) (h3 : ∀ d, d < sh.length → rI S' 524 d = rI S 524 d ∧ rI S' 525 d = rI S 525 d) : OPN (s :: sh) S' := fun d hd => by
  rw [List.length_cons] at hd ⊢
  by_cases q : d = sh.length
  · rw [q, show sh.length + 1 - 1 - sh.length = 0 by omega]
    exact ⟨fun _ => h1, h2⟩
  · rw [show sh.length + 1 - 1 - d = (sh.length - 1 - d) + 1 by omega, List.getD_cons_succ, (h3 d (by omega)).1, (h3 d (by omega)).2]
    exact h d (by omega)
theorem cnt_cons (s : Sh) (hne : sh ≠ []) : cntO (s :: sh) = (if s.2.2.2.2 = true then 0 else 1) + cntO sh ∧ wsF (s :: sh) = tkF s ++ (if s.2.2.2.2 = true then 7 else 4) :: wsF sh := by
  cases sh with
  | nil => exact absurd rfl hne
  | cons t r => exact ⟨rfl, rfl⟩
theorem rd_open (hf : 34 ≤ f ∧ f ≤ 37) (h : TK n tx k w b p So Sm) (hs : PLS line f fr l sh cs b So Sm) (hw : PWf line l cs sh) (isn : Bool) (hk : k = if isn = true then 7 else 4) (k15 : Nat → Int32 → Int32 → Int32 → Int32 → Int32 → St → Re Int32) (k11 : Int32 → Int32 → St → Re Int32) (fl : Int32) (hR : RST n tx line f fr bz p k15 k11 fl i So Sm) : ∃ r z So' Sm', o_fo_read_80 k15 f fl (bI true) (nI (cntO sh)) (nI (sh.length - 1)) (nI i) (1000 + k) 1 So = some (r, So') ∧ m_reads_65 k11 (nI (sh.length - 1)) (bI true) 0 (bI isn) (bI (!isn)) Sm = some (bI z, Sm') ∧ Fr (fRo f) So So' ∧ Fr (fRm fr) Sm Sm' ∧ DONE n tx line f fr bz r z So' Sm' := by
  obtain ⟨h1, h2, h3, h4, h5, h6, h7, h8, h9, h10⟩ := id hs
  have hn := h.1.1
  have hb := h.2.2.2.1
  have hk0 : k ≠ 0 := by cases isn <;> simp at hk <;> omega
  have hbp := hb.2.2 hk0
  have hne : sh ≠ [] := fun q => by rw [q] at h8; simp at h8
  have hwl := wsF_len sh
  unfold o_fo_read_80
  by_cases q5 : sh.length - 1 < 5
  · obtain ⟨S1, a1, a2, a3⟩ := fo_hold h2 (by omega) h.lt
    have hc28 : (if isn = true then 30 else 28) < 20000 := by cases isn <;> decide
    obtain ⟨M1, b1', b2, b3⟩ := m_puts_ok h3 (by omega) hc28
    obtain ⟨c1', c2'⟩ := cnt_cons (0, 0, 0, 0, isn) hne
    have ews : wsF ((0, 0, 0, 0, isn) :: sh) = k :: wsF sh := by
      rw [c2', hk]
      rfl
    have f3 : Fr (fPm fr) M1 (wI (wI M1 524 sh.length (if isn = true then 1 else 2)) 525 sh.length 0) := (Fr.wI rfl).tr (Fr.wI rfl)
    have fm : Fr (fPm fr) Sm (wI (wI M1 524 sh.length (if isn = true then 1 else 2)) 525 sh.length 0) := (b3.mo fun a k q => fPm_c q).tr f3
    have fo : Fr (fFf f) So S1 := a3.mo fun a k q => fFf_w q
    have hP : PLS line f fr l ((0, 0, 0, 0, isn) :: sh) (cs ++ [if isn = true then 30 else 28]) p S1 (wI (wI M1 524 sh.length (if isn = true then 1 else 2)) 525 sh.length 0) := by
      refine ⟨h1.fw a3, by rw [ews]; exact a2, b2.fr' (P := fun a _ => a == 524 || a == 525) ((Fr.wI rfl).tr (Fr.wI rfl)) (by rfl) (fun k => ?_), (h4.fw b3 fun k => ⟨rfl, rfl⟩).push ?_ ?_ ?_, ?_, (fm.i (by rfl)).trans h6, ?_, ?_, ?_, ?_⟩
      · rfl
      · rw [rI_wI_a (by decide), rI_wI]
      · rw [rI_wI]
        rfl
      · intro d hd
        rw [rI_wI_a (by decide), rI_wI_k (by omega), rI_wI_k (by omega), rI_wI_a (by decide)]
        exact ⟨rfl, rfl⟩
      · rw [fo.i (fFf_n (by omega) (by omega))]
        exact h5
      · intro s hs'
        rcases List.mem_cons.mp hs' with rfl | hs'
        · exact ⟨Or.inl rfl, Or.inl rfl, Or.inl rfl, Or.inl rfl, fun _ => ⟨rfl, rfl, rfl, rfl⟩⟩
        · exact h7 s hs'
      · rw [List.length_cons]
        omega
      · rw [ews, List.length_cons]
        omega
      · rw [List.length_append]
        show fr + (cs.length + 1) ≤ _
        omega
    have hH : HL line true l (cs ++ [if isn = true then 30 else 28]) ((0, 0, 0, 0, isn) :: sh) := by
      refine Or.inl ⟨rfl, ?_⟩
      have := PW_open hw (show sh.length < 7 by omega) (c := if isn = true then 30 else 28) (by cases isn <;> simp)
      cases isn <;> exact this
    obtain ⟨r, z, So', Sm', r1, r2, r3, r4, r5⟩ := hR true l _ _ _ _ fo fm hP hH
    rw [List.length_cons, show sh.length + 1 - 1 = sh.length by omega] at r1 r2
    have eD : nI (sh.length - 1) + 1 = nI sh.length := by rw [nI_1, show sh.length - 1 + 1 = sh.length by omega]
    refine ⟨r, z, So', Sm', ?_, ?_, (fFf_O fo).tr r3, (fPm_M fm).tr r4, r5⟩
    · rw [if_pos (show nI (sh.length - 1) < 5 from nI_lt (b := 5) q5 (by decide))]
      unfold o_fo_read_88 o_fo_read_121
      rw [if_neg bT, if_neg (by decide), if_pos h1.1.1, a1, bnq, eD, ltq, if_pos (h.kc (j := 4) (by decide))]
      rw [c1'] at r1
      cases isn with
      | true =>
        rw [if_neg (show ¬ 1000 + k = 1004 by simp at hk; omega), Int32.add_zero, ltq]
        rw [if_pos rfl, Nat.zero_add] at r1
        exact r1
      | false =>
        rw [if_pos (show 1000 + k = 1004 by simp at hk; omega), nI_1, ltq]
        rw [if_neg (by decide), Nat.add_comm] at r1
        exact r1
    · unfold m_reads_65 m_reads_86 m_reads_99 m_reads_120 m_reads_172
      rw [if_neg (show ¬ nI (sh.length - 1) = 5 from nI_ne (b := 5) (by omega) (by omega) (by decide))]
      cases isn with
      | true =>
        rw [if_neg bT, if_neg bT, (show m_puts 30 Sm = some ((), M1) from b1'), bnq, eD, ltq, if_neg bT, if_neg (nI_in (by omega) (by omega)), nI_clamp (by omega), ltq (wI M1 524 _ _), if_neg (nI_inC (by omega) (by omega)), ltq]
        exact r2
      | false =>
        rw [if_pos bF, if_neg (show ¬ bI (!false) = 0 from bT), if_pos bF, (show m_puts 28 Sm = some ((), M1) from b1'), bnq, eD, ltq, if_pos bF, if_neg (nI_in (by omega) (by omega)), nI_clamp (by omega), ltq (wI M1 524 _ _), if_neg (nI_inC (by omega) (by omega)), ltq]
        exact r2
  · have e6 : sh.length - 1 = 5 := by omega
    rw [if_neg (show ¬ nI (sh.length - 1) < 5 from nI_nlt (b := 5) (by omega) (by omega))]
    unfold o_fo_read_86 m_reads_65 m_reads_70
    rw [if_pos (show nI (sh.length - 1) = 5 by rw [e6]; rfl), m_fails_ok 5 Sm h.2.2.1.2, bnq, if_pos b0]
    exact ⟨5, false, So, _, rfl, rfl, Fr.rf, Fr.wI rfl, bad_end (j := 5) h Fr.rf Fr.rf hf h5 (Or.inr rfl) (Or.inr rfl)⟩
theorem rd_value (hf : 34 ≤ f ∧ f ≤ 37) (hl : line < 2) (h : TK n tx k w b p So Sm) (hs : PLS line f fr l sh cs b So Sm) (hw : PWf line l cs sh) (hk : k = 2 ∨ ¬ fcB line k = 0) (k15 : Nat → Int32 → Int32 → Int32 → Int32 → Int32 → St → Re Int32) (k11 : Int32 → Int32 → St → Re Int32) (fl : Int32) (hR : RST n tx line f fr bz p k15 k11 fl i So Sm) : ∃ r z So' Sm', o_fo_read_80 k15 f fl (bI true) (nI (cntO sh)) (nI (sh.length - 1)) (nI i) (1000 + k) 0 So = some (r, So') ∧ m_reads_65 k11 (nI (sh.length - 1)) (bI true) (nI (fcB line k)) (bI false) (bI false) Sm = some (bI z, Sm') ∧ Fr (fRo f) So So' ∧ Fr (fRm fr) Sm Sm' ∧ DONE n tx line f fr bz r z So' Sm' := by
  obtain ⟨h1, h2, h3, h4, h5, h6, h7, h8, h9, h10⟩ := id hs
  have hn := h.1.1
  have hb := h.2.2.2.1
  have hf2 : fcB line 2 = 0 := by
    rcases (show line = 0 ∨ line = 1 by omega) with rfl | rfl <;> decide
  have h36 : ¬ k = 2 → 36 ≤ k := fun q => by
    have q2 : ¬ fcB line k = 0 := by
      rcases hk with hk | hk
      · exact absurd hk q
      · exact hk
    unfold fcB at q2
    revert q2
    split
    · split <;> omega
    · split <;> omega
  have hfc : fcB line k < 20 := by
    have := h.lt
    unfold fcB
    repeat' split
    all_goals omega
  have hk0 : k ≠ 0 := by omega
  have hbp := hb.2.2 hk0
  have hne : sh ≠ [] := fun q => by rw [q] at h8; simp at h8
  unfold o_fo_read_80
  by_cases q5 : sh.length - 1 < 5
  · obtain ⟨S1, a1, a2, a3⟩ := fo_add h1 (by omega) h.lt (rI So 3 4)
    obtain ⟨S2, d1, d2, d3, d4⟩ := fo_nots a2 (h2.fa a3) (by rw [List.length_append]; show l.length + 1 + _ ≤ _; omega)
    obtain ⟨p1, p2, p3, p4, p5⟩ := pnS_len sh h7
    -- the code
    have hc : ∃ c x, c < 20000 ∧ rI So 3 4 = x ∧ ((k = 2 ∧ ∃ j, c = 100 + j ∧ x = nI j) ∨ (¬ fcB line k = 0 ∧ c = fcB line k)) ∧ (if (0 : Int32) < nI (fcB line k) then m_reads_147 k11 (nI (sh.length - 1)) (nI (fcB line k)) Sm else m_reads_147 k11 (nI (sh.length - 1)) (100 + rI Sm 500 8) Sm) = m_reads_147 k11 (nI (sh.length - 1)) (nI c) Sm := by
      by_cases q2 : k = 2
      · rcases h.2.2.2.2.2 with ⟨e, _⟩ | ⟨e, _⟩ | ⟨_, _, j, j1, j2, j3⟩ | ⟨e, _, _⟩ | ⟨_, e, _⟩
        · omega
        · omega
        · refine ⟨100 + j, nI j, by omega, j2, Or.inl ⟨q2, j, rfl, rfl⟩, ?_⟩
          rw [q2, hf2, if_neg (show ¬ (0 : Int32) < nI 0 by decide), j3, show (100 : Int32) = nI 100 from rfl, nI_add]
        · have := (sgT_lt (tx b)).2
          omega
        · have := (ltT_lt (lN (pk5 w))).2
          omega
      · have q3 : ¬ fcB line k = 0 := by
          rcases hk with hk | hk
          · exact absurd hk q2
          · exact hk
        exact ⟨fcB line k, rI So 3 4, by omega, rfl, Or.inr ⟨q3, rfl⟩, by rw [if_pos (show (0 : Int32) < nI (fcB line k) from nI_lt (a := 0) (by omega) (by omega))]⟩
    obtain ⟨c, x, c1', c2', c3', c4'⟩ := hc
    rw [c2'] at a1 a2 d2
    obtain ⟨M1, b1', b2, b3⟩ := m_puts_ok h3 (by omega) c1'
    have hO1 : OPN sh M1 := h4.fw b3 fun k => ⟨rfl, rfl⟩
    have fm : Fr (fPm fr) Sm M1 := b3.mo fun a k q => fPm_c q
    have fo : Fr (fFf f) So S2 := (a3.mo fun a k q => fFf_a q).tr d4
    rw [pnS_ws sh h7] at d3
    have hP : PLS line f fr (l ++ [(k, x)] ++ List.replicate (ntN (wsF sh)) (7, 0)) (pnS sh) (cs ++ [c]) p S2 M1 := by
      refine ⟨d2, d3, b2, OPN.pn M1 sh hO1, ?_, (fm.i (by rfl)).trans h6, p3, ?_, ?_, ?_⟩
      · rw [fo.i (fFf_n (by omega) (by omega))]
        exact h5
      · have := p2 hne
        cases hps : pnS sh with
        | nil => exact absurd hps this
        | cons s r =>
          rw [hps, List.length_cons] at p1
          rw [List.length_cons]
          omega
      · rw [List.length_append, List.length_append, List.length_replicate, ← pnS_ws sh h7, List.length_drop]
        have := ntN_le (wsF sh)
        show l.length + 1 + _ + _ ≤ _
        omega
      · rw [List.length_append]
        show fr + (cs.length + 1) ≤ _
        omega
    have hH : HL line false (l ++ [(k, x)] ++ List.replicate (ntN (wsF sh)) (7, 0)) (cs ++ [c]) (pnS sh) := by
      refine Or.inr ⟨rfl, PW_val hw (by omega) h7 h.lt ?_ (by omega) c3', by simp, p5⟩
      unfold stT
      repeat rw [if_neg (by omega)]
    obtain ⟨r, z, So', Sm', r1, r2, r3, r4, r5⟩ := hR false _ _ _ _ _ fo fm hP hH
    refine ⟨r, z, So', Sm', ?_, ?_, (fFf_O fo).tr r3, (fPm_M fm).tr r4, r5⟩
    · rw [if_pos (show nI (sh.length - 1) < 5 from nI_lt (b := 5) q5 (by decide))]
      unfold o_fo_read_88 o_fo_read_127
      rw [if_neg bT, if_pos rfl, if_neg bT, if_pos h1.1.1, c2', a1, bnq, d1, bnq, nI_sub (by have := p2 hne; cases hps : pnS sh with | nil => exact absurd hps this | cons s r => rw [hps, List.length_cons] at p1; omega), ltq]
      rw [p4, show (pnS sh).length - 1 = sh.length - 1 - ntN (wsF sh) by omega] at r1
      exact r1
    · unfold m_reads_65
      rw [if_neg (show ¬ nI (sh.length - 1) = 5 from nI_ne (b := 5) (by omega) (by omega) (by decide)), if_pos bF, if_pos bF, c4']
      unfold m_reads_147
      rw [b1', bnq, (m_nots k11 0 M1 sh FU hO1 hne (by omega) (by unfold FU; omega)).1]
      unfold m_reads_172
      exact r2
  · have e6 : sh.length - 1 = 5 := by omega
    rw [if_neg (show ¬ nI (sh.length - 1) < 5 from nI_nlt (b := 5) (by omega) (by omega))]
    unfold o_fo_read_86 m_reads_65 m_reads_70
    rw [if_pos (show nI (sh.length - 1) = 5 by rw [e6]; rfl), m_fails_ok 5 Sm h.2.2.1.2, bnq, if_pos b0]
    exact ⟨5, false, So, _, rfl, rfl, Fr.rf, Fr.wI rfl, bad_end (j := 5) h Fr.rf Fr.rf hf h5 (Or.inr rfl) (Or.inr rfl)⟩
theorem rd_want (hf : 34 ≤ f ∧ f ≤ 37) (hl : line < 2) (h : TK n tx k w b p So Sm) (hs : PLS line f fr l sh cs b So Sm) (hw : PWf line l cs sh) (hi : i ≤ 1000) {m m' : Nat} (hR : k ≠ 0 → RST n tx line f fr bz p (o_fo_read_15 m) (m_reads_11 m') (bI (decide (line = 0))) i So Sm) : ∃ r z So' Sm', o_fo_read_15 (m + 1) f (bI (decide (line = 0))) (bI true) (nI (cntO sh)) (nI (sh.length - 1)) (nI i) So = some (r, So') ∧ m_reads_11 (m' + 1) (nI (sh.length - 1)) (bI true) Sm = some (bI z, Sm') ∧ Fr (fRo f) So So' ∧ Fr (fRm fr) Sm Sm' ∧ DONE n tx line f fr bz r z So' Sm' := by
  have h6 := hs.2.2.2.2.2.1
  have h5 := hs.2.2.2.2.1
  have hk42 := h.lt
  have hlow : ∀ j, j < 36 → fcB line j = 0 := fun j hj => by
    unfold fcB
    split
    · rw [if_neg (by omega)]
    · rw [if_neg (by omega)]
  rw [o_fo_read_15, if_neg (show ¬ (1000 : Int32) < nI i from nI_nlt (a := 1000) hi (by decide)), oq2 h.q, if_pos (h.kc (j := 7) (by decide)), m_reads_11, if_neg bT, fact_ok h hl h6, bnq, isWord_ok h 7 (by decide) (K := 10631) (by decide), bnq, isSign_ok h 4 (by decide) (x := 40) rfl, bnq]
  by_cases q7 : k = 7
  · obtain ⟨r, z, So', Sm', r1, r2, r3, r4, r5⟩ := rd_open hf h hs hw true (by rw [q7]; rfl) (o_fo_read_15 m) (m_reads_11 m') (bI (decide (line = 0))) (hR (by omega))
    refine ⟨r, z, So', Sm', ?_, ?_, r3, r4, r5⟩
    · unfold o_fo_read_45 o_fo_read_50
      rw [if_pos (show 1000 + k = 1007 by omega), if_neg bT, if_neg (by decide)]
      exact r1
    · rw [hlow k (by omega), if_pos (show nI 0 = 0 from rfl), decide_eq_true q7, if_neg bT, decide_eq_false (show ¬ k = 4 by omega)]
      exact r2
  · by_cases q4 : k = 4
    · obtain ⟨r, z, So', Sm', r1, r2, r3, r4, r5⟩ := rd_open hf h hs hw false (by rw [q4]; rfl) (o_fo_read_15 m) (m_reads_11 m') (bI (decide (line = 0))) (hR (by omega))
      refine ⟨r, z, So', Sm', ?_, ?_, r3, r4, r5⟩
      · unfold o_fo_read_45 o_fo_read_50
        rw [if_neg (show ¬ 1000 + k = 1007 by omega), if_pos (h.kc (j := 4) (by decide)), if_pos (show 1000 + k = 1004 by omega), if_neg bT, if_neg (by decide)]
        exact r1
      · rw [hlow k (by omega), if_pos (show nI 0 = 0 from rfl), decide_eq_false q7, if_pos bF, decide_eq_true q4, if_neg bT]
        exact r2
    · rw [if_neg (show ¬ 1000 + k = 1007 by omega), if_pos (h.kc (j := 4) (by decide)), if_neg (show ¬ 1000 + k = 1004 by omega), decide_eq_false q7, decide_eq_false q4]
      unfold o_fo_read_50
      rw [if_neg bT, if_pos rfl, if_pos (h.kc (j := 2) (by decide))]
      by_cases q2 : k = 2
      · obtain ⟨r, z, So', Sm', r1, r2, r3, r4, r5⟩ := rd_value hf hl h hs hw (Or.inl q2) (o_fo_read_15 m) (m_reads_11 m') (bI (decide (line = 0))) (hR (by omega))
        refine ⟨r, z, So', Sm', ?_, ?_, r3, r4, r5⟩
        · rw [if_pos (show 1000 + k = 1002 by omega)]
          exact r1
        · have e2 : rI Sm 500 6 = 2 := by
            rcases h.2.2.2.2.2 with ⟨e, _⟩ | ⟨e, _⟩ | ⟨_, e, _⟩ | ⟨e, _, _⟩ | ⟨_, e, _⟩
            · omega
            · omega
            · exact e
            · have := (sgT_lt (tx b)).2
              omega
            · have := (ltT_lt (lN (pk5 w))).2
              omega
          rw [hlow k (by omega)] at r2 ⊢
          rw [if_pos (show nI 0 = 0 from rfl), if_pos bF, if_pos bF, if_pos e2]
          exact r2
      · by_cases qf : fcB line k = 0
        · refine ⟨1, false, So, wI Sm 500 9 (nI 1 + 16 * nI b), ?_, ?_, Fr.rf, Fr.wI rfl, bad_end (j := 1) h Fr.rf Fr.rf hf h5 (Or.inl rfl) (Or.inr rfl)⟩
          · rw [if_neg (show ¬ 1000 + k = 1002 by omega), if_pos h.k20, isFactOf_ok hk42 hl, bnq, decide_eq_true qf, if_pos (show bI (!true) = 0 from rfl)]
            rfl
          · have e2 : ¬ rI Sm 500 6 = 2 := by
              rcases h.2.2.2.2.2 with ⟨_, e⟩ | ⟨_, e⟩ | ⟨e, _⟩ | ⟨_, _, e⟩ | ⟨_, _, e, _⟩
              · rw [e]; decide
              · rw [e]; decide
              · exact absurd e q2
              · rw [e]; decide
              · rw [e]; decide
            unfold m_reads_59
            rw [qf, if_pos (show nI 0 = 0 from rfl), if_pos bF, if_pos bF, if_neg e2, m_fails_ok 1 Sm h.2.2.1.2, bnq, if_pos b0]
            rfl
        · obtain ⟨r, z, So', Sm', r1, r2, r3, r4, r5⟩ := rd_value hf hl h hs hw (Or.inr qf) (o_fo_read_15 m) (m_reads_11 m') (bI (decide (line = 0))) (hR fun q => qf (by rw [q]; exact hlow 0 (by omega)))
          have hfc : fcB line k < 20 := by
            unfold fcB
            repeat' split
            all_goals omega
          refine ⟨r, z, So', Sm', ?_, ?_, r3, r4, r5⟩
          · rw [if_neg (show ¬ 1000 + k = 1002 by omega), if_pos h.k20, isFactOf_ok hk42 hl, bnq, decide_eq_false qf, if_neg (show ¬ bI (!false) = 0 from bT)]
            exact r1
          · rw [if_neg (nI_ne0 (by omega) (by omega))]
            exact r2
end WANT
