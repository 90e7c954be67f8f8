/-! Reading a law: behind a part. -/
section AFTER
variable {n p b k i line f fr bz : Nat} {w : List Nat} {tx : Nat → Int32} {So Sm S S' So' Sm' : St} {P Q : Nat → Nat → Bool} {l : List (Nat × Int32)} {cs : List Nat} {sh r : List Sh} {s s' : Sh}
def mkR (nt : Bool) : List Sh → List Nat
  | [] => []
  | t :: r => (if nt = true then 7 else 4) :: wsF (t :: r)
theorem wsF_mk (s : Sh) (r : List Sh) : wsF (s :: r) = tkF s ++ mkR s.2.2.2.2 r := by
  cases r with
  | nil => exact (List.append_nil _).symm
  | cons t r => rfl
theorem RH_mk (nt : Bool) (r : List Sh) : RH (mkR nt r) := by
  cases r with
  | nil => exact Or.inl rfl
  | cons t r =>
    refine Or.inr ⟨_, _, rfl, ?_⟩
    cases nt <;> rfl
theorem rlT_len (e : Nat) : ∀ ws : List Nat, (rlT e ws).length + (rlD e ws).length = ws.length
  | [] => rfl
  | t :: ws => by
    have ih := rlT_len e ws
    rw [rlT, rlD]
    by_cases q : e ≤ stT t
    · rw [if_pos q, if_pos q, List.length_cons, List.length_cons]
      omega
    · rw [if_neg q, if_neg q, List.length_nil]
      omega
theorem zst_len (q : List Nat) : (zst q).length = q.length := List.length_map _
theorem cnt_ch (h : s'.2.2.2.2 = s.2.2.2.2) : cntO (s' :: r) = cntO (s :: r) := by
  cases r with
  | nil => rfl
  | cons t r => rw [cntO, cntO, h]
theorem OPN.ch (h : OPN (s :: r) S) (hn : s'.2.2.2.2 = s.2.2.2.2) (h1 : rI S' 525 r.length = bI (!decide (s'.2.1 = 0))) (h2 : ∀ d, rI S' 524 d = rI S 524 d) (h3 : ∀ d, d < r.length → rI S' 525 d = rI S 525 d) : OPN (s' :: r) S' := fun d hd => by
  have h0 := h d (by rw [List.length_cons] at hd ⊢; exact hd)
  rw [List.length_cons] at hd h0 ⊢
  rw [h2]
  by_cases q : d = r.length
  · rw [q, show r.length + 1 - 1 - r.length = 0 by omega] at h0 ⊢
    refine ⟨fun hd1 => ?_, h1⟩
    have := h0.1 hd1
    show _ = if s'.2.2.2.2 = true then 1 else 2
    rw [hn]
    exact this
  · rw [show r.length + 1 - 1 - d = (r.length - 1 - d) + 1 by omega, List.getD_cons_succ] at h0 ⊢
    rw [h3 d (by omega)]
    exact h0
theorem TK.fo (hf : 34 ≤ f ∧ f ≤ 37) (h : TK n tx k w b p So Sm) (fo : Fr (fFf f) So So') : TK n tx k w b p So' Sm := by
  obtain ⟨h1, h2, h3, h4, h5, h6⟩ := h
  have e : ∀ j, rI So' 3 j = rI So 3 j := fun j => fo.i (fFf_n (by omega) (by omega))
  have e' : rJ So' 3 5 = rJ So 3 5 := fo.j (fFf_n (by omega) (by omega))
  refine ⟨TK.po (fr := 0) hf h1 fo Fr.rf, ⟨(e 2).trans h2.1, h2.2⟩, ⟨(e 3).trans h3.1, h3.2⟩, h4, (fo.q (fFf_n (by omega) (by omega))).trans h5, ?_⟩
  unfold KC
  rw [e 4, e']
  exact h6
/-- the class's way to an operator -/
theorem op_class (h : TK n tx k w b p So Sm) (h1 : FS f l So) (h2 : WT f (wsF (s :: r)) So) (hlen : l.length + (wsF (s :: r)).length ≤ 1000) (h62 : (wsF (s :: r)).length < 62) (hst : 0 < stT k) {e : Nat} (he : e = if stT k = 2 then 3 else stT k) (href : ¬ (stT k = 2 ∧ (rlD 3 (wsF (s :: r))).head?.map stT = some 2)) (hd : k :: rlD e (wsF (s :: r)) = wsF (s' :: r)) (k15 : Nat → Int32 → Int32 → Int32 → Int32 → Int32 → St → Re Int32) (fl v4 v5 v6 : Int32) : ∃ S1, o_fo_read_127 k15 f fl (bI false) v4 v5 v6 (1000 + k) So = o_fo_read_240 k15 f fl (bI true) v4 v5 v6 S1 ∧ FS f (l ++ zst (rlT e (wsF (s :: r)))) S1 ∧ WT f (wsF (s' :: r)) S1 ∧ Fr (fFf f) So S1 := by
  obtain ⟨S1, a1, a2, a3, a4⟩ := fo_before h1 h2 hlen h.lt hst
  rw [← he] at a2 a3
  have hlD := rlT_len e (wsF (s :: r))
  obtain ⟨S2, b1', b2, b3⟩ := fo_hold a3 (by omega) h.lt
  rw [hd] at b2
  refine ⟨S2, ?_, a2.fw b3, b2, a4.tr (b3.mo fun a k q => fFf_w q)⟩
  have hb : (!(decide (stT k = 2) && decide ((rlD 3 (wsF (s :: r))).head?.map stT = some 2))) = true := by
    rw [Bool.not_eq_true', Bool.and_eq_false_iff, decide_eq_false_iff_not, decide_eq_false_iff_not]
    by_cases q : stT k = 2
    · exact Or.inr fun c => href ⟨q, c⟩
    · exact Or.inl q
  have h4 := stT_le k
  unfold o_fo_read_127
  rw [if_pos bF, if_pos h.k20, kt h.lt, stT_all k h.lt, if_pos (show (0 : Int32) < nI (stT k) from nI_lt (a := 0) hst (by omega)), if_pos h1.1.1, a1, bnq, hb, if_neg bT, b1', bnq]
  rfl
theorem cl_A (h : TK n tx k w b p So Sm) (hi : i ≤ 1000) (m : Nat) (fl v4 v5 : Int32) : o_fo_read_15 (m + 1) f fl (bI false) v4 v5 (nI i) So = o_fo_read_127 (o_fo_read_15 m) f fl (bI false) v4 v5 (nI i) (1000 + k) So := by
  have e88 : ∀ x : Int32, o_fo_read_50 (o_fo_read_15 m) f fl (bI false) v4 v5 (nI i) (1000 + k) x So = o_fo_read_127 (o_fo_read_15 m) f fl (bI false) v4 v5 (nI i) (1000 + k) So := fun x => by
    unfold o_fo_read_50 o_fo_read_88
    rw [if_pos bF, if_pos bF]
  rw [o_fo_read_15, if_neg (show ¬ (1000 : Int32) < nI i from nI_nlt (a := 1000) hi (by decide)), oq2 h.q, if_pos (h.kc (j := 7) (by decide))]
  unfold o_fo_read_45
  rw [e88, e88, if_pos (h.kc (j := 4) (by decide))]
  by_cases q : 1000 + k = 1007
  · rw [if_pos q]
  · by_cases q2 : 1000 + k = 1004
    · rw [if_neg q, if_pos q2]
    · rw [if_neg q, if_neg q2]
theorem m11_A (h : TK n tx k w b p So Sm) (m : Nat) (v1 : Int32) : m_reads_11 (m + 1) v1 (bI false) Sm = if k = 12 ∨ k = 13 ∨ k = 14 then m_reads_206 (m_reads_11 m) v1 Sm else if k = 10 ∨ k = 11 then m_reads_263 (m_reads_11 m) v1 (bI false) Sm else m_reads_304 (m_reads_11 m) v1 (bI false) Sm := by
  rw [m_reads_11, if_pos bF, isSign_ok h 12 (by decide) (x := 43) rfl, bnq]
  by_cases q1 : k = 12
  · rw [decide_eq_true q1, if_neg bT, if_pos (Or.inl q1)]
  rw [decide_eq_false q1, if_pos bF, isSign_ok h 13 (by decide) (x := 45) rfl, bnq]
  by_cases q2 : k = 13
  · rw [decide_eq_true q2, if_neg bT, if_pos (Or.inr (Or.inl q2))]
  rw [decide_eq_false q2, if_pos bF, isSign_ok h 14 (by decide) (x := 42) rfl, bnq]
  by_cases q3 : k = 14
  · rw [decide_eq_true q3, if_neg bT, if_pos (Or.inr (Or.inr q3))]
  rw [decide_eq_false q3, if_pos bF, isSign_ok h 10 (by decide) (x := 60) rfl, bnq, if_neg (show ¬ (k = 12 ∨ k = 13 ∨ k = 14) by omega)]
  by_cases q4 : k = 10
  · rw [decide_eq_true q4, if_neg bT, if_pos (Or.inl q4)]
  rw [decide_eq_false q4, if_pos bF, isSign_ok h 11 (by decide) (x := 61) rfl, bnq]
  by_cases q5 : k = 11
  · rw [decide_eq_true q5, if_neg bT, if_pos (Or.inr q5)]
  rw [decide_eq_false q5, if_pos bF, if_neg (show ¬ (k = 10 ∨ k = 11) by omega)]
/-- an operator, on both sides -/
theorem rd_op (hf : 34 ≤ f ∧ f ≤ 37) (h : TK n tx k w b p So Sm) (hs : PLS line f fr l (s :: r) cs b So Sm) (hst : 0 < stT k) {e c : Nat} (he : e = if stT k = 2 then 3 else stT k) (href : ¬ (stT k = 2 ∧ (rlD 3 (wsF (s :: r))).head?.map stT = some 2)) (hd : k :: rlD e (wsF (s :: r)) = wsF (s' :: r)) (hnt : s'.2.2.2.2 = s.2.2.2.2) (hok' : okS s') (hc : c < 20000) (hW : PWf line (l ++ zst (rlT e (wsF (s :: r)))) (cs ++ [c]) (s' :: r)) (k15 : Nat → Int32 → Int32 → Int32 → Int32 → Int32 → St → Re Int32) (k11 : Int32 → Int32 → St → Re Int32) (fl : Int32) (hR : RST n tx line f fr bz p k15 k11 fl i So Sm) {X : Re Int32} (hX : (s'.2.1 = s.2.1 ∧ X = m_reads_237 k11 (nI r.length) (nI c) Sm) ∨ (¬ s'.2.1 = 0 ∧ X = m_reads_289 k11 (nI r.length) (nI c) Sm) ∨ (s'.2.1 = 0 ∧ X = m_reads_342 k11 (nI r.length) (nI c) Sm)) : ∃ rr z So' Sm', o_fo_read_127 k15 f fl (bI false) (nI (cntO (s :: r))) (nI r.length) (nI i) (1000 + k) So = some (rr, So') ∧ X = some (bI z, Sm') ∧ Fr (fRo f) So So' ∧ Fr (fRm fr) Sm Sm' ∧ DONE n tx line f fr bz rr z So' Sm' := by
  obtain ⟨h1, h2, h3, h4, h5, h6, h7, h8, h9, h10⟩ := id hs
  have hn := h.1.1
  have hb := h.2.2.2.1
  have hk0 : k ≠ 0 := fun q => by rw [q] at hst; exact absurd hst (by decide)
  have hbp := hb.2.2 hk0
  have hwl := wsF_len (s :: r)
  obtain ⟨S1, a1, a2, a3, a4⟩ := op_class (s' := s') h h1 h2 (by omega) (by omega) hst he href hd k15 fl (nI (cntO (s :: r))) (nI r.length) (nI i)
  obtain ⟨M1, b1', b2, b3⟩ := m_puts_ok h3 (by omega) hc
  have hO1 : OPN (s :: r) M1 := h4.fw b3 fun k => ⟨rfl, rfl⟩
  have hrl : r.length < 7 := by
    rw [List.length_cons] at h8
    omega
  have htop : rI M1 525 r.length = bI (!decide (s.2.1 = 0)) := by
    have := (hO1 r.length (by rw [List.length_cons]; omega)).2
    rw [List.length_cons, show r.length + 1 - 1 - r.length = 0 by omega] at this
    exact this
  have fm1 : Fr (fPm fr) Sm M1 := b3.mo fun a k q => fPm_c q
  have hlD := rlT_len e (wsF (s :: r))
  have hws : (wsF (s' :: r)).length = (rlD e (wsF (s :: r))).length + 1 := by rw [← hd, List.length_cons]
  have go : ∀ M2, Fr (fun a k => a == 525) M1 M2 → OPN (s' :: r) M2 → ∃ rr z So' Sm', o_fo_read_127 k15 f fl (bI false) (nI (cntO (s :: r))) (nI r.length) (nI i) (1000 + k) So = some (rr, So') ∧ (bn (m_nextToken M2) fun _ S2 => k11 (nI r.length) (bI true) S2) = some (bI z, Sm') ∧ Fr (fRo f) So So' ∧ Fr (fRm fr) Sm Sm' ∧ DONE n tx line f fr bz rr z So' Sm' := by
    intro M2 f2 hO2
    have fm : Fr (fPm fr) Sm M2 := fm1.tr (f2.mo fun a k q => by
      unfold fPm at q
      simp at q ⊢
      omega)
    have hP : PLS line f fr (l ++ zst (rlT e (wsF (s :: r)))) (s' :: r) (cs ++ [c]) p S1 M2 := by
      refine ⟨a2, a3, b2.fr' f2 (by rfl) (fun k => by rfl), hO2, ?_, (fm.i (by rfl)).trans h6, ?_, ?_, ?_, ?_⟩
      · rw [a4.i (fFf_n (by omega) (by omega))]
        exact h5
      · intro x hx
        rcases List.mem_cons.mp hx with rfl | hx
        · exact hok'
        · exact h7 x (List.mem_cons_of_mem _ hx)
      · rw [List.length_cons] at h8 ⊢
        exact h8
      · rw [List.length_append, zst_len, hws]
        omega
      · rw [List.length_append]
        show fr + (cs.length + 1) ≤ _
        omega
    obtain ⟨rr, z, So', Sm', r1, r2, r3, r4, r5⟩ := hR true _ _ _ _ _ a4 fm hP (Or.inl ⟨rfl, hW⟩)
    rw [List.length_cons, show r.length + 1 - 1 = r.length by omega] at r1 r2
    rw [cnt_ch hnt] at r1
    exact ⟨rr, z, So', Sm', a1.trans r1, r2, (fFf_O a4).tr r3, (fPm_M fm).tr r4, r5⟩
  rcases hX with ⟨x1, rfl⟩ | ⟨x1, rfl⟩ | ⟨x1, rfl⟩
  · obtain ⟨rr, z, So', Sm', r1, r2, r3⟩ := go M1 Fr.rf (hO1.ch hnt (by rw [x1]; exact htop) (fun d => rfl) (fun d _ => rfl))
    refine ⟨rr, z, So', Sm', r1, ?_, r3⟩
    unfold m_reads_237 m_reads_424
    rw [b1', bnq]
    exact r2
  · obtain ⟨rr, z, So', Sm', r1, r2, r3⟩ := go (wI M1 525 r.length 1) (Fr.wI rfl) (hO1.ch hnt (by rw [rI_wI, decide_eq_false x1]; rfl) (fun d => by rw [rI_wI_a (by decide)]) (fun d hd => by rw [rI_wI_k (by omega)]))
    refine ⟨rr, z, So', Sm', r1, ?_, r3⟩
    unfold m_reads_289 m_reads_424
    rw [b1', bnq, if_neg (nI_in hrl (by decide)), nI_clamp (by omega), ltq]
    exact r2
  · obtain ⟨rr, z, So', Sm', r1, r2, r3⟩ := go (wI M1 525 r.length 0) (Fr.wI rfl) (hO1.ch hnt (by rw [rI_wI, decide_eq_true x1]; rfl) (fun d => by rw [rI_wI_a (by decide)]) (fun d hd => by rw [rI_wI_k (by omega)]))
    refine ⟨rr, z, So', Sm', r1, ?_, r3⟩
    unfold m_reads_342 m_reads_424
    rw [b1', bnq, if_neg (nI_in hrl (by decide)), nI_clamp (by omega), ltq]
    exact r2
end AFTER
