/-! Reading an orchard: a line's end; other. -/
section LINE
variable {n p b k i d s s' bz : Nat} {w : List Nat} {tx : Nat → Int32} {T T' So Sm S S' So' Sm' : St} {P Q : Nat → Nat → Bool} {W V W' V' : Nat → List Nat} {c c' : Nat → Nat}
theorem g6_12 : ¬ ((6 : Int32) < 0 ∨ 12 ≤ (6 : Int32).toNatClampNeg) := by decide
theorem g7_12 : ¬ ((7 : Int32) < 0 ∨ 12 ≤ (7 : Int32).toNatClampNeg) := by decide
theorem g8_12 : ¬ ((8 : Int32) < 0 ∨ 12 ≤ (8 : Int32).toNatClampNeg) := by decide
theorem g9_12 : ¬ ((9 : Int32) < 0 ∨ 12 ≤ (9 : Int32).toNatClampNeg) := by decide
theorem gA_12 : ¬ ((10 : Int32) < 0 ∨ 12 ≤ (10 : Int32).toNatClampNeg) := by decide
theorem gB_12 : ¬ ((11 : Int32) < 0 ∨ 12 ≤ (11 : Int32).toNatClampNeg) := by decide
theorem c7 : (7 : Int32).toNatClampNeg = 7 := by decide
theorem c8 : (8 : Int32).toNatClampNeg = 8 := by decide
theorem c9 : (9 : Int32).toNatClampNeg = 9 := by decide
theorem c10 : (10 : Int32).toNatClampNeg = 10 := by decide
theorem c11 : (11 : Int32).toNatClampNeg = 11 := by decide
def LWS (d b : Nat) (So Sm : St) : Prop := ∃ cd, LWD d 0 cd So Sm ∧ LWD d 1 cd So Sm ∧ rI Sm 500 32 = nI cd ∧ 1000 ≤ cd ∧ cd ≤ 1000 + b
theorem LWS.fr (hd : d = 20 ∨ d = 21) (h : LWS d b So Sm) (f : Fr P So So') (g : Fr Q Sm Sm') (h1 : ∀ a k, (a = 20 ∨ a = 21 ∨ (34 ≤ a ∧ a ≤ 45)) → P a k = false) (h2 : ∀ k, Q 521 k = false ∧ Q 522 k = false ∧ Q 523 k = false) (h3 : Q 500 32 = false) {b' : Nat} (hb : b ≤ b') : LWS d b' So' Sm' := by
  obtain ⟨cd, h4, h5, h6, h7, h8⟩ := h
  exact ⟨cd, h4.fr (by decide) hd f g (h1 _ _ (by omega)) ⟨h1 _ _ (by omega), fun k => ⟨h1 _ _ (by omega), h1 _ _ (by omega)⟩⟩ ⟨(h2 _).1, (h2 _).2.1, fun k _ => (h2 k).2.2⟩ (Nat.le_refl _), h5.fr (by decide) hd f g (h1 _ _ (by omega)) ⟨h1 _ _ (by omega), fun k => ⟨h1 _ _ (by omega), h1 _ _ (by omega)⟩⟩ ⟨(h2 _).1, (h2 _).2.1, fun k _ => (h2 k).2.2⟩ (Nat.le_refl _), (g.i h3).trans h6, h7, by omega⟩
theorem LWS.cf (hd : d = 20 ∨ d = 21) (h : LWS d b So Sm) (f : Fr fCo So So') (g : Fr fCm Sm Sm') {b' : Nat} (hb : b ≤ b') : LWS d b' So' Sm' := h.fr hd f g (fun a k q => fCo_n (by omega)) (fun k => ⟨rfl, rfl, rfl⟩) rfl hb
/-- writes of the reference's draft -/
def fDm : Nat → Nat → Bool := fun a k => decide (502 ≤ a) && decide (a ≤ 520) && !oc a k
theorem fDm_w {a j k : Nat} (h : 502 ≤ a) (h2 : a ≤ 520) (hj : j = shf a + k) : fDm a j = true := by
  rw [hj]
  unfold fDm
  rw [oc_sh h h2, decide_eq_true h, decide_eq_true h2]
  rfl
theorem fDm_n {a k : Nat} (h : a < 502 ∨ 520 < a) : fDm a k = false := by
  unfold fDm
  simp
  omega
theorem fDm_L {a k : Nat} (h : fLm a k = false) : fDm a k = false := by
  unfold fLm at h
  unfold fDm
  simp only [Bool.or_eq_false_iff] at h
  have h5 := h.2
  cases hh : oc a k with
  | true => simp
  | false =>
    rw [hh] at h5
    simp at h5 ⊢
    omega
theorem TK.dm (h : TK n tx k w b p So Sm) (f : Fr fDm Sm Sm') : TK n tx k w b p So Sm' := by
  obtain ⟨g1, g2, g3, g4, g5, g6⟩ := h
  have e : ∀ j, rI Sm' 500 j = rI Sm 500 j := fun j => f.i (fDm_n (by omega))
  have e' : ∀ j, rJ Sm' 500 j = rJ Sm 500 j := fun j => f.j (fDm_n (by omega))
  refine ⟨g1.fr (Fr.rf (P := fun _ _ => false)) f rfl (fun k => rfl) (fDm_n (by omega)) (fun k => fDm_n (by omega)), ⟨g2.1, (e 4).trans g2.2⟩, ⟨g3.1, (e 5).trans g3.2⟩, g4, g5, ?_⟩
  unfold KC
  rw [e 6, e 8, e' 7]
  exact g6
theorem LWS.dm (hd : d = 20 ∨ d = 21) (h : LWS d b So Sm) (f : Fr fDm Sm Sm') : LWS d b So Sm' := h.fr hd (Fr.rf (P := fun _ _ => false)) f (fun _ _ _ => rfl) (fun k => ⟨fDm_n (by omega), fDm_n (by omega), fDm_n (by omega)⟩) (fDm_n (by omega)) (Nat.le_refl _)
/-- what the class writes of its draft's tables and names -/
def fUp (d : Nat) : Nat → Nat → Bool := fun a _ => ((decide (22 ≤ a) && decide (a ≤ 29)) || (decide (100 ≤ a) && decide (a ≤ 109)) || (decide (130 ≤ a) && decide (a ≤ 139))) && a % 2 == d % 2
theorem fUp_n {a k : Nat} (h : ¬ (22 ≤ a ∧ a ≤ 29) ∧ ¬ (100 ≤ a ∧ a ≤ 109) ∧ ¬ (130 ≤ a ∧ a ≤ 139)) : fUp d a k = false := by
  unfold fUp
  simp
  omega
theorem fUp_L {a k : Nat} (h : fLo d a k = false) : fUp d a k = false := by
  unfold fLo dcl at h
  unfold fUp
  simp at h ⊢
  omega
theorem line_end (hd : d = 20 ∨ d = 21) (h : TK n tx k w b p So Sm) (h0 : rI So 3 7 = 0) (hO : OMs T' Sm) (hD : DRW c' T' W' V') (hB : Dft d So) (hL : LWS d b So Sm) (hbz : bz ≤ b) {X : St → Re Unit} (upd : ∀ S1, Fr fCo So S1 → rI S1 3 7 = 0 → ∃ S2, X S1 = some ((), S2) ∧ DTB d c' T' W' V' S2 ∧ Fr (fUp d) S1 S2) : ∃ z So' Sm', (bn (o_rd_take 1006 So) fun _ S2 => if rI S2 3 7 = 0 then X S2 else some ((), S2)) = some ((), So') ∧ (bn (m_closes Sm) fun r S => if isBo r = true then some (r, S) else none) = some (bI z, Sm') ∧ LEND n tx d bz z So' Sm' ∧ Fr (fLo d) So So' ∧ Fr fLm Sm Sm' := by
  obtain ⟨z, S1, M1, a1, a2, a3, a4, a5⟩ := close_U h h0
  rw [a1, bnq, a2, bnq, if_pos (bI_bo z)]
  rcases a3 with ⟨rfl, k', w', b', p', t1, t2, t3⟩ | ⟨rfl, hBad⟩
  · obtain ⟨S2, u1, u2, u3⟩ := upd S1 a4 t2
    rw [if_pos t2, u1]
    have hT2 : TK n tx k' w' b' p' S2 M1 := by
      obtain ⟨g1, g2, g3, g4, g5, g6⟩ := t1
      have e : ∀ j, rI S2 3 j = rI S1 3 j := fun j => u3.i (fUp_n (by omega))
      have e' : ∀ j, rJ S2 3 j = rJ S1 3 j := fun j => u3.j (fUp_n (by omega))
      refine ⟨g1.fr u3 (Fr.rf (P := fun _ _ => false)) (fUp_n (by omega)) (fun k => fUp_n (by omega)) rfl (fun k => rfl), ⟨(e 2).trans g2.1, g2.2⟩, ⟨(e 3).trans g3.1, g3.2⟩, g4, (u3.q (fUp_n (by omega))).trans g5, ?_⟩
      unfold KC
      rw [e 4, e' 5]
      exact g6
    have hL2 : LWS d b' S2 M1 := (hL.cf hd a4 a5 (show b ≤ b' by omega)).fr hd u3 (Fr.rf (P := fun _ _ => false)) (fun a k q => fUp_n (by omega)) (fun k => ⟨rfl, rfl, rfl⟩) rfl (Nat.le_refl _)
    exact ⟨true, S2, M1, rfl, rfl, Or.inl ⟨rfl, c', T', W', V', k', w', b', p', hT2, (u3.i (fUp_n (by omega))).trans t2, by omega, hD, hO.fr a5 fun a k q1 q2 => fCm_d q1 q2, u2, hL2⟩, (a4.mo fun a k q => fLo_C q).tr (u3.mo fun a k q => fUp_L q), a5.mo fun a k q => fLm_C q⟩
  · rw [if_neg hBad.1.1]
    exact ⟨false, S1, M1, rfl, rfl, Or.inr ⟨rfl, hBad, hB.fC hd a4⟩, a4.mo fun a k q => fLo_C q, a5.mo fun a k q => fLm_C q⟩
theorem open_U0 (h : TK n tx k w b p So Sm) (h0 : rI So 3 7 = 0) (hk : k ≠ 0) : ∃ k' w' b' p' So' Sm', o_rd_open 0 So = some ((), So') ∧ m_nextToken Sm = some ((), Sm') ∧ TK n tx k' w' b' p' So' Sm' ∧ rI So' 3 7 = 0 ∧ b < b' ∧ Fr fTo So So' ∧ Fr fTm Sm Sm' := by
  obtain ⟨k', w', b', p', So', Sm', t1, t2, t3, t4, t5, t6, t7⟩ := nx_U h h0 hk
  refine ⟨k', w', b', p', So', Sm', ?_, t2, t3, t4, t5, t6, t7⟩
  unfold o_rd_open o_rd_open_12
  rw [if_pos rfl, t1, bnq]
theorem open_U1 (h : TK n tx k w b p So Sm) (h0 : rI So 3 7 = 0) : o_rd_open 1 So = some ((), wI So 3 7 (nI 5 + 16 * nI b)) ∧ m_fails 5 Sm = some (0, wI Sm 500 9 (nI 5 + 16 * nI b)) ∧ BAD (wI So 3 7 (nI 5 + 16 * nI b)) (wI Sm 500 9 (nI 5 + 16 * nI b)) := by
  have hB := bad_of (Sm1 := Sm) h (j := 5) (by decide) (by decide)
  refine ⟨?_, m_fails_ok 5 Sm h.2.2.1.2, hB⟩
  unfold o_rd_open o_rd_open_12
  rw [if_neg (by decide), wr_U h h0, bnq]
  have := st_F hB.1
  rw [show (5 : Int32) = nI 5 from rfl, this, bnq]
theorem fCo_To (h : Fr fTo S S') : Fr fCo S S' := h.mo fun _ _ q => fCo_T q
theorem fCm_Tm (h : Fr fTm S S') : Fr fCm S S' := h.mo fun _ _ q => fCm_T q
theorem m_takes_ok {m : Nat} (h : rI Sm 502 7 = nI m) (hm : m < 16) (L : Int64) : m_takesSound L Sm = some ((), wI (wJ Sm 503 (16 + m) L) 502 7 (nI (m + 1))) := by
  unfold m_takesSound
  rw [if_neg g7_12, c7, h, (show (16 : Int32) + nI m = nI (16 + m) from nI_add 16 m), if_neg (nI_in (by omega) (by omega)), nI_clamp (by omega), ltq (wJ Sm 503 _ _), if_neg (show ¬ ((7 : Int32) < 0 ∨ 12 ≤ 7) by decide), if_neg (show ¬ ((7 : Int32) < 0 ∨ 12 ≤ 7) by decide), (show rI (wJ Sm 503 (16 + m) L) 502 7 = nI m from h), nI_1, ltq]
/-- one more sound -/
theorem DRW.snd (h : DRW c T W V) (h6 : c 1 < c 0 + 6) (hw : WD w) : DRW (fun j => if j = 1 then c 1 + 1 else c j) (wI (wJ T 503 (c 1) (lN (p27 0 w))) 502 1 (nI (c 1 + 1))) (fun i => if i = c 1 then w else W i) V := by
  obtain ⟨h1, h2, h3, h4, h5, h6', h7, h8, h9, h10⟩ := h
  refine ⟨fun k hk => ?_, ?_, h3.ex (fun a j q1 q2 => by rw [rI_wI_a (by omega)]; rfl) (by show c 1 ≤ c 1 + 1; omega), h4.ex fun j => by rw [rI_wI_a (by decide)]; rfl, h5.ex fun a j q1 q2 => by rw [rI_wI_a (by omega)]; rfl, h6'.ex (fun a j q1 q2 => by rw [rI_wI_a (by omega)]; rfl) (by show c 1 ≤ c 1 + 1; omega), h7.ex (fun a j q1 q2 => by rw [rI_wI_a (by omega)]; rfl) (Nat.le_refl _), h8.ex (fun a j q1 q2 => by rw [rI_wI_a (by omega)]; rfl) (by show c 1 ≤ c 1 + 1; omega), fun k hk => ?_, h10.ex fun j => by rw [rJ_wI, rJ_wJ_a (by decide)]⟩
  · by_cases q : k = 1
    · subst q
      exact rI_wI
    · rw [rI_wI_k q]
      show rI T 502 k = nI (if k = 1 then c 1 + 1 else c k)
      rw [if_neg q]
      exact h1 k hk
  · show c 0 ≤ 10 ∧ c 1 + 1 ≤ c 0 + 6 ∧ c 0 ≤ c 1 + 1 ∧ c 2 ≤ 5 ∧ c 3 ≤ 6 ∧ c 4 ≤ 4 ∧ c 5 ≤ 4
    omega
  · have hk : k < c 1 + 1 := hk
    rw [rJ_wI]
    show WD (if k = c 1 then w else W k) ∧ rJ (wJ T 503 (c 1) (lN (p27 0 w))) 503 k = lN (p27 0 (if k = c 1 then w else W k))
    by_cases q : k = c 1
    · rw [if_pos q, q, rJ_wJ]
      exact ⟨hw, rfl⟩
    · rw [if_neg q, rJ_wJ_k q]
      exact h9 k (by omega)
theorem other_ok (hd : d = 20 ∨ d = 21) (h : TK n tx k w b p So Sm) (hk : k ≠ 0) (h0 : rI So 3 7 = 0) (hR : RDS d c T W V b So Sm) : ∃ z So' Sm', o_rd_readOther d So = some ((), So') ∧ m_readsOther Sm = some (bI z, Sm') ∧ LEND n tx d b z So' Sm' ∧ Fr (fLo d) So So' ∧ Fr fLm Sm Sm' := by
  have hkd := kd_d hd
  obtain ⟨hD, hO, hT, hL⟩ := id hR
  obtain ⟨t1, t2, t3, t4, t5, t6, t7⟩ := id hT
  have hb := hD.2.1
  have hft : Dft d So := hT.dft
  unfold o_rd_readOther o_rd_readOther_26 o_rd_readOther_60 m_readsOther
  rw [if_pos hkd, if_pos t6.1, na_size t6, bnq, if_pos t1.k, tb_size t1, bnq, nI_sub hb.2.2.1, if_neg g7_12, if_neg g6_12, c7, c6, (show rI Sm 502 7 = nI (c 1) from hR.nn (j := 1) (by decide)), (show rI Sm 502 6 = nI (c 0) from hR.nn (j := 0) (by decide)), nI_sub hb.2.2.1]
  by_cases q : c 1 < c 0 + 6
  · rw [if_pos (show nI (c 1 - c 0) < 6 from nI_lt (b := 6) (by omega) (by decide)), if_neg (show ¬ nI (c 1 - c 0) = 6 from nI_ne (b := 6) (by omega) (by omega) (by decide))]
    obtain ⟨k1, w1, b1', p1, S1, M1, e1, e2, e3, e4, e5, e6, e7⟩ := open_U0 h h0 hk
    have hR1 := hR.cf hd (fCo_To e6) (fCm_Tm e7) (show b ≤ b1' by omega)
    obtain ⟨z, x, S2, M2, g1, g2, g3, g4, g5⟩ := newName_U e3 e4 hkd hR1.2.2.1.2.2.2.2.2.1 hR1.2.2.1.2.2.2.2.2.2 hR1.sn hR1.pn
    rw [e1, bnq, g1, e2, bnq, g2, bnq]
    rcases g3 with ⟨rfl, rfl, rfl, i1, rfl, i3, i4⟩ | ⟨rfl, hB⟩
    · have hM2 := m_takes_ok (Sm := M2) (m := c 1) (hR1.nn (j := 1) (by decide)) (by omega) (rJ M2 500 7)
      have f3 : Fr fDm M2 (wI (wJ M2 503 (16 + c 1) (rJ M2 500 7)) 502 7 (nI (c 1 + 1))) := (Fr.wJ (fDm_w (k := c 1) (by decide) (by decide) rfl)).tr (Fr.wI (fDm_w (k := 1) (by decide) (by decide) rfl))
      obtain ⟨k4, w4, b4, p4, S4, M4, r1, r2, r3, r4, r5, r6, r7⟩ := nx_U (e3.dm f3) e4 i4
      have hO3 : OMs (wI (wJ T 503 (c 1) (lN (p27 0 w1))) 502 1 (nI (c 1 + 1))) (wI (wJ M2 503 (16 + c 1) (rJ M2 500 7)) 502 7 (nI (c 1 + 1))) := by
        rw [i3]
        exact (hR1.2.1.wJ (k := c 1) rfl).wI (k := 1) rfl
      have hO4 := hO3.fr (fCm_Tm r7) fun a k q1 q2 => fCm_d q1 q2
      have hD4 := hR1.1.snd q i1
      have hL4 : LWS d b4 S4 M4 := (LWS.dm hd hR1.2.2.2 f3).cf hd (fCo_To r6) (fCm_Tm r7) (by omega)
      unfold o_rd_newName_47
      rw [r1, bnq, bnq, if_neg bT, hM2, bnq, r2, bnq]
      have := line_end (bz := b) (So := S4) hd r3 r4 hO4 hD4 ((hft.fC hd (fCo_To e6)).fC hd (fCo_To r6)) hL4 (by omega) (X := fun S6 => if KO.1 d = (0, 10) then (if KO.1 (d + 2) = (0, 2) then (bn (o_na_add (d + 2) (lN (pk5 w1)) S6) fun _ S10 => some ((), S10)) else none) else none) (fun S5 f5 h5 => by
        have hT5 : DTB d c T W V S5 := hT.fr (((fCo_To e6).tr (fCo_To r6)).tr f5) (fun a k q => fCo_n (by omega)) hd
        obtain ⟨v1, v2, v3, v4, v5, v6, v7⟩ := hT5
        obtain ⟨S6, y1, y2, y3⟩ := na_add v6 (show c 1 < 16 by omega) i1
        have f6 : Fr (fUp d) S5 S6 := y3.mo fun a k q => by
          unfold fUp at q
          simp at q ⊢
          omega
        refine ⟨S6, ?_, ⟨?_, ?_, ?_, ?_, ?_, y2, v7.fr y3 (by simp) (fun k => by simp <;> omega)⟩, f6⟩
        · show (if KO.1 d = (0, 10) then (if KO.1 (d + 2) = (0, 2) then (bn (o_na_add (d + 2) (lN (pk5 w1)) S5) fun _ S10 => some ((), S10)) else none) else none) = _
          rw [if_pos hkd, if_pos v6.1, y1, bnq]
        · exact (v1.fr y3 (fun k => by simp <;> omega) (fun k => by simp <;> omega)).ext fun a j ha hj => by
            rw [rI_wI_a (by unfold ccol; split <;> (try split) <;> omega)]
            rfl
        · exact (v2.fr y3 (fun k => by simp <;> omega) (fun k => by simp <;> omega)).ext fun a j ha hj => by
            rw [rI_wI_a (by omega)]
            rfl
        · exact (v3.fr y3 (fun k => by simp <;> omega) (fun k => by simp <;> omega)).ext fun a j ha hj => by
            rw [rI_wI_a (by omega)]
            rfl
        · obtain ⟨g, v4, v4'⟩ := v4
          exact ⟨g, v4.fr y3 (fun k => by simp <;> omega) (fun k => by simp <;> omega), v4'⟩
        · exact (v5.fr y3 (fun k => by simp <;> omega) (fun k => by simp <;> omega)).ext fun a j ha hj => by
            rw [rI_wI_a (by omega)]
            rfl)
      obtain ⟨z, So', Sm', l1, l2, l3, l4, l5⟩ := this
      exact ⟨z, So', Sm', l1, l2, l3, (((fCo_To e6).tr (fCo_To r6)).mo fun a k q => fLo_C q).tr l4, ((((fCm_Tm e7).mo fun a k q => fLm_C q).tr (f3.mo fun a k q => fDm_L q)).tr ((fCm_Tm r7).mo fun a k q => fLm_C q)).tr l5⟩
    · unfold o_rd_newName_47
      rw [st_F hB.1, bnq, bnq, (show o_rd_take 1006 S2 = _ from take_F hB.1 (t := 6) (by decide)), bnq, if_neg hB.1.1, if_pos bF]
      exact ⟨false, S2, M2, rfl, rfl, Or.inr ⟨rfl, hB, (hft.fC hd (fCo_To e6)).fC hd g4⟩, ((fCo_To e6).tr g4).mo fun a k q => fLo_C q, ((fCm_Tm e7).tr g5).mo fun a k q => fLm_C q⟩
  · obtain ⟨e1, e2, hB⟩ := open_U1 h h0
    have f1 : Fr fCo So (wI So 3 7 (nI 5 + 16 * nI b)) := Fr.wI rfl
    have f2 : Fr fCm Sm (wI Sm 500 9 (nI 5 + 16 * nI b)) := Fr.wI rfl
    rw [if_neg (show ¬ nI (c 1 - c 0) < 6 from nI_nlt (b := 6) (by omega) (by omega)), if_pos (show nI (c 1 - c 0) = 6 by rw [show c 1 - c 0 = 6 by omega]; rfl), e1, bnq, newName_F hB.1, bnq, (show o_rd_take 1006 _ = _ from take_F hB.1 (t := 6) (by decide)), bnq, if_neg hB.1.1, e2, bnq, if_pos b0]
    exact ⟨false, _, _, rfl, rfl, Or.inr ⟨rfl, hB, hft.fC hd f1⟩, f1.mo fun a k q => fLo_C q, f2.mo fun a k q => fLm_C q⟩
end LINE
