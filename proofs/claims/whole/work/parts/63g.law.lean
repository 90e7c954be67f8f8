/-! Reading a law, on both sides. -/
section LAWR
variable {n p b k i line f fr bz : Nat} {w : List Nat} {tx : Nat → Int32} {So Sm S S' So' Sm' : St} {P Q : Nat → Nat → Bool} {l : List (Nat × Int32)} {cs : List Nat} {sh r : List Sh} {s s' : Sh}
theorem rd_loop (hf : 34 ≤ f ∧ f ≤ 37) (hl : line < 2) : ∀ (c k : Nat) (w : List Nat) (b p : Nat) (want : Bool) (l : List (Nat × Int32)) (sh : List Sh) (cs : List Nat) (i m m' : Nat) (So Sm : St), TK n tx k w b p So Sm → PLS line f fr l sh cs b So Sm → HL line want l cs sh → n + 1 ≤ b + c → i ≤ b → bz ≤ b → c < m → c < m' → ∃ rr z So' Sm', o_fo_read_15 m f (bI (decide (line = 0))) (bI want) (nI (cntO sh)) (nI (sh.length - 1)) (nI i) So = some (rr, So') ∧ m_reads_11 m' (nI (sh.length - 1)) (bI want) Sm = some (bI z, Sm') ∧ Fr (fRo f) So So' ∧ Fr (fRm fr) Sm Sm' ∧ DONE n tx line f fr bz rr z So' Sm'
  | 0, k, w, b, p, want, l, sh, cs, i, m, m', So, Sm, h, hs, hH, hc, hi, hbz, hm, hm' => by
    have hb := h.2.2.2.1
    omega
  | c + 1, k, w, b, p, want, l, sh, cs, i, m, m', So, Sm, h, hs, hH, hc, hi, hbz, hm, hm' => by
    obtain ⟨m, rfl, hm⟩ := fuel hm
    obtain ⟨m', rfl, hm'⟩ := fuel hm'
    have hn := h.1.1
    have hb := h.2.2.2.1
    have hR : k ≠ 0 → RST n tx line f fr bz p (o_fo_read_15 m) (m_reads_11 m') (bI (decide (line = 0))) i So Sm := by
      intro hk0 want1 l1 sh1 cs1 So1 Sm1 f1 f2 hs1 hH1
      have hbp := hb.2.2 hk0
      have hT1 := TK.po hf h.1 f1 f2
      have e2 : rI So1 3 2 = nI p := (f1.i (fFf_n (by omega) (by omega))).trans h.2.1.1
      have e2' : rI Sm1 500 4 = nI p := (f2.i (by rfl)).trans h.2.1.2
      obtain ⟨k', w', b', p', So2, Sm2, t1, t2, t3, t4, t5, t6⟩ := nx_ok hT1 hs1.2.2.2.2.1 e2 e2' hb.2.1
      obtain ⟨rr, z, So', Sm', r1, r2, r3, r4, r5⟩ := rd_loop hf hl c k' w' b' p' want1 l1 sh1 cs1 (i + 1) m m' So2 Sm2 t3 (hs1.t hf t5 t6 t4) hH1 (by omega) (by omega) (by omega) (by omega) (by omega)
      refine ⟨rr, z, So', Sm', ?_, ?_, (t5.mo fun a k q => fRo_T q).tr r3, (t6.mo fun a k q => fRm_T q).tr r4, r5⟩
      · unfold o_fo_read_240
        rw [t1, bnq, nI_1, ltq]
        exact r1
      · rw [t2, bnq]
        exact r2
    rcases hH with ⟨rfl, hW⟩ | ⟨rfl, hA, hcs, hnt⟩
    · exact rd_want hf hl h hs hW (by omega) hR
    · have hne := hs.2.2.2.2.2.2.2.1.1
      cases sh with
      | nil => exact absurd hne (by decide)
      | cons s r =>
        exact rd_after hf h hs hA hcs hnt (by omega) hbz (bI (decide (line = 0))) hR
def o_rd_take_19' (S : St) : Re Unit := bn (o_rd_take_19 S) fun _ S2 => some ((), S2)
/-- a law is read: the class's formula against the reference's codes, or the fault is the same -/
theorem law_ok (hf : 34 ≤ f ∧ f ≤ 37) (hK : FK f) (hl : line < 2) (h : TK n tx k w b p So Sm) (h5 : rI So 3 7 = 0) (h33 : rI Sm 500 33 = nI line) (h32 : rI Sm 500 32 = nI fr) (hfr : fr ≤ 1000 + b) : ∃ z So' Sm', o_rd_readLaw f (bI (decide (line = 0))) So = some ((), So') ∧ m_reads Sm = some (bI z, Sm') ∧ Fr (fun a k => fRo f a k || (a == 3 && k == 7)) So So' ∧ Fr (fRm fr) Sm Sm' ∧ ((z = true ∧ ∃ l cs k w b' p, TK n tx k w b' p So' Sm' ∧ FS f l So' ∧ CD fr cs Sm' ∧ LW line l cs ∧ rI So' 3 7 = 0 ∧ cs ≠ [] ∧ b < b' ∧ fr + cs.length ≤ 1000 + b') ∨ (z = false ∧ ¬ rI So' 3 7 = 0 ∧ rI So' 3 7 = rI Sm' 500 9 ∧ ∃ k, k < 42 ∧ rQ So' 3 6 = some (1000 + k))) := by
  have hn := h.1.1
  have hb := h.2.2.2.1
  obtain ⟨S1, a1, a2, a3, a4⟩ := fo_clear hK So
  have f1 : Fr (fPm fr) Sm (wI Sm 525 0 0) := Fr.wI rfl
  have hs : PLS line f fr [] [(0, 0, 0, 0, false)] [] b S1 (wI Sm 525 0 0) := by
    refine ⟨a2, a3, ⟨(rI_wI_a (by decide)).trans h32, fun i hi => absurd hi (Nat.not_lt_zero _)⟩, fun d hd => ?_, ?_, (f1.i (by rfl)).trans h33, fun s hs => ?_, ⟨Nat.le_refl _, by decide⟩, Nat.zero_le _, hfr⟩
    · have hd : d < 1 := hd
      obtain rfl : d = 0 := by omega
      exact ⟨fun q => absurd q (by decide), rI_wI⟩
    · rw [a4.i (fFf_n (by omega) (by omega))]
      exact h5
    · rw [List.mem_singleton] at hs
      subst hs
      exact ⟨Or.inl rfl, Or.inl rfl, Or.inl rfl, Or.inl rfl, fun q => by cases q⟩
  have hT1 : TK n tx k w b p S1 (wI Sm 525 0 0) := by
    have hh := h.fo hf a4
    obtain ⟨h1, h2, h3, h4, h5, h6⟩ := hh
    exact ⟨h1.fr (Fr.rf (P := fun _ _ => false)) f1 rfl (fun k => rfl) rfl (fun k => rfl), h2, h3, h4, h5, h6⟩
  obtain ⟨rr, z, So', Sm', r1, r2, r3, r4, r5⟩ := rd_loop (fr := fr) (bz := b) hf hl (n + 1 - b) k w b p true [] [(0, 0, 0, 0, false)] [] 0 FU FU S1 (wI Sm 525 0 0) hT1 hs (Or.inl ⟨rfl, PW_0 line⟩) (by omega) (Nat.zero_le _) (Nat.le_refl _) (by unfold FU; omega) (by unfold FU; omega)
  have em : m_reads Sm = some (bI z, Sm') := by
    unfold m_reads
    rw [if_neg (by decide), c0, ltq (wI Sm 525 0 _)]
    exact r2
  have eo : ∀ Y, o_rd_readLaw_23 rr So' = some ((), Y) → o_rd_readLaw f (bI (decide (line = 0))) So = some ((), Y) := fun Y hY => by
    unfold o_rd_readLaw o_fo_read
    rw [if_pos h5, if_pos hK.1, a1, bnq, (show o_fo_read_15 FU f (bI (decide (line = 0))) 1 0 0 0 S1 = _ from r1), if_pos hK.1, bnq]
    exact hY
  have fo1 : Fr (fun a k => fRo f a k || (a == 3 && k == 7)) So So' := ((a4.mo fun a k q => fRo_F q).tr r3).mo fun a k q => (Bool.or_eq_false_iff.mp q).1
  have fm1 : Fr (fRm fr) Sm Sm' := (f1.mo fun a k q => fRm_P q).tr r4
  rcases r5 with ⟨rfl, rfl, l, cs, w2, b2, p2, Sm0, t1, t2, t3, t4, t5, t6, t7, t8, t9⟩ | ⟨rfl, k2, b2, t1, t2, t3, t4, t5, t6⟩
  · have hb2 := t1.2.2.2.1
    obtain ⟨k', w', b', p', So2, Sm2, v1, v2, v3, v4, v5, v6⟩ := nx_ok t1.1 t6 t1.2.1.1 t1.2.1.2 hb2.2.1
    have hbp := hb2.2.2 (by decide)
    have eS : Sm' = Sm2 := by
      rw [t2] at v2
      injection v2 with v2
      injection v2
    subst eS
    refine ⟨true, So2, Sm', eo So2 ?_, em, fo1.tr (v5.mo fun a k q => fRo_T (Bool.or_eq_false_iff.mp q).1), fm1, Or.inl ⟨rfl, l, cs, k', w', b', p', v3, ?_, t4, t5, (v5.i (by rfl)).trans t6, t7, by omega, by omega⟩⟩
    · unfold o_rd_readLaw_23 o_rd_readLaw_36 o_rd_take o_rd_take_19
      rw [if_pos rfl, oq2 t1.q, if_pos (t1.kc (j := 6) (by decide)), if_pos rfl, v1, bnq, bnq]
    · exact t3.fr v5 (fTo_n (by omega)) (fun k => fTo_n (by omega)) (fun k => fTo_n (by omega))
  · -- the same fault
    have kc : ((KO.1 (1000 + k2)).1 < 8 ∨ (KO.1 (1000 + k2)).1 = 20) ∧ ((KO.1 1006).1 < 8 ∨ (KO.1 1006).1 = 20) := by
      rw [kt t2, show KO.1 1006 = (20, 6) from kt (t := 6) (by decide)]
      exact ⟨Or.inr rfl, Or.inr rfl⟩
    have tail : ∀ x : Int32, ¬ x = 0 → o_rd_readLaw_36 (wI So' 3 7 x) = some ((), wI So' 3 7 x) := fun x hx => by
      have hst : o_tp_step (wI So' 3 7 x) = some ((), wI So' 3 7 x) := by
        unfold o_tp_step
        rw [rI_wI, if_neg hx]
      have hwr : o_tp_wrong 1 (wI So' 3 7 x) = some ((), wI So' 3 7 x) := by
        unfold o_tp_wrong o_tp_wrong_20
        rw [rI_wI, if_neg hx]
      unfold o_rd_readLaw_36 o_rd_take o_rd_take_19
      rw [oq2 (show rQ (wI So' 3 7 x) 3 6 = some (1000 + k2) from t1), if_pos kc]
      by_cases q : 1000 + k2 = 1006
      · rw [if_pos q, hst, bnq, bnq]
      · rw [if_neg q, hwr, bnq, hst, bnq, bnq]
    have hnz : ∀ j, (j = 1 ∨ j = 5) → ¬ nI j + 16 * nI b2 = 0 := fun j hj q => by
      rw [show (16 : Int32) = nI 16 from rfl, nI_mul, nI_add] at q
      have := nI_ofs (b := 0) q (by omega) (by decide)
      omega
    rcases t6 with ⟨rfl, t7, t8⟩ | ⟨j, hj, rfl, t8⟩
    · have hx : ¬ 1 + 16 * nI b2 = 0 := hnz 1 (Or.inl rfl)
      refine ⟨false, wI So' 3 7 (1 + 16 * nI b2), Sm', eo _ ?_, em, fo1.tr (Fr.wI (by simp)), fm1, Or.inr ⟨rfl, by rw [rI_wI]; exact hx, by rw [rI_wI, t8], k2, t2, t1⟩⟩
      have e1 : o_rd_readLaw_36 So' = o_rd_take_19' (wI So' 3 7 (1 + 16 * nI b2)) := by
        unfold o_rd_readLaw_36 o_rd_take o_rd_take_19' o_tp_wrong o_tp_wrong_20
        rw [oq2 t1, if_pos kc, if_neg (show ¬ 1000 + k2 = 1006 by omega), if_pos t5, t3, ltq, bnq]
      unfold o_rd_readLaw_23
      rw [if_pos rfl, e1]
      have hst : o_tp_step (wI So' 3 7 (1 + 16 * nI b2)) = some ((), wI So' 3 7 (1 + 16 * nI b2)) := by
        unfold o_tp_step
        rw [rI_wI, if_neg hx]
      unfold o_rd_take_19' o_rd_take_19
      rw [hst, bnq, bnq]
    · have hx := hnz j hj
      refine ⟨false, wI So' 3 7 (nI j + 16 * nI b2), Sm', eo _ ?_, em, fo1.tr (Fr.wI (by simp)), fm1, Or.inr ⟨rfl, by rw [rI_wI]; exact hx, by rw [rI_wI, t8], k2, t2, t1⟩⟩
      unfold o_rd_readLaw_23
      rw [if_neg (nI_ne0 (by omega) (by omega))]
      unfold o_tp_wrong o_tp_wrong_20
      rw [if_pos t5, t3, ltq, bnq]
      exact tail _ hx
end LAWR
