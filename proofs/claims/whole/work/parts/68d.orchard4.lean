/-! A new orchard on both sides: orchard_ok. -/
section ORCH4
variable {n p b k i s s' bz j a v d q : Nat} {T T' T0 So Sm S S' S1 M1 So' Sm' : St} {P Q : Nat → Nat → Bool} {c c' : Nat → Nat} {W V W0 V0 : Nat → List Nat} {L L0 : Int32 → Int32 → Int32} {Z : Nat → Int32}
/-- what the reference touches behind the laying -/
def fMk : Nat → Nat → Bool := fun a k => a == 553 || a == 543 || (decide (547 ≤ a) && decide (a ≤ 549)) || (a == 500 && k == 69) || a == 557
theorem fMk_n {a k : Nat} (h : a ≠ 553 ∧ a ≠ 543 ∧ ¬ (547 ≤ a ∧ a ≤ 549) ∧ ¬ (a = 500 ∧ k = 69) ∧ a ≠ 557) : fMk a k = false := by
  unfold fMk
  simp
  omega
theorem fOr_w {a k : Nat} {x : Int32} (h : (a = 3 ∨ (a = 1 ∧ 9 ≤ k ∧ k ≤ 12))) : Fr (fOr d) S (wI S a k x) := Fr.wI (by
  unfold fOr
  simp
  omega)
theorem fOr_q {a k : Nat} {x : Option Nat} (h : (a = 3 ∨ (a = 1 ∧ 9 ≤ k ∧ k ≤ 12))) : Fr (fOr d) S (wQ S a k x) := Fr.wQ (by
  unfold fOr
  simp
  omega)
theorem or_good (hI : Told T0 W0 V0 L0 v So Sm) (hS : Slt T0 W0 0 So Sm) (hU : Und T0 n So Sm) (hM : Mks T0 W0 So Sm) (hR : Rst v So) (hd : d = 41 - v) (fo : Fr (fLo d) So S1) (hb : b ≤ 1000) (hRD : RDS d c T W V b S1 M1) (h7 : rI S1 3 7 = 0) (h1 : rI M1 500 1 = 0) : ∃ So' Sm', (bn (o_rd_readOrchard_178 d S1) fun r2 S3 => oK S3 r2) = some (0, So') ∧ mK M1 = some (0, Sm') ∧ Inv So' Sm' := by
  have hv := hI.2.2.2.2.2.1
  have hd2 : d = 20 ∨ d = 21 := by omega
  obtain ⟨S2, M2, L, a1, a2, hW, hLV, hLb, hTD, f2, m2⟩ := newTold_ok hd2 hb hRD
  have g2 : Fr (fOr d) S1 S2 := f2.mo fun a k q => by
    have := (show fLo d a k = false by
      unfold fOr at q
      simp only [Bool.or_eq_false_iff] at q
      exact q.1.1.1.1.1.1.1)
    unfold fLo at this
    exact (Bool.or_eq_false_iff.mp this).2
  have F2 : Fr (fOr d) So S2 := (fOr_L fo).tr g2
  have lo9 : ∀ {a k : Nat}, (¬ (20 ≤ a ∧ a ≤ 63) ∧ ¬ (100 ≤ a ∧ a ≤ 109) ∧ ¬ (130 ≤ a ∧ a ≤ 139)) → a ≠ 3 → fLo d a k = false := fun h h3 => by
    unfold fLo
    rw [fCo_n (Or.inl h3), Bool.false_or, Bool.and_eq_false_iff]
    exact Or.inl (Bool.eq_false_iff.mpr (dcl_n h))
  have ld9 : ∀ {a k : Nat}, (¬ (20 ≤ a ∧ a ≤ 63) ∧ ¬ (100 ≤ a ∧ a ≤ 109) ∧ ¬ (130 ≤ a ∧ a ≤ 139)) → fLd d a k = false := fun h => by
    unfold fLd
    rw [Bool.and_eq_false_iff]
    exact Or.inl (Bool.eq_false_iff.mpr (dcl_n h))
  have q9 : rQ (wI S2 3 1 0) 1 9 = some v := (f2.q (ld9 (by decide))).trans ((fo.q (lo9 (by decide) (by decide))).trans hI.2.2.2.2.1)
  have q10 : rQ (wI S2 3 1 0) 1 10 = some d := (f2.q (ld9 (by decide))).trans ((fo.q (lo9 (by decide) (by decide))).trans (hR.1.trans (by rw [hd])))
  have r7 : rI (wI S2 3 1 0) 3 7 = 0 := (rI_wI_k (by decide)).trans ((f2.i (ld9 (by decide))).trans h7)
  obtain ⟨nn, ff, mm, gg, kn, th, s1, s2, s3, s4, _⟩ := hS
  have F5 : Fr (fOr d) So (wQ (wQ (wI S2 3 1 0) 1 9 (some d)) 1 10 (some v)) := ((F2.tr (fOr_w (Or.inl rfl))).tr (fOr_q (Or.inr ⟨rfl, by decide, by decide⟩))).tr (fOr_q (Or.inr ⟨rfl, by decide, by decide⟩))
  have f25 : Fr (fun a _ => a == 3 || a == 1) S2 (wQ (wQ (wI S2 3 1 0) 1 9 (some d)) 1 10 (some v)) := ((Fr.wI rfl).tr (Fr.wQ rfl)).tr (Fr.wQ rfl)
  have hTD5 := hTD.fr f25 fun a k q => by
    unfold ton at q
    simp
    omega
  -- two tables, cleared by the class, are of the old shape
  have o25 : ∀ {a k : Nat}, (¬ (20 ≤ a ∧ a ≤ 63) ∧ ¬ (100 ≤ a ∧ a ≤ 109) ∧ ¬ (130 ≤ a ∧ a ≤ 139)) → a ≠ 3 ∧ a ≠ 1 → (fLo d a k || fLd d a k || (a == 3 || a == 1)) = false := fun h h3 => by
    rw [lo9 h h3.1, ld9 h, beq_eq_false_iff_ne.mpr h3.1, beq_eq_false_iff_ne.mpr h3.2]
    rfl
  have f05 : Fr (fun a k => fLo d a k || fLd d a k || (a == 3 || a == 1)) So (wQ (wQ (wI S2 3 1 0) 1 9 (some d)) 1 10 (some v)) := ((fo.mo fun a k q => by
    simp only [Bool.or_eq_false_iff] at q
    exact q.1.1).tr (f2.mo fun a k q => by
    simp only [Bool.or_eq_false_iff] at q
    exact q.1.2)).tr (f25.mo fun a k q => by
    simp only [Bool.or_eq_false_iff] at q ⊢
    exact q.2)
  have k1 : TB 111 40 3 nn ff (wQ (wQ (wI S2 3 1 0) 1 9 (some d)) 1 10 (some v)) := s1.fr f05 (fun k => o25 (by decide) (by decide)) (fun k => o25 (by decide) (by decide))
  have k2 : TB 116 12 3 mm gg (wQ (wQ (wI S2 3 1 0) 1 9 (some d)) 1 10 (some v)) := s4.fr f05 (fun k => o25 (by decide) (by decide)) (fun k => o25 (by decide) (by decide))
  obtain ⟨S6, b1', b2', b3', b4', b5', b6', b7'⟩ := sa_new hW hTD5 k1 k2
  obtain ⟨M3, c1', c2', c3'⟩ := m_fresh_ok hW (Fr.rf : OM M2 M2)
  obtain ⟨M9, d1', d2', _, d3'⟩ := mk_60 4 0 FU (wI (wI (wI (wI (wI M3 543 0 0) 547 0 0) 548 0 0) 549 0 0) 500 69 0) (by decide) (by unfold FU; omega)
  refine ⟨wI (wI S6 1 11 0) 1 12 0, M9, ?_, ?_, ?_⟩
  · unfold o_rd_readOrchard_178 o_rd_readOrchard_192 o_tp_clear
    rw [if_pos h7, if_pos (kd_d hd2), a1, bnq, ltq (wI S2 3 1 0), bnq, r7, bnq]
    unfold oK o_orchard_55
    rw [if_pos rfl, oq2 q9, oq2 q10, ltq (wQ (wI S2 3 1 0) 1 9 (some d)), ltq (wQ (wQ (wI S2 3 1 0) 1 9 (some d)) 1 10 (some v)), oq2 (show rQ (wQ (wQ (wI S2 3 1 0) 1 9 (some d)) 1 10 (some v)) 1 9 = some d from (rQ_wQ_k (by decide)).trans rQ_wQ), b1', bnq, ltq (wI S6 1 11 0), ltq (wI (wI S6 1 11 0) 1 12 0)]
  · unfold mK
    rw [a2, bnq, c1', bnq, if_neg (by decide), c0, ltq (wI M3 543 0 0), if_neg (by decide), ltq (wI (wI M3 543 0 0) 547 0 0), if_neg (by decide), ltq (wI (wI (wI M3 543 0 0) 547 0 0) 548 0 0), if_neg (by decide), ltq (wI (wI (wI (wI M3 543 0 0) 547 0 0) 548 0 0) 549 0 0), ltq (wI (wI (wI (wI (wI M3 543 0 0) 547 0 0) 548 0 0) 549 0 0) 500 69 0)]
    exact d1'
  · have f8 : Fr (fun a _ => a == 1) S6 (wI (wI S6 1 11 0) 1 12 0) := (Fr.wI rfl).tr (Fr.wI rfl)
    have F8 : Fr (fOr d) So (wI (wI S6 1 11 0) 1 12 0) := ((F5.tr (b7'.mo fun a k q => by
      unfold fOr at q
      unfold frU
      simp only [Bool.or_eq_false_iff] at q ⊢
      exact ⟨⟨⟨⟨q.1.1.1.1.2, q.1.1.1.2⟩, q.1.1.2⟩, q.1.2⟩, q.2⟩)).tr (fOr_w (Or.inr ⟨rfl, by decide, by decide⟩))).tr (fOr_w (Or.inr ⟨rfl, by decide, by decide⟩))
    have m9 : Fr fMk M2 M9 := ((((((c3'.mo fun a k q => by
      unfold fMk at q
      simp only [Bool.or_eq_false_iff] at q
      exact q.1.1.1.1).tr (Fr.wI rfl)).tr (Fr.wI rfl)).tr (Fr.wI rfl)).tr (Fr.wI rfl)).tr (Fr.wI rfl)).tr (d3'.mo fun a k q => by
      unfold fMk at q
      simp only [Bool.or_eq_false_iff] at q
      exact q.2)
    have fT : Fr (fun a _ => (a == 3 || a == 1) || (frU 200 a 0 || a == 111 || a == 116 || a == 70) || a == 1) S2 (wI (wI S6 1 11 0) 1 12 0) := ((f25.mo fun a k q => by
      simp only [Bool.or_eq_false_iff] at q ⊢
      exact q.1.1).tr (b7'.mo fun a k q => by
      simp only [Bool.or_eq_false_iff] at q ⊢
      exact q.1.2)).tr (f8.mo fun a k q => by
      simp only [Bool.or_eq_false_iff] at q ⊢
      exact q.2)
    have e15 : ∀ {a k : Nat}, a ≠ 557 → rI M9 a k = rI (wI (wI (wI (wI (wI M3 543 0 0) 547 0 0) 548 0 0) 549 0 0) 500 69 0) a k := fun h => d3'.i (fAr_n h)
    refine ⟨M2, W, V, L, d, freshZ M2, 0, ⟨hW, (m9.mo fun a k q => ?_), hLV, hLb, ?_, hTD.fr fT fun a k q => ?_⟩, ⟨b2'.frw f8 (fun k => rfl) (fun k => rfl), fun k hk => ?_, WZ_fresh hW⟩, ⟨0, fun _ _ => 0, 0, fun _ _ => 0, 0, 0, (b3' _).fr f8 (fun k => rfl) (fun k => rfl), fun i hi => absurd hi (Nat.not_lt_zero _), ⟨?_, fun i hi => absurd hi (Nat.not_lt_zero _)⟩, (b4' _).fr f8 (fun k => rfl) (fun k => rfl), ⟨?_, fun i hi => absurd hi (Nat.not_lt_zero _)⟩, ?_, ?_, ?_, ?_, lo_0 _, lo_0 _⟩, ?_, ?_, ⟨0, by decide, ?_, ?_, fun k hk => absurd hk (Nat.not_lt_zero _)⟩, ?_⟩
    · have := oc_nm q
      exact fMk_n (by omega)
    · exact (show rQ S6 1 9 = _ from (b7'.q rfl).trans ((rQ_wQ_k (by decide)).trans rQ_wQ))
    · unfold ton at q
      unfold frU
      simp
      omega
    · rw [e15 (by decide), rI_wI_a (by decide), rI_wI_a (by decide), rI_wI_a (by decide), rI_wI_a (by decide), rI_wI_a (by decide)]
      exact c2' k hk
    · rw [e15 (by decide), rI_wI_a (by decide), rI_wI_a (by decide), rI_wI_a (by decide), rI_wI_a (by decide), rI_wI]
      rfl
    · rw [e15 (by decide), rI_wI_a (by decide), rI_wI]
      rfl
    · exact (f8.i rfl).trans b5'
    · rw [e15 (by decide), rI_wI_a (by decide), rI_wI_a (by decide), rI_wI_a (by decide), rI_wI]
    · exact (f8.i rfl).trans b6'
    · rw [e15 (by decide), rI_wI_a (by decide), rI_wI_a (by decide), rI_wI]
    · obtain ⟨u1, u2, u3, e, u4, u5, Y, u6⟩ := hU
      refine ⟨Nat.zero_le _, ?_, ?_, e, fun i hi => ⟨(F8.q (fOr_n (fun q => dcl_n (by decide) q.1) (by decide) (by omega) (by decide))).trans (u4 i hi).1, (u4 i hi).2⟩, u5, fun _ _ => 0, fun i hi => absurd hi (Nat.not_lt_zero _)⟩
      · rw [rI_wI_k (by decide), rI_wI]
        rfl
      · rw [e15 (by decide), rI_wI]
        rfl
    · obtain ⟨x, x1, x2⟩ := hM
      refine ⟨0, rI_wI, fun q hq => ⟨(F8.q (fOr_n (fun q => dcl_n (by decide) q.1) (by decide) (by omega) (by decide))).trans (x2 q hq).1, ?_, (x2 q hq).2.2.1.fr hq F8 fun a k h => ?_, fun hx => ?_⟩⟩
      · rw [d2' q (Nat.zero_le _) hq, tb_z]
        rfl
      · unfold mko at h
        exact fOr_n (fun q => dcl_n (by omega) q.1) (by omega) (by omega) (by omega)
      · rw [tb_z] at hx
        cases hx
    · exact (f8.i rfl).trans ((b7'.i rfl).trans (show rI (wI S2 3 1 0) 3 1 = nI 0 from rI_wI))
    · rw [m9.i (fMk_n (by decide)), m2.i (by rfl), h1]
      rfl
    · obtain ⟨r1, r2, ⟨m, f, r3⟩, r4, r5⟩ := hR
      have hT := hI.2.2.2.2.2
      obtain ⟨pf, pg1, _⟩ := hT.pg
      have pp : ∀ {o k : Nat}, ((80 ≤ o ∧ o ≤ 88) ∨ (110 ≤ o ∧ o ≤ 118)) ∧ o % 2 = 0 → fOr d (v + o) k = false := fun h => fOr_n (fun q => by
        have := q.2
        omega) (by omega) (by omega) (by omega)
      refine ⟨?_, ?_, ⟨m, f, r3.fr F8 (fun k => fOr_n (fun q => dcl_n (by decide) q.1) (by decide) (by omega) (by decide)) (fun k => fOr_n (fun q => dcl_n (by decide) q.1) (by decide) (by omega) (by decide))⟩, fun k hk => (F8.i (fOr_n (fun q => dcl_n (by decide) q.1) (by decide) (by omega) (by decide))).trans (r4 k hk), ?_⟩
      · refine (show rQ S6 1 10 = _ from (b7'.q rfl).trans rQ_wQ).trans ?_
        rw [show 41 - d = v by omega]
      · rw [show 41 - d = v by omega]
        exact ⟨⟨_, _, hT.ap.fr F8 (fun k => pp (o := 80) (by decide)) (fun k => pp (o := 110) (by decide))⟩, ⟨_, _, hT.pe.fr F8 (fun k => pp (o := 82) (by decide)) (fun k => pp (o := 112) (by decide))⟩, ⟨_, _, hT.sr.fr F8 (fun k => pp (o := 84) (by decide)) (fun k => pp (o := 114) (by decide))⟩, ⟨_, _, pg1.fr F8 (fun k => pp (o := 86) (by decide)) (fun k => pp (o := 116) (by decide))⟩, ⟨_, _, hT.bn.fr F8 (fun k => pp (o := 88) (by decide)) (fun k => pp (o := 118) (by decide))⟩⟩
      · rw [F8.q (fOr_n (fun q => dcl_n (by decide) q.1) (by decide) (by omega) (by decide)), F8.q (fOr_n (fun q => dcl_n (by decide) q.1) (by decide) (by omega) (by decide))]
        exact r5
theorem orchard_ok (h : Inv So Sm) : Sim (o_orchard So) (m_orchard Sm) () := by
  obtain ⟨T, W, V, L, v, Z, n, h1, h2, h3, h4, h5, h6, h7⟩ := h.th
  have hv := h1.2.2.2.2.2.1
  obtain ⟨z, S1, M1, a1, a2, a3, a4, a5, a6⟩ := rd_ok (d := 41 - v) (by omega) h6 h7.2.1
  have eo : o_orchard So = bn (o_rd_readOrchard_178 (41 - v) S1) fun r2 S3 => oK S3 r2 := by
    unfold o_orchard
    rw [oq2 h7.1, a1]
    rfl
  have em : m_orchard Sm = if bI z = 0 then some (rI M1 500 9, M1) else mK M1 := by
    unfold m_orchard
    rw [ltq (wI Sm 500 0 0), a2, bnq]
    rfl
  rcases a5 with ⟨rfl, b1', c, T', W', V', b, hb, hR⟩ | ⟨rfl, hB, hD⟩
  · obtain ⟨So', Sm', g1, g2, g3⟩ := or_good h1 h3 h4 h5 h7 rfl a3 hb hR b1' a6
    rw [if_neg bT] at em
    exact ⟨0, So', Sm', eo.trans g1, em.trans g2, g3⟩
  · rw [if_pos bF] at em
    refine ⟨rI M1 500 9, wI S1 3 1 0, M1, eo.trans ?_, em, or_bad h1 h2 h3 h4 h5 h7 rfl a3 a4 hD a6⟩
    unfold o_rd_readOrchard_178 o_rd_readOrchard_192 o_tp_clear oK o_orchard_55
    rw [if_neg hB.1.1, ltq (wI S1 3 1 0), bnq, bnq, rI_wI_k (show 7 ≠ 1 by decide), if_neg hB.1.1, hB.2]
end ORCH4
