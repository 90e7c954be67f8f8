/-! Reading an orchard: how it begins. -/
section RBEGIN
variable {n p b k i d s s' bz j mo mm : Nat} {w : List Nat} {tx : Nat → Int32} {T T' So Sm S S' So' Sm' : St} {P Q : Nat → Nat → Bool} {W V W' V' : Nat → List Nat} {c c' : Nat → Nat}
def fR2 : Nat → Nat → Bool := fun a k => a == 502 && decide (6 ≤ k)
def fR4 : Nat → Nat → Bool := fun a k => (a == 521 || a == 522) && decide (2 ≤ k)
theorem m_rA3 : ∀ (j i m : Nat) (S : St), i + j = 12 → 6 ≤ i → j < m → ∃ S', m_readsAll_3 m (nI i) S = m_readsAll_22 S' ∧ (∀ q, i ≤ q → q < 12 → rI S' 502 q = 0) ∧ Fr fR2 S S' ∧ ∀ q, q < i → rI S' 502 q = rI S 502 q
  | 0, i, m, S, hi, h6, hm => by
    obtain ⟨m, rfl, hm⟩ := fuel hm
    rw [m_readsAll_3, if_neg (show ¬ nI i < 12 from nI_nlt (b := 12) (by omega) (by omega))]
    exact ⟨S, rfl, fun q h1 h2 => absurd h1 (by omega), Fr.rf, fun q hq => rfl⟩
  | j + 1, i, m, S, hi, h6, hm => by
    obtain ⟨m, rfl, hm⟩ := fuel hm
    obtain ⟨S', h1, h2, h3, h4⟩ := m_rA3 j (i + 1) m (wI S 502 i 0) (by omega) (by omega) (by omega)
    rw [m_readsAll_3, if_pos (show nI i < 12 from nI_lt (b := 12) (by omega) (by decide)), if_neg (nI_in (show i < 12 by omega) (by decide)), nI_clamp (by omega), ltq (wI S 502 _ _), nI_1, ltq, h1]
    refine ⟨S', rfl, fun q q1 q2 => ?_, (Fr.wI (by unfold fR2; simp; omega)).tr h3, fun q hq => (h4 q (by omega)).trans (rI_wI_k (by omega))⟩
    by_cases e : q = i
    · rw [h4 q (by omega), e, rI_wI]
    · exact h2 q (by omega) q2
theorem m_rA24 : ∀ (j i m : Nat) (S : St), i + j = 4 → 2 ≤ i → j < m → ∃ S', m_readsAll_24 m (nI i) S = m_readsAll_53 S' ∧ (∀ q, i ≤ q → q < 4 → rI S' 521 q = 1000 ∧ rI S' 522 q = 1000) ∧ Fr fR4 S S' ∧ ∀ q, q < i → rI S' 521 q = rI S 521 q ∧ rI S' 522 q = rI S 522 q
  | 0, i, m, S, hi, h6, hm => by
    obtain ⟨m, rfl, hm⟩ := fuel hm
    rw [m_readsAll_24, if_neg (show ¬ nI i < 4 from nI_nlt (b := 4) (by omega) (by omega))]
    exact ⟨S, rfl, fun q h1 h2 => absurd h1 (by omega), Fr.rf, fun q hq => ⟨rfl, rfl⟩⟩
  | j + 1, i, m, S, hi, h6, hm => by
    obtain ⟨m, rfl, hm⟩ := fuel hm
    obtain ⟨S', h1, h2, h3, h4⟩ := m_rA24 j (i + 1) m (wI (wI S 521 i 1000) 522 i 1000) (by omega) (by omega) (by omega)
    rw [m_readsAll_24, if_pos (show nI i < 4 from nI_lt (b := 4) (by omega) (by decide)), if_neg (nI_in (show i < 4 by omega) (by decide)), nI_clamp (by omega), ltq (wI S 521 _ _), if_neg (nI_inC (show i < 4 by omega) (by decide)), ltq (wI (wI S 521 _ _) 522 _ _), nI_1, ltq, h1]
    refine ⟨S', rfl, fun q q1 q2 => ?_, ((Fr.wI (by unfold fR4; simp; omega)).tr (Fr.wI (by unfold fR4; simp; omega))).tr h3, fun q hq => ?_⟩
    · by_cases e : q = i
      · rw [(h4 q (by omega)).1, (h4 q (by omega)).2, e, rI_wI, rI_wI_a (show 521 ≠ 522 by decide), rI_wI]
        exact ⟨rfl, rfl⟩
      · exact h2 q (by omega) q2
    · exact ⟨(h4 q (by omega)).1.trans ((rI_wI_a (by decide)).trans (rI_wI_k (by omega))), (h4 q (by omega)).2.trans ((rI_wI_k (by omega)).trans (rI_wI_a (by decide)))⟩
def fBm : Nat → Nat → Bool := fun a k => fLm a k || (a == 500 && (k == 1 || k == 3))
theorem fBm_L {a k : Nat} (h : fBm a k = false) : fLm a k = false := (Bool.or_eq_false_iff.mp h).1
theorem fLo_w {a k : Nat} {x : Int32} (h : dcl a = true) (h2 : a % 2 = d % 2) : Fr (fLo d) S (wI S a k x) := Fr.wI (by
  unfold fLo
  rw [h, h2]
  simp)
theorem dcl_d (hd : d = 20 ∨ d = 21) {a : Nat} (ha : (d ≤ a ∧ a ≤ d + 42) ∨ (d + 80 ≤ a ∧ a ≤ d + 88) ∨ (d + 110 ≤ a ∧ a ≤ d + 118)) : dcl a = true := by
  unfold dcl
  simp
  omega
theorem OMs.mk (S : St) : OMs (fun a k => rI S a (shf a + k), fun a k => rJ S a (shf a + k), S.2.2) S := ⟨fun a k _ _ => rfl, fun a k _ _ => rfl⟩
/-- a draft with nothing in it -/
theorem cl_ok (hd : d = 20 ∨ d = 21) (hD : Dft d So) : ∃ So', o_to_clear d So = some ((), So') ∧ (∀ T W V, DTB d (fun _ => 0) T W V So') ∧ rI So' d 12 = 0 ∧ rI So' d 13 = 0 ∧ Fr (fLo d) So So' ∧ ∀ a k, a < 20 → rI So' a k = rI So a k := by
  have hkd := kd_d hd
  obtain ⟨⟨n1, f1, h1⟩, ⟨n2, f2, h2⟩, ⟨n3, f3, h3⟩, ⟨n4, f4, h4⟩, ⟨n5, f5, h5⟩⟩ := hD
  have kn : KO.1 (d + 2) = (0, 2) ∧ KO.1 (d + 2 + 4) = (4, 16) ∧ KO.1 (d + 2 + 8) = (1, 9) ∧ KO.1 (d + 4) = (0, 2) ∧ KO.1 (d + 4 + 4) = (4, 5) ∧ KO.1 (d + 4 + 8) = (1, 9) := by
    rcases hd with rfl | rfl <;> exact ⟨rfl, rfl, rfl, rfl, rfl, rfl⟩
  unfold o_to_clear o_na_clear o_tb_clear
  simp only [if_pos hkd, if_pos kn.1, if_pos kn.2.2.2.1, if_pos h1.1, if_pos h2.1, if_pos h3.1, if_pos h4.1, if_pos h5.1, ltq, bnq]
  have fr : ∀ {S : St} {a k : Nat} {x : Int32}, ((d ≤ a ∧ a ≤ d + 42) ∨ (d + 80 ≤ a ∧ a ≤ d + 88) ∨ (d + 110 ≤ a ∧ a ≤ d + 118)) → a % 2 = d % 2 → Fr (fLo d) S (wI S a k x) := fun q1 q2 => fLo_w (dcl_d hd q1) q2
  refine ⟨_, rfl, fun T W V => ?_, ?_, rI_wI, ((((((((fr (by omega) (by omega)).tr (fr (by omega) (by omega))).tr (fr (by omega) (by omega))).tr (fr (by omega) (by omega))).tr (fr (by omega) (by omega))).tr (fr (by omega) (by omega))).tr (fr (by omega) (by omega))).tr (fr (by omega) (by omega))).tr (fr (by omega) (by omega)), fun a k ha => ?_⟩
  · have em : ∀ (a b : Nat), a < 0 → False := fun a b h => absurd h (Nat.not_lt_zero a)
    have tb : ∀ {u m w n : Nat} {f g : Nat → Nat → Int32} {S S' : St}, TB u m w n f S → rI S' u 0 = rI S u 0 → rI S' u 1 = rI S u 1 → rI S' u 3 = 0 → TB u m w 0 g S' := fun h a1 a2 a3 => ⟨h.1, h.2.1, a1.trans h.2.2.1, a2.trans h.2.2.2.1, a3, Nat.zero_le _, h.2.2.2.2.2.2.1, fun a b ha hb => absurd ha (Nat.not_lt_zero a)⟩
    refine ⟨tb h1 ?_ ?_ ?_, tb h2 ?_ ?_ ?_, tb h3 ?_ ?_ ?_, ⟨fun _ _ => 0, tb h4 ?_ ?_ ?_, fun q hq => absurd hq (Nat.not_lt_zero _)⟩, tb h5 ?_ ?_ ?_, ⟨kn.1, kn.2.1, kn.2.2.1, ?_, Nat.zero_le _, by decide, fun i hi => absurd hi (Nat.not_lt_zero _)⟩, ⟨kn.2.2.2.1, kn.2.2.2.2.1, kn.2.2.2.2.2, ?_, Nat.zero_le _, by decide, fun i hi => absurd hi (Nat.not_lt_zero _)⟩⟩
    all_goals (unfold wI up2 rI; simp)
    all_goals (try rfl)
  · rw [rI_wI_k (by decide), rI_wI]
  · have : ∀ x, a ≠ d + x := fun x => by omega
    have h0 : a ≠ d := by omega
    rw [rI_wI_a h0, rI_wI_a h0, rI_wI_a (this _), rI_wI_a (this _), rI_wI_a (this _), rI_wI_a (this _), rI_wI_a (this _), rI_wI_a (this _), rI_wI_a (this _)]
theorem rb_ok (hd : d = 20 ∨ d = 21) (hT : Tap So Sm) (hD : Dft d So) : ∃ n tx k w b p T So1 Sm1, o_rd_readOrchard d So = o_rd_readOrchard_13 FU d 0 So1 ∧ m_readsAll Sm = m_readsAll_64 FU Sm1 ∧ TK n tx k w b p So1 Sm1 ∧ rI So1 3 7 = 0 ∧ RDS d (fun _ => 0) T (fun _ => []) (fun _ => []) b So1 Sm1 ∧ Fr (fLo d) So So1 ∧ Fr fBm Sm Sm1 ∧ rI Sm1 500 1 = 0 := by
  have hkd := kd_d hd
  obtain ⟨S1, a1, a2, a3, a4, a5, a6⟩ := cl_ok hd hD
  obtain ⟨n, t1, t2, t3, t4⟩ := hT
  obtain ⟨M1, b1', b2', b3', _⟩ := m_rA3 6 6 FU Sm (by decide) (by decide) (by unfold FU; omega)
  obtain ⟨M2, c1', c2', c3', _⟩ := m_rA24 2 2 FU M1 (by decide) (by decide) (by unfold FU; omega)
  unfold o_rd_readOrchard o_tp_open m_readsAll
  rw [if_pos hkd, a1, bnq, ltq (wI S1 3 2 0), ltq (wI (wI S1 3 2 0) 3 7 0), (show m_readsAll_3 FU 6 Sm = _ from b1')]
  unfold m_readsAll_22
  rw [(show m_readsAll_24 FU 2 M1 = _ from c1')]
  unfold m_readsAll_53 m_starts
  have e1 : rI M2 500 1 = nI n := (c3'.i (by rfl)).trans ((b3'.i (by rfl)).trans t3)
  rw [ltq (wI M2 500 32 _), rI_wI_k (show 1 ≠ 32 by decide), e1, ltq (wI (wI M2 500 32 1000) 500 3 _), ltq (wI (wI (wI M2 500 32 1000) 500 3 _) 500 1 _), ltq (wI (wI (wI (wI M2 500 32 1000) 500 3 _) 500 1 _) 500 4 _)]
  have hX : TXR n (fun k => rI So 4 k) (wI (wI S1 3 2 0) 3 7 0) (wI (wI (wI (wI M2 500 32 1000) 500 3 (nI n)) 500 1 0) 500 4 0) := by
    refine ⟨t1, ?_, ?_, fun k hk => ⟨?_, ?_⟩⟩
    · rw [rI_wI_k (by decide), rI_wI_k (by decide), a6 _ _ (by decide), t2]
    · rw [rI_wI_k (by decide), rI_wI_k (by decide), rI_wI]
    · rw [rI_wI_a (by decide), rI_wI_a (by decide), a6 _ _ (by decide)]
    · rw [rI_wI_a (by decide), rI_wI_a (by decide), rI_wI_a (by decide), rI_wI_a (by decide), c3'.i (by rfl), b3'.i (by rfl), ← t4 k hk]
  obtain ⟨k, w, b, p, S2, M3, g1, g2, g3, g4, g5, g6⟩ := nx_ok hX rI_wI (p := 0) (by rw [rI_wI_k (by decide), rI_wI]; rfl) (by rw [rI_wI]; rfl) (Nat.zero_le _)
  rw [g1, bnq, bnq, g2, bnq, bnq]
  have fo : Fr (fLo d) So S2 := (a5.tr ((Fr.wI (by unfold fLo fCo; simp)).tr (Fr.wI (by unfold fLo fCo; simp)))).tr (fLo_c (fCo_To g5))
  have fm : Fr fBm Sm M3 := ((b3'.mo fun a k q => by
    refine Bool.eq_false_iff.mpr fun q2 => ?_
    unfold fR2 at q2
    have q3 := fBm_L q
    unfold fLm at q3
    simp only [Bool.or_eq_false_iff] at q3
    simp at q2
    have q4 := q3.2
    rw [show oc a k = false by unfold oc; simp; omega] at q4
    simp at q4
    omega).tr (c3'.mo fun a k q => by
    refine Bool.eq_false_iff.mpr fun q2 => ?_
    unfold fR4 at q2
    have q3 := fBm_L q
    unfold fLm at q3
    simp only [Bool.or_eq_false_iff] at q3
    simp at q2
    have q4 := q3.2
    rw [show oc a k = false by unfold oc; simp; omega] at q4
    simp at q4
    omega)).tr (((((Fr.wI (by unfold fBm fLm; simp)).tr (Fr.wI (by unfold fBm fLm; simp))).tr (Fr.wI (by unfold fBm fLm; simp))).tr (Fr.wI (by unfold fBm fLm fCm; simp))).tr ((fLm_c (fCm_Tm g6)).mo fun a k q => fBm_L q))
  refine ⟨n, _, k, w, b, p, _, S2, M3, rfl, rfl, g3, (g5.i (by rfl)).trans rI_wI, ⟨?_, OMs.mk M3, ?_, 1000, Or.inl ⟨?_, ?_, ?_⟩, Or.inl ⟨?_, ?_, ?_⟩, ?_, Nat.le_refl _, by omega⟩, fo, fm, ?_⟩
  · refine ⟨fun j hj => ?_, by decide, fun a ha => absurd ha (Nat.not_lt_zero _), fun a ha => absurd ha (Nat.not_lt_zero _), fun a ha => absurd ha (Nat.not_lt_zero _), fun a ha => absurd ha (Nat.not_lt_zero _), fun a ha => absurd ha (Nat.not_lt_zero _), fun a ha => absurd ha (Nat.not_lt_zero _), fun a ha => absurd ha (Nat.not_lt_zero _), fun a ha => absurd ha (Nat.not_lt_zero _)⟩
    show rI M3 502 (6 + j) = nI 0
    rw [g6.i (by rfl), rI_wI_a (by decide), rI_wI_a (by decide), rI_wI_a (by decide), rI_wI_a (by decide), c3'.i (by rfl), b2' _ (by omega) (by omega)]
    rfl
  · exact ((a2 _ _ _).fr ((Fr.wI rfl : Fr fCo S1 _).tr (Fr.wI rfl)) (fun a k q => fCo_n (by omega)) hd).fr (fCo_To g5) (fun a k q => fCo_n (by omega)) hd
  · rw [g5.i (fTo_n (by omega)), rI_wI_a (by omega), rI_wI_a (by omega)]
    exact a3
  · rw [g6.i (by rfl), rI_wI_a (by decide), rI_wI_a (by decide), rI_wI_a (by decide), rI_wI_a (by decide)]
    exact (c2' 2 (by decide) (by decide)).1
  · rw [g6.i (by rfl), rI_wI_a (by decide), rI_wI_a (by decide), rI_wI_a (by decide), rI_wI_a (by decide)]
    exact (c2' 2 (by decide) (by decide)).2
  · rw [g5.i (fTo_n (by omega)), rI_wI_a (by omega), rI_wI_a (by omega)]
    exact a4
  · rw [g6.i (by rfl), rI_wI_a (by decide), rI_wI_a (by decide), rI_wI_a (by decide), rI_wI_a (by decide)]
    exact (c2' 3 (by decide) (by decide)).1
  · rw [g6.i (by rfl), rI_wI_a (by decide), rI_wI_a (by decide), rI_wI_a (by decide), rI_wI_a (by decide)]
    exact (c2' 3 (by decide) (by decide)).2
  · rw [g6.i (by rfl), rI_wI_k (by decide), rI_wI_k (by decide), rI_wI_k (by decide), rI_wI]
    rfl
  · rw [g6.i (by rfl), rI_wI_k (by decide), rI_wI]
/-- the orchard's lines, from the tape to the draft -/
theorem rd_ok (hd : d = 20 ∨ d = 21) (hT : Tap So Sm) (hD : Dft d So) : ∃ z So' Sm', o_rd_readOrchard d So = o_rd_readOrchard_178 d So' ∧ m_readsAll Sm = some (bI z, Sm') ∧ Fr (fLo d) So So' ∧ Fr fBm Sm Sm' ∧ ROE d z So' Sm' ∧ rI Sm' 500 1 = 0 := by
  obtain ⟨n, tx, k, w, b, p, T, S1, M1, h1, h2, h3, h4, h5, h6, h7, h8⟩ := rb_ok hd hT hD
  have hn := h3.1.1
  obtain ⟨z, S2, M2, g1, g2, g3, g4, g5⟩ := ro_loop hd (n + 1) 0 FU FU k w b p _ T _ _ S1 M1 (by omega) (Nat.zero_le _) (by unfold FU; omega) (by unfold FU; omega) h3 h4 h5
  exact ⟨z, S2, M2, h1.trans g1, h2.trans g2, h6.tr g3, h7.tr (g4.mo fun a k q => fBm_L q), g5, (g4.i (by rfl)).trans h8⟩
end RBEGIN
