section MARK3
variable {T : St} {W V : Nat → List Nat} {L : Int32 → Int32 → Int32} {v d q a b : Nat} {Z : Nat → Int32} {So So' Sm Sm' S : St} {P Q : Nat → Nat → Bool}
def fMb : Nat → Nat → Bool := fun x j => (x == 500 && (j == 0 || j == 69)) || fLy 0 x j || x == 553
theorem fMb_n {x j : Nat} (h : x ≠ 500 ∨ (j ≠ 0 ∧ j ≠ 69)) (h2 : fLy 0 x j = false) (h3 : x ≠ 553) : fMb x j = false := by
  unfold fMb
  rw [h2]
  simp
  omega
theorem fMb_o {x j : Nat} (h : (x < 543 ∧ x ≠ 500) ∨ (552 < x ∧ x ≠ 553) ∨ (x = 500 ∧ j ≠ 0 ∧ j ≠ 69)) : fMb x j = false := fMb_n (by omega) (fLy_o (by omega)) (by omega)
def fOb : Nat → Nat → Bool := fun x j => fSa 0 x j || (x == 1 && j == 11)
theorem fOb_n {x k : Nat} (h : x ≠ 200 ∧ x ≠ 230 ∧ x ≠ 111 ∧ x ≠ 141 ∧ x ≠ 116 ∧ x ≠ 146 ∧ x ≠ 70) (h1 : x ≠ 1 ∨ k ≠ 11) : fOb x k = false := by
  unfold fOb
  rw [fSa_n (by omega)]
  simp
  omega
/-- a way back -/
theorem back_ok {k : Nat} (hk : k < 4) (ht : Told T W V L v So Sm) (hz : Now T Z So Sm) (hs : Slt T W 0 So Sm) (hu : Und T d So Sm) (hm : Mks T W So Sm) (hp : Tap So Sm) (hr : Rst v So) {xl : Int32} (m1 : rI So 1 12 = xl) (htb : tb xl k = true) : Sim (o_mark_43 (nI k) 1 (71 + k) So) (m_mark_29 (nI k) 1 (wI Sm 500 0 0)) () := by
  have hvv := ht.2.2.2.2.2.1
  have hn := ht.1.b
  have hm0 := hm
  obtain ⟨xl', m1', m2⟩ := hm
  obtain rfl : xl = xl' := m1.symm.trans m1'
  obtain ⟨q1, q2, -, q4⟩ := m2 k hk
  obtain ⟨w1, Y, w2, w3, w4⟩ := q4 htb
  obtain ⟨n1, f1, n2, f2, -, -, sh1, -, -, sh2, -⟩ := hs
  obtain ⟨nl, fl, mt, gt, kn, th, s1, s2, s3, s4, s5, s6, s7, s8, s9, s10, s11⟩ := w1
  obtain ⟨S3, a1, a2, a3, a4, a5, a6, a7⟩ := sa_copy (S := So) (Z := Y) (a := 1 + k) (b := 0) (by omega) (by omega) (by decide) hn.1 w3.2.2.2.1 (by rw [show 200 + (1 + k) = 201 + k by omega]; exact w2) s1 s4 sh1 sh2
  have fo : Fr fOb So (wI S3 1 11 0) := (a7.mo fun x j q => by
    unfold fOb at q
    exact (Bool.or_eq_false_iff.mp q).1).tr (Fr.wI rfl)
  have fw : Fr (fun x j => x == 1 && j == 11) S3 (wI S3 1 11 0) := Fr.wI rfl
  have fwn : ∀ x j : Nat, x ≠ 1 → (x == 1 && j == 11) = false := fun x j q => by
    rw [beq_eq_false_iff_ne.mpr q]
    rfl
  have g0 : Fr fMb Sm (wI Sm 500 0 0) := Fr.wI rfl
  have g0n : ∀ x j : Nat, x ≠ 500 → rI (wI Sm 500 0 0) x j = rI Sm x j := fun x j h1 => rI_wI_a h1
  have e557 : wI (wI Sm 500 0 0) 557 k 1 = wI Sm 500 0 0 := wI_self (by rw [g0n _ _ (by decide), q2, htb]; rfl)
  obtain ⟨S4, S5, b1', b2, b3, b4⟩ := m_lay (a := 1 + k) (b := 0) (by omega) (by omega) (by decide) (wI Sm 500 0 0)
  obtain ⟨S6, c1', c2', -, c4'⟩ := m_copies_ok (v0 := 555) (v2 := 553) (a := 15 * k) (b := 0) (n0 := 60) (n2 := 15) rfl rfl (by omega) (by omega) (by omega) (by omega) (by decide) S5
  have fl6 : Fr (fun x j => x == 553 || (x == 500 && j == 69)) S5 (wI S6 500 69 0) := (c4'.mo fun x j q => (Bool.or_eq_false_iff.mp q).1).tr (Fr.wI rfl)
  have fm : Fr fMb Sm (wI S6 500 69 0) := (g0.tr (b4.mo fun x j q => by
    unfold fMb at q
    exact (Bool.or_eq_false_iff.mp (Bool.or_eq_false_iff.mp q).1).2)).tr (fl6.mo fun x j q => by
    unfold fMb at q
    simp at q ⊢
    omega)
  obtain ⟨u0, u1, u2, e, u3, u4, Yu, u5⟩ := hu
  refine ⟨1, wI S3 1 11 0, wI S6 500 69 0, ?_, ?_, T, W, V, L, v, Y, 0, ht.fr fo fm (fun x j q => ?_) (fOb_n (by omega) (by decide)) (fun x j q => fMb_o (by omega)), ⟨?_, fun j hj => ?_, w3⟩, ?_, ⟨Nat.zero_le _, rI_wI, rI_wI, e, fun i hi => ⟨(fo.q (fOb_n (by omega) (by omega))).trans (u3 i hi).1, (u3 i hi).2⟩, u4, Yu, fun i hi => absurd hi (Nat.not_lt_zero _)⟩, hm0.fr2 fo fm (fOb_n (by omega) (by omega)) (fun x j q => ?_) (fun x j q q2 => fMb_n (by omega) (fLy_n (by omega) (by omega) (by omega)) (by omega)) (fun x j q q2 => fMb_n (by omega) (fLy_n (by omega) (by omega) (by omega)) (by omega)) (fun x j q q2 => fMb_n (by omega) (fLy_n (by omega) (by omega) (by omega)) (by omega)) (fun j => ⟨fMb_o (by omega), fMb_o (by omega)⟩), hp.fr fo fm (fOb_n (by omega) (by omega)) (fun j => fOb_n (by omega) (by omega)) (fMb_o (by omega)) (fun j => fMb_o (by omega)), hr.fr hvv fo (fun x j q => ?_) ⟨fOb_n (by omega) (by omega), fun j => ⟨fOb_n (by omega) (by omega), fOb_n (by omega) (by omega), fOb_n (by omega) (by omega)⟩, fOb_n (by omega) (by omega), fOb_n (by omega) (by omega)⟩⟩
  · unfold o_mark_43 o_mark_83
    rw [if_neg (by decide), show 71 + k = 70 + (1 + k) by omega, (show o_sa_copy 70 (70 + (1 + k)) So = _ from a1), bnq, ltq]
  · unfold m_mark_29 m_mark_47 m_mark_59 m_mark_119
    rw [if_neg (nI_in (by omega) (by omega)), nI_clamp (by omega), nar_1, e557, ltq, if_neg (by decide), if_neg (by decide), show (1 : Int32) + nI k = nI (1 + k) from nI_add 1 k, (show m_laysLines (nI (1 + k)) 0 _ = _ from b1'), bnq, (show m_laysTold (nI (1 + k)) 0 _ = _ from b2), bnq, if_neg (by decide), x15, (show m_copies 555 (nI (15 * k)) 553 0 S5 = _ from c1'), bnq, ltq]
  · unfold ton at q
    exact fOb_n (by omega) (by omega)
  · exact a2.frw fw (fun j => fwn _ _ (by omega)) (fun j => fwn _ _ (by omega))
  · have := c2' j hj
    rw [Nat.zero_add] at this
    rw [rI_wI_a (by decide), this, b4.i (fLy_o (by omega)), g0n _ _ (by decide)]
    exact w4 j hj
  · have sl : Slt T W 0 (wI S3 1 11 0) S5 := by
      refine Slt.cp (a := 1 + k) (Sm := wI Sm 500 0 0) s2 ⟨(g0n _ _ (by decide)).trans s3.1, fun j hj => ?_⟩ ⟨(g0n _ _ (by decide)).trans s5.1, fun j hj => ?_⟩ ?_ ?_ b3 (a3.fr fw (fun j => fwn _ _ (by omega)) (fun j => fwn _ _ (by omega))) (a4.fr fw (fun j => fwn _ _ (by omega)) (fun j => fwn _ _ (by omega))) ?_ ?_
      · rw [g0n _ _ (by decide), g0n _ _ (by decide), g0n _ _ (by decide)]
        exact s3.2 j hj
      · rw [g0n _ _ (by decide), g0n _ _ (by decide), g0n _ _ (by decide)]
        exact s5.2 j hj
      · rw [g0n _ _ (by decide), s7]
        exact s10
      · rw [g0n _ _ (by decide), s9]
        exact s11
      · rw [fw.i (fwn _ _ (by omega)), a5, g0n _ _ (by decide), s7]
        exact s6
      · rw [fw.i (fwn _ _ (by omega)), a6, g0n _ _ (by decide), s9]
        exact s8
    exact sl.fr (P := fun _ _ => false) Fr.rf fl6 (fun j => ⟨rfl, rfl, rfl, rfl, rfl⟩) (fun x j q => by
      rw [beq_eq_false_iff_ne.mpr (show x ≠ 553 by omega), beq_eq_false_iff_ne.mpr (show x ≠ 500 by omega)]
      rfl)
  · unfold mko at q
    exact fOb_n (by omega) (by omega)
  · unfold ton at q
    exact fOb_n (by omega) (by omega)
theorem mark_ok (h : Inv So Sm) (x : Int32) (y : Bool) : Sim (o_mark x (bI y) So) (m_mark x (bI y) Sm) () := by
  have hI := h
  obtain ⟨T, W, V, L, v, Z, d, ht, hz, hs, hu, hm, hp, hr⟩ := h
  unfold o_mark o_mark_13 o_mark_41 m_mark m_mark_27
  rw [ltq (wI Sm 500 0 0), m_within_ok, bnq]
  rcases nI_or x 4 (by decide) with q | ⟨k, hk, rfl⟩ | ⟨k, hk, hk2, rfl⟩
  · rw [if_pos q, decide_eq_true q, if_pos (show bI (!true && _) = 0 from rfl)]
    exact ⟨_, _, _, rfl, rfl, hI.th⟩
  · obtain ⟨xl, m1, m2⟩ := hm
    obtain ⟨q1, q2, q3, q4⟩ := m2 k hk
    rw [if_neg (nI_pos (by omega)), if_pos (show nI k < 4 from nI_lt (b := 4) hk (by decide)), if_neg (nI_in hk (by decide)), nI_clamp (by omega), oq2 q1, decide_eq_false (show ¬ nI k < 0 from nI_pos (by omega)), decide_eq_false (show ¬ (3 : Int32) < nI k from nI_nlt (a := 3) (by omega) (by decide)), if_neg (show ¬ bI (!false && !false) = 0 by decide)]
    cases y with
    | false =>
      rw [if_pos bF, if_pos bF]
      exact save_ok hk ht hz hs hu ⟨xl, m1, m2⟩ hp hr
    | true =>
      rw [if_neg bT, if_neg bT, if_neg (nI_inC hk (by decide)), m1, rI_wI_a (by decide), q2]
      cases htb : tb xl k with
      | false =>
        rw [if_pos ((sr_ne _ (by omega)).mpr htb), if_pos bF]
        exact ⟨_, _, _, rfl, rfl, hI.th⟩
      | true =>
        rw [if_neg (fun e => by rw [(sr_ne _ (by omega)).mp e] at htb; cases htb), if_neg bT]
        exact back_ok hk ht hz hs hu ⟨xl, m1, m2⟩ hp hr m1 htb
  · rw [if_neg (nI_pos hk2), if_neg (show ¬ nI k < 4 from nI_nlt (b := 4) hk hk2), decide_eq_true (show (3 : Int32) < nI k from nI_lt (a := 3) (by omega) hk2), if_pos (show bI (_ && !true) = 0 by rw [Bool.not_true, Bool.and_false]; rfl)]
    exact ⟨_, _, _, rfl, rfl, hI.th⟩
end MARK3
