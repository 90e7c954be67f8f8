section MARK2
variable {T : St} {W V : Nat → List Nat} {L : Int32 → Int32 → Int32} {v d q a b : Nat} {Z : Nat → Int32} {So So' Sm Sm' S : St} {P Q : Nat → Nat → Bool}
theorem x15 (i : Nat) : (15 : Int32) * nI i = nI (15 * i) := by
  rw [show (15 : Int32) = nI 15 from rfl, nI_mul]
def fMs (k : Nat) : Nat → Nat → Bool := fun x j => (x == 500 && j == 0) || (x == 557 && j == k) || fLy (1 + k) x j || x == 555
theorem fMs_n {k x j : Nat} (h : x ≠ 500 ∨ j ≠ 0) (h1 : x ≠ 557 ∨ j ≠ k) (h2 : fLy (1 + k) x j = false) (h3 : x ≠ 555) : fMs k x j = false := by
  unfold fMs
  rw [h2]
  simp
  omega
theorem fMs_o {k x j : Nat} (h : (x < 543 ∧ x ≠ 500) ∨ (552 < x ∧ x ≠ 555 ∧ x ≠ 557) ∨ (x = 500 ∧ j ≠ 0)) : fMs k x j = false := fMs_n (by omega) (by omega) (fLy_o (by omega)) (by omega)
def fOs (k : Nat) : Nat → Nat → Bool := fun x j => fSa (1 + k) x j || (x == 1 && j == 12)
theorem fOs_n {b x k : Nat} (h : x ≠ 201 + b ∧ x ≠ 231 + b ∧ x ≠ 112 + b ∧ x ≠ 142 + b ∧ x ≠ 117 + b ∧ x ≠ 147 + b ∧ x ≠ 71 + b) (h1 : x ≠ 1 ∨ k ≠ 12) : fOs b x k = false := by
  unfold fOs
  rw [fSa_n (by omega)]
  simp
  omega
theorem nar_1 : vp_nar .boolean (1 : Int32) = 1 := nar_b true
/-- a save -/
theorem save_ok {k : Nat} (hk : k < 4) (ht : Told T W V L v So Sm) (hz : Now T Z So Sm) (hs : Slt T W 0 So Sm) (hu : Und T d So Sm) (hm : Mks T W So Sm) (hp : Tap So Sm) (hr : Rst v So) : Sim (o_mark_43 (nI k) 0 (71 + k) So) (m_mark_29 (nI k) 0 (wI Sm 500 0 0)) () := by
  have hvv := ht.2.2.2.2.2.1
  have hn := ht.1.b
  obtain ⟨xl, m1, m2⟩ := hm
  obtain ⟨q1, q2, ⟨⟨n1, f1, sh1⟩, ⟨n2, f2, sh2⟩⟩, q4⟩ := m2 k hk
  have hs0 := hs
  obtain ⟨nl, fl, mt, gt, kn, th, s1, s2, s3, s4, s5, s6, s7, s8, s9, s10, s11⟩ := hs
  obtain ⟨S3, a1, a2, a3, a4, a5, a6, a7⟩ := sa_copy (S := So) (Z := Z) (a := 0) (b := 1 + k) (by omega) (by decide) (by omega) hn.1 hz.2.2.2.2.2.1 hz.1 s1 s4 (by rw [show 111 + (1 + k) = 112 + k by omega]; exact sh1) (by rw [show 116 + (1 + k) = 117 + k by omega]; exact sh2)
  have fo : Fr (fOs k) So (wI S3 1 12 (xl ||| ((1 : Int32) <<< (nI k &&& 31)))) := (a7.mo fun x j q => by
    unfold fOs at q
    exact (Bool.or_eq_false_iff.mp q).1).tr (Fr.wI (by unfold fOs; simp))
  have fw : Fr (fun x j => x == 1 && j == 12) S3 (wI S3 1 12 (xl ||| ((1 : Int32) <<< (nI k &&& 31)))) := Fr.wI rfl
  have fwn : ∀ x j : Nat, x ≠ 1 → (x == 1 && j == 12) = false := fun x j q => by
    rw [beq_eq_false_iff_ne.mpr q]
    rfl
  -- the reference
  have g0 : Fr (fMs k) Sm (wI (wI Sm 500 0 0) 557 k 1) := (Fr.wI rfl).tr (Fr.wI (by unfold fMs; simp))
  have g0n : ∀ x j : Nat, x ≠ 500 → x ≠ 557 → rI (wI (wI Sm 500 0 0) 557 k 1) x j = rI Sm x j := fun x j h1 h2 => by rw [rI_wI_a h2, rI_wI_a h1]
  obtain ⟨S4, S5, b1', b2, b3, b4⟩ := m_lay (a := 0) (b := 1 + k) (by omega) (by decide) (by omega) (wI (wI Sm 500 0 0) 557 k 1)
  obtain ⟨S6, c1', c2', c3', c4'⟩ := m_copies_ok (v0 := 553) (v2 := 555) (a := 0) (b := 15 * k) (n0 := 15) (n2 := 60) rfl rfl (by omega) (by omega) (by omega) (by omega) (by decide) S5
  have fm5 : Fr (fMs k) Sm S5 := g0.tr (b4.mo fun x j q => by
    unfold fMs at q
    exact (Bool.or_eq_false_iff.mp (Bool.or_eq_false_iff.mp q).1).2)
  have fm : Fr (fMs k) Sm S6 := fm5.tr (c4'.mo fun x j q => by
    unfold fMs at q
    exact (Bool.or_eq_false_iff.mp q).2)
  refine ⟨1, wI S3 1 12 (xl ||| ((1 : Int32) <<< (nI k &&& 31))), S6, ?_, ?_, T, W, V, L, v, Z, d, ht.fr fo fm (fun x j q => ?_) (fOs_n (by omega) (by decide)) (fun x j q => fMs_o (by omega)), hz.fr fo fm (fun j => ⟨fOs_n (by omega) (by omega), fOs_n (by omega) (by omega)⟩) (fun j => fMs_o (by omega)), hs0.fr3 fo fm (fun j => ⟨fOs_n (by omega) (by omega), fOs_n (by omega) (by omega), fOs_n (by omega) (by omega), fOs_n (by omega) (by omega), fOs_n (by omega) (by omega)⟩) (fun x q => fMs_n (by omega) (by omega) (fLy_n (by omega) (by omega) (by omega)) (by omega)) (fun x j q h1 h2 => fMs_n (by omega) (by omega) (fLy_n (by omega) (by omega) (by omega)) (by omega)) (fun x j q h1 h2 => fMs_n (by omega) (by omega) (fLy_n (by omega) (by omega) (by omega)) (by omega)), hu.fr fo fm (fun x j q => fOs_n (by omega) (by omega)) (fMs_o (by omega)) (fun j => fMs_o (by omega)), ⟨xl ||| ((1 : Int32) <<< (nI k &&& 31)), rI_wI, fun i hi => ?_⟩, hp.fr fo fm (fOs_n (by omega) (by omega)) (fun j => fOs_n (by omega) (by omega)) (fMs_o (by omega)) (fun j => fMs_o (by omega)), hr.fr hvv fo (fun x j q => ?_) ⟨fOs_n (by omega) (by omega), fun j => ⟨fOs_n (by omega) (by omega), fOs_n (by omega) (by omega), fOs_n (by omega) (by omega)⟩, fOs_n (by omega) (by omega), fOs_n (by omega) (by omega)⟩⟩
  · unfold o_mark_43 o_mark_83
    rw [if_pos rfl, show 71 + k = 70 + (1 + k) by omega, if_pos (sa_k (show 1 + k < 5 by omega)).1, (show o_sa_copy (70 + (1 + k)) 70 So = _ from a1), bnq, a7.i (fSa_n (by omega)), m1, ltq]
  · unfold m_mark_29 m_mark_47 m_mark_59 m_mark_119
    rw [if_neg (nI_in (by omega) (by omega)), nI_clamp (by omega), nar_1, ltq, if_pos rfl, if_pos rfl, show (1 : Int32) + nI k = nI (1 + k) from nI_add 1 k, (show m_laysLines 0 (nI (1 + k)) _ = _ from b1'), bnq, (show m_laysTold 0 (nI (1 + k)) _ = _ from b2), bnq, if_pos rfl, x15, (show m_copies 553 0 555 (nI (15 * k)) S5 = _ from c1'), bnq]
  · unfold ton at q
    exact fOs_n (by omega) (by omega)
  · obtain ⟨r1, r2, r3, r4⟩ := m2 i hi
    have e557 : rI S6 557 i = bI (tb (xl ||| ((1 : Int32) <<< (nI k &&& 31))) i) := by
      rw [c4'.i (by decide), b4.i (fLy_o (by omega)), tb_or, tb_bit (by omega) (by omega)]
      by_cases qi : i = k
      · rw [qi, rI_wI, decide_eq_true rfl, Bool.or_true]
        rfl
      · rw [rI_wI_k qi, rI_wI_a (by decide), decide_eq_false qi, Bool.or_false, r2]
    have no : ∀ x j : Nat, x = 16 → fOs k x j = false := fun x j q => fOs_n (by omega) (by omega)
    by_cases qi : i = k
    · subst qi
      have t3 : TB (111 + (1 + i)) 40 3 nl fl (wI S3 1 12 (xl ||| ((1 : Int32) <<< (nI i &&& 31)))) := a3.fr fw (fun j => fwn _ _ (by omega)) (fun j => fwn _ _ (by omega))
      have t4 : TB (116 + (1 + i)) 12 3 mt gt (wI S3 1 12 (xl ||| ((1 : Int32) <<< (nI i &&& 31)))) := a4.fr fw (fun j => fwn _ _ (by omega)) (fun j => fwn _ _ (by omega))
      refine ⟨(fo.q (no _ _ rfl)).trans r1, e557, ⟨⟨nl, fl, by rw [show 112 + i = 111 + (1 + i) by omega]; exact t3⟩, ⟨mt, gt, by rw [show 117 + i = 116 + (1 + i) by omega]; exact t4⟩⟩, fun _ => ⟨?_, Z, ?_, hz.2.2, fun j hj => ?_⟩⟩
      · have sl : Slt T W (1 + i) (wI S3 1 12 (xl ||| ((1 : Int32) <<< (nI i &&& 31)))) S5 := by
          refine Slt.cp (a := 0) (Sm := wI (wI Sm 500 0 0) 557 i 1) s2 ⟨(g0n _ _ (by decide) (by decide)).trans s3.1, fun j hj => ?_⟩ ⟨(g0n _ _ (by decide) (by decide)).trans s5.1, fun j hj => ?_⟩ ?_ ?_ b3 t3 t4 ?_ ?_
          · rw [g0n _ _ (by decide) (by decide), g0n _ _ (by decide) (by decide), g0n _ _ (by decide) (by decide)]
            exact s3.2 j hj
          · rw [g0n _ _ (by decide) (by decide), g0n _ _ (by decide) (by decide), g0n _ _ (by decide) (by decide)]
            exact s5.2 j hj
          · rw [g0n _ _ (by decide) (by decide), s7]
            exact s10
          · rw [g0n _ _ (by decide) (by decide), s9]
            exact s11
          · rw [fw.i (fwn _ _ (by omega)), a5, g0n _ _ (by decide) (by decide), s7]
            exact s6
          · rw [fw.i (fwn _ _ (by omega)), a6, g0n _ _ (by decide) (by decide), s9]
            exact s8
        exact sl.fr (P := fun _ _ => false) Fr.rf c4' (fun j => ⟨rfl, rfl, rfl, rfl, rfl⟩) (fun x j q => beq_eq_false_iff_ne.mpr (by omega))
      · rw [show 201 + i = 200 + (1 + i) by omega]
        exact a2.frw fw (fun j => fwn _ _ (by omega)) (fun j => fwn _ _ (by omega))
      · rw [c2' j hj, Nat.zero_add, b4.i (fLy_o (by omega)), g0n _ _ (by decide) (by decide)]
        exact hz.2.1 j hj
    · refine ⟨(fo.q (no _ _ rfl)).trans r1, e557, ?_, fun hx => ?_⟩
      · obtain ⟨⟨n1, f1, h1⟩, ⟨n2, f2, h2⟩⟩ := r3
        exact ⟨⟨n1, f1, h1.fr fo (fun j => fOs_n (by omega) (by omega)) (fun j => fOs_n (by omega) (by omega))⟩, ⟨n2, f2, h2.fr fo (fun j => fOs_n (by omega) (by omega)) (fun j => fOs_n (by omega) (by omega))⟩⟩
      · rw [tb_or, tb_bit (by omega) (by omega), decide_eq_false qi, Bool.or_false] at hx
        obtain ⟨w1, Y, w2, w3, w4⟩ := r4 hx
        refine ⟨w1.fr3 fo fm (fun j => ⟨fOs_n (by omega) (by omega), fOs_n (by omega) (by omega), fOs_n (by omega) (by omega), fOs_n (by omega) (by omega), fOs_n (by omega) (by omega)⟩) (fun x q => fMs_n (by omega) (by omega) (fLy_n (by omega) (by omega) (by omega)) (by omega)) (fun x j q h1 h2 => fMs_n (by omega) (by omega) (fLy_n (by omega) (by omega) (by omega)) (by omega)) (fun x j q h1 h2 => fMs_n (by omega) (by omega) (fLy_n (by omega) (by omega) (by omega)) (by omega)), Y, w2.frw fo (fun j => fOs_n (by omega) (by omega)) (fun j => fOs_n (by omega) (by omega)), w3, fun j hj => ?_⟩
        rw [c3' _ (by omega), b4.i (fLy_o (by omega)), g0n _ _ (by decide) (by decide)]
        exact w4 j hj
  · unfold ton at q
    exact fOs_n (by omega) (by omega)
end MARK2
