section YEARS4
variable {T : St} {W V : Nat → List Nat} {L : Int32 → Int32 → Int32} {v d u a : Nat} {Z Z1 Z2 : Nat → Int32} {So So' Sm Sm' S : St}
theorem PO_Y {a k : Nat} (h : PO a k = false) : fYo a k = false := by
  unfold fYo
  rw [PO_205 h]
  refine beq_eq_false_iff_ne.mpr fun q => ?_
  subst q
  unfold PO frX at h
  simp at h
theorem PR_Y {a k : Nat} (h : PR a k = false) : fYm a k = false := by
  unfold fYm
  rw [PR_G h]
  by_cases q : a = 500 ∧ k = 86
  · obtain ⟨rfl, rfl⟩ := q
    exact absurd h (by decide)
  · simpa using q
theorem years_ok (h : Inv So Sm) (x y z : Int32) : Sim (o_years x y z So) (m_years x y z Sm) () := by
  have hI := h
  obtain ⟨T, W, V, L, v, Z, d, ht, hz, hs, hu, hm, hp, hr⟩ := h
  have ht0 := ht
  obtain ⟨hw, hO, hL, hB, hv, hT⟩ := ht
  have hn := hw.b
  unfold o_years o_years_31 m_years m_years_35
  rw [ltq (wI Sm 500 0 0), m_within_ok, bnq]
  by_cases q1 : x < 0
  · rw [if_pos q1, decide_eq_true q1, if_pos (show bI (!true && _) = 0 from rfl)]
    exact ⟨_, _, _, rfl, rfl, hI.th⟩
  rw [if_neg q1, decide_eq_false q1]
  by_cases q2 : (9999 : Int32) < x
  · rw [if_pos q2, decide_eq_true q2, if_pos (show bI (!false && !true) = 0 from rfl)]
    exact ⟨_, _, _, rfl, rfl, hI.th⟩
  rw [if_neg q2, decide_eq_false q2, if_neg (show ¬ bI (!false && !false) = 0 by decide), m_within_ok, bnq]
  by_cases q3 : y < 1
  · rw [if_pos q3, decide_eq_true q3, if_pos (show bI (!true && _) = 0 from rfl)]
    exact ⟨_, _, _, rfl, rfl, hI.th⟩
  rw [if_neg q3, decide_eq_false q3]
  by_cases q4 : (60 : Int32) < y
  · rw [if_pos q4, decide_eq_true q4, if_pos (show bI (!false && !true) = 0 from rfl)]
    exact ⟨_, _, _, rfl, rfl, hI.th⟩
  rw [if_neg q4, decide_eq_false q4, if_neg (show ¬ bI (!false && !false) = 0 by decide), m_within_ok, bnq]
  by_cases q5 : z < 0
  · rw [if_pos q5, decide_eq_true q5, if_pos (show bI (!true && _) = 0 from rfl)]
    exact ⟨_, _, _, rfl, rfl, hI.th⟩
  rw [if_neg q5, decide_eq_false q5]
  by_cases q6 : (2 : Int32) < z
  · rw [if_pos q6, decide_eq_true q6, if_pos (show bI (!false && !true) = 0 from rfl)]
    exact ⟨_, _, _, rfl, rfl, hI.th⟩
  rw [if_neg q6, decide_eq_false q6, if_neg (show ¬ bI (!false && !false) = 0 by decide)]
  obtain ⟨s, hs1, rfl⟩ := nI_of q1
  have h0 : ¬ y < 0 := fun q => q3 (Int32.lt_trans q (by decide))
  obtain ⟨t, ht1, rfl⟩ := nI_of h0
  have ht2 : t ≤ 60 := Decidable.byContradiction fun q => q4 (nI_lt (a := 60) (by omega) ht1)
  obtain ⟨w, hw1, rfl⟩ := nI_of q5
  have hw2 : w ≤ 2 := Decidable.byContradiction fun q => q6 (nI_lt (a := 2) (by omega) hw1)
  obtain ⟨S1, a1, a2, a3⟩ := sd_copy (u := 205) (u2 := 200) ⟨rfl, rfl⟩ hz.1 hn.1 (by decide) (by decide) (by decide) hz.2.2.2.2.2.1
  have f1 : Fr fYo So (wJ S1 15 0 (lN s)) := (a3.mo fun a k q => frXU_U (fYo_X q)).tr (Fr.wJ rfl)
  have f15 : Fr (fun a k => a == 15) S1 (wJ S1 15 0 (lN s)) := Fr.wJ rfl
  have g0 : Fr PR Sm (wJ (wI Sm 500 0 0) 500 86 (lN s)) := ((th0 Sm).mo fun a k q => PR_Q q).tr (Fr.wJ rfl)
  obtain ⟨R1, b1', b2, -, b4⟩ := m_copies_ok (v0 := 553) (v2 := 554) (a := 0) (b := 0) (n0 := 15) (n2 := 15) rfl rfl (by decide) (by decide) (by decide) (by decide) (by decide) (wJ (wI Sm 500 0 0) 500 86 (lN s))
  have g1 : Fr PR Sm R1 := g0.tr (b4.mo fun a k q => PR_4 q)
  have hS1 : SM Z R1 := fun k hk => (b4.i (by rfl)).trans ((rI_th Sm 553 k (by decide)).trans (hz.2.1 k hk))
  have e54 : ∀ k, k < 15 → rI R1 554 k = Z k := fun k hk => by
    have := b2 k hk
    rw [Nat.zero_add] at this
    rw [this]
    exact (rI_th Sm 553 k (by decide)).trans (hz.2.1 k hk)
  have hds : DS T W V L v (Z 2) 0 s Z (wJ S1 15 0 (lN s)) R1 := ⟨⟨(f1.q (by rfl)).trans hv, hT.fr f1 fun a k q => PO_Y (PO_ton q)⟩, a2.frw f15 (fun k => rfl) (fun k => rfl), hO.fr g1 fun a k q => PR_or q, hS1, hz.2.2, rfl, lo_0 _, fun i hi hh => absurd hh.1 (by rw [tb_z]; decide), hs1, rJ_wJ, (b4.j (by rfl)).trans rJ_wJ⟩
  obtain ⟨g', Z', So', Sm', c1', c2', c3', c4', c5', c6', c7'⟩ := yl_loop hw hL (nI w) (show t < 100 by omega) t 0 FU FU 0 s Z _ _ hds (Nat.zero_add _) (by unfold FU; omega) (by unfold FU; omega)
  obtain ⟨R9, e1, e2, -, e4⟩ := m_copies_ok (v0 := 554) (v2 := 553) (a := 0) (b := 0) (n0 := 15) (n2 := 15) rfl rfl (by decide) (by decide) (by decide) (by decide) (by decide) Sm'
  have e54' : ∀ k, k < 15 → rI Sm' 554 k = Z k := fun k hk => (c7'.i (show fYm 554 k = false from rfl)).trans (e54 k hk)
  have fo : Fr PO So So' := (f1.tr c6').mo fun a k q => PO_Y q
  have fm : Fr PR Sm R9 := (g1.tr (c7'.mo fun a k q => PR_Y q)).tr (e4.mo fun a k q => PR_S q)
  have hS9 : SM Z R9 := fun k hk => by
    have := e2 k hk
    rw [Nat.zero_add] at this
    rw [this, e54' k hk]
  have hinv : Inv So' R9 := Inv.rd2 ht0 hz hs hu hm hp hr fo fm hS9
  have ho200 : rI So' 200 4 = Z 4 := ((f1.tr c6').i (by rfl)).trans hz.1.2.2.2.2.1
  rw [a1, bnq]
  unfold o_dr_begin
  rw [nI_l hs1, ltq, bnq, (show o_years_61 FU (nI t) (nI w) 0 0 _ = _ from c1'), ltq (wJ (wI Sm 500 0 0) 500 86 (lN s)), (show m_copies 553 0 554 0 _ = _ from b1'), bnq, (show m_years_62 FU (nI t) (nI w) 0 0 R1 = _ from c2')]
  have ec : m_copies 554 0 553 0 Sm' = some ((), R9) := e1
  unfold o_years_124 o_years_167 m_years_83 m_years_122
  rw [if_neg g4_15, if_neg g4_15, if_neg g0_15, c4, c0, c4' 4 (by decide), c4' 0 (by decide), e54' 4 (by decide), c3'.2.1, c3'.2.2.2.2.1, ho200, j_bitCount (lo_mo c5'.1 hn.1), bnq, m_bits_ok (lo_mo c5'.1 hn.1), bnq, ec, bnq, bnq, bnq]
  rcases (show w = 0 ∨ w = 1 ∨ w = 2 by omega) with rfl | rfl | rfl
  · rw [if_pos (by decide), if_pos (by decide)]
    exact ⟨_, _, _, rfl, rfl, hinv⟩
  · rw [if_neg (by decide), if_pos (by decide), if_neg (by decide), if_pos (by decide)]
    exact ⟨_, _, _, rfl, rfl, hinv⟩
  · rw [if_neg (by decide), if_neg (by decide), if_neg (by decide), if_neg (by decide)]
    exact ⟨_, _, _, rfl, rfl, hinv⟩
end YEARS4
