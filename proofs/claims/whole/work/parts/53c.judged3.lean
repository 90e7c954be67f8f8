section JUDGED3
variable {T : St} {W V : Nat → List Nat} {L : Int32 → Int32 → Int32} {v d : Nat} {Z : Nat → Int32} {So So' Sm Sm' S : St}
theorem PR_4 {a k : Nat} (h : PR a k = false) : (a == 554) = false := by
  have h := PR_Q h
  unfold PQ at h
  simp at h ⊢
  omega
theorem judged_ok (h : Inv So Sm) (w : Int32) : Sim (o_judged w So) (m_judged w Sm) () := by
  have hI := h
  obtain ⟨T, W, V, L, v, Z, d, ht, hz, hs, hu, hm, hp, hr⟩ := h
  have ht0 := ht
  obtain ⟨hw, hO, hL, hB, hv, hT⟩ := ht
  have hn := hw.b
  unfold o_judged o_judged_9 m_judged
  rw [ltq (wI Sm 500 0 0), m_within_ok, bnq]
  rcases nI_or w 3 (by decide) with q | ⟨k, hk, rfl⟩ | ⟨k, hk, hk2, rfl⟩
  · rw [if_pos q, decide_eq_true q, if_pos (show bI (!true && _) = 0 from rfl)]
    exact ⟨_, _, _, rfl, rfl, hI.th⟩
  · rw [if_neg (nI_pos (by omega)), if_neg (show ¬ (2 : Int32) < nI k from nI_nlt (a := 2) (by omega) (by decide)), decide_eq_false (show ¬ nI k < 0 from nI_pos (by omega)), decide_eq_false (show ¬ (2 : Int32) < nI k from nI_nlt (a := 2) (by omega) (by decide)), if_neg (show ¬ bI (!false && !false) = 0 by decide), oq2 hv]
    obtain ⟨S3, a1, a2, a3⟩ := sd_begin (u := 205) hw hT (by decide) ⟨rfl, rfl⟩
    obtain ⟨S5, b1', b2, -, b4⟩ := m_copies_ok (v0 := 553) (v2 := 554) (a := 0) (b := 0) (n0 := 15) (n2 := 15) rfl rfl (by decide) (by decide) (by decide) (by decide) (by decide) (wI Sm 500 0 0)
    have g5 : Fr PR Sm S5 := ((th0 Sm).mo fun a k q => PR_Q q).tr (b4.mo fun a k q => PR_4 q)
    have hO5 : OM T S5 := hO.fr g5 fun a k q => PR_or q
    obtain ⟨S7, c1', c2', c3'⟩ := m_fresh_ok hw hO5
    have g7 : Fr PR Sm S7 := g5.tr (c3'.mo fun a k q => PR_S q)
    have hO7 : OM T S7 := hO.fr g7 fun a k q => PR_or q
    have f3 : Fr (frXU 205) So S3 := a3.mo fun a k q => frXU_U q
    obtain ⟨n, f, m, g, kn, th, s1, s2, s3, -⟩ := id hs
    have hn40 : n ≤ 40 := s1.2.2.2.2.2.1
    obtain ⟨x', y', Z', So', Sm', d1, d2, d3, d4, d5, d6⟩ := judged_loop (v := v) hw hL s2 hn40 (nI k) n 0 FU FU (freshZ T) S3 S7 (-1) (-1) (Nat.zero_add _) (by unfold FU; omega) (by unfold FU; omega) (Or.inl rfl) (Or.inl rfl) (WZ_fresh hw) ((f3.q (frXU_n (by decide) (by decide))).trans hv) (hT.fr f3 fun a k q => frXU_t (by decide) q) a2 hO7 c2' (s1.fr f3 (fun k => frXU_n (by decide) (by decide)) (fun k => frXU_n (by decide) (by decide))) (s3.fr g7 fun a k q => PR_of (by omega) (by omega) (by omega) (by omega))
    obtain ⟨S9, e1, e2, -, e4⟩ := m_copies_ok (v0 := 554) (v2 := 553) (a := 0) (b := 0) (n0 := 15) (n2 := 15) rfl rfl (by decide) (by decide) (by decide) (by decide) (by decide) Sm'
    have fo : Fr PO So So' := (f3.tr d5).mo fun a k q => PO_205 q
    have fm : Fr PR Sm S9 := (g7.tr (d6.mo fun a k q => PR_G q)).tr (e4.mo fun a k q => PR_S q)
    have hS9 : SM Z S9 := fun j hj => by
      have h1 := e2 j hj
      have h2 := b2 j hj
      rw [Nat.zero_add] at h1 h2
      rw [h1, d6.i (show fGo 554 j = false from rfl), c3'.i (by rfl), h2, rI_th _ _ _ (by decide)]
      exact hz.2.1 j hj
    have hinv : Inv So' S9 := Inv.rd2 ht0 hz hs hu hm hp hr fo fm hS9
    rw [a1, bnq, (show o_judged_30 FU (nI k) (-1) (-1) 0 S3 = _ from d1), (show m_copies 553 0 554 0 _ = _ from b1'), bnq, c1', bnq, (show m_judged_41 FU (nI k) (-1) (-1) 0 S7 = _ from d2)]
    unfold o_judged_112 o_judged_134 m_judged_88 m_judged_128
    rw [if_neg g4_15, c4, d4 4 (by decide), ltq, (show m_copies 554 0 553 0 Sm' = _ from e1), bnq, d3.2.2.2.2.1]
    rcases (show k = 0 ∨ k = 1 ∨ k = 2 by omega) with rfl | rfl | rfl
    · rw [if_neg (by decide), if_pos (by decide), if_pos (by decide)]
      exact ⟨_, _, _, rfl, rfl, hinv⟩
    · rw [if_neg (by decide), if_neg (by decide), if_neg (by decide), if_pos (by decide)]
      exact ⟨_, _, _, rfl, rfl, hinv⟩
    · rw [if_pos (by decide), if_neg (by decide), if_neg (by decide)]
      exact ⟨_, _, _, rfl, rfl, hinv⟩
  · rw [if_neg (nI_pos hk2), if_pos (show (2 : Int32) < nI k from nI_lt (a := 2) (by omega) hk2), decide_eq_true (show (2 : Int32) < nI k from nI_lt (a := 2) (by omega) hk2), if_pos (show bI (_ && !true) = 0 by rw [Bool.not_true, Bool.and_false]; rfl)]
    exact ⟨_, _, _, rfl, rfl, hI.th⟩
end JUDGED3
