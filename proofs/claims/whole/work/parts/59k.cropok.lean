/-! Crop: both sides answer alike. -/
section CROPOK
variable {T : St} {W V : Nat → List Nat} {L : Int32 → Int32 → Int32} {v n d : Nat} {Z : Nat → Int32} {So Sm S S' : St}
theorem fGa_O {a k : Nat} (h : PO a k = false) : fGa a k = false := by
  unfold PO frX at h
  unfold fGa
  simp at h ⊢
  omega
theorem fAp_O {a k : Nat} (h : PO a k = false) : fAp a k = false := by
  unfold PO frX at h
  unfold fAp frX
  simp at h ⊢
  omega
theorem fEx_O {a k : Nat} (h : PO a k = false) : fEx a k = false := by
  unfold PO frX at h
  unfold fEx
  simp at h ⊢
  omega
theorem fVr_Q {a k : Nat} (h : PQ a k = false) : (frV a k || a == 561) = false := by
  unfold PQ at h
  unfold frV
  simp at h ⊢
  omega
theorem frT_Q {a k : Nat} (h : PQ a k = false) : frT a k = false := by
  unfold PQ at h
  unfold frT
  simp at h ⊢
  omega
theorem mn3 : ∀ k, k < 4 → mn 3 (nI k) = nI k ∧ (if (0 : Int32) < nI k then nI k else 0) = nI k := by decide +kernel
theorem harvest_ok (hw : WF T W V) (hB : BL L) (hz : WZ T Z) (hT : TD v T W V L S) (hs : SD 200 Z (ct T 0) S) {k : Nat} (hk : k < 4) : ∃ S', o_se_harvest v 200 (nI k) S = some ((), S') ∧ AC (gTo T Z L (CL T W) k (Z 0) (Z 1)) S' ∧ Fr PO S S' := by
  have hn := hw.b
  obtain ⟨S2, a1, a2, a3⟩ := gather_ok hw hz hT hs
  have f2 : Fr PO S S2 := a3.mo fun a k q => fGa_O q
  have f9 : Fr PO S2 (wI (wI (wI S2 5 10 (nI k)) 5 11 (-1)) 5 12 (-1)) := ((Fr.wI rfl).tr (Fr.wI rfl)).tr (Fr.wI rfl)
  have hT9 : TD v T W V L (wI (wI (wI S2 5 10 (nI k)) 5 11 (-1)) 5 12 (-1)) := hT.fr (f2.tr f9) fun a k q => PO_ton q
  have hs9 := hs.frw (f2.tr f9) (fun k => rfl) (fun k => rfl)
  obtain ⟨S12, b1', b2, b3⟩ := appraise_ok (v := v) (L := L) (V := V) (S := wI (wI (wI S2 5 10 (nI k)) 5 11 (-1)) 5 12 (-1)) hw (Z 2) (n := k) (by omega) hT9 (by rw [rI_wI_k (by decide), rI_wI_k (by decide), rI_wI])
  have hE : EX T W V L v Z k S12 := by
    refine ⟨hT9.fr b3 fun a k q => fAp_n (by unfold ton at q; omega) (by unfold ton at q; omega), ⟨?_, a2.2.1, fun i hi => ?_⟩, b2, ?_⟩
    · rw [b3.i (fAp_n (by decide) (by decide)), rI_wI_k (by decide), rI_wI_k (by decide), rI_wI_k (by decide)]
      exact a2.1
    · rw [b3.i (fAp_n (by decide) (by decide)), b3.i (fAp_n (by decide) (by decide)), b3.i (fAp_n (by decide) (by decide)), rI_wI_a (by decide), rI_wI_a (by decide), rI_wI_a (by decide), rI_wI_a (by decide), rI_wI_a (by decide), rI_wI_a (by decide), rI_wI_a (by decide), rI_wI_a (by decide), rI_wI_a (by decide)]
      exact a2.2.2 i hi
    · rw [b3.i (fAp_n (by decide) (by decide)), rI_wI_k (by decide), rI_wI_k (by decide), rI_wI]
  have hA : AC (-1, -1) S12 := by
    refine ⟨?_, ?_⟩
    · rw [b3.i (fAp_n (by decide) (by decide)), rI_wI_k (by decide), rI_wI]
    · rw [b3.i (fAp_n (by decide) (by decide)), rI_wI]
  obtain ⟨S14, c1', c2', c3'⟩ := ex_top hw hB hz (show k ≤ 3 by omega) hE hA
  have hs12 := hs9.frw b3 (fun k => fAp_n (by decide) (by decide)) (fun k => fAp_n (by decide) (by decide))
  refine ⟨S14, ?_, c2', ((f2.tr f9).tr (b3.mo fun a k q => fAp_O q)).tr (c3'.mo fun a k q => fEx_O q)⟩
  have em : o_j_max 0 (nI k) S2 = some (nI k, S2) := by
    unfold o_j_max o_j_max_10
    have := (mn3 k hk).2
    by_cases q : (0 : Int32) < nI k
    · rw [if_pos q]
    · rw [if_neg q] at this ⊢
      rw [this]
  unfold o_se_harvest
  rw [a1, bnq, o_mn, bnq, (mn3 k hk).1, em, bnq, ltq (wI S2 5 10 _), ltq (wI (wI S2 5 10 _) 5 11 _), ltq (wI (wI (wI S2 5 10 _) 5 11 _) 5 12 _), if_pos hs.1.1, hs9.2.2.2.1, b1', bnq, hs12.2.1, hs12.2.2.1, c1', bnq]
theorem crop_ok (h : Inv So Sm) (a w : Int32) : Sim (o_crop a w So) (m_crop a w Sm) () := by
  have hI := h
  obtain ⟨T, W, V, L, v, Z, d, ht, hz, hs, hu, hm, hp, hr⟩ := h
  obtain ⟨hw, hO, hL, hB, hv, hT⟩ := ht
  have hn := hw.b
  unfold o_crop o_crop_18 m_crop m_crop_23
  rw [ltq (wI Sm 500 0 0), m_within_ok, bnq]
  rcases nI_or a 4 (by decide) with q | ⟨k, hk, rfl⟩ | ⟨k, hk, hk2, rfl⟩
  · rw [if_pos q, decide_eq_true q, if_pos (show bI (!true && _) = 0 from rfl)]
    exact ⟨_, _, _, rfl, rfl, hI.th⟩
  · rw [if_neg (nI_pos (by omega)), if_neg (show ¬ (3 : Int32) < nI k from nI_nlt (a := 3) (by omega) (by decide)), decide_eq_false (show ¬ nI k < 0 from nI_pos (by omega)), decide_eq_false (show ¬ (3 : Int32) < nI k from nI_nlt (a := 3) (by omega) (by decide)), if_neg (show ¬ bI (!false && !false) = 0 by decide), m_within_ok, bnq]
    rcases nI_or w 2 (by decide) with q | ⟨j, hj, rfl⟩ | ⟨j, hj, hj2, rfl⟩
    · rw [if_pos q, decide_eq_true q, if_pos (show bI (!true && _) = 0 from rfl)]
      exact ⟨_, _, _, rfl, rfl, hI.th⟩
    · rw [if_neg (nI_pos (by omega)), if_neg (show ¬ (1 : Int32) < nI j from nI_nlt (a := 1) (by omega) (by decide)), decide_eq_false (show ¬ nI j < 0 from nI_pos (by omega)), decide_eq_false (show ¬ (1 : Int32) < nI j from nI_nlt (a := 1) (by omega) (by decide)), if_neg (show ¬ bI (!false && !false) = 0 by decide), oq2 hv]
      obtain ⟨S14, o1, o2, o3⟩ := harvest_ok hw hB hz.2.2 hT hz.1 hk
      have fth := th0 Sm
      have hO1 : OM T (wI Sm 500 0 0) := hO.fr fth fun a k q => PQ_or q
      have hS1 : SM Z (wI Sm 500 0 0) := hz.2.1.fr fth fun k => rfl
      obtain ⟨M7, d1, d2, d3⟩ := m_laysCalls_ok hw hz.2.2 hO1 hS1
      have f7 : Fr PQ Sm M7 := fth.tr (d3.mo fun a k q => fLC_Q q)
      have hO7 : OM T M7 := hO.fr f7 fun a k q => PQ_or q
      have hS7 : SM Z M7 := hz.2.1.fr f7 fun k => rfl
      obtain ⟨M8, e1, e2, e3⟩ := wr_fill hw hL (nI k) (nI j) 30 0 FU M7 hO7 hS7 rfl (by unfold FU; omega) (fun dd a h1 h2 => absurd h2 (by omega))
      have f8 : Fr PQ Sm M8 := f7.tr (e3.mo fun a k q => fVr_Q q)
      have f9 : Fr PQ Sm (wI M8 500 79 (-1)) := f8.tr (Fr.wI rfl)
      have hO9 : OM T (wI M8 500 79 (-1)) := hO.fr f9 fun a k q => PQ_or q
      have hS9 : SM Z (wI M8 500 79 (-1)) := hz.2.1.fr f9 fun k => rfl
      have hl9 : LC T Z (CL T W) (wI M8 500 79 (-1)) := (d2.fr e3 (by rfl) fun k => ⟨rfl, rfl, rfl⟩).fr (P := fun a k => a == 500 && k == 79) (Fr.wI rfl) (by rfl) fun k => ⟨rfl, rfl, rfl⟩
      have hW9 : WR T Z L (wI M8 500 79 (-1)) := fun dd a h1 h2 => by
        rw [rI_wI_a (by decide)]
        exact e2 dd a h1 h2
      obtain ⟨M10, g1, g2, g3⟩ := mt_ok hw (CL_len hw) (r := k) (f := 8) (h := Z 0) (s := Z 1) (by omega) (by omega) hO9 hl9 hW9 rI_wI
      have f10 : Fr PQ Sm M10 := f9.tr (g3.mo fun a k q => frT_Q q)
      rw [o1, bnq, d1, bnq, (show m_crop_32 FU (nI k) (nI j) 0 M7 = _ from e1)]
      unfold m_crop_84 o_crop_61 m_crop_121
      rw [ltq (wI M8 500 79 (-1)), if_neg g0_15, if_neg g1_15, c0, c1, hS9 0 (by decide), hS9 1 (by decide), g1, bnq, o2.1, o2.2, g2]
      have hinv : Inv S14 M10 := hI.rd o3 f10
      rcases (show j = 0 ∨ j = 1 by omega) with rfl | rfl
      · rw [if_pos (by decide), if_pos (by decide)]
        exact ⟨_, _, _, rfl, rfl, hinv⟩
      · rw [if_neg (by decide), if_neg (by decide)]
        exact ⟨_, _, _, rfl, rfl, hinv⟩
    · rw [if_neg (nI_pos hj2), if_pos (show (1 : Int32) < nI j from nI_lt (a := 1) (by omega) hj2), decide_eq_true (show (1 : Int32) < nI j from nI_lt (a := 1) (by omega) hj2), if_pos (show bI (_ && !true) = 0 by rw [Bool.not_true, Bool.and_false]; rfl)]
      exact ⟨_, _, _, rfl, rfl, hI.th⟩
  · rw [if_neg (nI_pos hk2), if_pos (show (3 : Int32) < nI k from nI_lt (a := 3) (by omega) hk2), decide_eq_true (show (3 : Int32) < nI k from nI_lt (a := 3) (by omega) hk2), if_pos (show bI (_ && !true) = 0 by rw [Bool.not_true, Bool.and_false]; rfl)]
    exact ⟨_, _, _, rfl, rfl, hI.th⟩
end CROPOK
