section BANNS4
variable {T : St} {W V : Nat → List Nat} {L : Int32 → Int32 → Int32} {v d u a : Nat} {Z Z1 Z2 : Nat → Int32} {So So' Sm Sm' S : St}
def dl (n c : Nat) : List Nat := (List.range n).map (dgt n c)
theorem dl_len (n c : Nat) : (dl n c).length = n := by
  unfold dl
  rw [List.length_map, List.length_range]
theorem dl_get {n c i : Nat} (h : i < n) : (dl n c).getD i 0 = dgt n c i := by
  unfold dl
  simp [List.getD_eq_getElem?_getD, h]
theorem vsl_dl (T : St) (Z : Nat → Int32) (L : Int32 → Int32 → Int32) (l w n c : Nat) : vsl T Z L l w (dl n c) = bfo T Z L l w (dgt n c) n 0 (Z 0, Z 1, 0) := by
  unfold vsl
  rw [dl_len]
  exact bfo_ext T Z L l w n 0 _ fun q h1 h2 => dl_get (by omega)
theorem vsl_nn (hw : WF T W V) (hB : ∀ (k : Nat) (d : Int32), k < 100 → ∃ j, j < 1000 ∧ L (nI k) d = nI j) (l w : Nat) {n : Nat} (hn : n < 5) (c : Nat) : ¬ (vsl T Z L l w (dl n c)).2.2 < 0 := by
  rw [vsl_dl]
  obtain ⟨m, h1, h2⟩ := bfo_nn (Z := Z) hw hB l w (dgt n c) n 0 (Z 0, Z 1, 0) 0 ⟨0, Nat.le_refl _, rfl⟩
  rw [h2]
  exact nI_pos (by omega)
/-- what the class keeps, against what is kept of the search -/
def CR (n : Nat) (β : Int32 × List Nat) (x y : Int32) : Prop := (x = -1 ∧ β.1 < 0) ∨ ∃ c, c < 256 ∧ x = nI c ∧ y = β.1 ∧ ¬ β.1 < 0 ∧ β.2 = dl n c
theorem sh_all : ∀ n, n < 5 → ((1 : Int32) <<< (((2 : Int32) * nI n) &&& 31)) = nI (4 ^ n) ∧ 4 ^ n ≤ 256 := by decide +kernel
theorem bn_loop (hw : WF T W V) (hz : WZ T Z) (hB : ∀ (k : Nat) (d : Int32), k < 100 → ∃ j, j < 1000 ∧ L (nI k) d = nI j) {l w : Nat} (hl : l < 12) (hww : w < 7) (t : Int32) : ∀ (j c m : Nat) (β : Int32 × List Nat) (x y : Int32) (So : St), c + j = 4 ^ ct T 5 → j < m → CR (ct T 5) β x y → rQ So 1 9 = some v → TD v T W V L So → SD 200 Z (ct T 0) So → ∃ x' y' So', o_banns_46 m (nI l) (nI w) t (nI (ct T 5)) x y (nI c) So = o_banns_107 t (nI (ct T 5)) x' y' So' ∧ CR (ct T 5) ((((List.range' c j).filter fun c => iso (ct T 5) c (ct T 5) 0 0).map (dl (ct T 5))).foldl (cmS T Z L l w) β) x' y' ∧ Fr (frXU 205) So So'
  | 0, c, m, β, x, y, So, hc, hm, hr, hv, hT, hs => by
    have hn := hw.b
    have h4 := sh_all (ct T 5) (by omega)
    obtain ⟨m, rfl, hm⟩ := fuel hm
    rw [Nat.add_zero] at hc
    refine ⟨x, y, So, ?_, hr, Fr.rf⟩
    rw [o_banns_46, h4.1, if_neg (nI_nlt (by omega) (by omega))]
  | j + 1, c, m, β, x, y, So, hc, hm, hr, hv, hT, hs => by
    have hn := hw.b
    have h4 := sh_all (ct T 5) (by omega)
    obtain ⟨m, rfl, hm⟩ := fuel hm
    have ei : o_isOrder (nI c) (nI (ct T 5)) So = some (bI (iso (ct T 5) c (ct T 5) 0 0), So) := o_iso (by omega) (by omega) So (ct T 5) 0 FU 0 (Nat.zero_add _) (by unfold FU; omega)
    rw [o_banns_46, h4.1, if_pos (nI_lt (by omega) (by omega)), ei, bnq, List.range'_succ, List.filter_cons]
    unfold o_banns_93 o_banns_101
    cases hi : iso (ct T 5) c (ct T 5) 0 0 with
    | false =>
      obtain ⟨x', y', So', e1, e2, e3⟩ := bn_loop hw hz hB hl hww t j (c + 1) m β x y So (by omega) (by omega) hr hv hT hs
      refine ⟨x', y', So', ?_, by rw [if_neg Bool.false_ne_true]; exact e2, e3⟩
      rw [if_pos bF, ltq, nI_1]
      exact e1
    | true =>
      obtain ⟨S1, a1, a2⟩ := o_lost_ok (v := v) (L := L) hw hz hl hww (show c < 256 by omega) (iso_dg (ct T 5) (by omega) c (by omega) hi) hv hT hs
      rw [← vsl_dl] at a1
      have hnn := vsl_nn (Z := Z) hw hB l w (show ct T 5 < 5 by omega) c
      have go : ∀ (β' : Int32 × List Nat) (x' y' : Int32), CR (ct T 5) β' x' y' → ∃ x'' y'' So', o_banns_46 m (nI l) (nI w) t (nI (ct T 5)) x' y' (nI (c + 1)) S1 = o_banns_107 t (nI (ct T 5)) x'' y'' So' ∧ CR (ct T 5) ((((List.range' (c + 1) j).filter fun c => iso (ct T 5) c (ct T 5) 0 0).map (dl (ct T 5))).foldl (cmS T Z L l w) β') x'' y'' ∧ Fr (frXU 205) So So' := by
        intro β' x' y' hr'
        obtain ⟨x'', y'', So', e1, e2, e3⟩ := bn_loop hw hz hB hl hww t j (c + 1) m β' x' y' S1 (by omega) (by omega) hr' ((a2.q (frXU_n (by decide) (by decide))).trans hv) (hT.fr a2 fun a k q => frXU_t (by decide) q) (hs.frw a2 (fun k => frXU_n (by decide) (by decide)) (fun k => frXU_n (by decide) (by decide)))
        exact ⟨x'', y'', So', e1, e2, a2.tr e3⟩
      have hnew : CR (ct T 5) ((vsl T Z L l w (dl (ct T 5) c)).2.2, dl (ct T 5) c) (nI c) (vsl T Z L l w (dl (ct T 5) c)).2.2 := Or.inr ⟨c, by omega, rfl, rfl, hnn, rfl⟩
      rw [if_neg bT, a1, bnq, ltq, nI_1, if_pos rfl, List.map_cons, List.foldl_cons]
      rcases hr with ⟨rfl, hr⟩ | ⟨c0', hc0, rfl, rfl, h3, h4'⟩
      · have es : cmS T Z L l w β (dl (ct T 5) c) = ((vsl T Z L l w (dl (ct T 5) c)).2.2, dl (ct T 5) c) := by
          unfold cmS
          rw [decide_eq_true hr, Bool.true_or, cond_true]
        rw [if_pos rfl, es]
        exact go _ _ _ hnew
      · rw [if_neg (nI_m1 (by omega))]
        by_cases q : (vsl T Z L l w (dl (ct T 5) c)).2.2 < β.1
        · have es : cmS T Z L l w β (dl (ct T 5) c) = ((vsl T Z L l w (dl (ct T 5) c)).2.2, dl (ct T 5) c) := by
            unfold cmS
            rw [decide_eq_true q, Bool.or_true, cond_true]
          rw [if_pos q, es]
          exact go _ _ _ hnew
        · have es : cmS T Z L l w β (dl (ct T 5) c) = β := by
            unfold cmS
            rw [decide_eq_false q, decide_eq_false h3, Bool.or_false, cond_false]
          rw [if_neg q, es]
          exact go _ _ _ (Or.inr ⟨c0', hc0, rfl, rfl, h3, h4'⟩)
theorem fold_nn {l w n : Nat} (h : ∀ c, ¬ (vsl T Z L l w (dl n c)).2.2 < 0) : ∀ (cs : List Nat) (β : Int32 × List Nat), cs ≠ [] ∨ ¬ β.1 < 0 → ¬ ((cs.map (dl n)).foldl (cmS T Z L l w) β).1 < 0
  | [], β, hh => by
    rcases hh with hh | hh
    · exact absurd rfl hh
    · exact hh
  | c :: cs, β, _ => by
    rw [List.map_cons, List.foldl_cons]
    refine fold_nn h cs _ (Or.inr ?_)
    unfold cmS
    by_cases q : β.1 < 0
    · rw [decide_eq_true q, Bool.true_or, cond_true]
      exact h c
    · by_cases q2 : (vsl T Z L l w (dl n c)).2.2 < β.1
      · rw [decide_eq_true q2, Bool.or_true, cond_true]
        exact h c
      · rw [decide_eq_false q, decide_eq_false q2, Bool.or_false, cond_false]
        exact q
theorem cs_ne : ∀ n, n < 5 → 0 < n → (List.range (4 ^ n)).filter (fun c => iso n c n 0 0) ≠ [] := by decide +kernel
theorem fRd_Q {a k : Nat} (h : PQ a k = false) : fRd a k = false := by
  unfold fRd
  rw [frV_Q h, frH_Q h]
  unfold PQ at h
  simp at h ⊢
  omega
theorem banns_ok (h : Inv So Sm) (x y z : Int32) : Sim (o_banns x y z So) (m_banns x y z Sm) () := by
  have hI := h
  obtain ⟨T, W, V, L, v, Z, d, ht, hz, hs, hu, hm, hp, hr⟩ := h
  obtain ⟨hw, hO, hL, hB, hv, hT⟩ := ht
  have hn := hw.b
  have hO1 : OM T (wI Sm 500 0 0) := hO.fr (th0 Sm) fun a k q => PQ_or q
  unfold o_banns o_banns_35 m_banns m_banns_36
  rw [oq2 hv, if_pos hT.k, if_pos hT.bn.k, tb_size hT.bn, bnq, o_isVoice_ok, bnq, ltq (wI Sm 500 0 0), m_isVoice_ok, bnq, if_neg g5_12, if_neg g5_12, c5, hO1.n (by decide), hw.n (by decide), m_within_ok, bnq]
  by_cases q0 : ct T 5 = 0
  · rw [if_pos (show nI (ct T 5) = 0 by rw [q0]; rfl), if_pos (show nI (ct T 5) = 0 by rw [q0]; rfl), ifs_same]
    exact ⟨_, _, _, rfl, rfl, hI.th⟩
  rw [if_neg (nI_ne0 (by omega) (by omega)), if_neg (nI_ne0 (by omega) (by omega))]
  cases hvc : vcB x y with
  | false =>
    rw [if_pos bF, if_pos bF]
    exact ⟨_, _, _, rfl, rfl, hI.th⟩
  | true =>
    obtain ⟨l, w, hl, hww, rfl, rfl⟩ := vc_of hvc
    rw [if_neg bT, if_neg bT]
    by_cases q1 : z < 0
    · rw [if_pos q1, decide_eq_true q1, if_pos (show bI (!true && _) = 0 from rfl)]
      exact ⟨_, _, _, rfl, rfl, hI.th⟩
    rw [if_neg q1, decide_eq_false q1]
    by_cases q2 : nI (ct T 5) < z
    · rw [if_pos q2, decide_eq_true q2, if_pos (show bI (!false && !true) = 0 from rfl)]
      exact ⟨_, _, _, rfl, rfl, hI.th⟩
    rw [if_neg q2, decide_eq_false q2, if_neg (show ¬ bI (!false && !false) = 0 by decide)]
    obtain ⟨t, ht1, rfl⟩ := nI_of q1
    have ht2 : t ≤ ct T 5 := Decidable.byContradiction fun q => q2 (nI_lt (by omega) ht1)
    have h4 := sh_all (ct T 5) (by omega)
    obtain ⟨x', y', So', a1, a2, a3⟩ := bn_loop (v := v) (V := V) (W := W) hw hz.2.2 hB hl hww (nI t) (4 ^ ct T 5) 0 FU (-1, []) (-1) 0 So (Nat.zero_add _) (by unfold FU; omega) (Or.inl ⟨rfl, by decide⟩) hv hT hz.1
    have g1 : Fr PQ Sm (wI (wI Sm 500 0 0) 500 85 (-1)) := (th0 Sm).tr (Fr.wI rfl)
    have hS1 : SM Z (wI (wI Sm 500 0 0) 500 85 (-1)) := hz.2.1.fr g1 fun k => rfl
    obtain ⟨Sm', b1', b2, -, b4⟩ := mr_ok (L := L) hw hL hz.2.2 hl hww (by omega) (ct T 5) 8 [] 0 (-1, []) (wI (wI Sm 500 0 0) 500 85 (-1)) (by omega) (by show 0 + ct T 5 = ct T 5; omega) (fun b hb => by rw [tb_z]; rfl) (fun q hq => absurd hq (Nat.not_lt_zero _)) (hO.fr g1 fun a k q => PQ_or q) hS1 ⟨rI_wI, fun q => absurd (show (-1 : Int32) < 0 by decide) q⟩
    have hinv : Inv So' Sm' := hI.rd (a3.mo fun a k q => PO_205 q) (g1.tr (b4.mo fun a k q => fRd_Q q))
    have eenu : ((List.range' 0 (4 ^ ct T 5)).filter fun c => iso (ct T 5) c (ct T 5) 0 0).map (dl (ct T 5)) = enu (ct T 5) (ct T 5) [] := by
      rw [← List.range_eq_range']
      exact enu_all (ct T 5) (by omega) (by omega)
    have hnn := fold_nn (n := ct T 5) (l := l) (w := w) (vsl_nn (Z := Z) hw hB l w (show ct T 5 < 5 by omega)) ((List.range' 0 (4 ^ ct T 5)).filter fun c => iso (ct T 5) c (ct T 5) 0 0) (-1, []) (Or.inl (by rw [← List.range_eq_range']; exact cs_ne (ct T 5) (by omega) (by omega)))
    rw [eenu] at a2 hnn
    generalize (enu (ct T 5) (ct T 5) []).foldl (cmS T Z L l w) (-1, []) = β at a2 b2 hnn
    rcases a2 with ⟨-, q⟩ | ⟨c, hc, rfl, rfl, -, r4⟩
    · exact absurd q hnn
    · have e9 : (wI (wI Sm 500 0 0) 500 85 (-1)) = (wI (wI Sm 500 0 0) 500 85 (-1)) := rfl
      rw [(show o_banns_46 FU (nI l) (nI w) (nI t) (nI (ct T 5)) (-1) 0 0 So = _ from a1), ltq, if_neg g0_15, if_neg g1_15, c0, c1, hS1 0 (by decide), hS1 1 (by decide), (show m_reads0 8 0 0 (Z 0) (Z 1) 0 (nI l) (nI w) _ = _ from b1'), bnq]
      unfold o_banns_107 o_banns_126 m_banns_83
      by_cases qt : t = 0
      · subst qt
        rw [if_pos (show nI 0 = 0 from rfl), if_pos (show nI 0 = 0 from rfl), b2.1]
        exact ⟨_, _, _, rfl, rfl, hinv⟩
      · obtain ⟨t, rfl⟩ : ∃ t', t = t' + 1 := ⟨t - 1, by omega⟩
        rw [if_neg (nI_ne0 (by omega) (by omega)), if_neg (nI_ne0 (by omega) (by omega)), show nI (t + 1) - 1 = nI t from nI_pred t, o_at (by omega) (by omega) hc, bnq, if_neg (nI_in (by omega) (by omega)), nI_clamp (by omega), b2.2 hnn t (by omega), r4, dl_get (by omega)]
        exact ⟨_, _, _, rfl, rfl, hinv⟩
end BANNS4
