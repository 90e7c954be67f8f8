/-! Public methods that change what stands. -/
def PC : Nat → Nat → Bool := fun a k => PU a k || frX a k || frU 200 a k
def QC : Nat → Nat → Bool := fun a k => QU a k || PQ a k || a == 553
theorem PC_U {a k : Nat} (h : PC a k = false) : PU a k = false := (Bool.or_eq_false_iff.mp (Bool.or_eq_false_iff.mp h).1).1
theorem PC_X {a k : Nat} (h : PC a k = false) : frX a k = false := (Bool.or_eq_false_iff.mp (Bool.or_eq_false_iff.mp h).1).2
theorem PC_2 {a k : Nat} (h : PC a k = false) : frU 200 a k = false := (Bool.or_eq_false_iff.mp h).2
theorem PC_XU {a k : Nat} (h : PC a k = false) : frXU 200 a k = false := by
  unfold frXU
  rw [PC_X h, PC_2 h]
  rfl
theorem QC_U {a k : Nat} (h : QC a k = false) : QU a k = false := (Bool.or_eq_false_iff.mp (Bool.or_eq_false_iff.mp h).1).1
theorem QC_Q {a k : Nat} (h : QC a k = false) : PQ a k = false := (Bool.or_eq_false_iff.mp (Bool.or_eq_false_iff.mp h).1).2
theorem QC_S {a k : Nat} (h : QC a k = false) : (a == 553) = false := (Bool.or_eq_false_iff.mp h).2
theorem frH_Q {a k : Nat} (q : PQ a k = false) : frH a k = false := by
  unfold PQ at q
  unfold frH
  by_cases h5 : a = 500
  · subst h5
    simp at q
    by_cases h1 : k = 1
    · subst h1; rfl
    · have := q h1
      subst this
      rfl
  · have : (a == 500) = false := by simpa using h5
    rw [this]
    rfl
theorem QC_C {a k : Nat} (h : QC a k = false) : frC a k = false := by
  unfold frC
  rw [frV_Q (QC_Q h), frH_Q (QC_Q h), QC_S h]
  rfl
theorem QC_FS {a k : Nat} (h : QC a k = false) : frS a k = false := by
  unfold frS
  rw [frV_Q (QC_Q h), QC_S h]
  rfl
theorem PC_of {a k : Nat} (h : a ≠ 1 ∨ k ≠ 11) (h2 : a ≠ 19) (h3 : ¬ (206 ≤ a ∧ a ≤ 221)) (h4 : ¬ (236 ≤ a ∧ a ≤ 251)) (h5 : ¬ (30 ≤ a ∧ a ≤ 33)) (h6 : ¬ (50 ≤ a ∧ a ≤ 57)) (h7 : a ≠ 200 ∧ a ≠ 230) : PC a k = false := by
  unfold PC
  rw [PU_of h h2 h3 h4, frU_n h7.1 h7.2]
  unfold frX
  simp
  omega
theorem QC_of {a k : Nat} (h : ¬ (524 ≤ a ∧ a ≤ 535)) (h2 : ¬ (540 ≤ a ∧ a ≤ 542)) (h3 : a ≠ 554 ∧ a < 558 ∧ a ≠ 553 ∧ a ≠ 556) (h4 : a ≠ 500 ∨ k = 1) : QC a k = false := by
  unfold QC
  rw [QU_of (by omega) (by omega), PQ_of h h2 (by omega) (by omega)]
  simp
  omega
section PUB2
variable {T : St} {W V : Nat → List Nat} {L : Int32 → Int32 → Int32} {v d d' : Nat} {Z Z' : Nat → Int32} {So So' Sm Sm' : St}
theorem Told.mv (ht : Told T W V L v So Sm) (fo : Fr PC So So') (fm : Fr QC Sm Sm') : Told T W V L v So' Sm' := ht.fr fo fm (fun a k q => by unfold ton at q; exact PC_of (by omega) (by omega) (by omega) (by omega) (by omega) (by omega) (by omega)) rfl (fun a k q => QC_of (by omega) (by omega) (by omega) (by omega))
theorem Inv.mv (ht : Told T W V L v So Sm) (hs : Slt T W 0 So Sm) (hm : Mks T W So Sm) (hp : Tap So Sm) (hr : Rst v So) (fo : Fr PC So So') (fm : Fr QC Sm Sm') (hz : Now T Z' So' Sm') (hu : Und T d' So' Sm') : Inv So' Sm' :=
  ⟨T, W, V, L, v, Z', d', ht.mv fo fm, hz,
    hs.fr fo fm (fun k => ⟨rfl, rfl, rfl, rfl, rfl⟩) (fun a k q => QC_of (by omega) (by omega) (by omega) (by omega)), hu,
    hm.fr fo fm rfl (fun a k q => by unfold mko at q; exact PC_of (by omega) (by omega) (by omega) (by omega) (by omega) (by omega) (by omega)) (fun a k q => QC_of (by omega) (by omega) (by omega) (by omega)),
    hp.fr fo fm rfl (fun k => rfl) rfl (fun k => rfl),
    hr.fr ht.2.2.2.2.2.1 fo (fun a k q => by unfold ton at q; exact PC_of (by omega) (by omega) (by omega) (by omega) (by omega) (by omega) (by omega)) ⟨rfl, fun k => ⟨rfl, rfl, rfl⟩, rfl, rfl⟩⟩
theorem Und.mv2 (hu : Und T d So Sm) (fo : Fr (frXU 200) So So') {Q : Nat → Nat → Bool} (fm : Fr Q Sm Sm') (h69 : Q 500 69 = false) (hq : ∀ k, Q 556 k = false) : Und T d So' Sm' := hu.fr fo fm (fun a k q => by
  unfold frXU
  rw [frU_n (by omega) (by omega)]
  unfold frX
  simp
  omega) h69 hq
theorem call_ok (h : Inv So Sm) (p k : Int32) : Sim (o_call p k So) (m_call p k Sm) () := by
  have hI := h
  obtain ⟨T, W, V, L, v, Z, d, ht, hz, hs, hu, hm, hp, hr⟩ := h
  have ht0 := ht
  obtain ⟨hw, hO, hL, hB, hv, hT⟩ := ht
  have hn := hw.b
  have t0 : Fr QC Sm (wI Sm 500 0 0) := Fr.wI rfl
  have ht1 : Told T W V L v So (wI Sm 500 0 0) := ht0.mv Fr.rf t0
  have hO1 := ht1.2.1
  have hz1 : Now T Z So (wI Sm 500 0 0) := hz.fr (P := PO) Fr.rf (th0 Sm) (fun k => ⟨rfl, rfl⟩) (fun k => rfl)
  have hu1 : Und T d So (wI Sm 500 0 0) := hu.fr (P := PO) Fr.rf (th0 Sm) (fun a k q => PO_of (by omega) (by omega) (by omega) (by omega) (by omega) (by omega) (by omega)) rfl (fun k => rfl)
  unfold o_call m_call m_call_30
  rw [oq2 hv, if_pos hT.k, to_canSay hw hT, bnq, ltq, m_isPerson_ok hw hO1, bnq]
  unfold cayB
  cases hip : inN p (ct T 2) with
  | false =>
    rw [if_pos bF, Bool.false_and, if_pos bF]
    exact ⟨_, _, _, rfl, rfl, hI.th⟩
  | true =>
    rw [if_neg bT, m_isSound_ok hw hO1, bnq, Bool.true_and]
    cases hik : inN k (ct T 1) with
    | false =>
      rw [if_pos bF, Bool.false_and, if_pos bF]
      exact ⟨_, _, _, rfl, rfl, hI.th⟩
    | true =>
      obtain ⟨i, hi, rfl⟩ := inN_of hip (by omega)
      obtain ⟨j, hj, rfl⟩ := inN_of hik (by omega)
      rw [if_neg bT, m_isSaid_ok hw hO1 hi hj, bnq, nI_clamp (by omega), nI_clamp (by omega), Bool.true_and]
      cases sayB T W i j with
      | false =>
        rw [if_pos bF, if_pos bF]
        exact ⟨_, _, _, rfl, rfl, hI.th⟩
      | true =>
        have hpe := hw.pe hi
        obtain ⟨So1, Sm1, d1, k1, k2, k3, k4, k5⟩ := keep_ok hn.1 hz1 hu1
        have f1 : Fr PC So So1 := k4.mo fun a k q => PC_U q
        have g1 : Fr QC Sm Sm1 := t0.tr (k5.mo fun a k q => QC_U q)
        have ht2 := ht0.mv f1 g1
        have hT2 := ht2.2.2.2.2.2
        have hv2 := ht2.2.2.2.2.1
        have hz2 : Now T Z So1 Sm1 := hz1.fr k4 k5 (fun k => ⟨rfl, rfl⟩) (fun k => rfl)
        obtain ⟨So2, a1, a2, a3⟩ := sd_cry hw hz2.2.2 hT2 (Nat.le_refl _) hz2.1 hj hpe.1.2 hpe.2.1.2
        obtain ⟨Sm2, b1', b2, b3⟩ := m_calls_ok hw hL hz2.2.2 ht2.2.1 hz2.2.1 hj hpe.1.2 hpe.2.1.2
        refine ⟨cryF T Z j (vN T 512 i) (vN T 513 i), So2, Sm2, ?_, ?_, Inv.mv ht0 hs hm hp hr (f1.tr (a3.mo fun a k q => PC_XU q)) (g1.tr (b3.mo fun a k q => QC_C q)) ⟨a2, b2, WZ_cry hz2.2.2 _ _ _⟩ (k3.mv2 a3 b3 rfl (fun k => rfl))⟩
        · rw [if_neg bT, k1, bnq, oq2 hv2, oq2 hv2, if_pos hT2.k, to_laneOf hT2 hi, bnq, oq2 hv2, if_pos hT2.k, to_loudOf hT2 hi, bnq, hpe.1.1, hpe.2.1.1, a1, bnq]
        · rw [if_neg bT, k2, bnq, if_neg (nI_inC (by omega) (by omega)), if_neg (nI_inC (by omega) (by omega)), ht2.2.1.la (by omega), ht2.2.1.lo (by omega), hpe.1.1, hpe.2.1.1, b1', bnq]
theorem pick_ok (h : Inv So Sm) (x : Int32) : Sim (o_pick x So) (m_pick x Sm) () := by
  have hI := h
  obtain ⟨T, W, V, L, v, Z, d, ht, hz, hs, hu, hm, hp, hr⟩ := h
  have ht0 := ht
  obtain ⟨hw, hO, hL, hB, hv, hT⟩ := ht
  have hn := hw.b
  have t0 : Fr QC Sm (wI Sm 500 0 0) := Fr.wI rfl
  have ht1 : Told T W V L v So (wI Sm 500 0 0) := ht0.mv Fr.rf t0
  have hO1 := ht1.2.1
  have hz1 : Now T Z So (wI Sm 500 0 0) := hz.fr (P := PO) Fr.rf (th0 Sm) (fun k => ⟨rfl, rfl⟩) (fun k => rfl)
  have hu1 : Und T d So (wI Sm 500 0 0) := hu.fr (P := PO) Fr.rf (th0 Sm) (fun a k q => PO_of (by omega) (by omega) (by omega) (by omega) (by omega) (by omega) (by omega)) rfl (fun k => rfl)
  unfold o_pick m_pick m_pick_21
  rw [sd_canTake hz.2.2 hz.1 hn.1, bnq, ltq, m_isApple_ok hw hO1, bnq]
  cases hx : inN x (ct T 0) with
  | false =>
    have : tkB T Z x = false := by
      unfold tkB hgB
      rw [hx]
      rfl
    rw [this, if_pos bF, if_pos bF]
    exact ⟨_, _, _, rfl, rfl, hI.th⟩
  | true =>
    obtain ⟨i, hi, rfl⟩ := inN_of hx (by omega)
    rw [if_neg bT, m_canPick_ok hz1.2.1 hi hn.1, bnq]
    cases htk : tkB T Z (nI i) with
    | false =>
      rw [if_pos bF, if_pos bF]
      exact ⟨_, _, _, rfl, rfl, hI.th⟩
    | true =>
      obtain ⟨So1, Sm1, d1, k1, k2, k3, k4, k5⟩ := keep_ok hn.1 hz1 hu1
      have f1 : Fr PC So So1 := k4.mo fun a k q => PC_U q
      have g1 : Fr QC Sm Sm1 := t0.tr (k5.mo fun a k q => QC_U q)
      have ht2 := ht0.mv f1 g1
      have hT2 := ht2.2.2.2.2.2
      have hv2 := ht2.2.2.2.2.1
      have hz2 : Now T Z So1 Sm1 := hz1.fr k4 k5 (fun k => ⟨rfl, rfl⟩) (fun k => rfl)
      obtain ⟨So2, a1, a2, a3⟩ := sd_take hw hz2.2.2 hT2 (Nat.le_refl _) hz2.1 hi htk
      obtain ⟨Sm2, b1', b2, b3⟩ := m_picks_ok hw hL ht2.2.1 hz2.2.1 hi
      refine ⟨vlA T L i (Z 2), So2, Sm2, ?_, ?_, Inv.mv ht0 hs hm hp hr (f1.tr (a3.mo fun a k q => PC_XU q)) (g1.tr (b3.mo fun a k q => QC_FS q)) ⟨a2, b2, WZ_take hz2.2.2 _⟩ (k3.mv2 a3 b3 rfl (fun k => rfl))⟩
      · rw [if_neg bT, k1, bnq, oq2 hv2, a1, bnq]
      · rw [if_neg bT, k2, bnq, b1', bnq]
theorem christen_ok (h : Inv So Sm) (x y : Int32) : Sim (o_christen x y So) (m_christen x y Sm) () := by
  have hI := h
  obtain ⟨T, W, V, L, v, Z, d, ht, hz, hs, hu, hm, hp, hr⟩ := h
  have ht0 := ht
  obtain ⟨hw, hO, hL, hB, hv, hT⟩ := ht
  have hn := hw.b
  have t0 : Fr QC Sm (wI Sm 500 0 0) := Fr.wI rfl
  have ht1 : Told T W V L v So (wI Sm 500 0 0) := ht0.mv Fr.rf t0
  have hO1 := ht1.2.1
  have hz1 : Now T Z So (wI Sm 500 0 0) := hz.fr (P := PO) Fr.rf (th0 Sm) (fun k => ⟨rfl, rfl⟩) (fun k => rfl)
  have hu1 : Und T d So (wI Sm 500 0 0) := hu.fr (P := PO) Fr.rf (th0 Sm) (fun a k q => PO_of (by omega) (by omega) (by omega) (by omega) (by omega) (by omega) (by omega)) rfl (fun k => rfl)
  unfold o_christen o_christen_39 m_christen m_christen_65
  rw [oq2 hv, if_pos hT.k, to_hasApple hT, bnq, ltq, m_isApple_ok hw hO1, bnq]
  cases hx : inN x (ct T 0) with
  | false =>
    rw [if_pos bF, if_pos bF]
    unfold o_christen_40 o_christen_70
    rw [if_pos rfl]
    exact ⟨_, _, _, rfl, rfl, hI.th⟩
  | true =>
    obtain ⟨i, hi, rfl⟩ := inN_of hx (by omega)
    have eun : ((unM T (Z 2) >>> (nI i &&& 31)) &&& (1 : Int32) = 0) ↔ ¬ Z 2 < rI T 509 i := by
      rw [sr_ne _ (by omega)]
      unfold unM
      rw [tb_mk _ _ _ (by omega) (by omega), decide_eq_true hi, Bool.true_and, decide_eq_false_iff_not]
    rw [if_neg bT, if_neg bT, oq2 hv, if_pos hT.k, hz.1.2.2.2.1, to_unripe hw hT, bnq, m_isSound_ok hw hO1, bnq]
    unfold o_christen_40 o_christen_70 o_christen_102
    rw [if_pos rfl]
    have key : Sim (if (1 : Int32) = 0 then some ((0 : Int32), So) else oq (rQ So 1 9) none fun o1 => if KO.1 o1 = (0, 10) then bn (o_to_hasSound o1 y So) fun r3 S4 => if r3 = 0 then some ((0 : Int32), S4) else bn (o_sd_hangs 200 (nI i) S4) fun r5 S6 => if r5 = 0 then some ((0 : Int32), S6) else bn (o_sd_soundOf 200 (nI i) S6) fun r7 S8 => if r7 = y then some ((0 : Int32), S8) else bn (o_sd_hasOther 200 (nI i) y S8) fun r9 S10 => if r9 = 0 then bn (o_keepForUndo S10) fun r11 S12 => bn (o_sd_name 200 (nI i) y S12) fun r13 S14 => some ((1 : Int32), S14) else some ((0 : Int32), S10) else none) (if bI (inN y (ct T 1)) = 0 then some ((0 : Int32), wI Sm 500 0 0) else bn (m_hangs (nI i) (wI Sm 500 0 0)) fun r6 S7 => if r6 = 0 then some ((0 : Int32), S7) else if ((5 : Int32) + nI i) < 0 ∨ 15 ≤ (((5 : Int32) + nI i)).toNatClampNeg then none else if (rI S7 553 (((5 : Int32) + nI i)).toNatClampNeg) = y then some ((0 : Int32), S7) else bn (m_isFree y (nI i) S7) fun r8 S9 => if r8 = 0 then some ((0 : Int32), S9) else bn (m_keeps S9) fun r10 S11 => if ((5 : Int32) + nI i) < 0 ∨ 15 ≤ (((5 : Int32) + nI i)).toNatClampNeg then none else lt' (wI S11 553 (((5 : Int32) + nI i)).toNatClampNeg y) fun S12 => some ((1 : Int32), S12)) () := by
      have e5 : (5 : Int32) + nI i = nI (5 + i) := nI_add 5 i
      rw [if_neg (by decide), oq2 hv, if_pos hT.k, to_hasSound hT, bnq]
      cases hy : inN y (ct T 1) with
      | false =>
        rw [if_pos bF, if_pos bF]
        exact ⟨_, _, _, rfl, rfl, hI.th⟩
      | true =>
        obtain ⟨j, hj, rfl⟩ := inN_of hy (by omega)
        rw [if_neg bT, if_neg bT, sd_hangs hz.2.2 hz.1 hn.1, bnq, m_hangs_ok hz1.2.1 (by omega), bnq]
        unfold hgB
        rw [hx, Bool.true_and, nI_clamp (by omega)]
        cases hh : tb (Z 0) i with
        | false =>
          rw [if_pos bF, if_pos bF]
          exact ⟨_, _, _, rfl, rfl, hI.th⟩
        | true =>
          rw [if_neg bT, if_neg bT, sd_soundOf hz.1 hi hn.1, bnq, e5, if_neg (nI_in (by omega) (by omega)), nI_clamp (by omega), hz1.2.1 (5 + i) (by omega)]
          by_cases q : Z (5 + i) = nI j
          · rw [if_pos q, if_pos q]
            exact ⟨_, _, _, rfl, rfl, hI.th⟩
          · rw [if_neg q, if_neg q, sd_hasOther hz.2.2 hz.1 hn.1 (by omega), bnq, m_isFree_ok hw hz.2.2 hO1 hz1.2.1 (by omega), bnq]
            cases freeB T Z j i with
            | false =>
              rw [if_pos bF, if_neg (show ¬ bI (!false) = 0 by decide)]
              exact ⟨_, _, _, rfl, rfl, hI.th⟩
            | true =>
              obtain ⟨So1, Sm1, d1, k1, k2, k3, k4, k5⟩ := keep_ok hn.1 hz1 hu1
              have f1 : Fr PC So So1 := k4.mo fun a k q => PC_U q
              have g1 : Fr QC Sm Sm1 := t0.tr (k5.mo fun a k q => QC_U q)
              have hz2 : Now T Z So1 Sm1 := hz1.fr k4 k5 (fun k => ⟨rfl, rfl⟩) (fun k => rfl)
              obtain ⟨So2, a1, a2, a3⟩ := sd_name hz2.1 (show i < 10 by omega) (nI j)
              have gm : Fr (fun a _ => a == 553) Sm1 (wI Sm1 553 (5 + i) (nI j)) := Fr.wI rfl
              refine ⟨1, So2, wI Sm1 553 (5 + i) (nI j), ?_, ?_, Inv.mv ht0 hs hm hp hr (f1.tr (a3.mo fun a k q => PC_2 q)) (g1.tr (gm.mo fun a k q => QC_S q)) ⟨a2, fun k hk => ?_, WZ_name hz2.2.2 hj hn.2.1⟩ (k3.mv2 (a3.mo fun a k q => frXU_U q) gm rfl (fun k => rfl))⟩
              · rw [if_pos (show bI (!true) = 0 from rfl), k1, bnq, a1, bnq]
              · rw [if_neg bT, k2, bnq, if_neg (nI_inC (by omega) (by omega)), ltq]
              · unfold nameZ
                by_cases q2 : k = 5 + i
                · rw [q2, rI_wI, if_pos rfl]
                · rw [rI_wI_k q2, if_neg q2, hz2.2.1 k hk]
    by_cases q : Z 2 < rI T 509 i
    · rw [if_neg (fun e => eun.mp e q)]
      have hc2 : ∀ S7 : St, S7 = wI Sm 500 0 0 → (rI S7 553 2 < rI S7 509 i ↔ True) := by
        rintro S7 rfl
        rw [hz1.2.1 2 (by decide), hO1.ri (by omega)]
        exact iff_true_intro q
      rw [m_hangs_ok hz1.2.1 (by omega), bnq] at key ⊢
      rw [if_neg g2_15, c2, if_neg (nI_in (show i < 20 by omega) (by omega)), nI_clamp (show i < 2 ^ 31 by omega), if_pos ((hc2 _ rfl).mpr trivial)]
      exact key
    · rw [if_pos (eun.mpr q)]
      refine ⟨0, So, wI Sm 500 0 0, rfl, ?_, hI.th⟩
      cases inN y (ct T 1) with
      | false => rw [if_pos bF]
      | true =>
        rw [if_neg bT, m_hangs_ok hz1.2.1 (by omega), bnq]
        cases tb (Z 0) i with
        | false => rw [if_pos bF]
        | true => rw [if_neg bT, if_neg g2_15, c2, if_neg (nI_in (show i < 20 by omega) (by omega)), nI_clamp (show i < 2 ^ 31 by omega), hz1.2.1 2 (by decide), hO1.ri (by omega), if_neg q]
theorem pass_loop : ∀ (n m mm : Nat) (Z : Nat → Int32) (So Sm : St) (k t : Nat), SD 200 Z (ct T 0) So → SM Z Sm → WZ T Z → k + n = t → t < 100 → n < m → n < mm → ∃ Z' So' Sm', o_pass_19 m (nI t) (nI k) So = some (Z' 2, So') ∧ m_pass_23 mm (nI t) (nI k) Sm = some (Z' 2, Sm') ∧ SD 200 Z' (ct T 0) So' ∧ SM Z' Sm' ∧ WZ T Z' ∧ Fr (frU 200) So So' ∧ Fr (fun a _ => a == 553) Sm Sm'
  | 0, m, mm, Z, So, Sm, k, t, h1, h2, h3, hk, ht, hm, hmm => by
    obtain ⟨m, rfl, hm⟩ := fuel hm
    obtain ⟨mm, rfl, hmm⟩ := fuel hmm
    rw [Nat.add_zero] at hk
    subst hk
    refine ⟨Z, So, Sm, ?_, ?_, h1, h2, h3, Fr.rf, Fr.rf⟩
    · rw [o_pass_19, if_neg (nI_nlt (Nat.le_refl _) (by omega))]
      unfold o_pass_40
      rw [h1.2.2.2.1]
    · rw [m_pass_23, if_neg (nI_nlt (Nat.le_refl _) (by omega))]
      unfold m_pass_38
      rw [if_neg g2_15, c2, h2 2 (by decide)]
  | n + 1, m, mm, Z, So, Sm, k, t, h1, h2, h3, hk, ht, hm, hmm => by
    obtain ⟨m, rfl, hm⟩ := fuel hm
    obtain ⟨mm, rfl, hmm⟩ := fuel hmm
    obtain ⟨So1, a1, a2, a3⟩ := sd_nextDay h1
    obtain ⟨Sm1, b1', b2, b3⟩ := m_passes_ok h2
    obtain ⟨Z', So', Sm', e1, e2, e3, e4, e5, e6, e7⟩ := pass_loop n m mm (nextZ Z) So1 Sm1 (k + 1) t a2 b2 (WZ_next h3) (by omega) ht (by omega) (by omega)
    refine ⟨Z', So', Sm', ?_, ?_, e3, e4, e5, a3.tr e6, b3.tr e7⟩
    · rw [o_pass_19, if_pos (nI_lt (by omega) (by omega)), a1, bnq, ltq, nI_1]
      exact e1
    · rw [m_pass_23, if_pos (nI_lt (by omega) (by omega)), b1', bnq, ltq, nI_1]
      exact e2
theorem pass_ok (h : Inv So Sm) (x : Int32) : Sim (o_pass x So) (m_pass x Sm) () := by
  have hI := h
  obtain ⟨T, W, V, L, v, Z, d, ht, hz, hs, hu, hm, hp, hr⟩ := h
  have ht0 := ht
  obtain ⟨hw, hO, hL, hB, hv, hT⟩ := ht
  have hn := hw.b
  have t0 : Fr QC Sm (wI Sm 500 0 0) := Fr.wI rfl
  have hz1 : Now T Z So (wI Sm 500 0 0) := hz.fr (P := PO) Fr.rf (th0 Sm) (fun k => ⟨rfl, rfl⟩) (fun k => rfl)
  have hu1 : Und T d So (wI Sm 500 0 0) := hu.fr (P := PO) Fr.rf (th0 Sm) (fun a k q => PO_of (by omega) (by omega) (by omega) (by omega) (by omega) (by omega) (by omega)) rfl (fun k => rfl)
  unfold o_pass o_pass_11 m_pass
  rw [ltq, m_within_ok, bnq]
  by_cases q1 : x < 1
  · rw [if_pos q1, decide_eq_true q1, if_pos (show bI (!true && _) = 0 from rfl)]
    exact ⟨_, _, _, rfl, rfl, hI.th⟩
  · rw [if_neg q1, decide_eq_false q1]
    by_cases q2 : (30 : Int32) < x
    · rw [if_pos q2, decide_eq_true q2, if_pos (show bI (!false && !true) = 0 from rfl)]
      exact ⟨_, _, _, rfl, rfl, hI.th⟩
    · rw [if_neg q2, decide_eq_false q2, if_neg (show ¬ bI (!false && !false) = 0 by decide)]
      have h0 : ¬ x < 0 := fun q => q1 (Int32.lt_trans q (by decide))
      obtain ⟨t, ht1, rfl⟩ := nI_of h0
      have ht2 : t ≤ 30 := Decidable.byContradiction fun q => q2 (nI_lt (a := 30) (by omega) ht1)
      obtain ⟨So1, Sm1, d1, k1, k2, k3, k4, k5⟩ := keep_ok hn.1 hz1 hu1
      have f1 : Fr PC So So1 := k4.mo fun a k q => PC_U q
      have g1 : Fr QC Sm Sm1 := t0.tr (k5.mo fun a k q => QC_U q)
      have hz2 : Now T Z So1 Sm1 := hz1.fr k4 k5 (fun k => ⟨rfl, rfl⟩) (fun k => rfl)
      obtain ⟨Z', So2, Sm2, e1, e2, e3, e4, e5, e6, e7⟩ := pass_loop t FU FU Z So1 Sm1 0 t hz2.1 hz2.2.1 hz2.2.2 (Nat.zero_add _) (by omega) (by unfold FU; omega) (by unfold FU; omega)
      refine ⟨Z' 2, So2, Sm2, ?_, ?_, Inv.mv ht0 hs hm hp hr (f1.tr (e6.mo fun a k q => PC_2 q)) (g1.tr (e7.mo fun a k q => QC_S q)) ⟨e3, e4, e5⟩ (k3.mv2 (e6.mo fun a k q => frXU_U q) e7 rfl (fun k => rfl))⟩
      · rw [k1, bnq]
        exact e1
      · rw [k2, bnq]
        exact e2
theorem undo_ok (h : Inv So Sm) : Sim (o_undo So) (m_undo Sm) () := by
  have hI := h
  obtain ⟨T, W, V, L, v, Z, d, ht, hz, hs, hu, hm, hp, hr⟩ := h
  have ht0 := ht
  obtain ⟨hw, hO, hL, hB, hv, hT⟩ := ht
  have hn := hw.b
  obtain ⟨hd, u1, u2, e, he, hi, Y, hY⟩ := hu
  unfold o_undo o_undo_20 m_undo
  rw [u1, ltq (wI Sm 500 0 0), rI_wI_k (S := Sm) (a := 500) (j := 69) (by decide), u2]
  by_cases q : d = 0
  · subst q
    rw [if_pos (by decide), if_pos (show nI 0 = 0 from rfl)]
    exact ⟨_, _, _, rfl, rfl, hI.th⟩
  · obtain ⟨d, rfl⟩ : ∃ d', d = d' + 1 := ⟨d - 1, by omega⟩
    have hed := (he d (by omega)).2
    obtain ⟨y1, y2, y3⟩ := hY d (by omega)
    have e1 : nI (d + 1) - 1 = nI d := nI_pred d
    have fx : Fr (fun a k => a == 1 && k == 11) So (wI So 1 11 (nI d)) := Fr.wI (by decide)
    have np : ∀ x k : Nat, x ≠ 1 → (x == 1 && k == 11) = false := fun x k q => by
      rw [beq_eq_false_iff_ne.mpr q]
      rfl
    have y1' : SD (206 + e d) (Y d) (ct T 0) (wI So 1 11 (nI d)) := y1.frw fx (fun k => np _ _ (by omega)) (fun k => np _ _ (by omega))
    obtain ⟨S1, a1, a2, a3⟩ := sd_copy (u := 200) ⟨rfl, rfl⟩ y1' hn.1 (by omega) (by omega) (by omega) y2.2.2.2.1
    obtain ⟨S2, b1', b2, b3, b4⟩ := m_copies_ok (v0 := 556) (v2 := 553) (a := 15 * d) (b := 0) (n0 := 240) (n2 := 15) rfl rfl (by omega) (by omega) (by omega) (by omega) (by decide) (wI (wI Sm 500 0 0) 500 69 (nI d))
    have fa : Fr PC So S1 := (fx.mo fun a k q => PU_11 (PC_U q)).tr (a3.mo fun a k q => PC_2 q)
    have fm0 : Fr QC Sm (wI (wI Sm 500 0 0) 500 69 (nI d)) := (Fr.wI rfl).tr (Fr.wI rfl)
    have fb : Fr QC Sm S2 := fm0.tr (b4.mo fun a k q => QC_S q)
    refine ⟨1, S1, S2, ?_, ?_, Inv.mv ht0 hs hm hp hr fa fb (Z' := Y d) (d' := d) ⟨a2, fun k hk => ?_, y2⟩ ⟨by omega, ?_, ?_, e, fun i hi => ⟨?_, (he i hi).2⟩, hi, Y, fun i hid => ?_⟩⟩
    · rw [if_neg (show ¬ nI (d + 1) < 1 from nI_nlt (a := d + 1) (b := 1) (by omega) (by omega)), if_neg (show ¬ (16 : Int32) < nI (d + 1) from nI_nlt (a := 16) (b := d + 1) hd (by decide)), e1, ltq, rI_wI, if_neg (nI_in (by omega) (by omega)), nI_clamp (by omega), rQ_wI, oq2 (he d (by omega)).1, a1, bnq]
    · rw [if_neg (nI_ne0 (by omega) (by omega)), e1, ltq, rI_wI, show (15 : Int32) * nI d = nI (15 * d) by rw [show (15 : Int32) = nI 15 from rfl, nI_mul], (show m_copies 556 (nI (15 * d)) 553 0 (wI (wI Sm 500 0 0) 500 69 (nI d)) = some ((), S2) from b1'), bnq]
    · have := b2 k hk
      rw [Nat.zero_add] at this
      rw [this, rI_wI_a (by decide), rI_wI_a (by decide), y3 k hk]
    · rw [a3.i (frU_n (by decide) (by decide)), rI_wI]
    · rw [b4.i (by decide), rI_wI]
    · rw [a3.q (frU_n (by decide) (by decide)), rQ_wI]
      exact (he i hi).1
    · obtain ⟨z1, z2, z3⟩ := hY i (by omega)
      have hei := (he i (by omega)).2
      refine ⟨(z1.frw fx (fun k => np _ _ (by omega)) (fun k => np _ _ (by omega))).frw a3 (fun k => frU_n (by omega) (by omega)) (fun k => frU_n (by omega) (by omega)), z2, fun k hk => ?_⟩
      rw [b4.i (by decide), rI_wI_a (by decide), rI_wI_a (by decide), z3 k hk]
end PUB2
