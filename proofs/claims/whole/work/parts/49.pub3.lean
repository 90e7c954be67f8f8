/-! Public methods: feed, lies, tell, laws. -/
section PUB3
variable {T : St} {W V : Nat → List Nat} {L : Int32 → Int32 → Int32} {v d : Nat} {Z : Nat → Int32} {So So' Sm Sm' : St}
theorem putS_ag {t t' : Nat × (Nat → Int32)} (h : t.1 = t'.1 ∧ ∀ k, k < t.1 → t.2 k = t'.2 k) (x : Int32) : (putS t x).1 = (putS t' x).1 ∧ ∀ k, k < (putS t x).1 → (putS t x).2 k = (putS t' x).2 k := by
  unfold putS
  rw [← h.1]
  cases decide (t.1 < 1000) && okB x with
  | false => exact h
  | true =>
    refine ⟨rfl, fun k hk => ?_⟩
    have hk : k < t.1 + 1 := hk
    show upd t.2 t.1 x k = upd t'.2 t.1 x k
    unfold upd
    by_cases q : k = t.1
    · simp [q]
    · simp only [if_neg q]
      exact h.2 k (by omega)
theorem p8_ag {t t' : Nat × (Nat → Int32)} (h : t.1 = t'.1 ∧ ∀ k, k < t.1 → t.2 k = t'.2 k) (x : Int64) : (p8 t x).1 = (p8 t' x).1 ∧ ∀ k, k < (p8 t x).1 → (p8 t x).2 k = (p8 t' x).2 k := by
  unfold p8
  exact putS_ag (putS_ag (putS_ag (putS_ag (putS_ag (putS_ag (putS_ag (putS_ag h _) _) _) _) _) _) _) _
theorem feed_ok (h : Inv So Sm) (a b c : Int64) : Sim (o_feed a b c So) (m_feed a b c Sm) () := by
  obtain ⟨T, W, V, L, v, Z, d, ht, hz, hs, hu, hm, hp, hr⟩ := h
  obtain ⟨n, hn, t1, t2, t3⟩ := hp
  have eo : So = oT So (n, rI So 4) := by
    refine Prod.ext ?_ rfl
    funext x k
    show So.1 x k = if x = 4 then So.1 4 k else if x = 3 ∧ k = 1 then nI n else So.1 x k
    by_cases q : x = 4
    · rw [if_pos q, q]
    · rw [if_neg q]
      by_cases q2 : x = 3 ∧ k = 1
      · rw [if_pos q2, q2.1, q2.2]
        exact t1
      · rw [if_neg q2]
  have em : Sm = mT Sm (n, rI Sm 501) := by
    refine Prod.ext ?_ rfl
    funext x k
    show Sm.1 x k = if x = 501 then Sm.1 501 k else if x = 500 ∧ k = 1 then nI n else Sm.1 x k
    by_cases q : x = 501
    · rw [if_pos q, q]
    · rw [if_neg q]
      by_cases q2 : x = 500 ∧ k = 1
      · rw [if_pos q2, q2.1, q2.2]
        exact t2
      · rw [if_neg q2]
  have ho := o_feed_ok a b c So (n, rI So 4) hn
  have hm' := m_feed_ok a b c Sm (n, rI Sm 501) hn
  rw [← eo] at ho
  rw [← em] at hm'
  have hag := p8_ag (p8_ag (p8_ag (t := (n, rI So 4)) (t' := (n, rI Sm 501)) ⟨rfl, t3⟩ a) b) c
  have hle := p8_le c (p8_le b (p8_le (t := (n, rI So 4)) a hn))
  rw [← hag.1] at hm'
  generalize p8 (p8 (p8 (n, rI So 4) a) b) c = P at ho hm' hag hle
  generalize p8 (p8 (p8 (n, rI Sm 501) a) b) c = R at hm' hag
  have fo : Fr (fun a k => a == 4 || (a == 3 && k == 1)) So (oT So P) := ⟨fun x k q => by
    simp at q
    show (if x = 4 then _ else if x = 3 ∧ k = 1 then _ else So.1 x k) = So.1 x k
    rw [if_neg q.1, if_neg (fun qq => q.2 qq.1 qq.2)], fun _ _ _ => rfl, fun _ _ _ => rfl⟩
  have fm : Fr (fun a k => a == 501 || (a == 500 && (k == 1 || k == 0))) Sm (mT (wI Sm 500 0 0) R) := ⟨fun x k q => by
    simp at q
    show (if x = 501 then _ else if x = 500 ∧ k = 1 then _ else (wI Sm 500 0 0).1 x k) = Sm.1 x k
    rw [if_neg q.1, if_neg (fun qq => (q.2 qq.1).1 qq.2)]
    exact up2_ne fun qq => (q.2 qq.1).2 qq.2, fun _ _ _ => rfl, fun _ _ _ => rfl⟩
  have po : ∀ a k : Nat, a ≠ 4 → a ≠ 3 → (a == 4 || (a == 3 && k == 1)) = false := fun a k q q' => by
    rw [beq_eq_false_iff_ne.mpr q, beq_eq_false_iff_ne.mpr q']
    rfl
  have pm : ∀ a k : Nat, a ≠ 501 → a ≠ 500 → (a == 501 || (a == 500 && (k == 1 || k == 0))) = false := fun a k q q' => by
    rw [beq_eq_false_iff_ne.mpr q, beq_eq_false_iff_ne.mpr q']
    rfl
  refine ⟨_, _, _, ho, hm', T, W, V, L, v, Z, d, ht.fr fo fm (fun a k q => by unfold ton at q; exact po _ _ (by omega) (by omega)) rfl (fun a k q => pm _ _ (by omega) (by omega)),
    hz.fr fo fm (fun k => ⟨rfl, rfl⟩) (fun k => rfl), hs.fr fo fm (fun k => ⟨rfl, rfl, rfl, rfl, rfl⟩) (fun a k q => pm _ _ (by omega) (by omega)),
    hu.fr fo fm (fun a k q => po _ _ (by omega) (by omega)) rfl (fun k => rfl),
    hm.fr fo fm rfl (fun a k q => by unfold mko at q; exact po _ _ (by omega) (by omega)) (fun a k q => pm _ _ (by omega) (by omega)), ⟨_, hle, ?_, ?_, fun k hk => ?_⟩,
    hr.fr ht.2.2.2.2.2.1 fo (fun a k q => by unfold ton at q; exact po _ _ (by omega) (by omega)) ⟨rfl, fun k => ⟨rfl, rfl, rfl⟩, rfl, rfl⟩⟩
  · rfl
  · show nI R.1 = nI P.1
    rw [hag.1]
  · show P.2 k = R.2 k
    exact hag.2 k hk
theorem lo_bit {n i : Nat} (hi : i < n) (hn : n ≤ 32) : lo n ((1 : Int32) <<< (nI i &&& 31)) := fun j h1 h2 => by
  rw [tb_sh1 (by omega) h2]
  exact decide_eq_false (by omega)
theorem lies_ok (h : Inv So Sm) (x : Int32) (y : Bool) : Sim (o_lies x (bI y) So) (m_lies x (bI y) Sm) () := by
  have hI := h
  obtain ⟨T, W, V, L, v, Z, d, ht, hz, hs, hu, hm, hp, hr⟩ := h
  have ht0 := ht
  obtain ⟨hw, hO, hL, hB, hv, hT⟩ := ht
  have hn := hw.b
  have hO1 : OM T (wI Sm 500 0 0) := hO.fr (th0 Sm) fun a k q => PQ_or q
  unfold o_lies o_lies_63 m_lies m_lies_61
  rw [oq2 hv, if_pos hT.k, to_hasApple hT, bnq, ltq (wI Sm 500 0 0), m_isApple_ok hw hO1, bnq]
  cases hx : inN x (ct T 0) with
  | false =>
    rw [if_pos bF, if_pos bF]
    exact ⟨_, _, _, rfl, rfl, hI.th⟩
  | true =>
    obtain ⟨i, hi, rfl⟩ := inN_of hx (by omega)
    obtain ⟨nl, fl, mt, gt, kn, th, s1, s2, s3, s4, s5, s6, s7, s8, s9, s10, s11⟩ := hs
    have g5 : ¬ ((0 : Int32) < 0 ∨ 5 ≤ (0 : Int32).toNatClampNeg) := by decide
    have g5' : ¬ ((0 : Int32) < 0 ∨ (5 : Nat) ≤ 0) := by decide
    have key : ∀ z : Int32, lo (ct T 0) z → Inv (wI (wI So 70 3 (kn ||| ((1 : Int32) <<< (nI i &&& 31)))) 70 4 z) (wI (wI (wI Sm 500 0 0) 547 0 (kn ||| ((1 : Int32) <<< (nI i &&& 31)))) 548 0 z) := by
      intro z hz4
      have fo : Fr (fun a _ => a == 70) So (wI (wI So 70 3 (kn ||| ((1 : Int32) <<< (nI i &&& 31)))) 70 4 z) := (Fr.wI rfl).tr (Fr.wI rfl)
      have fm : Fr (fun a k => a == 547 || a == 548 || (a == 500 && k == 0)) Sm (wI (wI (wI Sm 500 0 0) 547 0 (kn ||| ((1 : Int32) <<< (nI i &&& 31)))) 548 0 z) := ((Fr.wI rfl).tr (Fr.wI rfl)).tr (Fr.wI rfl)
      have po : ∀ a : Nat, a ≠ 70 → (a == 70) = false := fun a q => beq_eq_false_iff_ne.mpr q
      have pm : ∀ a k : Nat, a ≠ 547 → a ≠ 548 → a ≠ 500 → (a == 547 || a == 548 || (a == 500 && k == 0)) = false := fun a k q q' q2 => by
        rw [beq_eq_false_iff_ne.mpr q, beq_eq_false_iff_ne.mpr q', beq_eq_false_iff_ne.mpr q2]
        rfl
      refine ⟨T, W, V, L, v, Z, d, ht0.fr fo fm (fun a k q => by unfold ton at q; exact po _ (by omega)) rfl (fun a k q => pm _ _ (by omega) (by omega) (by omega)), hz.fr fo fm (fun k => ⟨rfl, rfl⟩) (fun k => rfl), ⟨nl, fl, mt, gt, _, z, s1.fr fo (fun k => rfl) (fun k => rfl), s2, s3.fr fm (fun a k q => pm _ _ (by omega) (by omega) (by omega)), s4.fr fo (fun k => rfl) (fun k => rfl), s5.fr fm (fun a k q => pm _ _ (by omega) (by omega) (by omega)), ?_, ?_, ?_, ?_, lo_or s10 (lo_bit hi (by omega)), hz4⟩, hu.fr fo fm (fun a k q => po _ (by omega)) rfl (fun k => rfl), ?_, hp.fr fo fm rfl (fun k => rfl) rfl (fun k => rfl), hr.fr hT.1 fo (fun a k q => by unfold ton at q; exact po _ (by omega)) ⟨rfl, fun k => ⟨rfl, rfl, rfl⟩, rfl, rfl⟩⟩
      · rw [rI_wI_k (by decide), rI_wI]
      · rw [rI_wI_a (by decide), rI_wI]
      · rw [rI_wI]
      · rw [rI_wI]
      · -- the marks: their slots lie at 1 and above
        obtain ⟨xl, m1, m2⟩ := hm
        have nk : ∀ a k : Nat, ¬ (a = 547 ∧ k = 0) → ¬ (a = 548 ∧ k = 0) → ¬ (a = 500 ∧ k = 0) → rI (wI (wI (wI Sm 500 0 0) 547 0 (kn ||| ((1 : Int32) <<< (nI i &&& 31)))) 548 0 z) a k = rI Sm a k := fun a k q1 q2 q3 => (up2_ne q2).trans ((up2_ne q1).trans (up2_ne q3))
        refine ⟨xl, (fo.i rfl).trans m1, fun j hj => ?_⟩
        obtain ⟨a1, a2, a3, a4⟩ := m2 j hj
        refine ⟨(fo.q rfl).trans a1, (fm.i rfl).trans a2, a3.fr hj fo (fun a k q => by unfold mko at q; exact po _ (by omega)), fun hx => ?_⟩
        obtain ⟨⟨n1, f1, n2, f2, kn1, th1, y1, y2, y3, y4, y5, y6, y7, y8, y9, y10, y11⟩, Y, w1, w2, w3⟩ := a4 hx
        exact ⟨⟨n1, f1, n2, f2, kn1, th1, y1.fr fo (fun k => po _ (by omega)) (fun k => po _ (by omega)), y2, y3.fr fm (fun a k q => pm _ _ (by omega) (by omega) (by omega)), y4.fr fo (fun k => po _ (by omega)) (fun k => po _ (by omega)), y5.fr fm (fun a k q => pm _ _ (by omega) (by omega) (by omega)), (fo.i (po _ (by omega))).trans y6, (nk _ _ (by omega) (by omega) (by omega)).trans y7, (fo.i (po _ (by omega))).trans y8, (nk _ _ (by omega) (by omega) (by omega)).trans y9, y10, y11⟩, Y, w1.frw fo (fun k => po _ (by omega)) (fun k => po _ (by omega)), w2, fun k hk => (fm.i rfl).trans (w3 k hk)⟩
    have hb' : lo (ct T 0) ((1 : Int32) <<< (nI i &&& 31)) := lo_bit hi (by omega)
    rw [if_neg bT, if_neg bT, s6, ltq (wI So 70 3 _), rI_wI_k (S := So) (a := 70) (b := 70) (j := 4) (by decide), s8, if_neg g5, if_neg g5, c0, rI_wI_a (S := Sm) (a := 500) (b := 547) (by decide), s7, ltq (wI (wI Sm 500 0 0) 547 0 _), rI_wI_a (S := wI Sm 500 0 0) (a := 547) (b := 548) (by decide), rI_wI_a (S := Sm) (a := 500) (b := 548) (by decide), s9]
    cases y with
    | false =>
      rw [if_pos bF, if_pos bF, if_neg g5', if_neg g5', ltq, ltq]
      exact ⟨_, _, _, rfl, rfl, key _ (lo_and s11)⟩
    | true =>
      rw [if_neg bT, if_neg bT, if_neg g5', if_neg g5', ltq, ltq]
      exact ⟨_, _, _, rfl, rfl, key _ (lo_or s11 hb')⟩
end PUB3
