/-! Public methods: tell, laws. -/
section TELL
variable {T : St} {W V : Nat → List Nat} {L : Int32 → Int32 → Int32} {v d q : Nat} {Z : Nat → Int32} {So So' Sm Sm' : St} {P Q : Nat → Nat → Bool}
theorem LnM.fr2 {n : Nat} {f : Nat → Nat → Int32} (h : LnM q n f Sm) (fm : Fr Q Sm Sm') (hq : Q 543 q = false) (hq2 : ∀ a k, 544 ≤ a ∧ a ≤ 546 → 40 * q ≤ k → Q a k = false) : LnM q n f Sm' := by
  refine ⟨(fm.i hq).trans h.1, fun i hi => ?_⟩
  rw [fm.i (hq2 544 _ (by decide) (by omega)), fm.i (hq2 545 _ (by decide) (by omega)), fm.i (hq2 546 _ (by decide) (by omega))]
  exact h.2 i hi
theorem TlM.fr2 {n : Nat} {g : Nat → Nat → Int32} (h : TlM T W q n g Sm) (fm : Fr Q Sm Sm') (hq : Q 549 q = false) (hq2 : ∀ a k, 550 ≤ a ∧ a ≤ 552 → 12 * q ≤ k → Q a k = false) : TlM T W q n g Sm' := by
  refine ⟨(fm.i hq).trans h.1, fun i hi => ?_⟩
  rw [fm.i (hq2 550 _ (by decide) (by omega)), fm.i (hq2 551 _ (by decide) (by omega)), fm.i (hq2 552 _ (by decide) (by omega))]
  exact h.2 i hi
/-- a slot is kept, by its cells -/
theorem Slt.fr2 (h : Slt T W q So Sm) (fo : Fr P So So') (fm : Fr Q Sm Sm') (hp : ∀ k, P (111 + q) k = false ∧ P (141 + q) k = false ∧ P (116 + q) k = false ∧ P (146 + q) k = false ∧ P (70 + q) k = false) (h1 : ∀ a k, a = 543 ∨ (547 ≤ a ∧ a ≤ 549) → q ≤ k → Q a k = false) (h2 : ∀ a k, 544 ≤ a ∧ a ≤ 546 → 40 * q ≤ k → Q a k = false) (h3 : ∀ a k, 550 ≤ a ∧ a ≤ 552 → 12 * q ≤ k → Q a k = false) : Slt T W q So' Sm' := by
  obtain ⟨n, f, m, g, kn, th, s1, s2, s3, s4, s5, s6, s7, s8, s9, s10, s11⟩ := h
  refine ⟨n, f, m, g, kn, th, s1.fr fo (fun k => (hp k).1) (fun k => ?_), s2, s3.fr2 fm (h1 _ _ (by omega) (Nat.le_refl _)) h2, s4.fr fo (fun k => (hp k).2.2.1) (fun k => ?_), s5.fr2 fm (h1 _ _ (by omega) (Nat.le_refl _)) h3, (fo.i (hp _).2.2.2.2).trans s6, (fm.i (h1 _ _ (by omega) (Nat.le_refl _))).trans s7, (fo.i (hp _).2.2.2.2).trans s8, (fm.i (h1 _ _ (by omega) (Nat.le_refl _))).trans s9, s10, s11⟩
  · rw [show 111 + q + 30 = 141 + q by omega]; exact (hp k).2.1
  · rw [show 116 + q + 30 = 146 + q by omega]; exact (hp k).2.2.2.1
theorem Mk1.fr2 (hq4 : q < 4) (h : Mk1 T W q So Sm) (fo : Fr P So So') (fm : Fr Q Sm Sm') (hp : ∀ a k, mko a → P a k = false) (h1 : ∀ a k, a = 543 ∨ (547 ≤ a ∧ a ≤ 549) → 1 ≤ k → Q a k = false) (h2 : ∀ a k, 544 ≤ a ∧ a ≤ 546 → 40 ≤ k → Q a k = false) (h3 : ∀ a k, 550 ≤ a ∧ a ≤ 552 → 12 ≤ k → Q a k = false) (h4 : ∀ k, Q 555 k = false) : Mk1 T W q So' Sm' := by
  obtain ⟨s1, Y, s2, s3, s4⟩ := h
  refine ⟨s1.fr2 fo fm (fun k => ⟨hp _ _ ?_, hp _ _ ?_, hp _ _ ?_, hp _ _ ?_, hp _ _ ?_⟩) (fun a k q q2 => h1 a k q (by omega)) (fun a k q q2 => h2 a k q (by omega)) (fun a k q q2 => h3 a k q (by omega)), Y, s2.frw fo (fun k => hp _ _ ?_) (fun k => hp _ _ ?_), s3, fun k hk => (fm.i (h4 _)).trans (s4 k hk)⟩
  all_goals (unfold mko; omega)
theorem Mks.fr2 (h : Mks T W So Sm) (fo : Fr P So So') (fm : Fr Q Sm Sm') (h12 : P 1 12 = false) (hp : ∀ a k, mko a → P a k = false) (h1 : ∀ a k, a = 543 ∨ (547 ≤ a ∧ a ≤ 549) → 1 ≤ k → Q a k = false) (h2 : ∀ a k, 544 ≤ a ∧ a ≤ 546 → 40 ≤ k → Q a k = false) (h3 : ∀ a k, 550 ≤ a ∧ a ≤ 552 → 12 ≤ k → Q a k = false) (h4 : ∀ k, Q 555 k = false ∧ Q 557 k = false) : Mks T W So' Sm' := by
  obtain ⟨x, m1, m2⟩ := h
  refine ⟨x, (fo.i h12).trans m1, fun i hi => ?_⟩
  obtain ⟨a1, a2, a3, a4⟩ := m2 i hi
  exact ⟨(fo.q (hp _ _ (Or.inl rfl))).trans a1, (fm.i (h4 _).2).trans a2, a3.fr hi fo hp, fun hx => (a4 hx).fr2 hi fo fm hp h1 h2 h3 fun k => (h4 k).1⟩
/-- what tell may touch -/
def PT (v : Nat) : Nat → Nat → Bool := fun a _ => a == 116 || a == 146 || a == v + 10
def QT : Nat → Nat → Bool := fun a k => (a == 549 && k == 0) || ((a == 550 || a == 551 || a == 552) && decide (k < 12)) || (a == 500 && k == 0)
theorem PT_n {v a k : Nat} (h : a ≠ 116) (h2 : a ≠ 146) (h3 : a ≠ v + 10) : PT v a k = false := by
  unfold PT
  simp
  omega
theorem QT_n {a k : Nat} (h : a ≠ 549 ∨ k ≠ 0) (h2 : ¬ (550 ≤ a ∧ a ≤ 552) ∨ 12 ≤ k) (h3 : a ≠ 500 ∨ k ≠ 0) : QT a k = false := by
  unfold QT
  simp
  omega
theorem nar_b (z : Bool) : vp_nar .boolean (bI z) = bI z := by cases z <;> decide
theorem ten_ton {v a : Nat} (h : ton a) (hv : v = 20 ∨ v = 21) : a ≠ 116 ∧ a ≠ 146 ∧ a ≠ v + 10 := by
  unfold ton at h
  omega
/-- all but the slot of now, after a tell -/
theorem Inv.tl (ht : Told T W V L v So Sm) (hz : Now T Z So Sm) (hs : Slt T W 0 So' Sm') (hu : Und T d So Sm) (hm : Mks T W So Sm) (hp : Tap So Sm) (hr : Rst v So) (fo : Fr (PT v) So So') (fm : Fr QT Sm Sm') : Inv So' Sm' := by
  have hv := ht.2.2.2.2.2.1
  refine ⟨T, W, V, L, v, Z, d, ht.fr fo fm (fun a k q => ?_) (PT_n (by decide) (by decide) (by omega)) (fun a k q => QT_n (by omega) (by omega) (by omega)), hz.fr fo fm (fun k => ⟨PT_n (by decide) (by decide) (by omega), PT_n (by decide) (by decide) (by omega)⟩) (fun k => QT_n (by omega) (by omega) (by omega)), hs, hu.fr fo fm (fun a k q => PT_n (by omega) (by omega) (by omega)) rfl (fun k => QT_n (by omega) (by omega) (by omega)), hm.fr2 fo fm (PT_n (by decide) (by decide) (by omega)) (fun a k q => ?_) (fun a k q q2 => QT_n (by omega) (by omega) (by omega)) (fun a k q q2 => QT_n (by omega) (by omega) (by omega)) (fun a k q q2 => QT_n (by omega) (by omega) (by omega)) (fun k => ⟨QT_n (by omega) (by omega) (by omega), QT_n (by omega) (by omega) (by omega)⟩), hp.fr fo fm (PT_n (by decide) (by decide) (by omega)) (fun k => PT_n (by decide) (by decide) (by omega)) rfl (fun k => QT_n (by omega) (by omega) (by omega)), hr.fr hv fo (fun a k q => ?_) ⟨PT_n (by decide) (by decide) (by omega), fun k => ⟨PT_n (by decide) (by decide) (by omega), PT_n (by decide) (by decide) (by omega), PT_n (by decide) (by decide) (by omega)⟩, PT_n (by decide) (by decide) (by omega), PT_n (by decide) (by decide) (by omega)⟩⟩
  · have := ten_ton q hv
    exact PT_n this.1 this.2.1 this.2.2
  · unfold mko at q
    exact PT_n (by omega) (by omega) (by omega)
  · have := ten_ton q hv
    exact PT_n this.1 this.2.1 this.2.2
theorem g05 : ¬ ((0 : Int32) < 0 ∨ 5 ≤ (0 : Int32).toNatClampNeg) := by decide
theorem tell_ok (h : Inv So Sm) (x y : Int32) (z : Bool) : Sim (o_tell x y (bI z) So) (m_tell x y (bI z) Sm) () := by
  have hI := h
  obtain ⟨T, W, V, L, v, Z, d, ht, hz, hs, hu, hm, hp, hr⟩ := h
  have ht0 := ht
  obtain ⟨hw, hO, hL, hB, hv, hT⟩ := ht
  have hn := hw.b
  have hvv := hT.1
  have hO1 : OM T (wI Sm 500 0 0) := hO.fr (th0 Sm) fun a k q => PQ_or q
  unfold o_tell m_tell
  rw [oq2 hv, if_pos hT.k, to_hasSound hT, bnq, ltq (wI Sm 500 0 0), m_isSound_ok hw hO1, bnq]
  cases hx : inN x (ct T 1) with
  | false =>
    rw [if_pos bF, if_pos bF]
    exact ⟨_, _, _, rfl, rfl, hI.th⟩
  | true =>
    rw [if_neg bT, if_neg bT, oq2 hv, if_pos hT.k, to_hasSound hT, bnq, m_isSound_ok hw hO1, bnq]
    cases hy : inN y (ct T 1) with
    | false =>
      rw [if_pos bF, if_pos bF]
      exact ⟨_, _, _, rfl, rfl, hI.th⟩
    | true =>
      obtain ⟨i, hi, rfl⟩ := inN_of hx (by omega)
      obtain ⟨j, hj, rfl⟩ := inN_of hy (by omega)
      obtain ⟨nl, fl, m, g, kn, th, s1, s2, s3, s4, s5, s6, s7, s8, s9, s10, s11⟩ := hs
      have hm12 : m ≤ 12 := s4.2.2.2.2.2.1
      have e5 : rI (wI Sm 500 0 0) 549 0 = nI m := (rI_th _ _ _ (by decide)).trans s5.1
      rw [if_neg bT, if_neg bT, tb_full s4, bnq, if_neg g05, c0, e5]
      by_cases q : 12 ≤ m
      · obtain rfl : m = 12 := by omega
        rw [decide_eq_true q, if_neg bT, if_pos (show nI 12 = 12 from rfl)]
        exact ⟨_, _, _, rfl, rfl, hI.th⟩
      · obtain ⟨S1, a1, a2, a3⟩ := tb_add s4 (by omega)
        have fa : Fr (PT v) So S1 := a3.mo fun a k q => by
          unfold PT at q
          simp at q ⊢
          omega
        have hT1 : TD v T W V L S1 := hT.fr fa fun a k q => by
          have := ten_ton q hvv
          exact PT_n this.1 this.2.1 this.2.2
        obtain ⟨S2, b1', b2⟩ := na_edits hT1.sn hi hj
        have f2 : Fr (PT v) S1 S2 := b2.mo fun a k q => by
          unfold PT at q
          simp at q
          exact frR_f (by omega)
        have fb := fa.tr f2
        have t2 : TB 116 12 3 (m + 1) _ S2 := a2.fr b2 (fun k => frR_f (by omega)) (fun k => frR_f (by omega))
        have t3 := t2.put (i := m) (j := 0) (by decide) (nI (edt (W i) (W j)))
        have fc : Fr (PT v) So (wI S2 (116 + 30) (m * 3 + 0) (nI (edt (W i) (W j)))) := fb.tr (Fr.wI rfl)
        have hT3 : TD v T W V L (wI S2 (116 + 30) (m * 3 + 0) (nI (edt (W i) (W j)))) := hT.fr fc fun a k q => by
          have := ten_ton q hvv
          exact PT_n this.1 this.2.1 this.2.2
        have t4 := t3.put (i := m) (j := 1) (by decide) (nI (csl (W i) (W j)))
        have t5 := t4.put (i := m) (j := 2) (by decide) (bI z)
        have v1 : rQ S1 1 9 = some v := (fa.q (PT_n (by decide) (by decide) (by omega))).trans hv
        have v3 : rQ (wI S2 (116 + 30) (m * 3 + 0) (nI (edt (W i) (W j)))) 1 9 = some v := (fc.q (PT_n (by decide) (by decide) (by omega))).trans hv
        have p1 : o_tb_put 116 (nI m) (0 : Int32) (nI (edt (W i) (W j))) S2 = _ := tb_put t2 (i := m) (j := 0) (by omega) (by decide) _
        have p2 : o_tb_put 116 (nI m) (1 : Int32) (nI (csl (W i) (W j))) _ = _ := tb_put t3 (i := m) (j := 1) (by omega) (by decide) _
        have p3 : ∀ z : Bool, o_tb_put 116 (nI m) (2 : Int32) (bI z) _ = _ := fun z => tb_put t4 (i := m) (j := 2) (by omega) (by decide) _
        have fd : Fr (PT v) So (wI (wI (wI S2 (116 + 30) (m * 3 + 0) (nI (edt (W i) (W j)))) (116 + 30) (m * 3 + 1) (nI (csl (W i) (W j)))) (116 + 30) (m * 3 + 2) (bI z)) := (fc.tr (Fr.wI rfl)).tr (Fr.wI rfl)
        have gm : ∀ a : Nat, a = 550 ∨ a = 551 ∨ a = 552 → QT a m = true := fun a q2 => by
          unfold QT
          simp
          omega
        have fm : Fr QT Sm (wI (wI (wI (wI (wI Sm 500 0 0) 550 m (nI i)) 551 m (nI j)) 552 m (bI z)) 549 0 (nI (m + 1))) := ((((Fr.wI rfl).tr (Fr.wI (gm _ (by decide)))).tr (Fr.wI (gm _ (by decide)))).tr (Fr.wI (gm _ (by decide)))).tr (Fr.wI rfl)
        refine ⟨1, _, _, ?_, ?_, Inv.tl ht0 hz ⟨nl, fl, m + 1, _, kn, th, s1.fr fd (fun k => PT_n (by decide) (by decide) (by omega)) (fun k => PT_n (by decide) (by decide) (by omega)), s2, s3.fr fm (fun a k q => QT_n (by omega) (by omega) (by omega)), t5, ?_, (fd.i (PT_n (by decide) (by decide) (by omega))).trans s6, (fm.i (by rfl)).trans s7, (fd.i (PT_n (by decide) (by decide) (by omega))).trans s8, (fm.i (by rfl)).trans s9, s10, s11⟩ hu hm hp hr fd fm⟩
        · rw [decide_eq_false q, if_pos bF, a1, bnq, oq2 v1, if_pos hT.k, if_pos hT.sn.1, b1', bnq, p1, bnq, oq2 v3, if_pos hT.k, if_pos hT.sn.1, na_rhyme hT3.sn hi hj, bnq, p2, bnq]
          unfold o_tell_118
          cases z with
          | false =>
            rw [if_pos bF, (show o_tb_put 116 (nI m) (2 : Int32) (0 : Int32) _ = _ from p3 false), bnq]
          | true =>
            rw [if_neg bT, (show o_tb_put 116 (nI m) (2 : Int32) (1 : Int32) _ = _ from p3 true), bnq]
        · have e6 : rI (wI (wI Sm 500 0 0) 550 m (nI i)) 549 0 = nI m := (rI_wI_a (by decide)).trans e5
          have e7 : rI (wI (wI (wI Sm 500 0 0) 550 m (nI i)) 551 m (nI j)) 549 0 = nI m := (rI_wI_a (by decide)).trans e6
          have e8 : rI (wI (wI (wI (wI Sm 500 0 0) 550 m (nI i)) 551 m (nI j)) 552 m (bI z)) 549 0 = nI m := (rI_wI_a (by decide)).trans e7
          rw [if_neg (show ¬ nI m = 12 from nI_ne (b := 12) (by omega) (by omega) (by decide)), if_neg (nI_in (by omega) (by omega)), nI_clamp (by omega), ltq (wI (wI Sm 500 0 0) 550 m (nI i)), e6, if_neg (nI_in (by omega) (by omega)), nI_clamp (by omega), ltq (wI (wI (wI Sm 500 0 0) 550 m (nI i)) 551 m (nI j)), e7, nar_b, if_neg (nI_in (by omega) (by omega)), nI_clamp (by omega), ltq, e8, ltq, nI_1]
          have g0 : ¬ ((0 : Int32) < 0 ∨ (5 : Nat) ≤ 0) := by decide
          repeat rw [if_neg g0]
        · refine ⟨rI_wI, fun k hk => ?_⟩
          have hk : k < m + 1 := hk
          by_cases q2 : k = m
          · subst q2
            refine ⟨i, j, z, hi, hj, ?_, ?_, ?_, ?_, ?_, ?_⟩
            · rw [rI_wI_a (by decide), rI_wI_a (by decide), rI_wI_a (by decide), Nat.mul_zero, Nat.zero_add, rI_wI]
            · rw [rI_wI_a (by decide), rI_wI_a (by decide), Nat.mul_zero, Nat.zero_add, rI_wI]
            · rw [rI_wI_a (by decide), Nat.mul_zero, Nat.zero_add, rI_wI]
            · simp [upR]
            · simp [upR]
            · simp [upR]
          · obtain ⟨c, kk, b, r1, r2, r3, r4, r5, r6, r7, r8⟩ := s5.2 k (by omega)
            refine ⟨c, kk, b, r1, r2, ?_, ?_, ?_, ?_, ?_, ?_⟩
            · rw [rI_wI_a (by decide), rI_wI_a (by decide), rI_wI_a (by decide), rI_wI_k (by omega), rI_wI_a (by decide), r3]
            · rw [rI_wI_a (by decide), rI_wI_a (by decide), rI_wI_k (by omega), rI_wI_a (by decide), rI_wI_a (by decide), r4]
            · rw [rI_wI_a (by decide), rI_wI_k (by omega), rI_wI_a (by decide), rI_wI_a (by decide), rI_wI_a (by decide), r5]
            · simp [upR, q2, r6]
            · simp [upR, q2, r7]
            · simp [upR, q2, r8]
end TELL
