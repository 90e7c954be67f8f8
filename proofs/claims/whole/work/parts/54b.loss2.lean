section LOSS2
variable {T : St} {W V : Nat → List Nat} {L : Int32 → Int32 → Int32} {v d u a : Nat} {Z Z1 : Nat → Int32} {So So' Sm Sm' S : St}
def tl (T : St) (Z : Nat → Int32) (d : Nat) : Nat → Nat
  | 0 => 0
  | n + 1 => tl T Z d n + lsA T Z n d
theorem tl_le (hw : WF T W V) (Z : Nat → Int32) (d : Nat) : ∀ n, n ≤ ct T 0 → tl T Z d n ≤ 100000 * n
  | 0, _ => Nat.zero_le _
  | n + 1, h => by
    have h1 := tl_le hw Z d n (by omega)
    have h2 := lsA_le hw Z (show n < ct T 0 by omega) d
    rw [tl]
    omega
theorem m_ls_in (hw : WF T W V) (hz : WZ T Z) (hO : OM T S) (hS : SM Z S) (ha : a < ct T 0) (k43 : Int32 → Int32 → Int32 → Int32 → Int32 → St → Re Int32) (x y z : Int32) {c : Nat} (hc : c ≤ 1000000) : ∀ (j k m : Nat), k + j = ct T 3 → j < m → m_lossOf_52 k43 m x y (nI a) (nI (cpre T Z a k c)) z (nI k) S = m_lossOf_102 k43 x y (nI a) (nI (cpre T Z a (ct T 3) c)) z S
  | 0, k, m, hk, hm => by
    have hn := hw.b
    obtain ⟨m, rfl, hm⟩ := fuel hm
    rw [Nat.add_zero] at hk
    subst hk
    rw [m_lossOf_52, if_neg g3_12, c3, hO.n (by decide), hw.n (by decide), if_neg (nI_nlt (Nat.le_refl _) (by omega))]
  | j + 1, k, m, hk, hm => by
    have hn := hw.b
    obtain ⟨m, rfl, hm⟩ := fuel hm
    have hsr := hw.sr (show k < ct T 3 by omega)
    have hsr2 : vN T 516 k < 11 := hsr.2.2
    have hle := cpre_le T Z a k c
    have ih := m_ls_in hw hz hO hS ha k43 x y z hc j (k + 1) m (by omega) (by omega)
    rw [cpre] at ih
    unfold stp at ih
    rw [m_lossOf_52, if_neg g3_12, c3, hO.n (by decide), hw.n (by decide), if_pos (nI_lt (by omega) (by omega)), if_neg (nI_in (by omega) (by omega)), nI_clamp (by omega), hO.sg (by omega), hsr.1.1, m_sl_ok hw hz hO hS hsr.1.2 ha, bnq]
    unfold m_lossOf_96
    cases hk : slk T Z (vN T 515 k) a with
    | false =>
      rw [hk] at ih
      rw [if_pos bF, ltq, nI_1]
      exact ih
    | true =>
      rw [hk] at ih
      have hmul : cpre T Z a k c * (10 - vN T 516 k) ≤ 10000000 := Nat.le_trans (Nat.mul_le_mul (show cpre T Z a k c ≤ 1000000 by omega) (show 10 - vN T 516 k ≤ 10 by omega)) (by decide)
      rw [if_neg bT, if_neg (nI_inC (by omega) (by omega)), hO.sb (by omega), hsr.2.1, show (10 : Int32) = nI 10 from rfl, nI_sub (by omega), nI_mul, nI_div (by omega) (by decide), ltq, ltq, nI_1]
      exact ih
theorem m_ls_days (hw : WF T W V) (hz : WZ T Z) (hO : OM T S) (hS : SM Z S) (ha : a < ct T 0) (k4 : Int32 → Int32 → Int32 → St → Re Int32) (y : Int32) {d : Nat} (hd : d < 100) : ∀ (j t m c : Nat), t + j = d → j < m → c ≤ 1000000 → m_lossOf_43 k4 m (nI d) y (nI a) (nI c) (nI t) S = m_lossOf_108 k4 (nI d) y (nI a) (nI (cdays T Z a j c)) S
  | 0, t, m, c, ht, hm, hc => by
    obtain ⟨m, rfl, hm⟩ := fuel hm
    rw [Nat.add_zero] at ht
    subst ht
    rw [m_lossOf_43, if_neg (nI_nlt (Nat.le_refl _) (by omega))]
    rfl
  | j + 1, t, m, c, ht, hm, hc => by
    obtain ⟨m, rfl, hm⟩ := fuel hm
    have hn := hw.b
    have e := m_ls_in hw hz hO hS ha (m_lossOf_43 k4 m) (nI d) y (nI t) hc (ct T 3) 0 FU (Nat.zero_add _) (by unfold FU; omega)
    have hl := cpre_le T Z a (ct T 3) c
    rw [m_lossOf_43, if_pos (nI_lt (by omega) (by omega)), (show m_lossOf_52 (m_lossOf_43 k4 m) FU (nI d) y (nI a) (nI c) (nI t) 0 S = _ from e)]
    unfold m_lossOf_102
    rw [ltq, nI_1]
    exact m_ls_days hw hz hO hS ha k4 y hd j (t + 1) m _ (by omega) (by omega) (by omega)
theorem m_lossOf_loop (hw : WF T W V) (hz : WZ T Z) (hO : OM T S) (hS : SM Z S) {d : Nat} (hd : d < 100) : ∀ (j k m : Nat), k + j = ct T 0 → j < m → m_lossOf_4 m (nI d) (nI (tl T Z d k)) (nI k) S = some (nI (tl T Z d (ct T 0)), S)
  | 0, k, m, hk, hm => by
    have hn := hw.b
    obtain ⟨m, rfl, hm⟩ := fuel hm
    rw [Nat.add_zero] at hk
    subst hk
    rw [m_lossOf_4, if_neg g0_12, c0, hO.n (by decide), hw.n (by decide), if_neg (nI_nlt (Nat.le_refl _) (by omega))]
    rfl
  | j + 1, k, m, hk, hm => by
    have hn := hw.b
    obtain ⟨m, rfl, hm⟩ := fuel hm
    have hap := hw.ap (show k < ct T 0 by omega)
    have hap2 : vN T 510 k < 100 := hap.2.2.2.2.2.2
    have hap3 : vN T 506 k < 4 := hap.2.1.2
    have ih := m_lossOf_loop hw hz hO hS hd j (k + 1) m (by omega) (by omega)
    rw [tl] at ih
    unfold lsA at ih
    rw [m_lossOf_4, if_neg g0_12, c0, hO.n (by decide), hw.n (by decide), if_pos (nI_lt (by omega) (by omega)), m_hangs_ok hS (by omega), bnq]
    unfold m_lossOf_131
    cases htb : tb (Z 0) k with
    | false =>
      rw [htb] at ih
      rw [if_pos bF, ltq, nI_1]
      exact ih
    | true =>
      rw [htb, Bool.true_and] at ih
      rw [if_neg bT, if_neg (nI_in (by omega) (by omega)), nI_clamp (by omega), hO.so (by omega), hap.2.1.1]
      by_cases q : vN T 506 k = 3
      · rw [decide_eq_true q] at ih
        rw [if_pos (show nI (vN T 506 k) = 3 by rw [q]; rfl), ltq, nI_1]
        exact ih
      · rw [decide_eq_false q] at ih
        have e := m_ls_days hw hz hO hS (show k < ct T 0 by omega) (m_lossOf_4 m) (nI (tl T Z d k)) hd d 0 FU 1000000 (Nat.zero_add _) (by unfold FU; omega) (Nat.le_refl _)
        have hc := cdays_le T Z k d 1000000
        have hmul : vN T 510 k * (1000000 - cdays T Z k d 1000000) ≤ 100000000 := Nat.le_trans (Nat.mul_le_mul (show vN T 510 k ≤ 100 by omega) (show 1000000 - cdays T Z k d 1000000 ≤ 1000000 by omega)) (by decide)
        rw [if_neg (show ¬ nI (vN T 506 k) = 3 from nI_ne (b := 3) q (by omega) (by decide)), (show m_lossOf_43 (m_lossOf_4 m) FU (nI d) (nI (tl T Z d k)) (nI k) 1000000 0 S = _ from e)]
        unfold m_lossOf_108 m_lossOf_131
        rw [if_neg (nI_in (by omega) (by omega)), nI_clamp (by omega), hO.wo (by omega), hap.2.2.2.2.2.1, show (1000000 : Int32) = nI 1000000 from rfl, nI_sub hc, nI_l (by omega), nI_l (by omega), lN_mul, show (1000 : Int64) = lN 1000 from rfl, lN_div (by omega) (by decide), lN_i, nI_add, ltq, ltq, nI_1]
        exact ih
theorem m_lossOf_ok (hw : WF T W V) (hz : WZ T Z) (hO : OM T S) (hS : SM Z S) {d : Nat} (hd : d < 100) : m_lossOf (nI d) S = some (nI (tl T Z d (ct T 0)), S) :=
  m_lossOf_loop hw hz hO hS hd (ct T 0) 0 FU (Nat.zero_add _) (by have := hw.b; unfold FU; omega)
theorem o_loss_loop (hw : WF T W V) (hz : WZ T Z) {d : Nat} (hd : d < 100) : ∀ (j k m : Nat) (S : St), rQ S 1 9 = some v → TD v T W V L S → SD 200 Z (ct T 0) S → k + j = ct T 0 → j < m → ∃ S', o_loss_17 m (nI d) (nI (tl T Z d k)) (nI k) S = some (nI (tl T Z d (ct T 0)), S') ∧ Fr fr18 S S'
  | 0, k, m, S, hv, hT, hs, hk, hm => by
    have hn := hw.b
    obtain ⟨m, rfl, hm⟩ := fuel hm
    rw [Nat.add_zero] at hk
    subst hk
    refine ⟨S, ?_, Fr.rf⟩
    rw [o_loss_17, oq2 hv, if_pos hT.k, if_pos hT.ap.k, tb_size hT.ap, bnq, if_neg (nI_nlt (Nat.le_refl _) (by omega))]
    rfl
  | j + 1, k, m, S, hv, hT, hs, hk, hm => by
    have hn := hw.b
    obtain ⟨m, rfl, hm⟩ := fuel hm
    obtain ⟨S1, a1, a2⟩ := o_lossOf_ok (u := 200) hw hz (by decide) hv hT hs (show k < ct T 0 by omega) hd
    obtain ⟨S', b1', b2⟩ := o_loss_loop hw hz hd j (k + 1) m S1 ((a2.q (fr18_n (by decide))).trans hv) (hT.fr a2 fun a k q => fr18_t q) (hs.frw a2 (fun k => fr18_n (by decide)) (fun k => fr18_n (by decide))) (by omega) (by omega)
    refine ⟨S', ?_, a2.tr b2⟩
    rw [o_loss_17, oq2 hv, if_pos hT.k, if_pos hT.ap.k, tb_size hT.ap, bnq, if_pos (nI_lt (by omega) (by omega)), a1, bnq, nI_add, ltq, ltq, nI_1]
    exact b1'
theorem fr18_O {x k : Nat} (h : PO x k = false) : fr18 x k = false := by
  unfold PO at h
  refine fr18_n fun q => ?_
  subst q
  simp at h
theorem loss_ok (h : Inv So Sm) (x : Int32) : Sim (o_loss x So) (m_loss x Sm) () := by
  have hI := h
  obtain ⟨T, W, V, L, v, Z, d, ht, hz, hs, hu, hm, hp, hr⟩ := h
  obtain ⟨hw, hO, hL, hB, hv, hT⟩ := ht
  have hn := hw.b
  have hO1 : OM T (wI Sm 500 0 0) := hO.fr (th0 Sm) fun a k q => PQ_or q
  have hS1 : SM Z (wI Sm 500 0 0) := hz.2.1.fr (th0 Sm) fun k => rfl
  unfold o_loss o_loss_11 m_loss m_loss_24
  rw [ltq, m_within_ok, bnq]
  by_cases q1 : x < 1
  · rw [if_pos q1, decide_eq_true q1, if_pos (show bI (!true && _) = 0 from rfl)]
    exact ⟨_, _, _, rfl, rfl, hI.th⟩
  · rw [if_neg q1, decide_eq_false q1]
    by_cases q2 : (30 : Int32) < x
    · rw [if_pos q2, decide_eq_true q2, if_pos (show bI (!false && !true) = 0 from rfl)]
      exact ⟨_, _, _, rfl, rfl, hI.th⟩
    · rw [if_neg q2, decide_eq_false q2, if_neg (show ¬ bI (!false && !false) = 0 by decide)]
      have h0 : ¬ x < 0 := fun q => q1 (Int32.lt_trans q (by decide))
      obtain ⟨t, ht1, rfl⟩ := nI_of h0
      have ht2 : t ≤ 30 := Decidable.byContradiction fun q => q2 (nI_lt (a := 30) (by omega) ht1)
      obtain ⟨S', e1, e2⟩ := o_loss_loop hw hz.2.2 (show t < 100 by omega) (ct T 0) 0 FU So hv hT hz.1 (Nat.zero_add _) (by unfold FU; omega)
      refine ⟨_, _, _, e1, ?_, hI.rd (e2.mo fun a k q => fr18_O q) (th0 Sm)⟩
      rw [m_lossOf_ok hw hz.2.2 hO1 hS1 (show t < 100 by omega), bnq]
end LOSS2
