section BEST
variable {T : St} {W V : Nat → List Nat} {L : Int32 → Int32 → Int32} {v d u a : Nat} {Z Z1 : Nat → Int32} {So So' Sm Sm' S : St}
theorem ifs_same {α : Type} {p : Prop} [Decidable p] {a : α} : (if p then a else a) = a := by by_cases h : p <;> simp [h]
/-- what the other ones lose -/
def ro (T : St) (Z : Nat → Int32) (a d : Nat) : Nat → Nat
  | 0 => 0
  | n + 1 => ro T Z a d n + (bif decide (n = a) then 0 else lsA T Z n d)
theorem tl_ro (T : St) (Z : Nat → Int32) (a d : Nat) : ∀ n, tl T Z d n = (bif decide (a < n) then lsA T Z a d else 0) + ro T Z a d n
  | 0 => rfl
  | n + 1 => by
    rw [tl, ro, tl_ro T Z a d n]
    by_cases q : n = a
    · subst q
      rw [decide_eq_false (Nat.lt_irrefl n), decide_eq_true rfl, decide_eq_true (Nat.lt_succ_self n)]
      simp only [cond_true, cond_false]
      omega
    · rw [decide_eq_false q]
      by_cases q2 : a < n
      · rw [decide_eq_true q2, decide_eq_true (show a < n + 1 by omega)]
        simp only [cond_true, cond_false]
        omega
      · rw [decide_eq_false q2, decide_eq_false (show ¬ a < n + 1 by omega)]
        simp only [cond_false]
        omega
theorem ro_le (hw : WF T W V) (Z : Nat → Int32) (a d : Nat) : ∀ n, n ≤ ct T 0 → ro T Z a d n ≤ 100000 * n
  | 0, _ => Nat.zero_le _
  | n + 1, h => by
    have h1 := ro_le hw Z a d n (by omega)
    have h2 := lsA_le hw Z (show n < ct T 0 by omega) d
    rw [ro]
    cases decide (n = a) <;> simp only [cond_true, cond_false] <;> omega
theorem slk_nm {b : Nat} (h : ¬ b = a) (x : Int32) (c : Nat) : slk T (nameZ Z a x) c b = slk T Z c b := by
  have e : zs (nameZ Z a x) b = zs Z b := by
    unfold zs nameZ
    rw [if_neg (by omega)]
  unfold slk
  rw [e]
theorem lsA_nm {b : Nat} (h : ¬ b = a) (x : Int32) (d : Nat) : lsA T (nameZ Z a x) b d = lsA T Z b d := by
  have e1 : ∀ i c, cpre T (nameZ Z a x) b i c = cpre T Z b i c := by
    intro i
    induction i with
    | zero => intro c; rfl
    | succ i ih =>
      intro c
      rw [cpre, cpre, ih, stp, stp, slk_nm h]
  have e2 : ∀ d c, cdays T (nameZ Z a x) b d c = cdays T Z b d c := by
    intro d
    induction d with
    | zero => intro c; rfl
    | succ d ih =>
      intro c
      rw [cdays, cdays, e1, ih]
  unfold lsA
  rw [e2, show nameZ Z a x 0 = Z 0 from if_neg (by omega)]
theorem ro_nm (x : Int32) (d : Nat) : ∀ n, ro T (nameZ Z a x) a d n = ro T Z a d n
  | 0 => rfl
  | n + 1 => by
    rw [ro, ro, ro_nm x d n]
    by_cases q : n = a
    · rw [decide_eq_true q, cond_true, cond_true]
    · rw [lsA_nm q]
theorem nm_nm (x y : Int32) : nameZ (nameZ Z a x) a y = nameZ Z a y := by
  funext k
  unfold nameZ
  by_cases q : k = 5 + a
  · rw [if_pos q, if_pos q]
  · rw [if_neg q, if_neg q, if_neg q]
theorem free_nm (x : Int32) (k : Nat) : freeB T (nameZ Z a x) k a = freeB T Z k a := by
  unfold freeB
  congr 1
  have e : ∀ b, (!decide (b = a) && (tb (nameZ Z a x 0) b && decide (nameZ Z a x (5 + b) = nI k))) = (!decide (b = a) && (tb (Z 0) b && decide (Z (5 + b) = nI k))) := fun b => by
    by_cases q : b = a
    · rw [decide_eq_true q]
      rfl
    · rw [show nameZ Z a x 0 = Z 0 from if_neg (by omega), show nameZ Z a x (5 + b) = Z (5 + b) from if_neg (by omega)]
  rw [funext e]
/-- the standing under trial: as it is, or with another name -/
def tr1 (T : St) (Z : Nat → Int32) (a : Nat) (Z1 : Nat → Int32) : Prop := Z1 = Z ∨ ∃ y, y < ct T 1 ∧ Z1 = nameZ Z a (nI y)
theorem tr1_f (h : tr1 T Z a Z1) (k : Nat) : freeB T Z1 k a = freeB T Z k a := by
  rcases h with rfl | ⟨y, -, rfl⟩
  · rfl
  · exact free_nm _ _
theorem tr1_n (h : tr1 T Z a Z1) (x : Int32) : nameZ Z1 a x = nameZ Z a x := by
  rcases h with rfl | ⟨y, -, rfl⟩
  · rfl
  · exact nm_nm _ _
theorem tr1_w (h : tr1 T Z a Z1) (hz : WZ T Z) (hn : ct T 1 ≤ 16) : WZ T Z1 := by
  rcases h with rfl | ⟨y, hy, rfl⟩
  · exact hz
  · exact WZ_name hz hy hn
/-- the best one found so far, on both sides: the reference counts the other ones too -/
def bs (R n : Nat) (b lo' lm : Int32) : Prop := (b = -1) ∨ ∃ k c, k < n ∧ b = nI k ∧ c ≤ 100000 ∧ lo' = nI c ∧ lm = nI (c + R)
def frB : Nat → Nat → Bool := fun x k => frU 205 x k || fr18 x k
theorem frB_n {x k : Nat} (h : x ≠ 205 ∧ x ≠ 235 ∧ x ≠ 18) : frB x k = false := by
  unfold frB
  rw [frU_n (by omega) (by omega), fr18_n h.2.2]
  rfl
theorem best_loop (hw : WF T W V) (hz : WZ T Z) (ha : a < ct T 0) {d : Nat} (hd : d < 100) : ∀ (j k m1 m2 : Nat) (Z1 : Nat → Int32) (So Sm : St) (b x y : Int32), rQ So 1 9 = some v → TD v T W V L So → SD 200 Z (ct T 0) So → SD 205 Z1 (ct T 0) So → OM T Sm → SM Z1 Sm → tr1 T Z a Z1 → bs (ro T Z a d (ct T 0)) (ct T 1) b x y → k + j = ct T 1 → j < m1 → j < m2 → ∃ b' So' Sm', o_best_49 m1 (nI a) (nI d) b x (nI k) So = some (b', So') ∧ m_best_51 m2 (nI a) (nI d) (Z (5 + a)) b y (nI k) Sm = some (b', Sm') ∧ SM Z Sm' ∧ Fr frB So So' ∧ Fr (fun x _ => x == 553) Sm Sm'
  | 0, k, m1, m2, Z1, So, Sm, b, x, y, hv, hT, hs, hs5, hO, hS, ht1, hb, hk, h1, h2 => by
    have hn := hw.b
    obtain ⟨m1, rfl, h1⟩ := fuel h1
    obtain ⟨m2, rfl, h2⟩ := fuel h2
    rw [Nat.add_zero] at hk
    subst hk
    refine ⟨b, So, wI Sm 553 (5 + a) (Z (5 + a)), ?_, ?_, fun i hi => ?_, Fr.rf, Fr.wI rfl⟩
    · rw [o_best_49, oq2 hv, if_pos hT.k, if_pos hT.sn.1, na_size hT.sn, bnq, if_neg (nI_nlt (Nat.le_refl _) (by omega))]
      rfl
    · rw [m_best_51, if_neg g1_12, c1, hO.n (by decide), hw.n (by decide), if_neg (nI_nlt (Nat.le_refl _) (by omega))]
      unfold m_best_121
      rw [show (5 : Int32) + nI a = nI (5 + a) from nI_add 5 a, if_neg (nI_in (by omega) (by omega)), nI_clamp (by omega), ltq]
    · by_cases q : i = 5 + a
      · rw [q, rI_wI]
      · rw [rI_wI_k q, hS i hi]
        rcases ht1 with rfl | ⟨y, -, rfl⟩
        · rfl
        · exact if_neg q
  | j + 1, k, m1, m2, Z1, So, Sm, b, x, y, hv, hT, hs, hs5, hO, hS, ht1, hb, hk, h1, h2 => by
    have hn := hw.b
    obtain ⟨m1, rfl, h1⟩ := fuel h1
    obtain ⟨m2, rfl, h2⟩ := fuel h2
    rw [o_best_49, oq2 hv, if_pos hT.k, if_pos hT.sn.1, na_size hT.sn, bnq, if_pos (nI_lt (by omega) (by omega)), sd_hasOther hz hs hn.1 (by omega), bnq, m_best_51, if_neg g1_12, c1, hO.n (by decide), hw.n (by decide), if_pos (nI_lt (by omega) (by omega)), m_isFree_ok hw (tr1_w ht1 hz hn.2.1) hO hS (by omega), bnq, tr1_f ht1]
    cases hf : freeB T Z k a with
    | false =>
      obtain ⟨b', So', Sm', e1, e2, e3, e4, e5⟩ := best_loop hw hz ha hd j (k + 1) m1 m2 Z1 So Sm b x y hv hT hs hs5 hO hS ht1 hb (by omega) (by omega) (by omega)
      refine ⟨b', So', Sm', ?_, ?_, e3, e4, e5⟩
      · rw [if_neg (show ¬ bI (!false) = 0 by decide)]
        unfold o_best_124
        rw [ltq, nI_1]
        exact e1
      · rw [if_pos bF]
        unfold m_best_115
        rw [ltq, nI_1]
        exact e2
    | true =>
      obtain ⟨S1, a1, a2, a3⟩ := sd_name hs5 (show a < 10 by omega) (nI k)
      rw [tr1_n ht1] at a2
      have hzn : WZ T (nameZ Z a (nI k)) := WZ_name hz (show k < ct T 1 by omega) hn.2.1
      have hv1 := (a3.q (frU_n (by decide) (by decide))).trans hv
      have hT1 : TD v T W V L S1 := hT.fr a3 fun a k q => frXU_U (frXU_t (by decide) q)
      obtain ⟨S2, b1', b2⟩ := o_lossOf_ok (u := 205) hw hzn (by decide) hv1 hT1 a2 ha hd
      have f2 : Fr frB So S2 := (a3.mo fun x k q => (Bool.or_eq_false_iff.mp q).1).tr (b2.mo fun x k q => (Bool.or_eq_false_iff.mp q).2)
      have g1 : Fr (fun x _ => x == 553) Sm (wI Sm 553 (5 + a) (nI k)) := Fr.wI rfl
      have hSn : SM (nameZ Z a (nI k)) (wI Sm 553 (5 + a) (nI k)) := fun i hi => by
        rw [← tr1_n ht1]
        unfold nameZ
        by_cases q : i = 5 + a
        · rw [q, rI_wI, if_pos rfl]
        · rw [rI_wI_k q, if_neg q, hS i hi]
      have hOn : OM T (wI Sm 553 (5 + a) (nI k)) := hO.fr g1 fun x k q => beq_eq_false_iff_ne.mpr (by omega)
      have em := m_lossOf_ok hw hzn hOn hSn hd
      have etl : tl T (nameZ Z a (nI k)) d (ct T 0) = lsA T (nameZ Z a (nI k)) a d + ro T Z a d (ct T 0) := by
        rw [tl_ro T _ a, decide_eq_true ha, ro_nm]
        rfl
      have hR := ro_le hw Z a d (ct T 0) (Nat.le_refl _)
      have hc := lsA_le hw (nameZ Z a (nI k)) ha d
      have go : ∀ b1 x1 y1 : Int32, bs (ro T Z a d (ct T 0)) (ct T 1) b1 x1 y1 → ∃ b' So' Sm', o_best_49 m1 (nI a) (nI d) b1 x1 (nI (k + 1)) S2 = some (b', So') ∧ m_best_51 m2 (nI a) (nI d) (Z (5 + a)) b1 y1 (nI (k + 1)) (wI Sm 553 (5 + a) (nI k)) = some (b', Sm') ∧ SM Z Sm' ∧ Fr frB So So' ∧ Fr (fun x _ => x == 553) Sm Sm' := by
        intro b1 x1 y1 hb1
        obtain ⟨b', So', Sm', e1, e2, e3, e4, e5⟩ := best_loop hw hz ha hd j (k + 1) m1 m2 (nameZ Z a (nI k)) S2 (wI Sm 553 (5 + a) (nI k)) b1 x1 y1 ((f2.q (frB_n (by decide))).trans hv) (hT.fr f2 fun x k q => by unfold ton at q; exact frB_n (by omega)) (hs.frw f2 (fun k => frB_n (by decide)) (fun k => frB_n (by decide))) (a2.frw b2 (fun k => fr18_n (by decide)) (fun k => fr18_n (by decide))) hOn hSn (Or.inr ⟨k, by omega, rfl⟩) hb1 (by omega) (by omega) (by omega)
        exact ⟨b', So', Sm', e1, e2, e3, f2.tr e4, g1.tr e5⟩
      have hnew : bs (ro T Z a d (ct T 0)) (ct T 1) (nI k) (nI (lsA T (nameZ Z a (nI k)) a d)) (nI (tl T (nameZ Z a (nI k)) d (ct T 0))) := Or.inr ⟨k, _, by omega, rfl, hc, rfl, by rw [etl]⟩
      unfold o_best_117 o_best_124 m_best_107 m_best_115
      rw [if_pos (show bI (!true) = 0 from rfl), a1, bnq, b1', bnq, if_neg bT, show (5 : Int32) + nI a = nI (5 + a) from nI_add 5 a, if_neg (nI_in (by omega) (by omega)), nI_clamp (by omega), ltq (wI Sm 553 (5 + a) (nI k)), em, bnq, ltq (nI k + 1), nI_1, ltq, ltq]
      rcases hb with rfl | ⟨k0, c0', hk0, rfl, hc0, rfl, rfl⟩
      · rw [if_pos rfl, if_pos (by decide)]
        exact go _ _ _ hnew
      · rw [if_neg (nI_m1 (by omega)), if_neg (nI_pos (by omega)), etl]
        by_cases q : lsA T (nameZ Z a (nI k)) a d < c0'
        · rw [if_pos (nI_lt q (by omega)), if_pos (nI_lt (by omega) (by omega)), ← etl]
          exact go _ _ _ hnew
        · rw [if_neg (nI_nlt (by omega) (by omega)), if_neg (nI_nlt (by omega) (by omega))]
          exact go _ _ _ (Or.inr ⟨k0, c0', hk0, rfl, hc0, rfl, rfl⟩)
theorem frB_O {x k : Nat} (h : PO x k = false) : frB x k = false := by
  unfold frB
  rw [frXU_U (PO_205 h), fr18_O h]
  rfl
theorem best_ok (h : Inv So Sm) (x y : Int32) : Sim (o_best x y So) (m_best x y Sm) () := by
  have hI := h
  obtain ⟨T, W, V, L, v, Z, d, ht, hz, hs, hu, hm, hp, hr⟩ := h
  have ht0 := ht
  obtain ⟨hw, hO, hL, hB, hv, hT⟩ := ht
  have hn := hw.b
  have hO1 : OM T (wI Sm 500 0 0) := hO.fr (th0 Sm) fun a k q => PQ_or q
  have hS1 : SM Z (wI Sm 500 0 0) := hz.2.1.fr (th0 Sm) fun k => rfl
  unfold o_best o_best_25 m_best m_best_31
  rw [ltq (wI Sm 500 0 0), m_isApple_ok hw hO1, bnq, sd_hangs hz.2.2 hz.1 hn.1, bnq]
  unfold hgB
  cases hx : inN x (ct T 0) with
  | false =>
    rw [if_pos bF, Bool.false_and, if_pos bF, ifs_same, ifs_same]
    exact ⟨_, _, _, rfl, rfl, hI.th⟩
  | true =>
    obtain ⟨a, ha, rfl⟩ := inN_of hx (by omega)
    rw [if_neg bT, Bool.true_and, nI_clamp (by omega), m_hangs_ok hS1 (by omega), bnq]
    cases htb : tb (Z 0) a with
    | false =>
      rw [if_pos bF, if_pos bF, ifs_same, ifs_same]
      exact ⟨_, _, _, rfl, rfl, hI.th⟩
    | true =>
      rw [if_neg bT, if_neg bT, m_within_ok, bnq]
      by_cases q1 : y < 1
      · rw [if_pos q1, decide_eq_true q1, if_pos (show bI (!true && _) = 0 from rfl)]
        exact ⟨_, _, _, rfl, rfl, hI.th⟩
      · rw [if_neg q1, decide_eq_false q1]
        by_cases q2 : (30 : Int32) < y
        · rw [if_pos q2, decide_eq_true q2, if_pos (show bI (!false && !true) = 0 from rfl)]
          exact ⟨_, _, _, rfl, rfl, hI.th⟩
        · rw [if_neg q2, decide_eq_false q2, if_neg (show ¬ bI (!false && !false) = 0 by decide)]
          have h0 : ¬ y < 0 := fun q => q1 (Int32.lt_trans q (by decide))
          obtain ⟨t, ht1, rfl⟩ := nI_of h0
          have ht2 : t ≤ 30 := Decidable.byContradiction fun q => q2 (nI_lt (a := 30) (by omega) ht1)
          obtain ⟨S1, a1, a2, a3⟩ := sd_copy (u := 205) (u2 := 200) ⟨rfl, rfl⟩ hz.1 hn.1 (by decide) (by decide) (by decide) hz.2.2.2.2.2.1
          have f1 : Fr frB So S1 := a3.mo fun x k q => (Bool.or_eq_false_iff.mp q).1
          obtain ⟨b', So', Sm', e1, e2, e3, e4, e5⟩ := best_loop (v := v) hw hz.2.2 ha (show t < 100 by omega) (ct T 1) 0 FU FU Z S1 (wI Sm 500 0 0) (-1) 0 0 ((f1.q (frB_n (by decide))).trans hv) (hT.fr f1 fun x k q => by unfold ton at q; exact frB_n (by omega)) (hz.1.frw f1 (fun k => frB_n (by decide)) (fun k => frB_n (by decide))) a2 hO1 hS1 (Or.inl rfl) (Or.inl rfl) (Nat.zero_add _) (by unfold FU; omega) (by unfold FU; omega)
          refine ⟨b', So', Sm', ?_, ?_, Inv.rd2 ht0 hz hs hu hm hp hr ((f1.tr e4).mo fun x k q => frB_O q) (((th0 Sm).mo fun x k q => PR_Q q).tr (e5.mo fun x k q => PR_S q)) e3⟩
          · rw [a1, bnq]
            exact e1
          · rw [show (5 : Int32) + nI a = nI (5 + a) from nI_add 5 a, if_neg (nI_in (by omega) (by omega)), nI_clamp (by omega), ltq, hS1 _ (by omega)]
            exact e2
end BEST
