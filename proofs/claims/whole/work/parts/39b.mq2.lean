/-! The reference's reads, the second part: falls, worths, calls; who can say what. -/
def frL : Nat → Nat → Bool := fun a k => a == 500 && k == 72
/-- what a call touches -/
def frC : Nat → Nat → Bool := fun a k => frV a k || frH a k || (a == 553 && (k == 0 || k == 1 || k == 4))
theorem frL_H {a k : Nat} (h : frH a k = false) : frL a k = false := by
  unfold frH at h
  unfold frL
  simp at h ⊢
  intro h1
  exact (h h1).2
theorem frC_o {a k : Nat} (h : (502 ≤ a ∧ a ≤ 523) ∨ (536 ≤ a ∧ a ≤ 539)) : frC a k = false := by
  unfold frC
  rw [frV_o h, frH_o h]
  have : (a == 553) = false := by simp; omega
  rw [this]
  rfl
theorem frV_C {a k : Nat} (h : frC a k = false) : frV a k = false := by
  unfold frC at h
  simp only [Bool.or_eq_false_iff] at h
  exact h.1.1
theorem frH_C {a k : Nat} (h : frC a k = false) : frH a k = false := by
  unfold frC at h
  simp only [Bool.or_eq_false_iff] at h
  exact h.1.2
theorem g0_15 : ¬ ((0 : Int32) < 0 ∨ 15 ≤ (0 : Int32).toNatClampNeg) := by decide
theorem g1_15 : ¬ ((1 : Int32) < 0 ∨ 15 ≤ (1 : Int32).toNatClampNeg) := by decide
theorem g2_15 : ¬ ((2 : Int32) < 0 ∨ 15 ≤ (2 : Int32).toNatClampNeg) := by decide
theorem g3_15 : ¬ ((3 : Int32) < 0 ∨ 15 ≤ (3 : Int32).toNatClampNeg) := by decide
theorem g4_15 : ¬ ((4 : Int32) < 0 ∨ 15 ≤ (4 : Int32).toNatClampNeg) := by decide
theorem g1_12 : ¬ ((1 : Int32) < 0 ∨ 12 ≤ (1 : Int32).toNatClampNeg) := by decide
theorem g2_12 : ¬ ((2 : Int32) < 0 ∨ 12 ≤ (2 : Int32).toNatClampNeg) := by decide
theorem g3_12 : ¬ ((3 : Int32) < 0 ∨ 12 ≤ (3 : Int32).toNatClampNeg) := by decide
theorem g4_12 : ¬ ((4 : Int32) < 0 ∨ 12 ≤ (4 : Int32).toNatClampNeg) := by decide
theorem g5_12 : ¬ ((5 : Int32) < 0 ∨ 12 ≤ (5 : Int32).toNatClampNeg) := by decide
section MQ2
variable {T : St} {W V : Nat → List Nat} {L : Int32 → Int32 → Int32} {Z : Nat → Int32} {S : St}
theorem twB_s (f : Int32) (k b : Nat) : twB T f (k + 1) b = (twB T f k b || (tb f k && decide (rI T 511 k = nI b))) := by
  unfold twB
  rw [List.range_succ, List.any_append]
  simp
theorem m_fallsBy_loop (hw : WF T W V) (hang f : Int32) (y : Int32) : ∀ (j k m : Nat) (S : St), OM T S → k + j = ct T 0 → j < m → ∃ S', m_fallsBy_45 m hang f (f ||| (hang &&& mk (ct T 0) (twB T f k))) (nI k) S = some (f ||| (hang &&& mk (ct T 0) (twB T f (ct T 0))), S') ∧ Fr frL S S' ∧ rI S' 500 72 = rI S 500 72 &&& (hang &&& ((f ||| (hang &&& mk (ct T 0) (twB T f (ct T 0)))) ^^^ (-1)))
  | 0, k, m, S, hO, hk, hm => by
    have hb := hw.b
    obtain ⟨m, rfl, hm⟩ := fuel hm
    rw [Nat.add_zero] at hk
    subst hk
    refine ⟨wI S 500 72 (rI S 500 72 &&& (hang &&& ((f ||| (hang &&& mk (ct T 0) (twB T f (ct T 0)))) ^^^ (-1)))), ?_, Fr.wI (by decide), rI_wI⟩
    rw [m_fallsBy_45, if_neg g0_12, c0, hO.n (by decide), hw.n (by decide), if_neg (nI_nlt (Nat.le_refl _) (by omega))]
    unfold m_fallsBy_99
    rw [ltq]
  | j + 1, k, m, S, hO, hk, hm => by
    have hb := hw.b
    obtain ⟨m, rfl, hm⟩ := fuel hm
    have hka : k < ct T 0 := by omega
    obtain ⟨S', d1, d2, d3⟩ := m_fallsBy_loop hw hang f y j (k + 1) m S hO (by omega) (by omega)
    refine ⟨S', ?_, d2, d3⟩
    rw [← d1, m_fallsBy_45, if_neg g0_12, c0, hO.n (by decide), hw.n (by decide), if_pos (nI_lt hka (by omega))]
    have e93 : ∀ x, m_fallsBy_93 (m_fallsBy_45 m) hang f x (nI k) S = m_fallsBy_45 m hang f x (nI (k + 1)) S := fun x => by
      unfold m_fallsBy_93
      rw [ltq, nI_1]
    have same : (∀ b, b < ct T 0 → (tb f k && decide (rI T 511 k = nI b)) = false) → mk (ct T 0) (twB T f (k + 1)) = mk (ct T 0) (twB T f k) := fun h => mk_ext fun b hb' => by
      rw [twB_s, h b hb', Bool.or_false]
    by_cases q : tb f k = true
    · rw [if_pos ((sr_one f (by omega)).mpr q), if_neg (nI_in (by omega) (by omega)), nI_clamp (by omega), hO.tw (by omega)]
      rcases hw.tw hka with h1 | ⟨h1, h2, h3⟩
      · rw [h1, if_pos (by decide), e93, same fun b hb' => by
          rw [h1, q, Bool.true_and]
          exact decide_eq_false fun e => nI_m1 (show b < 2 ^ 31 by omega) e.symm]
      · have hv := h1.2
        rw [h1.1, if_neg (nI_pos (by omega)), if_neg (nI_inC (by omega) (by omega)), ltq, e93]
        congr 1
        apply tb_ext
        intro i hi
        rw [tb_or, tb_or, tb_or, tb_and, tb_and, tb_and, tb_mk _ _ _ (by omega) hi, tb_mk _ _ _ (by omega) hi, tb_sh1 (by omega) hi, twB_s, q, h1.1]
        by_cases hi2 : i < ct T 0
        · have e4 : decide (nI (vN T 511 k) = nI i) = decide (i = vN T 511 k) := by
            by_cases e5 : i = vN T 511 k
            · rw [e5]; simp
            · rw [decide_eq_false e5, decide_eq_false (fun e6 => e5 (nI_ofs e6 (by omega) (by omega)).symm)]
          rw [e4, decide_eq_true hi2, Bool.true_and, Bool.true_and, Bool.true_and]
          cases tb f i <;> cases tb hang i <;> cases twB T f k i <;> simp
        · have e5 : ¬ i = vN T 511 k := by omega
          rw [decide_eq_false e5, decide_eq_false hi2]
          simp
    · have q' : tb f k = false := by
        cases h : tb f k
        · rfl
        · exact absurd h q
      rw [if_neg (fun e => q ((sr_one f (by omega)).mp e)), e93, same fun b _ => by rw [q', Bool.false_and]]
theorem m_fallsBy_ok (hw : WF T W V) (hO : OM T S) (hang loose heard half : Int32) : ∃ S', m_fallsBy hang loose heard half S = some (flA T hang loose heard half, S') ∧ Fr frL S S' ∧ rI S' 500 72 = lsT T hang loose heard half := by
  have hb := hw.b
  have f1 : Fr frL S (wI S 500 72 (loose ||| (hang &&& ((heard &&& srt T 2) ||| half)))) := Fr.wI (by decide)
  obtain ⟨S', d1, d2, d3⟩ := m_fallsBy_loop hw hang (fl0 T hang loose heard half) 0 (ct T 0) 0 FU _ (hO.fr f1 fun a k q => frL_H (frH_o q)) (Nat.zero_add _) (by unfold FU; omega)
  refine ⟨S', ?_, f1.tr d2, ?_⟩
  · unfold m_fallsBy
    rw [m_welsh_ok hw hO, bnq, ltq, ltq]
    have e0 : fl0 T hang loose heard half ||| (hang &&& mk (ct T 0) (twB T (fl0 T hang loose heard half) 0)) = fl0 T hang loose heard half := by
      have : mk (ct T 0) (twB T (fl0 T hang loose heard half) 0) = 0 := by
        apply tb_ext
        intro i hi
        rw [tb_mk _ _ _ (by omega) hi, tb_z]
        simp [twB]
      rw [this, Int32.and_zero, Int32.or_zero]
    rw [e0] at d1
    exact d1
  · rw [d3, rI_wI]
    rfl
theorem m_worthOf_loop (hw : WF T W V) (hL : LawV T L) (x day : Int32) : ∀ (j k m : Nat) (S : St), OM T S → k + j = ct T 0 → j < m → ∃ S', m_worthOf_5 m x day (sm k fun a => bif tb x a then vlA T L a day else 0) (nI k) S = some (vlS T L x day, S') ∧ Fr frV S S'
  | 0, k, m, S, hO, hk, hm => by
    have hb := hw.b
    obtain ⟨m, rfl, hm⟩ := fuel hm
    rw [Nat.add_zero] at hk
    subst hk
    refine ⟨S, ?_, Fr.rf⟩
    rw [m_worthOf_5, if_neg g0_12, c0, hO.n (by decide), hw.n (by decide), if_neg (nI_nlt (Nat.le_refl _) (by omega))]
    rfl
  | j + 1, k, m, S, hO, hk, hm => by
    have hb := hw.b
    obtain ⟨m, rfl, hm⟩ := fuel hm
    have hka : k < ct T 0 := by omega
    rw [m_worthOf_5, if_neg g0_12, c0, hO.n (by decide), hw.n (by decide), if_pos (nI_lt hka (by omega))]
    cases q : tb x k with
    | true =>
      obtain ⟨S1, e1, e2⟩ := m_valueOn_ok hw hL hO hka day
      obtain ⟨S2, e3, e4⟩ := m_worthOf_loop hw hL x day j (k + 1) m S1 (hO.fr e2 fun a k q => frV_o q) (by omega) (by omega)
      refine ⟨S2, ?_, e2.tr e4⟩
      rw [if_pos ((sr_one x (by omega)).mpr q), e1, bnq]
      unfold m_worthOf_38
      rw [ltq, ltq, nI_1, ← e3, sm, q]
      rfl
    | false =>
      obtain ⟨S2, e3, e4⟩ := m_worthOf_loop hw hL x day j (k + 1) m S hO (by omega) (by omega)
      refine ⟨S2, ?_, e4⟩
      rw [if_neg (fun e => by rw [(sr_one x (by omega)).mp e] at q; cases q)]
      unfold m_worthOf_38
      rw [ltq, ltq, nI_1, ← e3, sm, q]
      rfl
theorem m_worthOf_ok (hw : WF T W V) (hL : LawV T L) (hO : OM T S) (x day : Int32) : ∃ S', m_worthOf x day S = some (vlS T L x day, S') ∧ Fr frV S S' := by
  have hb := hw.b
  exact m_worthOf_loop hw hL x day (ct T 0) 0 FU S hO (Nat.zero_add _) (by unfold FU; omega)
theorem m_calls_ok (hw : WF T W V) (hL : LawV T L) (hz : WZ T Z) (hO : OM T S) (hS : SM Z S) {c l w : Nat} (hc : c < ct T 1) (hl : l < 12) (hww : w < 7) : ∃ S', m_calls (nI c) (nI l) (nI w) S = some (cryF T Z c l w, S') ∧ SM (cryZ T L Z c l w) S' ∧ Fr frC S S' := by
  obtain ⟨S1, a1, a2, a3, a4⟩ := m_hears_ok hw hz hO hS hc hl hww
  have hO1 := hO.fr a2 fun a k q => frH_o q
  have hS1 := hS.fr a2 fun k => rfl
  obtain ⟨S2, b1, b2, b3⟩ := m_fallsBy_ok (S := S1) hw hO1 (Z 0) (Z 1) (whM T Z c l w) (ecM T Z c l w)
  have f2 : Fr frC S S2 := (a2.mo fun a k q => frH_C q).tr (b2.mo fun a k q => frL_H (frH_C q))
  have hO2 := hO.fr f2 fun a k q => frC_o q
  have hS2 := hS1.fr b2 fun k => rfl
  generalize hS3 : wI (wI S2 553 0 (Z 0 &&& (cryF T Z c l w ^^^ (-1)))) 553 1 (lsT T (Z 0) (Z 1) (whM T Z c l w) (ecM T Z c l w)) = S3
  have f3 : Fr frC S2 S3 := hS3 ▸ (Fr.wI (by decide)).tr (Fr.wI (by decide))
  have hO3 := hO2.fr f3 fun a k q => frC_o q
  obtain ⟨S4, d1, d2⟩ := m_worthOf_ok (S := S3) hw hL hO3 (cryF T Z c l w) (Z 2)
  have r3 : ∀ k, k < 15 → rI S3 553 k = if k = 0 then Z 0 &&& (cryF T Z c l w ^^^ (-1)) else if k = 1 then lsT T (Z 0) (Z 1) (whM T Z c l w) (ecM T Z c l w) else Z k := fun k hk => by
    rw [← hS3]
    by_cases k0 : k = 0
    · rw [k0, rI_wI_k (by decide), rI_wI, if_pos rfl]
    · by_cases k1 : k = 1
      · rw [k1, rI_wI, if_neg (by decide), if_pos rfl]
      · rw [rI_wI_k k1, rI_wI_k k0, if_neg k0, if_neg k1, hS2 k hk]
  refine ⟨wI S4 553 4 (Z 4 + vlS T L (cryF T Z c l w) (Z 2)), ?_, fun k hk => ?_, f2.tr (f3.tr ((d2.mo fun a k q => frV_C q).tr (Fr.wI (by decide))))⟩
  · unfold m_calls
    rw [a1, bnq, if_neg g0_15, if_neg g1_15, c0, c1, hS1 0 (by decide), hS1 1 (by decide), a3, a4, b1, bnq, if_neg (by decide), if_neg (by decide), ltq, hS2 0 (by decide), if_neg (by decide), ltq, rI_wI_a (S := S2) (b := 500) (a := 553) (by decide), b3]
    rw [show flA T (Z 0) (Z 1) (whM T Z c l w) (ecM T Z c l w) = cryF T Z c l w from rfl, hS3, if_neg g4_15, if_neg g2_15, c2, c4, r3 2 (by decide), r3 4 (by decide), if_neg (by decide), if_neg (by decide), if_neg (by decide), if_neg (by decide), d1, bnq, if_neg (by decide), ltq]
  · unfold cryZ
    by_cases k4 : k = 4
    · rw [k4, rI_wI, if_neg (by decide), if_neg (by decide), if_pos rfl]
    · rw [rI_wI_k k4, d2.i rfl, r3 k hk]
      by_cases k0 : k = 0
      · rw [if_pos k0, if_pos k0]
      · rw [if_neg k0, if_neg k0]
        by_cases k1 : k = 1
        · rw [if_pos k1, if_pos k1]
        · rw [if_neg k1, if_neg k1, if_neg k4]
/-! who can say what -/
def sayB (T : St) (W : Nat → List Nat) (p k : Nat) : Bool := decide (vN T 514 p = 0) || !decide (vN T 514 p ∈ W k)
theorem m_isSaid_loop (hw : WF T W V) (hO : OM T S) {p : Nat} (hp : p < ct T 2) : ∀ (t : List Nat) (m : Nat), okW t → t.length < m → m_isSaid_18 m (nI p) (lN (q27 t)) S = some (bI (!decide (vN T 514 p ∈ t)), S)
  | [], m, ht, hm => by
    obtain ⟨m, rfl, hm⟩ := fuel hm
    rw [m_isSaid_18, if_neg (by rw [lg_cmp_gt]; decide)]
    unfold m_isSaid_51
    simp [bI]
  | c :: t, m, ht, hm => by
    obtain ⟨m, rfl, hm⟩ := fuel hm
    have hb := hw.b
    have hB := q27_B ht.2 ht.1
    have hB' := q27_B ht.tl.2 ht.tl.1
    have hpos := q27_pos (t := t) ht.hd.1
    have hmu := (hw.pe hp).2.2
    have e27 : (27 : Int64) = lN 27 := rfl
    rw [List.length_cons] at hm
    rw [m_isSaid_18, if_pos (by
      rw [lg_cmp_gt, show (0 : Int64) = lN 0 from rfl, lN_ltB (by decide) (by omega)]
      exact hpos), if_neg (nI_in (by omega) (by omega)), nI_clamp (by omega), hO.mu (by omega), hmu.1, nI_l (by have := hmu.2; omega), e27, lN_mod (by omega) (by decide), q27_mod ht.hd.2, lN_div (by omega) (by decide), q27_div ht.hd.2, ltq]
    by_cases q : c = vN T 514 p
    · rw [if_pos (by rw [lg_cmp_eq, q])]
      unfold m_isSaid_40
      simp [bI, q]
    · rw [if_neg (by
        rw [lg_cmp_eq, lN_eqB (by have := ht.hd; omega) (by have := hmu.2; omega)]
        exact q), m_isSaid_loop hw hO hp t m ht.tl (by omega)]
      have : (vN T 514 p ∈ c :: t) ↔ vN T 514 p ∈ t := by
        rw [List.mem_cons]
        constructor
        · rintro (h | h)
          · exact absurd h.symm q
          · exact h
        · exact Or.inr
      rw [decide_eq_decide.mpr this]
theorem m_isSaid_ok (hw : WF T W V) (hO : OM T S) {p k : Nat} (hp : p < ct T 2) (hk : k < ct T 1) : m_isSaid (nI p) (nI k) S = some (bI (sayB T W p k), S) := by
  have hb := hw.b
  have hmu := (hw.pe hp).2.2
  have hwk := hw.w hk
  unfold m_isSaid sayB
  rw [if_neg (nI_in (by omega) (by omega)), nI_clamp (show p < 2 ^ 31 by omega), hO.mu (by omega), hmu.1]
  by_cases q : vN T 514 p = 0
  · rw [if_pos (by rw [q]; rfl), decide_eq_true q]
    rfl
  · rw [if_neg (show ¬ nI (vN T 514 p) = 0 from nI_ne (b := 0) q (by have := hmu.2; omega) (by omega)), if_neg (nI_in (by omega) (by omega)), nI_clamp (by omega), hO.sw (by omega), hwk.2, ltq, p27_q, m_isSaid_loop hw hO hp (W k).reverse FU ⟨by rw [List.length_reverse]; exact hwk.1.2.1, rev_ok hwk.1.2.2⟩ (by rw [List.length_reverse]; have := hwk.1.2.1; unfold FU; omega), decide_eq_false q, Bool.false_or]
    rw [decide_eq_decide.mpr List.mem_reverse]
/-! whether there is one -/
def inN (x : Int32) (n : Nat) : Bool := !decide (x < 0) && decide (x < nI n)
theorem inN_nI {k n : Nat} (hk : k < 2 ^ 31) (hn : n < 2 ^ 31) : inN (nI k) n = decide (k < n) := by
  unfold inN
  rw [decide_eq_false (nI_pos hk), decide_eq_decide.mpr (nI_ltI hk hn)]
  rfl
theorem inN_of {x : Int32} {n : Nat} (h : inN x n = true) (hn : n < 2 ^ 31) : ∃ k, k < n ∧ x = nI k := by
  unfold inN at h
  simp at h
  obtain ⟨k, hk, rfl⟩ := nI_of (x := x) (by simpa using h.1)
  exact ⟨k, (nI_ltI hk hn).mp h.2, rfl⟩
theorem m_isApple_ok (hw : WF T W V) (hO : OM T S) (x : Int32) : m_isApple x S = some (bI (inN x (ct T 0)), S) := by
  unfold m_isApple m_isApple_18 m_isApple_19 inN
  rw [if_neg g0_12, c0, hO.n (by decide), hw.n (by decide)]
  by_cases h1 : x < 0
  · rw [if_pos h1, if_pos b0, decide_eq_true h1]
    rfl
  · rw [if_neg h1, decide_eq_false h1]
    by_cases h2 : x < nI (ct T 0)
    · rw [if_pos h2, if_pos b1, decide_eq_true h2]
      rfl
    · rw [if_neg h2, if_pos b0, decide_eq_false h2]
      rfl
theorem m_isSound_ok (hw : WF T W V) (hO : OM T S) (x : Int32) : m_isSound x S = some (bI (inN x (ct T 1)), S) := by
  unfold m_isSound m_isSound_18 m_isSound_19 inN
  rw [if_neg g1_12, c1, hO.n (by decide), hw.n (by decide)]
  by_cases h1 : x < 0
  · rw [if_pos h1, if_pos b0, decide_eq_true h1]
    rfl
  · rw [if_neg h1, decide_eq_false h1]
    by_cases h2 : x < nI (ct T 1)
    · rw [if_pos h2, if_pos b1, decide_eq_true h2]
      rfl
    · rw [if_neg h2, if_pos b0, decide_eq_false h2]
      rfl
theorem m_isPerson_ok (hw : WF T W V) (hO : OM T S) (x : Int32) : m_isPerson x S = some (bI (inN x (ct T 2)), S) := by
  unfold m_isPerson m_isPerson_18 m_isPerson_19 inN
  rw [if_neg g2_12, c2, hO.n (by decide), hw.n (by decide)]
  by_cases h1 : x < 0
  · rw [if_pos h1, if_pos b0, decide_eq_true h1]
    rfl
  · rw [if_neg h1, decide_eq_false h1]
    by_cases h2 : x < nI (ct T 2)
    · rw [if_pos h2, if_pos b1, decide_eq_true h2]
      rfl
    · rw [if_neg h2, if_pos b0, decide_eq_false h2]
      rfl
theorem m_hangs_ok (hS : SM Z S) {a : Nat} (ha : a < 32) : m_hangs (nI a) S = some (bI (tb (Z 0) a), S) := by
  unfold m_hangs m_hangs_19
  rw [if_neg g0_15, c0, hS 0 (by decide)]
  cases q : tb (Z 0) a with
  | true =>
    rw [if_pos ((sr_one _ ha).mpr q), if_pos b1]
    rfl
  | false =>
    rw [if_neg (fun e => by rw [(sr_one _ ha).mp e] at q; cases q), if_pos b0]
    rfl
theorem m_within_ok (x lo' hi' : Int32) (S : St) : m_within x lo' hi' S = some (bI (!decide (x < lo') && !decide (hi' < x)), S) := by
  unfold m_within m_within_14 m_within_15
  by_cases h1 : x < lo'
  · rw [if_pos h1, if_pos b0, decide_eq_true h1]
    rfl
  · rw [if_neg h1, decide_eq_false h1]
    by_cases h2 : hi' < x
    · rw [if_pos h2, if_pos b0, decide_eq_true h2]
      rfl
    · rw [if_neg h2, if_pos b1, decide_eq_false h2]
      rfl
end MQ2
