/-! Public methods: reads of one thing. -/
/-- both sides answer alike, and stay held together -/
def Sim {α : Type} (o m : Re α) (_ : Unit) : Prop := ∃ r So' Sm', o = some (r, So') ∧ m = some (r, Sm') ∧ Inv So' Sm'
theorem th0 (S : St) : Fr PQ S (wI S 500 0 0) := Fr.wI rfl
theorem Inv.th {So Sm : St} (h : Inv So Sm) : Inv So (wI Sm 500 0 0) := h.rd Fr.rf (th0 Sm)
/-! how many bits -/
def bcS (x : Int32) : Int32 := sm 10 fun i => bI (tb x i)
def bcJ (v0 : Int32) : Int32 :=
  let x1 := v0 - ((v0.toUInt32 >>> ((1 : Int32).toUInt32 &&& Int32.toUInt32 31)).toInt32 &&& (1431655765 : Int32))
  let x2 := (x1 &&& (858993459 : Int32)) + ((x1.toUInt32 >>> ((2 : Int32).toUInt32 &&& Int32.toUInt32 31)).toInt32 &&& (858993459 : Int32))
  let x3 := (x2 + (x2.toUInt32 >>> ((4 : Int32).toUInt32 &&& Int32.toUInt32 31)).toInt32) &&& (252645135 : Int32)
  let x4 := x3 + (x3.toUInt32 >>> ((8 : Int32).toUInt32 &&& Int32.toUInt32 31)).toInt32
  let x5 := x4 + (x4.toUInt32 >>> ((16 : Int32).toUInt32 &&& Int32.toUInt32 31)).toInt32
  x5 &&& (63 : Int32)
def bsF (x : Int32) : Nat → Nat → Int32 → Int32
  | _, 0, a => a
  | k, j + 1, a => bsF x (k + 1) j (a + ((x >>> (nI k &&& 31)) &&& (1 : Int32)))
theorem bc_all : ∀ n, n < 1024 → bcJ (nI n) = bcS (nI n) ∧ bsF (nI n) 0 16 0 = bcS (nI n) := by decide +kernel
theorem lo10 {x : Int32} (h : lo 10 x) : ∃ n, n < 1024 ∧ x = nI n := by
  have e : x = x &&& 1023 := by
    apply tb_ext
    intro i hi
    have h1 : ∀ i, i < 32 → tb 1023 i = decide (i < 10) := by decide +kernel
    rw [tb_and, h1 i hi]
    by_cases q : i < 10
    · rw [decide_eq_true q, Bool.and_true]
    · rw [h i (by omega) hi, Bool.false_and]
  rw [pk_and x 10 (by decide)] at e
  exact ⟨_, Nat.mod_lt _ (by decide), e⟩
theorem j_bitCount {x : Int32} (h : lo 10 x) (S : St) : o_j_bitCount x S = some (bcS x, S) := by
  obtain ⟨n, hn, rfl⟩ := lo10 h
  rw [← (bc_all n hn).1]
  unfold o_j_bitCount
  rw [ltq, ltq, ltq, ltq, ltq]
  rfl
theorem m_bits_loop (x : Int32) (S : St) : ∀ (j k m : Nat) (a : Int32), k + j = 16 → j < m → m_bits_4 m x a (nI k) S = some (bsF x k j a, S)
  | 0, k, m, a, hk, hm => by
    obtain ⟨m, rfl, hm⟩ := fuel hm
    obtain rfl : k = 16 := by omega
    rw [m_bits_4, if_neg (by decide)]
    rfl
  | j + 1, k, m, a, hk, hm => by
    obtain ⟨m, rfl, hm⟩ := fuel hm
    rw [m_bits_4, show (16 : Int32) = nI 16 from rfl, if_pos (nI_lt (by omega) (by omega)), ltq, ltq, nI_1, m_bits_loop x S j (k + 1) m _ (by omega) (by omega)]
    rfl
theorem m_bits_ok {x : Int32} (h : lo 10 x) (S : St) : m_bits x S = some (bcS x, S) := by
  obtain ⟨n, hn, rfl⟩ := lo10 h
  rw [← (bc_all n hn).2]
  exact m_bits_loop (nI n) S 16 0 FU 0 rfl (by unfold FU; omega)
section PUB1
variable {So Sm : St}
theorem oq2 {β : Type} {o : Option Nat} {b : Nat} (h : o = some b) (a : β) (k : Nat → β) : oq o a k = k b := by
  rw [h]
  exact congrArg (fun f : Option Nat → β → (Nat → β) → β => f (some b) a k) (show (oq : Option Nat → β → (Nat → β) → β) = oq from rfl) |>.trans (oq_some b a k)
theorem says_ok (h : Inv So Sm) (p k : Int32) : Sim (o_says p k So) (m_says p k Sm) () := by
  have hI := h
  obtain ⟨T, W, V, L, v, Z, d, ht, hz, -, -, -, -, -⟩ := h
  obtain ⟨hw, hO, hL, hB, hv, hT⟩ := ht
  have hn := hw.b
  have hO1 : OM T (wI Sm 500 0 0) := hO.fr (th0 Sm) fun a k q => PQ_or q
  unfold o_says o_says_22 o_says_41 m_says m_says_38 m_says_39
  rw [oq2 hv, if_pos hT.k, to_hasPerson hT, bnq, ltq, m_isPerson_ok hw hO1, bnq]
  cases hp : inN p (ct T 2) with
  | false =>
    rw [if_pos bF, if_pos bF]
    exact ⟨_, _, _, rfl, rfl, hI.th⟩
  | true =>
    rw [if_neg bT, if_neg bT, oq2 hv, if_pos hT.k, to_hasSound hT, bnq, m_isSound_ok hw hO1, bnq]
    cases hk : inN k (ct T 1) with
    | false =>
      rw [if_pos bF, if_pos bF]
      exact ⟨_, _, _, rfl, rfl, hI.th⟩
    | true =>
      rw [if_neg bT, if_neg bT, oq2 hv, if_pos hT.k, to_canSay hw hT, bnq]
      unfold cayB
      rw [hp, hk]
      obtain ⟨i, hi, rfl⟩ := inN_of hp (by omega)
      obtain ⟨j, hj, rfl⟩ := inN_of hk (by omega)
      rw [m_isSaid_ok hw hO1 hi hj, bnq, nI_clamp (by omega), nI_clamp (by omega), Bool.true_and, Bool.true_and]
      cases sayB T W i j with
      | false =>
        rw [if_pos bF, if_pos bF]
        exact ⟨_, _, _, rfl, rfl, hI.th⟩
      | true =>
        rw [if_neg bT, if_neg bT]
        exact ⟨_, _, _, rfl, rfl, hI.th⟩
theorem falls_ok (h : Inv So Sm) (p k : Int32) : Sim (o_falls p k So) (m_falls p k Sm) () := by
  have hI := h
  obtain ⟨T, W, V, L, v, Z, d, ht, hz, -, -, -, -, -⟩ := h
  obtain ⟨hw, hO, hL, hB, hv, hT⟩ := ht
  have hn := hw.b
  have hO1 : OM T (wI Sm 500 0 0) := hO.fr (th0 Sm) fun a k q => PQ_or q
  have hS1 : SM Z (wI Sm 500 0 0) := hz.2.1.fr (th0 Sm) fun k => rfl
  unfold o_falls m_falls m_falls_30
  rw [oq2 hv, if_pos hT.k, to_canSay hw hT, bnq, ltq, m_isPerson_ok hw hO1, bnq]
  unfold cayB
  cases hp : inN p (ct T 2) with
  | false =>
    rw [if_pos bF, Bool.false_and, if_pos bF]
    exact ⟨_, _, _, rfl, rfl, hI.th⟩
  | true =>
    rw [if_neg bT, m_isSound_ok hw hO1, bnq, Bool.true_and]
    cases hk : inN k (ct T 1) with
    | false =>
      rw [if_pos bF, Bool.false_and, if_pos bF]
      exact ⟨_, _, _, rfl, rfl, hI.th⟩
    | true =>
      obtain ⟨i, hi, rfl⟩ := inN_of hp (by omega)
      obtain ⟨j, hj, rfl⟩ := inN_of hk (by omega)
      rw [if_neg bT, m_isSaid_ok hw hO1 hi hj, bnq, nI_clamp (by omega), nI_clamp (by omega), Bool.true_and]
      cases sayB T W i j with
      | false =>
        rw [if_pos bF, if_pos bF]
        exact ⟨_, _, _, rfl, rfl, hI.th⟩
      | true =>
        have hpe := hw.pe hi
        rw [if_neg bT, if_neg bT, oq2 hv, oq2 hv, if_pos hT.k, to_laneOf hT hi, bnq, oq2 hv, if_pos hT.k, to_loudOf hT hi, bnq, hpe.1.1, hpe.2.1.1, sd_fallers hw hz.2.2 hT hz.1 hj hpe.1.2 hpe.2.1.2, bnq]
        obtain ⟨S1, a1, a2, a3, a4⟩ := m_hears_ok hw hz.2.2 hO1 hS1 hj hpe.1.2 hpe.2.1.2
        have hO2 := hO1.fr a2 fun a k q => frH_o q
        have hS2 := hS1.fr a2 fun k => rfl
        obtain ⟨S2, b1', b2, b3⟩ := m_fallsBy_ok (S := S1) hw hO2 (Z 0) (Z 1) (whM T Z j (vN T 512 i) (vN T 513 i)) (ecM T Z j (vN T 512 i) (vN T 513 i))
        have frHQ : ∀ a k, PQ a k = false → frH a k = false := fun a k q => by
          unfold PQ at q
          unfold frH
          by_cases h5 : a = 500
          · subst h5
            simp at q
            by_cases h1 : k = 1
            · subst h1; rfl
            · have := q h1
              subst this
              rfl
          · have : (a == 500) = false := by simpa using h5
            rw [this]
            rfl
        refine ⟨_, _, _, rfl, ?_, hI.rd Fr.rf ((th0 Sm).tr ((a2.mo frHQ).tr (b2.mo fun a k q => frL_H (frHQ a k q))))⟩
        rw [if_neg (nI_inC (by omega) (by omega)), if_neg (nI_inC (by omega) (by omega)), hO1.la (by omega), hO1.lo (by omega), hpe.1.1, hpe.2.1.1, a1, bnq, if_neg g0_15, if_neg g1_15, c0, c1, hS2 0 (by decide), hS2 1 (by decide), a3, a4, b1', bnq]
        rfl
theorem frR_O {v a k : Nat} (hv : v = 20 ∨ v = 21) (h : PO a k = false) : frR (v + 2) a k = false := by
  unfold PO frX at h
  unfold frR
  simp at h ⊢
  omega
theorem rI_th (S : St) (a k : Nat) (h : a ≠ 500) : rI (wI S 500 0 0) a k = rI S a k := rI_wI_a h
theorem x16 (i j : Nat) : (16 : Int32) * nI i + nI j = nI (16 * i + j) := by
  rw [show (16 : Int32) = nI 16 from rfl, nI_mul, nI_add]
theorem ti_neg {x : Int32} (h : x < 0) {c : Int} (hc : 0 ≤ c) : ¬ x.toInt = c := by
  rw [Int32.lt_iff_toInt_lt] at h
  have h0 : (0 : Int32).toInt = 0 := by decide
  omega
theorem ti_big {k : Nat} {c : Int} (h : c < (k : Int)) (hk : k < 2 ^ 31) : ¬ (nI k).toInt = c := by
  rw [nI_toInt hk]
  omega
theorem near_ok (h : Inv So Sm) (x y w : Int32) : Sim (o_near x y w So) (m_near x y w Sm) () := by
  have hI := h
  obtain ⟨T, W, V, L, v, Z, d, ht, hz, -, -, -, -, -⟩ := h
  obtain ⟨hw, hO, hL, hB, hv, hT⟩ := ht
  have hn := hw.b
  have hO1 : OM T (wI Sm 500 0 0) := hO.fr (th0 Sm) fun a k q => PQ_or q
  unfold o_near o_near_22 m_near m_near_30
  rw [oq2 hv, if_pos hT.k, to_hasSound hT, bnq, ltq, m_isSound_ok hw hO1, bnq]
  cases hx : inN x (ct T 1) with
  | false =>
    rw [if_pos bF, if_pos bF]
    exact ⟨_, _, _, rfl, rfl, hI.th⟩
  | true =>
    rw [if_neg bT, if_neg bT, oq2 hv, if_pos hT.k, to_hasSound hT, bnq, m_isSound_ok hw hO1, bnq]
    cases hy : inN y (ct T 1) with
    | false =>
      rw [if_pos bF, if_pos bF]
      exact ⟨_, _, _, rfl, rfl, hI.th⟩
    | true =>
      obtain ⟨i, hi, rfl⟩ := inN_of hx (by omega)
      obtain ⟨j, hj, rfl⟩ := inN_of hy (by omega)
      have hnr := hw.nr hi hj
      have g : ¬ (nI (16 * i + j) < 0 ∨ 256 ≤ (nI (16 * i + j)).toNatClampNeg) := nI_in (by omega) (by omega)
      have g' := nI_clamp (n := 16 * i + j) (by omega)
      rw [if_neg bT, if_neg bT, m_within_ok, bnq, x16]
      unfold m_near_99
      rcases nI_or w 4 (by decide) with q | ⟨k, hk, rfl⟩ | ⟨k, hk, hk2, rfl⟩
      · rw [if_neg (ti_neg q (by decide)), if_neg (ti_neg q (by decide)), if_neg (ti_neg q (by decide)), if_neg (ti_neg q (by decide)), decide_eq_true q, if_pos (show bI (!true && _) = 0 from rfl)]
        exact ⟨_, _, _, rfl, rfl, hI.th⟩
      · rcases (show k = 0 ∨ k = 1 ∨ k = 2 ∨ k = 3 by omega) with rfl | rfl | rfl | rfl
        · obtain ⟨S', e1, e2⟩ := na_edits hT.sn hi hj
          refine ⟨nI (edt (W i) (W j)), S', wI Sm 500 0 0, ?_, ?_, hI.rd (e2.mo fun a k q => frR_O hT.1 q) (th0 Sm)⟩
          · rw [if_pos (by decide), oq2 hv, if_pos hT.k, if_pos hT.sn.1, e1, bnq]
          · rw [if_neg (by decide), ltq, if_pos (by decide), if_neg g, g', hO1.ed, hnr.1]
        · refine ⟨nI (cpl (W i) (W j)), So, wI Sm 500 0 0, ?_, ?_, hI.th⟩
          · rw [if_neg (by decide), if_pos (by decide), oq2 hv, if_pos hT.k, if_pos hT.sn.1, na_start hT.sn hi hj, bnq]
          · rw [if_neg (by decide), ltq, if_neg (by decide), if_pos (by decide), if_neg g, g', hO1.st, hnr.2.1]
        · refine ⟨nI (csl (W i) (W j)), So, wI Sm 500 0 0, ?_, ?_, hI.th⟩
          · rw [if_neg (by decide), if_neg (by decide), if_pos (by decide), oq2 hv, if_pos hT.k, if_pos hT.sn.1, na_rhyme hT.sn hi hj, bnq]
          · rw [if_neg (by decide), ltq, if_neg (by decide), if_neg (by decide), if_pos (by decide), if_neg g, g', hO1.rh, hnr.2.2.1]
        · obtain ⟨b, hb⟩ := hnr.2.2.2
          refine ⟨bI b, So, wI Sm 500 0 0, ?_, ?_, hI.th⟩
          · rw [if_neg (by decide), if_neg (by decide), if_neg (by decide), if_pos (by decide), oq2 hv, if_pos hT.k, to_nearTo hT hi (by omega), bnq, tb_sr _ (by omega), tb_mk _ _ _ (by omega) (by omega), decide_eq_true hj, Bool.true_and, hb]
            cases b <;> rfl
          · rw [if_neg (by decide), ltq, if_neg (by decide), if_neg (by decide), if_neg (by decide), if_neg g, g', hO1.nr, hb]
            cases b <;> rfl
      · rw [if_neg (ti_big (by omega) hk2), if_neg (ti_big (by omega) hk2), if_neg (ti_big (by omega) hk2), if_neg (ti_big (by omega) hk2), decide_eq_false (nI_pos hk2), decide_eq_true (show (3 : Int32) < nI k from nI_lt (a := 3) (by omega) hk2), if_pos (by decide)]
        exact ⟨_, _, _, rfl, rfl, hI.th⟩
theorem frX_O {a k : Nat} (h : PO a k = false) : frX a k = false := by
  unfold PO at h
  simp only [Bool.or_eq_false_iff] at h
  exact h.1.1.1.1.1
theorem frV_Q {a k : Nat} (h : PQ a k = false) : frV a k = false := by
  unfold PQ at h
  unfold frV
  simp at h ⊢
  omega
theorem apple_ok (h : Inv So Sm) (x w : Int32) : Sim (o_apple x w So) (m_apple x w Sm) () := by
  have hI := h
  obtain ⟨T, W, V, L, v, Z, d, ht, hz, -, -, -, -, -⟩ := h
  obtain ⟨hw, hO, hL, hB, hv, hT⟩ := ht
  have hn := hw.b
  have hO1 : OM T (wI Sm 500 0 0) := hO.fr (th0 Sm) fun a k q => PQ_or q
  have hS1 : SM Z (wI Sm 500 0 0) := hz.2.1.fr (th0 Sm) fun k => rfl
  unfold o_apple m_apple m_apple_23
  rw [oq2 hv, if_pos hT.k, to_hasApple hT, bnq, ltq, m_isApple_ok hw hO1, bnq]
  cases hx : inN x (ct T 0) with
  | false =>
    rw [if_pos bF, if_pos bF]
    exact ⟨_, _, _, rfl, rfl, hI.th⟩
  | true =>
    obtain ⟨i, hi, rfl⟩ := inN_of hx (by omega)
    have g : ¬ (nI i < 0 ∨ 20 ≤ (nI i).toNatClampNeg) := nI_in (by omega) (by omega)
    have g' := nI_clamp (n := i) (by omega)
    have e5 : (5 : Int32) + nI i = nI (5 + i) := nI_add 5 i
    rw [if_neg bT, if_neg bT, m_within_ok, bnq]
    unfold o_apple_100 o_apple_132 m_apple_63 m_apple_89 m_apple_127 m_apple_132 m_apple_159
    rcases nI_or w 10 (by decide) with q | ⟨k, hk, rfl⟩ | ⟨k, hk, hk2, rfl⟩
    · rw [if_neg (ti_neg q (by decide)), if_neg (ti_neg q (by decide)), if_neg (ti_neg q (by decide)), if_neg (ti_neg q (by decide)), if_neg (ti_neg q (by decide)), if_neg (ti_neg q (by decide)), if_neg (ti_neg q (by decide)), if_neg (ti_neg q (by decide)), if_neg (ti_neg q (by decide)), if_neg (ti_neg q (by decide)), decide_eq_true q, if_pos (show bI (!true && _) = 0 from rfl)]
      exact ⟨_, _, _, rfl, rfl, hI.th⟩
    · rcases (show k = 0 ∨ k = 1 ∨ k = 2 ∨ k = 3 ∨ k = 4 ∨ k = 5 ∨ k = 6 ∨ k = 7 ∨ k = 8 ∨ k = 9 by omega) with rfl | rfl | rfl | rfl | rfl | rfl | rfl | rfl | rfl | rfl
      · refine ⟨rI T (ccol 0) i, So, wI Sm 500 0 0, ?_, ?_, hI.th⟩
        · rw [if_pos (by decide), oq2 hv, if_pos hT.k, if_pos hT.ap.k, tb_atI hT.ap hi (by decide), bnq]
        · rw [if_neg (by decide), if_pos (by decide), if_pos (by decide), if_neg g, g', hO1.so (by omega)]
          rfl
      · refine ⟨rI T (ccol 1) i, So, wI Sm 500 0 0, ?_, ?_, hI.th⟩
        · rw [if_neg (by decide), if_pos (by decide), oq2 hv, if_pos hT.k, if_pos hT.ap.k, tb_atI hT.ap hi (by decide), bnq]
        · rw [if_neg (by decide), if_pos (by decide), if_neg (by decide), if_pos (by decide), if_neg g, g', hO1.ac (by omega)]
          rfl
      · refine ⟨rI T (ccol 2) i, So, wI Sm 500 0 0, ?_, ?_, hI.th⟩
        · rw [if_neg (by decide), if_neg (by decide), if_pos (by decide), oq2 hv, if_pos hT.k, if_pos hT.ap.k, tb_atI hT.ap hi (by decide), bnq]
        · rw [if_neg (by decide), if_pos (by decide), if_neg (by decide), if_neg (by decide), if_neg g, g', hO1.ro (by omega)]
          rfl
      · refine ⟨rI T (ccol 3) i, So, wI Sm 500 0 0, ?_, ?_, hI.th⟩
        · rw [if_neg (by decide), if_neg (by decide), if_neg (by decide), if_pos (by decide), oq2 hv, if_pos hT.k, if_pos hT.ap.k, tb_atI hT.ap hi (by decide), bnq]
        · rw [if_neg (by decide), if_neg (by decide), if_pos (by decide), if_pos (by decide), if_neg g, g', hO1.ri (by omega)]
          rfl
      · refine ⟨rI T (ccol 4) i, So, wI Sm 500 0 0, ?_, ?_, hI.th⟩
        · rw [if_neg (by decide), if_neg (by decide), if_neg (by decide), if_neg (by decide), if_pos (by decide), oq2 hv, if_pos hT.k, if_pos hT.ap.k, tb_atI hT.ap hi (by decide), bnq]
        · rw [if_neg (by decide), if_neg (by decide), if_pos (by decide), if_neg (by decide), if_neg g, g', hO1.wo (by omega)]
          rfl
      · refine ⟨bI (tb (Z 0) i), So, wI Sm 500 0 0, ?_, ?_, hI.th⟩
        · rw [if_neg (by decide), if_neg (by decide), if_neg (by decide), if_neg (by decide), if_neg (by decide), if_pos (by decide), sd_hangs hz.2.2 hz.1 hn.1, bnq]
          unfold hgB
          rw [hx, Bool.true_and, g']
          cases tb (Z 0) i <;> rfl
        · rw [if_neg (by decide), if_neg (by decide), if_neg (by decide), if_pos (by decide), if_neg (by decide), if_pos (by decide), if_neg g0_15, c0, hS1 0 (by decide), tb_sr _ (by omega)]
          cases tb (Z 0) i <;> rfl
      · refine ⟨Z (5 + i), So, wI Sm 500 0 0, ?_, ?_, hI.th⟩
        · rw [if_neg (by decide), if_neg (by decide), if_neg (by decide), if_neg (by decide), if_neg (by decide), if_neg (by decide), if_pos (by decide), sd_soundOf hz.1 hi hn.1, bnq]
        · rw [if_neg (by decide), if_neg (by decide), if_neg (by decide), if_pos (by decide), if_pos (by decide), e5, if_neg (nI_in (by omega) (by omega)), nI_clamp (by omega), hS1 _ (by omega)]
      · refine ⟨bI (tb (Z 1) i), So, wI Sm 500 0 0, ?_, ?_, hI.th⟩
        · rw [if_neg (by decide), if_neg (by decide), if_neg (by decide), if_neg (by decide), if_neg (by decide), if_neg (by decide), if_neg (by decide), if_pos (by decide), sd_isLoose hz.2.2 hz.1 hn.1 hi, bnq]
          cases tb (Z 1) i <;> rfl
        · rw [if_neg (by decide), if_neg (by decide), if_neg (by decide), if_pos (by decide), if_neg (by decide), if_neg (by decide), if_neg g1_15, c1, hS1 1 (by decide), tb_sr _ (by omega)]
          cases tb (Z 1) i <;> rfl
      · refine ⟨rI T 511 i, So, wI Sm 500 0 0, ?_, ?_, hI.th⟩
        · rw [if_neg (by decide), if_neg (by decide), if_neg (by decide), if_neg (by decide), if_neg (by decide), if_neg (by decide), if_neg (by decide), if_neg (by decide), if_pos (by decide), oq2 hv, if_pos hT.k, if_pos hT.ap.k, show (6 : Int32) = nI 6 from rfl, tb_atI hT.ap hi (by decide), bnq]
          rfl
        · rw [if_neg (by decide), if_neg (by decide), if_neg (by decide), if_neg (by decide), if_pos (by decide), if_neg g, g', hO1.tw (by omega)]
      · obtain ⟨S1, e1, e2⟩ := to_valueOf hw hT hi (Z 2)
        obtain ⟨S2, e3, e4⟩ := m_valueOn_ok hw hL hO1 hi (Z 2)
        refine ⟨vlA T L i (Z 2), S1, S2, ?_, ?_, hI.rd (e2.mo fun a k q => frX_O q) ((th0 Sm).tr (e4.mo fun a k q => frV_Q q))⟩
        · rw [if_neg (by decide), if_neg (by decide), if_neg (by decide), if_neg (by decide), if_neg (by decide), if_neg (by decide), if_neg (by decide), if_neg (by decide), if_neg (by decide), if_pos (by decide), oq2 hv, if_pos hT.k, hz.1.2.2.2.1, e1, bnq]
        · rw [if_neg (by decide), if_neg (by decide), if_neg (by decide), if_neg (by decide), if_neg (by decide), if_neg g2_15, c2, hS1 2 (by decide), e3, bnq]
    · rw [if_neg (ti_big (by omega) hk2), if_neg (ti_big (by omega) hk2), if_neg (ti_big (by omega) hk2), if_neg (ti_big (by omega) hk2), if_neg (ti_big (by omega) hk2), if_neg (ti_big (by omega) hk2), if_neg (ti_big (by omega) hk2), if_neg (ti_big (by omega) hk2), if_neg (ti_big (by omega) hk2), if_neg (ti_big (by omega) hk2), decide_eq_false (nI_pos hk2), decide_eq_true (show (9 : Int32) < nI k from nI_lt (a := 9) (by omega) hk2), if_pos (by decide)]
      exact ⟨_, _, _, rfl, rfl, hI.th⟩
theorem count_ok (h : Inv So Sm) (w : Int32) : Sim (o_count w So) (m_count w Sm) () := by
  have hI := h
  obtain ⟨T, W, V, L, v, Z, d, ht, hz, hs, hu, -, htp, -⟩ := h
  obtain ⟨hw, hO, hL, hB, hv, hT⟩ := ht
  obtain ⟨nl, fl, mt, gt, kn, th, s1, s2, s3, s4, s5, s6, s7, s8, s9, s10, s11⟩ := hs
  obtain ⟨u1, u2, u3, -⟩ := hu
  obtain ⟨nt, t1, t2, t3, t4⟩ := htp
  obtain ⟨fp, hfp, -⟩ := hT.pg
  have hn := hw.b
  have hO1 : OM T (wI Sm 500 0 0) := hO.fr (th0 Sm) fun a k q => PQ_or q
  have hS1 : SM Z (wI Sm 500 0 0) := hz.2.1.fr (th0 Sm) fun k => rfl
  unfold o_count m_count
  rw [ltq, m_within_ok, bnq]
  unfold m_count_75 m_count_121 m_count_154 o_count_245
  rcases nI_or w 15 (by decide) with q | ⟨k, hk, rfl⟩ | ⟨k, hk, hk2, rfl⟩
  · rw [if_neg (ti_neg q (by decide)), if_neg (ti_neg q (by decide)), if_neg (ti_neg q (by decide)), if_neg (ti_neg q (by decide)), if_neg (ti_neg q (by decide)), if_neg (ti_neg q (by decide)), if_neg (ti_neg q (by decide)), if_neg (ti_neg q (by decide)), if_neg (ti_neg q (by decide)), if_neg (ti_neg q (by decide)), if_neg (ti_neg q (by decide)), if_neg (ti_neg q (by decide)), if_neg (ti_neg q (by decide)), if_neg (ti_neg q (by decide)), if_neg (ti_neg q (by decide)), decide_eq_true q, if_pos (show bI (!true && _) = 0 from rfl)]
    exact ⟨_, _, _, rfl, rfl, hI.th⟩
  · rcases (show k = 0 ∨ k = 1 ∨ k = 2 ∨ k = 3 ∨ k = 4 ∨ k = 5 ∨ k = 6 ∨ k = 7 ∨ k = 8 ∨ k = 9 ∨ k = 10 ∨ k = 11 ∨ k = 12 ∨ k = 13 ∨ k = 14 by omega) with rfl | rfl | rfl | rfl | rfl | rfl | rfl | rfl | rfl | rfl | rfl | rfl | rfl | rfl | rfl
    · refine ⟨nI (ct T 0), So, wI Sm 500 0 0, ?_, ?_, hI.th⟩
      · rw [if_pos (by decide), oq2 hv, if_pos hT.k, if_pos hT.ap.k, tb_size hT.ap, bnq]
      · rw [if_neg (by decide), if_pos (by decide), if_neg (by decide), show (nI 0).toNatClampNeg = 0 by decide, hO1.n (by decide), hw.n (by decide)]
    · refine ⟨nI (ct T 1), So, wI Sm 500 0 0, ?_, ?_, hI.th⟩
      · rw [if_neg (by decide), if_pos (by decide), oq2 hv, if_pos hT.k, if_pos hT.sn.1, na_size hT.sn, bnq]
      · rw [if_neg (by decide), if_pos (by decide), if_neg (by decide), show (nI 1).toNatClampNeg = 1 by decide, hO1.n (by decide), hw.n (by decide)]
    · refine ⟨nI (ct T 2), So, wI Sm 500 0 0, ?_, ?_, hI.th⟩
      · rw [if_neg (by decide), if_neg (by decide), if_pos (by decide), oq2 hv, if_pos hT.k, if_pos hT.pe.k, tb_size hT.pe, bnq]
      · rw [if_neg (by decide), if_pos (by decide), if_neg (by decide), show (nI 2).toNatClampNeg = 2 by decide, hO1.n (by decide), hw.n (by decide)]
    · refine ⟨nI (ct T 3), So, wI Sm 500 0 0, ?_, ?_, hI.th⟩
      · rw [if_neg (by decide), if_neg (by decide), if_neg (by decide), if_pos (by decide), oq2 hv, if_pos hT.k, if_pos hT.sr.k, tb_size hT.sr, bnq]
      · rw [if_neg (by decide), if_pos (by decide), if_neg (by decide), show (nI 3).toNatClampNeg = 3 by decide, hO1.n (by decide), hw.n (by decide)]
    · refine ⟨nI (ct T 4), So, wI Sm 500 0 0, ?_, ?_, hI.th⟩
      · rw [if_neg (by decide), if_neg (by decide), if_neg (by decide), if_neg (by decide), if_pos (by decide), oq2 hv, if_pos hT.k, if_pos hfp.k, tb_size hfp, bnq]
      · rw [if_neg (by decide), if_pos (by decide), if_neg (by decide), show (nI 4).toNatClampNeg = 4 by decide, hO1.n (by decide), hw.n (by decide)]
    · refine ⟨nI (ct T 5), So, wI Sm 500 0 0, ?_, ?_, hI.th⟩
      · rw [if_neg (by decide), if_neg (by decide), if_neg (by decide), if_neg (by decide), if_neg (by decide), if_pos (by decide), oq2 hv, if_pos hT.k, if_pos hT.bn.k, tb_size hT.bn, bnq]
      · rw [if_neg (by decide), if_pos (by decide), if_neg (by decide), show (nI 5).toNatClampNeg = 5 by decide, hO1.n (by decide), hw.n (by decide)]
    · refine ⟨bcS (Z 0), So, wI Sm 500 0 0, ?_, ?_, hI.th⟩
      · rw [if_neg (by decide), if_neg (by decide), if_neg (by decide), if_neg (by decide), if_neg (by decide), if_neg (by decide), if_pos (by decide), hz.1.2.1, j_bitCount (lo_mo hz.2.2.1 hn.1), bnq]
      · rw [if_neg (by decide), if_neg (by decide), if_pos (by decide), if_pos (by decide), if_neg g0_15, c0, hS1 0 (by decide), m_bits_ok (lo_mo hz.2.2.1 hn.1), bnq]
    · refine ⟨Z 2, So, wI Sm 500 0 0, ?_, ?_, hI.th⟩
      · rw [if_neg (by decide), if_neg (by decide), if_neg (by decide), if_neg (by decide), if_neg (by decide), if_neg (by decide), if_neg (by decide), if_pos (by decide), hz.1.2.2.2.1]
      · rw [if_neg (by decide), if_neg (by decide), if_pos (by decide), if_neg (by decide), if_pos (by decide), if_neg g2_15, c2, hS1 2 (by decide)]
    · refine ⟨Z 4, So, wI Sm 500 0 0, ?_, ?_, hI.th⟩
      · rw [if_neg (by decide), if_neg (by decide), if_neg (by decide), if_neg (by decide), if_neg (by decide), if_neg (by decide), if_neg (by decide), if_neg (by decide), if_pos (by decide), hz.1.2.2.2.2.1]
      · rw [if_neg (by decide), if_neg (by decide), if_pos (by decide), if_neg (by decide), if_neg (by decide), if_neg g4_15, c4, hS1 4 (by decide)]
    · refine ⟨nI nl, So, wI Sm 500 0 0, ?_, ?_, hI.th⟩
      · rw [if_neg (by decide), if_neg (by decide), if_neg (by decide), if_neg (by decide), if_neg (by decide), if_neg (by decide), if_neg (by decide), if_neg (by decide), if_neg (by decide), if_pos (by decide), tb_size s1, bnq]
      · rw [if_neg (by decide), if_neg (by decide), if_neg (by decide), if_pos (by decide), if_pos (by decide), if_neg (by decide), c0, rI_th _ _ _ (by decide), s3.1]
    · refine ⟨bcS kn, So, wI Sm 500 0 0, ?_, ?_, hI.th⟩
      · rw [if_neg (by decide), if_neg (by decide), if_neg (by decide), if_neg (by decide), if_neg (by decide), if_neg (by decide), if_neg (by decide), if_neg (by decide), if_neg (by decide), if_neg (by decide), if_pos (by decide), show (70 : Nat) = 70 + 0 from rfl, s6, j_bitCount (lo_mo s10 hn.1), bnq]
      · rw [if_neg (by decide), if_neg (by decide), if_neg (by decide), if_pos (by decide), if_neg (by decide), if_pos (by decide), if_neg (by decide), c0, rI_th _ _ _ (by decide), s7, m_bits_ok (lo_mo s10 hn.1), bnq]
    · refine ⟨nI mt, So, wI Sm 500 0 0, ?_, ?_, hI.th⟩
      · rw [if_neg (by decide), if_neg (by decide), if_neg (by decide), if_neg (by decide), if_neg (by decide), if_neg (by decide), if_neg (by decide), if_neg (by decide), if_neg (by decide), if_neg (by decide), if_neg (by decide), if_pos (by decide), tb_size s4, bnq]
      · rw [if_neg (by decide), if_neg (by decide), if_neg (by decide), if_pos (by decide), if_neg (by decide), if_neg (by decide), if_neg (by decide), c0, rI_th _ _ _ (by decide), s5.1]
    · refine ⟨nI d, So, wI Sm 500 0 0, ?_, ?_, hI.th⟩
      · rw [if_neg (by decide), if_neg (by decide), if_neg (by decide), if_neg (by decide), if_neg (by decide), if_neg (by decide), if_neg (by decide), if_neg (by decide), if_neg (by decide), if_neg (by decide), if_neg (by decide), if_neg (by decide), if_pos (by decide), u2]
      · rw [if_neg (by decide), if_neg (by decide), if_neg (by decide), if_neg (by decide), if_pos (by decide), rI_wI_k (by decide), u3]
    · refine ⟨nI nt, So, wI Sm 500 0 0, ?_, ?_, hI.th⟩
      · rw [if_neg (by decide), if_neg (by decide), if_neg (by decide), if_neg (by decide), if_neg (by decide), if_neg (by decide), if_neg (by decide), if_neg (by decide), if_neg (by decide), if_neg (by decide), if_neg (by decide), if_neg (by decide), if_neg (by decide), if_pos (by decide), t2]
      · rw [if_neg (by decide), if_neg (by decide), if_neg (by decide), if_neg (by decide), if_neg (by decide), if_pos (by decide), rI_wI_k (by decide), t3]
    · obtain ⟨b, hb⟩ := hz.2.2.2.2.2.1
      refine ⟨bI b, So, wI Sm 500 0 0, ?_, ?_, hI.th⟩
      · rw [if_neg (by decide), if_neg (by decide), if_neg (by decide), if_neg (by decide), if_neg (by decide), if_neg (by decide), if_neg (by decide), if_neg (by decide), if_neg (by decide), if_neg (by decide), if_neg (by decide), if_neg (by decide), if_neg (by decide), if_neg (by decide), if_pos (by decide), hz.1.2.2.2.2.2.1, hb]
        cases b <;> rfl
      · rw [if_neg (by decide), if_neg (by decide), if_neg (by decide), if_neg (by decide), if_neg (by decide), if_neg (by decide), if_neg g3_15, c3, hS1 3 (by decide), hb]
  · rw [if_neg (ti_big (by omega) hk2), if_neg (ti_big (by omega) hk2), if_neg (ti_big (by omega) hk2), if_neg (ti_big (by omega) hk2), if_neg (ti_big (by omega) hk2), if_neg (ti_big (by omega) hk2), if_neg (ti_big (by omega) hk2), if_neg (ti_big (by omega) hk2), if_neg (ti_big (by omega) hk2), if_neg (ti_big (by omega) hk2), if_neg (ti_big (by omega) hk2), if_neg (ti_big (by omega) hk2), if_neg (ti_big (by omega) hk2), if_neg (ti_big (by omega) hk2), if_neg (ti_big (by omega) hk2), decide_eq_false (nI_pos hk2), decide_eq_true (show (14 : Int32) < nI k from nI_lt (a := 14) (by omega) hk2), if_pos (by decide)]
    exact ⟨_, _, _, rfl, rfl, hI.th⟩
end PUB1
