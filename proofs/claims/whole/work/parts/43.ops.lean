/-! Steps of a standing, of both sides. -/
def frS : Nat → Nat → Bool := fun a k => frV a k || a == 553
theorem frS_o {a k : Nat} (h : (502 ≤ a ∧ a ≤ 523) ∨ (536 ≤ a ∧ a ≤ 539)) : frS a k = false := by
  unfold frS
  rw [frV_o h]
  have : (a == 553) = false := by simp; omega
  rw [this]
  rfl
def hgB (T : St) (Z : Nat → Int32) (x : Int32) : Bool := inN x (ct T 0) && tb (Z 0) x.toNatClampNeg
section OPS
variable {v u : Nat} {T : St} {W V : Nat → List Nat} {L : Int32 → Int32 → Int32} {Z : Nat → Int32} {S S' : St}
theorem nI_or (x : Int32) (n : Nat) (hn : n < 2 ^ 31) : x < 0 ∨ (∃ k, k < n ∧ x = nI k) ∨ ∃ k, n ≤ k ∧ k < 2 ^ 31 ∧ x = nI k := by
  by_cases h : x < 0
  · exact Or.inl h
  · obtain ⟨k, hk, rfl⟩ := nI_of h
    by_cases q : k < n
    · exact Or.inr (Or.inl ⟨k, q, rfl⟩)
    · exact Or.inr (Or.inr ⟨k, by omega, hk, rfl⟩)
theorem inN_neg {x : Int32} {n : Nat} (h : x < 0) : inN x n = false := by
  unfold inN
  rw [decide_eq_true h]
  rfl
theorem sd_hangs (hz : WZ T Z) (hs : SD u Z (ct T 0) S) (hn : ct T 0 ≤ 10) (x : Int32) : o_sd_hangs u x S = some (bI (hgB T Z x), S) := by
  unfold o_sd_hangs o_sd_hangs_28 o_sd_hangs_29 hgB
  rw [if_pos hs.1.1, hs.1.2, if_pos (k1r _), show Int32.ofNat 10 = nI 10 from rfl, hs.2.1]
  rcases nI_or x 10 (by decide) with h | ⟨k, hk, rfl⟩ | ⟨k, hk, hk2, rfl⟩
  · rw [if_pos h, if_pos b0, inN_neg h]
    rfl
  · rw [if_neg (nI_pos (by omega)), if_pos (nI_lt hk (by omega)), inN_nI (by omega) (by omega), nI_clamp (by omega)]
    cases q : tb (Z 0) k with
    | true =>
      have : k < ct T 0 := Decidable.byContradiction fun hx => by
        rw [hz.1 k (by omega) (by omega)] at q
        cases q
      rw [if_neg (fun e => by rw [(sr_ne _ (by omega)).mp e] at q; cases q), if_pos b1, decide_eq_true this]
      rfl
    | false =>
      rw [if_pos ((sr_ne _ (by omega)).mpr q), if_pos b0, Bool.and_false]
      rfl
  · rw [if_neg (nI_pos hk2), if_neg (nI_nlt hk hk2), if_pos b0, inN_nI hk2 (by omega), decide_eq_false (by omega)]
    rfl
theorem sd_isLoose (hz : WZ T Z) (hs : SD u Z (ct T 0) S) (hn : ct T 0 ≤ 10) {a : Nat} (ha : a < ct T 0) : o_sd_isLoose u (nI a) S = some (bI (tb (Z 1) a), S) := by
  unfold o_sd_isLoose o_sd_isLoose_23 o_sd_isLoose_24
  rw [if_pos hs.1.1, sd_hangs hz hs hn, bnq]
  unfold hgB
  rw [inN_nI (by omega) (by omega), decide_eq_true ha, nI_clamp (by omega), Bool.true_and, hs.2.2.1]
  cases q : tb (Z 0) a with
  | false =>
    rw [if_pos bF, if_pos b0]
    have : tb (Z 1) a = false := by
      cases q2 : tb (Z 1) a
      · rfl
      · rw [hz.2.2.1 a (by omega) q2] at q
        cases q
    rw [this]
    rfl
  | true =>
    rw [if_neg bT]
    cases q2 : tb (Z 1) a with
    | false =>
      rw [if_pos ((sr_ne _ (by omega)).mpr q2), if_pos b0]
      rfl
    | true =>
      rw [if_neg (fun e => by rw [(sr_ne _ (by omega)).mp e] at q2; cases q2), if_pos b1]
      rfl
def tkB (T : St) (Z : Nat → Int32) (x : Int32) : Bool := hgB T Z x && decide (Z 3 = 0)
theorem sd_canTake (hz : WZ T Z) (hs : SD u Z (ct T 0) S) (hn : ct T 0 ≤ 10) (x : Int32) : o_sd_canTake u x S = some (bI (tkB T Z x), S) := by
  unfold o_sd_canTake o_sd_canTake_19 o_sd_canTake_20 tkB
  rw [if_pos hs.1.1, sd_hangs hz hs hn, bnq, hs.2.2.2.2.2.1]
  cases hgB T Z x with
  | false =>
    rw [if_pos bF, if_pos b0]
    rfl
  | true =>
    rw [if_neg bT]
    by_cases q : Z 3 = 0
    · rw [if_pos q, if_pos b1, decide_eq_true q]
      rfl
    · rw [if_neg q, if_pos b0, decide_eq_false q]
      rfl
theorem hgB_of {x : Int32} (hn : ct T 0 ≤ 10) (h : hgB T Z x = true) : ∃ a, a < ct T 0 ∧ x = nI a ∧ tb (Z 0) a = true := by
  unfold hgB at h
  rw [Bool.and_eq_true] at h
  obtain ⟨a, ha, rfl⟩ := inN_of h.1 (by omega)
  refine ⟨a, ha, rfl, ?_⟩
  have := h.2
  rw [nI_clamp (by omega)] at this
  exact this
theorem tkB_of {x : Int32} (hn : ct T 0 ≤ 10) (h : tkB T Z x = true) : ∃ a, a < ct T 0 ∧ x = nI a ∧ tb (Z 0) a = true ∧ Z 3 = 0 := by
  unfold tkB at h
  rw [Bool.and_eq_true, decide_eq_true_eq] at h
  obtain ⟨a, h1, h2, h3⟩ := hgB_of hn h.1
  exact ⟨a, h1, h2, h3, h.2⟩
theorem lz_eq {b : Int32} (hz : WZ T Z) : Z 1 &&& (Z 0 &&& b) = Z 1 &&& b := by
  apply tb_ext
  intro i hi
  rw [tb_and, tb_and, tb_and]
  cases q : tb (Z 1) i
  · rfl
  · rw [hz.2.2.1 i hi q]
    rfl
theorem sd_take (hw : WF T W V) (hz : WZ T Z) (h : TD v T W V L S) (hu : 200 ≤ u) (hs : SD u Z (ct T 0) S) {a : Nat} (ha : a < ct T 0) (ht : tkB T Z (nI a) = true) : ∃ S', o_sd_take u v (nI a) S = some (vlA T L a (Z 2), S') ∧ SD u (takeZ T L Z a) (ct T 0) S' ∧ Fr (frXU u) S S' := by
  have hn := hw.b
  obtain ⟨S1, e1, e2⟩ := to_valueOf hw h ha (Z 2)
  have hs1 := SD.frX hu hs e2
  refine ⟨wI (wI (wI (wI S1 u 4 (Z 4 + vlA T L a (Z 2))) u 1 (Z 0 &&& (((1 : Int32) <<< (nI a &&& 31)) ^^^ (-1)))) u 2 (Z 1 &&& (((1 : Int32) <<< (nI a &&& 31)) ^^^ (-1)))) u 5 1, ?_, ⟨hs.1, ?_, ?_, ?_, ?_, ?_, fun b hb => ?_⟩, (e2.mo fun a k q => frXU_X q).tr ((((Fr.wI ?_).tr (Fr.wI ?_)).tr (Fr.wI ?_)).tr (Fr.wI ?_))⟩
  · unfold o_sd_take
    rw [if_pos hs.1.1, sd_canTake hz hs hn.1, bnq, ht, if_neg bT, if_pos h.k, hs.2.2.2.1, e1, bnq, hs1.2.2.2.2.1, ltq, rI_wI_k (show (1 : Nat) ≠ 4 by decide), hs1.2.1, ltq, rI_wI_k (show (2 : Nat) ≠ 1 by decide), rI_wI_k (show (2 : Nat) ≠ 4 by decide), hs1.2.2.1, rI_wI, lz_eq hz, ltq, ltq]
  · rw [rI_wI_k (by decide), rI_wI_k (by decide), rI_wI]
    rfl
  · rw [rI_wI_k (by decide), rI_wI]
    rfl
  · rw [rI_wI_k (by decide), rI_wI_k (by decide), rI_wI_k (by decide), rI_wI_k (by decide), hs1.2.2.2.1]
    rfl
  · rw [rI_wI_k (by decide), rI_wI_k (by decide), rI_wI_k (by decide), rI_wI]
    rfl
  · rw [rI_wI]
    rfl
  · rw [rI_wI_a (by omega), rI_wI_a (by omega), rI_wI_a (by omega), rI_wI_a (by omega), hs1.2.2.2.2.2.2 b hb]
    unfold takeZ
    rw [if_neg (by omega), if_neg (by omega), if_neg (by omega), if_neg (by omega)]
  all_goals simp [Jvm.Pilot.CNameOrchardLaw_law_r1181_455a07.frXU, frU]
theorem sd_nextDay {n : Nat} (hs : SD u Z n S) : ∃ S', o_sd_nextDay u S = some ((), S') ∧ SD u (nextZ Z) n S' ∧ Fr (frU u) S S' := by
  refine ⟨wI (wI S u 3 (Z 2 + 1)) u 5 0, ?_, ⟨hs.1, ?_, ?_, ?_, ?_, ?_, fun b hb => ?_⟩, (Fr.wI ?_).tr (Fr.wI ?_)⟩
  · unfold o_sd_nextDay
    rw [if_pos hs.1.1, hs.2.2.2.1, ltq, ltq]
  · rw [rI_wI_k (by decide), rI_wI_k (by decide), hs.2.1]
    rfl
  · rw [rI_wI_k (by decide), rI_wI_k (by decide), hs.2.2.1]
    rfl
  · rw [rI_wI_k (by decide), rI_wI]
    rfl
  · rw [rI_wI_k (by decide), rI_wI_k (by decide), hs.2.2.2.2.1]
    rfl
  · rw [rI_wI]
    rfl
  · rw [rI_wI_a (by omega), rI_wI_a (by omega), hs.2.2.2.2.2.2 b hb]
    unfold nextZ
    rw [if_neg (by omega), if_neg (by omega)]
  all_goals simp [frU]
theorem sd_name {n : Nat} (hs : SD u Z n S) {a : Nat} (ha : a < 10) (x : Int32) : ∃ S', o_sd_name u (nI a) x S = some ((), S') ∧ SD u (nameZ Z a x) n S' ∧ Fr (frU u) S S' := by
  have e : ∀ k, k < 5 → nameZ Z a x k = Z k := fun k hk => by
    unfold nameZ
    rw [if_neg (by omega)]
  refine ⟨wI S (u + 30) a x, ?_, ⟨hs.1, ?_, ?_, ?_, ?_, ?_, fun b hb => ?_⟩, Fr.wI ?_⟩
  · unfold o_sd_name o_sd_name_20
    rw [if_neg (nI_pos (by omega)), if_pos hs.1.1, hs.1.2, if_pos (k1r _), show Int32.ofNat 10 = nI 10 from rfl, if_pos (nI_lt ha (by omega)), if_pos (k1e _), if_neg (nI_in ha (by omega)), nI_clamp (by omega), ltq]
  · rw [rI_wI_a (by omega), hs.2.1, e 0 (by decide)]
  · rw [rI_wI_a (by omega), hs.2.2.1, e 1 (by decide)]
  · rw [rI_wI_a (by omega), hs.2.2.2.1, e 2 (by decide)]
  · rw [rI_wI_a (by omega), hs.2.2.2.2.1, e 4 (by decide)]
  · rw [rI_wI_a (by omega), hs.2.2.2.2.2.1, e 3 (by decide)]
  · unfold nameZ
    by_cases q : b = a
    · rw [q, rI_wI, if_pos rfl]
    · rw [rI_wI_k q, hs.2.2.2.2.2.2 b hb, if_neg (by omega)]
  · simp [frU]
/-- whether no other one that hangs has it -/
def freeB (T : St) (Z : Nat → Int32) (k a : Nat) : Bool := !(List.range (ct T 0)).any fun b => !decide (b = a) && (tb (Z 0) b && decide (Z (5 + b) = nI k))
theorem any_s (p : Nat → Bool) (n : Nat) : (List.range (n + 1)).any p = ((List.range n).any p || p n) := by
  rw [List.range_succ, List.any_append]
  simp
theorem any_more {p : Nat → Bool} {n m : Nat} (h : n ≤ m) (hz : ∀ i, n ≤ i → i < m → p i = false) : (List.range m).any p = (List.range n).any p := by
  induction h with
  | refl => rfl
  | step h ih => rw [any_s, ih fun i h1 h2 => hz i h1 (Nat.lt_succ_of_lt h2), hz _ h (Nat.lt_succ_self _), Bool.or_false]
theorem sd_hasOther_loop (hz : WZ T Z) (hs : SD u Z (ct T 0) S) (hn : ct T 0 ≤ 10) {a k : Nat} (ha : a < 10) : ∀ (j i m : Nat), i + j = 10 → j < m → (List.range i).any (fun b => !decide (b = a) && (tb (Z 0) b && decide (Z (5 + b) = nI k))) = false → o_sd_hasOther_2 m u (nI a) (nI k) (nI i) S = some (bI ((List.range 10).any fun b => !decide (b = a) && (tb (Z 0) b && decide (Z (5 + b) = nI k))), S)
  | 0, i, m, hi, hm, h0 => by
    obtain ⟨m, rfl, hm⟩ := fuel hm
    obtain rfl : i = 10 := by omega
    rw [o_sd_hasOther_2, if_pos hs.1.1, hs.1.2, if_pos (k1r _), show Int32.ofNat 10 = nI 10 from rfl, if_neg (nI_nlt (Nat.le_refl _) (by omega)), h0]
    rfl
  | j + 1, i, m, hi, hm, h0 => by
    obtain ⟨m, rfl, hm⟩ := fuel hm
    have e36 : o_sd_hasOther_36 (o_sd_hasOther_2 m) u (nI a) (nI k) (nI i) S = o_sd_hasOther_2 m u (nI a) (nI k) (nI (i + 1)) S := by
      unfold o_sd_hasOther_36
      rw [ltq, nI_1]
    have ih := sd_hasOther_loop hz hs hn (k := k) ha j (i + 1) m (by omega) (by omega)
    rw [any_s, h0, Bool.false_or] at ih
    rw [o_sd_hasOther_2, if_pos hs.1.1, hs.1.2, if_pos (k1r _), show Int32.ofNat 10 = nI 10 from rfl, if_pos (nI_lt (by omega) (by omega))]
    by_cases q : i = a
    · rw [if_pos (by rw [q]), e36]
      exact ih (by rw [decide_eq_true q]; rfl)
    · rw [if_neg (nI_ne q (by omega) (by omega)), sd_hangs hz hs hn, bnq]
      rw [decide_eq_false q] at ih
      unfold hgB
      rw [inN_nI (by omega) (by omega), nI_clamp (by omega)]
      cases q2 : tb (Z 0) i with
      | false =>
        rw [Bool.and_false, if_pos bF, e36]
        rw [q2] at ih
        exact ih rfl
      | true =>
        have hia : i < ct T 0 := Decidable.byContradiction fun hx => by
          rw [hz.1 i (by omega) (by omega)] at q2
          cases q2
        rw [decide_eq_true hia, Bool.true_and, if_neg bT, if_pos (k1e _), if_neg (nI_inC (by omega) (by omega)), hs.2.2.2.2.2.2 i hia]
        rw [q2] at ih
        by_cases q3 : Z (5 + i) = nI k
        · rw [if_pos q3]
          unfold o_sd_hasOther_34
          have : (List.range 10).any (fun b => !decide (b = a) && (tb (Z 0) b && decide (Z (5 + b) = nI k))) = true := by
            rw [List.any_eq_true]
            refine ⟨i, List.mem_range.mpr (by omega), ?_⟩
            rw [decide_eq_false q, q2, decide_eq_true q3]
            rfl
          rw [this]
          rfl
        · rw [if_neg q3, e36]
          rw [decide_eq_false q3] at ih
          exact ih rfl
theorem sd_hasOther (hz : WZ T Z) (hs : SD u Z (ct T 0) S) (hn : ct T 0 ≤ 10) {a k : Nat} (ha : a < 10) : o_sd_hasOther u (nI a) (nI k) S = some (bI (!freeB T Z k a), S) := by
  unfold freeB
  rw [Bool.not_not, ← any_more (n := ct T 0) (m := 10) hn fun i h1 h2 => by rw [hz.1 i h1 (by omega), Bool.false_and, Bool.and_false]]
  exact sd_hasOther_loop hz hs hn ha 10 0 FU rfl (by unfold FU; omega) rfl
/-! the reference's -/
theorem m_isFree_loop (hw : WF T W V) (hz : WZ T Z) (hO : OM T S) (hS : SM Z S) {a k : Nat} (ha : a < 10) : ∀ (j i m : Nat), i + j = ct T 0 → j < m → (List.range i).any (fun b => !decide (b = a) && (tb (Z 0) b && decide (Z (5 + b) = nI k))) = false → m_isFree_2 m (nI k) (nI a) (nI i) S = some (bI (freeB T Z k a), S)
  | 0, i, m, hi, hm, h0 => by
    have hn := hw.b
    obtain ⟨m, rfl, hm⟩ := fuel hm
    rw [Nat.add_zero] at hi
    subst hi
    rw [m_isFree_2, if_neg g0_12, c0, hO.n (by decide), hw.n (by decide), if_neg (nI_nlt (Nat.le_refl _) (by omega))]
    unfold m_isFree_45 freeB
    rw [h0]
    rfl
  | j + 1, i, m, hi, hm, h0 => by
    have hn := hw.b
    obtain ⟨m, rfl, hm⟩ := fuel hm
    have hia : i < ct T 0 := by omega
    have e39 : m_isFree_39 (m_isFree_2 m) (nI k) (nI a) (nI i) S = m_isFree_2 m (nI k) (nI a) (nI (i + 1)) S := by
      unfold m_isFree_39
      rw [ltq, nI_1]
    have ih := m_isFree_loop hw hz hO hS (k := k) ha j (i + 1) m (by omega) (by omega)
    rw [any_s, h0, Bool.false_or] at ih
    rw [m_isFree_2, if_neg g0_12, c0, hO.n (by decide), hw.n (by decide), if_pos (nI_lt hia (by omega))]
    by_cases q : i = a
    · rw [if_pos (by rw [q]), e39]
      exact ih (by rw [decide_eq_true q]; rfl)
    · rw [if_neg (nI_ne q (by omega) (by omega)), m_hangs_ok hS (by omega), bnq]
      rw [decide_eq_false q] at ih
      cases q2 : tb (Z 0) i with
      | false =>
        rw [if_pos bF, e39]
        rw [q2] at ih
        exact ih rfl
      | true =>
        rw [if_neg bT, show (5 : Int32) + nI i = nI (5 + i) from nI_add 5 i, if_neg (nI_in (by omega) (by omega)), nI_clamp (by omega), hS (5 + i) (by omega)]
        rw [q2] at ih
        by_cases q3 : Z (5 + i) = nI k
        · rw [if_pos q3]
          unfold m_isFree_37 freeB
          have : (List.range (ct T 0)).any (fun b => !decide (b = a) && (tb (Z 0) b && decide (Z (5 + b) = nI k))) = true := by
            rw [List.any_eq_true]
            refine ⟨i, List.mem_range.mpr hia, ?_⟩
            rw [decide_eq_false q, q2, decide_eq_true q3]
            rfl
          rw [this]
          rfl
        · rw [if_neg q3, e39]
          rw [decide_eq_false q3] at ih
          exact ih rfl
theorem m_isFree_ok (hw : WF T W V) (hz : WZ T Z) (hO : OM T S) (hS : SM Z S) {a k : Nat} (ha : a < 10) : m_isFree (nI k) (nI a) S = some (bI (freeB T Z k a), S) := by
  have hn := hw.b
  exact m_isFree_loop hw hz hO hS ha (ct T 0) 0 FU (Nat.zero_add _) (by unfold FU; omega) rfl
theorem m_canPick_ok (hS : SM Z S) {a : Nat} (ha : a < ct T 0) (hn : ct T 0 ≤ 10) : m_canPick (nI a) S = some (bI (tkB T Z (nI a)), S) := by
  unfold m_canPick m_canPick_21 m_canPick_22 tkB hgB
  rw [m_hangs_ok hS (by omega), bnq, inN_nI (by omega) (by omega), decide_eq_true ha, Bool.true_and, nI_clamp (by omega)]
  cases q : tb (Z 0) a with
  | false =>
    rw [if_pos bF, if_pos b0]
    rfl
  | true =>
    rw [if_neg bT, if_neg g3_15, c3, hS 3 (by decide)]
    by_cases q2 : Z 3 = 0
    · rw [if_pos q2, if_pos b1, decide_eq_true q2]
      rfl
    · rw [if_neg q2, if_pos b0, decide_eq_false q2]
      rfl
theorem m_picks_ok (hw : WF T W V) (hL : LawV T L) (hO : OM T S) (hS : SM Z S) {a : Nat} (ha : a < ct T 0) : ∃ S', m_picks (nI a) S = some (vlA T L a (Z 2), S') ∧ SM (takeZ T L Z a) S' ∧ Fr frS S S' := by
  obtain ⟨S1, e1, e2⟩ := m_valueOn_ok hw hL hO ha (Z 2)
  have hS1 := hS.fr e2 fun k => rfl
  refine ⟨wI (wI (wI (wI S1 553 0 (Z 0 &&& (((1 : Int32) <<< (nI a &&& 31)) ^^^ (-1)))) 553 1 (Z 1 &&& (((1 : Int32) <<< (nI a &&& 31)) ^^^ (-1)))) 553 3 1) 553 4 (Z 4 + vlA T L a (Z 2)), ?_, fun k hk => ?_, (e2.mo fun a k q => (Bool.or_eq_false_iff.mp q).1).tr ((((Fr.wI rfl).tr (Fr.wI rfl)).tr (Fr.wI rfl)).tr (Fr.wI rfl))⟩
  · unfold m_picks
    rw [if_neg g2_15, c2, hS 2 (by decide), e1, bnq, if_neg g0_15, if_neg g0_15, c0, hS1 0 (by decide), ltq, if_neg g1_15, if_neg g1_15, c1, rI_wI_k (by decide), hS1 1 (by decide), ltq, if_neg g3_15, c3, ltq, if_neg g4_15, if_neg g4_15, c4, rI_wI_k (by decide), rI_wI_k (by decide), rI_wI_k (by decide), hS1 4 (by decide), ltq]
  · unfold takeZ
    by_cases k4 : k = 4
    · rw [k4, rI_wI, if_neg (by decide), if_neg (by decide), if_neg (by decide), if_pos rfl]
    · by_cases k3 : k = 3
      · rw [k3, rI_wI_k (by decide), rI_wI, if_neg (by decide), if_neg (by decide), if_pos rfl]
      · by_cases k1 : k = 1
        · rw [k1, rI_wI_k (by decide), rI_wI_k (by decide), rI_wI, if_neg (by decide), if_pos rfl]
        · by_cases k0 : k = 0
          · rw [k0, rI_wI_k (by decide), rI_wI_k (by decide), rI_wI_k (by decide), rI_wI, if_pos rfl]
          · rw [rI_wI_k k4, rI_wI_k k3, rI_wI_k k1, rI_wI_k k0, hS1 k hk, if_neg k0, if_neg k1, if_neg k3, if_neg k4]
theorem m_passes_ok (hS : SM Z S) : ∃ S', m_passes S = some ((), S') ∧ SM (nextZ Z) S' ∧ Fr (fun a _ => a == 553) S S' := by
  refine ⟨wI (wI S 553 2 (Z 2 + 1)) 553 3 0, ?_, fun k hk => ?_, (Fr.wI rfl).tr (Fr.wI rfl)⟩
  · unfold m_passes
    rw [if_neg g2_15, if_neg g2_15, c2, hS 2 (by decide), ltq, if_neg g3_15, c3, ltq]
  · unfold nextZ
    by_cases k3 : k = 3
    · rw [k3, rI_wI, if_neg (by decide), if_pos rfl]
    · by_cases k2 : k = 2
      · rw [k2, rI_wI_k (by decide), rI_wI, if_pos rfl]
      · rw [rI_wI_k k3, rI_wI_k k2, hS k hk, if_neg k2, if_neg k3]
end OPS
