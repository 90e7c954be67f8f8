section APPRAISE
variable {T : St} {W V : Nat → List Nat} {L : Int32 → Int32 → Int32} {v d u a : Nat} {Z Z1 Z2 : Nat → Int32} {So So' Sm Sm' S : St}
/-- an apple's worth on a day of the search -/
def avl (T : St) (L : Int32 → Int32 → Int32) (day : Int32) (dd a : Nat) : Int32 := bif decide (a < ct T 0) then vlA T L a (day + nI dd) else 0
/-- the most that it is worth in so many days from there on -/
def ace (T : St) (L : Int32 → Int32 → Int32) (day : Int32) : Nat → Nat → Nat → Int32
  | 0, _, _ => 0
  | j + 1, dd, a => if avl T L day dd a < ace T L day j (dd + 1) a then ace T L day j (dd + 1) a else avl T L day dd a
def fAp : Nat → Nat → Bool := fun a k => frX a k || a == 9 || a == 10
theorem fAp_n {a k : Nat} (h : ¬ (30 ≤ a ∧ a ≤ 33) ∧ ¬ (50 ≤ a ∧ a ≤ 57)) (h2 : a ≠ 9 ∧ a ≠ 10) : fAp a k = false := by
  unfold fAp frX
  simp
  omega
/-- the rows hold from this day on -/
def AR (T : St) (L : Int32 → Int32 → Int32) (day : Int32) (n dd a0 : Nat) (S : St) : Prop := ∀ e a, e < n → a < 10 → (dd < e ∨ (dd = e ∧ a < a0)) → rI S 9 (10 * e + a) = avl T L day e a ∧ rI S 10 (10 * e + a) = ace T L day (n - e) e a
theorem ap_in (hw : WF T W V) (k7 : Nat → Int32 → Int32 → St → Re Unit) (day : Int32) {n dd : Nat} (hn3 : n ≤ 3) (hd : dd < n) : ∀ (j a m : Nat) (S : St), TD v T W V L S → rI S 5 10 = nI n → AR T L day n dd a S → a + j = 10 → j < m → ∃ S', o_se_appraise_14 k7 m v day (nI dd) (nI a) S = o_se_appraise_143 k7 v day (nI dd) S' ∧ AR T L day n dd 10 S' ∧ Fr fAp S S'
  | 0, a, m, S, hT, h5, hA, ha, hm => by
    obtain ⟨m, rfl, hm⟩ := fuel hm
    obtain rfl : a = 10 := by omega
    refine ⟨S, ?_, hA, Fr.rf⟩
    rw [o_se_appraise_14, if_neg (by decide)]
  | j + 1, a, m, S, hT, h5, hA, ha, hm => by
    have hn := hw.b
    obtain ⟨m, rfl, hm⟩ := fuel hm
    have e1 : nI dd * 10 + nI a = nI (10 * dd + a) := by rw [show (10 : Int32) = nI 10 from rfl, nI_mul, nI_add, Nat.mul_comm]
    have e2 : nI (10 * dd + a) + 10 = nI (10 * (dd + 1) + a) := by rw [show (10 : Int32) = nI 10 from rfl, nI_add, show 10 * dd + a + 10 = 10 * (dd + 1) + a by omega]
    have fin : ∀ (S1 : St) (x : Int32), Fr frX S S1 → x = avl T L day dd a → ∃ S', o_se_appraise_59 (o_se_appraise_14 k7 m) v day (nI dd) (nI a) (nI (10 * dd + a)) (nI (10 * (dd + 1) + a)) x S1 = o_se_appraise_143 k7 v day (nI dd) S' ∧ AR T L day n dd 10 S' ∧ Fr fAp S S' := by
      intro S1 x f1 hx
      have g1 : Fr fAp S S1 := f1.mo fun a k q => (Bool.or_eq_false_iff.mp (Bool.or_eq_false_iff.mp q).1).1
      have h51 : rI S1 5 10 = nI n := (g1.i (fAp_n (by decide) (by decide))).trans h5
      have core : ∀ y : Int32, y = ace T L day (n - (dd + 1)) (dd + 1) a → ∃ S', o_se_appraise_92 (o_se_appraise_14 k7 m) v day (nI dd) (nI a) (nI (10 * dd + a)) x y S1 = o_se_appraise_143 k7 v day (nI dd) S' ∧ AR T L day n dd 10 S' ∧ Fr fAp S S' := by
        intro y hy
        have hce : ace T L day (n - dd) dd a = if x < y then y else x := by
          rw [show n - dd = (n - (dd + 1)) + 1 by omega, ace, hx, hy]
        have f2 : Fr fAp S (wI (wI S1 9 (10 * dd + a) x) 10 (10 * dd + a) (if x < y then y else x)) := (g1.tr (Fr.wI rfl)).tr (Fr.wI rfl)
        obtain ⟨S', r1, r2, r3⟩ := ap_in hw k7 day hn3 hd j (a + 1) m (wI (wI S1 9 (10 * dd + a) x) 10 (10 * dd + a) (if x < y then y else x)) (hT.fr f2 fun a k q => by unfold ton at q; exact fAp_n (by omega) (by omega)) ((f2.i (fAp_n (by decide) (by decide))).trans h5) (fun e b he hb hh => by
          by_cases q : e = dd ∧ b = a
          · obtain ⟨rfl, rfl⟩ := q
            rw [rI_wI_a (by decide), rI_wI, rI_wI, hce, hx]
            exact ⟨rfl, rfl⟩
          · have hne : ¬ 10 * e + b = 10 * dd + a := by omega
            rw [rI_wI_a (by decide), rI_wI_k hne, rI_wI_k hne, rI_wI_a (by decide), f1.i (show frX 9 _ = false from rfl), f1.i (show frX 10 _ = false from rfl)]
            exact hA e b he hb (by omega)) (by omega) (by omega)
        refine ⟨S', ?_, r2, f2.tr r3⟩
        have em : o_j_max x y (wI S1 9 (10 * dd + a) x) = some (if x < y then y else x, wI S1 9 (10 * dd + a) x) := by
          unfold o_j_max o_j_max_10
          by_cases q : x < y
          · rw [if_pos q, if_pos q]
          · rw [if_neg q, if_neg q]
        unfold o_se_appraise_92 o_se_appraise_137
        rw [if_pos (show nI (10 * dd + a) < 30 from nI_lt (b := 30) (by omega) (by decide)), if_pos (show nI (10 * dd + a) < 30 from nI_lt (b := 30) (by omega) (by decide)), if_neg (nI_in (by omega) (by omega)), nI_clamp (by omega), ltq (wI S1 9 _ _), em, bnq, if_neg (nI_inC (by omega) (by omega)), ltq, ltq, nI_1]
        exact r1
      unfold o_se_appraise_59 o_se_appraise_91
      rw [nI_1, h51]
      by_cases q : dd + 1 < n
      · obtain ⟨S', r1, r2, r3⟩ := core _ rfl
        refine ⟨S', ?_, r2, r3⟩
        rw [if_pos (nI_lt q (by omega)), if_pos (show nI (10 * (dd + 1) + a) < 30 from nI_lt (b := 30) (by omega) (by decide)), if_neg (nI_in (by omega) (by omega)), nI_clamp (by omega), f1.i (show frX 10 _ = false from rfl), (hA (dd + 1) a q (by omega) (Or.inl (by omega))).2]
        exact r1
      · obtain ⟨S', r1, r2, r3⟩ := core 0 (by rw [show n - (dd + 1) = 0 by omega]; rfl)
        refine ⟨S', ?_, r2, r3⟩
        rw [if_neg (nI_nlt (by omega) (by omega))]
        exact r1
    rw [o_se_appraise_14, if_pos (show nI a < 10 from nI_lt (b := 10) (by omega) (by decide)), e1, ltq, e2, ltq, if_pos hT.k, to_hasApple hT, bnq, inN_nI (by omega) (by omega)]
    by_cases q : a < ct T 0
    · obtain ⟨S1, a1, a2⟩ := to_valueOf hw hT q (day + nI dd)
      obtain ⟨S', r1, r2, r3⟩ := fin S1 _ a2 (by unfold avl; rw [decide_eq_true q, cond_true])
      refine ⟨S', ?_, r2, r3⟩
      rw [decide_eq_true q, if_neg bT, a1, bnq]
      exact r1
    · obtain ⟨S', r1, r2, r3⟩ := fin S 0 Fr.rf (by unfold avl; rw [decide_eq_false q]; rfl)
      refine ⟨S', ?_, r2, r3⟩
      rw [decide_eq_false q, if_pos bF]
      exact r1
/-- from a day on, the rows hold -/
def AQ (T : St) (L : Int32 → Int32 → Int32) (day : Int32) (n j : Nat) (S : St) : Prop := ∀ e a, j ≤ e → e < n → a < 10 → rI S 9 (10 * e + a) = avl T L day e a ∧ rI S 10 (10 * e + a) = ace T L day (n - e) e a
theorem ap_out (hw : WF T W V) (day : Int32) {n : Nat} (hn3 : n ≤ 3) : ∀ (j m : Nat) (S : St), TD v T W V L S → rI S 5 10 = nI n → j ≤ n → AQ T L day n j S → j < m → ∃ S', o_se_appraise_7 m v day (nI j - 1) S = some ((), S') ∧ AQ T L day n 0 S' ∧ Fr fAp S S'
  | 0, m, S, hT, h5, hj, hA, hm => by
    obtain ⟨m, rfl, hm⟩ := fuel hm
    refine ⟨S, ?_, hA, Fr.rf⟩
    rw [o_se_appraise_7, if_pos (by decide)]
    rfl
  | j + 1, m, S, hT, h5, hj, hA, hm => by
    obtain ⟨m, rfl, hm⟩ := fuel hm
    obtain ⟨S1, a1, a2, a3⟩ := ap_in hw (o_se_appraise_7 m) day hn3 (show j < n by omega) 10 0 FU S hT h5 (fun e a he ha hh => hA e a (by omega) he ha) rfl (by unfold FU; omega)
    obtain ⟨S', b1', b2, b3⟩ := ap_out hw day hn3 j m S1 (hT.fr a3 fun a k q => by unfold ton at q; exact fAp_n (by omega) (by omega)) ((a3.i (fAp_n (by decide) (by decide))).trans h5) (by omega) (fun e a h1 h2 h3 => a2 e a h2 h3 (by omega)) (by omega)
    refine ⟨S', ?_, b2, a3.tr b3⟩
    have ed : nI j + (-1 : Int32) = nI j - 1 := (Int32.sub_eq_add_neg _ _).symm
    rw [o_se_appraise_7, nI_pred, if_neg (nI_pos (by omega)), (show o_se_appraise_14 (o_se_appraise_7 m) FU v day (nI j) 0 S = _ from a1)]
    unfold o_se_appraise_143
    rw [ltq, ed]
    exact b1'
theorem appraise_ok (hw : WF T W V) (day : Int32) {n : Nat} (hn3 : n ≤ 3) (hT : TD v T W V L S) (h5 : rI S 5 10 = nI n) : ∃ S', o_se_appraise v day S = some ((), S') ∧ AQ T L day n 0 S' ∧ Fr fAp S S' := by
  obtain ⟨S', e1, e2, e3⟩ := ap_out hw day hn3 n FU S hT h5 (Nat.le_refl _) (fun e a h1 h2 => absurd h1 (by omega)) (by unfold FU; omega)
  refine ⟨S', ?_, e2, e3⟩
  unfold o_se_appraise
  rw [h5, ltq]
  exact e1
end APPRAISE
