/-! An orchard is settled: the class's side. -/
section SETTLE
variable {n p b k i d s s' bz j mo mm a v x : Nat} {T T' So Sm S S' So' Sm' : St} {P Q : Nat → Nat → Bool} {c c' : Nat → Nat} {W V : Nat → List Nat} {NB : Nat → Nat → Bool} {f : Nat → Nat → Int32} {l lN' lV' : List (Nat × Int32)}
theorem hv_loop (hd : KO.1 d = (0, 10)) (h : TB (d + 80) 10 7 n f S) {col : Nat} (hc : col < 7) (y : Int32) : ∀ (j i m : Nat), i + j = n → j < m → o_to_having_5 m d (nI col) y (mk i fun a => decide (f a col = y)) (nI i) S = some (mk n fun a => decide (f a col = y), S)
  | 0, i, m, hi, hm => by
    obtain ⟨m, rfl, hm⟩ := fuel hm
    have hn := h.2.2.2.2.2.1
    rw [o_to_having_5, if_pos hd, if_pos h.k, tb_size h, bnq, if_neg (nI_nlt (by omega) (by omega))]
    obtain rfl : i = n := by omega
    rfl
  | j + 1, i, m, hi, hm => by
    obtain ⟨m, rfl, hm⟩ := fuel hm
    have hn := h.2.2.2.2.2.1
    have ih := hv_loop hd h hc y j (i + 1) m (by omega) (by omega)
    rw [o_to_having_5, if_pos hd, if_pos h.k, tb_size h, bnq, if_pos (nI_lt (by omega) (by omega)), tb_atI h (show i < n by omega) hc, bnq]
    unfold o_to_having_40
    rw [ltq, ltq, ltq, ltq, nI_1]
    rw [mk] at ih
    by_cases q : f i col = y
    · rw [if_pos q]
      rw [decide_eq_true q] at ih
      exact ih
    · rw [if_neg q]
      rw [decide_eq_false q] at ih
      exact ih
theorem hv_ok (hd : KO.1 d = (0, 10)) (h : TB (d + 80) 10 7 n f S) {col : Nat} (hc : col < 7) (y : Int32) : o_to_having d (nI col) y S = some (mk n fun a => decide (f a col = y), S) := hv_loop hd h hc y n 0 FU (Nat.zero_add _) (by have := h.2.2.2.2.2.1; unfold FU; omega)
/-- what the nearness of a SOUND touches -/
def fNo (d : Nat) : Nat → Nat → Bool := fun a _ => a == d + 10 || a == d + 30 || a == d + 34
theorem fNo_n {a k : Nat} (h1 : a ≠ d + 10) (h2 : a ≠ d + 30) (h3 : a ≠ d + 34) : fNo d a k = false := by
  unfold fNo
  rw [beq_eq_false_iff_ne.mpr h1, beq_eq_false_iff_ne.mpr h2, beq_eq_false_iff_ne.mpr h3]
  rfl
theorem no_loop (hd : KO.1 d = (0, 10)) (hx : x < n) (hR : ∀ x y, ∃ r, rp (nF W x y) l [] = some [r]) : ∀ (j y m : Nat) (S : St), y + j = n → j < m → NW (d + 2) 16 n W S → FS (d + 14) l S → ∃ S', o_to_nearOnes_4 m d (nI x) (mk y (NBl W l x)) (nI y) S = some (mk n (NBl W l x), S') ∧ Fr (fNo d) S S'
  | 0, y, m, S, hy, hm, hN, hF => by
    obtain ⟨m, rfl, hm⟩ := fuel hm
    have h16 := hN.2.2.2.2.1
    rw [o_to_nearOnes_4, if_pos hd, if_pos hN.1, na_size hN, bnq, if_neg (nI_nlt (by omega) (by omega))]
    obtain rfl : y = n := by omega
    exact ⟨S, rfl, Fr.rf⟩
  | j + 1, y, m, S, hy, hm, hN, hF => by
    obtain ⟨m, rfl, hm⟩ := fuel hm
    have h16 := hN.2.2.2.2.1
    obtain ⟨S1, a1, a2⟩ := na_edits hN hx (show y < n by omega)
    have f1 : Fr (fNo d) S S1 := a2.mo fun a k q => by
      unfold fNo at q
      unfold frR
      simp at q ⊢
      omega
    have hN1 := hN.fr f1 (fNo_n (by omega) (by omega) (by omega)) (fun k => fNo_n (by omega) (by omega) (by omega))
    have hF1 := hF.fr f1 (fNo_n (by omega) (by omega) (by omega)) (fun k => fNo_n (by omega) (by omega) (by omega)) (fun k => fNo_n (by omega) (by omega) (by omega))
    obtain ⟨r, hr⟩ := hR x y
    obtain ⟨S2, b1', b2'⟩ := fo_answer hF1 (nI (edt (W x) (W y))) (nI (cpl (W x) (W y))) (nI (csl (W x) (W y))) (nI (W x).length) r hr
    have f2 : Fr (fNo d) S1 S2 := b2'.mo fun a k q => by
      unfold fNo at q
      unfold frF
      simp at q ⊢
      omega
    obtain ⟨S', g1, g2⟩ := no_loop hd hx hR j (y + 1) m S2 (by omega) (by omega) (hN1.fr f2 (fNo_n (by omega) (by omega) (by omega)) (fun k => fNo_n (by omega) (by omega) (by omega))) (hF1.fr f2 (fNo_n (by omega) (by omega) (by omega)) (fun k => fNo_n (by omega) (by omega) (by omega)) (fun k => fNo_n (by omega) (by omega) (by omega)))
    have hNB : NBl W l x y = decide (r ≠ 0) := by
      unfold NBl
      rw [hr]
    rw [o_to_nearOnes_4, if_pos hd, if_pos hN.1, na_size hN, bnq, if_pos (nI_lt (by omega) (by omega)), na_size hN, bnq, if_pos (nI_lt hx (by omega)), a1, bnq, na_start hN1 hx (show y < n by omega), bnq, na_rhyme hN1 hx (show y < n by omega), bnq, na_letters hN1 hx, bnq, if_pos hF.1.1, b1', bnq]
    unfold o_to_nearOnes_83
    rw [ltq, ltq, ltq, ltq, nI_1]
    refine ⟨S', ?_, (f1.tr f2).tr g2⟩
    rw [mk, hNB] at g1
    by_cases q : r = 0
    · rw [if_pos q]
      rw [decide_eq_false (fun e => e q)] at g1
      exact g1
    · rw [if_neg q]
      rw [decide_eq_true q] at g1
      exact g1
theorem no_out (hd : KO.1 d = (0, 10)) (hx : ¬ x < n) (hx2 : x < 2 ^ 31) (hN : NW (d + 2) 16 n W S) : ∃ r, o_to_nearOnes d (nI x) S = some (r, S) := by
  obtain ⟨m, hm⟩ : ∃ m, FU = m + 1 := ⟨999999, rfl⟩
  unfold o_to_nearOnes
  rw [hm, o_to_nearOnes_4, if_pos hd, if_pos hN.1, na_size hN, bnq]
  by_cases q : (0 : Int32) < nI n
  · rw [if_pos q, na_size hN, bnq, if_neg (nI_nlt (by omega) hx2)]
    exact ⟨_, rfl⟩
  · rw [if_neg q]
    exact ⟨_, rfl⟩
/-- what settling touches -/
def fSt (d : Nat) : Nat → Nat → Bool := fun a k => fNo d a k || a == d + 38 || a == d + 40 || a == d + 42 || (a == d && (decide (14 ≤ k) && decide (k ≤ 16)))
theorem fSt_n {a k : Nat} (h : ∀ e, (e = 10 ∨ e = 30 ∨ e = 34 ∨ e = 38 ∨ e = 40 ∨ e = 42) → a ≠ d + e) (h2 : ¬ (a = d ∧ 14 ≤ k ∧ k ≤ 16)) : fSt d a k = false := by
  unfold fSt
  rw [fNo_n (h 10 (by decide)) (h 30 (by decide)) (h 34 (by decide)), beq_eq_false_iff_ne.mpr (h 38 (by decide)), beq_eq_false_iff_ne.mpr (h 40 (by decide)), beq_eq_false_iff_ne.mpr (h 42 (by decide))]
  simp
  omega
def kS (d : Nat) : Prop := KO.1 d = (0, 10) ∧ KO.1 (d + 38) = (1, 16) ∧ KO.1 (d + 40) = (1, 12) ∧ KO.1 (d + 42) = (1, 10)
theorem kS_d (hd : d = 20 ∨ d = 21) : kS d := by
  rcases hd with rfl | rfl <;> exact ⟨rfl, rfl, rfl, rfl⟩
/-- the twins' masks -/
theorem se_216 (hk : kS d) : ∀ (j i m : Nat) (S : St), i + j = 10 → j < m → TB (d + 80) 10 7 n f S → ∃ S', o_to_settle_216 m d (nI i) S = some ((), S') ∧ (∀ q, i ≤ q → q < 10 → rI S' (d + 42) q = mk n fun b => decide (f b 6 = nI q)) ∧ (∀ q, q < i → rI S' (d + 42) q = rI S (d + 42) q) ∧ Fr (fAr (d + 42)) S S'
  | 0, i, m, S, hi, hm, h => by
    obtain ⟨m, rfl, hm⟩ := fuel hm
    rw [o_to_settle_216, if_pos hk.1, hk.2.2.2, if_pos (by decide), if_neg (show ¬ nI i < Int32.ofNat 10 from nI_nlt (b := 10) (by omega) (by omega))]
    exact ⟨S, rfl, fun q h1 h2 => absurd h1 (by omega), fun q _ => rfl, Fr.rf⟩
  | j + 1, i, m, S, hi, hm, h => by
    obtain ⟨m, rfl, hm⟩ := fuel hm
    have fw : ∀ y : Int32, Fr (fAr (d + 42)) S (wI S (d + 42) i y) := fun y => Fr.wI (by unfold fAr; simp)
    obtain ⟨S', g1, g2, g3, g4⟩ := se_216 hk j (i + 1) m (wI S (d + 42) i (mk n fun b => decide (f b 6 = nI i))) (by omega) (by omega) (h.fr (fw _) (fun k => fAr_n (by omega)) (fun k => fAr_n (by omega)))
    rw [o_to_settle_216, if_pos hk.1, hk.2.2.2, if_pos (by decide), if_pos (show nI i < Int32.ofNat 10 from nI_lt (b := 10) (by omega) (by decide)), (show o_to_having d 6 (nI i) S = _ from hv_ok hk.1 h (show 6 < 7 by decide) (nI i)), bnq, if_pos rfl, if_neg (nI_in (show i < 10 by omega) (by decide)), nI_clamp (by omega), ltq (wI S (d + 42) _ _), nI_1, ltq, g1]
    refine ⟨S', rfl, fun q h1 h2 => ?_, fun q hq => (g3 q (by omega)).trans (rI_wI_k (by omega)), (fw _).tr g4⟩
    by_cases e : q = i
    · rw [g3 q (by omega), e, rI_wI]
    · exact g2 q (by omega) h2
/-- the rows' masks -/
theorem se_187 (hk : kS d) : ∀ (j i m : Nat) (S : St), i + j = 12 → j < m → TB (d + 80) 10 7 n f S → ∃ S', o_to_settle_187 m d (nI i) S = o_to_settle_214 d S' ∧ (∀ q, i ≤ q → q < 12 → rI S' (d + 40) q = mk n fun b => decide (f b 2 = nI q)) ∧ (∀ q, q < i → rI S' (d + 40) q = rI S (d + 40) q) ∧ Fr (fAr (d + 40)) S S'
  | 0, i, m, S, hi, hm, h => by
    obtain ⟨m, rfl, hm⟩ := fuel hm
    rw [o_to_settle_187, if_pos hk.1, hk.2.2.1, if_pos (by decide), if_neg (show ¬ nI i < Int32.ofNat 12 from nI_nlt (b := 12) (by omega) (by omega))]
    exact ⟨S, rfl, fun q h1 h2 => absurd h1 (by omega), fun q _ => rfl, Fr.rf⟩
  | j + 1, i, m, S, hi, hm, h => by
    obtain ⟨m, rfl, hm⟩ := fuel hm
    have fw : ∀ y : Int32, Fr (fAr (d + 40)) S (wI S (d + 40) i y) := fun y => Fr.wI (by unfold fAr; simp)
    obtain ⟨S', g1, g2, g3, g4⟩ := se_187 hk j (i + 1) m (wI S (d + 40) i (mk n fun b => decide (f b 2 = nI i))) (by omega) (by omega) (h.fr (fw _) (fun k => fAr_n (by omega)) (fun k => fAr_n (by omega)))
    rw [o_to_settle_187, if_pos hk.1, hk.2.2.1, if_pos (by decide), if_pos (show nI i < Int32.ofNat 12 from nI_lt (b := 12) (by omega) (by decide)), (show o_to_having d 2 (nI i) S = _ from hv_ok hk.1 h (show 2 < 7 by decide) (nI i)), bnq, if_pos rfl, if_neg (nI_in (show i < 12 by omega) (by decide)), nI_clamp (by omega), ltq (wI S (d + 40) _ _), nI_1, ltq, g1]
    refine ⟨S', rfl, fun q h1 h2 => ?_, fun q hq => (g3 q (by omega)).trans (rI_wI_k (by omega)), (fw _).tr g4⟩
    by_cases e : q = i
    · rw [g3 q (by omega), e, rI_wI]
    · exact g2 q (by omega) h2
def fN8 (d : Nat) : Nat → Nat → Bool := fun a k => fNo d a k || a == d + 38
theorem fN8_n {a k : Nat} (h : ∀ e, (e = 10 ∨ e = 30 ∨ e = 34 ∨ e = 38) → a ≠ d + e) : fN8 d a k = false := by
  unfold fN8
  rw [fNo_n (h 10 (by decide)) (h 30 (by decide)) (h 34 (by decide)), beq_eq_false_iff_ne.mpr (h 38 (by decide))]
  rfl
/-- what is near to each SOUND -/
theorem se_129 (hk : kS d) (hR : ∀ x y, ∃ r, rp (nF W x y) l [] = some [r]) : ∀ (j i m : Nat) (S : St), i + j = 16 → j < m → NW (d + 2) 16 n W S → FS (d + 14) l S → ∃ S', o_to_settle_129 m d (nI i) S = o_to_settle_155 d S' ∧ (∀ q, i ≤ q → q < n → rI S' (d + 38) q = mk n (NBl W l q)) ∧ (∀ q, q < i → rI S' (d + 38) q = rI S (d + 38) q) ∧ Fr (fN8 d) S S'
  | 0, i, m, S, hi, hm, hN, hF => by
    obtain ⟨m, rfl, hm⟩ := fuel hm
    have h16 := hN.2.2.2.2.1
    rw [o_to_settle_129, if_pos hk.1, hk.2.1, if_pos (by decide), if_neg (show ¬ nI i < Int32.ofNat 16 from nI_nlt (b := 16) (by omega) (by omega))]
    exact ⟨S, rfl, fun q h1 h2 => absurd h1 (by omega), fun q _ => rfl, Fr.rf⟩
  | j + 1, i, m, S, hi, hm, hN, hF => by
    obtain ⟨m, rfl, hm⟩ := fuel hm
    have h16 := hN.2.2.2.2.1
    have one : ∃ r S1, o_to_nearOnes d (nI i) S = some (r, S1) ∧ (i < n → r = mk n (NBl W l i)) ∧ Fr (fNo d) S S1 := by
      by_cases q : i < n
      · obtain ⟨S1, a1, a2⟩ := no_loop hk.1 q hR n 0 FU S (by omega) (by unfold FU; omega) hN hF
        exact ⟨_, S1, a1, fun _ => rfl, a2⟩
      · obtain ⟨r, a1⟩ := no_out hk.1 q (by omega) hN
        exact ⟨r, S, a1, fun h => absurd h q, Fr.rf⟩
    obtain ⟨r, S1, a1, a2, a3⟩ := one
    have fw : Fr (fN8 d) S (wI S1 (d + 38) i r) := (a3.mo fun a k q => (Bool.or_eq_false_iff.mp q).1).tr (Fr.wI (by simp))
    obtain ⟨S', g1, g2, g3, g4⟩ := se_129 hk hR j (i + 1) m (wI S1 (d + 38) i r) (by omega) (by omega) (hN.fr fw (fN8_n (by omega)) (fun k => fN8_n (by omega))) (hF.fr fw (fN8_n (by omega)) (fun k => fN8_n (by omega)) (fun k => fN8_n (by omega)))
    rw [o_to_settle_129, if_pos hk.1, hk.2.1, if_pos (by decide), if_pos (show nI i < Int32.ofNat 16 from nI_lt (b := 16) (by omega) (by decide)), a1, bnq, if_pos rfl, if_neg (nI_in (show i < 16 by omega) (by decide)), nI_clamp (by omega), ltq (wI S1 (d + 38) _ _), nI_1, ltq, g1]
    refine ⟨S', rfl, fun q h1 h2 => ?_, fun q hq => (g3 q (by omega)).trans ((rI_wI_k (by omega)).trans (a3.i (fNo_n (by omega) (by omega) (by omega)))), fw.tr g4⟩
    by_cases e : q = i
    · rw [g3 q (by omega), e, rI_wI]
      exact a2 (by omega)
    · exact g2 q (by omega) h2
end SETTLE
