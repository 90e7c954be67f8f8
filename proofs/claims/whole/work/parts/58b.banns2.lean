section BANNS2
variable {T : St} {W V : Nat → List Nat} {L : Int32 → Int32 → Int32} {v d u a : Nat} {Z Z1 Z2 : Nat → Int32} {So So' Sm Sm' S : St}
theorem bfo_ext (T : St) (Z : Nat → Int32) (L : Int32 → Int32 → Int32) (l w : Nat) {dg dg' : Nat → Nat} : ∀ (j i : Nat) (σ : Int32 × Int32 × Int32), (∀ q, i ≤ q → q < i + j → dg q = dg' q) → bfo T Z L l w dg j i σ = bfo T Z L l w dg' j i σ
  | 0, i, σ, _ => rfl
  | j + 1, i, σ, h => by
    rw [bfo, bfo, h i (Nat.le_refl _) (by omega)]
    exact bfo_ext T Z L l w j (i + 1) _ fun q h1 h2 => h q (by omega) (by omega)
theorem bfo_s (T : St) (Z : Nat → Int32) (L : Int32 → Int32 → Int32) (l w : Nat) (dg : Nat → Nat) : ∀ (j i : Nat) (σ : Int32 × Int32 × Int32), bfo T Z L l w dg (j + 1) i σ = bst T Z L l w (i + j) (dg (i + j)) (bfo T Z L l w dg j i σ)
  | 0, i, σ => rfl
  | j + 1, i, σ => by
    rw [bfo, bfo_s T Z L l w dg j (i + 1), bfo, show i + 1 + j = i + (j + 1) by omega]
/-- what is lost after these banns -/
def vsl (T : St) (Z : Nat → Int32) (L : Int32 → Int32 → Int32) (l w : Nat) (o : List Nat) : Int32 × Int32 × Int32 := bfo T Z L l w (fun i => o.getD i 0) o.length 0 (Z 0, Z 1, 0)
theorem gd_l (l : List Nat) (x : Nat) {i : Nat} (h : i < l.length) : (l ++ [x]).getD i 0 = l.getD i 0 := by
  simp [List.getD_eq_getElem?_getD, List.getElem?_append, h]
theorem gd_e (l : List Nat) (x : Nat) : (l ++ [x]).getD l.length 0 = x := by
  simp [List.getD_eq_getElem?_getD, List.getElem?_append]
theorem vsl_s (T : St) (Z : Nat → Int32) (L : Int32 → Int32 → Int32) (l w : Nat) (o : List Nat) (b : Nat) : vsl T Z L l w (o ++ [b]) = bst T Z L l w o.length b (vsl T Z L l w o) := by
  unfold vsl
  rw [List.length_append]
  show bfo T Z L l w _ (o.length + 1) 0 _ = _
  rw [bfo_s, Nat.zero_add, gd_e, bfo_ext T Z L l w o.length 0 _ fun q h1 h2 => gd_l o b (show q < o.length by omega)]
theorem vls_nn (hw : WF T W V) (hB : ∀ (k : Nat) (d : Int32), k < 100 → ∃ j, j < 1000 ∧ L (nI k) d = nI j) (x day : Int32) : ∃ m, m ≤ 10000 ∧ vlS T L x day = nI m := by
  have hn := hw.b
  have : ∀ n, n ≤ ct T 0 → ∃ m, m ≤ 1000 * n ∧ sm n (fun a => bif tb x a then vlA T L a day else 0) = nI m := by
    intro n
    induction n with
    | zero => exact fun _ => ⟨0, Nat.le_refl _, rfl⟩
    | succ n ih =>
      intro h
      obtain ⟨m, h1, h2⟩ := ih (by omega)
      have hap := hw.ap (show n < ct T 0 by omega)
      obtain ⟨j, j1, j2⟩ := hB (vN T 510 n) (day - rI T 509 n) hap.2.2.2.2.2.2
      rw [sm, h2]
      cases tb x n with
      | false => exact ⟨m, by omega, Int32.add_zero _⟩
      | true =>
        refine ⟨m + j, by omega, ?_⟩
        rw [cond_true, ← nI_add, ← j2]
        unfold vlA
        rw [hap.2.2.2.2.2.1]
  obtain ⟨m, h1, h2⟩ := this (ct T 0) (Nat.le_refl _)
  exact ⟨m, by omega, h2⟩
theorem bst_nn (hw : WF T W V) (hB : ∀ (k : Nat) (d : Int32), k < 100 → ∃ j, j < 1000 ∧ L (nI k) d = nI j) (l w i b : Nat) {σ : Int32 × Int32 × Int32} {M : Nat} (h : ∃ m, m ≤ M ∧ σ.2.2 = nI m) : ∃ m, m ≤ M + 20000 ∧ (bst T Z L l w i b σ).2.2 = nI m := by
  obtain ⟨m, h1, h2⟩ := h
  obtain ⟨m1, k1, k2⟩ := vls_nn hw hB (flA T σ.1 σ.2.1 (whM T Z (vN T 519 b) l w) (ecM T Z (vN T 519 b) l w)) (Z 2 + 7 * nI i)
  obtain ⟨m2, q1, q2⟩ := vls_nn hw hB (flA T (b1s T Z L (vN T 519 b) l w (Z 2 + 7 * nI i) σ).1 (b1s T Z L (vN T 519 b) l w (Z 2 + 7 * nI i) σ).2.1 (whM T Z (vN T 520 b) l w) (ecM T Z (vN T 520 b) l w)) (Z 2 + 7 * nI i)
  refine ⟨m + m1 + m2, by omega, ?_⟩
  have e1 : (b1s T Z L (vN T 519 b) l w (Z 2 + 7 * nI i) σ).2.2 = nI (m + m1) := by
    show σ.2.2 + _ = _
    rw [h2, k2, nI_add]
  show (b1s T Z L (vN T 519 b) l w (Z 2 + 7 * nI i) σ).2.2 + _ = _
  rw [e1, q2, nI_add]
theorem bfo_nn (hw : WF T W V) (hB : ∀ (k : Nat) (d : Int32), k < 100 → ∃ j, j < 1000 ∧ L (nI k) d = nI j) (l w : Nat) (dg : Nat → Nat) : ∀ (j i : Nat) (σ : Int32 × Int32 × Int32) (M : Nat), (∃ m, m ≤ M ∧ σ.2.2 = nI m) → ∃ m, m ≤ M + 20000 * j ∧ (bfo T Z L l w dg j i σ).2.2 = nI m
  | 0, i, σ, M, h => h
  | j + 1, i, σ, M, h => by
    obtain ⟨m, h1, h2⟩ := bfo_nn hw hB l w dg j (i + 1) _ _ (bst_nn (Z := Z) hw hB l w i (dg i) h)
    exact ⟨m, by omega, h2⟩
/-- the search for the least, by what is lost -/
def cmS (T : St) (Z : Nat → Int32) (L : Int32 → Int32 → Int32) (l w : Nat) (β : Int32 × List Nat) (o : List Nat) : Int32 × List Nat := bif decide (β.1 < 0) || decide ((vsl T Z L l w o).2.2 < β.1) then ((vsl T Z L l w o).2.2, o) else β
def enB (f : Nat → List (List Nat)) (pre : List Nat) : Nat → Nat → List (List Nat)
  | 0, _ => []
  | c + 1, b => (bif pre.contains b then [] else f b) ++ enB f pre c (b + 1)
def enu (n : Nat) : Nat → List Nat → List (List Nat)
  | 0, pre => [pre]
  | j + 1, pre => enB (fun b => enu n j (pre ++ [b])) pre n 0
theorem enu_all : ∀ n, n < 5 → 0 < n → ((List.range (4 ^ n)).filter fun c => iso n c n 0 0).map (fun c => (List.range n).map (dgt n c)) = enu n n [] := by decide +kernel
theorem iso_dg : ∀ n, n < 5 → ∀ c, c < 4 ^ n → iso n c n 0 0 = true → ∀ i, i < n → dgt n c i < n := by decide +kernel
/-- what the reference keeps of its search -/
def BR (n : Nat) (β : Int32 × List Nat) (S : St) : Prop := rI S 500 85 = β.1 ∧ (¬ β.1 < 0 → ∀ q, q < n → rI S 566 q = nI (β.2.getD q 0))
def fRd : Nat → Nat → Bool := fun a k => frV a k || frH a k || (a == 500 && k == 85) || a == 565 || a == 566
theorem fRd_n {a k : Nat} (h : a < 526 ∨ 535 < a) (h2 : a ≠ 500 ∨ (k ≠ 70 ∧ k ≠ 71 ∧ k ≠ 72 ∧ k ≠ 85)) (h3 : a ≠ 565 ∧ a ≠ 566) : fRd a k = false := by
  unfold fRd frV frH
  simp
  omega
theorem m_copy4 (S0 : St) : ∀ (j i m : Nat) (S : St) (rcc : Int32 → Int32 → Int32 → Int32 → Int32 → Int32 → Int32 → St → Re Unit), i + j = 4 → j < m → (∀ q, q < i → rI S 566 q = rI S0 565 q) → (∀ q, rI S 565 q = rI S0 565 q) → ∃ S', m_reads0_36 rcc m (nI i) S = some ((), S') ∧ (∀ q, q < 4 → rI S' 566 q = rI S0 565 q) ∧ Fr (fun a _ => a == 566) S S'
  | 0, i, m, S, rcc, hi, hm, h1, h2 => by
    obtain ⟨m, rfl, hm⟩ := fuel hm
    obtain rfl : i = 4 := by omega
    refine ⟨S, ?_, h1, Fr.rf⟩
    rw [m_reads0_36, if_neg (by decide)]
    rfl
  | j + 1, i, m, S, rcc, hi, hm, h1, h2 => by
    obtain ⟨m, rfl, hm⟩ := fuel hm
    obtain ⟨S', e1, e2, e3⟩ := m_copy4 S0 j (i + 1) m (wI S 566 i (rI S0 565 i)) rcc (by omega) (by omega) (fun q hq => by
      by_cases q2 : q = i
      · subst q2
        rw [rI_wI]
      · rw [rI_wI_k q2]
        exact h1 q (by omega)) (fun q => by rw [rI_wI_a (by decide), h2])
    refine ⟨S', ?_, e2, (Fr.wI rfl).tr e3⟩
    rw [m_reads0_36, if_pos (show nI i < 4 from nI_lt (b := 4) (by omega) (by decide)), if_neg (nI_in (by omega) (by omega)), nI_clamp (by omega), if_neg (nI_inC (by omega) (by omega)), h2 i, ltq, ltq, nI_1]
    exact e1
/-- a bann read, in the reference -/
theorem m_two (hw : WF T W V) (hL : LawV T L) (hz : WZ T Z) {l w : Nat} (hl : l < 12) (hww : w < 7) {b k : Nat} (hb : b < ct T 5) (hk : k < 4) (rcc : Int32 → Int32 → Int32 → Int32 → Int32 → Int32 → Int32 → St → Re Unit) (k66 : Int32 → Int32 → Int32 → Int32 → Int32 → Int32 → Int32 → Int32 → St → Re Unit) (x h0 s0 y0 : Int32) {m : Nat} (hm : 2 < m) (σ : Int32 × Int32 × Int32) (hO : OM T S) (hS : SM Z S) : ∃ S', m_reads0_112 rcc k66 m (nI k) x h0 s0 y0 (nI l) (nI w) (nI b) σ.1 σ.2.1 σ.2.2 0 S = m_reads0_209 rcc k66 (nI k) x h0 s0 y0 (nI l) (nI w) (nI b) (bst T Z L l w k b σ).1 (bst T Z L l w k b σ).2.1 (bst T Z L l w k b σ).2.2 S' ∧ Fr (fun a k => frV a k || frH a k) S S' := by
  have hn := hw.b
  have hba := hw.bn hb
  obtain ⟨m, rfl⟩ : ∃ m', m = m' + 3 := ⟨m - 3, by omega⟩
  have one : ∀ (c : Nat) (σ : Int32 × Int32 × Int32) (S : St) (t : Int32) (f : Int32 → Int32 → Int32 → Int32 → Int32 → Int32 → Int32 → Int32 → Int32 → Int32 → Int32 → Int32 → St → Re Unit), c < ct T 1 → OM T S → SM Z S → ∃ S', m_reads0_141 rcc f (nI k) x h0 s0 y0 (nI l) (nI w) (nI b) σ.1 σ.2.1 σ.2.2 t (nI c) S = f (nI k) x h0 s0 y0 (nI l) (nI w) (nI b) (b1s T Z L c l w (Z 2 + 7 * nI k) σ).1 (b1s T Z L c l w (Z 2 + 7 * nI k) σ).2.1 (b1s T Z L c l w (Z 2 + 7 * nI k) σ).2.2 (t + 1) S' ∧ OM T S' ∧ SM Z S' ∧ Fr (fun a k => frV a k || frH a k) S S' := by
    intro c σ S t f hc hO hS
    obtain ⟨S1, a1, a2, a3, a4⟩ := m_hears_ok hw hz hO hS hc hl hww
    have hO1 := hO.fr a2 fun a k q => frH_o q
    have hS1 : SM Z S1 := hS.fr a2 fun k => rfl
    obtain ⟨S2, b1', b2, b3⟩ := m_fallsBy_ok hw hO1 σ.1 σ.2.1 (whM T Z c l w) (ecM T Z c l w)
    have hO2 := hO1.fr b2 fun a k q => frL_H (frH_o q)
    have hS2 : SM Z S2 := hS1.fr b2 fun k => rfl
    obtain ⟨S3, c1', c2'⟩ := m_worthOf_ok hw hL hO2 (flA T σ.1 σ.2.1 (whM T Z c l w) (ecM T Z c l w)) (Z 2 + 7 * nI k)
    refine ⟨S3, ?_, hO2.fr c2' fun a k q => frV_o q, hS2.fr c2' fun k => rfl, ((a2.mo fun a k q => (Bool.or_eq_false_iff.mp q).2).tr (b2.mo fun a k q => frL_H (Bool.or_eq_false_iff.mp q).2)).tr (c2'.mo fun a k q => (Bool.or_eq_false_iff.mp q).1)⟩
    unfold m_reads0_141
    rw [a1, bnq, a3, a4, b1', bnq, ltq, b3, ltq, if_neg g2_15, c2, hS2 2 (by decide), c1', bnq, ltq, ltq]
    rfl
  obtain ⟨S1, a1, a2, a3, a4⟩ := one (vN T 519 b) σ S 0 (m_reads0_112 rcc k66 (m + 2)) hba.1.2 hO hS
  obtain ⟨S2, b1', b2, b3, b4⟩ := one (vN T 520 b) (b1s T Z L (vN T 519 b) l w (Z 2 + 7 * nI k) σ) S1 (0 + 1) (m_reads0_112 rcc k66 (m + 1)) hba.2.2 a2 a3
  refine ⟨S2, ?_, a4.tr b4⟩
  rw [m_reads0_112, if_pos (by decide), if_pos rfl, if_neg (nI_in (by omega) (by omega)), nI_clamp (by omega), hO.ba (by omega), hba.1.1, a1, m_reads0_112, if_pos (by decide), if_neg (by decide), if_neg (nI_in (by omega) (by omega)), nI_clamp (by omega), a2.bb (by omega), hba.2.1, b1', m_reads0_112, if_neg (by decide)]
  rfl
end BANNS2
