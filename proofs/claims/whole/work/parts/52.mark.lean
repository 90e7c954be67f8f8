/-! Public methods: mark. -/
section MARK
variable {T : St} {W V : Nat → List Nat} {L : Int32 → Int32 → Int32} {v d q a b : Nat} {Z : Nat → Int32} {So So' Sm Sm' S : St} {P Q : Nat → Nat → Bool}
def fLl (b : Nat) : Nat → Nat → Bool := fun x k => (x == 543 && k == b) || (decide (544 ≤ x) && decide (x ≤ 546) && decide (40 * b ≤ k) && decide (k < 40 * b + 40))
def fLt (b : Nat) : Nat → Nat → Bool := fun x k => ((x == 547 || x == 548 || x == 549) && k == b) || (decide (550 ≤ x) && decide (x ≤ 552) && decide (12 * b ≤ k) && decide (k < 12 * b + 12))
theorem x40 (i j : Nat) : (40 : Int32) * nI i + nI j = nI (40 * i + j) := by
  rw [show (40 : Int32) = nI 40 from rfl, nI_mul, nI_add]
theorem x12 (i j : Nat) : (12 : Int32) * nI i + nI j = nI (12 * i + j) := by
  rw [show (12 : Int32) = nI 12 from rfl, nI_mul, nI_add]
theorem ll_loop (hab : a ≠ b) (ha : a < 6) (hb : b < 6) : ∀ (j i m : Nat) (S : St), i + j = 40 → j < m → ∃ S', m_laysLines_14 m (nI a) (nI b) (nI i) S = some ((), S') ∧ (∀ x k, 544 ≤ x ∧ x ≤ 546 → i ≤ k → k < 40 → rI S' x (40 * b + k) = rI S x (40 * a + k)) ∧ Fr (fun x k => decide (544 ≤ x) && decide (x ≤ 546) && decide (40 * b + i ≤ k) && decide (k < 40 * b + 40)) S S'
  | 0, i, m, S, hi, hm => by
    obtain ⟨m, rfl, hm⟩ := fuel hm
    obtain rfl : i = 40 := by omega
    exact ⟨S, by rw [m_laysLines_14, if_neg (by decide)]; rfl, fun x k _ h1 h2 => absurd h1 (by omega), Fr.rf⟩
  | j + 1, i, m, S, hi, hm => by
    obtain ⟨m, rfl, hm⟩ := fuel hm
    obtain ⟨S', e1, e2, e3⟩ := ll_loop hab ha hb j (i + 1) m (wI (wI (wI S 544 (40 * b + i) (rI S 544 (40 * a + i))) 545 (40 * b + i) (rI S 545 (40 * a + i))) 546 (40 * b + i) (rI S 546 (40 * a + i))) (by omega) (by omega)
    refine ⟨S', ?_, fun x k hx h1 h2 => ?_, ?_⟩
    · rw [m_laysLines_14, if_pos (show nI i < 40 from nI_lt (b := 40) (by omega) (by decide)), x40, x40, if_neg (nI_in (by omega) (by omega)), if_neg (nI_in (by omega) (by omega)), nI_clamp (by omega), nI_clamp (by omega), ltq (wI S 544 _ _), if_neg (nI_inC (by omega) (by omega)), if_neg (nI_inC (by omega) (by omega)), rI_wI_a (S := S) (a := 544) (b := 545) (by decide), ltq (wI (wI S 544 _ _) 545 _ _), if_neg (nI_inC (by omega) (by omega)), if_neg (nI_inC (by omega) (by omega)), rI_wI_a (S := wI S 544 _ _) (a := 545) (b := 546) (by decide), rI_wI_a (S := S) (a := 544) (b := 546) (by decide), ltq, ltq, nI_1]
      exact e1
    · by_cases q : k = i
      · subst q
        rw [e3.i (by simp; omega)]
        rcases (show x = 544 ∨ x = 545 ∨ x = 546 by omega) with rfl | rfl | rfl
        · rw [rI_wI_a (by decide), rI_wI_a (by decide), rI_wI]
        · rw [rI_wI_a (by decide), rI_wI]
        · rw [rI_wI]
      · rw [e2 x k hx (by omega) h2]
        rw [rI_wI_k (by omega), rI_wI_k (by omega), rI_wI_k (by omega)]
    · have f1 : ∀ x v' S0, 544 ≤ x ∧ x ≤ 546 → Fr (fun x k => decide (544 ≤ x) && decide (x ≤ 546) && decide (40 * b + i ≤ k) && decide (k < 40 * b + 40)) S0 (wI S0 x (40 * b + i) v') := fun x v' S0 hx => Fr.wI (by simp; omega)
      refine (((f1 544 _ _ (by decide)).tr (f1 545 _ _ (by decide))).tr (f1 546 _ _ (by decide))).tr (e3.mo fun x k q => ?_)
      simp at q ⊢
      omega
theorem ll_ok (hab : a ≠ b) (ha : a < 6) (hb : b < 6) (S : St) : ∃ S', m_laysLines (nI a) (nI b) S = some ((), S') ∧ rI S' 543 b = rI S 543 a ∧ (∀ x k, 544 ≤ x ∧ x ≤ 546 → k < 40 → rI S' x (40 * b + k) = rI S x (40 * a + k)) ∧ Fr (fLl b) S S' := by
  obtain ⟨S', e1, e2, e3⟩ := ll_loop hab ha hb 40 0 FU (wI S 543 b (rI S 543 a)) rfl (by unfold FU; omega)
  refine ⟨S', ?_, ?_, fun x k hx hk => ?_, (Fr.wI (by unfold fLl; simp)).tr (e3.mo fun x k q => ?_)⟩
  · unfold m_laysLines
    rw [if_neg (nI_in (by omega) (by omega)), if_neg (nI_in (by omega) (by omega)), nI_clamp (by omega), nI_clamp (by omega), ltq]
    exact e1
  · rw [e3.i (by simp), rI_wI]
  · rw [e2 x k hx (by omega) hk, rI_wI_a (by omega)]
  · unfold fLl at q
    simp at q ⊢
    omega
theorem lt_loop (hab : a ≠ b) (ha : a < 5) (hb : b < 5) : ∀ (j i m : Nat) (S : St), i + j = 12 → j < m → ∃ S', m_laysTold_38 m (nI a) (nI b) (nI i) S = some ((), S') ∧ (∀ k, i ≤ k → k < 12 → rI S' 550 (12 * b + k) = rI S 550 (12 * a + k) ∧ rI S' 551 (12 * b + k) = rI S 551 (12 * a + k) ∧ rI S' 552 (12 * b + k) = vp_nar .boolean (rI S 552 (12 * a + k))) ∧ Fr (fun x k => decide (550 ≤ x) && decide (x ≤ 552) && decide (12 * b + i ≤ k) && decide (k < 12 * b + 12)) S S'
  | 0, i, m, S, hi, hm => by
    obtain ⟨m, rfl, hm⟩ := fuel hm
    obtain rfl : i = 12 := by omega
    exact ⟨S, by rw [m_laysTold_38, if_neg (by decide)]; rfl, fun k h1 h2 => absurd h1 (by omega), Fr.rf⟩
  | j + 1, i, m, S, hi, hm => by
    obtain ⟨m, rfl, hm⟩ := fuel hm
    obtain ⟨S', e1, e2, e3⟩ := lt_loop hab ha hb j (i + 1) m (wI (wI (wI S 550 (12 * b + i) (rI S 550 (12 * a + i))) 551 (12 * b + i) (rI S 551 (12 * a + i))) 552 (12 * b + i) (vp_nar .boolean (rI S 552 (12 * a + i)))) (by omega) (by omega)
    refine ⟨S', ?_, fun k h1 h2 => ?_, ?_⟩
    · rw [m_laysTold_38, if_pos (show nI i < 12 from nI_lt (b := 12) (by omega) (by decide)), x12, x12, if_neg (nI_in (by omega) (by omega)), if_neg (nI_in (by omega) (by omega)), nI_clamp (by omega), nI_clamp (by omega), ltq (wI S 550 _ _), if_neg (nI_inC (by omega) (by omega)), if_neg (nI_inC (by omega) (by omega)), rI_wI_a (S := S) (a := 550) (b := 551) (by decide), ltq (wI (wI S 550 _ _) 551 _ _), if_neg (nI_inC (by omega) (by omega)), if_neg (nI_inC (by omega) (by omega)), rI_wI_a (S := wI S 550 _ _) (a := 551) (b := 552) (by decide), rI_wI_a (S := S) (a := 550) (b := 552) (by decide), ltq, ltq, nI_1]
      exact e1
    · by_cases q : k = i
      · subst q
        rw [e3.i (by simp; omega), e3.i (by simp; omega), e3.i (by simp; omega)]
        refine ⟨?_, ?_, ?_⟩
        · rw [rI_wI_a (by decide), rI_wI_a (by decide), rI_wI]
        · rw [rI_wI_a (by decide), rI_wI]
        · rw [rI_wI]
      · obtain ⟨d1, d2, d3⟩ := e2 k (by omega) h2
        rw [d1, d2, d3]
        refine ⟨?_, ?_, ?_⟩ <;> rw [rI_wI_k (by omega), rI_wI_k (by omega), rI_wI_k (by omega)]
    · have f1 : ∀ x v' S0, 550 ≤ x ∧ x ≤ 552 → Fr (fun x k => decide (550 ≤ x) && decide (x ≤ 552) && decide (12 * b + i ≤ k) && decide (k < 12 * b + 12)) S0 (wI S0 x (12 * b + i) v') := fun x v' S0 hx => Fr.wI (by simp; omega)
      refine (((f1 550 _ _ (by decide)).tr (f1 551 _ _ (by decide))).tr (f1 552 _ _ (by decide))).tr (e3.mo fun x k q => ?_)
      simp at q ⊢
      omega
theorem lt_ok (hab : a ≠ b) (ha : a < 5) (hb : b < 5) (S : St) : ∃ S', m_laysTold (nI a) (nI b) S = some ((), S') ∧ rI S' 547 b = rI S 547 a ∧ rI S' 548 b = rI S 548 a ∧ rI S' 549 b = rI S 549 a ∧ (∀ k, k < 12 → rI S' 550 (12 * b + k) = rI S 550 (12 * a + k) ∧ rI S' 551 (12 * b + k) = rI S 551 (12 * a + k) ∧ rI S' 552 (12 * b + k) = vp_nar .boolean (rI S 552 (12 * a + k))) ∧ Fr (fLt b) S S' := by
  obtain ⟨S', e1, e2, e3⟩ := lt_loop hab ha hb 12 0 FU (wI (wI (wI S 547 b (rI S 547 a)) 548 b (rI S 548 a)) 549 b (rI S 549 a)) rfl (by unfold FU; omega)
  have f1 : ∀ x v' S0, 547 ≤ x ∧ x ≤ 549 → Fr (fLt b) S0 (wI S0 x b v') := fun x v' S0 hx => Fr.wI (by unfold fLt; simp; omega)
  refine ⟨S', ?_, ?_, ?_, ?_, fun k hk => ?_, (((f1 547 _ _ (by decide)).tr (f1 548 _ _ (by decide))).tr (f1 549 _ _ (by decide))).tr (e3.mo fun x k q => ?_)⟩
  · unfold m_laysTold
    rw [if_neg (nI_in (by omega) (by omega)), if_neg (nI_in (by omega) (by omega)), nI_clamp (by omega), nI_clamp (by omega), ltq (wI S 547 _ _), if_neg (nI_inC (by omega) (by omega)), if_neg (nI_inC (by omega) (by omega)), rI_wI_a (S := S) (a := 547) (b := 548) (by decide), ltq (wI (wI S 547 _ _) 548 _ _), if_neg (nI_inC (by omega) (by omega)), if_neg (nI_inC (by omega) (by omega)), rI_wI_a (S := wI S 547 _ _) (a := 548) (b := 549) (by decide), rI_wI_a (S := S) (a := 547) (b := 549) (by decide), ltq]
    exact e1
  · rw [e3.i (by simp), rI_wI_a (by decide), rI_wI_a (by decide), rI_wI]
  · rw [e3.i (by simp), rI_wI_a (by decide), rI_wI]
  · rw [e3.i (by simp), rI_wI]
  · obtain ⟨d1, d2, d3⟩ := e2 k (by omega) hk
    rw [d1, d2, d3]
    refine ⟨?_, ?_, ?_⟩ <;> rw [rI_wI_a (by decide), rI_wI_a (by decide), rI_wI_a (by decide)]
  · unfold fLt at q
    simp at q ⊢
    omega
/-- what a copy into a slot may touch -/
def fSa (b : Nat) : Nat → Nat → Bool := fun x _ => x == 200 + b || x == 230 + b || x == 111 + b || x == 141 + b || x == 116 + b || x == 146 + b || x == 70 + b
theorem fSa_n {b x k : Nat} (h : x ≠ 200 + b ∧ x ≠ 230 + b ∧ x ≠ 111 + b ∧ x ≠ 141 + b ∧ x ≠ 116 + b ∧ x ≠ 146 + b ∧ x ≠ 70 + b) : fSa b x k = false := by
  unfold fSa
  simp
  omega
theorem sa_k (hb : b < 5) : KO.1 (70 + b) = (0, 6) ∧ KO.1 (70 + b + 130) = (0, 5) ∧ KO.1 (70 + b + 41) = (0, 7) ∧ KO.1 (70 + b + 46) = (0, 7) ∧ KO.1 (200 + b + 30) = (1, 10) := by
  rcases (show b = 0 ∨ b = 1 ∨ b = 2 ∨ b = 3 ∨ b = 4 by omega) with rfl | rfl | rfl | rfl | rfl <;> exact ⟨rfl, rfl, rfl, rfl, rfl⟩
theorem sa_copy {n m n' m' na' : Nat} {f g f' g' : Nat → Nat → Int32} (hab : a ≠ b) (ha : a < 5) (hb : b < 5) (hn : na' ≤ 10) (hz : ∃ b, Z 3 = bI b) (h1 : SD (200 + a) Z na' S) (h2 : TB (111 + a) 40 3 n f S) (h3 : TB (116 + a) 12 3 m g S) (h4 : TB (111 + b) 40 3 n' f' S) (h5 : TB (116 + b) 12 3 m' g' S) : ∃ S', o_sa_copy (70 + b) (70 + a) S = some ((), S') ∧ SD (200 + b) Z na' S' ∧ TB (111 + b) 40 3 n f S' ∧ TB (116 + b) 12 3 m g S' ∧ rI S' (70 + b) 3 = rI S (70 + a) 3 ∧ rI S' (70 + b) 4 = rI S (70 + a) 4 ∧ Fr (fSa b) S S' := by
  obtain ⟨k1, k2, k3, k4, k5⟩ := sa_k hb
  obtain ⟨j1, j2, j3, j4, j5⟩ := sa_k ha
  obtain ⟨S1, a1, a2, a3⟩ := sd_copy (u := 200 + b) (u2 := 200 + a) ⟨by rw [show 200 + b = 70 + b + 130 by omega]; exact k2, k5⟩ h1 hn (by omega) (by omega) (by omega) hz
  have fr1 : ∀ x k : Nat, x ≠ 200 + b → x ≠ 230 + b → frU (200 + b) x k = false := fun x k q1 q2 => frU_n (by omega) (by omega)
  obtain ⟨S2, b1', b2, b3⟩ := tb_copy (v := 111 + b) (u := 111 + a) (h4.fr a3 (fun k => fr1 _ _ (by omega) (by omega)) (fun k => fr1 _ _ (by omega) (by omega))) (h2.fr a3 (fun k => fr1 _ _ (by omega) (by omega)) (fun k => fr1 _ _ (by omega) (by omega))) (by omega) (by omega) (by omega)
  have fr2 : ∀ x k : Nat, x ≠ 111 + b → x ≠ 141 + b → (x == 111 + b + 30 || (x == 111 + b && k == 3)) = false := fun x k q1 q2 => by
    simp
    omega
  obtain ⟨S3, c1', c2', c3'⟩ := tb_copy (v := 116 + b) (u := 116 + a) ((h5.fr a3 (fun k => fr1 _ _ (by omega) (by omega)) (fun k => fr1 _ _ (by omega) (by omega))).fr b3 (fun k => fr2 _ _ (by omega) (by omega)) (fun k => fr2 _ _ (by omega) (by omega))) ((h3.fr a3 (fun k => fr1 _ _ (by omega) (by omega)) (fun k => fr1 _ _ (by omega) (by omega))).fr b3 (fun k => fr2 _ _ (by omega) (by omega)) (fun k => fr2 _ _ (by omega) (by omega))) (by omega) (by omega) (by omega)
  have fr3 : ∀ x k : Nat, x ≠ 116 + b → x ≠ 146 + b → (x == 116 + b + 30 || (x == 116 + b && k == 3)) = false := fun x k q1 q2 => by
    simp
    omega
  have fs : Fr (fSa b) S S3 := ((a3.mo fun x k q => by
    unfold fSa at q
    simp at q
    exact fr1 _ _ (by omega) (by omega)).tr (b3.mo fun x k q => by
    unfold fSa at q
    simp at q
    exact fr2 _ _ (by omega) (by omega))).tr (c3'.mo fun x k q => by
    unfold fSa at q
    simp at q
    exact fr3 _ _ (by omega) (by omega))
  have fa : Fr (fun x _ => x == 70 + b) S3 (wI (wI S3 (70 + b) 3 (rI S (70 + a) 3)) (70 + b) 4 (rI S (70 + a) 4)) := (Fr.wI (by simp)).tr (Fr.wI (by simp))
  have fan : ∀ x : Nat, x ≠ 70 + b → (x == 70 + b) = false := fun x q => beq_eq_false_iff_ne.mpr q
  refine ⟨wI (wI S3 (70 + b) 3 (rI S (70 + a) 3)) (70 + b) 4 (rI S (70 + a) 4), ?_, (((a2.frw b3 (fun k => fr2 _ _ (by omega) (by omega)) (fun k => fr2 _ _ (by omega) (by omega))).frw c3' (fun k => fr3 _ _ (by omega) (by omega)) (fun k => fr3 _ _ (by omega) (by omega))).frw fa (fun k => fan _ (by omega)) (fun k => fan _ (by omega))), (b2.fr c3' (fun k => fr3 _ _ (by omega) (by omega)) (fun k => fr3 _ _ (by omega) (by omega))).fr fa (fun k => fan _ (by omega)) (fun k => fan _ (by omega)), c2'.fr fa (fun k => fan _ (by omega)) (fun k => fan _ (by omega)), ?_, ?_, fs.tr (fa.mo fun x k q => by
    unfold fSa at q
    simp at q ⊢
    omega)⟩
  · unfold o_sa_copy
    rw [if_pos k1, if_pos j1, if_pos k2, show 70 + b + 130 = 200 + b by omega, show 70 + a + 130 = 200 + a by omega, a1, bnq, if_pos k3, show 70 + b + 41 = 111 + b by omega, show 70 + a + 41 = 111 + a by omega, b1', bnq, if_pos k4, show 70 + b + 46 = 116 + b by omega, show 70 + a + 46 = 116 + a by omega, c1', bnq, fs.i (fSa_n (by omega)), ltq, rI_wI_a (by omega), fs.i (fSa_n (by omega)), ltq]
  · rw [rI_wI_k (by decide), rI_wI]
  · rw [rI_wI]
def lay (a b : Nat) (S S2 : St) : Prop := rI S2 543 b = rI S 543 a ∧ (∀ x k, 544 ≤ x ∧ x ≤ 546 → k < 40 → rI S2 x (40 * b + k) = rI S x (40 * a + k)) ∧ rI S2 547 b = rI S 547 a ∧ rI S2 548 b = rI S 548 a ∧ rI S2 549 b = rI S 549 a ∧ ∀ k, k < 12 → rI S2 550 (12 * b + k) = rI S 550 (12 * a + k) ∧ rI S2 551 (12 * b + k) = rI S 551 (12 * a + k) ∧ rI S2 552 (12 * b + k) = vp_nar .boolean (rI S 552 (12 * a + k))
def fLy (b : Nat) : Nat → Nat → Bool := fun x k => fLl b x k || fLt b x k
theorem fLl_n {b x k : Nat} (h : x = 543 → k ≠ b) (h2 : 544 ≤ x → x ≤ 546 → 40 * b ≤ k → 40 * b + 40 ≤ k) : fLl b x k = false := by
  unfold fLl
  simp
  exact ⟨h, h2⟩
theorem fLt_n {b x k : Nat} (h : 547 ≤ x → x ≤ 549 → k ≠ b) (h2 : 550 ≤ x → x ≤ 552 → 12 * b ≤ k → 12 * b + 12 ≤ k) : fLt b x k = false := by
  unfold fLt
  simp
  exact ⟨fun q => h (by omega) (by omega), h2⟩
theorem fLy_n {b x k : Nat} (h : x = 543 ∨ (547 ≤ x ∧ x ≤ 549) → k ≠ b) (h2 : 544 ≤ x → x ≤ 546 → 40 * b ≤ k → 40 * b + 40 ≤ k) (h3 : 550 ≤ x → x ≤ 552 → 12 * b ≤ k → 12 * b + 12 ≤ k) : fLy b x k = false := by
  unfold fLy
  rw [fLl_n (fun q => h (Or.inl q)) h2, fLt_n (fun q q2 => h (Or.inr ⟨q, q2⟩)) h3]
  rfl
theorem fLy_o {b x k : Nat} (h : x < 543 ∨ 552 < x) : fLy b x k = false := fLy_n (by omega) (by omega) (by omega)
theorem m_lay (hab : a ≠ b) (ha : a < 5) (hb : b < 5) (S : St) : ∃ S1 S2, m_laysLines (nI a) (nI b) S = some ((), S1) ∧ m_laysTold (nI a) (nI b) S1 = some ((), S2) ∧ lay a b S S2 ∧ Fr (fLy b) S S2 := by
  obtain ⟨S1, a1, a2, a3, a4⟩ := ll_ok hab (show a < 6 by omega) (show b < 6 by omega) S
  obtain ⟨S2, b1', b2, b3, b4, b5, b6⟩ := lt_ok hab ha hb S1
  have n1 : ∀ x k, 547 ≤ x → fLl b x k = false := fun x k q => fLl_n (by omega) (by omega)
  have n2 : ∀ x k, x ≤ 546 → fLt b x k = false := fun x k q => fLt_n (by omega) (by omega)
  refine ⟨S1, S2, a1, b1', ⟨(b6.i (n2 _ _ (by decide))).trans a2, fun x k hx hk => (b6.i (n2 _ _ (by omega))).trans (a3 x k hx hk), b2.trans (a4.i (n1 _ _ (by decide))), b3.trans (a4.i (n1 _ _ (by decide))), b4.trans (a4.i (n1 _ _ (by decide))), fun k hk => ?_⟩, (a4.mo fun x k q => ?_).tr (b6.mo fun x k q => ?_)⟩
  · rw [← a4.i (n1 550 _ (by decide)), ← a4.i (n1 551 _ (by decide)), ← a4.i (n1 552 _ (by decide))]
    exact b5 k hk
  · unfold fLy at q
    exact (Bool.or_eq_false_iff.mp q).1
  · unfold fLy at q
    exact (Bool.or_eq_false_iff.mp q).2
theorem Slt.cp {n m : Nat} {f g : Nat → Nat → Int32} (h1 : LnV T n f) (h2 : LnM a n f Sm) (h3 : TlM T W a m g Sm) (h4 : lo (ct T 0) (rI Sm 547 a)) (h5 : lo (ct T 0) (rI Sm 548 a)) (hl : lay a b Sm Sm') (t1 : TB (111 + b) 40 3 n f So') (t2 : TB (116 + b) 12 3 m g So') (e3 : rI So' (70 + b) 3 = rI Sm 547 a) (e4 : rI So' (70 + b) 4 = rI Sm 548 a) : Slt T W b So' Sm' := by
  obtain ⟨l1, l2, l3, l4, l5, l6⟩ := hl
  have hn40 : n ≤ 40 := t1.2.2.2.2.2.1
  have hm12 : m ≤ 12 := t2.2.2.2.2.2.1
  refine ⟨n, f, m, g, _, _, t1, h1, ⟨l1.trans h2.1, fun i hi => ?_⟩, t2, ⟨l5.trans h3.1, fun i hi => ?_⟩, e3, l3, e4, l4, h4, h5⟩
  · rw [l2 544 i (by decide) (by omega), l2 545 i (by decide) (by omega), l2 546 i (by decide) (by omega)]
    exact h2.2 i hi
  · obtain ⟨c, k, z, r1, r2, r3, r4, r5, r6⟩ := h3.2 i hi
    obtain ⟨u1, u2, u3⟩ := l6 i (by omega)
    exact ⟨c, k, z, r1, r2, u1.trans r3, u2.trans r4, by rw [u3, r5, nar_b], r6⟩
/-- a slot is kept, by its own cells only -/
theorem Slt.fr3 (h : Slt T W q So Sm) (fo : Fr P So So') (fm : Fr Q Sm Sm') (hp : ∀ k, P (111 + q) k = false ∧ P (141 + q) k = false ∧ P (116 + q) k = false ∧ P (146 + q) k = false ∧ P (70 + q) k = false) (h1 : ∀ a, a = 543 ∨ (547 ≤ a ∧ a ≤ 549) → Q a q = false) (h2 : ∀ a k, 544 ≤ a ∧ a ≤ 546 → 40 * q ≤ k → k < 40 * q + 40 → Q a k = false) (h3 : ∀ a k, 550 ≤ a ∧ a ≤ 552 → 12 * q ≤ k → k < 12 * q + 12 → Q a k = false) : Slt T W q So' Sm' := by
  obtain ⟨n, f, m, g, kn, th, s1, s2, s3, s4, s5, s6, s7, s8, s9, s10, s11⟩ := h
  have hn40 : n ≤ 40 := s1.2.2.2.2.2.1
  have hm12 : m ≤ 12 := s4.2.2.2.2.2.1
  refine ⟨n, f, m, g, kn, th, s1.fr fo (fun k => (hp k).1) (fun k => ?_), s2, ⟨(fm.i (h1 _ (by omega))).trans s3.1, fun i hi => ?_⟩, s4.fr fo (fun k => (hp k).2.2.1) (fun k => ?_), ⟨(fm.i (h1 _ (by omega))).trans s5.1, fun i hi => ?_⟩, (fo.i (hp _).2.2.2.2).trans s6, (fm.i (h1 _ (by omega))).trans s7, (fo.i (hp _).2.2.2.2).trans s8, (fm.i (h1 _ (by omega))).trans s9, s10, s11⟩
  · rw [show 111 + q + 30 = 141 + q by omega]; exact (hp k).2.1
  · rw [fm.i (h2 544 _ (by decide) (by omega) (by omega)), fm.i (h2 545 _ (by decide) (by omega) (by omega)), fm.i (h2 546 _ (by decide) (by omega) (by omega))]
    exact s3.2 i hi
  · rw [show 116 + q + 30 = 146 + q by omega]; exact (hp k).2.2.2.1
  · rw [fm.i (h3 550 _ (by decide) (by omega) (by omega)), fm.i (h3 551 _ (by decide) (by omega) (by omega)), fm.i (h3 552 _ (by decide) (by omega) (by omega))]
    exact s5.2 i hi
theorem wI_self {S : St} {a k : Nat} {x : Int32} (h : rI S a k = x) : wI S a k x = S := by
  refine Prod.ext ?_ rfl
  funext b j
  show up2 S.1 a k x b j = S.1 b j
  by_cases q : b = a ∧ j = k
  · obtain ⟨rfl, rfl⟩ := q
    rw [up2_eq]
    exact h.symm
  · exact up2_ne q
end MARK
