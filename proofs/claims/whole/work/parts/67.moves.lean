/-! An orchard is laid: the draft moves to its place. -/
section MOVES
variable {n p b k i d s s' bz j mo mm a : Nat} {w : List Nat} {tx : Nat → Int32} {T T' So Sm S S' So' Sm' : St} {P Q : Nat → Nat → Bool} {W V W' V' : Nat → List Nat} {c c' : Nat → Nat}
def fMv (a n : Nat) : Nat → Nat → Bool := fun b k => b == a && decide (k < n)
theorem fMv_n {a n b k : Nat} (h : ¬ (b = a ∧ k < n)) : fMv a n b k = false := by
  unfold fMv
  simp
  omega
theorem mv_loop (hk : KM.1 a = (1, 2 * n)) (hn : n ≤ 1000) : ∀ (j i m : Nat) (S : St), i + j = n → j < m → ∃ S', m_moves_2 m a (nI n) (nI i) S = some ((), S') ∧ (∀ q, i ≤ q → q < n → rI S' a q = rI S a (n + q)) ∧ (∀ q, (q < i ∨ n ≤ q) → rI S' a q = rI S a q) ∧ Fr (fMv a n) S S'
  | 0, i, m, S, hi, hm => by
    obtain ⟨m, rfl, hm⟩ := fuel hm
    rw [m_moves_2, if_neg (nI_nlt (by omega) (by omega))]
    exact ⟨S, rfl, fun q h1 h2 => absurd h1 (by omega), fun q hq => rfl, Fr.rf⟩
  | j + 1, i, m, S, hi, hm => by
    obtain ⟨m, rfl, hm⟩ := fuel hm
    obtain ⟨S', h1, h2, h3, h4⟩ := mv_loop hk hn j (i + 1) m (wI S a i (rI S a (n + i))) (by omega) (by omega)
    rw [m_moves_2, if_pos (nI_lt (by omega) (by omega)), hk, if_pos rfl, nI_add, if_neg (nI_in (show n + i < 2 * n by omega) (by omega)), if_pos rfl, if_neg (nI_in (show i < 2 * n by omega) (by omega)), nI_clamp (show i < 2 ^ 31 by omega), nI_clamp (show n + i < 2 ^ 31 by omega), ltq (wI S a i _), nI_1, ltq, h1]
    refine ⟨S', rfl, fun q q1 q2 => ?_, fun q hq => (h3 q (by omega)).trans (rI_wI_k (by omega)), (Fr.wI (by unfold fMv; simp; omega)).tr h4⟩
    by_cases e : q = i
    · rw [h3 q (by omega), e, rI_wI]
    · rw [h2 q (by omega) q2, rI_wI_k (by omega)]
theorem mvJ_loop (hk : KM.1 a = (4, 2 * n)) (hn : n ≤ 1000) : ∀ (j i m : Nat) (S : St), i + j = n → j < m → ∃ S', m_movesNames_2 m a (nI n) (nI i) S = some ((), S') ∧ (∀ q, i ≤ q → q < n → rJ S' a q = rJ S a (n + q)) ∧ (∀ q, (q < i ∨ n ≤ q) → rJ S' a q = rJ S a q) ∧ Fr (fMv a n) S S'
  | 0, i, m, S, hi, hm => by
    obtain ⟨m, rfl, hm⟩ := fuel hm
    rw [m_movesNames_2, if_neg (nI_nlt (by omega) (by omega))]
    exact ⟨S, rfl, fun q h1 h2 => absurd h1 (by omega), fun q hq => rfl, Fr.rf⟩
  | j + 1, i, m, S, hi, hm => by
    obtain ⟨m, rfl, hm⟩ := fuel hm
    obtain ⟨S', h1, h2, h3, h4⟩ := mvJ_loop hk hn j (i + 1) m (wJ S a i (rJ S a (n + i))) (by omega) (by omega)
    rw [m_movesNames_2, if_pos (nI_lt (by omega) (by omega)), hk, if_pos rfl, nI_add, if_neg (nI_in (show n + i < 2 * n by omega) (by omega)), if_pos rfl, if_neg (nI_in (show i < 2 * n by omega) (by omega)), nI_clamp (show i < 2 ^ 31 by omega), nI_clamp (show n + i < 2 ^ 31 by omega), ltq (wJ S a i _), nI_1, ltq, h1]
    refine ⟨S', rfl, fun q q1 q2 => ?_, fun q hq => (h3 q (by omega)).trans (rJ_wJ_k (by omega)), (Fr.wJ (by unfold fMv; simp; omega)).tr h4⟩
    by_cases e : q = i
    · rw [h3 q (by omega), e, rJ_wJ]
    · rw [h2 q (by omega) q2, rJ_wJ_k (by omega)]
/-- many moves: the array, its half, whether of names -/
def mvC : List (Nat × Nat × Bool) → (St → Re Unit) → St → Re Unit
  | [], k => k
  | e :: l, k => fun S => bn (if e.2.2 = true then m_movesNames e.1 (nI e.2.1) S else m_moves e.1 (nI e.2.1) S) fun _ S' => mvC l k S'
def mvK (e : Nat × Nat × Bool) : Prop := KM.1 e.1 = (if e.2.2 = true then 4 else 1, 2 * e.2.1) ∧ e.2.1 ≤ 1000
def fMvs (l : List (Nat × Nat × Bool)) : Nat → Nat → Bool := fun b k => l.any fun e => e.1 == b && decide (k < e.2.1)
def mvD : List (Nat × Nat × Bool) → Prop
  | [] => True
  | e :: l => (∀ e' ∈ l, e'.1 ≠ e.1) ∧ mvD l
theorem fMvs_n {l : List (Nat × Nat × Bool)} {b k : Nat} (h : ∀ e ∈ l, e.1 = b → ¬ k < e.2.1) : fMvs l b k = false := by
  unfold fMvs
  rw [List.any_eq_false]
  intro e he
  simp
  exact fun q => Nat.le_of_not_lt (h e he q)
theorem mv_all : ∀ (l : List (Nat × Nat × Bool)) (K : St → Re Unit) (S : St), (∀ e ∈ l, mvK e) → mvD l → ∃ S', mvC l K S = K S' ∧ (∀ e ∈ l, ∀ q, q < e.2.1 → if e.2.2 = true then rJ S' e.1 q = rJ S e.1 (e.2.1 + q) else rI S' e.1 q = rI S e.1 (e.2.1 + q)) ∧ Fr (fMvs l) S S'
  | [], K, S, _, _ => ⟨S, rfl, fun e he => absurd he List.not_mem_nil, Fr.rf⟩
  | e :: l, K, S, hK, hD => by
    obtain ⟨k1, k2⟩ := hK e List.mem_cons_self
    have one : ∃ S1, (if e.2.2 = true then m_movesNames e.1 (nI e.2.1) S else m_moves e.1 (nI e.2.1) S) = some ((), S1) ∧ (∀ q, q < e.2.1 → if e.2.2 = true then rJ S1 e.1 q = rJ S e.1 (e.2.1 + q) else rI S1 e.1 q = rI S e.1 (e.2.1 + q)) ∧ Fr (fMv e.1 e.2.1) S S1 := by
      by_cases q : e.2.2 = true
      · rw [if_pos q] at k1 ⊢
        obtain ⟨S1, h1, h2, h3, h4⟩ := mvJ_loop k1 k2 e.2.1 0 FU S (by omega) (by unfold FU; omega)
        exact ⟨S1, h1, fun x hx => by rw [if_pos q]; exact h2 x (Nat.zero_le _) hx, h4⟩
      · rw [if_neg q] at k1 ⊢
        obtain ⟨S1, h1, h2, h3, h4⟩ := mv_loop k1 k2 e.2.1 0 FU S (by omega) (by unfold FU; omega)
        exact ⟨S1, h1, fun x hx => by rw [if_neg q]; exact h2 x (Nat.zero_le _) hx, h4⟩
    obtain ⟨S1, h1, h2, h3⟩ := one
    obtain ⟨S', g1, g2, g3⟩ := mv_all l K S1 (fun e' he => hK e' (List.mem_cons_of_mem _ he)) hD.2
    refine ⟨S', ?_, fun e' he x hx => ?_, (h3.mo fun b k q => ?_).tr (g3.mo fun b k q => ?_)⟩
    · show (bn (if e.2.2 = true then m_movesNames e.1 (nI e.2.1) S else m_moves e.1 (nI e.2.1) S) fun _ S' => mvC l K S') = _
      rw [h1, bnq]
      exact g1
    · rcases List.mem_cons.mp he with rfl | he
      · have nt : fMvs l e'.1 x = false := fMvs_n fun y hy q => absurd q (hD.1 y hy)
        have := h2 x hx
        by_cases q : e'.2.2 = true
        · rw [if_pos q] at this ⊢
          rw [g3.j nt]
          exact this
        · rw [if_neg q] at this ⊢
          rw [g3.i nt]
          exact this
      · have nt : ∀ y, fMv e.1 e.2.1 e'.1 y = false := fun y => fMv_n fun q => hD.1 e' he q.1
        have := g2 e' he x hx
        by_cases q : e'.2.2 = true
        · rw [if_pos q] at this ⊢
          rw [this, h3.j (nt _)]
        · rw [if_neg q] at this ⊢
          rw [this, h3.i (nt _)]
    · unfold fMvs at q
      rw [List.any_cons, Bool.or_eq_false_iff] at q
      unfold fMv
      have := q.1
      simp at this ⊢
      omega
    · unfold fMvs at q ⊢
      rw [List.any_cons, Bool.or_eq_false_iff] at q
      exact q.2
def layL : List (Nat × Nat × Bool) := [(502, 6, false), (503, 16, true), (504, 5, true), (505, 10, false), (506, 10, false), (507, 10, false), (508, 10, false), (509, 10, false), (510, 10, false), (511, 10, false), (512, 5, false), (513, 5, false), (514, 5, false), (515, 6, false), (516, 6, false), (517, 40, false), (518, 4, false), (519, 4, false), (520, 4, false), (523, 1000, false)]
theorem lay_C (S : St) : m_lays S = mvC layL (m_lays_176 FU 0) S := by
  unfold m_lays layL
  rw [show (6 : Int32) = nI 6 from rfl, show (16 : Int32) = nI 16 from rfl, show (5 : Int32) = nI 5 from rfl, show (10 : Int32) = nI 10 from rfl, show (40 : Int32) = nI 40 from rfl, show (4 : Int32) = nI 4 from rfl, show (1000 : Int32) = nI 1000 from rfl]
  simp only [mvC, if_true, Bool.false_eq_true, if_false]
theorem layL_D : mvD layL := by
  unfold layL
  simp [mvD]
theorem layL_K : ∀ e ∈ layL, mvK e := by
  intro e he
  unfold layL at he
  simp only [List.mem_cons, List.not_mem_nil, or_false] at he
  rcases he with rfl | rfl | rfl | rfl | rfl | rfl | rfl | rfl | rfl | rfl | rfl | rfl | rfl | rfl | rfl | rfl | rfl | rfl | rfl | rfl <;> exact ⟨rfl, by decide⟩
theorem lay_mv (hO : OMs T Sm) : ∃ S', m_lays Sm = m_lays_176 FU 0 S' ∧ (∀ a k, oc a k = true → a ≤ 520 → a ≠ 503 → a ≠ 504 → rI S' a k = rI T a k) ∧ (∀ a k, oc a k = true → a ≤ 504 → a ≠ 502 → rJ S' a k = rJ T a k) ∧ (∀ k, k < 1000 → rI S' 523 k = rI Sm 523 (1000 + k)) ∧ Fr (fMvs layL) Sm S' := by
  obtain ⟨S', h1, h2, h3⟩ := mv_all layL (m_lays_176 FU 0) Sm layL_K layL_D
  have g : ∀ a n, (a, n, false) ∈ layL → ∀ q, q < n → rI S' a q = rI Sm a (n + q) := fun a n he q hq => by
    have := h2 _ he q hq
    exact this
  have gJ : ∀ a n, (a, n, true) ∈ layL → ∀ q, q < n → rJ S' a q = rJ Sm a (n + q) := fun a n he q hq => by
    have := h2 _ he q hq
    exact this
  refine ⟨S', (lay_C Sm).trans h1, fun a k ho ha hn1 hn2 => ?_, fun a k ho ha hn => ?_, fun k hk => g 523 1000 (by unfold layL; simp) k hk, h3⟩
  · have hs := hO.1 a k ho ha
    rw [← hs]
    unfold oc at ho
    simp at ho
    unfold shf
    rcases (show a = 502 ∨ a = 505 ∨ a = 506 ∨ a = 507 ∨ a = 508 ∨ a = 509 ∨ a = 510 ∨ a = 511 ∨ a = 512 ∨ a = 513 ∨ a = 514 ∨ a = 515 ∨ a = 516 ∨ a = 517 ∨ a = 518 ∨ a = 519 ∨ a = 520 by omega) with rfl | rfl | rfl | rfl | rfl | rfl | rfl | rfl | rfl | rfl | rfl | rfl | rfl | rfl | rfl | rfl | rfl
    · exact g 502 6 (by unfold layL; simp) k (by omega)
    · exact g 505 10 (by unfold layL; simp) k (by omega)
    · exact g 506 10 (by unfold layL; simp) k (by omega)
    · exact g 507 10 (by unfold layL; simp) k (by omega)
    · exact g 508 10 (by unfold layL; simp) k (by omega)
    · exact g 509 10 (by unfold layL; simp) k (by omega)
    · exact g 510 10 (by unfold layL; simp) k (by omega)
    · exact g 511 10 (by unfold layL; simp) k (by omega)
    · exact g 512 5 (by unfold layL; simp) k (by omega)
    · exact g 513 5 (by unfold layL; simp) k (by omega)
    · exact g 514 5 (by unfold layL; simp) k (by omega)
    · exact g 515 6 (by unfold layL; simp) k (by omega)
    · exact g 516 6 (by unfold layL; simp) k (by omega)
    · exact g 517 40 (by unfold layL; simp) k (by omega)
    · exact g 518 4 (by unfold layL; simp) k (by omega)
    · exact g 519 4 (by unfold layL; simp) k (by omega)
    · exact g 520 4 (by unfold layL; simp) k (by omega)
  · have hs := hO.2 a k ho ha
    rw [← hs]
    unfold oc at ho
    simp at ho
    unfold shf
    rcases (show a = 503 ∨ a = 504 by omega) with rfl | rfl
    · exact gJ 503 16 (by unfold layL; simp) k (by omega)
    · exact gJ 504 5 (by unfold layL; simp) k (by omega)
end MOVES
