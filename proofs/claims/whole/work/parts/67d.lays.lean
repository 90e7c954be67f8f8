/-! An orchard is laid: all of it. -/
section LAYS
variable {n p b k i d s s' bz j mo mm a v : Nat} {tx : Nat → Int32} {T T' So Sm S S' So' Sm' : St} {P Q : Nat → Nat → Bool} {c c' : Nat → Nat} {W V : Nat → List Nat} {NB : Nat → Nat → Bool}
def f17 : Nat → Nat → Bool := fun a k => (a == 521 || a == 522) && decide (k < 2)
theorem f17_n {a k : Nat} (h : ¬ ((a = 521 ∨ a = 522) ∧ k < 2)) : f17 a k = false := by
  unfold f17
  simp
  omega
theorem lay_176 (S : St) : ∃ S', m_lays_176 FU 0 S = m_lays_223 S' ∧ (∀ v, v < 2 → rI S' 521 v = rI S 521 (2 + v) - 1000 ∧ rI S' 522 v = rI S 522 (2 + v) - 1000) ∧ Fr f17 S S' := by
  obtain ⟨m, hm⟩ : ∃ m, FU = m + 1 + 1 + 1 := ⟨999997, rfl⟩
  have one : ∀ (x m : Nat) (S : St), x < 2 → m_lays_176 (m + 1) (nI x) S = m_lays_176 m (nI (x + 1)) (wI (wI S 521 x (rI S 521 (2 + x) - 1000)) 522 x (rI S 522 (2 + x) - 1000)) := fun x m S hx => by
    rw [m_lays_176, if_pos (show nI x < 2 from nI_lt (b := 2) (by omega) (by decide)), (show (2 : Int32) + nI x = nI (2 + x) from nI_add 2 x), if_neg (nI_in (show 2 + x < 4 by omega) (by decide)), if_neg (nI_in (show x < 4 by omega) (by decide)), nI_clamp (show x < 2 ^ 31 by omega), nI_clamp (show 2 + x < 2 ^ 31 by omega), ltq (wI S 521 _ _), if_neg (nI_inC (show 2 + x < 4 by omega) (by decide)), if_neg (nI_inC (show x < 4 by omega) (by decide)), rI_wI_a (show 522 ≠ 521 by decide), ltq (wI (wI S 521 _ _) 522 _ _), nI_1, ltq]
  have h0 := one 0 (m + 1 + 1) S (by decide)
  have h1 := one 1 (m + 1) (wI (wI S 521 0 (rI S 521 (2 + 0) - 1000)) 522 0 (rI S 522 (2 + 0) - 1000)) (by decide)
  rw [hm, (show m_lays_176 (m + 1 + 1 + 1) 0 S = _ from h0), h1, m_lays_176, if_neg (show ¬ nI (1 + 1) < 2 by decide)]
  refine ⟨_, rfl, fun v hv => ?_, (((Fr.wI rfl).tr (Fr.wI rfl)).tr (Fr.wI rfl)).tr (Fr.wI rfl)⟩
  rcases (show v = 0 ∨ v = 1 by omega) with rfl | rfl
  · exact ⟨rfl, rfl⟩
  · exact ⟨rfl, rfl⟩
/-- two SOUNDs, as the reference has compared them -/
def CPD (W : Nat → List Nat) (NB : Nat → Nat → Bool) (x y : Nat) (S : St) : Prop := rI S 536 (16 * x + y) = nI (edt (W x) (W y)) ∧ rI S 537 (16 * x + y) = nI (cpl (W x) (W y)) ∧ rI S 538 (16 * x + y) = nI (csl (W x) (W y)) ∧ rI S 539 (16 * x + y) = bI (NB x y)
theorem CPD.fr {x y : Nat} (h : CPD W NB x y S) (f : Fr P S S') (hp : ∀ a, 536 ≤ a → a ≤ 539 → P a (16 * x + y) = false) : CPD W NB x y S' := ⟨(f.i (hp _ (by decide) (by decide))).trans h.1, (f.i (hp _ (by decide) (by decide))).trans h.2.1, (f.i (hp _ (by decide) (by decide))).trans h.2.2.1, (f.i (hp _ (by decide) (by decide))).trans h.2.2.2⟩
def fRw (x : Nat) : Nat → Nat → Bool := fun b k => (decide (526 ≤ b) && decide (b ≤ 535)) || b == 540 || b == 541 || b == 542 || ((decide (536 ≤ b) && decide (b ≤ 539)) && (decide (16 * x ≤ k) && decide (k < 16 * x + 16)))
def fCA : Nat → Nat → Bool := fun b _ => decide (526 ≤ b) && decide (b ≤ 542)
theorem fCA_n {b k : Nat} (h : b < 526 ∨ 542 < b) : fCA b k = false := by
  unfold fCA
  simp
  omega
/-- what a comparing needs -/
def CPH (n : Nat) (W : Nat → List Nat) (NB : Nat → Nat → Bool) (S : St) : Prop := n ≤ 16 ∧ rI S 502 1 = nI n ∧ (∀ k, k < n → WD (W k) ∧ rJ S 503 k = lN (p27 0 (W k))) ∧ NLm W NB S
theorem CPH.fr (h : CPH n W NB S) (f : Fr fCA S S') : CPH n W NB S' := ⟨h.1, (f.i (fCA_n (by decide))).trans h.2.1, fun k hk => ⟨(h.2.2.1 k hk).1, (f.j (fCA_n (by decide))).trans (h.2.2.1 k hk).2⟩, h.2.2.2.fr f fun k => ⟨fCA_n (by decide), fCA_n (by decide), fCA_n (by decide)⟩⟩
theorem lay_in {x : Nat} (hx : x < n) (k225 : Int32 → St → Re Unit) : ∀ (j y m : Nat) (S : St), y + j = n → j < m → CPH n W NB S → (∀ y', y' < y → CPD W NB x y' S) → ∃ S', m_lays_237 k225 m (nI x) (nI y) S = k225 (nI (x + 1)) S' ∧ (∀ y', y' < n → CPD W NB x y' S') ∧ Fr (fRw x) S S'
  | 0, y, m, S, hy, hm, hH, hP => by
    obtain ⟨m, rfl, hm⟩ := fuel hm
    have h16 := hH.1
    rw [m_lays_237, if_neg g1_12, c1, hH.2.1, if_neg (nI_nlt (by omega) (by omega))]
    unfold m_lays_259
    rw [nI_1, ltq]
    exact ⟨S, rfl, fun y' hy' => hP y' (by omega), Fr.rf⟩
  | j + 1, y, m, S, hy, hm, hH, hP => by
    obtain ⟨m, rfl, hm⟩ := fuel hm
    have h16 := hH.1
    have w1 := hH.2.2.1 x hx
    have w2 := hH.2.2.1 y (by omega)
    obtain ⟨S1, a1, a2, a3, a4, a5, a6⟩ := cm_ok (W := W) (NB := NB) (show x < 16 by omega) (show y < 16 by omega) w1.1 w2.1 w1.2 w2.2 hH.2.2.2
    have f1 : Fr (fRw x) S S1 := a2.mo fun b k q => by
      unfold fRw at q
      unfold fCp
      simp at q ⊢
      omega
    have fA : Fr fCA S S1 := a2.mo fun b k q => by
      unfold fCA at q
      unfold fCp
      simp at q ⊢
      omega
    obtain ⟨S', g1, g2, g3⟩ := lay_in hx k225 j (y + 1) m S1 (by omega) (by omega) (hH.fr fA) (fun y' hy' => by
      by_cases q : y' = y
      · rw [q]
        exact ⟨a3, a4, a5, a6⟩
      · exact (hP y' (by omega)).fr a2 fun a q1 q2 => fCp_n (by omega) (by omega) (by omega))
    rw [m_lays_237, if_neg g1_12, c1, hH.2.1, if_pos (nI_lt (show y < n by omega) (by omega)), a1, bnq, nI_1, ltq, g1]
    exact ⟨S', rfl, g2, f1.tr g3⟩
theorem lay_out : ∀ (j x m : Nat) (S : St), x + j = n → j < m → CPH n W NB S → (∀ x', x' < x → ∀ y', y' < n → CPD W NB x' y' S) → ∃ S', m_lays_225 m (nI x) S = some ((), S') ∧ (∀ x', x' < n → ∀ y', y' < n → CPD W NB x' y' S') ∧ Fr fCA S S'
  | 0, x, m, S, hx, hm, hH, hP => by
    obtain ⟨m, rfl, hm⟩ := fuel hm
    have h16 := hH.1
    rw [m_lays_225, if_neg g1_12, c1, hH.2.1, if_neg (nI_nlt (by omega) (by omega))]
    exact ⟨S, rfl, fun x' hx' => hP x' (by omega), Fr.rf⟩
  | j + 1, x, m, S, hx, hm, hH, hP => by
    obtain ⟨m, rfl, hm⟩ := fuel hm
    have h16 := hH.1
    obtain ⟨S1, a1, a2, a3⟩ := lay_in (W := W) (NB := NB) (show x < n by omega) (m_lays_225 m) n 0 FU S (by omega) (by unfold FU; omega) hH (fun y' hy' => absurd hy' (Nat.not_lt_zero _))
    have fA : Fr fCA S S1 := a3.mo fun b k q => by
      unfold fCA at q
      unfold fRw
      simp at q ⊢
      omega
    obtain ⟨S', g1, g2, g3⟩ := lay_out j (x + 1) m S1 (by omega) (by omega) (hH.fr fA) (fun x' hx' y' hy' => by
      by_cases q : x' = x
      · rw [q]
        exact a2 y' hy'
      · exact (hP x' (by omega) y' hy').fr a3 fun a q1 q2 => by
          unfold fRw
          simp
          omega)
    rw [m_lays_225, if_neg g1_12, c1, hH.2.1, if_pos (nI_lt (show x < n by omega) (by omega)), (show m_lays_237 (m_lays_225 m) FU (nI x) 0 S = _ from a1), g1]
    exact ⟨S', rfl, g2, fA.tr g3⟩
/-- what is near, as a formula says -/
def nF (W : Nat → List Nat) (x y : Nat) : Nat → Int32 := fun k => if k = 0 then nI (edt (W x) (W y)) else if k = 1 then nI (cpl (W x) (W y)) else if k = 2 then nI (csl (W x) (W y)) else nI (W x).length
def NBl (W : Nat → List Nat) (l : List (Nat × Int32)) (x y : Nat) : Bool := match rp (nF W x y) l [] with
  | some [r] => decide (r ≠ 0)
  | _ => false
/-- the laws that nobody told -/
def dfN : List (Nat × Int32) := [(36, 0), (2, 0), (11, 0)]
def dfV : List (Nat × Int32) := [(40, 0), (41, 0), (2, 0), (10, 0), (7, 0), (14, 0)]
theorem dfN_rp (F : Nat → Int32) : rp F dfN [] = some [if F 0 = 0 then 1 else 0] := by
  show some [jn 11 (if tokFL.getD 36 0 < 0 then 0 else F (tokFL.getD 36 0).toNatClampNeg) (if tokFL.getD 2 0 < 0 then 0 else F (tokFL.getD 2 0).toNatClampNeg)] = _
  rw [show tokFL.getD 36 0 = 0 by decide, show tokFL.getD 2 0 = -1 by decide, if_neg (by decide), if_pos (by decide), c0]
  unfold jn
  simp
  by_cases q : F 0 = 0
  · rw [decide_eq_true q, if_pos q]
    rfl
  · rw [decide_eq_false q, if_neg q]
    rfl
def LYC (T : St) (W V : Nat → List Nat) (c : Nat → Nat) (Sm Sm' : St) : Prop := (∀ a k, oc a k = true → a ≤ 520 → a ≠ 503 → a ≠ 504 → rI Sm' a k = rI T a k) ∧ (∀ a k, oc a k = true → a ≤ 504 → a ≠ 502 → rJ Sm' a k = rJ T a k) ∧ (∀ k, k < 1000 → rI Sm' 523 k = rI Sm 523 (1000 + k)) ∧ ∀ v, v < 2 → rI Sm' 521 v = rI Sm 521 (2 + v) - 1000 ∧ rI Sm' 522 v = rI Sm 522 (2 + v) - 1000
def fLyA : Nat → Nat → Bool := fun a _ => (decide (502 ≤ a) && decide (a ≤ 523)) || (decide (526 ≤ a) && decide (a ≤ 542))
theorem lays_ok (hD : DRW c T W V) (hO : OMs T Sm) (hN : ∀ S, LYC T W V c Sm S → NLm W NB S) : ∃ Sm', m_lays Sm = some ((), Sm') ∧ LYC T W V c Sm Sm' ∧ (∀ x, x < c 1 → ∀ y, y < c 1 → CPD W NB x y Sm') ∧ Fr fLyA Sm Sm' := by
  obtain ⟨S1, a1, a2, a3, a4, a5⟩ := lay_mv hO
  obtain ⟨S2, b1', b2', b3'⟩ := lay_176 S1
  have oc5 : ∀ a k, oc a k = true → a ≤ 520 → f17 a k = false := fun a k _ q => f17_n (by omega)
  have nv : ∀ a k, (a = 521 ∨ a = 522) → fMvs layL a k = false := fun a k q => by
    unfold fMvs layL
    rcases q with rfl | rfl <;> rfl
  have hC : LYC T W V c Sm S2 := ⟨fun a k h1 h2 h3 h4 => (b3'.i (oc5 a k h1 h2)).trans (a2 a k h1 h2 h3 h4), fun a k h1 h2 h3 => (b3'.j (f17_n (by omega))).trans (a3 a k h1 h2 h3), fun k hk => (b3'.i (f17_n (by omega))).trans (a4 k hk), fun v hv => by
    rw [(b2' v hv).1, (b2' v hv).2, a5.i (nv _ _ (Or.inl rfl)), a5.i (nv _ _ (Or.inr rfl))]
    exact ⟨rfl, rfl⟩⟩
  have hb := hD.2.1
  have hH : CPH (c 1) W NB S2 := ⟨by omega, (hC.1 502 1 (by rfl) (by decide) (by decide) (by decide)).trans (hD.1 1 (by decide)), fun k hk => by
    obtain ⟨h1, h2⟩ := hD.2.2.2.2.2.2.2.2.1 k hk
    exact ⟨h1, (hC.2.1 503 k (by unfold oc; simp; omega) (by decide) (by decide)).trans h2⟩, hN S2 hC⟩
  obtain ⟨S3, g1, g2, g3⟩ := lay_out (c 1) 0 FU S2 (by omega) (by unfold FU; omega) hH (fun x' hx' => absurd hx' (Nat.not_lt_zero _))
  refine ⟨S3, ?_, ⟨fun a k h1 h2 h3 h4 => (g3.i (fCA_n (by omega))).trans (hC.1 a k h1 h2 h3 h4), fun a k h1 h2 h3 => (g3.j (fCA_n (by omega))).trans (hC.2.1 a k h1 h2 h3), fun k hk => (g3.i (fCA_n (by omega))).trans (hC.2.2.1 k hk), fun v hv => ?_⟩, g2, ((a5.mo fun a k q => ?_).tr (b3'.mo fun a k q => ?_)).tr (g3.mo fun a k q => ?_)⟩
  · rw [a1, b1']
    exact g1
  · rw [g3.i (fCA_n (by omega)), g3.i (fCA_n (by omega))]
    exact hC.2.2.2 v hv
  · refine fMvs_n fun e he q2 => ?_
    unfold fLyA at q
    simp at q
    have : 502 ≤ e.1 ∧ e.1 ≤ 523 := by
      unfold layL at he
      simp only [List.mem_cons, List.not_mem_nil, or_false] at he
      rcases he with rfl | rfl | rfl | rfl | rfl | rfl | rfl | rfl | rfl | rfl | rfl | rfl | rfl | rfl | rfl | rfl | rfl | rfl | rfl | rfl <;> decide
    omega
  · unfold fLyA at q
    simp at q
    exact f17_n (by omega)
  · unfold fLyA at q
    simp at q
    exact fCA_n (by omega)
end LAYS
