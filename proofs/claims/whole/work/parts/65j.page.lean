/-! Reading an orchard: page, its pieces. -/
section PAGER
variable {n p b k i d s s' bz u mx e m v w' : Nat} {w : List Nat} {tx : Nat → Int32} {T T' Tm So Sm S S' So' Sm' : St} {P Q : Nat → Nat → Bool} {W V W' V' : Nat → List Nat} {c c' it : Nat → Nat} {f g : Nat → Nat → Int32} {x : Int32}
theorem hasA (hd : KO.1 d = (0, 10)) (h : TB (d + 80) 10 7 n f S) (x : Int32) : o_to_hasApple d x S = some (bI (inN x n), S) := by
  unfold o_to_hasApple o_to_hasApple_19 o_to_hasApple_20 inN
  rw [if_pos hd, if_pos h.k, tb_size h, bnq]
  by_cases h1 : x < 0
  · rw [if_pos h1, if_pos b0, decide_eq_true h1]
    rfl
  · rw [if_neg h1, decide_eq_false h1]
    by_cases h2 : x < nI n
    · rw [if_pos h2, if_pos b1, decide_eq_true h2]
      rfl
    · rw [if_neg h2, if_pos b0, decide_eq_false h2]
      rfl
/-- no such column -/
theorem tb_putC (h : TB v mx w' n f S) {i j : Nat} (hi : i < n) (hj : w' ≤ j) (hj2 : j < 2 ^ 31) (x : Int32) : o_tb_put v (nI i) (nI j) x S = some ((), S) := by
  have hm := h.2.2.2.2.2.2.1
  have hn := h.2.2.2.2.2.1
  unfold o_tb_put o_tb_holds o_tb_holds_36 o_tb_holds_37
  rw [if_pos h.1, if_neg (nI_pos (by omega)), h.2.2.2.2.1, h.2.2.1, h.2.2.2.1, if_pos (nI_lt hi (by omega)), if_pos (nI_lt (by omega) (by omega)), if_neg (nI_pos hj2), if_neg (nI_nlt (by omega) hj2), if_pos b0, if_pos h.1, bnq, if_pos rfl]
  unfold o_tb_put_21 o_tb_put_46
  rw [if_pos (by decide)]
theorem TK.up (h : TK n tx k w b p So Sm) (u : Fr (fUp d) So So') : TK n tx k w b p So' Sm := by
  obtain ⟨g1, g2, g3, g4, g5, g6⟩ := h
  have e : ∀ j, rI So' 3 j = rI So 3 j := fun j => u.i (fUp_n (by omega))
  have e' : ∀ j, rJ So' 3 j = rJ So 3 j := fun j => u.j (fUp_n (by omega))
  refine ⟨g1.fr u (Fr.rf (P := fun _ _ => false)) (fUp_n (by omega)) (fun k => fUp_n (by omega)) rfl (fun k => rfl), ⟨(e 2).trans g2.1, g2.2⟩, ⟨(e 3).trans g3.1, g3.2⟩, g4, (u.q (fUp_n (by omega))).trans g5, ?_⟩
  unfold KC
  rw [e 4, e' 5]
  exact g6
theorem pg_T (hF : FT S) : o_rd_readPage_149 S = some ((), S) := by
  unfold o_rd_readPage_149
  rw [tk6 hF, bnq]
theorem pg_24F (hF : FT S) (mo d : Nat) (y x : Int32) (z : Int32) : o_rd_readPage_24 (mo + 1) d y x z S = some ((), S) := by
  rw [o_rd_readPage_24]
  by_cases q : (11 : Int32) < z
  · rw [if_pos q, pg_T hF]
  · rw [if_neg q, if_neg hF.1, pg_T hF]
/-- what the class does to a page's row -/
def fPt (d : Nat) : Nat → Nat → Bool := fun a _ => a == d + 86 + 30
theorem fPt_n {a k : Nat} (h : ¬ a = d + 86 + 30) : fPt d a k = false := beq_eq_false_iff_ne.mpr h
theorem fPt_U (hd : d = 20 ∨ d = 21) (h : Fr (fPt d) S S') : Fr (fUp d) S S' := h.mo fun a k q => by
  refine fPt_n fun e => ?_
  unfold fUp at q
  subst e
  rcases hd with rfl | rfl <;> simp at q
theorem pg_F (hd : d = 20 ∨ d = 21) (hF : FT S) (hA : TB (d + 80) 10 7 n f S) (h : TB (d + 86) 4 11 (e + 1) g S) (hm : m ≤ 10) (mo : Nat) (v5 x : Int32) : ∃ S', o_rd_readPage_93 (o_rd_readPage_24 (mo + 1)) d (nI e) x (nI (m + 1)) v5 S = some ((), S') ∧ (∃ g', TB (d + 86) 4 11 (e + 1) g' S') ∧ Fr (fPt d) S S' ∧ FT S' := by
  have hkd := kd_d hd
  have u0 := h.put (i := e) (show 0 < 11 by decide) (nI (m + 1))
  have f0 : Fr (fPt d) S (wI S (d + 86 + 30) (e * 11 + 0) (nI (m + 1))) := Fr.wI (by unfold fPt; simp)
  have c0 : ∀ p0, ∃ S', o_rd_readPage_111 (o_rd_readPage_24 (mo + 1)) d (nI e) (nI (m + 1)) v5 p0 x S = some ((), S') ∧ (∃ g', TB (d + 86) 4 11 (e + 1) g' S') ∧ Fr (fPt d) S S' ∧ FT S' := fun p0 => by
    unfold o_rd_readPage_111
    rw [ltq, if_pos hkd, if_pos h.k, (show o_tb_put (d + 86) (nI e) 0 (nI (m + 1)) S = _ from tb_put h (by omega) (show 0 < 11 by decide) _), bnq]
    by_cases q : m + 1 < 11
    · have u1 := u0.put (i := e) q v5
      have f1 : Fr (fPt d) S (wI (wI S (d + 86 + 30) (e * 11 + 0) (nI (m + 1))) (d + 86 + 30) (e * 11 + (m + 1)) v5) := f0.tr (Fr.wI (by unfold fPt; simp))
      have hF1 := hF.fr f1 (fPt_n (by omega)) (fPt_n (by omega))
      rw [tb_put u0 (by omega) q v5, bnq, st_F hF1, bnq, ltq, pg_24F hF1]
      exact ⟨_, rfl, ⟨_, u1⟩, f1, hF1⟩
    · have hF1 := hF.fr f0 (fPt_n (by omega)) (fPt_n (by omega))
      rw [tb_putC u0 (by omega) (by omega) (by omega) v5, bnq, st_F hF1, bnq, ltq, pg_24F hF1]
      exact ⟨_, rfl, ⟨_, u0⟩, f0, hF1⟩
  unfold o_rd_readPage_93
  rw [if_pos hkd, hasA hkd hA, bnq]
  by_cases q : bI (inN v5 n) = 0
  · rw [if_pos q]
    exact c0 _
  · rw [if_neg q]
    exact c0 _
/-- the page so far, as the reference holds it -/
def PGT (c : Nat → Nat) (T Tm : St) (m : Nat) (it : Nat → Nat) (x : Int32) : Prop := (∀ a j, ¬ (a = 517 ∧ 10 * c 4 ≤ j) → ¬ (a = 518 ∧ j = c 4) → rI Tm a j = rI T a j) ∧ (∀ a j, rJ Tm a j = rJ T a j) ∧ rI Tm 518 (c 4) = nI m ∧ (∀ k, k < m → rI Tm 517 (10 * c 4 + k) = nI (it k) ∧ it k < c 0) ∧ (∀ i k, i < m → k < m → it i = it k → i = k) ∧ ∀ i, i < 32 → (tb x i = true ↔ ∃ k, k < m ∧ it k = i)
/-- and as the class holds it -/
def PGO (d : Nat) (c : Nat → Nat) (T : St) (m : Nat) (it : Nat → Nat) (So : St) : Prop := ∃ g, TB (d + 86) 4 11 (c 4 + 1) g So ∧ (∀ q, q < c 4 → g q 0 = rI T 518 q ∧ ∀ k, k < vN T 518 q → g q (1 + k) = rI T 517 (10 * q + k)) ∧ g (c 4) 0 = nI m ∧ ∀ k, k < m → g (c 4) (1 + k) = nI (it k)
def cPg (c : Nat → Nat) : Nat → Nat := fun j => if j = 4 then c 4 + 1 else c j
def pgT' (Tm : St) (e : Nat) : St := wI Tm 502 4 (nI (e + 1))
def fPg (d : Nat) : Nat → Nat → Bool := fun a k => fCo a k || a == d + 86 || a == d + 86 + 30
theorem fPg_n {a k : Nat} (h : fCo a k = false) (h1 : a ≠ d + 86) (h2 : a ≠ d + 86 + 30) : fPg d a k = false := by
  unfold fPg
  rw [h, beq_eq_false_iff_ne.mpr h1, beq_eq_false_iff_ne.mpr h2]
  rfl
theorem fPg_c (h : Fr fCo S S') : Fr (fPg d) S S' := h.mo fun a k q => by
  unfold fPg at q
  simp only [Bool.or_eq_false_iff] at q
  exact q.1.1
theorem fPg_t (h : Fr (fPt d) S S') : Fr (fPg d) S S' := h.mo fun a k q => by
  unfold fPg at q
  simp only [Bool.or_eq_false_iff] at q
  exact q.2
theorem fLo_g (hd : d = 20 ∨ d = 21) (h : Fr (fPg d) S S') : Fr (fLo d) S S' := h.mo fun a k q => by
  unfold fLo dcl at q
  simp only [Bool.or_eq_false_iff] at q
  refine fPg_n q.1 (fun e => ?_) (fun e => ?_)
  · have := q.2
    subst e
    rcases hd with rfl | rfl <;> simp at this
  · have := q.2
    subst e
    rcases hd with rfl | rfl <;> simp at this
/-- the draft with the page in it -/
theorem DRW.pg (hD : DRW c T W V) (q : c 4 < 4) (h : PGT c T Tm m it x) (hm : m ≤ 10) : DRW (cPg c) (pgT' Tm (c 4)) W V := by
  obtain ⟨h1, h2, h3, h4, h5, h6, h7, h8, h9, h10⟩ := hD
  obtain ⟨p1, p2, p3, p4, p5, p6⟩ := h
  have ne : ∀ a j, a ≠ 502 → ¬ (a = 517 ∧ 10 * c 4 ≤ j) → ¬ (a = 518 ∧ j = c 4) → rI (pgT' Tm (c 4)) a j = rI T a j := fun a j q1 q2 q3 => by
    unfold pgT'
    rw [rI_wI_a q1]
    exact p1 a j q2 q3
  have n3 : ∀ a j, a ≠ 502 → rI (pgT' Tm (c 4)) a j = rI Tm a j := fun a j q1 => by
    unfold pgT'
    rw [rI_wI_a q1]
  refine ⟨fun k hk => ?_, by show c 0 ≤ 10 ∧ c 1 ≤ c 0 + 6 ∧ c 0 ≤ c 1 ∧ c 2 ≤ 5 ∧ c 3 ≤ 6 ∧ c 4 + 1 ≤ 4 ∧ c 5 ≤ 4; omega, h3.ex (fun a j q1 q2 => ne _ _ (by omega) (by omega) (by omega)) (Nat.le_refl _), h4.ex fun j => ne _ _ (by omega) (by omega) (by omega), h5.ex fun a j q1 q2 => ne _ _ (by omega) (by omega) (by omega), h6.ex (fun a j q1 q2 => ne _ _ (by omega) (by omega) (by omega)) (Nat.le_refl _), fun g hg => ?_, h8.ex (fun a j q1 q2 => ne _ _ (by omega) (by omega) (by omega)) (Nat.le_refl _), h9.ex fun j => p2 _ _, h10.ex fun j => p2 _ _⟩
  · show rI (pgT' Tm (c 4)) 502 k = nI (if k = 4 then c 4 + 1 else c k)
    by_cases q : k = 4
    · subst q
      rw [if_pos rfl]
      unfold pgT'
      exact rI_wI
    · rw [if_neg q, ← h1 k hk]
      unfold pgT'
      rw [rI_wI_k q]
      exact p1 _ _ (by omega) (by omega)
  · have hg : g < c 4 + 1 := hg
    show IsN (pgT' Tm (c 4)) 518 g 11 ∧ ∀ k, k < vN (pgT' Tm (c 4)) 518 g → IsN (pgT' Tm (c 4)) 517 (10 * g + k) (c 0)
    by_cases q2 : g = c 4
    · subst q2
      have e : rI (pgT' Tm (c 4)) 518 (c 4) = nI m := (n3 _ _ (by decide)).trans p3
      refine ⟨IsN.nI e (by omega) (by decide), fun k hk => ?_⟩
      have ev : vN (pgT' Tm (c 4)) 518 (c 4) = m := by
        unfold vN
        rw [e, nI_clamp (by omega)]
      rw [ev] at hk
      exact IsN.nI ((n3 _ _ (by decide)).trans (p4 k hk).1) (p4 k hk).2 (by omega)
    · obtain ⟨y1, y2⟩ := h7 g (by omega)
      have e := ne 518 g (by decide) (by omega) (by omega)
      refine ⟨y1.ex e, fun k hk => ?_⟩
      rw [vN_ex e] at hk
      have := y1.2
      exact (y2 k hk).ex (ne _ _ (by decide) (by omega) (by omega))
theorem DTB.pg (hd : d = 20 ∨ d = 21) (hT : DTB d c T W V S) (f : Fr (fPg d) S So) (hP : PGO d c T m it So) (h : PGT c T Tm m it x) (hm : m ≤ 10) (hb : bPg T (c 4) (c 0)) : DTB d (cPg c) (pgT' Tm (c 4)) W V So := by
  obtain ⟨v1, v2, v3, _, v5, v6, v7⟩ := hT
  obtain ⟨p1, p2, p3, p4, p5, p6⟩ := h
  obtain ⟨g, g1, g2, g3, g4⟩ := hP
  have ne : ∀ a j, a ≠ 502 → ¬ (a = 517 ∧ 10 * c 4 ≤ j) → ¬ (a = 518 ∧ j = c 4) → rI (pgT' Tm (c 4)) a j = rI T a j := fun a j q1 q2 q3 => by
    unfold pgT'
    rw [rI_wI_a q1]
    exact p1 a j q2 q3
  have n3 : ∀ a j, a ≠ 502 → rI (pgT' Tm (c 4)) a j = rI Tm a j := fun a j q1 => by
    unfold pgT'
    rw [rI_wI_a q1]
  have nf : ∀ a (k : Nat), a ≠ 3 → a ≠ d + 86 → a ≠ d + 86 + 30 → fPg d a k = false := fun a k q1 q2 q3 => fPg_n (fCo_n (Or.inl q1)) q2 q3
  refine ⟨(v1.fr f (fun k => nf _ _ (by omega) (by omega) (by omega)) (fun k => nf _ _ (by omega) (by omega) (by omega))).ext fun x j hx hj => (ne _ _ (by unfold ccol; split <;> (try split) <;> omega) (by unfold ccol; split <;> (try split) <;> omega) (by unfold ccol; split <;> (try split) <;> omega)).symm, (v2.fr f (fun k => nf _ _ (by omega) (by omega) (by omega)) (fun k => nf _ _ (by omega) (by omega) (by omega))).ext fun x j hx hj => (ne _ _ (by omega) (by omega) (by omega)).symm, (v3.fr f (fun k => nf _ _ (by omega) (by omega) (by omega)) (fun k => nf _ _ (by omega) (by omega) (by omega))).ext fun x j hx hj => (ne _ _ (by omega) (by omega) (by omega)).symm, ⟨g, g1, fun q hq => ?_⟩, (v5.fr f (fun k => nf _ _ (by omega) (by omega) (by omega)) (fun k => nf _ _ (by omega) (by omega) (by omega))).ext fun x j hx hj => (ne _ _ (by omega) (by omega) (by omega)).symm, v6.fr f (nf _ _ (by omega) (by omega) (by omega)) (fun k => nf _ _ (by omega) (by omega) (by omega)), v7.fr f (nf _ _ (by omega) (by omega) (by omega)) (fun k => nf _ _ (by omega) (by omega) (by omega))⟩
  have hq : q < c 4 + 1 := hq
  by_cases q2 : q = c 4
  · subst q2
    have e : rI (pgT' Tm (c 4)) 518 (c 4) = nI m := (n3 _ _ (by decide)).trans p3
    refine ⟨g3.trans e.symm, fun k hk => ?_⟩
    have ev : vN (pgT' Tm (c 4)) 518 (c 4) = m := by
      unfold vN
      rw [e, nI_clamp (by omega)]
    rw [ev] at hk
    exact (g4 k hk).trans ((n3 _ _ (by decide)).trans (p4 k hk).1).symm
  · have e := ne 518 q (by decide) (by omega) (by omega)
    refine ⟨(g2 q (by omega)).1.trans e.symm, fun k hk => ?_⟩
    rw [vN_ex e] at hk
    have := (hb q (by omega)).1.2
    exact ((g2 q (by omega)).2 k hk).trans (ne _ _ (by decide) (by omega) (by omega)).symm
theorem dft_pg (hd : d = 20 ∨ d = 21) (hT : Dft d S) (f : Fr (fPg d) S So) (hP : ∃ g, TB (d + 86) 4 11 n g So) : Dft d So := by
  obtain ⟨⟨n1, f1, h1⟩, ⟨n2, f2, h2⟩, ⟨n3, f3, h3⟩, _, ⟨n5, f5, h5⟩⟩ := hT
  obtain ⟨g, hP⟩ := hP
  have nf : ∀ a (k : Nat), a ≠ 3 → a ≠ d + 86 → a ≠ d + 86 + 30 → fPg d a k = false := fun a k q1 q2 q3 => fPg_n (fCo_n (Or.inl q1)) q2 q3
  exact ⟨⟨n1, f1, h1.fr f (fun k => nf _ _ (by omega) (by omega) (by omega)) (fun k => nf _ _ (by omega) (by omega) (by omega))⟩, ⟨n2, f2, h2.fr f (fun k => nf _ _ (by omega) (by omega) (by omega)) (fun k => nf _ _ (by omega) (by omega) (by omega))⟩, ⟨n3, f3, h3.fr f (fun k => nf _ _ (by omega) (by omega) (by omega)) (fun k => nf _ _ (by omega) (by omega) (by omega))⟩, ⟨_, g, hP⟩, ⟨n5, f5, h5.fr f (fun k => nf _ _ (by omega) (by omega) (by omega)) (fun k => nf _ _ (by omega) (by omega) (by omega))⟩⟩
/-- one apple more on the page -/
theorem PGT.add (h : PGT c T Tm m it x) {a : Nat} (ha : a < c 0) (h10 : c 0 ≤ 10) (hm : m ≤ 10) (hx : tb x a = false) : PGT c T (wI (wI Tm 517 (10 * c 4 + m) (nI a)) 518 (c 4) (nI (m + 1))) (m + 1) (fun k => if k = m then a else it k) (x ||| ((1 : Int32) <<< (nI a &&& 31))) := by
  obtain ⟨p1, p2, p3, p4, p5, p6⟩ := h
  have na : ∀ k, k < m → it k ≠ a := fun k hk q => by
    have := (p6 a (by omega)).mpr ⟨k, hk, q⟩
    rw [hx] at this
    cases this
  refine ⟨fun b j q1 q2 => ?_, fun b j => p2 b j, rI_wI, fun k hk => ?_, fun i k hi hk => ?_, fun i hi => ?_⟩
  · rw [rI_wIn (by omega), rI_wIn (by omega)]
    exact p1 b j q1 q2
  · show rI (wI (wI Tm 517 (10 * c 4 + m) (nI a)) 518 (c 4) (nI (m + 1))) 517 (10 * c 4 + k) = nI (if k = m then a else it k) ∧ (if k = m then a else it k) < c 0
    rw [rI_wI_a (by decide)]
    by_cases q : k = m
    · rw [if_pos q, q]
      exact ⟨rI_wI, ha⟩
    · rw [if_neg q, rI_wI_k (by omega)]
      exact p4 k (by omega)
  · show (if i = m then a else it i) = (if k = m then a else it k) → i = k
    by_cases q1 : i = m
    · by_cases q2 : k = m
      · exact fun _ => q1.trans q2.symm
      · rw [if_pos q1, if_neg q2]
        exact fun q => absurd q.symm (na k (by omega))
    · by_cases q2 : k = m
      · rw [if_neg q1, if_pos q2]
        exact fun q => absurd q (na i (by omega))
      · rw [if_neg q1, if_neg q2]
        exact p5 i k (by omega) (by omega)
  · rw [tb_or, tb_sh1 (by omega) hi]
    constructor
    · intro q
      rcases Bool.or_eq_true_iff.mp q with q | q
      · obtain ⟨k, hk, e⟩ := (p6 i hi).mp q
        exact ⟨k, by omega, by
          show (if k = m then a else it k) = i
          rw [if_neg (by omega), e]⟩
      · exact ⟨m, by omega, by
          show (if m = m then a else it m) = i
          rw [if_pos rfl]
          exact (of_decide_eq_true q).symm⟩
    · rintro ⟨k, hk, e⟩
      have e : (if k = m then a else it k) = i := e
      by_cases q : k = m
      · rw [if_pos q] at e
        rw [decide_eq_true e.symm, Bool.or_true]
      · rw [if_neg q] at e
        rw [(p6 i hi).mpr ⟨k, by omega, e⟩, Bool.true_or]
end PAGER
