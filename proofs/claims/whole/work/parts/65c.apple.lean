/-! Reading an orchard: apple. -/
section APPLER
variable {n p b k i d s s' bz m : Nat} {w : List Nat} {tx : Nat → Int32} {T T' So Sm S S' So' Sm' : St} {P Q : Nat → Nat → Bool} {W V W' V' : Nat → List Nat} {c c' : Nat → Nat}
theorem rI_wIn {a k b j : Nat} {v : Int32} (h : ¬ (b = a ∧ j = k)) : rI (wI S a k v) b j = rI S b j := up2_ne h
theorem sort_U (h : TK n tx k w b p So Sm) (h0 : rI So 3 7 = 0) : (32 ≤ k ∧ k ≤ 35 → ∀ S1, o_tp_step So = some ((), S1) → o_rd_sortHere So = some (nI (srtN k), S1)) ∧ (¬ (32 ≤ k ∧ k ≤ 35) → o_rd_sortHere So = some (nI (srtN k), wI So 3 7 (nI 1 + 16 * nI b))) := by
  constructor
  · intro hk S1 hS
    unfold o_rd_sortHere o_rd_sortHere_23
    rw [oq2 h.q, if_pos h.k20, tkIsSort h.lt, bnq, decide_eq_true hk.1, decide_eq_true hk.2, if_neg (by decide), hS, bnq]
    exact sort23 h.lt S1
  · intro hk
    have hB := bad_of (Sm1 := Sm) h (j := 1) (by decide) (by decide)
    have hz : (decide (32 ≤ k) && decide (k ≤ 35)) = false := by
      rw [Bool.and_eq_false_iff, decide_eq_false_iff_not, decide_eq_false_iff_not]
      omega
    unfold o_rd_sortHere o_rd_sortHere_23
    rw [oq2 h.q, if_pos h.k20, tkIsSort h.lt, bnq, hz, if_pos bF, wr_U h h0, bnq, (show o_tp_step (wI So 3 7 (1 + 16 * nI b)) = _ from st_F hB.1), bnq]
    exact sort23 h.lt _
theorem m_sort (h : TK n tx k w b p So Sm) (v1 : Int32) (v2 : Int64) : (bn (m_isWord 8740238 Sm) fun r11 S12 => if r11 = 0 then (bn (m_isWord 774244 S12) fun r13 S14 => if r13 = 0 then (bn (m_isWord 12330827 S14) fun r15 S16 => if r15 = 0 then (bn (m_isWord 82410 S16) fun r17 S18 => if r17 = 0 then m_readsApple_107 v1 v2 (-1) v1 S18 else m_readsApple_107 v1 v2 3 v1 S18) else m_readsApple_107 v1 v2 2 v1 S16) else m_readsApple_107 v1 v2 1 v1 S14) else m_readsApple_107 v1 v2 0 v1 S12) = m_readsApple_107 v1 v2 (if 32 ≤ k ∧ k ≤ 35 then nI (srtN k) else -1) v1 Sm := by
  rw [isWord_ok h 32 (by decide) (K := 8740238) (by decide), bnq]
  by_cases q1 : k = 32
  · rw [decide_eq_true q1, if_neg bT, if_pos (show 32 ≤ k ∧ k ≤ 35 by omega), q1]; rfl
  rw [decide_eq_false q1, if_pos bF, isWord_ok h 33 (by decide) (K := 774244) (by decide), bnq]
  by_cases q2 : k = 33
  · rw [decide_eq_true q2, if_neg bT, if_pos (show 32 ≤ k ∧ k ≤ 35 by omega), q2]; rfl
  rw [decide_eq_false q2, if_pos bF, isWord_ok h 34 (by decide) (K := 12330827) (by decide), bnq]
  by_cases q3 : k = 34
  · rw [decide_eq_true q3, if_neg bT, if_pos (show 32 ≤ k ∧ k ≤ 35 by omega), q3]; rfl
  rw [decide_eq_false q3, if_pos bF, isWord_ok h 35 (by decide) (K := 82410) (by decide), bnq]
  by_cases q4 : k = 35
  · rw [decide_eq_true q4, if_neg bT, if_pos (show 32 ≤ k ∧ k ≤ 35 by omega), q4]; rfl
  rw [decide_eq_false q4, if_pos bF, if_neg (show ¬ (32 ≤ k ∧ k ≤ 35) by omega)]
/-- an apple more -/
def apT (T : St) (n m : Nat) (s a r p wo : Int32) (L : Int64) : St := wI (wI (wJ (wI (wI (wI (wI (wI (wI (wI T 506 n s) 507 n a) 508 n r) 509 n p) 510 n wo) 511 n (-1)) 505 n (nI m)) 503 m L) 502 1 (nI (m + 1))) 502 0 (nI (n + 1))
theorem apT_ne {s a r p wo : Int32} {L : Int64} {e j : Nat} (h : e ≠ 502) (hj : j ≠ n ∨ e < 505 ∨ 511 < e) : rI (apT T n m s a r p wo L) e j = rI T e j := by
  unfold apT
  rw [rI_wI_a h, rI_wI_a h, rI_wJ, rI_wIn (by omega), rI_wIn (by omega), rI_wIn (by omega), rI_wIn (by omega), rI_wIn (by omega), rI_wIn (by omega), rI_wIn (by omega)]
theorem apT_r {s a r p wo : Int32} {L : Int64} : rI (apT T n m s a r p wo L) 505 n = nI m ∧ rI (apT T n m s a r p wo L) 506 n = s ∧ rI (apT T n m s a r p wo L) 507 n = a ∧ rI (apT T n m s a r p wo L) 508 n = r ∧ rI (apT T n m s a r p wo L) 509 n = p ∧ rI (apT T n m s a r p wo L) 510 n = wo ∧ rI (apT T n m s a r p wo L) 511 n = -1 := by
  unfold apT
  refine ⟨?_, ?_, ?_, ?_, ?_, ?_, ?_⟩
  · rw [rI_wI_a (by decide), rI_wI_a (by decide), rI_wJ, rI_wI]
  · rw [rI_wI_a (by decide), rI_wI_a (by decide), rI_wJ, rI_wI_a (by decide), rI_wI_a (by decide), rI_wI_a (by decide), rI_wI_a (by decide), rI_wI_a (by decide), rI_wI_a (by decide), rI_wI]
  · rw [rI_wI_a (by decide), rI_wI_a (by decide), rI_wJ, rI_wI_a (by decide), rI_wI_a (by decide), rI_wI_a (by decide), rI_wI_a (by decide), rI_wI_a (by decide), rI_wI]
  · rw [rI_wI_a (by decide), rI_wI_a (by decide), rI_wJ, rI_wI_a (by decide), rI_wI_a (by decide), rI_wI_a (by decide), rI_wI_a (by decide), rI_wI]
  · rw [rI_wI_a (by decide), rI_wI_a (by decide), rI_wJ, rI_wI_a (by decide), rI_wI_a (by decide), rI_wI_a (by decide), rI_wI]
  · rw [rI_wI_a (by decide), rI_wI_a (by decide), rI_wJ, rI_wI_a (by decide), rI_wI_a (by decide), rI_wI]
  · rw [rI_wI_a (by decide), rI_wI_a (by decide), rI_wJ, rI_wI_a (by decide), rI_wI]
def cAp (c : Nat → Nat) : Nat → Nat := fun j => if j = 0 then c 0 + 1 else if j = 1 then c 1 + 1 else c j
theorem DRW.apl (h : DRW c T W V) (h10 : c 0 < 10) (hw : WD w) {s a r p wo : Nat} (hs : s < 4) (ha : a < 12) (hr : r < 12) (hp : p < 61) (hwo : wo < 100) : DRW (cAp c) (apT T (c 0) (c 1) (nI s) (nI a) (nI r) (nI p) (nI wo) (lN (p27 0 w))) (fun i => if i = c 1 then w else W i) V := by
  obtain ⟨h1, h2, h3, h4, h5, h6, h7, h8, h9, h10'⟩ := h
  obtain ⟨r1, r2, r3, r4, r5, r6, r7⟩ := apT_r (T := T) (n := c 0) (m := c 1) (s := nI s) (a := nI a) (r := nI r) (p := nI p) (wo := nI wo) (L := lN (p27 0 w))
  have ne : ∀ e j, e ≠ 502 → (j ≠ c 0 ∨ e < 505 ∨ 511 < e) → rI (apT T (c 0) (c 1) (nI s) (nI a) (nI r) (nI p) (nI wo) (lN (p27 0 w))) e j = rI T e j := fun e j q1 q2 => apT_ne q1 q2
  have k0 : rI (apT T (c 0) (c 1) (nI s) (nI a) (nI r) (nI p) (nI wo) (lN (p27 0 w))) 502 0 = nI (c 0 + 1) := by
    unfold apT
    exact rI_wI
  have k1 : ∀ j, j ≠ 0 → rI (apT T (c 0) (c 1) (nI s) (nI a) (nI r) (nI p) (nI wo) (lN (p27 0 w))) 502 j = if j = 1 then nI (c 1 + 1) else rI T 502 j := fun j hj => by
    unfold apT
    rw [rI_wI_k hj]
    by_cases q : j = 1
    · rw [q, rI_wI, if_pos rfl]
    · rw [rI_wI_k q, if_neg q, rI_wJ, rI_wI_a (by decide), rI_wI_a (by decide), rI_wI_a (by decide), rI_wI_a (by decide), rI_wI_a (by decide), rI_wI_a (by decide), rI_wI_a (by decide)]
  have kj : ∀ e j, (e ≠ 503 ∨ j ≠ c 1) → rJ (apT T (c 0) (c 1) (nI s) (nI a) (nI r) (nI p) (nI wo) (lN (p27 0 w))) e j = rJ T e j := fun e j hj => by
    unfold apT
    rw [rJ_wI, rJ_wI]
    show rJ (wJ (wI (wI (wI (wI (wI (wI (wI T 506 (c 0) (nI s)) 507 (c 0) (nI a)) 508 (c 0) (nI r)) 509 (c 0) (nI p)) 510 (c 0) (nI wo)) 511 (c 0) (-1)) 505 (c 0) (nI (c 1))) 503 (c 1) (lN (p27 0 w))) e j = rJ T e j
    exact (up2_ne (by omega)).trans rfl
  have kj' : rJ (apT T (c 0) (c 1) (nI s) (nI a) (nI r) (nI p) (nI wo) (lN (p27 0 w))) 503 (c 1) = lN (p27 0 w) := by
    unfold apT
    rw [rJ_wI, rJ_wI, rJ_wJ]
  generalize apT T (c 0) (c 1) (nI s) (nI a) (nI r) (nI p) (nI wo) (lN (p27 0 w)) = T' at *
  refine ⟨fun k hk => ?_, ?_, fun e he => ?_, fun e he => ?_, h5.ex fun a j q1 q2 => ne _ _ (by omega) (by omega), h6.ex (fun a j q1 q2 => ne _ _ (by omega) (by omega)) (by show c 1 ≤ c 1 + 1; omega), h7.ex (fun a j q1 q2 => ne _ _ (by omega) (by omega)) (by show c 0 ≤ c 0 + 1; omega), h8.ex (fun a j q1 q2 => ne _ _ (by omega) (by omega)) (by show c 1 ≤ c 1 + 1; omega), fun k hk => ?_, h10'.ex fun j => kj _ _ (by omega)⟩
  · unfold cAp
    by_cases q : k = 0
    · rw [if_pos q, q]
      exact k0
    · rw [if_neg q, k1 k q]
      by_cases q2 : k = 1
      · rw [if_pos q2, if_pos q2]
      · rw [if_neg q2, if_neg q2]
        exact h1 k hk
  · show c 0 + 1 ≤ 10 ∧ c 1 + 1 ≤ c 0 + 1 + 6 ∧ c 0 + 1 ≤ c 1 + 1 ∧ c 2 ≤ 5 ∧ c 3 ≤ 6 ∧ c 4 ≤ 4 ∧ c 5 ≤ 4
    omega
  · have he : e < c 0 + 1 := he
    by_cases q : e = c 0
    · subst q
      exact ⟨IsN.nI r1 (by show c 1 < c 1 + 1; omega) (by show c 1 + 1 < _; omega), IsN.nI r2 hs (by omega), IsN.nI r3 ha (by omega), IsN.nI r4 hr (by omega), IsN.nI r5 hp (by omega), IsN.nI r6 hwo (by omega)⟩
    · obtain ⟨g1, g2, g3, g4, g5, g6⟩ := h3 e (by omega)
      have ne' : ∀ a, a ≠ 502 → rI T' a e = rI T a e := fun a ha => ne a e ha (Or.inl q)
      exact ⟨(g1.ex (ne' _ (by decide))).mo (by show c 1 ≤ c 1 + 1; omega), g2.ex (ne' _ (by decide)), g3.ex (ne' _ (by decide)), g4.ex (ne' _ (by decide)), g5.ex (ne' _ (by decide)), g6.ex (ne' _ (by decide))⟩
  · have he : e < c 0 + 1 := he
    by_cases q : e = c 0
    · subst q
      exact Or.inl r7
    · have ne' : ∀ j, j ≠ c 0 → rI T' 511 j = rI T 511 j := fun j hj => ne 511 j (by decide) (Or.inl hj)
      rcases h4 e (by omega) with g | ⟨g1, g2, g3⟩
      · exact Or.inl ((ne' e q).trans g)
      · refine Or.inr ⟨(g1.ex (ne' e q)).mo (by show c 0 ≤ c 0 + 1; omega), ?_, ?_⟩
        · rw [vN_ex (ne' e q)]
          exact g2
        · rw [vN_ex (ne' e q), ne' _ (by have := g1.2; omega)]
          exact g3
  · have hk : k < c 1 + 1 := hk
    show WD (if k = c 1 then w else W k) ∧ rJ T' 503 k = lN (p27 0 (if k = c 1 then w else W k))
    by_cases q : k = c 1
    · rw [if_pos q, q]
      exact ⟨hw, kj'⟩
    · rw [if_neg q, kj _ _ (Or.inr q)]
      exact h9 k (by omega)
/-- the class's row of an apple -/
theorem ap_row (hd : d = 20 ∨ d = 21) (hT : DTB d c T W V So) (h10 : c 0 < 10) (h16 : c 1 < 16) (hw : WD w) (s a r p wo : Int32) : ∃ S', (bn (o_tb_add (d + 80) So) fun r27 S28 => bn (o_tb_put (d + 80) r27 0 s S28) fun _ S30 => bn (o_tb_put (d + 80) r27 1 a S30) fun _ S32 => bn (o_tb_put (d + 80) r27 2 r S32) fun _ S34 => bn (o_tb_put (d + 80) r27 3 p S34) fun _ S36 => bn (o_tb_put (d + 80) r27 4 wo S36) fun _ S38 => if KO.1 (d + 2) = (0, 2) then (bn (o_na_size (d + 2) S38) fun r40 S41 => bn (o_tb_put (d + 80) r27 5 r40 S41) fun _ S43 => bn (o_tb_put (d + 80) r27 6 (-1) S43) fun _ S45 => bn (o_na_add (d + 2) (lN (pk5 w)) S45) fun _ S47 => some ((), S47)) else none) = some ((), S') ∧ DTB d (cAp c) (apT T (c 0) (c 1) s a r p wo (lN (p27 0 w))) (fun i => if i = c 1 then w else W i) V S' ∧ Fr (fUp d) So S' := by
  obtain ⟨v1, v2, v3, v4, v5, v6, v7⟩ := hT
  obtain ⟨S1, a1, a2, a3⟩ := tb_add v1 h10
  have f1 : Fr (fUp d) So S1 := a3.mo fun a k q => by
    unfold fUp at q
    simp at q ⊢
    omega
  have lt : ∀ j, j < 7 → j < 7 := fun j h => h
  have u0 := a2.put (i := c 0) (show 0 < 7 by decide) s
  have u1 := u0.put (i := c 0) (show 1 < 7 by decide) a
  have u2 := u1.put (i := c 0) (show 2 < 7 by decide) r
  have u3 := u2.put (i := c 0) (show 3 < 7 by decide) p
  have u4 := u3.put (i := c 0) (show 4 < 7 by decide) wo
  have u5 := u4.put (i := c 0) (show 5 < 7 by decide) (nI (c 1))
  have u6 := u5.put (i := c 0) (show 6 < 7 by decide) (-1)
  have f2 : ∀ (S : St) (x : Int32) (j : Nat), Fr (fun a _ => a == d + 80 + 30) S (wI S (d + 80 + 30) j x) := fun S x j => Fr.wI (by simp)
  have g5 := ((((f2 S1 s (c 0 * 7 + 0)).tr (f2 _ a (c 0 * 7 + 1))).tr (f2 _ r (c 0 * 7 + 2))).tr (f2 _ p (c 0 * 7 + 3))).tr (f2 _ wo (c 0 * 7 + 4))
  have g7 := (g5.tr (f2 _ (nI (c 1)) (c 0 * 7 + 5))).tr (f2 _ (-1) (c 0 * 7 + 6))
  have nf : ∀ a k, a ≠ d + 80 + 30 → (fun (a _ : Nat) => a == d + 80 + 30) a k = false := fun a k q => beq_eq_false_iff_ne.mpr q
  have n1 : NW (d + 2) 16 (c 1) W S1 := v6.fr a3 (by simp <;> omega) (fun k => by simp <;> omega)
  have n5 := n1.fr g5 (nf _ 0 (by omega)) (fun k => nf _ 0 (by omega))
  have n7 := n1.fr g7 (nf _ 0 (by omega)) (fun k => nf _ 0 (by omega))
  obtain ⟨S9, y1, y2, y3⟩ := na_add n7 h16 hw
  have e1 : ∀ {f : Nat → Nat → Int32} {S : St} (h : TB (d + 80) 10 7 (c 0 + 1) f S) (j : Nat) (hj : j < 7) (x : Int32), o_tb_put (d + 80) (nI (c 0)) (nI j) x S = some ((), wI S (d + 80 + 30) (c 0 * 7 + j) x) := fun h j hj x => tb_put h (by omega) hj x
  have fu : ∀ {P : Nat → Nat → Bool} {S S' : St}, Fr P S S' → (∀ a k, fUp d a k = false → P a k = false) → Fr (fUp d) S S' := fun f h => f.mo h
  have f7 : Fr (fUp d) S1 _ := g7.mo fun a k q => by
    unfold fUp at q
    simp at q ⊢
    omega
  have f9 : Fr (fUp d) _ S9 := y3.mo fun a k q => by
    unfold fUp at q
    simp at q ⊢
    omega
  obtain ⟨r1, r2, r3, r4, r5, r6, r7⟩ := apT_r (T := T) (n := c 0) (m := c 1) (s := s) (a := a) (r := r) (p := p) (wo := wo) (L := lN (p27 0 w))
  have ne : ∀ e j, e ≠ 502 → (j ≠ c 0 ∨ e < 505 ∨ 511 < e) → rI (apT T (c 0) (c 1) s a r p wo (lN (p27 0 w))) e j = rI T e j := fun e j q1 q2 => apT_ne q1 q2
  refine ⟨S9, ?_, ⟨?_, ?_, ?_, ?_, ?_, y2, ?_⟩, (f1.tr f7).tr f9⟩
  · rw [a1, bnq, (show o_tb_put (d + 80) (nI (c 0)) 0 s S1 = _ from e1 a2 0 (by decide) s), bnq, (show o_tb_put (d + 80) (nI (c 0)) 1 a _ = _ from e1 u0 1 (by decide) a), bnq, (show o_tb_put (d + 80) (nI (c 0)) 2 r _ = _ from e1 u1 2 (by decide) r), bnq, (show o_tb_put (d + 80) (nI (c 0)) 3 p _ = _ from e1 u2 3 (by decide) p), bnq, (show o_tb_put (d + 80) (nI (c 0)) 4 wo _ = _ from e1 u3 4 (by decide) wo), bnq, if_pos v6.1, na_size n5, bnq, (show o_tb_put (d + 80) (nI (c 0)) 5 (nI (c 1)) _ = _ from e1 u4 5 (by decide) (nI (c 1))), bnq, (show o_tb_put (d + 80) (nI (c 0)) 6 (-1) _ = _ from e1 u5 6 (by decide) (-1)), bnq, y1, bnq]
  · refine (u6.fr y3 (fun k => by simp <;> omega) (fun k => by simp <;> omega)).ext fun e j he hj => ?_
    by_cases q : e = c 0
    · subst q
      rcases (show j = 0 ∨ j = 1 ∨ j = 2 ∨ j = 3 ∨ j = 4 ∨ j = 5 ∨ j = 6 by omega) with rfl | rfl | rfl | rfl | rfl | rfl | rfl
      · rw [show ccol 0 = 506 from rfl, r2]; simp [upR]
      · rw [show ccol 1 = 507 from rfl, r3]; simp [upR]
      · rw [show ccol 2 = 508 from rfl, r4]; simp [upR]
      · rw [show ccol 3 = 509 from rfl, r5]; simp [upR]
      · rw [show ccol 4 = 510 from rfl, r6]; simp [upR]
      · rw [show ccol 5 = 505 from rfl, r1]; simp [upR]
      · rw [show ccol 6 = 511 from rfl, r7]; simp [upR]
    · rw [ne _ _ (by unfold ccol; split <;> (try split) <;> omega) (Or.inl q)]
      simp [upR, q]
  · exact (((v2.fr a3 (fun k => by simp <;> omega) (fun k => by simp <;> omega)).fr g7 (fun k => nf _ 0 (by omega)) (fun k => nf _ 0 (by omega))).fr y3 (fun k => by simp <;> omega) (fun k => by simp <;> omega)).ext fun e j he hj => (ne _ _ (by omega) (by omega)).symm
  · exact (((v3.fr a3 (fun k => by simp <;> omega) (fun k => by simp <;> omega)).fr g7 (fun k => nf _ 0 (by omega)) (fun k => nf _ 0 (by omega))).fr y3 (fun k => by simp <;> omega) (fun k => by simp <;> omega)).ext fun e j he hj => (ne _ _ (by omega) (by omega)).symm
  · obtain ⟨g, v4, v4'⟩ := v4
    refine ⟨g, ((v4.fr a3 (fun k => by simp <;> omega) (fun k => by simp <;> omega)).fr g7 (fun k => nf _ 0 (by omega)) (fun k => nf _ 0 (by omega))).fr y3 (fun k => by simp <;> omega) (fun k => by simp <;> omega), fun q hq => ?_⟩
    rw [ne 518 _ (by decide) (by omega), vN_ex (ne 518 q (by decide) (by omega))]
    refine ⟨(v4' q hq).1, fun k hk => ?_⟩
    rw [ne 517 _ (by decide) (by omega)]
    exact (v4' q hq).2 k hk
  · exact (((v5.fr a3 (fun k => by simp <;> omega) (fun k => by simp <;> omega)).fr g7 (fun k => nf _ 0 (by omega)) (fun k => nf _ 0 (by omega))).fr y3 (fun k => by simp <;> omega) (fun k => by simp <;> omega)).ext fun e j he hj => (ne _ _ (by omega) (by omega)).symm
  · exact ((v7.fr a3 (by simp <;> omega) (fun k => by simp <;> omega)).fr g7 (nf _ 0 (by omega)) (fun k => nf _ 0 (by omega))).fr y3 (by simp <;> omega) (fun k => by simp <;> omega)
end APPLER
