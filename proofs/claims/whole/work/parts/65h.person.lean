/-! Reading an orchard: person. -/
section PERSON
variable {n p b k i d s s' bz u mx l1 l2 l3 : Nat} {w w1 : List Nat} {tx : Nat → Int32} {T T' T5 So Sm S S' So' Sm' : St} {P Q : Nat → Nat → Bool} {W V W' V' : Nat → List Nat} {c c' : Nat → Nat} {f : Nat → Nat → Int32}
theorem p27_ge : ∀ (t : List Nat) (a : Nat), a ≤ p27 a t
  | [], _ => Nat.le_refl _
  | c :: t, a => Nat.le_trans (show a ≤ a * 27 + c by omega) (p27_ge t (a * 27 + c))
/-- the class of a name: its first letter -/
theorem m_fl_loop : ∀ (j : Nat) (c0 : Nat) (t : List Nat) (m : Nat), t.length = j → c0 ≤ 26 → (∀ c ∈ t, 1 ≤ c ∧ c ≤ 26) → 1 ≤ c0 → t.length ≤ 7 → j < m → m_firstLetter_2 m (lN (p27 0 (c0 :: t))) S = some (nI c0, S)
  | 0, c0, t, m, hj, hc, ht, h1, h7, hm => by
    obtain ⟨m, rfl, hm⟩ := fuel hm
    obtain rfl : t = [] := List.length_eq_zero_iff.mp hj
    have e : p27 0 [c0] = c0 := by
      show 0 * 27 + c0 = c0
      omega
    rw [m_firstLetter_2, e]
    unfold m_firstLetter_19
    rw [if_neg (fun q => by
      rw [lg_cmp_gt, show (26 : Int64) = lN 26 from rfl, lN_ltB (by decide) (by omega)] at q
      omega), lN_i]
  | j + 1, c0, t, m, hj, hc, ht, h1, h7, hm => by
    obtain ⟨m, rfl, hm⟩ := fuel hm
    have hne : t ≠ [] := fun q => by
      rw [q] at hj
      cases hj
    obtain ⟨t', x, rfl⟩ : ∃ t' x, t = t' ++ [x] := ⟨t.dropLast, t.getLast hne, (List.dropLast_concat_getLast hne).symm⟩
    have hl : t'.length = j := by
      rw [List.length_append] at hj
      simpa using hj
    have hx := ht x (by simp)
    have ht' : ∀ c ∈ t', 1 ≤ c ∧ c ≤ 26 := fun c hc => ht c (by simp [hc])
    have ih := m_fl_loop j c0 t' m hl hc ht' h1 (by omega) (by omega)
    have e : p27 0 (c0 :: (t' ++ [x])) = p27 0 (c0 :: t') * 27 + x := p27_app (c0 :: t') 0 x
    have hB := p27_B (t := c0 :: (t' ++ [x])) (fun c hc' => by
      rcases List.mem_cons.mp hc' with q | q
      · rw [q]
        exact ⟨h1, hc⟩
      · exact ht c q) (by rw [List.length_cons]; omega)
    have hP : 1 ≤ p27 0 (c0 :: t') := by
      have : 0 * 27 + c0 ≤ p27 0 (c0 :: t') := p27_ge t' (0 * 27 + c0)
      omega
    rw [m_firstLetter_2, if_pos (by
      rw [lg_cmp_gt, show (26 : Int64) = lN 26 from rfl, lN_ltB (by decide) (by omega), e]
      omega), show (27 : Int64) = lN 27 from rfl, lN_div (by omega) (by decide), ltq, (show p27 0 (c0 :: (t' ++ [x])) / 27 = p27 0 (c0 :: t') by rw [e]; omega), ih]
theorem m_fl (hw : WD w) : m_firstLetter (lN (p27 0 w)) S = some (nI (w.getD 0 0), S) := by
  obtain ⟨h1, h2, h3⟩ := hw
  cases w with
  | nil => exact absurd rfl h1
  | cons c0 t =>
    have hc := h3 c0 (by simp)
    rw [List.length_cons] at h2
    exact m_fl_loop t.length c0 t FU rfl hc.2 (fun c hc => h3 c (by simp [hc])) hc.1 (by omega) (by unfold FU; omega)
/-- a new row of three -/
theorem row3 (h : TB u mx 3 n f S) (hn : n < mx) (x y z : Int32) {Y : St → Re Unit} : ∃ S', (bn (o_tb_add u S) fun r S1 => bn (o_tb_put u r 0 x S1) fun _ S2 => bn (o_tb_put u r 1 y S2) fun _ S3 => bn (o_tb_put u r 2 z S3) fun _ S4 => Y S4) = Y S' ∧ TB u mx 3 (n + 1) (fun a j => if a = n then (if j = 0 then x else if j = 1 then y else z) else f a j) S' ∧ Fr (fun a _ => a == u || a == u + 30) S S' := by
  obtain ⟨S1, a1, a2, a3⟩ := tb_add h hn
  have u0 := a2.put (i := n) (show 0 < 3 by decide) x
  have u1 := u0.put (i := n) (show 1 < 3 by decide) y
  have u2 := u1.put (i := n) (show 2 < 3 by decide) z
  refine ⟨_, ?_, u2.ext fun a j ha hj => ?_, (((a3.mo fun a k q => ?_).tr (Fr.wI (by simp))).tr (Fr.wI (by simp))).tr (Fr.wI (by simp))⟩
  · rw [a1, bnq, (show o_tb_put u (nI n) 0 x S1 = _ from tb_put a2 (by omega) (show 0 < 3 by decide) x), bnq, (show o_tb_put u (nI n) 1 y _ = _ from tb_put u0 (by omega) (show 1 < 3 by decide) y), bnq, (show o_tb_put u (nI n) 2 z _ = _ from tb_put u1 (by omega) (show 2 < 3 by decide) z), bnq]
  · by_cases q : a = n
    · subst q
      rcases (show j = 0 ∨ j = 1 ∨ j = 2 by omega) with rfl | rfl | rfl
      · simp [upR]
      · simp [upR]
      · simp [upR]
    · simp [upR, q]
  · simp at q ⊢
    omega
theorem pe_F (hd : d = 20 ∨ d = 21) (hF : FT S) (hN : NW (d + 2) 16 n W S) (v2 : Int64) (v4 v5 : Int32) : (oq (rQ S 3 6) none fun o17 =>
  if ((KO.1 o17).1 < 8 ∨ (KO.1 o17).1 = 20) ∧ ((KO.1 1007).1 < 8 ∨ (KO.1 1007).1 = 20) then (
if o17 = 1007 then (
    bn (o_tp_step S) fun _ S20 =>
        bn (o_rd_soundHere d S20) fun r21 S22 =>
    if KO.1 (d + 2) = (0, 2) then (
bn (o_na_letter (d + 2) r21 (0 : Int32) S22) fun r24 S25 =>
    bn (o_tp_step S25) fun _ S27 =>
    o_rd_readPerson_92 d v2 v4 v5 r24 S27) else none)
  else (
    o_rd_readPerson_92 d v2 v4 v5 (0 : Int32) S)) else none) = some ((), S) := by
  have t : ∀ x, o_rd_readPerson_92 d v2 v4 v5 x S = some ((), S) := fun x => by
    unfold o_rd_readPerson_92 o_rd_readPerson_162
    rw [tk6 hF, bnq, if_neg hF.1]
  obtain ⟨k, hk, e⟩ := hF.2
  rw [oq2 e, if_pos (kcc (j := 7) hk (by decide)), st_F hF, bnq, sound_F hF, bnq, if_pos hN.1, na_letterI hN (by decide), bnq, st_F hF, bnq, t, t]
  by_cases q : 1000 + k = 1007
  · rw [if_pos q]
  · rw [if_neg q]
theorem pe_tail (hd : d = 20 ∨ d = 21) (h : TK n tx k w b p So Sm) (h0 : rI So 3 7 = 0) (hO : OMs T5 Sm) (hD : DRW c T W V) (hT : DTB d c T W V So) (hL : LWS d b So Sm) (q : c 2 < 5) (hw : WD w1) (he : ∀ a j, (a ≠ 512 ∧ a ≠ 513 ∧ a ≠ 514) ∨ j ≠ c 2 → rI T5 a j = rI T a j) (rj : ∀ a j, rJ T5 a j = rJ T a j) (r1 : rI T5 512 (c 2) = nI l1) (r2 : rI T5 513 (c 2) = nI l2) (r3 : rI T5 514 (c 2) = nI l3) (g1 : l1 < 12) (g2 : l2 < 7) (g3 : l3 < 27) (hbz : bz ≤ b) : ∃ z So' Sm', o_rd_readPerson_92 d (lN (pk5 w1)) (nI l1) (nI l2) (nI l3) So = some ((), So') ∧ m_readsPerson_142 (nI (5 + c 2)) (lN (p27 0 w1)) Sm = some (bI z, Sm') ∧ LEND n tx d bz z So' Sm' ∧ Fr (fLo d) So So' ∧ Fr fLm Sm Sm' := by
  have hkd := kd_d hd
  have hft : Dft d So := hT.dft
  have fd : Fr fDm Sm (wI (wJ Sm 504 (5 + c 2) (lN (p27 0 w1))) 502 8 (nI (c 2 + 1))) := (fD_V (k := c 2) (by decide) (by decide) rfl).tr (fD_w (k := 2) (by decide) (by decide) rfl)
  have hO7 : OMs (wI (wJ T5 504 (c 2) (lN (p27 0 w1))) 502 2 (nI (c 2 + 1))) (wI (wJ Sm 504 (5 + c 2) (lN (p27 0 w1))) 502 8 (nI (c 2 + 1))) := (hO.wJ (k := c 2) rfl).wI (k := 2) rfl
  have ec : rI Sm 502 8 = nI (c 2) := (hO.nn (j := 2) (by decide)).trans ((he _ _ (Or.inl (by decide))).trans (hD.1 2 (by decide)))
  unfold o_rd_readPerson_92 o_rd_readPerson_162 m_readsPerson_142
  rw [if_neg (nI_in (show 5 + c 2 < 10 by omega) (by decide)), nI_clamp (by omega), ltq (wJ Sm 504 _ _), if_neg g8_12, if_neg g8_12, c8, rI_wJ, ec, nI_1, ltq (wI (wJ Sm 504 _ _) 502 8 _)]
  have ne : ∀ a j, a ≠ 502 → ((a ≠ 512 ∧ a ≠ 513 ∧ a ≠ 514) ∨ j ≠ c 2) → rI (wI (wJ T5 504 (c 2) (lN (p27 0 w1))) 502 2 (nI (c 2 + 1))) a j = rI T a j := fun a j q1 q2 => by
    rw [rI_wI_a q1, rI_wJ]
    exact he a j q2
  have s1 : rI (wI (wJ T5 504 (c 2) (lN (p27 0 w1))) 502 2 (nI (c 2 + 1))) 512 (c 2) = nI l1 := by rw [rI_wI_a (by decide), rI_wJ, r1]
  have s2 : rI (wI (wJ T5 504 (c 2) (lN (p27 0 w1))) 502 2 (nI (c 2 + 1))) 513 (c 2) = nI l2 := by rw [rI_wI_a (by decide), rI_wJ, r2]
  have s3 : rI (wI (wJ T5 504 (c 2) (lN (p27 0 w1))) 502 2 (nI (c 2 + 1))) 514 (c 2) = nI l3 := by rw [rI_wI_a (by decide), rI_wJ, r3]
  have r502 : ∀ j', rI (wI (wJ T5 504 (c 2) (lN (p27 0 w1))) 502 2 (nI (c 2 + 1))) 502 j' = if j' = 2 then nI (c 2 + 1) else rI T 502 j' := fun j' => by
    by_cases q : j' = 2
    · rw [q, rI_wI, if_pos rfl]
    · rw [rI_wI_k q, if_neg q, rI_wJ]
      exact he _ _ (Or.inl (by decide))
  have j503 : ∀ j', rJ (wI (wJ T5 504 (c 2) (lN (p27 0 w1))) 502 2 (nI (c 2 + 1))) 503 j' = rJ T 503 j' := fun j' => by rw [rJ_wI, rJ_wJ_a (by decide), rj]
  have j504 : ∀ j', rJ (wI (wJ T5 504 (c 2) (lN (p27 0 w1))) 502 2 (nI (c 2 + 1))) 504 j' = if j' = c 2 then lN (p27 0 w1) else rJ T 504 j' := fun j' => by
    by_cases q : j' = c 2
    · rw [q, rJ_wI, rJ_wJ, if_pos rfl]
    · rw [rJ_wI, rJ_wJ_k q, if_neg q, rj]
  generalize wI (wJ T5 504 (c 2) (lN (p27 0 w1))) 502 2 (nI (c 2 + 1)) = T' at *
  have hL7 := hL.dm hd fd
  have hK7 := h.dm fd
  generalize wI (wJ Sm 504 (5 + c 2) (lN (p27 0 w1))) 502 8 (nI (c 2 + 1)) = N7 at *
  have hD7 : DRW (fun j => if j = 2 then c 2 + 1 else c j) T' W (fun i => if i = c 2 then w1 else V i) := by
    obtain ⟨h1, h2, h3, h4, h5, h6, h7, h8, h9, h10⟩ := hD
    refine ⟨fun k hk => ?_, by show c 0 ≤ 10 ∧ c 1 ≤ c 0 + 6 ∧ c 0 ≤ c 1 ∧ c 2 + 1 ≤ 5 ∧ c 3 ≤ 6 ∧ c 4 ≤ 4 ∧ c 5 ≤ 4; omega, h3.ex (fun a j q1 q2 => ne _ _ (by omega) (by omega)) (Nat.le_refl _), h4.ex fun j => ne _ _ (by omega) (by omega), fun g hg => ?_, h6.ex (fun a j q1 q2 => ne _ _ (by omega) (by omega)) (Nat.le_refl _), h7.ex (fun a j q1 q2 => ne _ _ (by omega) (by omega)) (Nat.le_refl _), h8.ex (fun a j q1 q2 => ne _ _ (by omega) (by omega)) (Nat.le_refl _), h9.ex j503, fun g hg => ?_⟩
    · rw [r502]
      show (if k = 2 then nI (c 2 + 1) else rI T 502 k) = nI (if k = 2 then c 2 + 1 else c k)
      by_cases q : k = 2
      · rw [if_pos q, if_pos q]
      · rw [if_neg q, if_neg q]
        exact h1 k hk
    · have hg : g < c 2 + 1 := hg
      by_cases q : g = c 2
      · rw [q]
        exact ⟨IsN.nI s1 g1 (by decide), IsN.nI s2 g2 (by decide), IsN.nI s3 g3 (by decide)⟩
      · obtain ⟨y1, y2, y3⟩ := h5 g (by omega)
        exact ⟨y1.ex (ne _ _ (by decide) (Or.inr q)), y2.ex (ne _ _ (by decide) (Or.inr q)), y3.ex (ne _ _ (by decide) (Or.inr q))⟩
    · have hg : g < c 2 + 1 := hg
      show WD (if g = c 2 then w1 else V g) ∧ rJ T' 504 g = lN (p27 0 (if g = c 2 then w1 else V g))
      rw [j504]
      by_cases q : g = c 2
      · rw [if_pos q, if_pos q]
        exact ⟨hw, rfl⟩
      · rw [if_neg q, if_neg q]
        exact h10 g (by omega)
  obtain ⟨z, So', Sm', e1, e2, e3, e4, e5⟩ := line_end (bz := bz) (So := So) hd hK7 h0 hO7 hD7 hft hL7 hbz (X := fun S2 => if KO.1 d = (0, 10) then (if KO.1 (d + 82) = (0, 7) then (bn (o_tb_add (d + 82) S2) fun r5 S6 => bn (o_tb_put (d + 82) r5 0 (nI l1) S6) fun _ S8 => bn (o_tb_put (d + 82) r5 1 (nI l2) S8) fun _ S10 => bn (o_tb_put (d + 82) r5 2 (nI l3) S10) fun _ S12 => if KO.1 (d + 4) = (0, 2) then (bn (o_na_add (d + 4) (lN (pk5 w1)) S12) fun _ S15 => some ((), S15)) else none) else none) else none) (fun S9 f9 h9 => by
    obtain ⟨v1, v2, v3, ⟨f, v4, v4'⟩, v5, v6, v7⟩ := (hT.fr f9 (fun a k q => fCo_n (by omega)) hd : DTB d c T W V S9)
    obtain ⟨S10, y1, y2, y3⟩ := row3 v2 q (nI l1) (nI l2) (nI l3) (Y := fun S12 => if KO.1 (d + 4) = (0, 2) then (bn (o_na_add (d + 4) (lN (pk5 w1)) S12) fun _ S15 => some ((), S15)) else none)
    have nf1 : ∀ a (k : Nat), a ≠ d + 82 → a ≠ d + 82 + 30 → (fun (a : Nat) (_ : Nat) => a == d + 82 || a == d + 82 + 30) a k = false := fun a k q1 q2 => by
      simp
      exact ⟨q1, q2⟩
    obtain ⟨S11, x1, x2, x3⟩ := na_add (v7.fr y3 (nf1 _ 0 (by omega) (by omega)) (fun k => nf1 _ 0 (by omega) (by omega))) q hw
    have fu : Fr (fun a _ => a == d + 82 || a == d + 82 + 30 || a == d + 4 || a == d + 8) S9 S11 := (y3.mo fun a k q => by
      simp at q ⊢
      omega).tr (x3.mo fun a k q => by
      simp at q ⊢
      omega)
    have fu' : Fr (fUp d) S9 S11 := fu.mo fun a k q => by
      unfold fUp at q
      simp at q ⊢
      omega
    have nf : ∀ a (k : Nat), a ≠ d + 82 → a ≠ d + 82 + 30 → a ≠ d + 4 → a ≠ d + 8 → (fun (a : Nat) (_ : Nat) => a == d + 82 || a == d + 82 + 30 || a == d + 4 || a == d + 8) a k = false := fun a k q1 q2 q3 q4 => by
      simp
      exact ⟨⟨⟨q1, q2⟩, q3⟩, q4⟩
    refine ⟨S11, ?_, ⟨(v1.fr fu (fun k => nf _ 0 (by omega) (by omega) (by omega) (by omega)) (fun k => nf _ 0 (by omega) (by omega) (by omega) (by omega))).ext fun x j hx hj => (ne _ _ (by unfold ccol; split <;> (try split) <;> omega) (by unfold ccol; split <;> (try split) <;> omega)).symm, (y2.fr x3 (fun k => by simp <;> omega) (fun k => by simp <;> omega)).ext fun x j hx hj => ?_, (v3.fr fu (fun k => nf _ 0 (by omega) (by omega) (by omega) (by omega)) (fun k => nf _ 0 (by omega) (by omega) (by omega) (by omega))).ext fun x j hx hj => (ne _ _ (by omega) (by omega)).symm, ⟨f, v4.fr fu (fun k => nf _ 0 (by omega) (by omega) (by omega) (by omega)) (fun k => nf _ 0 (by omega) (by omega) (by omega) (by omega)), fun g hg => ?_⟩, (v5.fr fu (fun k => nf _ 0 (by omega) (by omega) (by omega) (by omega)) (fun k => nf _ 0 (by omega) (by omega) (by omega) (by omega))).ext fun x j hx hj => (ne _ _ (by omega) (by omega)).symm, v6.fr fu (nf _ 0 (by omega) (by omega) (by omega) (by omega)) (fun k => nf _ 0 (by omega) (by omega) (by omega) (by omega)), x2⟩, fu'⟩
    · show (if KO.1 d = (0, 10) then (if KO.1 (d + 82) = (0, 7) then (bn (o_tb_add (d + 82) S9) fun r5 S6 => bn (o_tb_put (d + 82) r5 0 (nI l1) S6) fun _ S8 => bn (o_tb_put (d + 82) r5 1 (nI l2) S8) fun _ S10 => bn (o_tb_put (d + 82) r5 2 (nI l3) S10) fun _ S12 => if KO.1 (d + 4) = (0, 2) then (bn (o_na_add (d + 4) (lN (pk5 w1)) S12) fun _ S15 => some ((), S15)) else none) else none) else none) = _
      rw [if_pos hkd, if_pos v2.k]
      refine y1.trans ?_
      show (if KO.1 (d + 4) = (0, 2) then (bn (o_na_add (d + 4) (lN (pk5 w1)) S10) fun _ S15 => some ((), S15)) else none) = _
      rw [if_pos v7.1, x1, bnq]
    · show (if x = c 2 then (if j = 0 then nI l1 else if j = 1 then nI l2 else nI l3) else rI T (512 + j) x) = rI T' (512 + j) x
      by_cases q2 : x = c 2
      · rw [if_pos q2, q2]
        rcases (show j = 0 ∨ j = 1 ∨ j = 2 by omega) with rfl | rfl | rfl
        · rw [if_pos rfl]
          exact s1.symm
        · rw [if_neg (by decide), if_pos rfl]
          exact s2.symm
        · rw [if_neg (by decide), if_neg (by decide)]
          exact s3.symm
      · rw [if_neg q2]
        exact (ne _ _ (by omega) (Or.inr q2)).symm
    · rw [ne 518 _ (by decide) (Or.inl (by decide)), vN_ex (ne 518 g (by decide) (Or.inl (by decide)))]
      refine ⟨(v4' g hg).1, fun k hk => ?_⟩
      rw [ne 517 _ (by decide) (Or.inl (by decide))]
      exact (v4' g hg).2 k hk)
  exact ⟨z, So', Sm', e1, e2, e3, e4, (fLm_d fd).tr e5⟩
end PERSON
