/-! Reading: what a token is asked, on both sides. -/
section TESTS
variable {n p b k i : Nat} {w : List Nat} {tx : Nat → Int32} {So Sm S S' So' Sm' : St} {P Q : Nat → Nat → Bool}
/-- the letters of the class's words -/
def kwT : List (List Nat) := [[], [], [], [], [], [], [], [14, 15, 20], [1, 14, 4], [15, 18], [], [], [], [], [], [1, 16, 16, 12, 5], [1, 20], [18, 9, 16, 5], [23, 15, 18, 20, 8], [20, 23, 9, 14], [15, 20, 8, 5, 18], [16, 5, 18, 19, 15, 14], [12, 1, 14, 5], [12, 15, 21, 4], [19, 20, 18, 1, 14, 7, 5, 18], [16, 1, 7, 5], [2, 1, 14, 14], [14, 5, 1, 18], [22, 1, 12, 21, 5], [3, 1, 12, 12], [16, 9, 3, 11], [4, 1, 25], [16, 12, 1, 9, 14], [1, 12, 9, 1, 19], [23, 5, 12, 19, 8], [4, 5, 1, 6], [5, 4, 9, 20, 19], [19, 20, 1, 18, 20], [18, 8, 25, 13, 5], [19, 9, 26, 5], [2, 1, 19, 5], [1, 7, 5]]
def kw (i : Nat) : List Nat := kwT.getD i []
def kwP (i : Nat) : Bool := (decide (7 ≤ i) && decide (i ≤ 9)) || (decide (15 ≤ i) && decide (i ≤ 41))
theorem kw_all : ∀ i, i < 42 → kwP i = true → (kw i).length ≤ 8 ∧ (∀ c ∈ kw i, 1 ≤ c ∧ c ≤ 26) ∧ ltT (lN (pk5 (kw i))) = i := by decide +kernel
theorem kwP_lt (h : kwP i = true) : i < 42 := by
  unfold kwP at h
  simp at h
  omega
theorem iteQ {Q : Nat → Prop} {c : Prop} [Decidable c] {a b : Nat} (ha : c → Q a) (hb : ¬ c → Q b) : Q (if c then a else b) := by
  by_cases h : c
  · rw [if_pos h]
    exact ha h
  · rw [if_neg h]
    exact hb h
theorem ltT_c (x : Int64) : (fun k => k = 3 ∨ x = lN (pk5 (kw k))) (ltT x) := by
  unfold ltT
  iterate 30 refine iteQ (Q := fun k => k = 3 ∨ x = lN (pk5 (kw k))) (fun h => Or.inr (h.trans (by decide))) (fun _ => ?_)
  exact Or.inl rfl
theorem kw_iff (hw : WD w) (hi : kwP i = true) : ltT (lN (pk5 w)) = i ↔ w = kw i := by
  obtain ⟨h1, h2, h3⟩ := kw_all i (kwP_lt hi) hi
  constructor
  · intro e
    have hc : ltT (lN (pk5 w)) = 3 ∨ lN (pk5 w) = lN (pk5 (kw (ltT (lN (pk5 w))))) := ltT_c (lN (pk5 w))
    rw [e] at hc
    rcases hc with hc | hc
    · exfalso
      unfold kwP at hi
      rw [hc] at hi
      cases hi
    · have b1' := pk5_B hw.2.2 hw.2.1
      have b2 := pk5_B h2 h1
      rw [lN_eqB (by omega) (by omega)] at hc
      exact pk5_inj hw.2.2 h2 hc
  · intro e
    rw [e]
    exact h3
theorem kw_27 (hw : WD w) (hi : kwP i = true) : lg_cmp (lN (p27 0 w)) (lN (p27 0 (kw i))) = 0 ↔ ltT (lN (pk5 w)) = i := by
  obtain ⟨h1, h2, h3⟩ := kw_all i (kwP_lt hi) hi
  have b1' := p27_B hw.2.2 hw.2.1
  have b2 := p27_B h2 h1
  rw [lg_cmp_eq, lN_eqB (by omega) (by omega), kw_iff hw hi]
  exact ⟨fun e => p27_inj hw.2.2 h2 e, fun e => by rw [e]⟩
theorem TK.q (h : TK n tx k w b p So Sm) : rQ So 3 6 = some (1000 + k) := h.2.2.2.2.1
theorem TK.tx' (h : TK n tx k w b p So Sm) : TXR n tx So Sm := h.1
/-- the kind of the token's constant -/
theorem TK.kc (h : TK n tx k w b p So Sm) {j : Nat} (hj : j < 42) : ((KO.1 (1000 + k)).1 < 8 ∨ (KO.1 (1000 + k)).1 = 20) ∧ ((KO.1 (1000 + j)).1 < 8 ∨ (KO.1 (1000 + j)).1 = 20) := by
  rw [kt h.lt, kt hj]
  exact ⟨Or.inr rfl, Or.inr rfl⟩
theorem TK.k20 (h : TK n tx k w b p So Sm) : (KO.1 (1000 + k)).1 = 20 := by rw [kt h.lt]
theorem k_ne {j : Nat} (h : ¬ k = j) : ¬ 1000 + k = 1000 + j := fun q => h (by omega)
/-- a word's token -/
theorem TK.wd (h : TK n tx k w b p So Sm) (hk : k = 3 ∨ kwP k = true) : WD w ∧ k = ltT (lN (pk5 w)) ∧ rI Sm 500 6 = 1 ∧ rJ So 3 5 = lN (pk5 w) ∧ rJ Sm 500 7 = lN (p27 0 w) := by
  rcases h.2.2.2.2.2 with ⟨rfl, _⟩ | ⟨rfl, _⟩ | ⟨rfl, _⟩ | ⟨e, e2, _⟩ | e
  · rcases hk with q | q
    · cases q
    · cases q
  · rcases hk with q | q
    · cases q
    · cases q
  · rcases hk with q | q
    · cases q
    · cases q
  · exfalso
    have := (sgT_lt (tx b)).2
    rw [← e] at this
    unfold kwP at hk
    simp at hk
    omega
  · exact e
theorem TK.nw (h : TK n tx k w b p So Sm) : (rI Sm 500 6 = 1 ↔ (k = 3 ∨ kwP k = true)) := by
  constructor
  · intro q
    rcases h.2.2.2.2.2 with ⟨_, e⟩ | ⟨_, e⟩ | ⟨_, e, _⟩ | ⟨_, _, e⟩ | e
    · rw [e] at q; cases q
    · rw [e] at q; cases q
    · rw [e] at q; cases q
    · rw [e] at q; cases q
    · have := ltT_lt (lN (pk5 w))
      rw [← e.2.1] at this
      unfold kwP
      simp
      omega
  · intro q
    exact (h.wd q).2.2.1
theorem isWord_ok (h : TK n tx k w b p So Sm) (i : Nat) (hi : kwP i = true) {K : Int64} (hK : K = lN (p27 0 (kw i))) : m_isWord K Sm = some (bI (decide (k = i)), Sm) := by
  unfold m_isWord m_isWord_21 m_isWord_22
  rw [if_pos b1, if_pos b0]
  by_cases q : k = 3 ∨ kwP k = true
  · obtain ⟨h1, h2, h3, h4, h5⟩ := h.wd q
    rw [if_pos h3, h5, hK]
    by_cases q2 : k = i
    · rw [if_pos ((kw_27 h1 hi).mpr (by rw [← h2]; exact q2)), decide_eq_true q2]
      rfl
    · rw [if_neg (fun c => q2 (by rw [h2]; exact (kw_27 h1 hi).mp c)), decide_eq_false q2]
      rfl
  · rw [if_neg (fun c => q (h.nw.mp c)), decide_eq_false (fun c => q (Or.inr (by rw [c]; exact hi)))]
    rfl
theorem sgT_inj : ∀ {x y : Int32}, ¬ sgT y = 1 → sgT x = sgT y → x = y := by
  intro x y hy e
  have key : ∀ z : Int32, ¬ sgT z = 1 → z = (if sgT z = 4 then 40 else if sgT z = 5 then 41 else if sgT z = 6 then 59 else if sgT z = 10 then 60 else if sgT z = 11 then 61 else if sgT z = 12 then 43 else if sgT z = 13 then 45 else 42) := fun z hz => by
    by_cases h1 : z = 40
    · subst h1; decide
    by_cases h2 : z = 41
    · subst h2; decide
    by_cases h3 : z = 59
    · subst h3; decide
    by_cases h4 : z = 60
    · subst h4; decide
    by_cases h5 : z = 61
    · subst h5; decide
    by_cases h6 : z = 43
    · subst h6; decide
    by_cases h7 : z = 45
    · subst h7; decide
    by_cases h8 : z = 42
    · subst h8; decide
    exfalso
    apply hz
    unfold sgT
    rw [if_neg h1, if_neg h2, if_neg h3, if_neg h4, if_neg h5, if_neg h6, if_neg h7, if_neg h8]
  rw [key x (by rw [e]; exact hy), key y hy, e]
theorem isSign_ok (h : TK n tx k w b p So Sm) (j : Nat) (hj : ¬ j = 1) {x : Int32} (hx : sgT x = j) : m_isSign x Sm = some (bI (decide (k = j)), Sm) := by
  have hn := h.1.1
  unfold m_isSign m_isSign_25 m_isSign_26
  rw [if_pos b1, if_pos b0]
  rcases h.2.2.2.2.2 with ⟨e1, e⟩ | ⟨e1, e⟩ | ⟨e1, e, _⟩ | ⟨e1, e2, e⟩ | ⟨_, e1, e, _, _⟩
  · rw [if_neg (by rw [e]; decide), decide_eq_false (fun c => by have := (sgT_lt x).2; omega)]
    rfl
  · rw [if_neg (by rw [e]; decide), decide_eq_false (fun c => by have := (sgT_lt x).2; omega)]
    rfl
  · rw [if_neg (by rw [e]; decide), decide_eq_false (fun c => by have := (sgT_lt x).2; omega)]
    rfl
  · have hb : b < n := by
      have h1 := h.2.2.2.1
      have h2 := sgT_lt (tx b)
      have := h1.2.2 (by omega)
      omega
    rw [if_pos e, h.2.2.1.2, if_neg (nI_in (by omega) (by omega)), nI_clamp (by omega), (h.1.2.2.2 b hb).2]
    by_cases q : tx b = x
    · rw [if_pos q, decide_eq_true (by rw [e1, q, hx])]
      rfl
    · rw [if_neg q, decide_eq_false (fun c => q (sgT_inj (by rw [hx]; exact hj) (by rw [← e1, c, hx])))]
      rfl
  · rw [if_neg (by rw [e]; decide), decide_eq_false (fun c => by have := (sgT_lt x).2; have := (ltT_lt (lN (pk5 w))).2; omega)]
    rfl
/-- what may be a name: facts, too -/
def nmB (k : Nat) : Bool := decide (k = 3) || decide (36 ≤ k)
theorem tkF_all : ∀ k, k < 42 → (tokFL.getD k 0 = -1 ↔ ¬ 36 ≤ k) := by decide +kernel
theorem tkIsName (hk : k < 42) (S : St) : o_tk_isName (1000 + k) S = some (bI (nmB k), S) := by
  unfold o_tk_isName o_tk_isName_15 o_tk_isName_20 nmB
  rw [kt hk, show KO.1 1003 = (20, 3) from kt (t := 3) (by decide), if_pos ⟨Or.inr rfl, Or.inr rfl⟩, if_pos b0, if_pos b1]
  by_cases q : k = 3
  · rw [if_pos (by omega), decide_eq_true q]
    rfl
  · rw [if_neg (by omega), if_pos rfl, decide_eq_false q, Bool.false_or]
    by_cases q2 : 36 ≤ k
    · rw [if_neg (fun c => (tkF_all k hk).mp c q2), decide_eq_true q2]
      rfl
    · rw [if_pos ((tkF_all k hk).mpr q2), decide_eq_false q2]
      rfl
theorem isKept_ok (h : TK n tx k w b p So Sm) : m_isKept Sm = some (bI (!nmB k), Sm) := by
  unfold m_isKept m_isKept_274 m_isKept_279
  rw [if_pos b1, if_pos b0]
  by_cases q : k = 3 ∨ kwP k = true
  · obtain ⟨h1, h2, h3, h4, h5⟩ := h.wd q
    have cv : ∀ (i : Nat) (K : Int64) (X Y : Re Int32), kwP i = true → K = lN (p27 0 (kw i)) → (if lg_cmp (rJ Sm 500 7) K = 0 then X else Y) = if k = i then X else Y := fun i K X Y hi hK => by
      rw [h5, hK]
      by_cases q2 : k = i
      · rw [if_pos q2, if_pos ((kw_27 h1 hi).mpr (by rw [← h2]; exact q2))]
      · rw [if_neg q2, if_neg (fun c => q2 (by rw [h2]; exact (kw_27 h1 hi).mp c))]
    rw [if_pos h3, cv 15 858362 _ _ (by decide) (by decide), cv 16 47 _ _ (by decide) (by decide), cv 17 361292 _ _ (by decide) (by decide), cv 18 12532058 _ _ (by decide) (by decide), cv 19 410684 _ _ (by decide) (by decide), cv 20 8371260 _ _ (by decide) (by decide), cv 21 232608281 _ _ (by decide) (by decide), cv 22 237308 _ _ (by decide) (by decide), cv 23 247702 _ _ (by decide) (by decide), cv 24 206754213222 _ _ (by decide) (by decide), cv 25 315851 _ _ (by decide) (by decide), cv 26 40487 _ _ (by decide) (by decide), cv 27 279252 _ _ (by decide) (by decide), cv 28 11720705 _ _ (by decide) (by decide), cv 29 60114 _ _ (by decide) (by decide), cv 30 321581 _ _ (by decide) (by decide), cv 31 2968 _ _ (by decide) (by decide), cv 32 8740238 _ _ (by decide) (by decide), cv 33 774244 _ _ (by decide) (by decide), cv 34 12330827 _ _ (by decide) (by decide), cv 35 82410 _ _ (by decide) (by decide), cv 7 10631 _ _ (by decide) (by decide), cv 8 1111 _ _ (by decide) (by decide), cv 9 423 _ _ (by decide) (by decide)]
    have hk := h.lt
    have hx : k = 3 ∨ (7 ≤ k ∧ k ≤ 9) ∨ 15 ≤ k := by
      unfold kwP at q
      simp at q
      omega
    have hs : ∀ j, k = j → (some ((1 : Int32), Sm) : Re Int32) = some (bI (!nmB k), Sm) → (if k = j then some ((1 : Int32), Sm) else some ((1 : Int32), Sm) : Re Int32) = some (bI (!nmB k), Sm) := fun j hj e => by rw [if_pos hj]; exact e
    by_cases q3 : k = 3 ∨ 36 ≤ k
    · have e : nmB k = true := by
        unfold nmB
        simp
        omega
      rw [e]
      repeat rw [if_neg (by omega)]
      rfl
    · have e : nmB k = false := by
        unfold nmB
        simp
        omega
      rw [e]
      have hone : ∀ (c : Prop) [Decidable c] (Y : Re Int32), (¬ c → Y = some (1, Sm)) → (if c then some (1, Sm) else Y) = some (1, Sm) := fun c _ Y hY => by
        by_cases hc : c
        · rw [if_pos hc]
        · rw [if_neg hc]
          exact hY hc
      show _ = some ((1 : Int32), Sm)
      iterate 24 refine hone _ _ fun _ => ?_
      exfalso
      omega
  · rw [if_neg (fun c => q (h.nw.mp c))]
    have e : nmB k = false := by
      have hk := h.lt
      unfold kwP at q
      unfold nmB
      simp at q ⊢
      omega
    rw [e]
    rfl
/-- the facts of a law, by the reference's numbers -/
def fcB (line k : Nat) : Nat := if line = 1 then (if 40 ≤ k then k - 35 else 0) else (if 36 ≤ k ∧ k < 40 then k - 35 else 0)
theorem fact_ok (h : TK n tx k w b p So Sm) {line : Nat} (hl : line < 2) (h33 : rI Sm 500 33 = nI line) : m_fact Sm = some (nI (fcB line k), Sm) := by
  unfold m_fact m_fact_50 m_fact_112
  have hk := h.lt
  by_cases q : k = 3 ∨ kwP k = true
  · obtain ⟨h1, h2, h3, h4, h5⟩ := h.wd q
    have cv : ∀ (i : Nat) (K : Int64) (X Y : Re Int32), kwP i = true → K = lN (p27 0 (kw i)) → (if lg_cmp (rJ Sm 500 7) K = 0 then X else Y) = if k = i then X else Y := fun i K X Y hi hK => by
      rw [h5, hK]
      by_cases q2 : k = i
      · rw [if_pos q2, if_pos ((kw_27 h1 hi).mpr (by rw [← h2]; exact q2))]
      · rw [if_neg q2, if_neg (fun c => q2 (by rw [h2]; exact (kw_27 h1 hi).mp c))]
    rw [if_pos h3, h33, cv 40 40613 _ _ (by decide) (by decide), cv 41 923 _ _ (by decide) (by decide), cv 36 2743057 _ _ (by decide) (by decide), cv 37 10492274 _ _ (by decide) (by decide), cv 38 9741983 _ _ (by decide) (by decide), cv 39 381245 _ _ (by decide) (by decide)]
    unfold fcB
    rcases (show line = 0 ∨ line = 1 by omega) with rfl | rfl
    · rw [if_neg (show ¬ nI 0 = 1 by decide), if_neg (show ¬ (0 : Nat) = 1 by decide)]
      by_cases q1 : k = 36
      · rw [if_pos q1, q1]; rfl
      by_cases q2 : k = 37
      · rw [if_neg q1, if_pos q2, q2]; rfl
      by_cases q3 : k = 38
      · rw [if_neg q1, if_neg q2, if_pos q3, q3]; rfl
      by_cases q4 : k = 39
      · rw [if_neg q1, if_neg q2, if_neg q3, if_pos q4, q4]; rfl
      rw [if_neg q1, if_neg q2, if_neg q3, if_neg q4, if_neg (by omega)]
      rfl
    · rw [if_pos (show nI 1 = 1 from rfl), if_pos (show (1 : Nat) = 1 from rfl)]
      by_cases q1 : k = 40
      · rw [if_pos q1, q1]; rfl
      by_cases q2 : k = 41
      · rw [if_neg q1, if_pos q2, q2]; rfl
      rw [if_neg q1, if_neg q2, if_neg (by omega)]
      rfl
  · rw [if_neg (fun c => q (h.nw.mp c))]
    have e : fcB line k = 0 := by
      unfold kwP at q
      unfold fcB
      simp at q
      rcases (show line = 0 ∨ line = 1 by omega) with rfl | rfl
      · rw [if_neg (by decide), if_neg (by omega)]
      · rw [if_pos rfl, if_neg (by omega)]
    rw [e]
    rfl
theorem tkN_all : ∀ k, k < 42 → ∀ line, line < 2 → ((¬ tokFL.getD k 0 = -1 ∧ tokNL'.getD k 0 = bI (decide (line = 0))) ↔ ¬ fcB line k = 0) := by decide +kernel
theorem isFactOf_ok (hk : k < 42) {line : Nat} (hl : line < 2) (S : St) : o_tk_isFactOf (1000 + k) (bI (decide (line = 0))) S = some (bI (!decide (fcB line k = 0)), S) := by
  have hh := tkN_all k hk line hl
  unfold o_tk_isFactOf o_tk_isFactOf_20 o_tk_isFactOf_21
  rw [kt hk, if_pos rfl, if_pos b0, if_pos b1]
  by_cases q : fcB line k = 0
  · rw [decide_eq_true q]
    by_cases q1 : tokFL.getD k 0 = -1
    · rw [if_pos q1]
      rfl
    · rw [if_neg q1, if_neg (fun c => hh.mp ⟨q1, c⟩ q)]
      rfl
  · rw [decide_eq_false q, if_neg (hh.mpr q).1, if_pos (hh.mpr q).2]
    rfl
end TESTS
