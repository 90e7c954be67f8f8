/-! Reading an orchard: near, value. -/
section LAWL
variable {n p b k i d s s' bz line cd f : Nat} {w : List Nat} {tx : Nat → Int32} {T T' So Sm S S' So' Sm' : St} {P Q : Nat → Nat → Bool} {W V W' V' : Nat → List Nat} {c c' : Nat → Nat}
theorem fk_all : ∀ f, 34 ≤ f → f ≤ 37 → FK f := fun f h1 h2 => by
  rcases (show f = 34 ∨ f = 35 ∨ f = 36 ∨ f = 37 by omega) with rfl | rfl | rfl | rfl <;> exact ⟨rfl, rfl, rfl, rfl, rfl, rfl⟩
theorem DTB.fr2 (h : DTB d c T W V So) (f : Fr P So So') (hp : ∀ a k, (22 ≤ a ∧ a ≤ 29) ∨ (100 ≤ a ∧ a ≤ 139) → P a k = false) (hd : d = 20 ∨ d = 21) : DTB d c T W V So' := by
  obtain ⟨h1, h2, h3, ⟨g, h4, h4'⟩, h5, h6, h7⟩ := h
  exact ⟨h1.fr f (fun k => hp _ _ (by omega)) (fun k => hp _ _ (by omega)), h2.fr f (fun k => hp _ _ (by omega)) (fun k => hp _ _ (by omega)), h3.fr f (fun k => hp _ _ (by omega)) (fun k => hp _ _ (by omega)), ⟨g, h4.fr f (fun k => hp _ _ (by omega)) (fun k => hp _ _ (by omega)), h4'⟩, h5.fr f (fun k => hp _ _ (by omega)) (fun k => hp _ _ (by omega)), h6.fr f (hp _ _ (by omega)) (fun k => hp _ _ (by omega)), h7.fr f (hp _ _ (by omega)) (fun k => hp _ _ (by omega))⟩
theorem Dft.fr2 (hd : d = 20 ∨ d = 21) (h : Dft d So) (fo : Fr P So So') (hp : ∀ a k, (100 ≤ a ∧ a ≤ 139) → P a k = false) : Dft d So' := by
  obtain ⟨⟨n1, f1, h1⟩, ⟨n2, f2, h2⟩, ⟨n3, f3, h3⟩, ⟨n4, f4, h4⟩, ⟨n5, f5, h5⟩⟩ := h
  exact ⟨⟨n1, f1, h1.fr fo (fun k => hp _ _ (by omega)) (fun k => hp _ _ (by omega))⟩, ⟨n2, f2, h2.fr fo (fun k => hp _ _ (by omega)) (fun k => hp _ _ (by omega))⟩, ⟨n3, f3, h3.fr fo (fun k => hp _ _ (by omega)) (fun k => hp _ _ (by omega))⟩, ⟨n4, f4, h4.fr fo (fun k => hp _ _ (by omega)) (fun k => hp _ _ (by omega))⟩, ⟨n5, f5, h5.fr fo (fun k => hp _ _ (by omega)) (fun k => hp _ _ (by omega))⟩⟩
theorem law_F (hF : FT S) (f : Nat) (x : Int32) : o_rd_readLaw f x S = some ((), S) := by
  unfold o_rd_readLaw o_rd_readLaw_23 o_rd_readLaw_36
  rw [if_neg hF.1, if_pos rfl, tk6 hF, bnq]
/-- what the class touches -/
def fLnw (d line : Nat) : Nat → Nat → Bool := fun a k => fCo a k || fFf (d + 14 + 2 * line) a k || (a == d && k == 12 + line)
theorem fLnw_n {a k : Nat} (h1 : fCo a k = false) (h2 : a ≠ d + 14 + 2 * line) (h3 : a ≠ d + 14 + 2 * line + 4) (h4 : a ≠ d + 14 + 2 * line + 8) (h5 : a ≠ d + 14 + 2 * line + 12) (h6 : ¬ (a = d ∧ k = 12 + line)) : fLnw d line a k = false := by
  unfold fLnw
  rw [h1, fFf_n h2 ⟨h3, h4, h5⟩]
  simp
  omega
theorem fLnw_L (hd : d = 20 ∨ d = 21) (hl : line < 2) (h : Fr (fLnw d line) S S') : Fr (fLo d) S S' := h.mo fun a k q => by
  unfold fLo dcl at q
  simp only [Bool.or_eq_false_iff] at q
  have q2 : ¬ (20 ≤ a ∧ a ≤ 63 ∧ a % 2 = d % 2) := by
    have := q.2
    simp at this
    omega
  exact fLnw_n q.1 (by omega) (by omega) (by omega) (by omega) (by omega)
/-- what the reference touches -/
def fLk (line fr : Nat) : Nat → Nat → Bool := fun a k => fCm a k || (a == 500 && (k == 32 || k == 33)) || (a == 523 && decide (fr ≤ k)) || a == 524 || a == 525 || ((a == 521 || a == 522) && k == 2 + line)
theorem fLk_L (hfr : 1000 ≤ cd) (h : Fr (fLk line cd) S S') : Fr fLm S S' := h.mo fun a k q => by
  unfold fLm at q
  unfold fLk
  simp only [Bool.or_eq_false_iff] at q ⊢
  obtain ⟨⟨⟨⟨q1, q2⟩, q3⟩, q4⟩, q5⟩ := q
  have e : ∀ a' k', (a' = 521 ∧ 2 ≤ k') ∨ (a' = 522 ∧ 2 ≤ k') ∨ (a' = 523 ∧ 1000 ≤ k') → ¬ (a = a' ∧ k = k') := fun a' k' h h' => by
    obtain ⟨rfl, rfl⟩ := h'
    have hz : oc a k = false := by
      unfold oc
      simp
      omega
    rw [hz] at q5
    simp at q5
    omega
  refine ⟨⟨⟨⟨⟨q1, q2⟩, ?_⟩, q3⟩, q4⟩, ?_⟩
  · rw [Bool.and_eq_false_iff]
    by_cases h1 : a = 523
    · refine Or.inr (decide_eq_false fun h2 => e 523 k (by omega) ⟨h1, rfl⟩)
    · exact Or.inl (beq_eq_false_iff_ne.mpr h1)
  · rw [Bool.and_eq_false_iff]
    by_cases h1 : k = 2 + line
    · refine Or.inl (Bool.or_eq_false_iff.mpr ⟨beq_eq_false_iff_ne.mpr fun h2 => e 521 k (by omega) ⟨h2, rfl⟩, beq_eq_false_iff_ne.mpr fun h2 => e 522 k (by omega) ⟨h2, rfl⟩⟩)
    · exact Or.inr (beq_eq_false_iff_ne.mpr h1)
theorem fLk_n {a k : Nat} (h1 : fCm a k = false) (h2 : ¬ (a = 500 ∧ (k = 32 ∨ k = 33))) (h3 : ¬ (a = 523 ∧ cd ≤ k)) (h4 : a ≠ 524 ∧ a ≠ 525) (h5 : ¬ ((a = 521 ∨ a = 522) ∧ k = 2 + line)) : fLk line cd a k = false := by
  unfold fLk
  rw [h1]
  simp
  omega
theorem lawl_ok (hd : d = 20 ∨ d = 21) (hl : line < 2) (h : TK n tx k w b p So Sm) (hk : k ≠ 0) (h0 : rI So 3 7 = 0) (hR : RDS d c T W V b So Sm) : ∃ z So' Sm', (bn (o_rd_openLaw (rI So d (12 + line)) So) fun _ S3 => bn (o_rd_readLaw (d + 14 + 2 * line) (bI (decide (line = 0))) S3) fun _ S5 => lt' (wI S5 d (12 + line) (1 : Int32)) fun S6 => some ((), S6)) = some ((), So') ∧ m_readsLaw (nI line) Sm = some (bI z, Sm') ∧ LEND n tx d b z So' Sm' ∧ Fr (fLo d) So So' ∧ Fr fLm Sm Sm' := by
  have hkd := kd_d hd
  obtain ⟨hD, hO, hT, hL⟩ := id hR
  have hb := hD.2.1
  have hbn := h.1.1
  have hbp := h.2.2.2.1
  have hft : Dft d So := hT.dft
  obtain ⟨cd, hL0, hL1, h32, hcd, hcb⟩ := hL
  have hLl : LWD d line cd So Sm := by
    rcases (show line = 0 ∨ line = 1 by omega) with rfl | rfl
    · exact hL0
    · exact hL1
  unfold m_readsLaw o_rd_openLaw o_rd_openLaw_12
  rw [(show (2 : Int32) + nI line = nI (2 + line) from nI_add 2 line), if_neg (nI_in (show 2 + line < 4 by omega) (by decide)), nI_clamp (show 2 + line < 2 ^ 31 by omega), if_neg (nI_inC (show 2 + line < 4 by omega) (by decide))]
  have told : rI So d (12 + line) = 0 ∧ ¬ rI Sm 521 (2 + line) < rI Sm 522 (2 + line) ∨ rI So d (12 + line) = 1 ∧ rI Sm 521 (2 + line) < rI Sm 522 (2 + line) := by
    rcases hLl with ⟨g1, g2, g3⟩ | ⟨g1, fr, l, cs, g2, g3, g4, g5, g6, g7, g8, g9⟩
    · refine Or.inl ⟨g1, ?_⟩
      rw [g2, g3]
      decide
    · refine Or.inr ⟨g1, ?_⟩
      rw [g3, g4]
      have : 0 < cs.length := List.length_pos_iff.mpr g7
      exact nI_lt (by omega) (by omega)
  rcases told with ⟨y1, y2⟩ | ⟨y1, y2⟩
  rotate_left
  · have hB := bad_of (Sm1 := Sm) h (j := 3) (by decide) (by decide)
    have f1 : Fr fCo So (wI So 3 7 (nI 3 + 16 * nI b)) := Fr.wI rfl
    have f2 : Fr (fLnw d line) So (wI (wI So 3 7 (nI 3 + 16 * nI b)) d (12 + line) 1) := (f1.mo fun a k q => by
      unfold fLnw at q
      simp only [Bool.or_eq_false_iff] at q
      exact q.1.1).tr (Fr.wI (by unfold fLnw; simp))
    have f3 : Fr (fun a k => a == d && k == 12 + line) (wI So 3 7 (nI 3 + 16 * nI b)) (wI (wI So 3 7 (nI 3 + 16 * nI b)) d (12 + line) 1) := Fr.wI (by simp)
    rw [y1, if_neg (by decide), if_pos y2, wr_U h h0, bnq, (show o_tp_step (wI So 3 7 (3 + 16 * nI b)) = _ from st_F hB.1), bnq, bnq, (show o_rd_readLaw _ _ (wI So 3 7 (3 + 16 * nI b)) = _ from law_F hB.1 _ _), bnq, (show ∀ (x : St) (K : St → Re Unit), lt' x K = K x from fun x K => ltq x K), m_fails_ok 3 Sm h.2.2.1.2, bnq, if_pos b0]
    refine ⟨false, _, _, rfl, rfl, Or.inr ⟨rfl, ⟨hB.1.fr f3 (by simp; omega) (by simp; omega), ?_⟩, (hft.fC hd f1).fr2 hd f3 fun a k q => ?_⟩, fLnw_L hd hl f2, fLm_c (Fr.wI rfl)⟩
    · rw [f3.i (by simp; omega)]
      exact hB.2
    · have : a ≠ d := by omega
      simp [this]
  rw [y1, if_pos rfl, if_neg y2, ltq (wI Sm 500 33 _)]
  have h33 : TK n tx k w b p So (wI Sm 500 33 (nI line)) := by
    obtain ⟨g1, g2, g3, g4, g5, g6⟩ := h
    refine ⟨g1.fr (Fr.rf (P := fun _ _ => false)) (Fr.wI rfl : Fr (fun a k => a == 500 && k == 33) Sm _) rfl (fun k => rfl) rfl (fun k => rfl), ⟨g2.1, by rw [rI_wI_k (by decide)]; exact g2.2⟩, ⟨g3.1, by rw [rI_wI_k (by decide)]; exact g3.2⟩, g4, g5, ?_⟩
    unfold KC
    rw [rI_wI_k (show 6 ≠ 33 by decide), rI_wI_k (show 8 ≠ 33 by decide), rJ_wI]
    exact g6
  obtain ⟨k1, w1, b1', p1, S1, M1, e1, e2, e3, e4, e5, e6, e7⟩ := nx_U h33 h0 hk
  have e32 : rI M1 500 32 = nI cd := (e7.i (by rfl)).trans ((rI_wI_k (by decide)).trans h32)
  rw [e1, bnq, bnq, e2, bnq, if_neg (nI_inC (show 2 + line < 4 by omega) (by decide)), e32, ltq (wI M1 521 _ _)]
  have w521 : Fr (fun a k => a == 521 && k == 2 + line) M1 (wI M1 521 (2 + line) (nI cd)) := Fr.wI (by simp)
  have e3' : TK n tx k1 w1 b1' p1 S1 (wI M1 521 (2 + line) (nI cd)) := by
    obtain ⟨g1, g2, g3, g4, g5, g6⟩ := e3
    refine ⟨g1.fr (Fr.rf (P := fun _ _ => false)) w521 rfl (fun k => rfl) rfl (fun k => rfl), ⟨g2.1, by rw [rI_wI_a (by decide)]; exact g2.2⟩, ⟨g3.1, by rw [rI_wI_a (by decide)]; exact g3.2⟩, g4, g5, ?_⟩
    unfold KC
    rw [rI_wI_a (show 500 ≠ 521 by decide), rI_wI_a (show 500 ≠ 521 by decide), rJ_wI]
    exact g6
  obtain ⟨z, S2, M2, r1, r2, r3, r4, r5⟩ := law_ok (f := d + 14 + 2 * line) (fr := cd) (by omega) (fk_all _ (by omega) (by omega)) hl e3' e4 (by rw [rI_wI_a (by decide), e7.i (by rfl), rI_wI]) (by rw [rI_wI_a (by decide)]; exact e32) (by omega)
  rw [r1, bnq, (show ∀ (x : St) (K : St → Re Unit), lt' x K = K x from fun x K => ltq x K), r2, bnq]
  have fo2 : Fr (fLnw d line) So S2 := ((fCo_To e6).mo fun a k q => by
    unfold fLnw at q
    simp only [Bool.or_eq_false_iff] at q
    exact q.1.1).tr (r3.mo fun a k q => by
    unfold fLnw at q
    simp only [Bool.or_eq_false_iff] at q
    obtain ⟨⟨q1, q2⟩, q3⟩ := q
    unfold fRo
    rw [fCo_T q1, q2]
    unfold fCo at q1
    simp at q1 ⊢
    omega)
  have f3 : Fr (fun a k => a == d && k == 12 + line) S2 (wI S2 d (12 + line) 1) := Fr.wI (by simp)
  have fo3 : Fr (fLnw d line) So (wI S2 d (12 + line) 1) := fo2.tr (Fr.wI (by unfold fLnw; simp))
  have fm2 : Fr (fLk line cd) Sm M2 := (((Fr.wI (by unfold fLk; simp) : Fr (fLk line cd) Sm (wI Sm 500 33 (nI line))).tr ((fCm_Tm e7).mo fun a k q => by
    unfold fLk at q
    simp only [Bool.or_eq_false_iff] at q
    exact q.1.1.1.1.1)).tr (Fr.wI (by unfold fLk; simp))).tr (r4.mo fun a k q => by
    unfold fLk at q
    simp only [Bool.or_eq_false_iff] at q
    obtain ⟨⟨⟨⟨⟨q1, q2⟩, q3⟩, q4⟩, q5⟩, q6⟩ := q
    unfold fRm
    rw [fCm_T q1, q3, q4, q5]
    unfold fCm at q1
    simp at q1 q2 ⊢
    omega)
  rcases r5 with ⟨rfl, l, cs, k2, w2, b2, p2, t1, t2, t3, t4, t5, t6, t7, t8⟩ | ⟨rfl, t1, t2, t3⟩
  rotate_left
  · rw [if_pos bF]
    have hB : BAD S2 M2 := ⟨⟨t1, t3⟩, t2⟩
    refine ⟨false, _, _, rfl, rfl, Or.inr ⟨rfl, ⟨hB.1.fr f3 (by simp; omega) (by simp; omega), ?_⟩, hft.fr2 hd fo3 fun a k q => ?_⟩, fLnw_L hd hl fo3, fLk_L hcd fm2⟩
    · rw [f3.i (by simp; omega)]
      exact hB.2
    · exact fLnw_n (fCo_n (by omega)) (by omega) (by omega) (by omega) (by omega) (by omega)
  rw [if_neg bT, if_neg (nI_inC (show 2 + line < 4 by omega) (by decide)), t3.1, ltq (wI M2 522 _ _)]
  have fm3 : Fr (fLk line cd) Sm (wI M2 522 (2 + line) (nI (cd + cs.length))) := fm2.tr (Fr.wI (by unfold fLk; simp))
  have f4 : Fr (fun a k => a == 522 && k == 2 + line) M2 (wI M2 522 (2 + line) (nI (cd + cs.length))) := Fr.wI (by simp)
  have hTK : TK n tx k2 w2 b2 p2 (wI S2 d (12 + line) 1) (wI M2 522 (2 + line) (nI (cd + cs.length))) := by
    obtain ⟨g1, g2, g3, g4, g5, g6⟩ := t1
    have e : ∀ j, rI (wI S2 d (12 + line) 1) 3 j = rI S2 3 j := fun j => rI_wI_a (by omega)
    refine ⟨g1.fr f3 f4 (by simp; omega) (fun k => by simp; omega) rfl (fun k => rfl), ⟨(e 2).trans g2.1, by rw [rI_wI_a (by decide)]; exact g2.2⟩, ⟨(e 3).trans g3.1, by rw [rI_wI_a (by decide)]; exact g3.2⟩, g4, g5, ?_⟩
    unfold KC
    rw [rI_wI_a (show 500 ≠ 522 by decide), rI_wI_a (show 500 ≠ 522 by decide), rJ_wI, e 4, rJ_wI]
    exact g6
  have nfo : ∀ a k, (22 ≤ a ∧ a ≤ 29) ∨ (100 ≤ a ∧ a ≤ 139) → fLnw d line a k = false := fun a k q => fLnw_n (fCo_n (by omega)) (by omega) (by omega) (by omega) (by omega) (by omega)
  have new : LWD d line (cd + cs.length) (wI S2 d (12 + line) 1) (wI M2 522 (2 + line) (nI (cd + cs.length))) := by
    refine Or.inr ⟨rI_wI, cd, l, cs, t2.fr f3 (by simp; omega) (fun k => by simp; omega) (fun k => by simp; omega), ?_, rI_wI, fun i hi => ?_, t4, t6, hcd, Nat.le_refl _⟩
    · rw [rI_wI_a (by decide), r4.i (by unfold fRm fTm; simp), rI_wI]
    · rw [rI_wI_a (by decide)]
      exact t3.2 i hi
  have old : ∀ e, e < 2 → e ≠ line → LWD d e cd So Sm → LWD d e (cd + cs.length) (wI S2 d (12 + line) 1) (wI M2 522 (2 + line) (nI (cd + cs.length))) := fun e he hne hh => hh.fr he hd fo3 fm3 (fLnw_n (fCo_n (by omega)) (by omega) (by omega) (by omega) (by omega) (by omega)) ⟨fLnw_n (fCo_n (by omega)) (by omega) (by omega) (by omega) (by omega) (by omega), fun k => ⟨fLnw_n (fCo_n (by omega)) (by omega) (by omega) (by omega) (by omega) (by omega), fLnw_n (fCo_n (by omega)) (by omega) (by omega) (by omega) (by omega) (by omega)⟩⟩ ⟨fLk_n (fCm_n (by omega)) (by omega) (by omega) (by omega) (by omega), fLk_n (fCm_n (by omega)) (by omega) (by omega) (by omega) (by omega), fun k hk => fLk_n (fCm_n (by omega)) (by omega) (by omega) (by omega) (by omega)⟩ (by omega)
  have hl2 : LWD d 0 (cd + cs.length) (wI S2 d (12 + line) 1) (wI M2 522 (2 + line) (nI (cd + cs.length))) ∧ LWD d 1 (cd + cs.length) (wI S2 d (12 + line) 1) (wI M2 522 (2 + line) (nI (cd + cs.length))) := by
    rcases (show line = 0 ∨ line = 1 by omega) with rfl | rfl
    · exact ⟨new, old 1 (by decide) (by decide) hL1⟩
    · exact ⟨old 0 (by decide) (by decide) hL0, new⟩
  refine ⟨true, _, _, rfl, rfl, Or.inl ⟨rfl, c, T, W, V, k2, w2, b2, p2, hTK, ?_, by omega, hD, hO.fr fm3 fun a k q1 q2 => fLk_n (fCm_d q1 q2) (by omega) (by omega) (by omega) (by omega), hT.fr2 fo3 nfo hd, cd + cs.length, hl2.1, hl2.2, ?_, by omega, t8⟩, fLnw_L hd hl fo3, fLk_L hcd fm3⟩
  · rw [f3.i (by simp; omega)]
    exact t5
  · rw [rI_wI_a (by decide)]
    exact t3.1
theorem readNear_ok (hd : d = 20 ∨ d = 21) (h : TK n tx k w b p So Sm) (hk : k ≠ 0) (h0 : rI So 3 7 = 0) (hR : RDS d c T W V b So Sm) : ∃ z So' Sm', o_rd_readNear d So = some ((), So') ∧ m_readsLaw 0 Sm = some (bI z, Sm') ∧ LEND n tx d b z So' Sm' ∧ Fr (fLo d) So So' ∧ Fr fLm Sm Sm' := by
  obtain ⟨z, So', Sm', h1, h2, h3⟩ := lawl_ok (line := 0) hd (by decide) h hk h0 hR
  refine ⟨z, So', Sm', ?_, h2, h3⟩
  unfold o_rd_readNear
  rw [if_pos (kd_d hd)]
  exact h1
theorem readValue_ok (hd : d = 20 ∨ d = 21) (h : TK n tx k w b p So Sm) (hk : k ≠ 0) (h0 : rI So 3 7 = 0) (hR : RDS d c T W V b So Sm) : ∃ z So' Sm', o_rd_readValue d So = some ((), So') ∧ m_readsLaw 1 Sm = some (bI z, Sm') ∧ LEND n tx d b z So' Sm' ∧ Fr (fLo d) So So' ∧ Fr fLm Sm Sm' := by
  obtain ⟨z, So', Sm', h1, h2, h3⟩ := lawl_ok (line := 1) hd (by decide) h hk h0 hR
  refine ⟨z, So', Sm', ?_, h2, h3⟩
  unfold o_rd_readValue
  rw [if_pos (kd_d hd)]
  exact h1
end LAWL
