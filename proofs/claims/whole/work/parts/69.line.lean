/-! Reading days: a line's end. -/
section DLINE
variable {n p b k i d s s' bz j a v m q : Nat} {w : List Nat} {tx : Nat → Int32} {T T' So Sm S S' So' Sm' : St} {P Q : Nat → Nat → Bool} {W V : Nat → List Nat} {L : Int32 → Int32 → Int32} {f : Nat → Nat → Int32}
def fDo : Nat → Nat → Bool := fun a k => fCo a k || a == 110 || a == 140
def fDa : Nat → Nat → Bool := fun a k => fCm a k || (a == 543 && k == 5) || ((decide (544 ≤ a) && decide (a ≤ 546)) && (decide (200 ≤ k) && decide (k < 240)))
theorem fDo_c (h : Fr fCo S S') : Fr fDo S S' := h.mo fun a k q => by
  unfold fDo at q
  simp only [Bool.or_eq_false_iff] at q
  exact q.1.1
theorem fDa_c (h : Fr fCm S S') : Fr fDa S S' := h.mo fun a k q => by
  unfold fDa at q
  simp only [Bool.or_eq_false_iff] at q
  exact q.1.1
theorem fDo_n {a k : Nat} (h : a ≠ 3) (h1 : a ≠ 110 ∧ a ≠ 140) : fDo a k = false := by
  unfold fDo
  rw [fCo_n (Or.inl h), beq_eq_false_iff_ne.mpr h1.1, beq_eq_false_iff_ne.mpr h1.2]
  rfl
theorem fDa_n {a k : Nat} (h : a ≠ 500) (h1 : ¬ (543 ≤ a ∧ a ≤ 546)) : fDa a k = false := by
  unfold fDa
  rw [fCm_n (Or.inl h)]
  simp
  omega
theorem Told.dy (h : Told T W V L v So Sm) (fo : Fr fDo So So') (fm : Fr fDa Sm Sm') : Told T W V L v So' Sm' := h.fr fo fm (fun a k q => fDo_n (by unfold ton at q; omega) (by unfold ton at q; omega)) (fDo_n (by decide) (by decide)) (fun a k q => fDa_n (by omega) (by omega))
theorem TK.m5 (h : TK n tx k w b p So Sm) (f : Fr P Sm Sm') (hp : ∀ k, P 500 k = false ∧ P 501 k = false) : TK n tx k w b p So Sm' := by
  obtain ⟨g1, g2, g3, g4, g5, g6⟩ := h
  have e : ∀ j, rI Sm' 500 j = rI Sm 500 j := fun j => f.i (hp j).1
  have e' : ∀ j, rJ Sm' 500 j = rJ Sm 500 j := fun j => f.j (hp j).1
  refine ⟨g1.fr (Fr.rf (P := fun _ _ => false)) f rfl (fun k => rfl) (hp 3).1 (fun k => (hp k).2), ⟨g2.1, (e 4).trans g2.2⟩, ⟨g3.1, (e 5).trans g3.2⟩, g4, g5, ?_⟩
  unfold KC
  rw [e 6, e 8, e' 7]
  exact g6
/-- one row, on both sides -/
def LR (T : St) (x y z : Int32) (i : Nat) (S : St) : Prop := (x = 0 ∧ rI S 544 i = 2) ∨ (x = 1 ∧ rI S 544 i = 0 ∧ rI S 545 i = y ∧ rI S 546 i = z ∧ (∃ p, p < ct T 2 ∧ y = nI p) ∧ ∃ k, k < ct T 1 ∧ z = nI k) ∨ (x = 2 ∧ rI S 544 i = 1 ∧ rI S 546 i = y ∧ ∃ a, a < ct T 0 ∧ y = nI a)
/-- between two lines -/
def DYS (T : St) (W V : Nat → List Nat) (L : Int32 → Int32 → Int32) (v m : Nat) (f : Nat → Nat → Int32) (So Sm : St) : Prop := Told T W V L v So Sm ∧ m ≤ 40 ∧ TB 110 40 3 m f So ∧ LnV T m f ∧ LnM 5 m f Sm
/-- how a line of days ends -/
def DEND (n : Nat) (tx : Nat → Int32) (T : St) (W V : Nat → List Nat) (L : Int32 → Int32 → Int32) (v b : Nat) (z : Bool) (So' Sm' : St) : Prop := (z = true ∧ ∃ m f k w b' p, TK n tx k w b' p So' Sm' ∧ rI So' 3 7 = 0 ∧ b < b' ∧ DYS T W V L v m f So' Sm') ∨ (z = false ∧ BAD So' Sm' ∧ ∃ m f, TB 110 40 3 m f So')
theorem dl_tail (h : TK n tx k w b p So Sm) (h0 : rI So 3 7 = 0) (hD : DYS T W V L v m f So Sm) (hm : m < 40) {x y z : Int32} (hR : LR T x y z (200 + m) Sm) (hbz : bz ≤ b) : ∃ z' So' Sm', o_rd_readLine_120 x y z So = some ((), So') ∧ m_readsLine_196 Sm = some (bI z', Sm') ∧ DEND n tx T W V L v bz z' So' Sm' ∧ Fr fDo So So' ∧ Fr fDa Sm Sm' := by
  obtain ⟨h1, h2, h3, h4, h5, h6⟩ := hD
  have f1 : Fr (fun a k => a == 543 && k == 5) Sm (wI Sm 543 5 (nI (m + 1))) := Fr.wI rfl
  have fa1 : Fr fDa Sm (wI Sm 543 5 (nI (m + 1))) := Fr.wI rfl
  obtain ⟨zz, S1, M1, a1, a2, a3, a4, a5⟩ := close_U (h.m5 f1 fun k => ⟨rfl, rfl⟩) h0
  unfold o_rd_readLine_120 m_readsLine_196 o_rd_readLine_181
  rw [a1, bnq, if_neg (show ¬ ((5 : Int32) < 0 ∨ 6 ≤ (5 : Int32).toNatClampNeg) by decide), if_neg (show ¬ ((5 : Int32) < 0 ∨ 6 ≤ (5 : Int32).toNatClampNeg) by decide), c5, h5, nI_1, ltq (wI Sm 543 5 _), a2, bnq, if_pos (bI_bo zz)]
  rcases a3 with ⟨rfl, k', w', b', p', t1, t2, t3⟩ | ⟨rfl, hB⟩
  · have h3' := h3.fr a4 (fun k => fCo_n (by omega)) (fun k => fCo_n (by omega))
    obtain ⟨S2, y1, y2, y3⟩ := row3 h3' hm x y z (Y := fun S10 => some ((), S10))
    rw [if_pos t2, y1]
    have fo : Fr fDo So S2 := (fDo_c a4).tr (y3.mo fun a k q => by
      unfold fDo at q
      simp only [Bool.or_eq_false_iff] at q ⊢
      exact ⟨q.1.2, q.2⟩)
    have e3 : ∀ j, rI S2 3 j = rI S1 3 j := fun j => y3.i rfl
    have hT2 : TK n tx k' w' b' p' S2 M1 := by
      obtain ⟨g1, g2, g3, g4, g5, g6⟩ := t1
      refine ⟨g1.fr y3 (Fr.rf (P := fun _ _ => false)) rfl (fun k => rfl) rfl (fun k => rfl), ⟨(e3 2).trans g2.1, g2.2⟩, ⟨(e3 3).trans g3.1, g3.2⟩, g4, (y3.q rfl).trans g5, ?_⟩
      unfold KC
      rw [e3 4, (y3.j rfl : rJ S2 3 5 = rJ S1 3 5)]
      exact g6
    have em : ∀ a j, 543 ≤ a → rI M1 a j = rI (wI Sm 543 5 (nI (m + 1))) a j := fun a j q => a5.i (fCm_n (by omega))
    refine ⟨true, S2, M1, rfl, rfl, Or.inl ⟨rfl, m + 1, _, k', w', b', p', hT2, (e3 7).trans t2, by omega, h1.dy fo (fa1.tr (fDa_c a5)), hm, y2, fun i hi => ?_, ?_, fun i hi => ?_⟩, fo, fa1.tr (fDa_c a5)⟩
    · show (if i = m then (if 0 = 0 then x else if 0 = 1 then y else z) else f i 0) = 0 ∨ _
      by_cases q : i = m
      · rw [if_pos q, if_pos rfl]
        simp only [q, if_true]
        rcases hR with ⟨r1, _⟩ | ⟨r1, _, _, _, r2, r3⟩ | ⟨r1, _, _, r2⟩
        · exact Or.inl r1
        · exact Or.inr (Or.inl ⟨r1, r2, r3⟩)
        · exact Or.inr (Or.inr ⟨r1, r2⟩)
      · rw [if_neg q]
        simp only [q, if_false]
        exact h4 i (by omega)
    · rw [em _ _ (by decide), rI_wI]
    · rw [em 544 _ (by decide), em 545 _ (by decide), em 546 _ (by decide), rI_wI_a (show 544 ≠ 543 by decide), rI_wI_a (show 545 ≠ 543 by decide), rI_wI_a (show 546 ≠ 543 by decide)]
      by_cases q : i = m
      · simp only [q, if_true]
        rcases hR with ⟨r1, r2⟩ | ⟨r1, r2, r3, r4, _⟩ | ⟨r1, r2, r3, _⟩
        · exact Or.inl ⟨r1, r2⟩
        · exact Or.inr (Or.inl ⟨r1, r2, r3, r4⟩)
        · exact Or.inr (Or.inr ⟨r1, r2, r3⟩)
      · simp only [q, if_false]
        exact h6 i (by omega)
  · rw [if_neg hB.1.1]
    exact ⟨false, S1, M1, rfl, rfl, Or.inr ⟨rfl, hB, m, f, h3.fr a4 (fun k => fCo_n (by omega)) (fun k => fCo_n (by omega))⟩, fDo_c a4, fa1.tr (fDa_c a5)⟩
/-- the names of the orchard that is told -/
theorem Told.sn (h : Told T W V L v So Sm) : SNm 0 (ct T 1) W Sm ∧ PNm 0 (ct T 2) V Sm ∧ ANm 0 (ct T 0) (fun a => vN T 505 a) Sm := by
  obtain ⟨hW, hO, _⟩ := h
  have hb := hW.b
  refine ⟨⟨(hO.n (k := 1) (by decide)).trans (hW.n (by decide)), by omega, fun k hk => ?_⟩, ⟨(hO.n (k := 2) (by decide)).trans (hW.n (by decide)), by omega, fun k hk => ?_⟩, ⟨(hO.n (k := 0) (by decide)).trans (hW.n (by decide)), by omega, fun k hk => ?_⟩⟩
  · rw [show 16 * 0 + k = k by omega]
    exact ⟨(hO.sw (by omega)).trans (hW.w hk).2, (hW.w hk).1⟩
  · rw [show 5 * 0 + k = k by omega]
    exact ⟨(hO.pw (by omega)).trans (hW.p hk).2, (hW.p hk).1⟩
  · rw [show 10 * 0 + k = k by omega]
    have := (hW.ap hk).1
    exact ⟨(hO.sd (by omega)).trans this.1, by have := this.2; show vN T 505 k < 16; omega⟩
end DLINE
