/-! A new orchard on both sides: the op, when it is read. -/
section ORCH3
variable {n p b k i s s' bz j a v d q : Nat} {T T' T0 So Sm S S' S1 M1 So' Sm' : St} {P Q : Nat → Nat → Bool} {c c' : Nat → Nat} {W V W0 V0 : Nat → List Nat} {L L0 : Int32 → Int32 → Int32} {Z : Nat → Int32}
/-- the class, behind the reading -/
def oK (S : St) (r2 : Int32) : Re Int32 :=
  if r2 = 0 then (
    oq (rQ S 1 9) none fun o4 =>
    oq (rQ S 1 10) none fun o5 =>
    lt' (wQ S 1 9 (some o5)) fun S6 =>
    lt' (wQ S6 1 10 (some o4)) fun S7 =>
    oq (rQ S7 1 9) none fun o8 =>
    bn (o_sa_begin 70 o8 S7) fun _ S10 =>
    lt' (wI S10 1 11 (0 : Int32)) fun S11 =>
    lt' (wI S11 1 12 (0 : Int32)) fun S12 =>
    o_orchard_55 r2 S12)
  else (
    o_orchard_55 r2 S)
/-- the reference, behind the reading -/
def mK (S : St) : Re Int32 :=
    bn (m_lays S) fun _ S5 =>
    bn (m_fresh S5) fun _ S7 =>
    if (0 : Int32) < 0 ∨ 6 ≤ (0 : Int32).toNatClampNeg then none else
    lt' (wI S7 543 (0 : Int32).toNatClampNeg (0 : Int32)) fun S8 =>
    if (0 : Int32) < 0 ∨ 5 ≤ (0 : Int32).toNatClampNeg then none else
    lt' (wI S8 547 (0 : Int32).toNatClampNeg (0 : Int32)) fun S9 =>
    if (0 : Int32) < 0 ∨ 5 ≤ (0 : Int32).toNatClampNeg then none else
    lt' (wI S9 548 (0 : Int32).toNatClampNeg (0 : Int32)) fun S10 =>
    if (0 : Int32) < 0 ∨ 5 ≤ (0 : Int32).toNatClampNeg then none else
    lt' (wI S10 549 (0 : Int32).toNatClampNeg (0 : Int32)) fun S11 =>
    lt' (wI S11 500 69 (0 : Int32)) fun S12 =>
    m_orchard_60 FU (0 : Int32) S12
theorem sa_new (hw : WF T W V) (hT : TD d T W V L S) {m : Nat} {y1 y2 : Nat → Nat → Int32} (h1 : TB 111 40 3 n y1 S) (h2 : TB 116 12 3 m y2 S) : ∃ S', o_sa_begin 70 d S = some ((), S') ∧ SD 200 (freshZ T) (ct T 0) S' ∧ (∀ g, TB 111 40 3 0 g S') ∧ (∀ g, TB 116 12 3 0 g S') ∧ rI S' 70 3 = 0 ∧ rI S' 70 4 = 0 ∧ Fr (fun a _ => frU 200 a 0 || a == 111 || a == 116 || a == 70) S S' := by
  obtain ⟨S1, a1, a2, a3⟩ := sd_begin hw hT (u := 200) (Nat.le_refl _) ⟨rfl, rfl⟩
  have f1 : Fr (fun a _ => frU 200 a 0 || a == 111 || a == 116 || a == 70) S S1 := a3.mo fun a k q => by
    simp only [Bool.or_eq_false_iff] at q
    exact q.1.1.1
  have g1 := h1.fr a3 (fun k => rfl) (fun k => rfl)
  have g2 := h2.fr a3 (fun k => rfl) (fun k => rfl)
  have c1' := fun g => tb_clear g1 g
  have g3 : TB 116 12 3 m y2 (wI S1 111 3 0) := g2.fr (Fr.wI rfl : Fr (fun a _ => a == 111) S1 _) (fun k => rfl) (fun k => rfl)
  have c2' := fun g => tb_clear g3 g
  unfold o_sa_begin
  rw [if_pos (show KO.1 70 = (0, 6) from rfl), if_pos (show KO.1 (70 + 130) = (0, 5) from rfl), (show o_sd_begin (70 + 130) d S = _ from a1), bnq, if_pos (show KO.1 (70 + 41) = (0, 7) from rfl), (show o_tb_clear (70 + 41) S1 = _ from (c1' (fun _ _ => 0)).1), bnq, if_pos (show KO.1 (70 + 46) = (0, 7) from rfl), (show o_tb_clear (70 + 46) (wI S1 111 3 0) = _ from (c2' (fun _ _ => 0)).1), bnq, ltq (wI (wI (wI S1 111 3 0) 116 3 0) 70 3 0), ltq (wI (wI (wI (wI S1 111 3 0) 116 3 0) 70 3 0) 70 4 0)]
  have fz : Fr (fun a _ => a == 111 || a == 116 || a == 70) S1 (wI (wI (wI (wI S1 111 3 0) 116 3 0) 70 3 0) 70 4 0) := (((Fr.wI rfl).tr (Fr.wI rfl)).tr (Fr.wI rfl)).tr (Fr.wI rfl)
  have fy : Fr (fun a _ => a == 116 || a == 70) (wI S1 111 3 0) (wI (wI (wI (wI S1 111 3 0) 116 3 0) 70 3 0) 70 4 0) := ((Fr.wI rfl).tr (Fr.wI rfl)).tr (Fr.wI rfl)
  have fx : Fr (fun a _ => a == 70) (wI (wI S1 111 3 0) 116 3 0) (wI (wI (wI (wI S1 111 3 0) 116 3 0) 70 3 0) 70 4 0) := (Fr.wI rfl).tr (Fr.wI rfl)
  refine ⟨_, rfl, a2.frw fz (fun k => rfl) (fun k => rfl), fun g => (c1' g).2.fr fy (fun k => rfl) (fun k => rfl), fun g => (c2' g).2.fr fx (fun k => rfl) (fun k => rfl), ?_, rI_wI, f1.tr (fz.mo fun a k q => ?_)⟩
  · rw [rI_wI_k (by decide), rI_wI]
  · simp only [Bool.or_eq_false_iff] at q ⊢
    exact ⟨⟨q.1.1.2, q.1.2⟩, q.2⟩
end ORCH3
