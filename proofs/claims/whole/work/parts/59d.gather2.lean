section GATHER2
variable {T : St} {W V : Nat → List Nat} {L : Int32 → Int32 → Int32} {v d u a : Nat} {Z Z1 Z2 : Nat → Int32} {So So' Sm Sm' S : St}
theorem ga_out (hw : WF T W V) (hz : WZ T Z) : ∀ (j p m : Nat) (l : List (Int32 × Int32 × Int32)) (S : St), TD v T W V L S → SD 200 Z (ct T 0) S → GA l S → p + j = ct T 2 → j < m → ∃ S', o_se_gather_7 m v 200 (nI p) S = some ((), S') ∧ GA ((allL T W p j).foldl (gst T Z) l) S' ∧ Fr fGa S S'
  | 0, p, m, l, S, hT, hs, hl, hk, hm => by
    have hn := hw.b
    obtain ⟨m, rfl, hm⟩ := fuel hm
    rw [Nat.add_zero] at hk
    subst hk
    refine ⟨S, ?_, hl, Fr.rf⟩
    rw [o_se_gather_7, if_pos hT.k, if_pos hT.pe.k, tb_size hT.pe, bnq, if_neg (nI_nlt (Nat.le_refl _) (by omega))]
    rfl
  | j + 1, p, m, l, S, hT, hs, hl, hk, hm => by
    have hn := hw.b
    obtain ⟨m, rfl, hm⟩ := fuel hm
    have hpl : p < ct T 2 := by omega
    have hpe := hw.pe hpl
    have h7 : vN T 513 p < 7 := hpe.2.1.2
    obtain ⟨S1, a1, a2, a3⟩ := ga_in (v := v) (V := V) (L := L) hw hz hpl (o_se_gather_7 m) (ct T 1) 0 FU l S hT hs hl (Nat.zero_add _) (by unfold FU; omega)
    obtain ⟨S', e1, e2, e3⟩ := ga_out hw hz j (p + 1) m _ S1 (hT.fr a3 fun a k q => by unfold ton at q; exact fGa_n (by omega) (by omega)) (hs.frw a3 (fun k => fGa_n (by decide) (by decide)) (fun k => fGa_n (by decide) (by decide))) a2 (by omega) (by omega)
    refine ⟨S', ?_, by rw [allL, List.foldl_append]; exact e2, a3.tr e3⟩
    rw [o_se_gather_7, if_pos hT.k, if_pos hT.pe.k, tb_size hT.pe, bnq, if_pos (nI_lt (by omega) (by omega)), to_laneOf hT hpl, bnq, to_loudOf hT hpl, bnq, hpe.1.1, hpe.2.1.1, to_within hw hT hpe.1.2 (by omega), bnq, to_laneOf hT hpl, bnq, to_loudOf hT hpl, bnq, hpe.1.1, hpe.2.1.1, show (2 : Int32) * nI (vN T 513 p) = nI (2 * vN T 513 p) by rw [show (2 : Int32) = nI 2 from rfl, nI_mul], to_within hw hT hpe.1.2 (by omega), bnq, (show o_se_gather_55 (o_se_gather_7 m) FU v 200 (nI p) _ _ 0 S = _ from a1)]
    unfold o_se_gather_117
    rw [ltq, nI_1]
    exact e1
/-- the class's calls: the reference's, but once each that are heard alike -/
def GL (T : St) (W : Nat → List Nat) (Z : Nat → Int32) : List (Int32 × Int32 × Int32) := (CL T W).foldl (gst T Z) []
theorem gather_ok (hw : WF T W V) (hz : WZ T Z) (hT : TD v T W V L S) (hs : SD 200 Z (ct T 0) S) : ∃ S', o_se_gather v 200 S = some ((), S') ∧ GA (GL T W Z) S' ∧ Fr fGa S S' := by
  have hn := hw.b
  have f0 : Fr fGa S (wI S 5 9 0) := Fr.wI rfl
  obtain ⟨S', e1, e2, e3⟩ := ga_out (v := v) (V := V) (L := L) hw hz (ct T 2) 0 FU [] (wI S 5 9 0) (hT.fr f0 fun a k q => by unfold ton at q; exact fGa_n (by omega) (by omega)) (hs.frw f0 (fun k => fGa_n (by decide) (by decide)) (fun k => fGa_n (by decide) (by decide))) ⟨rI_wI, Nat.zero_le _, fun i hi => absurd hi (Nat.not_lt_zero _)⟩ (Nat.zero_add _) (by unfold FU; omega)
  refine ⟨S', ?_, e2, f0.tr e3⟩
  unfold o_se_gather
  rw [ltq]
  exact e1
/-- what is in the list comes of a call; and each call that hears of something that hangs has its like in the list -/
theorem gad_mem {l : List (Int32 × Int32 × Int32)} {x y : Int32 × Int32 × Int32} (h : y ∈ gad l x) : y ∈ l ∨ (y = x ∧ ¬ x.2.1 = 0) := by
  unfold gad at h
  by_cases q : x.2.1 = 0
  · rw [if_pos q] at h
    exact Or.inl h
  · rw [if_neg q] at h
    by_cases q2 : l.length < 80
    · rw [if_pos q2] at h
      cases ha : l.any (gpr x.1 x.2.1) with
      | true => rw [ha] at h; exact Or.inl h
      | false =>
        rw [ha, cond_false, List.mem_append, List.mem_singleton] at h
        rcases h with h | h
        · exact Or.inl h
        · exact Or.inr ⟨h, q⟩
    · rw [if_neg q2] at h
      exact Or.inl h
theorem gad_len (l : List (Int32 × Int32 × Int32)) (x : Int32 × Int32 × Int32) : (gad l x).length ≤ l.length + 1 ∧ ∃ r, gad l x = l ++ r := by
  unfold gad
  by_cases q : x.2.1 = 0
  · rw [if_pos q]
    exact ⟨by omega, [], (List.append_nil _).symm⟩
  · rw [if_neg q]
    by_cases q2 : l.length < 80
    · rw [if_pos q2]
      cases l.any (gpr x.1 x.2.1) with
      | true => exact ⟨by rw [cond_true]; omega, [], by rw [cond_true]; exact (List.append_nil _).symm⟩
      | false => exact ⟨by rw [cond_false, List.length_append]; exact Nat.le_refl _, [x], rfl⟩
    · rw [if_neg q2]
      exact ⟨by omega, [], (List.append_nil _).symm⟩
theorem gad_has {l : List (Int32 × Int32 × Int32)} {x : Int32 × Int32 × Int32} (hl : l.length < 80) (h : ¬ x.2.1 = 0) : ∃ y, y ∈ gad l x ∧ y.1 = x.1 ∧ y.2.1 = x.2.1 := by
  unfold gad
  rw [if_neg h, if_pos hl]
  cases ha : l.any (gpr x.1 x.2.1) with
  | true =>
    rw [List.any_eq_true] at ha
    obtain ⟨y, h1, h2⟩ := ha
    unfold gpr at h2
    rw [Bool.and_eq_true, decide_eq_true_eq, decide_eq_true_eq] at h2
    exact ⟨y, h1, h2.1, h2.2⟩
  | false => exact ⟨x, by rw [cond_false]; exact List.mem_append_right _ (List.mem_singleton.mpr rfl), rfl, rfl⟩
end GATHER2
