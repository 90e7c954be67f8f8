/-! What can be undone is kept, on both sides. -/
def PU : Nat → Nat → Bool := fun a k => (a == 1 && k == 11) || a == 19 || (decide (206 ≤ a) && decide (a ≤ 221)) || (decide (236 ≤ a) && decide (a ≤ 251))
def QU : Nat → Nat → Bool := fun a k => (a == 500 && k == 69) || a == 556
theorem PU_of {a k : Nat} (h : a ≠ 1 ∨ k ≠ 11) (h2 : a ≠ 19) (h3 : ¬ (206 ≤ a ∧ a ≤ 221)) (h4 : ¬ (236 ≤ a ∧ a ≤ 251)) : PU a k = false := by
  unfold PU
  simp
  omega
theorem QU_of {a k : Nat} (h : a ≠ 500 ∨ k ≠ 69) (h2 : a ≠ 556) : QU a k = false := by
  unfold QU
  simp
  omega
theorem PU_19 {a k : Nat} (h : PU a k = false) : (a == 19) = false := by
  unfold PU at h
  simp only [Bool.or_eq_false_iff] at h
  exact h.1.1.2
theorem PU_11 {a k : Nat} (h : PU a k = false) : (a == 1 && k == 11) = false := by
  unfold PU at h
  simp only [Bool.or_eq_false_iff] at h
  exact h.1.1.1
theorem PU_U {a k j : Nat} (hj : j < 16) (h : PU a k = false) : frU (206 + j) a k = false := by
  unfold PU at h
  unfold frU
  simp at h ⊢
  omega
theorem k206 : ∀ j, j < 16 → KO.1 (206 + j) = (0, 5) ∧ KO.1 (206 + j + 30) = (1, 10) := by decide +kernel
section UND
variable {T : St} {W V : Nat → List Nat} {L : Int32 → Int32 → Int32} {v d : Nat} {Z : Nat → Int32} {So Sm : St}
theorem ku_rot {e : Nat → Nat} (hb : ∀ i, i < 16 → e i < 16) : ∀ (j i m : Nat) (S : St), i + j = 16 → 1 ≤ i → j < m → (∀ k, i ≤ k → k < 16 → rQ S 19 k = some (206 + e k)) → (∀ k, k + 1 < i → rQ S 19 k = some (206 + e (k + 1))) → ∃ S', o_keepForUndo_21 m (206 + e 0) (nI i) S = o_keepForUndo_74 S' ∧ (∀ k, k < 15 → rQ S' 19 k = some (206 + e (k + 1))) ∧ rQ S' 19 15 = some (206 + e 0) ∧ rI S' 1 11 = 15 ∧ Fr (fun a k => a == 19 || (a == 1 && k == 11)) S S'
  | 0, i, m, S, hi, h1, hm, h, h' => by
    obtain ⟨m, rfl, hm⟩ := fuel hm
    obtain rfl : i = 16 := by omega
    refine ⟨wI (wQ S 19 15 (some (206 + e 0))) 1 11 15, ?_, fun k hk => ?_, ?_, rI_wI, (Fr.wQ (by decide)).tr (Fr.wI (by decide))⟩
    · rw [o_keepForUndo_21, if_neg (by decide)]
      unfold o_keepForUndo_50
      rw [if_pos (Or.inr (Or.inr ⟨rfl, (k206 _ (hb 0 (by decide))).1⟩)), if_neg (by decide), ltq, ltq]
      rfl
    · rw [rQ_wI, rQ_wQ_k (by omega), h' k (by omega)]
    · rw [rQ_wI, rQ_wQ]
  | j + 1, i, m, S, hi, h1, hm, h, h' => by
    obtain ⟨m, rfl, hm⟩ := fuel hm
    obtain ⟨S', d1, d2, d3, d4, d5⟩ := ku_rot hb j (i + 1) m (wQ S 19 (i - 1) (some (206 + e i))) (by omega) (by omega) (by omega) (fun k q1 q2 => by rw [rQ_wQ_k (by omega), h k (by omega) q2]) (fun k q => by
      by_cases q2 : k = i - 1
      · rw [q2, rQ_wQ, show i - 1 + 1 = i by omega]
      · rw [rQ_wQ_k q2, h' k (by omega)])
    refine ⟨S', ?_, d2, d3, d4, (Fr.wQ (by simp)).tr d5⟩
    rw [o_keepForUndo_21, show (16 : Int32) = nI 16 from rfl, if_pos (nI_lt (by omega) (by omega)), if_neg (nI_in (by omega) (by omega)), nI_clamp (by omega), oq2 (h i (Nat.le_refl _) (by omega)), if_pos (Or.inr (Or.inr ⟨rfl, (k206 _ (hb i (by omega))).1⟩)), show (1 : Int32) = nI 1 from rfl, nI_sub h1, if_neg (nI_in (by omega) (by omega)), nI_clamp (by omega), ltq, ltq, nI_add]
    exact d1
theorem m_rot : ∀ (j i m : Nat) (S : St), i + j = 225 → j < m → ∃ S', m_keeps_11 m (nI i) S = m_keeps_39 S' ∧ (∀ k, i ≤ k → k < 225 → rI S' 556 k = rI S 556 (k + 15)) ∧ (∀ k, k < i → rI S' 556 k = rI S 556 k) ∧ Fr (fun a _ => a == 556) S S'
  | 0, i, m, S, hi, hm => by
    obtain ⟨m, rfl, hm⟩ := fuel hm
    obtain rfl : i = 225 := by omega
    refine ⟨S, ?_, fun k q1 q2 => by omega, fun _ _ => rfl, Fr.rf⟩
    rw [m_keeps_11, show (225 : Int32) = nI 225 from rfl, if_neg (nI_nlt (Nat.le_refl _) (by omega))]
  | j + 1, i, m, S, hi, hm => by
    obtain ⟨m, rfl, hm⟩ := fuel hm
    obtain ⟨S', d1, d2, d3, d4⟩ := m_rot j (i + 1) m (wI S 556 i (rI S 556 (i + 15))) (by omega) (by omega)
    refine ⟨S', ?_, fun k q1 q2 => ?_, fun k q => ?_, (Fr.wI (by simp)).tr d4⟩
    · rw [m_keeps_11, show (225 : Int32) = nI 225 from rfl, if_pos (nI_lt (by omega) (by omega)), show (15 : Int32) = nI 15 from rfl, nI_add, if_neg (nI_in (by omega) (by omega)), if_neg (nI_in (by omega) (by omega)), nI_clamp (by omega), nI_clamp (by omega), ltq, ltq, nI_1]
      exact d1
    · by_cases q : k = i
      · rw [q, d3 i (by omega), rI_wI]
      · rw [d2 k (by omega) q2, rI_wI_k (by omega)]
    · rw [d3 k (by omega), rI_wI_k (by omega)]
/-- the last step of both: the standing goes into row d -/
theorem keep_in (hn : ct T 0 ≤ 10) (hz : Now T Z So Sm) {e : Nat → Nat} {Y : Nat → Nat → Int32} (hd : d < 16) (u1 : rI So 1 11 = nI d) (u2 : rI Sm 500 69 = nI d) (he : ∀ i, i < 16 → rQ So 19 i = some (206 + e i) ∧ e i < 16) (hi : ∀ i j, i < 16 → j < 16 → e i = e j → i = j) (hY : ∀ i, i < d → SD (206 + e i) (Y i) (ct T 0) So ∧ WZ T (Y i) ∧ ∀ k, k < 15 → rI Sm 556 (15 * i + k) = Y i k) : ∃ So' Sm', o_keepForUndo_74 So = some ((), So') ∧ m_keeps_49 Sm = some ((), Sm') ∧ Und T (d + 1) So' Sm' ∧ Fr PU So So' ∧ Fr QU Sm Sm' := by
  have hed := (he d hd).2
  obtain ⟨S1, a1, a2, a3⟩ := sd_copy (k206 _ hed) hz.1 hn (by omega) (by omega) (by omega) hz.2.2.2.2.2.1
  obtain ⟨S2, b1, b2, b3, b4⟩ := m_copies_ok (v0 := 553) (v2 := 556) (a := 0) (b := 15 * d) (n0 := 15) (n2 := 240) rfl rfl (by omega) (by omega) (by omega) (by omega) (by decide) Sm
  have f3 : Fr PU So S1 := a3.mo fun a k q => PU_U hed q
  have r11 : rI S1 1 11 = nI d := by
    rw [a3.i (frU_n (by omega) (by omega))]
    exact u1
  have r69 : rI S2 500 69 = nI d := (b4.i rfl).trans u2
  refine ⟨wI S1 1 11 (nI (d + 1)), wI S2 500 69 (nI (d + 1)), ?_, ?_, ⟨by omega, rI_wI, rI_wI, e, fun i hi => ⟨?_, (he i hi).2⟩, hi, fun i => if i = d then Z else Y i, fun i hid => ?_⟩, f3.tr (Fr.wI (by decide)), (b4.mo fun a k q => (Bool.or_eq_false_iff.mp q).2).tr (Fr.wI (by decide))⟩
  · unfold o_keepForUndo_74 o_keepForUndo_106 o_keepForUndo_132
    rw [u1, if_neg (nI_pos (by omega)), show (16 : Int32) = nI 16 from rfl, if_pos (nI_lt hd (by omega)), if_neg (nI_in hd (by omega)), nI_clamp (by omega), oq2 (he d hd).1, oq2 rfl, if_pos (k206 _ hed).1, a1, bnq, r11, ltq, nI_1]
  · unfold m_keeps_49
    rw [u2, show (15 : Int32) * nI d = nI (15 * d) by rw [show (15 : Int32) = nI 15 from rfl, nI_mul], show (0 : Int32) = nI 0 from rfl, b1, bnq, r69, ltq, nI_1]
  · rw [rQ_wI, a3.q (frU_n (by omega) (by omega))]
    exact (he i hi).1
  · have fx : Fr (fun a k => a == 1 && k == 11) S1 (wI S1 1 11 (nI (d + 1))) := Fr.wI (by decide)
    have fy : Fr (fun a k => a == 500 && k == 69) S2 (wI S2 500 69 (nI (d + 1))) := Fr.wI (by decide)
    have np : ∀ x k : Nat, x ≠ 1 → (x == 1 && k == 11) = false := fun x k q => by
      rw [beq_eq_false_iff_ne.mpr q]
      rfl
    by_cases q : i = d
    · subst q
      simp only [eq_self, ifT]
      refine ⟨a2.frw fx (fun k => np _ _ (by omega)) (fun k => np _ _ (by omega)), hz.2.2, fun k hk => ?_⟩
      rw [rI_wI_a (by decide), b2 k hk, Nat.zero_add, hz.2.1 k hk]
    · simp only [if_neg q]
      have hei := (he i (by omega)).2
      have hne : e i ≠ e d := fun qq => q (hi i d (by omega) hd qq)
      obtain ⟨y1, y2, y3⟩ := hY i (by omega)
      refine ⟨(y1.frw a3 (fun k => frU_n (by omega) (by omega)) (fun k => frU_n (by omega) (by omega))).frw fx (fun k => np _ _ (by omega)) (fun k => np _ _ (by omega)), y2, fun k hk => ?_⟩
      rw [rI_wI_a (by decide), b3 _ (Or.inl (by omega)), y3 k hk]
theorem keep_ok (hn : ct T 0 ≤ 10) (hz : Now T Z So Sm) (hu : Und T d So Sm) : ∃ So' Sm' d', o_keepForUndo So = some ((), So') ∧ m_keeps Sm = some ((), Sm') ∧ Und T d' So' Sm' ∧ Fr PU So So' ∧ Fr QU Sm Sm' := by
  obtain ⟨hd, u1, u2, e, he, hi, Y, hY⟩ := hu
  unfold o_keepForUndo m_keeps
  rw [u1, u2, show (16 : Int32) = nI 16 from rfl]
  by_cases q : d < 16
  · obtain ⟨So', Sm', a1, a2, a3, a4, a5⟩ := keep_in hn hz q u1 u2 he hi hY
    refine ⟨So', Sm', d + 1, ?_, ?_, a3, a4, a5⟩
    · rw [if_pos (nI_lt q (by omega))]
      exact a1
    · rw [if_neg (nI_ne (by omega) (by omega) (by omega))]
      exact a2
  · obtain rfl : d = 16 := by omega
    obtain ⟨S1, b1, b2, b3, b4, b5⟩ := ku_rot (fun i hi => (he i hi).2) 15 1 FU So rfl (Nat.le_refl _) (by unfold FU; omega) (fun k _ q2 => (he k q2).1) (fun k q => by omega)
    obtain ⟨S2, c1', c2', c3', c4'⟩ := m_rot 225 0 FU Sm rfl (by unfold FU; omega)
    have g1 : Fr PU So S1 := b5.mo fun a k q => by
      show (a == 19 || (a == 1 && k == 11)) = false
      rw [PU_19 q, PU_11 q]
      rfl
    have g2 : Fr QU Sm (wI S2 500 69 (nI 15)) := (c4'.mo fun a k q => (Bool.or_eq_false_iff.mp q).2).tr (Fr.wI (by decide))
    have nw : Now T Z S1 (wI S2 500 69 (nI 15)) := hz.fr g1 g2 (fun k => ⟨PU_of (by omega) (by omega) (by omega) (by omega), PU_of (by omega) (by omega) (by omega) (by omega)⟩) (fun k => QU_of (by omega) (by omega))
    have np : ∀ x k : Nat, x ≠ 1 → x ≠ 19 → (x == 19 || (x == 1 && k == 11)) = false := fun x k q q' => by
      rw [beq_eq_false_iff_ne.mpr q, beq_eq_false_iff_ne.mpr q']
      rfl
    obtain ⟨So', Sm', a1, a2, a3, a4, a5⟩ := keep_in (d := 15) (e := fun i => if i = 15 then e 0 else e (i + 1)) (Y := fun i => Y (i + 1)) hn nw (by decide) b4 rI_wI (fun i hi => by
        by_cases q : i = 15
        · subst q
          simp only [eq_self, ifT]
          exact ⟨b3, (he 0 (by decide)).2⟩
        · simp only [if_neg q]
          exact ⟨b2 i (by omega), (he (i + 1) (by omega)).2⟩) (fun i j h1 h2 h3 => by
        by_cases q1 : i = 15
        · by_cases q2 : j = 15
          · rw [q1, q2]
          · simp only [if_pos q1, if_neg q2] at h3
            have := hi 0 (j + 1) (by decide) (by omega) h3
            omega
        · by_cases q2 : j = 15
          · simp only [if_neg q1, if_pos q2] at h3
            have := hi (i + 1) 0 (by omega) (by decide) h3
            omega
          · simp only [if_neg q1, if_neg q2] at h3
            have := hi (i + 1) (j + 1) (by omega) (by omega) h3
            omega) (fun i hi15 => by
        simp only [if_neg (show ¬ i = 15 by omega)]
        obtain ⟨y1, y2, y3⟩ := hY (i + 1) (by omega)
        have hei := (he (i + 1) (by omega)).2
        refine ⟨y1.frw b5 (fun k => np _ _ (by omega) (by omega)) (fun k => np _ _ (by omega) (by omega)), y2, fun k hk => ?_⟩
        rw [rI_wI_a (by decide), c2' _ (Nat.zero_le _) (by omega), show 15 * i + k + 15 = 15 * (i + 1) + k by omega, y3 k hk])
    refine ⟨So', Sm', 16, ?_, ?_, a3, g1.tr a4, g2.tr a5⟩
    · rw [if_neg (nI_nlt (Nat.le_refl _) (by omega)), if_neg (by decide), c0, oq2 (he 0 (by decide)).1, show (1 : Int32) = nI 1 from rfl, b1]
      exact a1
    · rw [if_pos rfl, show (0 : Int32) = nI 0 from rfl, c1']
      unfold m_keeps_39
      rw [c4'.i (by decide), u2, ltq, show (1 : Int32) = nI 1 from rfl, nI_sub (by decide)]
      exact a2
end UND
