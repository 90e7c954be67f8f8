/-! The reference's reads: worth, what a call is heard by, what falls. -/
def frV : Nat → Nat → Bool := fun a _ => decide (526 ≤ a) && decide (a ≤ 535)
def frH : Nat → Nat → Bool := fun a k => a == 500 && (k == 70 || k == 71 || k == 72)
theorem frV_o {a k : Nat} (h : (502 ≤ a ∧ a ≤ 523) ∨ (536 ≤ a ∧ a ≤ 539)) : frV a k = false := by
  unfold frV
  simp
  omega
theorem frH_o {a k : Nat} (h : (502 ≤ a ∧ a ≤ 523) ∨ (536 ≤ a ∧ a ≤ 539)) : frH a k = false := by
  unfold frH
  have : (a == 500) = false := by simp; omega
  rw [this]
  rfl
theorem frE_V {a k : Nat} (h : frV a k = false) : frEA a k = false := by
  unfold frV at h
  unfold frEA
  simp at h ⊢
  omega
section MQ
variable {T : St} {W V : Nat → List Nat} {L : Int32 → Int32 → Int32} {Z : Nat → Int32} {S : St}
theorem m_btw (x : Int32) (S : St) : m_between x 0 999 S = some (clp x, S) := by
  unfold m_between m_between_19 clp
  by_cases h1 : x < 0
  · rw [if_pos h1, if_pos h1]
  · rw [if_neg h1, if_neg h1]
    by_cases h2 : (999 : Int32) < x
    · rw [if_pos h2, if_pos h2]
    · rw [if_neg h2, if_neg h2]
theorem m_valueOn_ok (hw : WF T W V) (hL : LawV T L) (hO : OM T S) {a : Nat} (ha : a < ct T 0) (day : Int32) : ∃ S', m_valueOn (nI a) day S = some (vlA T L a day, S') ∧ Fr frV S S' := by
  have hb := hw.b.1
  have hp := hw.ap ha
  have g1 : ¬ (nI a < 0 ∨ 20 ≤ (nI a).toNatClampNeg) := nI_in (by omega) (by omega)
  have g2 : ¬ ((1 : Int32) < 0 ∨ 4 ≤ (1 : Int32).toNatClampNeg) := by decide
  have g3 : ¬ ((5 : Int32) < 0 ∨ 20 ≤ (5 : Int32).toNatClampNeg) := by decide
  have g4 : ¬ ((6 : Int32) < 0 ∨ 20 ≤ (6 : Int32).toNatClampNeg) := by decide
  unfold m_valueOn
  rw [if_neg g1]
  simp only [ltq]
  rw [if_neg g2, if_neg g2, nI_clamp (show a < 2 ^ 31 by omega), c1, hO.ri (show a < 10 by omega), hO.lt (show 1 < 2 by decide), hO.lf (show 1 < 2 by decide)]
  rcases hL with ⟨h1, h2⟩ | ⟨h1, fr, cs, h2, h3, h4, h5, h6⟩
  · refine ⟨S, ?_, Fr.rf⟩
    rw [if_pos h1]
    unfold m_valueOn_38 vlA
    have e := hp.2.2.2.2.2.1
    rw [e, h2 _ _ hp.2.2.2.2.2.2]
    by_cases q : day - rI T 509 a < 0
    · rw [if_pos q, if_pos q]
    · rw [if_neg q, if_neg q, if_neg (nI_inC (by omega) (by omega)), hO.wo (show a < 10 by omega), e]
  · rw [if_neg h1, if_neg (nI_inC (by omega) (by omega)), if_neg g3, c5, if_neg g4, c6, hO.wo (show a < 10 by omega)]
    obtain ⟨f, v, e1, e2⟩ := h6 (fun k => rI (wI (wI S 535 5 (rI T 510 a)) 535 6 (day - rI T 509 a)) 535 k)
    have f1 : Fr frV S (wI (wI S 535 5 (rI T 510 a)) 535 6 (day - rI T 509 a)) := (Fr.wI (by decide)).tr (Fr.wI (by decide))
    have hO' := hO.fr f1 fun a k q => frV_o q
    have hW : WK 1 fr cs (fun k => rI (wI (wI S 535 5 (rI T 510 a)) 535 6 (day - rI T 509 a)) 535 k) (wI (wI S 535 5 (rI T 510 a)) 535 6 (day - rI T 509 a)) := ⟨by decide, (hO'.lf (by decide)).trans h2, (hO'.lt (by decide)).trans h3, by omega, fun i hi => ⟨(hO'.cd (by omega)).trans (h5 i hi).1, (h5 i hi).2⟩, fun c _ => rfl⟩
    obtain ⟨S', d1, d2⟩ := m_worked_ok hW e1
    refine ⟨S', ?_, f1.tr (d2.mo fun a k q => frE_V q)⟩
    have d1' : m_worked (1 : Int32) (wI (wI S 535 5 (rI T 510 a)) 535 6 (day - rI T 509 a)) = some (fullV f v, S') := d1
    rw [d1', bnq, m_btw, bnq, e2]
    simp only [rI_wI, rI_wI_k (show (5 : Nat) ≠ 6 by decide)]
    rfl
/-- the standing's cells -/
def SM (Z : Nat → Int32) (S : St) : Prop := ∀ k, k < 15 → rI S 553 k = Z k
theorem SM.fr {S' : St} {P : Nat → Nat → Bool} (h : SM Z S) (hf : Fr P S S') (hp : ∀ k, P 553 k = false) : SM Z S' := fun k hk => (hf.i (hp k)).trans (h k hk)
theorem m_sl_ok (hw : WF T W V) (hz : WZ T Z) (hO : OM T S) (hS : SM Z S) {c a : Nat} (hc : c < ct T 1) (ha : a < ct T 0) : m_soundsLike (nI c) (nI a) S = some (bI (slk T Z c a), S) := by
  have hb := hw.b
  have hp := (hw.ap ha).2.1
  have hs := hz.2.2.2.2 a ha
  have g1 : ¬ (nI a < 0 ∨ 20 ≤ (nI a).toNatClampNeg) := nI_in (by omega) (by omega)
  have e5 : (5 : Int32) + nI a = nI (5 + a) := nI_add 5 a
  unfold m_soundsLike m_soundsLike_48 slk
  rw [if_neg g1, nI_clamp (show a < 2 ^ 31 by omega), hO.so (show a < 10 by omega), hp.1, e5, nI_clamp (show 5 + a < 2 ^ 31 by omega), hS (5 + a) (by omega), hs.1]
  by_cases q : vN T 506 a = 1
  · rw [if_pos q, if_pos (by rw [q]; rfl), if_neg (nI_inC (by omega) (by omega))]
    by_cases q2 : c = zs Z a
    · rw [if_pos (by rw [q2]), if_pos b1, decide_eq_true q2]
      rfl
    · rw [if_neg (fun e => q2 (nI_ofs e (by omega) (by omega))), if_pos b0, decide_eq_false q2]
      rfl
  · rw [if_neg q, if_neg (show ¬ nI (vN T 506 a) = 1 from nI_ne (b := 1) q (by have := hp.2; omega) (by omega)), if_neg (nI_inC (by omega) (by omega))]
    have e16 : (16 : Int32) * nI c + nI (zs Z a) = nI (16 * c + zs Z a) := by
      rw [show (16 : Int32) = nI 16 from rfl, nI_mul, nI_add]
    obtain ⟨-, -, -, b, hbb⟩ := hw.nr hc hs.2
    rw [e16, if_neg (nI_in (by omega) (by omega)), nI_clamp (by omega), hO.nr, hbb, if_pos (bI_bo b)]
    cases b <;> rfl
theorem m_away_ok (a l : Nat) (ha : a < 2 ^ 31) (hl : l < 2 ^ 31) (S : St) : m_away (nI a) (nI l) S = some (nI (if a < l then l - a else a - l), S) := by
  unfold m_away m_away_14
  by_cases q : a < l
  · rw [if_pos (nI_lt q hl), if_pos q, nI_sub (by omega)]
  · rw [if_neg (nI_nlt (by omega) ha), if_neg q, nI_sub (by omega)]
theorem g0_12 : ¬ ((0 : Int32) < 0 ∨ 12 ≤ (0 : Int32).toNatClampNeg) := by decide
theorem m_hears_loop (hw : WF T W V) (hz : WZ T Z) {c l w : Nat} (hc : c < ct T 1) (hl : l < 12) (hww : w < 7) : ∀ (j k m : Nat) (S : St), OM T S → SM Z S → k + j = ct T 0 → j < m → rI S 500 70 = mk k (whB T Z c l w) → rI S 500 71 = mk k (ecB T Z c l w) → ∃ S', m_hears_13 m (nI c) (nI l) (nI w) (nI k) S = some ((), S') ∧ Fr frH S S' ∧ rI S' 500 70 = whM T Z c l w ∧ rI S' 500 71 = ecM T Z c l w := by
  have hb := hw.b
  intro j
  induction j with
  | zero =>
    intro k m S hO hS hk hm h0 h1
    obtain ⟨m, rfl, hm⟩ := fuel hm
    rw [Nat.add_zero] at hk
    subst hk
    refine ⟨S, ?_, Fr.rf, h0, h1⟩
    rw [m_hears_13, if_neg g0_12, c0, hO.n (by decide), hw.n (by decide), if_neg (nI_nlt (Nat.le_refl _) (by omega))]
    rfl
  | succ j ih =>
    intro k m S hO hS hk hm h0 h1
    obtain ⟨m, rfl, hm⟩ := fuel hm
    have hka : k < ct T 0 := by omega
    have hp := hw.ap hka
    have e104 : ∀ S1, m_hears_104 (m_hears_13 m) (nI c) (nI l) (nI w) (nI k) S1 = m_hears_13 m (nI c) (nI l) (nI w) (nI (k + 1)) S1 := fun S1 => by
      unfold m_hears_104
      rw [ltq, nI_1]
    -- what comes of the rest
    have go : ∀ S1, Fr frH S S1 → rI S1 500 70 = mk (k + 1) (whB T Z c l w) → rI S1 500 71 = mk (k + 1) (ecB T Z c l w) → ∃ S', m_hears_13 m (nI c) (nI l) (nI w) (nI (k + 1)) S1 = some ((), S') ∧ Fr frH S S' ∧ rI S' 500 70 = whM T Z c l w ∧ rI S' 500 71 = ecM T Z c l w := by
      intro S1 f1 q0 q1
      obtain ⟨S', d1, d2, d3, d4⟩ := ih (k + 1) m S1 (hO.fr f1 fun a k q => frH_o q) (hS.fr f1 fun k => rfl) (by omega) (by omega) q0 q1
      exact ⟨S', d1, f1.tr d2, d3, d4⟩
    have no : mnt T Z c k = false → ∃ S', m_hears_13 m (nI c) (nI l) (nI w) (nI (k + 1)) S = some ((), S') ∧ Fr frH S S' ∧ rI S' 500 70 = whM T Z c l w ∧ rI S' 500 71 = ecM T Z c l w := by
      intro hn
      refine go S Fr.rf ?_ ?_
      · rw [mk, h0]
        unfold whB
        rw [hn]
        exact (Int32.or_zero).symm
      · rw [mk, h1]
        unfold ecB
        rw [hn]
        exact (Int32.or_zero).symm
    rw [m_hears_13, if_neg g0_12, c0, hO.n (by decide), hw.n (by decide), if_pos (nI_lt hka (by omega)), if_neg (nI_in (by omega) (by omega)), nI_clamp (by omega), hO.so (by omega), hp.2.1.1]
    by_cases q3 : vN T 506 k = 3
    · rw [if_pos (by rw [q3]; rfl), e104]
      exact no (by unfold mnt; rw [decide_eq_true q3]; rfl)
    · rw [if_neg (show ¬ nI (vN T 506 k) = 3 from nI_ne (b := 3) q3 (by have := hp.2.1.2; omega) (by omega)), m_sl_ok hw hz hO hS hc hka, bnq]
      cases qs : slk T Z c k with
      | false =>
        rw [if_pos bF, e104]
        exact no (by unfold mnt; rw [qs, Bool.and_false])
      | true =>
        have hm1 : mnt T Z c k = true := by
          unfold mnt
          rw [qs, decide_eq_false q3]
          rfl
        rw [if_neg bT, if_neg (nI_inC (by omega) (by omega)), hO.ro (by omega), hp.2.2.2.1.1, m_away_ok _ _ (by have := hp.2.2.2.1.2; omega) (by omega), bnq]
        have haw : (if vN T 508 k < l then l - vN T 508 k else vN T 508 k - l) = awy T k l := rfl
        rw [haw]
        have hab : awy T k l < 12 := by
          have := hp.2.2.2.1.2
          unfold awy
          split <;> omega
        have e2w : (2 : Int32) * nI w = nI (2 * w) := by
          rw [show (2 : Int32) = nI 2 from rfl, nI_mul]
        rw [e2w]
        by_cases q1 : awy T k l ≤ w
        · rw [if_neg (nI_nlt q1 (by omega)), ltq, e104]
          refine go _ (Fr.wI (by decide)) ?_ ?_
          · rw [rI_wI, h0, mk]
            unfold whB
            rw [hm1, decide_eq_true q1]
            rfl
          · rw [rI_wI_k (by decide), h1, mk]
            unfold ecB
            rw [hm1, decide_eq_true q1]
            exact (Int32.or_zero).symm
        · rw [if_pos (nI_lt (by omega) (by omega))]
          by_cases q2 : awy T k l ≤ 2 * w
          · rw [if_neg (nI_nlt q2 (by omega)), ltq, e104]
            refine go _ (Fr.wI (by decide)) ?_ ?_
            · rw [rI_wI_k (by decide), h0, mk]
              unfold whB
              rw [hm1, decide_eq_false q1]
              exact (Int32.or_zero).symm
            · rw [rI_wI, h1, mk]
              unfold ecB
              rw [hm1, decide_eq_false q1, decide_eq_true q2]
              rfl
          · rw [if_pos (nI_lt (by omega) (by omega)), e104]
            refine go S Fr.rf ?_ ?_
            · rw [h0, mk]
              unfold whB
              rw [hm1, decide_eq_false q1]
              exact (Int32.or_zero).symm
            · rw [h1, mk]
              unfold ecB
              rw [hm1, decide_eq_false q1, decide_eq_false q2]
              exact (Int32.or_zero).symm
theorem m_hears_ok (hw : WF T W V) (hz : WZ T Z) (hO : OM T S) (hS : SM Z S) {c l w : Nat} (hc : c < ct T 1) (hl : l < 12) (hww : w < 7) : ∃ S', m_hears (nI c) (nI l) (nI w) S = some ((), S') ∧ Fr frH S S' ∧ rI S' 500 70 = whM T Z c l w ∧ rI S' 500 71 = ecM T Z c l w := by
  have hb := hw.b
  have f1 : Fr frH S (wI (wI S 500 70 0) 500 71 0) := (Fr.wI (by decide)).tr (Fr.wI (by decide))
  obtain ⟨S', d1, d2, d3, d4⟩ := m_hears_loop hw hz hc hl hww (ct T 0) 0 FU _ (hO.fr f1 fun a k q => frH_o q) (hS.fr f1 fun k => rfl) (Nat.zero_add _) (by unfold FU; omega) (by rw [rI_wI_k (by decide), rI_wI]; rfl) (by rw [rI_wI]; rfl)
  refine ⟨S', ?_, f1.tr d2, d3, d4⟩
  unfold m_hears
  rw [ltq, ltq]
  exact d1
theorem m_srt_loop (hw : WF T W V) (hO : OM T S) : ∀ (j k m : Nat), k + j = ct T 0 → j < m → m_welsh_4 m (mk k fun a => decide (vN T 506 a = 2)) (nI k) S = some (srt T 2, S)
  | 0, k, m, hk, hm => by
    have hb := hw.b
    obtain ⟨m, rfl, hm⟩ := fuel hm
    rw [Nat.add_zero] at hk
    subst hk
    rw [m_welsh_4, if_neg g0_12, c0, hO.n (by decide), hw.n (by decide), if_neg (nI_nlt (Nat.le_refl _) (by omega))]
    rfl
  | j + 1, k, m, hk, hm => by
    have hb := hw.b
    obtain ⟨m, rfl, hm⟩ := fuel hm
    have hka : k < ct T 0 := by omega
    have hp := (hw.ap hka).2.1
    rw [m_welsh_4, if_neg g0_12, c0, hO.n (by decide), hw.n (by decide), if_pos (nI_lt hka (by omega)), if_neg (nI_in (by omega) (by omega)), nI_clamp (by omega), hO.so (by omega), hp.1]
    unfold m_welsh_32
    rw [ltq, ltq, ltq, ltq, nI_1]
    have ih := m_srt_loop hw hO j (k + 1) m (by omega) (by omega)
    rw [mk] at ih
    by_cases q : vN T 506 k = 2
    · rw [if_pos (by rw [q]; rfl)]
      rw [decide_eq_true q] at ih
      exact ih
    · rw [if_neg (show ¬ nI (vN T 506 k) = 2 from nI_ne (b := 2) q (by have := hp.2; omega) (by omega))]
      rw [decide_eq_false q] at ih
      exact ih
theorem m_welsh_ok (hw : WF T W V) (hO : OM T S) : m_welsh S = some (srt T 2, S) := by
  have hb := hw.b
  exact m_srt_loop hw hO (ct T 0) 0 FU (Nat.zero_add _) (by unfold FU; omega)
end MQ
