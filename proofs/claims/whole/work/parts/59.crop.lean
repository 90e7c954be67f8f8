/-! Crop: the reference's side. -/
section CROP
variable {T : St} {W V : Nat → List Nat} {L : Int32 → Int32 → Int32} {v d u a : Nat} {Z Z1 Z2 : Nat → Int32} {So So' Sm Sm' S : St}
/-- what is heard wholly, and by half, of a call -/
def cwh (T : St) (Z : Nat → Int32) (x : Nat × Nat) : Int32 := whM T Z x.2 (vN T 512 x.1) (vN T 513 x.1)
def cec (T : St) (Z : Nat → Int32) (x : Nat × Nat) : Int32 := ecM T Z x.2 (vN T 512 x.1) (vN T 513 x.1)
/-- what a call wins, and what follows it -/
def cva (T : St) (Z : Nat → Int32) (L : Int32 → Int32 → Int32) (g : Int32 → Int32 → Int32) (dd : Nat) (h s : Int32) (x : Nat × Nat) : Int32 := vlS T L (flA T h s (cwh T Z x) (cec T Z x)) (Z 2 + nI dd) + g (h &&& (flA T h s (cwh T Z x) (cec T Z x) ^^^ (-1))) (lsT T h s (cwh T Z x) (cec T Z x))
def cvs (T : St) (Z : Nat → Int32) (L : Int32 → Int32 → Int32) (g : Int32 → Int32 → Int32) (dd : Nat) (h s : Int32) (b : Int32) (x : Nat × Nat) : Int32 := if h &&& (cwh T Z x ||| cec T Z x) = 0 then b else if b < cva T Z L g dd h s x then cva T Z L g dd h s x else b
/-- the most that can be won in so many days -/
def gN (T : St) (Z : Nat → Int32) (L : Int32 → Int32 → Int32) (l : List (Nat × Nat)) : Nat → Nat → Int32 → Int32 → Int32
  | 0, _, _, _ => 0
  | r + 1, dd, h, s => l.foldl (cvs T Z L (gN T Z L l r (dd + 1)) dd h s) (gN T Z L l r (dd + 1) h s)
/-- the values by days, in the reference's row -/
def WR (T : St) (Z : Nat → Int32) (L : Int32 → Int32 → Int32) (S : St) : Prop := ∀ dd a, dd < 3 → a < ct T 0 → rI S 561 (10 * dd + a) = vlA T L a (Z 2 + nI dd)
theorem WR.fr {P : Nat → Nat → Bool} (h : WR T Z L S) (f : Fr P S So) (h1 : ∀ k, P 561 k = false) : WR T Z L So := fun dd a h2 h3 => (f.i (h1 _)).trans (h dd a h2 h3)
theorem x10 (i j : Nat) : (10 : Int32) * nI i + nI j = nI (10 * i + j) := by
  rw [show (10 : Int32) = nI 10 from rfl, nI_mul, nI_add]
theorem cw_loop (hw : WF T W V) (hO : OM T S) (hW : WR T Z L S) {dd : Nat} (hd : dd < 3) (x : Int32) : ∀ (j k m : Nat), k + j = ct T 0 → j < m → m_cropWorth_5 m x (nI dd) (sm k fun a => bif tb x a then vlA T L a (Z 2 + nI dd) else 0) (nI k) S = some (vlS T L x (Z 2 + nI dd), S)
  | 0, k, m, hk, hm => by
    have hn := hw.b
    obtain ⟨m, rfl, hm⟩ := fuel hm
    rw [Nat.add_zero] at hk
    subst hk
    rw [m_cropWorth_5, if_neg g0_12, c0, hO.n (by decide), hw.n (by decide), if_neg (nI_nlt (Nat.le_refl _) (by omega))]
    rfl
  | j + 1, k, m, hk, hm => by
    have hn := hw.b
    obtain ⟨m, rfl, hm⟩ := fuel hm
    have ih := cw_loop hw hO hW hd x j (k + 1) m (by omega) (by omega)
    rw [sm] at ih
    rw [m_cropWorth_5, if_neg g0_12, c0, hO.n (by decide), hw.n (by decide), if_pos (nI_lt (by omega) (by omega))]
    unfold m_cropWorth_43
    cases ht : tb x k with
    | false =>
      rw [ht, cond_false] at ih
      rw [if_neg (fun q => by rw [sr_eq _ (by omega), ht] at q; cases q), ltq, ltq, nI_1]
      exact ih
    | true =>
      rw [ht, cond_true] at ih
      rw [if_pos ((sr_eq _ (by omega)).mpr ht), x10, if_neg (nI_in (by omega) (by omega)), nI_clamp (by omega), hW dd k hd (by omega), ltq, ltq, nI_1]
      exact ih
theorem m_cropWorth_ok (hw : WF T W V) (hO : OM T S) (hW : WR T Z L S) {dd : Nat} (hd : dd < 3) (x : Int32) : m_cropWorth x (nI dd) S = some (vlS T L x (Z 2 + nI dd), S) :=
  cw_loop hw hO hW hd x (ct T 0) 0 FU (Nat.zero_add _) (by have := hw.b; unfold FU; omega)
theorem frL_o {a k : Nat} (h : a ≠ 500) : frL a k = false := by
  unfold frL
  rw [beq_eq_false_iff_ne.mpr h]
  rfl
/-- the row of values is filled -/
theorem wr_fill (hw : WF T W V) (hL : LawV T L) (v1 v2 : Int32) : ∀ (j i m : Nat) (S : St), OM T S → SM Z S → i + j = 30 → j < m → (∀ dd a, a < ct T 0 → 10 * dd + a < i → rI S 561 (10 * dd + a) = vlA T L a (Z 2 + nI dd)) → ∃ S', m_crop_32 m v1 v2 (nI i) S = m_crop_84 v1 v2 S' ∧ WR T Z L S' ∧ Fr (fun a k => frV a k || a == 561) S S'
  | 0, i, m, S, hO, hS, hi, hm, h => by
    have hn := hw.b
    obtain ⟨m, rfl, hm⟩ := fuel hm
    obtain rfl : i = 30 := by omega
    refine ⟨S, ?_, fun dd a h1 h2 => h dd a h2 (by omega), Fr.rf⟩
    rw [m_crop_32, if_neg (by decide)]
  | j + 1, i, m, S, hO, hS, hi, hm, h => by
    have hn := hw.b
    obtain ⟨m, rfl, hm⟩ := fuel hm
    have ediv : nI i / 10 = nI (i / 10) := by rw [show (10 : Int32) = nI 10 from rfl, nI_div (by omega) (by decide)]
    have emod : nI i - nI i / 10 * 10 = nI (i % 10) := by
      rw [ediv, show (10 : Int32) = nI 10 from rfl, nI_mul, nI_sub (by omega)]
      congr 1
      omega
    have fin : ∀ (S1 : St) (x : Int32), Fr frV S S1 → (∀ a, a < ct T 0 → a = i % 10 → x = vlA T L a (Z 2 + nI (i / 10))) → ∃ S', m_crop_77 (m_crop_32 m) v1 v2 (nI i) x (nI i) S1 = m_crop_84 v1 v2 S' ∧ WR T Z L S' ∧ Fr (fun a k => frV a k || a == 561) S S' := by
      intro S1 x f1 hx
      have f2 : Fr (fun a k => frV a k || a == 561) S (wI S1 561 i x) := (f1.mo fun a k q => (Bool.or_eq_false_iff.mp q).1).tr (Fr.wI rfl)
      have fn : ∀ a k : Nat, (a < 526 ∨ 535 < a) → a ≠ 561 → (frV a k || a == 561) = false := fun a k q q2 => by
        unfold frV
        simp
        omega
      obtain ⟨S', e1, e2, e3⟩ := wr_fill hw hL v1 v2 j (i + 1) m (wI S1 561 i x) (hO.fr f2 fun a k q => fn _ _ (by omega) (by omega)) (hS.fr f2 fun k => rfl) (by omega) (by omega) (fun dd a h1 h2 => by
        by_cases q : 10 * dd + a = i
        · rw [q, rI_wI, hx a h1 (by omega), show i / 10 = dd by omega]
        · rw [rI_wI_k q, f1.i (by rfl)]
          exact h dd a h1 (by omega))
      refine ⟨S', ?_, e2, f2.tr e3⟩
      unfold m_crop_77
      rw [if_neg (nI_in (by omega) (by omega)), nI_clamp (by omega), ltq, ltq, nI_1]
      exact e1
    rw [m_crop_32, if_pos (show nI i < 30 from nI_lt (b := 30) (by omega) (by decide)), emod, m_isApple_ok hw hO, bnq, inN_nI (by omega) (by omega)]
    by_cases q : i % 10 < ct T 0
    · obtain ⟨S1, a1, a2⟩ := m_valueOn_ok hw hL hO q (Z 2 + nI (i / 10))
      obtain ⟨S', e1, e2, e3⟩ := fin S1 _ a2 (fun a h1 h2 => by rw [h2])
      refine ⟨S', ?_, e2, e3⟩
      rw [decide_eq_true q, if_neg bT, if_neg g2_15, c2, hS 2 (by decide), ediv, a1, bnq]
      exact e1
    · obtain ⟨S', e1, e2, e3⟩ := fin S 0 Fr.rf (fun a h1 h2 => absurd (h2 ▸ h1) q)
      refine ⟨S', ?_, e2, e3⟩
      rw [decide_eq_false q, if_pos bF]
      exact e1
end CROP
