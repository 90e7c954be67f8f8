section CROP2
variable {T : St} {W V : Nat → List Nat} {L : Int32 → Int32 → Int32} {v d u a : Nat} {Z Z1 Z2 : Nat → Int32} {So So' Sm Sm' S : St}
theorem LC.at {l : List (Nat × Nat)} (h : LC T Z l S) {i : Nat} (hi : i < l.length) : rI S 558 i = cwh T Z (l.getD i (0, 0)) ∧ rI S 559 i = cec T Z (l.getD i (0, 0)) ∧ rI S 560 i = nI (16 * (l.getD i (0, 0)).1 + (l.getD i (0, 0)).2) := h.2 i hi
theorem mc_ok (hw : WF T W V) {l : List (Nat × Nat)} (hlen : l.length ≤ 80) : ∀ (r f dd : Nat) (h s : Int32) (S : St), r < f → dd + r ≤ 3 → OM T S → LC T Z l S → WR T Z L S → ∃ S', m_cropOf f h s (nI dd) (nI r) 0 S = some (gN T Z L l r dd h s, S') ∧ Fr frL S S'
  | 0, f, dd, h, s, S, hf, hd, hO, hl, hW => by
    obtain ⟨f, rfl, hf⟩ := fuel hf
    refine ⟨S, ?_, Fr.rf⟩
    rw [m_cropOf]
    unfold m_cropOf_b
    rw [if_pos (show nI 0 = 0 from rfl)]
    rfl
  | r + 1, f, dd, h, s, S, hf, hd, hO, hl, hW => by
    obtain ⟨f, rfl, hf⟩ := fuel hf
    have hp : nI (r + 1) - 1 = nI r := nI_pred r
    have keep : ∀ {S S' : St}, Fr frL S S' → OM T S → LC T Z l S → WR T Z L S → OM T S' ∧ LC T Z l S' ∧ WR T Z L S' := fun f h1 h2 h3 => ⟨h1.fr f fun a k q => frL_o (by omega), h2.fr f (by rfl) fun k => ⟨rfl, rfl, rfl⟩, h3.fr f fun k => rfl⟩
    have loop : ∀ (c i m : Nat) (b : Int32) (S : St), OM T S → LC T Z l S → WR T Z L S → i + c = l.length → c < m → ∃ S', m_cropOf_36 (m_cropOf f) m h s (nI dd) (nI (r + 1)) 0 b (nI i) S = some ((l.drop i).foldl (cvs T Z L (gN T Z L l r (dd + 1)) dd h s) b, S') ∧ Fr frL S S' := by
      intro c
      induction c with
      | zero =>
        intro i m b S hO hl hW hi hm
        obtain ⟨m, rfl, hm⟩ := fuel hm
        rw [Nat.add_zero] at hi
        subst hi
        refine ⟨S, ?_, Fr.rf⟩
        rw [m_cropOf_36, hl.1, if_neg (nI_nlt (Nat.le_refl _) (by omega)), List.drop_length]
        rfl
      | succ c ih =>
        intro i m b S hO hl hW hi hm
        obtain ⟨m, rfl, hm⟩ := fuel hm
        obtain ⟨r1, r2, r3⟩ := hl.at (show i < l.length by omega)
        rw [drop_c l (show i < l.length by omega), List.foldl_cons, m_cropOf_36, hl.1, if_pos (nI_lt (by omega) (by omega)), if_neg (nI_in (by omega) (by omega)), nI_clamp (by omega), if_neg (nI_inC (by omega) (by omega)), r1, r2]
        generalize l.getD i (0, 0) = x at r1 r2
        unfold m_cropOf_152
        by_cases q : h &&& (cwh T Z x ||| cec T Z x) = 0
        · have es : cvs T Z L (gN T Z L l r (dd + 1)) dd h s b x = b := if_pos q
          obtain ⟨S', e1, e2⟩ := ih (i + 1) m b S hO hl hW (by omega) (by omega)
          refine ⟨S', ?_, e2⟩
          rw [if_pos q, ltq, nI_1, es]
          exact e1
        · obtain ⟨S1, a1, a2, a3⟩ := m_fallsBy_ok (S := S) hw hO h s (cwh T Z x) (cec T Z x)
          obtain ⟨hO1, hl1, hW1⟩ := keep a2 hO hl hW
          obtain ⟨S2, b1', b2⟩ := mc_ok hw hlen r f (dd + 1) (h &&& (flA T h s (cwh T Z x) (cec T Z x) ^^^ (-1))) (lsT T h s (cwh T Z x) (cec T Z x)) S1 (by omega) (by omega) hO1 hl1 hW1
          obtain ⟨hO2, hl2, hW2⟩ := keep b2 hO1 hl1 hW1
          rw [if_neg q, if_neg (nI_inC (by omega) (by omega)), if_neg (nI_inC (by omega) (by omega)), a1, bnq, m_cropWorth_ok hw hO1 hW1 (show dd < 3 by omega), bnq, a3, nI_1, hp, b1', bnq, ltq]
          have ev' : vlS T L (flA T h s (cwh T Z x) (cec T Z x)) (Z 2 + nI dd) + gN T Z L l r (dd + 1) (h &&& (flA T h s (cwh T Z x) (cec T Z x) ^^^ (-1))) (lsT T h s (cwh T Z x) (cec T Z x)) = cva T Z L (gN T Z L l r (dd + 1)) dd h s x := rfl
          rw [ev']
          by_cases q2 : b < cva T Z L (gN T Z L l r (dd + 1)) dd h s x
          · have es : cvs T Z L (gN T Z L l r (dd + 1)) dd h s b x = cva T Z L (gN T Z L l r (dd + 1)) dd h s x := by
              unfold cvs
              rw [if_neg q, if_pos q2]
            obtain ⟨S', e1, e2⟩ := ih (i + 1) m (cva T Z L (gN T Z L l r (dd + 1)) dd h s x) S2 hO2 hl2 hW2 (by omega) (by omega)
            refine ⟨S', ?_, (a2.tr b2).tr e2⟩
            rw [if_pos q2, if_pos rfl, ltq, nI_1, es]
            exact e1
          · have es : cvs T Z L (gN T Z L l r (dd + 1)) dd h s b x = b := by
              unfold cvs
              rw [if_neg q, if_neg q2]
            obtain ⟨S', e1, e2⟩ := ih (i + 1) m b S2 hO2 hl2 hW2 (by omega) (by omega)
            refine ⟨S', ?_, (a2.tr b2).tr e2⟩
            rw [if_neg q2, ltq, nI_1, es]
            exact e1
    obtain ⟨S1, a1, a2⟩ := mc_ok hw hlen r f (dd + 1) h s S (by omega) (by omega) hO hl hW
    obtain ⟨hO1, hl1, hW1⟩ := keep a2 hO hl hW
    obtain ⟨S', e1, e2⟩ := loop l.length 0 FU (gN T Z L l r (dd + 1) h s) S1 hO1 hl1 hW1 (Nat.zero_add _) (by unfold FU; omega)
    refine ⟨S', ?_, a2.tr e2⟩
    rw [m_cropOf]
    unfold m_cropOf_b m_cropOf_33
    rw [if_neg (nI_ne0 (by omega) (by omega)), nI_1, hp, a1, bnq, if_pos rfl, (show m_cropOf_36 (m_cropOf f) FU h s (nI dd) (nI (r + 1)) 0 _ 0 S1 = _ from e1), List.drop_zero]
    rfl
/-- the best first call, too -/
def cvt (T : St) (Z : Nat → Int32) (L : Int32 → Int32 → Int32) (g : Int32 → Int32 → Int32) (dd : Nat) (h s : Int32) (b : Int32 × Int32) (x : Nat × Nat) : Int32 × Int32 := if h &&& (cwh T Z x ||| cec T Z x) = 0 then b else if b.1 < cva T Z L g dd h s x then (cva T Z L g dd h s x, nI (16 * x.1 + x.2)) else b
def gTo (T : St) (Z : Nat → Int32) (L : Int32 → Int32 → Int32) (l : List (Nat × Nat)) : Nat → Int32 → Int32 → Int32 × Int32
  | 0, _, _ => (0, -1)
  | r + 1, h, s => l.foldl (cvt T Z L (gN T Z L l r 1) 0 h s) (gN T Z L l r 1 h s, -1)
def frT : Nat → Nat → Bool := fun a k => a == 500 && (k == 72 || k == 79)
theorem frT_L {a k : Nat} (h : frT a k = false) : frL a k = false := by
  unfold frT at h
  unfold frL
  simp at h ⊢
  omega
theorem frT_o {a k : Nat} (h : a ≠ 500 ∨ (k ≠ 72 ∧ k ≠ 79)) : frT a k = false := by
  unfold frT
  simp
  omega
theorem mt_ok (hw : WF T W V) {l : List (Nat × Nat)} (hlen : l.length ≤ 80) {r f : Nat} {h s : Int32} (hf : r < f) (hd : r ≤ 3) (hO : OM T S) (hl : LC T Z l S) (hW : WR T Z L S) (hnm : rI S 500 79 = -1) : ∃ S', m_cropOf f h s 0 (nI r) 1 S = some ((gTo T Z L l r h s).1, S') ∧ rI S' 500 79 = (gTo T Z L l r h s).2 ∧ Fr frT S S' := by
  cases r with
  | zero =>
    obtain ⟨f, rfl, hf⟩ := fuel hf
    refine ⟨S, ?_, hnm, Fr.rf⟩
    rw [m_cropOf]
    unfold m_cropOf_b
    rw [if_pos (show nI 0 = 0 from rfl)]
    rfl
  | succ r =>
    obtain ⟨f, rfl, hf⟩ := fuel hf
    have hp : nI (r + 1) - 1 = nI r := nI_pred r
    have keep : ∀ {S S' : St}, Fr frT S S' → OM T S → LC T Z l S → WR T Z L S → OM T S' ∧ LC T Z l S' ∧ WR T Z L S' := fun f h1 h2 h3 => ⟨h1.fr f fun a k q => frT_o (by omega), h2.fr f (by rfl) fun k => ⟨rfl, rfl, rfl⟩, h3.fr f fun k => rfl⟩
    have loop : ∀ (c i m : Nat) (b : Int32 × Int32) (S : St), OM T S → LC T Z l S → WR T Z L S → rI S 500 79 = b.2 → i + c = l.length → c < m → ∃ S', m_cropOf_36 (m_cropOf f) m h s (nI 0) (nI (r + 1)) 1 b.1 (nI i) S = some (((l.drop i).foldl (cvt T Z L (gN T Z L l r 1) 0 h s) b).1, S') ∧ rI S' 500 79 = ((l.drop i).foldl (cvt T Z L (gN T Z L l r 1) 0 h s) b).2 ∧ Fr frT S S' := by
      intro c
      induction c with
      | zero =>
        intro i m b S hO hl hW hb hi hm
        obtain ⟨m, rfl, hm⟩ := fuel hm
        rw [Nat.add_zero] at hi
        subst hi
        refine ⟨S, ?_, by rw [List.drop_length]; exact hb, Fr.rf⟩
        rw [m_cropOf_36, hl.1, if_neg (nI_nlt (Nat.le_refl _) (by omega)), List.drop_length]
        rfl
      | succ c ih =>
        intro i m b S hO hl hW hb hi hm
        obtain ⟨m, rfl, hm⟩ := fuel hm
        obtain ⟨r1, r2, r3⟩ := hl.at (show i < l.length by omega)
        rw [drop_c l (show i < l.length by omega), List.foldl_cons, m_cropOf_36, hl.1, if_pos (nI_lt (by omega) (by omega)), if_neg (nI_in (by omega) (by omega)), nI_clamp (by omega), if_neg (nI_inC (by omega) (by omega)), r1, r2]
        generalize l.getD i (0, 0) = x at r1 r2 r3
        unfold m_cropOf_152
        by_cases q : h &&& (cwh T Z x ||| cec T Z x) = 0
        · have es : cvt T Z L (gN T Z L l r 1) 0 h s b x = b := if_pos q
          obtain ⟨S', e1, e2, e3⟩ := ih (i + 1) m b S hO hl hW hb (by omega) (by omega)
          rw [es]
          refine ⟨S', ?_, e2, e3⟩
          rw [if_pos q, ltq, nI_1]
          exact e1
        · obtain ⟨S1, a1, a2, a3⟩ := m_fallsBy_ok (S := S) hw hO h s (cwh T Z x) (cec T Z x)
          have a2t : Fr frT S S1 := a2.mo fun a k q => frT_L q
          obtain ⟨hO1, hl1, hW1⟩ := keep a2t hO hl hW
          obtain ⟨S2, b1', b2⟩ := mc_ok hw hlen r f 1 (h &&& (flA T h s (cwh T Z x) (cec T Z x) ^^^ (-1))) (lsT T h s (cwh T Z x) (cec T Z x)) S1 (by omega) (by omega) hO1 hl1 hW1
          have b2t : Fr frT S1 S2 := b2.mo fun a k q => frT_L q
          obtain ⟨hO2, hl2, hW2⟩ := keep b2t hO1 hl1 hW1
          have hb2 : rI S2 500 79 = b.2 := ((a2.tr b2).i (by rfl)).trans hb
          rw [if_neg q, if_neg (nI_inC (by omega) (by omega)), if_neg (nI_inC (by omega) (by omega)), a1, bnq, m_cropWorth_ok hw hO1 hW1 (show 0 < 3 by decide), bnq, a3, nI_1, hp, (show m_cropOf f _ _ (nI (0 + 1)) (nI r) 0 S1 = _ from b1'), bnq, ltq]
          have ev' : vlS T L (flA T h s (cwh T Z x) (cec T Z x)) (Z 2 + nI 0) + gN T Z L l r 1 (h &&& (flA T h s (cwh T Z x) (cec T Z x) ^^^ (-1))) (lsT T h s (cwh T Z x) (cec T Z x)) = cva T Z L (gN T Z L l r 1) 0 h s x := rfl
          rw [ev']
          by_cases q2 : b.1 < cva T Z L (gN T Z L l r 1) 0 h s x
          · have es : cvt T Z L (gN T Z L l r 1) 0 h s b x = (cva T Z L (gN T Z L l r 1) 0 h s x, nI (16 * x.1 + x.2)) := by
              unfold cvt
              rw [if_neg q, if_pos q2]
            have f3 : Fr frT S2 (wI S2 500 79 (nI (16 * x.1 + x.2))) := Fr.wI rfl
            obtain ⟨hO3, hl3, hW3⟩ := keep f3 hO2 hl2 hW2
            obtain ⟨S', e1, e2, e3⟩ := ih (i + 1) m (cva T Z L (gN T Z L l r 1) 0 h s x, nI (16 * x.1 + x.2)) (wI S2 500 79 (nI (16 * x.1 + x.2))) hO3 hl3 hW3 rI_wI (by omega) (by omega)
            rw [es]
            refine ⟨S', ?_, e2, ((a2t.tr b2t).tr f3).tr e3⟩
            rw [if_pos q2, if_neg (by decide), if_neg (nI_inC (by omega) (by omega)), (a2.tr b2).i (show frL 560 i = false from rfl), r3, ltq, ltq, nI_1]
            exact e1
          · have es : cvt T Z L (gN T Z L l r 1) 0 h s b x = b := by
              unfold cvt
              rw [if_neg q, if_neg q2]
            obtain ⟨S', e1, e2, e3⟩ := ih (i + 1) m b S2 hO2 hl2 hW2 hb2 (by omega) (by omega)
            rw [es]
            refine ⟨S', ?_, e2, (a2t.tr b2t).tr e3⟩
            rw [if_neg q2, ltq, nI_1]
            exact e1
    obtain ⟨S1, a1, a2⟩ := mc_ok hw hlen r f 1 h s S (by omega) (by omega) hO hl hW
    have a2t : Fr frT S S1 := a2.mo fun a k q => frT_L q
    have f2 : Fr frT S1 (wI S1 500 79 (-1)) := Fr.wI rfl
    obtain ⟨hO1, hl1, hW1⟩ := keep (a2t.tr f2) hO hl hW
    obtain ⟨S', e1, e2, e3⟩ := loop l.length 0 FU (gN T Z L l r 1 h s, -1) (wI S1 500 79 (-1)) hO1 hl1 hW1 rI_wI (Nat.zero_add _) (by unfold FU; omega)
    rw [List.drop_zero] at e1 e2
    refine ⟨S', ?_, e2, (a2t.tr f2).tr e3⟩
    rw [m_cropOf]
    unfold m_cropOf_b m_cropOf_33
    rw [if_neg (nI_ne0 (by omega) (by omega)), hp, (show m_cropOf f h s ((0 : Int32) + 1) (nI r) 0 S = _ from a1), bnq, if_neg (by decide), ltq]
    exact e1
end CROP2
