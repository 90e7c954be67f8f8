/-! The class's formulas answered: steps, each behind the sides that it binds. -/
theorem kt {t : Nat} (h : t < 42) : KO.1 (1000 + t) = (20, t) := by
  have : ∀ t, t < 42 → KO.1 (1000 + t) = (20, t) := by decide +kernel
  exact this t h
theorem dropC {α : Type} {l r : List α} {e d : α} {i : Nat} (h : l.drop i = e :: r) : i < l.length ∧ l.getD i d = e ∧ l.drop (i + 1) = r := by
  have hi : i < l.length := by
    refine Decidable.byContradiction fun q => ?_
    rw [List.drop_eq_nil_of_le (by omega)] at h
    cases h
  rw [List.drop_eq_getElem_cons hi] at h
  injection h with h1 h2
  refine ⟨hi, ?_, h2⟩
  rw [List.getD_eq_getElem?_getD, List.getElem?_eq_getElem hi]
  exact h1
def jn (t : Nat) (a b : Int32) : Int32 :=
  if t = 12 then a + b else if t = 13 then a - b else if t = 14 then a * b else
  if t = 10 then bI (decide (a < b)) else if t = 11 then bI (decide (a = b)) else
  if t = 8 then bI (decide (a ≠ 0) && decide (b ≠ 0)) else bI (decide (a ≠ 0) || decide (b ≠ 0))
/-- a step on the stack, its top first -/
def rpS (F : Nat → Int32) (t : Nat) (x : Int32) (st : List Int32) : Option (List Int32) :=
  if t = 7 then (match st with | a :: r => some (bI (decide (a = 0)) :: r) | [] => none)
  else if 8 ≤ t ∧ t ≤ 14 then (match st with | b :: a :: r => some (jn t a b :: r) | _ => none)
  else if st.length < 64 then some ((if tokFL.getD t 0 < 0 then x else F (tokFL.getD t 0).toNatClampNeg) :: st) else none
def rp (F : Nat → Int32) : List (Nat × Int32) → List Int32 → Option (List Int32)
  | [], st => some st
  | e :: l, st => match rpS F e.1 e.2 st with
    | none => none
    | some st' => rp F l st'
theorem rp_app (F : Nat → Int32) : ∀ (l l' : List (Nat × Int32)) (st : List Int32), rp F (l ++ l') st = (rp F l st).bind (rp F l')
  | [], l', st => rfl
  | e :: l, l', st => by
    rw [List.cons_append, rp, rp]
    cases rpS F e.1 e.2 st with
    | none => rfl
    | some st' => exact rp_app F l l' st'
def FK (v : Nat) : Prop := KO.1 v = (0, 1) ∧ KO.1 (v + 4) = (5, 1000) ∧ KO.1 (v + 8) = (1, 1000) ∧ KO.1 (v + 12) = (5, 64) ∧ KO.1 (v + 16) = (1, 64) ∧ KO.1 (v + 20) = (1, 4)
/-- the formula at v holds these steps -/
def FS (v : Nat) (l : List (Nat × Int32)) (S : St) : Prop := FK v ∧ rI S v 5 = nI l.length ∧ l.length ≤ 1000 ∧ ∀ i, i < l.length → rQ S (v + 4) i = some (1000 + (l.getD i (0, 0)).1) ∧ rI S (v + 8) i = (l.getD i (0, 0)).2 ∧ (l.getD i (0, 0)).1 < 42
def STK (v : Nat) (st : List Int32) (S : St) : Prop := ∀ k, k < st.length → rI S (v + 16) k = st.getD (st.length - 1 - k) 0
def frF (v : Nat) : Nat → Nat → Bool := fun a _ => a == v + 16 || a == v + 20
section ANS
variable {v : Nat} {l : List (Nat × Int32)} {S S' : St}
theorem frF_f {x k : Nat} (h : x ≠ v + 16) (h' : x ≠ v + 20) : frF v x k = false := by simp [frF, h, h']
theorem FS.eqs (h : FS v l S) (e : rI S' v 5 = rI S v 5) (e' : ∀ k, rQ S' (v + 4) k = rQ S (v + 4) k) (e2 : ∀ k, rI S' (v + 8) k = rI S (v + 8) k) : FS v l S' := ⟨h.1, e.trans h.2.1, h.2.2.1, fun i hi => ⟨(e' i).trans (h.2.2.2 i hi).1, (e2 i).trans (h.2.2.2 i hi).2.1, (h.2.2.2 i hi).2.2⟩⟩
theorem FS.fr {P : Nat → Nat → Bool} (h : FS v l S) (hf : Fr P S S') (e : P v 5 = false) (e' : ∀ k, P (v + 4) k = false) (e2 : ∀ k, P (v + 8) k = false) : FS v l S' := h.eqs (hf.i e) (fun k => hf.q (e' k)) (fun k => hf.i (e2 k))
theorem FS.frF (h : FS v l S) (hf : Fr (frF v) S S') : FS v l S' := h.fr hf (frF_f (by omega) (by omega)) (fun _ => frF_f (by omega) (by omega)) (fun _ => frF_f (by omega) (by omega))
theorem STK.push {st : List Int32} (h : STK v st S) (x : Int32) : STK v (x :: st) (wI S (v + 16) st.length x) := by
  intro k hk
  rw [List.length_cons] at hk ⊢
  by_cases q : k = st.length
  · subst q
    rw [rI_wI, show st.length + 1 - 1 - st.length = 0 by omega]
    rfl
  · rw [rI_wI_k q, h k (by omega), show st.length + 1 - 1 - k = (st.length - 1 - k) + 1 by omega, List.getD_cons_succ]
theorem STK.tl {a : Int32} {st : List Int32} (h : STK v (a :: st) S) : STK v st S := by
  intro k hk
  have := h k (by rw [List.length_cons]; omega)
  rw [List.length_cons, show st.length + 1 - 1 - k = (st.length - 1 - k) + 1 by omega, List.getD_cons_succ] at this
  exact this
theorem STK.hd {a : Int32} {st : List Int32} (h : STK v (a :: st) S) : rI S (v + 16) st.length = a := by
  have := h st.length (by rw [List.length_cons]; omega)
  rw [List.length_cons, show st.length + 1 - 1 - st.length = 0 by omega] at this
  exact this
theorem fo_joined {t : Nat} (ht : 8 ≤ t ∧ t ≤ 14) (a b : Int32) (S : St) : o_fo_joined (1000 + t) a b S = some (jn t a b, S) := by
  unfold o_fo_joined
  rw [if_pos (by rw [kt (by omega)]), kt (by omega)]
  simp only
  have hk : Int32.ofNat t = nI t := rfl
  rw [hk, if_neg (nI_in (by omega) (by omega)), nI_clamp (by omega)]
  rcases (show t = 8 ∨ t = 9 ∨ t = 10 ∨ t = 11 ∨ t = 12 ∨ t = 13 ∨ t = 14 by omega) with rfl | rfl | rfl | rfl | rfl | rfl | rfl
  · rw [if_neg (by decide), if_neg (by decide), if_neg (by decide), if_neg (by decide), if_neg (by decide), if_pos (by decide)]
    unfold o_fo_joined_98 o_fo_joined_99
    by_cases h1 : a = 0
    · simp [h1, jn, bI]
    · by_cases h2 : b = 0
      · simp [h1, h2, jn, bI]
      · simp [h1, h2, jn, bI]
  · rw [if_neg (by decide), if_neg (by decide), if_neg (by decide), if_neg (by decide), if_neg (by decide), if_neg (by decide), if_pos (by decide)]
    unfold o_fo_joined_108 o_fo_joined_113
    by_cases h1 : a = 0
    · by_cases h2 : b = 0
      · simp [h1, h2, jn, bI]
      · simp [h1, h2, jn, bI]
    · simp [h1, jn, bI]
  · rw [if_neg (by decide), if_neg (by decide), if_neg (by decide), if_pos (by decide)]
    unfold o_fo_joined_74
    by_cases h1 : a < b
    · simp [h1, jn, bI]
    · simp [h1, jn, bI]
  · rw [if_neg (by decide), if_neg (by decide), if_neg (by decide), if_neg (by decide), if_pos (by decide)]
    unfold o_fo_joined_85
    by_cases h1 : a = b
    · simp [h1, jn, bI]
    · simp [h1, jn, bI]
  · rw [if_pos (by decide)]
    rfl
  · rw [if_neg (by decide), if_pos (by decide)]
    rfl
  · rw [if_neg (by decide), if_neg (by decide), if_pos (by decide)]
    rfl
theorem tokI_pos : ∀ t, t < 42 → (0 < tokIL.getD t 0 ↔ 8 ≤ t ∧ t ≤ 14) := by decide +kernel
theorem tokF_cl : ∀ t, t < 42 → ¬ tokFL.getD t 0 < 0 → tokFL.getD t 0 < nI 4 ∧ (tokFL.getD t 0).toNatClampNeg < 4 := by decide +kernel
/-- one step of an answer -/
theorem fo_step (hK : FK v) (F : Nat → Int32) (k35 : Nat → Int32 → Int32 → St → Re Int32) {i t : Nat} {x : Int32} (ht : t < 42) (hi : i < 1000) {st st' : List Int32} (hst : STK v st S) (hF : ∀ k, k < 4 → rI S (v + 20) k = F k) (hx : rI S (v + 8) i = x) (hl : st.length ≤ 64) (hr : rpS F t x st = some st') : ∃ S', (if 0 < nI st.length then (if 1 ≤ (KO.1 (v + 16)).1 ∧ (KO.1 (v + 16)).1 < 8 then (if (Int32.ofNat (KO.1 (v + 16)).2) < nI st.length then o_fo_answer_92 k35 v (nI st.length) (nI i) (1000 + t) S else o_fo_answer_93 k35 v (nI st.length) (nI i) (1000 + t) (1 : Int32) S) else none) else o_fo_answer_92 k35 v (nI st.length) (nI i) (1000 + t) S) = k35 v (nI st'.length) (nI (i + 1)) S' ∧ STK v st' S' ∧ Fr (fun a _ => a == v + 16) S S' ∧ st'.length ≤ 64 := by
  have k1 := hK.1
  have k8 := hK.2.2.1
  have k16 := hK.2.2.2.2.1
  have k20 := hK.2.2.2.2.2
  have e64 : Int32.ofNat 64 = nI 64 := rfl
  have e4 : Int32.ofNat 4 = nI 4 := rfl
  have kk : ((KO.1 (1000 + t)).1 < 8 ∨ (KO.1 (1000 + t)).1 = 20) ∧ ((KO.1 1007).1 < 8 ∨ (KO.1 1007).1 = 20) := ⟨Or.inr (by rw [kt ht]), Or.inr (by rw [kt (t := 7) (by decide)])⟩
  have k75 : ∀ (y : Int32) (S1 : St) (top : Int32), o_fo_answer_275 k35 v top (nI i) S1 = k35 v top (nI (i + 1)) S1 := fun y S1 top => by
    unfold o_fo_answer_275
    simp only [ltq]
    rw [nI_1]
  -- a value that is laid on
  have push : ¬ t = 7 → ¬ (8 ≤ t ∧ t ≤ 14) → ∃ S', o_fo_answer_197 k35 v (nI st.length) (nI i) (1000 + t) S = k35 v (nI st'.length) (nI (i + 1)) S' ∧ STK v st' S' ∧ Fr (fun a _ => a == v + 16) S S' ∧ st'.length ≤ 64 := by
    intro h7 h8
    unfold rpS at hr
    rw [if_neg h7, if_neg h8] at hr
    by_cases hlt : st.length < 64
    · rw [if_pos hlt] at hr
      injection hr with hr
      subst hr
      refine ⟨_, ?_, hst.push _, Fr.wI (by simp), by rw [List.length_cons]; omega⟩
      rw [List.length_cons]
      unfold o_fo_answer_197
      rw [if_pos k1, k16, if_pos (by decide), e64, if_pos (nI_lt hlt (by decide)), if_pos (by rw [kt ht]), kt ht]
      simp only
      by_cases hf : tokFL.getD t 0 < 0
      · rw [if_pos hf, if_pos hf]
        unfold o_fo_answer_237 o_fo_answer_238 o_fo_answer_271 o_fo_answer_275
        simp only [ltq]
        rw [if_pos k1, if_pos trivial, k8, if_pos rfl, if_neg (nI_in hi (by omega)), k16, if_pos rfl, if_neg (nI_in hlt (by omega)), nI_clamp (by omega), nI_clamp (by omega), hx, nI_1, nI_1]
      · rw [if_neg hf, if_neg hf, k20, if_pos (by decide), e4, if_pos (tokF_cl t ht hf).1]
        unfold o_fo_answer_238 o_fo_answer_271 o_fo_answer_275
        simp only [ltq]
        rw [if_pos k1, if_neg (by decide), if_pos (by rw [kt ht]), kt ht, k20, if_pos rfl]
        simp only
        rw [if_neg (by
          have := (tokF_cl t ht hf).2
          rintro (q | q)
          · exact hf q
          · omega), hF _ (tokF_cl t ht hf).2, k16, if_pos rfl, if_neg (nI_in hlt (by omega)), nI_clamp (by omega), nI_1, nI_1]
    · rw [if_neg hlt] at hr
      cases hr
  have no7 : ∀ p0 : Int32, ¬ t = 7 → o_fo_answer_93 k35 v (nI st.length) (nI i) (1000 + t) p0 S = o_fo_answer_137 k35 v (nI st.length) (nI i) (1000 + t) p0 S := by
    intro p0 h7
    unfold o_fo_answer_93
    rw [if_pos kk, if_neg (by omega)]
  by_cases h7 : t = 7
  · subst h7
    unfold rpS at hr
    rw [if_pos rfl] at hr
    cases st with
    | nil => cases hr
    | cons a r =>
      injection hr with hr
      subst hr
      rw [List.length_cons] at hl
      have hh := hst.hd
      rw [List.length_cons, if_pos (show 0 < nI (r.length + 1) from nI_lt (a := 0) (by omega) (by omega)), k16, if_pos (by decide), e64, if_neg (nI_nlt (by omega) (by omega))]
      unfold o_fo_answer_93
      rw [if_pos kk, if_pos rfl, if_neg (by decide), if_pos k1, k16, if_pos rfl, show nI (r.length + 1) - 1 = nI r.length from nI_pred _, if_neg (nI_in (by omega) (by omega)), nI_clamp (by omega), hh]
      have e2 : ∀ (y : Int32), o_fo_answer_133 k35 v (nI (r.length + 1)) (nI i) y (nI r.length) (v + 16) S = k35 v (nI (r.length + 1)) (nI (i + 1)) (wI S (v + 16) r.length y) := by
        intro y
        unfold o_fo_answer_133
        simp only [ltq]
        rw [k16, if_pos rfl, if_neg (nI_in (by omega) (by omega)), nI_clamp (by omega)]
        exact k75 0 _ _
      refine ⟨wI S (v + 16) r.length (bI (decide (a = 0))), ?_, hst.tl.push _, Fr.wI (by simp), by rw [List.length_cons]; omega⟩
      rw [List.length_cons]
      by_cases h0 : a = 0
      · rw [if_pos h0, e2, decide_eq_true h0]
        rfl
      · rw [if_neg h0, e2, decide_eq_false h0]
        rfl
  · by_cases h8 : 8 ≤ t ∧ t ≤ 14
    · unfold rpS at hr
      rw [if_neg h7, if_pos h8] at hr
      match st, hr, hst, hl, no7 with
      | [], hr, _, _, _ => cases hr
      | [_], hr, _, _, _ => cases hr
      | b :: a :: r, hr, hst, hl, no7 =>
        injection hr with hr
        subst hr
        rw [List.length_cons, List.length_cons] at hl
        have hb := hst.hd
        have ha := hst.tl.hd
        rw [List.length_cons] at hb
        rw [List.length_cons, List.length_cons, if_pos (show 0 < nI (r.length + 1 + 1) from nI_lt (a := 0) (by omega) (by omega)), k16, if_pos (by decide), e64, if_neg (nI_nlt (by omega) (by omega))]
        have hn7 := no7 1 h7
        rw [List.length_cons, List.length_cons] at hn7
        rw [hn7]
        unfold o_fo_answer_137
        have ex : nI (r.length + 1 + 1) + (-1 : Int32) = nI (r.length + 1) := by
          rw [show nI (r.length + 1 + 1) = nI (r.length + 1) + 1 from (nI_1 _).symm, Int32.add_assoc, show (1 : Int32) + -1 = 0 by decide, Int32.add_zero]
        simp only [ltq]
        rw [if_pos (by rw [kt ht]), kt ht, if_pos ((tokI_pos t ht).mpr h8), if_neg (by decide), if_pos (show (1 : Int32) < nI (r.length + 1 + 1) from nI_lt (a := 1) (by omega) (by omega)), ex, if_pos k1, k16, if_pos rfl, show nI (r.length + 1) - 1 = nI r.length from nI_pred _, if_neg (nI_in (by omega) (by omega)), if_pos rfl, if_neg (nI_in (by omega) (by omega)), nI_clamp (by omega), nI_clamp (by omega), ha, hb, fo_joined h8, bn_some, if_pos rfl, if_neg (nI_inC (by omega) (by omega))]
        refine ⟨wI S (v + 16) r.length (jn t a b), k75 0 _ _, hst.tl.tl.push _, Fr.wI (by simp), by rw [List.length_cons]; omega⟩
    · obtain ⟨S', e1, e2⟩ := push h7 h8
      refine ⟨S', ?_, e2⟩
      rw [← e1]
      have h137 : ∀ p0 : Int32, o_fo_answer_137 k35 v (nI st.length) (nI i) (1000 + t) p0 S = o_fo_answer_197 k35 v (nI st.length) (nI i) (1000 + t) S := by
        intro p0
        unfold o_fo_answer_137
        rw [if_pos (by rw [kt ht]), kt ht, if_neg (fun q => h8 ((tokI_pos t ht).mp q))]
      unfold o_fo_answer_92
      rw [no7 0 h7, no7 1 h7, h137, h137]
      by_cases h0 : 0 < nI st.length
      · rw [if_pos h0, k16, if_pos (by decide)]
        split <;> rfl
      · rw [if_neg h0]
theorem fo_loop (F : Nat → Int32) : ∀ (r : List (Nat × Int32)) (i m : Nat) (st st' : List Int32) (S : St), FS v l S → i ≤ l.length → l.drop i = r → r.length < m → STK v st S → st.length ≤ 64 → (∀ k, k < 4 → rI S (v + 20) k = F k) → rp F r st = some st' → ∃ S', o_fo_answer_35 m v (nI st.length) (nI i) S = o_fo_answer_281 v (nI st'.length) S' ∧ STK v st' S' ∧ Fr (fun a _ => a == v + 16) S S' ∧ st'.length ≤ 64
  | [], i, m, st, st', S, h, hil, hd, hm, hst, hl, hF, hr => by
    obtain ⟨m, rfl, hm⟩ := fuel hm
    injection hr with hr
    subst hr
    refine ⟨S, ?_, hst, Fr.rf, hl⟩
    have hi : l.length ≤ i := List.drop_eq_nil_iff.mp hd
    have hll := h.2.2.1
    rw [o_fo_answer_35, if_pos h.1.1, h.2.1, if_neg (nI_nlt hi (by omega))]
  | e :: r, i, m, st, st', S, h, hil, hd, hm, hst, hl, hF, hr => by
    obtain ⟨m, rfl, hm⟩ := fuel hm
    obtain ⟨hi, he, hd'⟩ := dropC (d := (0, 0)) hd
    have hll := h.2.2.1
    have h4 := h.2.2.2 i hi
    rw [he] at h4
    have e1000 : Int32.ofNat 1000 = nI 1000 := rfl
    rw [rp] at hr
    cases hq : rpS F e.1 e.2 st with
    | none => rw [hq] at hr; cases hr
    | some st1 =>
      rw [hq] at hr
      obtain ⟨S1, e1, e2, e3, e4⟩ := fo_step h.1 F (o_fo_answer_35 m) h4.2.2 (by omega) hst hF h4.2.1 hl hq
      have h1 : FS v l S1 := h.fr e3 (by simp) (fun _ => by simp) (fun _ => by simp)
      obtain ⟨S2, e5, e6, e7, e8⟩ := fo_loop F r (i + 1) m st1 st' S1 h1 (by omega) hd' (by rw [List.length_cons] at hm; omega) e2 e4 (fun k hk => by rw [e3.i (by simp), hF k hk]) hr
      refine ⟨S2, ?_, e6, e3.tr e7, e8⟩
      rw [o_fo_answer_35, if_pos h.1.1, h.2.1, if_pos (nI_lt hi (by omega)), h.1.2.1, if_pos (by decide), e1000, if_pos (nI_lt (by omega) (by decide)), h.1.2.2.1, if_pos (by decide), e1000, if_pos (nI_lt (by omega) (by decide)), if_pos (by decide), if_neg (nI_in (by omega) (by omega)), nI_clamp (by omega), h4.1, oq_some, e1, e5]
/-- the answer of a formula -/
theorem fo_answer (h : FS v l S) (a b c d r : Int32) (hr : rp (fun k => if k = 0 then a else if k = 1 then b else if k = 2 then c else d) l [] = some [r]) : ∃ S', o_fo_answer v a b c d S = some (r, S') ∧ Fr (frF v) S S' := by
  have k1 := h.1.1
  have k16 := h.1.2.2.2.2.1
  have k20 := h.1.2.2.2.2.2
  have f1 : Fr (frF v) S (wI (wI (wI (wI S (v + 20) 0 a) (v + 20) 1 b) (v + 20) 2 c) (v + 20) 3 d) := (((Fr.wI (by simp [frF])).tr (Fr.wI (by simp [frF]))).tr (Fr.wI (by simp [frF]))).tr (Fr.wI (by simp [frF]))
  have hl := h.2.2.1
  obtain ⟨S', e1, e2, e3, e4⟩ := fo_loop (v := v) (fun k => if k = 0 then a else if k = 1 then b else if k = 2 then c else d) l 0 FU [] [r] _ (h.frF f1) (Nat.zero_le _) rfl (by unfold FU; omega) (fun k hk => absurd hk (Nat.not_lt_zero k)) (by decide) (fun k hk => by
    rcases (show k = 0 ∨ k = 1 ∨ k = 2 ∨ k = 3 by omega) with rfl | rfl | rfl | rfl
    · rw [rI_wI_k (by decide), rI_wI_k (by decide), rI_wI_k (by decide), rI_wI]; rfl
    · rw [rI_wI_k (by decide), rI_wI_k (by decide), rI_wI]; rfl
    · rw [rI_wI_k (by decide), rI_wI]; rfl
    · rw [rI_wI]; rfl) hr
  refine ⟨S', ?_, f1.tr (e3.mo fun a k q => ?_)⟩
  · unfold o_fo_answer
    simp only [ltq]
    rw [if_pos k1, k20, if_pos rfl, if_neg (by decide), if_pos rfl, if_neg (by decide), if_pos rfl, if_neg (by decide), if_pos rfl, if_neg (by decide)]
    rw [show (0 : Int32).toNatClampNeg = 0 by decide, show (1 : Int32).toNatClampNeg = 1 by decide, show (2 : Int32).toNatClampNeg = 2 by decide, show (3 : Int32).toNatClampNeg = 3 by decide, show (0 : Int32) = nI ([] : List Int32).length from rfl]
    rw [show o_fo_answer_35 FU v (nI ([] : List Int32).length) (nI ([] : List Int32).length) _ = _ from e1]
    unfold o_fo_answer_281 o_fo_answer_296
    rw [if_pos (show (0 : Int32) < nI [r].length from (show (0 : Int32) < nI 1 by decide)), if_pos k1, k16, if_pos rfl, if_neg (by decide)]
    have := e2.hd
    rw [show ([] : List Int32).length = 0 from rfl] at this
    rw [show (Int32.toNatClampNeg 0) = 0 by decide, this]
  · unfold frF at q
    rw [Bool.or_eq_false_iff] at q
    exact q.1
end ANS
