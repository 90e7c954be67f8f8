/-! Reading a law: the class's formula, its steps and the signs that wait. -/
section FORMS
variable {v t : Nat} {l : List (Nat × Int32)} {ws : List Nat} {S S' : St}
/-- how fast a sign binds -/
def stT (t : Nat) : Nat := if t = 8 ∨ t = 9 then 1 else if t = 10 ∨ t = 11 then 2 else if t = 12 ∨ t = 13 then 3 else if t = 14 then 4 else 0
theorem stT_all : ∀ t, t < 42 → tokIL.getD t 0 = nI (stT t) := by decide +kernel
theorem stT_le (t : Nat) : stT t ≤ 4 := by
  unfold stT
  repeat' split
  all_goals omega
/-- the signs that wait, the last one first -/
def WT (v : Nat) (ws : List Nat) (S : St) : Prop := FK v ∧ rI S v 6 = nI ws.length ∧ ws.length < 64 ∧ (∀ i, i < ws.length → rQ S (v + 12) i = some (1000 + ws.getD (ws.length - 1 - i) 0)) ∧ ∀ x ∈ ws, x < 42
theorem WT.eqs (h : WT v ws S) (e : rI S' v 6 = rI S v 6) (e' : ∀ k, rQ S' (v + 12) k = rQ S (v + 12) k) : WT v ws S' := ⟨h.1, e.trans h.2.1, h.2.2.1, fun i hi => (e' i).trans (h.2.2.2.1 i hi), h.2.2.2.2⟩
theorem WT.fr {P : Nat → Nat → Bool} (h : WT v ws S) (hf : Fr P S S') (e : P v 6 = false) (e' : ∀ k, P (v + 12) k = false) : WT v ws S' := h.eqs (hf.i e) (fun k => hf.q (e' k))
/-- what adding a step touches; what holding a sign touches -/
def fFa (v : Nat) : Nat → Nat → Bool := fun a k => (a == v && k == 5) || a == v + 4 || a == v + 8
def fFw (v : Nat) : Nat → Nat → Bool := fun a k => (a == v && k == 6) || a == v + 12
theorem WT.fa (h : WT v ws S) (hf : Fr (fFa v) S S') : WT v ws S' := h.fr hf (by simp [fFa]) (fun k => by simp [fFa])
theorem FS.fw (h : FS v l S) (hf : Fr (fFw v) S S') : FS v l S' := h.fr hf (by simp [fFw]) (fun k => by simp [fFw]) (fun k => by simp [fFw])
theorem getD_ap {α : Type} (l : List α) (x d : α) {i : Nat} (h : i < l.length) : (l ++ [x]).getD i d = l.getD i d := by
  simp [List.getD_eq_getElem?_getD, List.getElem?_append, h]
theorem getD_ae {α : Type} (l : List α) (x d : α) : (l ++ [x]).getD l.length d = x := by
  simp [List.getD_eq_getElem?_getD, List.getElem?_append]
theorem fo_add (h : FS v l S) (hl : l.length < 1000) (ht : t < 42) (x : Int32) : ∃ S', o_fo_add v (1000 + t) x S = some ((), S') ∧ FS v (l ++ [(t, x)]) S' ∧ Fr (fFa v) S S' := by
  obtain ⟨hK, h1, h2, h3⟩ := h
  obtain ⟨k0, k4', k8, k12, k16, k20⟩ := id hK
  have f1 : Fr (fFa v) S (wI (wI (wQ S (v + 4) l.length (some (1000 + t))) (v + 8) l.length x) v 5 (nI (l.length + 1))) := ((Fr.wQ (by simp [fFa])).tr (Fr.wI (by simp [fFa]))).tr (Fr.wI (by simp [fFa]))
  refine ⟨wI (wI (wQ S (v + 4) l.length (some (1000 + t))) (v + 8) l.length x) v 5 (nI (l.length + 1)), ?_, ⟨hK, ?_, ?_, fun i hi => ?_⟩, f1⟩
  · unfold o_fo_add o_fo_add_54
    rw [if_pos k0, k4', if_pos (k5r _), h1, if_pos (show nI l.length < Int32.ofNat ((5, 1000) : Nat × Nat).2 from nI_lt (b := 1000) hl (by decide)), k8, if_pos (k1r _), if_pos (show nI l.length < Int32.ofNat ((1, 1000) : Nat × Nat).2 from nI_lt (b := 1000) hl (by decide)), kt ht, if_pos (Or.inl ⟨rfl, rfl⟩), if_neg (nI_in (show l.length < ((5, 1000) : Nat × Nat).2 from hl) (by decide)), nI_clamp (by omega), ltq (wQ S (v + 4) _ _), if_pos (k1e _), (show rI (wQ S (v + 4) l.length (some (1000 + t))) v 5 = nI l.length from h1), if_neg (nI_in (show l.length < ((1, 1000) : Nat × Nat).2 from hl) (by decide)), nI_clamp (by omega), ltq (wI (wQ S (v + 4) _ _) (v + 8) _ _), rI_wI_a (show v ≠ v + 8 by omega), (show rI (wQ S (v + 4) l.length (some (1000 + t))) v 5 = nI l.length from h1), nI_1, ltq]
  · rw [rI_wI, List.length_append]
    rfl
  · rw [List.length_append]
    show l.length + 1 ≤ 1000
    omega
  · rw [List.length_append] at hi
    have hi : i < l.length + 1 := hi
    have e1 : rQ (wI (wI (wQ S (v + 4) l.length (some (1000 + t))) (v + 8) l.length x) v 5 (nI (l.length + 1))) (v + 4) i = rQ (wQ S (v + 4) l.length (some (1000 + t))) (v + 4) i := rfl
    rw [e1, rI_wI_a (show v + 8 ≠ v by omega)]
    by_cases q : i = l.length
    · subst q
      rw [getD_ae, rQ_wQ, rI_wI]
      exact ⟨rfl, rfl, ht⟩
    · rw [getD_ap l _ _ (show i < l.length by omega), rQ_wQ_k q, rI_wI_k q]
      exact h3 i (by omega)
theorem fo_hold (h : WT v ws S) (hl : ws.length < 63) (ht : t < 42) : ∃ S', o_fo_hold v (1000 + t) S = some ((), S') ∧ WT v (t :: ws) S' ∧ Fr (fFw v) S S' := by
  obtain ⟨hK, h1, h2, h3, h4⟩ := h
  obtain ⟨k0, k4', k8, k12, k16, k20⟩ := id hK
  have f1 : Fr (fFw v) S (wI (wQ S (v + 12) ws.length (some (1000 + t))) v 6 (nI (ws.length + 1))) := (Fr.wQ (by simp [fFw])).tr (Fr.wI (by simp [fFw]))
  refine ⟨wI (wQ S (v + 12) ws.length (some (1000 + t))) v 6 (nI (ws.length + 1)), ?_, ⟨hK, rI_wI, by rw [List.length_cons]; omega, fun i hi => ?_, fun x hx => ?_⟩, f1⟩
  · unfold o_fo_hold o_fo_hold_32
    rw [if_pos k0, k12, if_pos (k5r _), h1, if_pos (show nI ws.length < Int32.ofNat ((5, 64) : Nat × Nat).2 from nI_lt (b := 64) (by omega) (by decide)), kt ht, if_pos (Or.inl ⟨rfl, rfl⟩), if_neg (nI_in (show ws.length < ((5, 64) : Nat × Nat).2 by show _ < 64; omega) (by decide)), nI_clamp (by omega), ltq (wQ S (v + 12) _ _), (show rI (wQ S (v + 12) ws.length (some (1000 + t))) v 6 = nI ws.length from h1), nI_1, ltq]
  · rw [List.length_cons] at hi ⊢
    show rQ (wQ S (v + 12) ws.length (some (1000 + t))) (v + 12) i = _
    by_cases q : i = ws.length
    · subst q
      rw [rQ_wQ, show ws.length + 1 - 1 - ws.length = 0 by omega]
      rfl
    · rw [rQ_wQ_k q, h3 i (by omega), show ws.length + 1 - 1 - i = (ws.length - 1 - i) + 1 by omega, List.getD_cons_succ]
  · rcases List.mem_cons.mp hx with rfl | hx
    · exact ht
    · exact h4 x hx
theorem WT.tl (h : WT v (t :: ws) S) (h6 : rI S' v 6 = nI ws.length) (e : ∀ k, rQ S' (v + 12) k = rQ S (v + 12) k) : WT v ws S' := by
  obtain ⟨hK, h1, h2, h3, h4⟩ := h
  rw [List.length_cons] at h2
  refine ⟨hK, h6, by omega, fun i hi => ?_, fun x hx => h4 x (List.mem_cons_of_mem _ hx)⟩
  have := h3 i (by rw [List.length_cons]; omega)
  rw [List.length_cons, show ws.length + 1 - 1 - i = (ws.length - 1 - i) + 1 by omega, List.getD_cons_succ] at this
  rw [e]
  exact this
theorem fo_drop (h : WT v (t :: ws) S) : ∃ S', o_fo_drop v S = some ((), S') ∧ WT v ws S' ∧ Fr (fFw v) S S' := by
  have h1 := h.2.1
  have h2 := h.2.2.1
  rw [List.length_cons] at h1 h2
  refine ⟨wI S v 6 (nI ws.length), ?_, h.tl rI_wI (fun k => rfl), Fr.wI (by simp [fFw])⟩
  unfold o_fo_drop o_fo_drop_17
  rw [if_pos h.1.1, h1, if_pos (show (0 : Int32) < nI (ws.length + 1) from nI_lt (a := 0) (by omega) (by omega)), nI_pred, ltq]
theorem fo_last (h : WT v ws S) : o_fo_last v S = some (ws.head?.map (fun t => 1000 + t), S) := by
  obtain ⟨hK, h1, h2, h3, h4⟩ := h
  obtain ⟨k0, k4', k8, k12, k16, k20⟩ := id hK
  unfold o_fo_last o_fo_last_33 o_fo_last_34
  rw [if_pos k0, h1]
  cases ws with
  | nil =>
    rw [if_neg (by decide)]
    rfl
  | cons t ws =>
    rw [List.length_cons] at h2 h3 ⊢
    have h5 := h3 ws.length (by omega)
    rw [show ws.length + 1 - 1 - ws.length = 0 by omega] at h5
    rw [if_pos (show (0 : Int32) < nI (ws.length + 1) from nI_lt (a := 0) (by omega) (by omega)), k12, if_pos (k5r _), if_neg (show ¬ Int32.ofNat ((5, 64) : Nat × Nat).2 < nI (ws.length + 1) from nI_nlt (a := 64) (by omega) (by decide)), if_pos (k5s _), nI_pred, if_neg (nI_in (show ws.length < ((5, 64) : Nat × Nat).2 by show _ < 64; omega) (by decide)), nI_clamp (by omega), oq2 h5]
    rfl
/-- the signs that go, of those that wait -/
def rlT (s : Nat) : List Nat → List Nat
  | [] => []
  | t :: ws => if s ≤ stT t then t :: rlT s ws else []
def rlD (s : Nat) : List Nat → List Nat
  | [] => []
  | t :: ws => if s ≤ stT t then rlD s ws else t :: ws
def zst (ws : List Nat) : List (Nat × Int32) := ws.map fun t => (t, 0)
def fFf (v : Nat) : Nat → Nat → Bool := fun a k => fFa v a k || fFw v a k
theorem fFf_a {a k : Nat} (h : fFf v a k = false) : fFa v a k = false := (Bool.or_eq_false_iff.mp h).1
theorem fFf_w {a k : Nat} (h : fFf v a k = false) : fFw v a k = false := (Bool.or_eq_false_iff.mp h).2
theorem rl_loop {s : Nat} (hs : 1 ≤ s) (hs4 : s ≤ 4) : ∀ (ws : List Nat) (c m : Nat) (l : List (Nat × Int32)) (S : St), FS v l S → WT v ws S → l.length + ws.length ≤ 1000 → c + ws.length < 64 → ws.length < m → ∃ S', o_fo_release_2 m v (nI s) (nI c) S = some ((), S') ∧ FS v (l ++ zst (rlT s ws)) S' ∧ WT v (rlD s ws) S' ∧ Fr (fFf v) S S'
  | [], c, m, l, S, hF, hW, hl, hc, hm => by
    obtain ⟨m, rfl, hm⟩ := fuel hm
    obtain ⟨k0, k4', k8, k12, k16, k20⟩ := hF.1
    have hc : c < 64 := hc
    refine ⟨S, ?_, ?_, hW, Fr.rf⟩
    · rw [o_fo_release_2, if_pos k0, k12, if_pos (k5r _), if_pos (show nI c < Int32.ofNat ((5, 64) : Nat × Nat).2 from nI_lt (b := 64) hc (by decide)), fo_last hW, bnq]
      rfl
    · have e : l ++ zst (rlT s []) = l := List.append_nil _
      rw [e]
      exact hF
  | t :: ws, c, m, l, S, hF, hW, hl, hc, hm => by
    obtain ⟨m, rfl, hm⟩ := fuel hm
    obtain ⟨k0, k4', k8, k12, k16, k20⟩ := hF.1
    rw [List.length_cons] at hl hc hm
    have ht : t < 42 := hW.2.2.2.2 t List.mem_cons_self
    have h4 := stT_le t
    rw [o_fo_release_2, if_pos k0, k12, if_pos (k5r _), if_pos (show nI c < Int32.ofNat ((5, 64) : Nat × Nat).2 from nI_lt (b := 64) (by omega) (by decide)), fo_last hW, bnq, oq2 (show (t :: ws).head?.map (fun t => 1000 + t) = some (1000 + t) from rfl), kt ht, if_pos rfl, stT_all t ht, rlT, rlD]
    by_cases q : s ≤ stT t
    · obtain ⟨S1, a1, a2, a3⟩ := fo_add hF (by omega) ht 0
      obtain ⟨S2, b1', b2, b3⟩ := fo_drop (hW.fa a3)
      obtain ⟨S', e1, e2, e3, e4⟩ := rl_loop hs hs4 ws (c + 1) m (l ++ [(t, 0)]) S2 (a2.fw b3) b2 (by rw [List.length_append]; show l.length + 1 + _ ≤ _; omega) (by omega) (by omega)
      rw [if_pos q, if_pos q, if_neg (nI_nlt (by omega) (by omega)), if_neg (nI_ne0 (by omega) (by omega)), a1, bnq, b1', bnq, ltq, nI_1]
      refine ⟨S', e1, ?_, e3, ((a3.mo fun a k q => fFf_a q).tr (b3.mo fun a k q => fFf_w q)).tr e4⟩
      rw [List.append_assoc] at e2
      exact e2
    · rw [if_neg q, if_neg q, if_pos (nI_lt (by omega) (by omega))]
      refine ⟨S, rfl, ?_, hW, Fr.rf⟩
      have e : l ++ zst [] = l := List.append_nil _
      rw [e]
      exact hF
theorem fo_release (hF : FS v l S) (hW : WT v ws S) {s : Nat} (hs : 1 ≤ s) (hs4 : s ≤ 4) (hl : l.length + ws.length ≤ 1000) : ∃ S', o_fo_release v (nI s) S = some ((), S') ∧ FS v (l ++ zst (rlT s ws)) S' ∧ WT v (rlD s ws) S' ∧ Fr (fFf v) S S' := by
  have h64 := hW.2.2.1
  exact rl_loop hs hs4 ws 0 FU l S hF hW hl (by omega) (by unfold FU; omega)
/-- nots that end -/
def ntN : List Nat → Nat
  | [] => 0
  | t :: ws => if t = 7 then ntN ws + 1 else 0
theorem ntN_le : ∀ ws : List Nat, ntN ws ≤ ws.length
  | [] => Nat.le_refl _
  | t :: ws => by
    have ih := ntN_le ws
    rw [ntN, List.length_cons]
    by_cases q : t = 7
    · rw [if_pos q]
      omega
    · rw [if_neg q]
      omega
theorem nt_loop : ∀ (ws : List Nat) (c d m : Nat) (l : List (Nat × Int32)) (S : St), FS v l S → WT v ws S → l.length + ws.length ≤ 1000 → c + ws.length < 64 → ws.length < m → ∃ S', o_fo_releaseNots_4 m v (nI d) (nI c) S = some (nI (d + ntN ws), S') ∧ FS v (l ++ List.replicate (ntN ws) (7, 0)) S' ∧ WT v (ws.drop (ntN ws)) S' ∧ Fr (fFf v) S S'
  | [], c, d, m, l, S, hF, hW, hl, hc, hm => by
    obtain ⟨m, rfl, hm⟩ := fuel hm
    obtain ⟨k0, k4', k8, k12, k16, k20⟩ := hF.1
    have hc : c < 64 := hc
    refine ⟨S, ?_, ?_, hW, Fr.rf⟩
    · rw [o_fo_releaseNots_4, if_pos k0, k12, if_pos (k5r _), if_pos (show nI c < Int32.ofNat ((5, 64) : Nat × Nat).2 from nI_lt (b := 64) hc (by decide)), fo_last hW, bnq]
      rfl
    · have e : l ++ List.replicate (ntN []) ((7 : Nat), (0 : Int32)) = l := List.append_nil _
      rw [e]
      exact hF
  | t :: ws, c, d, m, l, S, hF, hW, hl, hc, hm => by
    obtain ⟨m, rfl, hm⟩ := fuel hm
    obtain ⟨k0, k4', k8, k12, k16, k20⟩ := hF.1
    rw [List.length_cons] at hl hc hm
    have ht : t < 42 := hW.2.2.2.2 t List.mem_cons_self
    have h7 : KO.1 1007 = (20, 7) := kt (t := 7) (by decide)
    rw [o_fo_releaseNots_4, if_pos k0, k12, if_pos (k5r _), if_pos (show nI c < Int32.ofNat ((5, 64) : Nat × Nat).2 from nI_lt (b := 64) (by omega) (by decide)), fo_last hW, bnq, oq2 (show (t :: ws).head?.map (fun t => 1000 + t) = some (1000 + t) from rfl), kt ht, h7, if_pos ⟨Or.inr rfl, Or.inr rfl⟩, ntN]
    by_cases q : t = 7
    · subst q
      obtain ⟨S1, a1, a2, a3⟩ := fo_add hF (by omega) ht 0
      obtain ⟨S2, b1', b2, b3⟩ := fo_drop (hW.fa a3)
      obtain ⟨S', e1, e2, e3, e4⟩ := nt_loop ws (c + 1) (d + 1) m (l ++ [(7, 0)]) S2 (a2.fw b3) b2 (by rw [List.length_append]; show l.length + 1 + _ ≤ _; omega) (by omega) (by omega)
      rw [if_pos rfl, if_pos rfl, a1, bnq, b1', bnq, ltq, nI_1, ltq, nI_1]
      refine ⟨S', ?_, ?_, ?_, ((a3.mo fun a k q => fFf_a q).tr (b3.mo fun a k q => fFf_w q)).tr e4⟩
      · rw [show d + (ntN ws + 1) = d + 1 + ntN ws by omega]
        exact e1
      · rw [List.append_assoc] at e2
        exact e2
      · exact e3
    · rw [if_neg q, if_neg (by omega)]
      refine ⟨S, rfl, ?_, hW, Fr.rf⟩
      have e : l ++ List.replicate 0 ((7 : Nat), (0 : Int32)) = l := List.append_nil _
      rw [e]
      exact hF
theorem fo_nots (hF : FS v l S) (hW : WT v ws S) (hl : l.length + ws.length ≤ 1000) : ∃ S', o_fo_releaseNots v S = some (nI (ntN ws), S') ∧ FS v (l ++ List.replicate (ntN ws) (7, 0)) S' ∧ WT v (ws.drop (ntN ws)) S' ∧ Fr (fFf v) S S' := by
  have h64 := hW.2.2.1
  obtain ⟨S', e1, e2⟩ := nt_loop ws 0 0 FU l S hF hW hl (by omega) (by unfold FU; omega)
  rw [Nat.zero_add] at e1
  exact ⟨S', e1, e2⟩
theorem fo_clear (hK : FK v) (S : St) : ∃ S', o_fo_clear v S = some ((), S') ∧ FS v [] S' ∧ WT v [] S' ∧ Fr (fFf v) S S' := by
  refine ⟨wI (wI S v 5 0) v 6 0, ?_, ⟨hK, ?_, by decide, fun i hi => absurd hi (Nat.not_lt_zero _)⟩, ⟨hK, rI_wI, by decide, fun i hi => absurd hi (Nat.not_lt_zero _), fun x hx => by cases hx⟩, (Fr.wI (by simp [fFf, fFa])).tr (Fr.wI (by simp [fFf, fFw]))⟩
  · unfold o_fo_clear
    rw [if_pos hK.1, ltq (wI S v 5 0), ltq]
  · rw [rI_wI_k (by decide), rI_wI]
    rfl
/-- a second comparison is refused -/
theorem fo_before (hF : FS v l S) (hW : WT v ws S) (hl : l.length + ws.length ≤ 1000) (ht : t < 42) (hst : 0 < stT t) : ∃ S', o_fo_releaseBefore v (1000 + t) S = some (bI (!(decide (stT t = 2) && decide ((rlD 3 ws).head?.map stT = some 2))), S') ∧ FS v (l ++ zst (rlT (if stT t = 2 then 3 else stT t) ws)) S' ∧ WT v (rlD (if stT t = 2 then 3 else stT t) ws) S' ∧ Fr (fFf v) S S' := by
  have h4 := stT_le t
  obtain ⟨k0, k4', k8, k12, k16, k20⟩ := hF.1
  unfold o_fo_releaseBefore o_fo_releaseBefore_13 o_fo_releaseBefore_27 o_fo_releaseBefore_51 o_fo_releaseBefore_56
  rw [kt ht, if_pos rfl, stT_all t ht]
  by_cases q : stT t = 2
  · obtain ⟨S', e1, e2, e3, e4⟩ := fo_release hF hW (s := 3) (by decide) (by decide) hl
    rw [if_pos (show nI (stT t) = 2 by rw [q]; rfl), if_neg (by decide), if_pos k0, (show o_fo_release v 3 S = _ from e1), bnq, if_pos k0, fo_last e3, bnq, if_pos q, decide_eq_true q, Bool.true_and]
    cases hd : rlD 3 ws with
    | nil =>
      rw [hd] at e3
      refine ⟨S', ?_, e2, e3, e4⟩
      show (if (1 : Int32) = 0 then (if isBo 1 = true then some ((1 : Int32), S') else none) else (if isBo 1 = true then some ((1 : Int32), S') else none) : Re Int32) = _
      rw [if_neg (by decide), if_pos b1]
      rfl
    | cons x xs =>
      rw [hd] at e3
      have hx : x < 42 := e3.2.2.2.2 x List.mem_cons_self
      refine ⟨S', ?_, e2, e3, e4⟩
      rw [oq2 (show (x :: xs).head?.map (fun t => 1000 + t) = some (1000 + x) from rfl), if_neg (by decide), kt hx, if_pos rfl, stT_all x hx]
      have hx4 := stT_le x
      by_cases q2 : stT x = 2
      · rw [if_pos (by rw [q2]; rfl), decide_eq_true (show (x :: xs).head?.map stT = some 2 by show some (stT x) = some 2; rw [q2]), if_pos b0]
        rfl
      · rw [if_neg (show ¬ nI (stT x) = 2 from nI_ne (b := 2) q2 (by omega) (by decide)), decide_eq_false (show ¬ (x :: xs).head?.map stT = some 2 from fun c => q2 (Option.some.inj c)), if_pos b1]
        rfl
  · obtain ⟨S', e1, e2, e3, e4⟩ := fo_release hF hW (s := stT t) (by omega) (by omega) hl
    rw [if_neg (show ¬ nI (stT t) = 2 from nI_ne (b := 2) q (by omega) (by decide)), if_pos rfl, if_pos rfl, if_pos k0, e1, bnq, if_pos k0, fo_last e3, bnq, if_neg q, decide_eq_false q, Bool.false_and]
    refine ⟨S', ?_, e2, e3, e4⟩
    cases (rlD (stT t) ws).head?.map (fun t => 1000 + t) with
    | none => rfl
    | some y => rfl
end FORMS
