/-! Reading a law: what the loop holds. -/
section READS
variable {n p b k i line f fr : Nat} {w : List Nat} {tx : Nat → Int32} {So Sm S S' So' Sm' : St} {P Q : Nat → Nat → Bool} {l : List (Nat × Int32)} {cs : List Nat} {sh r : List Sh} {s : Sh}
def zS : Sh := (0, 0, 0, 0, false)
def cntO : List Sh → Nat
  | s :: t :: r => (if s.2.2.2.2 = true then 0 else 1) + cntO (t :: r)
  | _ => 0
/-- the reference's codes -/
def CD (fr : Nat) (cs : List Nat) (S : St) : Prop := rI S 500 32 = nI (fr + cs.length) ∧ ∀ i, i < cs.length → rI S 523 (fr + i) = nI (cs.getD i 0) ∧ cs.getD i 0 < 20000
def fPc (fr : Nat) : Nat → Nat → Bool := fun a k => (a == 523 && decide (fr ≤ k)) || (a == 500 && k == 32)
theorem m_puts_ok (h : CD fr cs S) (hl : fr + cs.length < 2000) {c : Nat} (hc : c < 20000) : ∃ S', m_puts (nI c) S = some ((), S') ∧ CD fr (cs ++ [c]) S' ∧ Fr (fPc fr) S S' := by
  have f1 : Fr (fPc fr) S (wI (wI S 523 (fr + cs.length) (nI c)) 500 32 (nI (fr + cs.length + 1))) := (Fr.wI (by unfold fPc; simp)).tr (Fr.wI (by unfold fPc; simp))
  refine ⟨_, ?_, ⟨?_, fun i hi => ?_⟩, f1⟩
  · unfold m_puts
    rw [h.1, if_neg (nI_in (by omega) (by omega)), nI_clamp (by omega), ltq (wI S 523 _ _), rI_wI_a (show 500 ≠ 523 by decide), h.1, nI_1, ltq]
  · rw [rI_wI, List.length_append]
    rfl
  · rw [List.length_append] at hi
    have hi : i < cs.length + 1 := hi
    rw [rI_wI_a (show 523 ≠ 500 by decide)]
    by_cases q : i = cs.length
    · rw [q, getD_ae, rI_wI]
      exact ⟨rfl, hc⟩
    · rw [getD_ap cs _ _ (show i < cs.length by omega), rI_wI_k (by omega)]
      exact h.2 i (by omega)
theorem CD.fr' (h : CD fr cs S) (hf : Fr P S S') (h1 : P 500 32 = false) (h2 : ∀ k, P 523 k = false) : CD fr cs S' := ⟨(hf.i h1).trans h.1, fun i hi => by rw [hf.i (h2 _)]; exact h.2 i hi⟩
/-- what the reference keeps of the frames -/
def OPN (sh : List Sh) (S : St) : Prop := ∀ d, d < sh.length → (1 ≤ d → rI S 524 d = if (sh.getD (sh.length - 1 - d) zS).2.2.2.2 = true then 1 else 2) ∧ rI S 525 d = bI (!decide ((sh.getD (sh.length - 1 - d) zS).2.1 = 0))
theorem OPN.fw (h : OPN sh S) (hf : Fr P S S') (h1 : ∀ k, P 524 k = false ∧ P 525 k = false) : OPN sh S' := fun d hd => by
  rw [hf.i (h1 _).1, hf.i (h1 _).2]
  exact h d hd
theorem OPN.tl (h : OPN (s :: r) S) : OPN r S := fun d hd => by
  have := h d (by rw [List.length_cons]; omega)
  rw [List.length_cons, show r.length + 1 - 1 - d = (r.length - 1 - d) + 1 by omega, List.getD_cons_succ] at this
  exact this
theorem OPN.pn (S : St) : ∀ (sh : List Sh), OPN sh S → OPN (pnS sh) S
  | [], h => h
  | [s], h => h
  | s :: t :: r, h => by
    rw [pnS]
    by_cases q : s.2.2.2.2 = true
    · rw [if_pos q]
      exact OPN.pn S (t :: r) h.tl
    · rw [if_neg q]
      exact h
theorem pnS_len : ∀ (sh : List Sh), (∀ s ∈ sh, okS s) → (pnS sh).length + ntN (wsF sh) = sh.length ∧ (sh ≠ [] → pnS sh ≠ []) ∧ (∀ s ∈ pnS sh, okS s) ∧ cntO (pnS sh) = cntO sh ∧ (∀ s t r, pnS sh = s :: t :: r → s.2.2.2.2 = false)
  | [], h => ⟨rfl, fun q => absurd rfl q, h, rfl, fun s t r q => by cases q⟩
  | [s], h => by
    have : ntN (wsF [s]) = 0 := by
      have := ntN_F s (R := []) (fun _ => rfl)
      rw [List.append_nil] at this
      exact this
    rw [this]
    exact ⟨rfl, fun q => q, h, rfl, fun s t r q => by cases q⟩
  | s :: t :: r, h => by
    have ih := pnS_len (t :: r) fun x hx => h x (List.mem_cons_of_mem _ hx)
    rw [pnS, wsF]
    by_cases q : s.2.2.2.2 = true
    · rw [if_pos q, if_pos q, tkF_no (h s List.mem_cons_self) q, List.nil_append, ntN, if_pos rfl, cntO, if_pos q, Nat.zero_add, List.length_cons]
      refine ⟨by omega, fun _ => ih.2.1 (by simp), ih.2.2.1, ih.2.2.2.1, ih.2.2.2.2⟩
    · rw [if_neg q, if_neg q]
      have : ntN (tkF s ++ 4 :: wsF (t :: r)) = 0 := ntN_F s fun _ => by rw [ntN, if_neg (by decide)]
      rw [this]
      refine ⟨rfl, fun q => q, h, rfl, fun s' t' r' e => ?_⟩
      injection e with e1 e2
      rw [← e1]
      cases hh : s.2.2.2.2 with
      | true => exact absurd hh q
      | false => rfl
theorem ifl {c : Prop} [Decidable c] (x : Nat) : (if c then [] else [x] : List Nat).length ≤ 1 := by
  by_cases h : c
  · rw [if_pos h]
    exact Nat.zero_le _
  · rw [if_neg h]
    exact Nat.le_refl _
theorem tkF_len (s : Sh) : (tkF s).length ≤ 4 := by
  have h1 : (tT s).length ≤ 1 := ifl _
  have h2 : (sT s).length ≤ 1 := ifl _
  have h3 : (cT s).length ≤ 1 := ifl _
  have h4 : (kkT s).length ≤ 1 := ifl _
  unfold tkF
  rw [List.length_append, List.length_append, List.length_append]
  omega
theorem wsF_len : ∀ sh : List Sh, (wsF sh).length ≤ 5 * sh.length
  | [] => Nat.le_refl _
  | [s] => by
    have := tkF_len s
    show (tkF s).length ≤ 5
    omega
  | s :: t :: r => by
    have h1 := tkF_len s
    have h2 := wsF_len (t :: r)
    rw [wsF, List.length_append, List.length_cons, List.length_cons]
    omega
/-- nots end: the reference's way -/
theorem m_nots (k11 : Int32 → Int32 → St → Re Int32) (v2 : Int32) (S : St) : ∀ (sh : List Sh) (m : Nat), OPN sh S → sh ≠ [] → sh.length ≤ 6 → sh.length < m → m_reads_152 k11 m (nI (sh.length - 1)) v2 S = m_reads_172 k11 (nI ((pnS sh).length - 1)) v2 S ∧ m_reads_379 k11 m (nI (sh.length - 1)) v2 S = m_reads_424 k11 (nI ((pnS sh).length - 1)) v2 S
  | [], m, h, hne, hl, hm => absurd rfl hne
  | [s], m, h, hne, hl, hm => by
    obtain ⟨m, rfl, hm⟩ := fuel hm
    rw [m_reads_152, m_reads_379]
    show (if (0 : Int32) < nI 0 then _ else _) = _ ∧ (if (0 : Int32) < nI 0 then _ else _) = _
    rw [if_neg (by decide), if_neg (by decide)]
    exact ⟨rfl, rfl⟩
  | s :: t :: r, m, h, hne, hl, hm => by
    obtain ⟨m, rfl, hm⟩ := fuel hm
    have ih := m_nots k11 v2 S (t :: r) m h.tl (by simp) (by rw [List.length_cons] at hl; omega) (by rw [List.length_cons] at hm; omega)
    have h1 := (h (r.length + 1) (by rw [List.length_cons, List.length_cons]; omega)).1 (by omega)
    rw [List.length_cons, List.length_cons, show r.length + 1 + 1 - 1 - (r.length + 1) = 0 by omega] at h1
    have h1 : rI S 524 (r.length + 1) = if s.2.2.2.2 = true then 1 else 2 := h1
    rw [List.length_cons, List.length_cons] at hl
    have ed : nI (r.length + 1) + (-1 : Int32) = nI r.length := by rw [← Int32.sub_eq_add_neg, nI_pred]
    rw [m_reads_152, m_reads_379, List.length_cons, List.length_cons, show r.length + 1 + 1 - 1 = r.length + 1 by omega, if_pos (show (0 : Int32) < nI (r.length + 1) from nI_lt (a := 0) (by omega) (by omega)), if_pos (show (0 : Int32) < nI (r.length + 1) from nI_lt (a := 0) (by omega) (by omega)), if_neg (nI_in (by omega) (by omega)), if_neg (nI_in (by omega) (by omega)), nI_clamp (by omega), h1, pnS]
    by_cases q : s.2.2.2.2 = true
    · rw [if_pos q, if_pos rfl, if_pos rfl, if_pos q, ed, ltq, ltq]
      rw [List.length_cons, show r.length + 1 - 1 = r.length by omega] at ih
      exact ih
    · rw [if_neg q, if_neg q, if_neg (show ¬ (2 : Int32) = 1 by decide), if_neg (show ¬ (2 : Int32) = 1 by decide), List.length_cons, List.length_cons, show r.length + 1 + 1 - 1 = r.length + 1 by omega]
      exact ⟨rfl, rfl⟩
/-- the state of the reading -/
def PLS (line f fr : Nat) (l : List (Nat × Int32)) (sh : List Sh) (cs : List Nat) (b : Nat) (So Sm : St) : Prop := FS f l So ∧ WT f (wsF sh) So ∧ CD fr cs Sm ∧ OPN sh Sm ∧ rI So 3 7 = 0 ∧ rI Sm 500 33 = nI line ∧ (∀ s ∈ sh, okS s) ∧ (1 ≤ sh.length ∧ sh.length ≤ 6) ∧ l.length + (wsF sh).length ≤ b ∧ fr + cs.length ≤ 1000 + b
theorem PLS.t (hf : 34 ≤ f ∧ f ≤ 37) (h : PLS line f fr l sh cs b So Sm) (fo : Fr fTo So So') (fm : Fr fTm Sm Sm') {b' : Nat} (hb : b ≤ b') : PLS line f fr l sh cs b' So' Sm' := by
  obtain ⟨h1, h2, h3, h4, h5, h6, h7, h8, h9, h10⟩ := h
  refine ⟨h1.fr fo (fTo_n (by omega)) (fun k => fTo_n (by omega)) (fun k => fTo_n (by omega)), h2.fr fo (fTo_n (by omega)) (fun k => fTo_n (by omega)), h3.fr' fm (by rfl) (fun k => rfl), h4.fw fm (fun k => ⟨rfl, rfl⟩), (fo.i (by rfl)).trans h5, (fm.i (by rfl)).trans h6, h7, h8, by omega, by omega⟩
/-- what the handling of a token touches -/
def fPo (f : Nat) : Nat → Nat → Bool := fun a k => fFf f a k
def fPm (fr : Nat) : Nat → Nat → Bool := fun a k => (a == 523 && decide (fr ≤ k)) || a == 524 || a == 525 || (a == 500 && k == 32)
def fRo (f : Nat) : Nat → Nat → Bool := fun a k => fTo a k || fFf f a k
def fRm (fr : Nat) : Nat → Nat → Bool := fun a k => fTm a k || (a == 523 && decide (fr ≤ k)) || a == 524 || a == 525 || (a == 500 && (k == 9 || k == 32))
theorem fFf_n {a k : Nat} (h : a ≠ f) (h2 : a ≠ f + 4 ∧ a ≠ f + 8 ∧ a ≠ f + 12) : fFf f a k = false := by
  unfold fFf fFa fFw
  simp
  omega
theorem fRo_T {a k : Nat} (h : fRo f a k = false) : fTo a k = false := (Bool.or_eq_false_iff.mp h).1
theorem fRo_F {a k : Nat} (h : fRo f a k = false) : fFf f a k = false := (Bool.or_eq_false_iff.mp h).2
theorem fRm_T {a k : Nat} (h : (fRm fr) a k = false) : fTm a k = false := by
  unfold fRm at h
  simp only [Bool.or_eq_false_iff] at h
  exact h.1.1.1.1
theorem fRm_P {a k : Nat} (h : (fRm fr) a k = false) : (fPm fr) a k = false := by
  unfold fRm at h
  unfold fPm
  simp at h ⊢
  omega
theorem fRm_9 {a k : Nat} (h : (fRm fr) a k = false) : (a == 500 && k == 9) = false := by
  unfold fRm at h
  simp at h ⊢
  omega
theorem fPm_c {a k : Nat} (h : (fPm fr) a k = false) : (fPc fr) a k = false := by
  unfold fPm at h
  unfold fPc
  simp at h ⊢
  omega
theorem TK.po (hf : 34 ≤ f ∧ f ≤ 37) (h : TXR n tx So Sm) (fo : Fr (fFf f) So So') (fm : Fr (fPm fr) Sm Sm') : TXR n tx So' Sm' := h.fr fo fm (fFf_n (by omega) (by omega)) (fun k => fFf_n (by omega) (by omega)) rfl (fun k => rfl)
/-- how the reading of a law ends -/
def DONE (n : Nat) (tx : Nat → Int32) (line f fr b0 : Nat) (r : Int32) (z : Bool) (So' Sm' : St) : Prop :=
  (z = true ∧ r = 0 ∧ ∃ l cs w b p Sm0, TK n tx 6 w b p So' Sm0 ∧ m_nextToken Sm0 = some ((), Sm') ∧ FS f l So' ∧ CD fr cs Sm' ∧ LW line l cs ∧ rI So' 3 7 = 0 ∧ cs ≠ [] ∧ b0 ≤ b ∧ fr + cs.length ≤ 1000 + b) ∨
  (z = false ∧ ∃ k b, rQ So' 3 6 = some (1000 + k) ∧ k < 42 ∧ rI So' 3 3 = nI b ∧ b ≤ 1000 ∧ rI So' 3 7 = 0 ∧ ((r = 0 ∧ ¬ k = 6 ∧ rI Sm' 500 9 = 1 + 16 * nI b) ∨ ∃ j, (j = 1 ∨ j = 5) ∧ r = nI j ∧ rI Sm' 500 9 = nI j + 16 * nI b))
theorem DONE.le {r : Int32} {z : Bool} {b0 b1 : Nat} (h : DONE n tx line f fr b1 r z So' Sm') (hb : b0 ≤ b1) : DONE n tx line f fr b0 r z So' Sm' := by
  rcases h with ⟨h1, h2, l, cs, w, b, p, S0, h3, h4, h5, h6, h7, h8, h9, h10, h11⟩ | h
  · exact Or.inl ⟨h1, h2, l, cs, w, b, p, S0, h3, h4, h5, h6, h7, h8, h9, by omega, h11⟩
  · exact Or.inr h
theorem m_fails_ok (j : Int32) (S : St) (hb : rI S 500 5 = nI b) : m_fails j S = some (0, wI S 500 9 (j + 16 * nI b)) := by
  unfold m_fails
  rw [hb, ltq]
/-- both refuse -/
theorem bad_end (h : TK n tx k w b p So Sm) (fo : Fr (fFf f) So So') (fm : Fr (fPm fr) Sm Sm') (hf : 34 ≤ f ∧ f ≤ 37) (h7 : rI So 3 7 = 0) {j : Nat} (hj : j = 1 ∨ j = 5) {b0 : Nat} {r : Int32} (hr : (j = 1 ∧ r = 0 ∧ ¬ k = 6) ∨ r = nI j) : DONE n tx line f fr b0 r false So' (wI Sm' 500 9 (nI j + 16 * nI b)) := by
  have hn := h.1.1
  have hb := h.2.2.2.1
  refine Or.inr ⟨rfl, k, b, ?_, h.lt, ?_, by omega, ?_, ?_⟩
  · rw [fo.q (fFf_n (by omega) (by omega))]
    exact h.q
  · rw [fo.i (fFf_n (by omega) (by omega))]
    exact h.2.2.1.1
  · rw [fo.i (fFf_n (by omega) (by omega))]
    exact h7
  · rcases hr with ⟨rfl, rfl, hk⟩ | rfl
    · exact Or.inl ⟨rfl, hk, rI_wI⟩
    · exact Or.inr ⟨j, hj, rfl, rI_wI⟩
theorem fFf_O : Fr (fFf f) S S' → Fr (fRo f) S S' := fun h => h.mo fun _ _ q => fRo_F q
theorem fPm_M : Fr (fPm fr) S S' → Fr (fRm fr) S S' := fun h => h.mo fun _ _ q => fRm_P q
end READS
