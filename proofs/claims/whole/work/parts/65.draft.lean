/-! Reading an orchard: the draft, on both sides. -/
section DRAFT
variable {n p b k i d s s' c' : Nat} {w : List Nat} {tx : Nat → Int32} {T T' So Sm S S' So' Sm' : St} {P Q : Nat → Nat → Bool} {W V : Nat → List Nat} {c : Nat → Nat}
/-- where the reference's draft begins -/
def shf (a : Nat) : Nat := if a = 502 then 6 else if a = 503 then 16 else if a = 504 then 5 else if a ≤ 511 then 10 else if a ≤ 514 then 5 else if a ≤ 516 then 6 else if a = 517 then 40 else 4
/-- the reference's draft holds T -/
def OMs (T Sm : St) : Prop := (∀ a k, oc a k = true → a ≤ 520 → rI Sm a (shf a + k) = rI T a k) ∧ ∀ a k, oc a k = true → a ≤ 504 → rJ Sm a (shf a + k) = rJ T a k
theorem OMs.wI (h : OMs T Sm) {a j : Nat} {x : Int32} (hj : j = shf a + k) : OMs (wI T a k x) (wI Sm a j x) := by
  subst hj
  refine ⟨fun b i h1 h2 => ?_, h.2⟩
  by_cases q : b = a
  · subst q
    by_cases q2 : i = k
    · subst q2
      rw [rI_wI, rI_wI]
    · rw [rI_wI_k q2, rI_wI_k (by omega)]
      exact h.1 b i h1 h2
  · rw [rI_wI_a q, rI_wI_a q]
    exact h.1 b i h1 h2
theorem OMs.wJ (h : OMs T Sm) {a j : Nat} {x : Int64} (hj : j = shf a + k) : OMs (wJ T a k x) (wJ Sm a j x) := by
  subst hj
  refine ⟨h.1, fun b i h1 h2 => ?_⟩
  by_cases q : b = a
  · subst q
    by_cases q2 : i = k
    · subst q2
      rw [rJ_wJ, rJ_wJ]
    · rw [rJ_wJ_k q2, rJ_wJ_k (by omega)]
      exact h.2 b i h1 h2
  · rw [rJ_wJ_a q, rJ_wJ_a q]
    exact h.2 b i h1 h2
/-- what stays of a draft while other cells change -/
theorem OMs.fr (h : OMs T Sm) (f : Fr P Sm Sm') (hp : ∀ a k, 502 ≤ a → a ≤ 520 → P a k = false) : OMs T Sm' := by
  have oc502 : ∀ a k, oc a k = true → 502 ≤ a := fun a k q => by
    unfold oc at q
    simp at q
    omega
  exact ⟨fun a k h1 h2 => (f.i (hp a _ (oc502 a k h1) h2)).trans (h.1 a k h1 h2), fun a k h1 h2 => (f.j (hp a _ (oc502 a k h1) (by omega))).trans (h.2 a k h1 h2)⟩
theorem fCm_d {a k : Nat} (h : 502 ≤ a) (h2 : a ≤ 520) : fCm a k = false := fCm_n (by omega)
/-! what a draft may hold -/
def bA (T : St) (c s : Nat) : Prop := ∀ a, a < c → IsN T 505 a s ∧ IsN T 506 a 4 ∧ IsN T 507 a 12 ∧ IsN T 508 a 12 ∧ IsN T 509 a 61 ∧ IsN T 510 a 100
def bTw (T : St) (c : Nat) : Prop := ∀ a, a < c → rI T 511 a = -1 ∨ (IsN T 511 a c ∧ vN T 511 a ≠ a ∧ rI T 511 (vN T 511 a) = nI a)
def bPe (T : St) (c : Nat) : Prop := ∀ p, p < c → IsN T 512 p 12 ∧ IsN T 513 p 7 ∧ IsN T 514 p 27
def bSr (T : St) (c s : Nat) : Prop := ∀ g, g < c → IsN T 515 g s ∧ IsN T 516 g 11
def bPg (T : St) (c a : Nat) : Prop := ∀ q, q < c → IsN T 518 q 11 ∧ ∀ k, k < vN T 518 q → IsN T 517 (10 * q + k) a
def bBn (T : St) (c s : Nat) : Prop := ∀ b, b < c → IsN T 519 b s ∧ IsN T 520 b s
def bW (T : St) (c : Nat) (W : Nat → List Nat) : Prop := ∀ k, k < c → WD (W k) ∧ rJ T 503 k = lN (p27 0 (W k))
def bV (T : St) (c : Nat) (V : Nat → List Nat) : Prop := ∀ k, k < c → WD (V k) ∧ rJ T 504 k = lN (p27 0 (V k))
theorem IsN.mo {a j m m' : Nat} (h : IsN T a j m) (hm : m ≤ m') : IsN T a j m' := ⟨h.1, Nat.lt_of_lt_of_le h.2 hm⟩
theorem IsN.ex {a j m : Nat} (h : IsN T a j m) (e : rI T' a j = rI T a j) : IsN T' a j m := by
  unfold IsN vN at *
  rw [e]
  exact h
theorem IsN.nI {a j m x : Nat} (e : rI T a j = nI x) (hx : x < m) (hm : m < 2 ^ 31) : IsN T a j m := by
  unfold IsN vN
  rw [e, nI_clamp (by omega)]
  exact ⟨rfl, hx⟩
theorem vN_ex {a j : Nat} (e : rI T' a j = rI T a j) : vN T' a j = vN T a j := by
  unfold vN
  rw [e]
theorem bA.ex (h : bA T k s) (e : ∀ a j, 505 ≤ a → a ≤ 510 → rI T' a j = rI T a j) (hs : s ≤ s') : bA T' k s' := fun a ha => by
  obtain ⟨h1, h2, h3, h4, h5, h6⟩ := h a ha
  exact ⟨(h1.ex (e _ _ (by decide) (by decide))).mo hs, h2.ex (e _ _ (by decide) (by decide)), h3.ex (e _ _ (by decide) (by decide)), h4.ex (e _ _ (by decide) (by decide)), h5.ex (e _ _ (by decide) (by decide)), h6.ex (e _ _ (by decide) (by decide))⟩
theorem bTw.ex (h : bTw T k) (e : ∀ j, rI T' 511 j = rI T 511 j) : bTw T' k := fun a ha => by
  rcases h a ha with h | ⟨h1, h2, h3⟩
  · exact Or.inl ((e a).trans h)
  · refine Or.inr ⟨h1.ex (e a), ?_, ?_⟩
    · rw [vN_ex (e a)]
      exact h2
    · rw [vN_ex (e a), e]
      exact h3
theorem bPe.ex (h : bPe T k) (e : ∀ a j, 512 ≤ a → a ≤ 514 → rI T' a j = rI T a j) : bPe T' k := fun p hp => by
  obtain ⟨h1, h2, h3⟩ := h p hp
  exact ⟨h1.ex (e _ _ (by decide) (by decide)), h2.ex (e _ _ (by decide) (by decide)), h3.ex (e _ _ (by decide) (by decide))⟩
theorem bSr.ex (h : bSr T k s) (e : ∀ a j, 515 ≤ a → a ≤ 516 → rI T' a j = rI T a j) (hs : s ≤ s') : bSr T' k s' := fun g hg => by
  obtain ⟨h1, h2⟩ := h g hg
  exact ⟨(h1.ex (e _ _ (by decide) (by decide))).mo hs, h2.ex (e _ _ (by decide) (by decide))⟩
theorem bPg.ex (h : bPg T k s) (e : ∀ a j, 517 ≤ a → a ≤ 518 → rI T' a j = rI T a j) (hs : s ≤ s') : bPg T' k s' := fun q hq => by
  obtain ⟨h1, h2⟩ := h q hq
  refine ⟨h1.ex (e _ _ (by decide) (by decide)), fun j hj => ?_⟩
  rw [vN_ex (e 518 q (by decide) (by decide))] at hj
  exact ((h2 j hj).ex (e _ _ (by decide) (by decide))).mo hs
theorem bBn.ex (h : bBn T k s) (e : ∀ a j, 519 ≤ a → a ≤ 520 → rI T' a j = rI T a j) (hs : s ≤ s') : bBn T' k s' := fun g hg => by
  obtain ⟨h1, h2⟩ := h g hg
  exact ⟨(h1.ex (e _ _ (by decide) (by decide))).mo hs, (h2.ex (e _ _ (by decide) (by decide))).mo hs⟩
theorem bW.ex (h : bW T k W) (e : ∀ j, rJ T' 503 j = rJ T 503 j) : bW T' k W := fun j hj => ⟨(h j hj).1, (e j).trans (h j hj).2⟩
theorem bV.ex (h : bV T k V) (e : ∀ j, rJ T' 504 j = rJ T 504 j) : bV T' k V := fun j hj => ⟨(h j hj).1, (e j).trans (h j hj).2⟩
/-- a draft: c counts apples, sounds, people, strangers, pages, banns -/
def DRW (c : Nat → Nat) (T : St) (W V : Nat → List Nat) : Prop := (∀ k, k < 6 → rI T 502 k = nI (c k)) ∧ (c 0 ≤ 10 ∧ c 1 ≤ c 0 + 6 ∧ c 0 ≤ c 1 ∧ c 2 ≤ 5 ∧ c 3 ≤ 6 ∧ c 4 ≤ 4 ∧ c 5 ≤ 4) ∧ bA T (c 0) (c 1) ∧ bTw T (c 0) ∧ bPe T (c 2) ∧ bSr T (c 3) (c 1) ∧ bPg T (c 4) (c 0) ∧ bBn T (c 5) (c 1) ∧ bW T (c 1) W ∧ bV T (c 2) V
/-- the class's draft -/
def DTB (d : Nat) (c : Nat → Nat) (T : St) (W V : Nat → List Nat) (So : St) : Prop := TB (d + 80) 10 7 (c 0) (fun a j => rI T (ccol j) a) So ∧ TB (d + 82) 5 3 (c 2) (fun p j => rI T (512 + j) p) So ∧ TB (d + 84) 6 2 (c 3) (fun g j => rI T (515 + j) g) So ∧ (∃ f, TB (d + 86) 4 11 (c 4) f So ∧ ∀ q, q < c 4 → f q 0 = rI T 518 q ∧ ∀ k, k < vN T 518 q → f q (1 + k) = rI T 517 (10 * q + k)) ∧ TB (d + 88) 4 2 (c 5) (fun b j => rI T (519 + j) b) So ∧ NW (d + 2) 16 (c 1) W So ∧ NW (d + 4) 5 (c 2) V So
/-- a law of a draft -/
def LWD (d line cd : Nat) (So Sm : St) : Prop := (rI So d (12 + line) = 0 ∧ rI Sm 521 (2 + line) = 1000 ∧ rI Sm 522 (2 + line) = 1000) ∨ (rI So d (12 + line) = 1 ∧ ∃ fr l cs, FS (d + 14 + 2 * line) l So ∧ rI Sm 521 (2 + line) = nI fr ∧ rI Sm 522 (2 + line) = nI (fr + cs.length) ∧ (∀ i, i < cs.length → rI Sm 523 (fr + i) = nI (cs.getD i 0) ∧ cs.getD i 0 < 20000) ∧ LW line l cs ∧ cs ≠ [] ∧ 1000 ≤ fr ∧ fr + cs.length ≤ cd)
/-- what holds between two lines -/
def RDS (d : Nat) (c : Nat → Nat) (T : St) (W V : Nat → List Nat) (b : Nat) (So Sm : St) : Prop := DRW c T W V ∧ OMs T Sm ∧ DTB d c T W V So ∧ ∃ cd, LWD d 0 cd So Sm ∧ LWD d 1 cd So Sm ∧ rI Sm 500 32 = nI cd ∧ 1000 ≤ cd ∧ cd ≤ 1000 + b
/-- what is told of a line -/
def dcl (a : Nat) : Bool := (decide (20 ≤ a) && decide (a ≤ 63)) || (decide (100 ≤ a) && decide (a ≤ 109)) || (decide (130 ≤ a) && decide (a ≤ 139))
def fLo (d : Nat) : Nat → Nat → Bool := fun a k => fCo a k || (dcl a && a % 2 == d % 2)
def fLm : Nat → Nat → Bool := fun a k => fCm a k || (a == 500 && (k == 32 || k == 33)) || a == 524 || a == 525 || (decide (502 ≤ a) && decide (a ≤ 523) && !oc a k)
theorem fLo_C {a k : Nat} (h : fLo d a k = false) : fCo a k = false := (Bool.or_eq_false_iff.mp h).1
theorem fLm_C {a k : Nat} (h : fLm a k = false) : fCm a k = false := by
  unfold fLm at h
  simp only [Bool.or_eq_false_iff] at h
  exact h.1.1.1.1
theorem oc_sh {a j : Nat} (h : 502 ≤ a) (h2 : a ≤ 520) : oc a (shf a + j) = false := by
  unfold oc shf
  rcases (show a = 502 ∨ a = 503 ∨ a = 504 ∨ a = 505 ∨ a = 506 ∨ a = 507 ∨ a = 508 ∨ a = 509 ∨ a = 510 ∨ a = 511 ∨ a = 512 ∨ a = 513 ∨ a = 514 ∨ a = 515 ∨ a = 516 ∨ a = 517 ∨ a = 518 ∨ a = 519 ∨ a = 520 by omega) with rfl | rfl | rfl | rfl | rfl | rfl | rfl | rfl | rfl | rfl | rfl | rfl | rfl | rfl | rfl | rfl | rfl | rfl | rfl <;> simp
theorem fLm_w {a j : Nat} (h : 502 ≤ a) (h2 : a ≤ 520) : fLm a (shf a + j) = true := by
  unfold fLm
  rw [oc_sh h h2, decide_eq_true h, decide_eq_true (show a ≤ 523 by omega)]
  simp
theorem fLm_W {a j k : Nat} {x : Int32} (h : 502 ≤ a) (h2 : a ≤ 520) (hj : j = shf a + k) : Fr fLm S (wI S a j x) := Fr.wI (by rw [hj]; exact fLm_w h h2)
theorem fLm_V {a j k : Nat} {x : Int64} (h : 502 ≤ a) (h2 : a ≤ 520) (hj : j = shf a + k) : Fr fLm S (wJ S a j x) := Fr.wJ (by rw [hj]; exact fLm_w h h2)
/-- how a line ends -/
def LEND (n : Nat) (tx : Nat → Int32) (d b : Nat) (z : Bool) (So' Sm' : St) : Prop := (z = true ∧ ∃ c T W V k w b' p, TK n tx k w b' p So' Sm' ∧ rI So' 3 7 = 0 ∧ b < b' ∧ RDS d c T W V b' So' Sm') ∨ (z = false ∧ BAD So' Sm' ∧ Dft d So')
theorem DTB.dft (h : DTB d c T W V So) : Dft d So := by
  obtain ⟨h1, h2, h3, ⟨f, h4, _⟩, h5, _⟩ := h
  exact ⟨⟨_, _, h1⟩, ⟨_, _, h2⟩, ⟨_, _, h3⟩, ⟨_, _, h4⟩, ⟨_, _, h5⟩⟩
theorem DTB.fr (h : DTB d c T W V So) (f : Fr P So So') (hp : ∀ a k, (20 ≤ a ∧ a ≤ 63) ∨ (100 ≤ a ∧ a ≤ 139) → P a k = false) (hd : d = 20 ∨ d = 21) : DTB d c T W V So' := by
  obtain ⟨h1, h2, h3, ⟨g, h4, h4'⟩, h5, h6, h7⟩ := h
  exact ⟨h1.fr f (fun k => hp _ _ (by omega)) (fun k => hp _ _ (by omega)), h2.fr f (fun k => hp _ _ (by omega)) (fun k => hp _ _ (by omega)), h3.fr f (fun k => hp _ _ (by omega)) (fun k => hp _ _ (by omega)), ⟨g, h4.fr f (fun k => hp _ _ (by omega)) (fun k => hp _ _ (by omega)), h4'⟩, h5.fr f (fun k => hp _ _ (by omega)) (fun k => hp _ _ (by omega)), h6.fr f (hp _ _ (by omega)) (fun k => hp _ _ (by omega)), h7.fr f (hp _ _ (by omega)) (fun k => hp _ _ (by omega))⟩
theorem Dft.fC (hd : d = 20 ∨ d = 21) (h : Dft d So) (f : Fr fCo So So') : Dft d So' := h.fr hd f fun a k q => by
  unfold ton at q
  exact fCo_n (by omega)
theorem LWD.fr {line cd cd' : Nat} (hl : line < 2) (hd : d = 20 ∨ d = 21) (h : LWD d line cd So Sm) (f : Fr P So So') (g : Fr Q Sm Sm') (h1 : P d (12 + line) = false) (h2 : P (d + 14 + 2 * line) 5 = false ∧ ∀ k, P (d + 14 + 2 * line + 4) k = false ∧ P (d + 14 + 2 * line + 8) k = false) (h3 : Q 521 (2 + line) = false ∧ Q 522 (2 + line) = false ∧ ∀ k, k < cd → Q 523 k = false) (hcd : cd ≤ cd') : LWD d line cd' So' Sm' := by
  rcases h with ⟨g1, g2, g3⟩ | ⟨g1, fr, l, cs, g2, g3, g4, g5, g6, g7, g8, g9⟩
  · exact Or.inl ⟨(f.i h1).trans g1, (g.i h3.1).trans g2, (g.i h3.2.1).trans g3⟩
  · refine Or.inr ⟨(f.i h1).trans g1, fr, l, cs, g2.fr f h2.1 (fun k => (h2.2 k).1) (fun k => (h2.2 k).2), (g.i h3.1).trans g3, (g.i h3.2.1).trans g4, fun i hi => ?_, g6, g7, g8, by omega⟩
    rw [g.i (h3.2.2 _ (by omega))]
    exact g5 i hi
theorem RDS.cf (hd : d = 20 ∨ d = 21) {b' : Nat} (h : RDS d c T W V b So Sm) (f : Fr fCo So So') (g : Fr fCm Sm Sm') (hb : b ≤ b') : RDS d c T W V b' So' Sm' := by
  obtain ⟨h1, h2, h3, cd, h4, h5, h6, h7, h8⟩ := h
  have hp : ∀ a k, (20 ≤ a ∧ a ≤ 63) ∨ (100 ≤ a ∧ a ≤ 139) → fCo a k = false := fun a k q => fCo_n (by omega)
  exact ⟨h1, h2.fr g fun a k q1 q2 => fCm_d q1 q2, h3.fr f hp hd, cd, h4.fr (by decide) hd f g (hp _ _ (by omega)) ⟨hp _ _ (by omega), fun k => ⟨hp _ _ (by omega), hp _ _ (by omega)⟩⟩ ⟨rfl, rfl, fun k _ => rfl⟩ (Nat.le_refl _), h5.fr (by decide) hd f g (hp _ _ (by omega)) ⟨hp _ _ (by omega), fun k => ⟨hp _ _ (by omega), hp _ _ (by omega)⟩⟩ ⟨rfl, rfl, fun k _ => rfl⟩ (Nat.le_refl _), (g.i (by rfl)).trans h6, h7, by omega⟩
theorem oc502 {k : Nat} (h : k < 6) : oc 502 k = true := by
  unfold oc
  simp
  omega
theorem OMs.nn (h : OMs T Sm) {j : Nat} (hj : j < 6) : rI Sm 502 (6 + j) = rI T 502 j := h.1 502 j (oc502 hj) (by decide)
theorem RDS.nn (h : RDS d c T W V b So Sm) {j : Nat} (hj : j < 6) : rI Sm 502 (6 + j) = nI (c j) := (h.2.1.nn hj).trans (h.1.1 j hj)
theorem RDS.sn (h : RDS d c T W V b So Sm) : SNm 1 (c 1) W Sm := by
  have hb := h.1.2.1
  refine ⟨h.nn (j := 1) (by decide), by omega, fun k hk => ?_⟩
  obtain ⟨h1, h2⟩ := h.1.2.2.2.2.2.2.2.2.1 k hk
  exact ⟨(h.2.1.2 503 k (by unfold oc; simp; omega) (by decide)).trans h2, h1⟩
theorem RDS.pn (h : RDS d c T W V b So Sm) : PNm 1 (c 2) V Sm := by
  have hb := h.1.2.1
  refine ⟨h.nn (j := 2) (by decide), by omega, fun k hk => ?_⟩
  obtain ⟨h1, h2⟩ := h.1.2.2.2.2.2.2.2.2.2 k hk
  exact ⟨(h.2.1.2 504 k (by unfold oc; simp; omega) (by decide)).trans h2, h1⟩
theorem RDS.an (h : RDS d c T W V b So Sm) : ANm 1 (c 0) (fun a => vN T 505 a) Sm := by
  have hb := h.1.2.1
  refine ⟨h.nn (j := 0) (by decide), by omega, fun k hk => ?_⟩
  obtain ⟨h1, h2⟩ := (h.1.2.2.1 k hk).1
  exact ⟨(h.2.1.1 505 k (by unfold oc; simp; omega) (by decide)).trans h1, by show vN T 505 k < 16; omega⟩
theorem kd_d (hd : d = 20 ∨ d = 21) : KO.1 d = (0, 10) := by
  rcases hd with rfl | rfl <;> rfl
end DRAFT
