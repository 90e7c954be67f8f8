/-! The invariant that holds the class's state against the reference's. -/
def Told (T : St) (W V : Nat → List Nat) (L : Int32 → Int32 → Int32) (v : Nat) (So Sm : St) : Prop :=
  WF T W V ∧ OM T Sm ∧ LawV T L ∧ (∀ k d, k < 100 → ∃ j, j < 1000 ∧ L (nI k) d = nI j) ∧ rQ So 1 9 = some v ∧ TD v T W V L So
/-- lines that can be told: by row kind (0 a day, 1 a call, 2 a pick), who, what -/
def LnV (T : St) (n : Nat) (f : Nat → Nat → Int32) : Prop := ∀ i, i < n → f i 0 = 0 ∨ (f i 0 = 1 ∧ (∃ p, p < ct T 2 ∧ f i 1 = nI p) ∧ ∃ k, k < ct T 1 ∧ f i 2 = nI k) ∨ (f i 0 = 2 ∧ ∃ a, a < ct T 0 ∧ f i 1 = nI a)
/-- the lines as the reference holds them in a slot -/
def LnM (q n : Nat) (f : Nat → Nat → Int32) (S : St) : Prop := rI S 543 q = nI n ∧ ∀ i, i < n → (f i 0 = 0 ∧ rI S 544 (40 * q + i) = 2) ∨ (f i 0 = 1 ∧ rI S 544 (40 * q + i) = 0 ∧ rI S 545 (40 * q + i) = f i 1 ∧ rI S 546 (40 * q + i) = f i 2) ∨ (f i 0 = 2 ∧ rI S 544 (40 * q + i) = 1 ∧ rI S 546 (40 * q + i) = f i 1)
/-- what is told of nearness, in a slot -/
def TlM (T : St) (W : Nat → List Nat) (q n : Nat) (g : Nat → Nat → Int32) (S : St) : Prop := rI S 549 q = nI n ∧ ∀ i, i < n → ∃ c k b, c < ct T 1 ∧ k < ct T 1 ∧ rI S 550 (12 * q + i) = nI c ∧ rI S 551 (12 * q + i) = nI k ∧ rI S 552 (12 * q + i) = bI b ∧ g i 0 = nI (edt (W c) (W k)) ∧ g i 1 = nI (csl (W c) (W k)) ∧ g i 2 = bI b
/-- a slot (0: now; 1 + i: mark i), but for its standing -/
def Slt (T : St) (W : Nat → List Nat) (q : Nat) (So Sm : St) : Prop := ∃ n f m g kn th, TB (111 + q) 40 3 n f So ∧ LnV T n f ∧ LnM q n f Sm ∧ TB (116 + q) 12 3 m g So ∧ TlM T W q m g Sm ∧ rI So (70 + q) 3 = kn ∧ rI Sm 547 q = kn ∧ rI So (70 + q) 4 = th ∧ rI Sm 548 q = th ∧ lo (ct T 0) kn ∧ lo (ct T 0) th
def Now (T : St) (Z : Nat → Int32) (So Sm : St) : Prop := SD 200 Z (ct T 0) So ∧ SM Z Sm ∧ WZ T Z
def Und (T : St) (d : Nat) (So Sm : St) : Prop := d ≤ 16 ∧ rI So 1 11 = nI d ∧ rI Sm 500 69 = nI d ∧ ∃ e : Nat → Nat, (∀ i, i < 16 → rQ So 19 i = some (206 + e i) ∧ e i < 16) ∧ (∀ i j, i < 16 → j < 16 → e i = e j → i = j) ∧ ∃ Y : Nat → Nat → Int32, ∀ i, i < d → SD (206 + e i) (Y i) (ct T 0) So ∧ WZ T (Y i) ∧ ∀ k, k < 15 → rI Sm 556 (15 * i + k) = Y i k
/-- what is on a mark -/
def Mk1 (T : St) (W : Nat → List Nat) (q : Nat) (So Sm : St) : Prop := Slt T W (1 + q) So Sm ∧ ∃ Z, SD (201 + q) Z (ct T 0) So ∧ WZ T Z ∧ ∀ k, k < 15 → rI Sm 555 (15 * q + k) = Z k
def Shp (q : Nat) (S : St) : Prop := (∃ n f, TB (112 + q) 40 3 n f S) ∧ ∃ n f, TB (117 + q) 12 3 n f S
def Mks (T : St) (W : Nat → List Nat) (So Sm : St) : Prop := ∃ x, rI So 1 12 = x ∧ ∀ q, q < 4 → rQ So 16 q = some (71 + q) ∧ rI Sm 557 q = bI (tb x q) ∧ Shp q So ∧ (tb x q = true → Mk1 T W q So Sm)
def Tap (So Sm : St) : Prop := ∃ n, n ≤ 1000 ∧ rI So 3 1 = nI n ∧ rI Sm 500 1 = nI n ∧ ∀ k, k < n → rI So 4 k = rI Sm 501 k
/-- the shape of the draft's tables -/
def Dft (d : Nat) (S : St) : Prop := (∃ n f, TB (d + 80) 10 7 n f S) ∧ (∃ n f, TB (d + 82) 5 3 n f S) ∧ (∃ n f, TB (d + 84) 6 2 n f S) ∧ (∃ n f, TB (d + 86) 4 11 n f S) ∧ ∃ n f, TB (d + 88) 4 2 n f S
def Rst (v : Nat) (So : St) : Prop := rQ So 1 10 = some (41 - v) ∧ Dft (41 - v) So ∧ (∃ n f, TB 110 40 3 n f So) ∧ (∀ k, k < 1024 → rI So 11 k = nI (thN k)) ∧ ((rQ So 5 7 = some 13 ∧ rQ So 5 8 = some 14) ∨ (rQ So 5 7 = some 14 ∧ rQ So 5 8 = some 13))
def Inv (So Sm : St) : Prop := ∃ T W V L v Z d, Told T W V L v So Sm ∧ Now T Z So Sm ∧ Slt T W 0 So Sm ∧ Und T d So Sm ∧ Mks T W So Sm ∧ Tap So Sm ∧ Rst v So
section INV
variable {T : St} {W V : Nat → List Nat} {L : Int32 → Int32 → Int32} {v d q : Nat} {Z : Nat → Int32} {So So' Sm Sm' : St} {P Q : Nat → Nat → Bool}
theorem Told.fr (h : Told T W V L v So Sm) (fo : Fr P So So') (fm : Fr Q Sm Sm') (hp : ∀ a k, ton a → P a k = false) (h19 : P 1 9 = false) (hq : ∀ a k, (502 ≤ a ∧ a ≤ 523) ∨ (536 ≤ a ∧ a ≤ 539) → Q a k = false) : Told T W V L v So' Sm' := ⟨h.1, h.2.1.fr fm hq, h.2.2.1, h.2.2.2.1, (fo.q h19).trans h.2.2.2.2.1, h.2.2.2.2.2.fr fo hp⟩
theorem LnM.fr {n : Nat} {f : Nat → Nat → Int32} (h : LnM q n f Sm) (fm : Fr Q Sm Sm') (hq : ∀ a k, 543 ≤ a ∧ a ≤ 546 → Q a k = false) : LnM q n f Sm' := by
  refine ⟨(fm.i (hq 543 _ (by decide))).trans h.1, fun i hi => ?_⟩
  rw [fm.i (hq 544 _ (by decide)), fm.i (hq 545 _ (by decide)), fm.i (hq 546 _ (by decide))]
  exact h.2 i hi
theorem TlM.fr {n : Nat} {g : Nat → Nat → Int32} (h : TlM T W q n g Sm) (fm : Fr Q Sm Sm') (hq : ∀ a k, 549 ≤ a ∧ a ≤ 552 → Q a k = false) : TlM T W q n g Sm' := by
  refine ⟨(fm.i (hq 549 _ (by decide))).trans h.1, fun i hi => ?_⟩
  rw [fm.i (hq 550 _ (by decide)), fm.i (hq 551 _ (by decide)), fm.i (hq 552 _ (by decide))]
  exact h.2 i hi
theorem Slt.fr (h : Slt T W q So Sm) (fo : Fr P So So') (fm : Fr Q Sm Sm') (hp : ∀ k, P (111 + q) k = false ∧ P (141 + q) k = false ∧ P (116 + q) k = false ∧ P (146 + q) k = false ∧ P (70 + q) k = false) (hq : ∀ a k, 543 ≤ a ∧ a ≤ 552 → Q a k = false) : Slt T W q So' Sm' := by
  obtain ⟨n, f, m, g, kn, th, h1, h2, h3, h4, h5, h6, h7, h8, h9, h10, h11⟩ := h
  refine ⟨n, f, m, g, kn, th, h1.fr fo (fun k => (hp k).1) (fun k => ?_), h2, h3.fr fm (fun a k q => hq a k (by omega)), h4.fr fo (fun k => (hp k).2.2.1) (fun k => ?_), h5.fr fm (fun a k q => hq a k (by omega)), (fo.i (hp _).2.2.2.2).trans h6, (fm.i (hq _ _ (by decide))).trans h7, (fo.i (hp _).2.2.2.2).trans h8, (fm.i (hq _ _ (by decide))).trans h9, h10, h11⟩
  · rw [show 111 + q + 30 = 141 + q by omega]; exact (hp k).2.1
  · rw [show 116 + q + 30 = 146 + q by omega]; exact (hp k).2.2.2.1
theorem Now.fr (h : Now T Z So Sm) (fo : Fr P So So') (fm : Fr Q Sm Sm') (hp : ∀ k, P 200 k = false ∧ P 230 k = false) (hq : ∀ k, Q 553 k = false) : Now T Z So' Sm' := ⟨h.1.frw fo (fun k => (hp k).1) (fun k => (hp k).2), h.2.1.fr fm hq, h.2.2⟩
theorem Und.fr (h : Und T d So Sm) (fo : Fr P So So') (fm : Fr Q Sm Sm') (hp : ∀ a k, (a = 1 ∧ k = 11) ∨ a = 19 ∨ (206 ≤ a ∧ a ≤ 221) ∨ (236 ≤ a ∧ a ≤ 251) → P a k = false) (h69 : Q 500 69 = false) (hq : ∀ k, Q 556 k = false) : Und T d So' Sm' := by
  obtain ⟨h1, h2, h3, e, h4, h5, Y, h6⟩ := h
  refine ⟨h1, (fo.i (hp 1 11 (Or.inl ⟨rfl, rfl⟩))).trans h2, (fm.i h69).trans h3, e, fun i hi => ⟨(fo.q (hp 19 i (by omega))).trans (h4 i hi).1, (h4 i hi).2⟩, h5, Y, fun i hi => ⟨(h6 i hi).1.frw fo (fun k => hp _ _ ?_) (fun k => hp _ _ ?_), (h6 i hi).2.1, fun k hk => (fm.i (hq _)).trans ((h6 i hi).2.2 k hk)⟩⟩
  · have := (h4 i (by omega)).2
    omega
  · have := (h4 i (by omega)).2
    omega
def mko (a : Nat) : Prop := a = 16 ∨ (71 ≤ a ∧ a ≤ 74) ∨ (112 ≤ a ∧ a ≤ 115) ∨ (142 ≤ a ∧ a ≤ 145) ∨ (117 ≤ a ∧ a ≤ 120) ∨ (147 ≤ a ∧ a ≤ 150) ∨ (201 ≤ a ∧ a ≤ 204) ∨ (231 ≤ a ∧ a ≤ 234)
theorem Shp.fr (hq4 : q < 4) (h : Shp q So) (fo : Fr P So So') (hp : ∀ a k, mko a → P a k = false) : Shp q So' := by
  obtain ⟨⟨n, f, h1⟩, ⟨m, g, h2⟩⟩ := h
  exact ⟨⟨n, f, h1.fr fo (fun k => hp _ _ (by unfold mko; omega)) (fun k => hp _ _ (by unfold mko; omega))⟩, ⟨m, g, h2.fr fo (fun k => hp _ _ (by unfold mko; omega)) (fun k => hp _ _ (by unfold mko; omega))⟩⟩
theorem Mk1.fr (hq4 : q < 4) (h : Mk1 T W q So Sm) (fo : Fr P So So') (fm : Fr Q Sm Sm') (hp : ∀ a k, mko a → P a k = false) (hq : ∀ a k, (543 ≤ a ∧ a ≤ 552) ∨ a = 555 → Q a k = false) : Mk1 T W q So' Sm' := by
  obtain ⟨h1, Y, h2, h3, h4⟩ := h
  refine ⟨h1.fr fo fm (fun k => ⟨hp _ _ ?_, hp _ _ ?_, hp _ _ ?_, hp _ _ ?_, hp _ _ ?_⟩) (fun a k q => hq a k (Or.inl q)), Y, h2.frw fo (fun k => hp _ _ ?_) (fun k => hp _ _ ?_), h3, fun k hk => (fm.i (hq _ _ (Or.inr rfl))).trans (h4 k hk)⟩
  all_goals (unfold mko; omega)
theorem Mks.fr (h : Mks T W So Sm) (fo : Fr P So So') (fm : Fr Q Sm Sm') (h12 : P 1 12 = false) (hp : ∀ a k, mko a → P a k = false) (hq : ∀ a k, (543 ≤ a ∧ a ≤ 552) ∨ a = 555 ∨ a = 557 → Q a k = false) : Mks T W So' Sm' := by
  obtain ⟨x, h1, h2⟩ := h
  refine ⟨x, (fo.i h12).trans h1, fun i hi => ?_⟩
  obtain ⟨a1, a2, a3, a4⟩ := h2 i hi
  exact ⟨(fo.q (hp _ _ (Or.inl rfl))).trans a1, (fm.i (hq _ _ (by omega))).trans a2, a3.fr hi fo hp, fun hx => (a4 hx).fr hi fo fm hp fun a k q => hq a k (by omega)⟩
theorem Tap.fr (h : Tap So Sm) (fo : Fr P So So') (fm : Fr Q Sm Sm') (h31 : P 3 1 = false) (h4 : ∀ k, P 4 k = false) (h51 : Q 500 1 = false) (h501 : ∀ k, Q 501 k = false) : Tap So' Sm' := by
  obtain ⟨n, h1, h2, h3, h5⟩ := h
  exact ⟨n, h1, (fo.i h31).trans h2, (fm.i h51).trans h3, fun k hk => by rw [fo.i (h4 k), fm.i (h501 k)]; exact h5 k hk⟩
theorem Dft.fr (hd : d = 20 ∨ d = 21) (h : Dft d So) (fo : Fr P So So') (hp : ∀ a k, ton a → P a k = false) : Dft d So' := by
  obtain ⟨⟨n1, f1, h1⟩, ⟨n2, f2, h2⟩, ⟨n3, f3, h3⟩, ⟨n4, f4, h4⟩, ⟨n5, f5, h5⟩⟩ := h
  refine ⟨⟨n1, f1, h1.fr fo (fun k => hp (d + 80) k ?_) (fun k => hp (d + 80 + 30) k ?_)⟩, ⟨n2, f2, h2.fr fo (fun k => hp (d + 82) k ?_) (fun k => hp (d + 82 + 30) k ?_)⟩, ⟨n3, f3, h3.fr fo (fun k => hp (d + 84) k ?_) (fun k => hp (d + 84 + 30) k ?_)⟩, ⟨n4, f4, h4.fr fo (fun k => hp (d + 86) k ?_) (fun k => hp (d + 86 + 30) k ?_)⟩, ⟨n5, f5, h5.fr fo (fun k => hp (d + 88) k ?_) (fun k => hp (d + 88 + 30) k ?_)⟩⟩
  all_goals (unfold ton; omega)
theorem Rst.fr (hv : v = 20 ∨ v = 21) (h : Rst v So) (fo : Fr P So So') (hp : ∀ a k, ton a → P a k = false) (hq : P 1 10 = false ∧ (∀ k, P 110 k = false ∧ P 140 k = false ∧ P 11 k = false) ∧ P 5 7 = false ∧ P 5 8 = false) : Rst v So' := by
  obtain ⟨h1, h2, ⟨n, f, h3⟩, h4, h5⟩ := h
  refine ⟨(fo.q hq.1).trans h1, h2.fr (by omega) fo hp, ⟨n, f, h3.fr fo (fun k => (hq.2.1 k).1) (fun k => (hq.2.1 k).2.1)⟩, fun k hk => (fo.i (hq.2.1 k).2.2).trans (h4 k hk), ?_⟩
  rw [fo.q hq.2.2.1, fo.q hq.2.2.2]
  exact h5
/-- what a read of the class may touch -/
def PO : Nat → Nat → Bool := fun a k => frX a k || (a == 205 || a == 235) || (a == 5 && decide (9 ≤ k)) || (decide (6 ≤ a) && decide (a ≤ 10)) || (decide (12 ≤ a) && decide (a ≤ 15)) || (decide (17 ≤ a) && decide (a ≤ 18))
/-- what a read of the reference may touch -/
def PQ : Nat → Nat → Bool := fun a k => (decide (524 ≤ a) && decide (a ≤ 535)) || (decide (540 ≤ a) && decide (a ≤ 542)) || a == 554 || decide (558 ≤ a) || (a == 500 && (k != 1 && k != 69))
theorem PO_of {a k : Nat} (h : ¬ (30 ≤ a ∧ a ≤ 33)) (h2 : ¬ (50 ≤ a ∧ a ≤ 57)) (h3 : a ≠ 205 ∧ a ≠ 235) (h4 : a ≠ 5 ∨ k < 9) (h5 : ¬ (6 ≤ a ∧ a ≤ 10)) (h6 : ¬ (12 ≤ a ∧ a ≤ 15)) (h7 : ¬ (17 ≤ a ∧ a ≤ 18)) : PO a k = false := by
  unfold PO frX
  simp
  omega
theorem PQ_of {a k : Nat} (h : ¬ (524 ≤ a ∧ a ≤ 535)) (h2 : ¬ (540 ≤ a ∧ a ≤ 542)) (h3 : a ≠ 554 ∧ a < 558) (h4 : a ≠ 500 ∨ k = 1 ∨ k = 69) : PQ a k = false := by
  unfold PQ
  simp
  omega
theorem PO_ton {a k : Nat} (h : ton a) : PO a k = false := by
  unfold ton at h
  exact PO_of (by omega) (by omega) (by omega) (by omega) (by omega) (by omega) (by omega)
theorem PO_mko {a k : Nat} (h : mko a) : PO a k = false := by
  unfold mko at h
  exact PO_of (by omega) (by omega) (by omega) (by omega) (by omega) (by omega) (by omega)
theorem PQ_or {a k : Nat} (h : (502 ≤ a ∧ a ≤ 523) ∨ (536 ≤ a ∧ a ≤ 539)) : PQ a k = false := PQ_of (by omega) (by omega) (by omega) (by omega)
theorem PQ_sl {a k : Nat} (h : (543 ≤ a ∧ a ≤ 553) ∨ (555 ≤ a ∧ a ≤ 557)) : PQ a k = false := PQ_of (by omega) (by omega) (by omega) (by omega)
/-- reads leave it -/
theorem Inv.rd (h : Inv So Sm) (fo : Fr PO So So') (fm : Fr PQ Sm Sm') : Inv So' Sm' := by
  obtain ⟨T, W, V, L, v, Z, d, h1, h2, h3, h4, h5, h6, h7⟩ := h
  exact ⟨T, W, V, L, v, Z, d, h1.fr fo fm (fun a k q => PO_ton q) rfl (fun a k q => PQ_or q),
    h2.fr fo fm (fun k => ⟨rfl, rfl⟩) (fun k => rfl),
    h3.fr fo fm (fun k => ⟨rfl, rfl, rfl, rfl, rfl⟩) (fun a k q => PQ_sl (by omega)),
    h4.fr fo fm (fun a k q => PO_of (by omega) (by omega) (by omega) (by omega) (by omega) (by omega) (by omega)) rfl (fun k => rfl),
    h5.fr fo fm rfl (fun a k q => PO_mko q) (fun a k q => PQ_sl (by omega)),
    h6.fr fo fm rfl (fun k => rfl) rfl (fun k => rfl),
    h7.fr h1.2.2.2.2.2.1 fo (fun a k q => PO_ton q) ⟨rfl, fun k => ⟨rfl, rfl, rfl⟩, rfl, rfl⟩⟩
end INV
