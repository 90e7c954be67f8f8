/-! An orchard: as the reference's cells hold it (T), its words (W, V), its worths by age (L). -/
theorem bnq {α β : Type} (v : α) (S : St) (k : α → St → Re β) : bn (some (v, S)) k = k v S := congrArg (fun f : Re α → (α → St → Re β) → Re β => f (some (v, S)) k) (show (bn : Re α → (α → St → Re β) → Re β) = bn from rfl) |>.trans (bn_some v S k)
theorem ifF {α : Type} {a b : α} : (if False then a else b) = b := if_neg not_false
theorem ifT {α : Type} {a b : α} : (if True then a else b) = a := if_pos trivial
theorem c0 : (0 : Int32).toNatClampNeg = 0 := by decide
theorem c1 : (1 : Int32).toNatClampNeg = 1 := by decide
theorem c2 : (2 : Int32).toNatClampNeg = 2 := by decide
theorem c3 : (3 : Int32).toNatClampNeg = 3 := by decide
theorem c4 : (4 : Int32).toNatClampNeg = 4 := by decide
theorem c5 : (5 : Int32).toNatClampNeg = 5 := by decide
theorem c6 : (6 : Int32).toNatClampNeg = 6 := by decide
def ct (T : St) (k : Nat) : Nat := (rI T 502 k).toNatClampNeg
def vN (T : St) (c a : Nat) : Nat := (rI T c a).toNatClampNeg
def IsN (T : St) (c a b : Nat) : Prop := rI T c a = nI (vN T c a) ∧ vN T c a < b
/-- an orchard's cell -/
def oc (a k : Nat) : Bool := (a == 502 && decide (k < 6)) || (a == 503 && decide (k < 16)) || (a == 504 && decide (k < 5)) || (decide (505 ≤ a) && decide (a ≤ 511) && decide (k < 10)) || (decide (512 ≤ a) && decide (a ≤ 514) && decide (k < 5)) || (decide (515 ≤ a) && decide (a ≤ 516) && decide (k < 6)) || (a == 517 && decide (k < 40)) || (decide (518 ≤ a) && decide (a ≤ 520) && decide (k < 4)) || (decide (521 ≤ a) && decide (a ≤ 522) && decide (k < 2)) || (a == 523 && decide (k < 1000)) || (decide (536 ≤ a) && decide (a ≤ 539))
def PM (a k : Nat) : Bool := !oc a k
theorem oc_nm {a k : Nat} (h : PM a k = false) : (502 ≤ a ∧ a ≤ 523) ∨ (536 ≤ a ∧ a ≤ 539) := by
  unfold PM oc at h
  simp at h
  omega
/-- S holds the orchard T -/
def OM (T S : St) : Prop := Fr PM T S
theorem OM.fr {T S S' : St} {P : Nat → Nat → Bool} (h : OM T S) (hf : Fr P S S') (hp : ∀ a k, (502 ≤ a ∧ a ≤ 523) ∨ (536 ≤ a ∧ a ≤ 539) → P a k = false) : OM T S' := Fr.tr h (hf.mo fun a k q => hp a k (oc_nm q))
section OMR
variable {T S : St}
theorem OM.n (h : OM T S) {k : Nat} (hk : k < 6) : rI S 502 k = rI T 502 k := h.i (by unfold PM oc; simp; omega)
theorem OM.sd (h : OM T S) {k : Nat} (hk : k < 10) : rI S 505 k = rI T 505 k := h.i (by unfold PM oc; simp; omega)
theorem OM.so (h : OM T S) {k : Nat} (hk : k < 10) : rI S 506 k = rI T 506 k := h.i (by unfold PM oc; simp; omega)
theorem OM.ac (h : OM T S) {k : Nat} (hk : k < 10) : rI S 507 k = rI T 507 k := h.i (by unfold PM oc; simp; omega)
theorem OM.ro (h : OM T S) {k : Nat} (hk : k < 10) : rI S 508 k = rI T 508 k := h.i (by unfold PM oc; simp; omega)
theorem OM.ri (h : OM T S) {k : Nat} (hk : k < 10) : rI S 509 k = rI T 509 k := h.i (by unfold PM oc; simp; omega)
theorem OM.wo (h : OM T S) {k : Nat} (hk : k < 10) : rI S 510 k = rI T 510 k := h.i (by unfold PM oc; simp; omega)
theorem OM.tw (h : OM T S) {k : Nat} (hk : k < 10) : rI S 511 k = rI T 511 k := h.i (by unfold PM oc; simp; omega)
theorem OM.la (h : OM T S) {k : Nat} (hk : k < 5) : rI S 512 k = rI T 512 k := h.i (by unfold PM oc; simp; omega)
theorem OM.lo (h : OM T S) {k : Nat} (hk : k < 5) : rI S 513 k = rI T 513 k := h.i (by unfold PM oc; simp; omega)
theorem OM.mu (h : OM T S) {k : Nat} (hk : k < 5) : rI S 514 k = rI T 514 k := h.i (by unfold PM oc; simp; omega)
theorem OM.sg (h : OM T S) {k : Nat} (hk : k < 6) : rI S 515 k = rI T 515 k := h.i (by unfold PM oc; simp; omega)
theorem OM.sb (h : OM T S) {k : Nat} (hk : k < 6) : rI S 516 k = rI T 516 k := h.i (by unfold PM oc; simp; omega)
theorem OM.pg (h : OM T S) {k : Nat} (hk : k < 40) : rI S 517 k = rI T 517 k := h.i (by unfold PM oc; simp; omega)
theorem OM.pm (h : OM T S) {k : Nat} (hk : k < 4) : rI S 518 k = rI T 518 k := h.i (by unfold PM oc; simp; omega)
theorem OM.ba (h : OM T S) {k : Nat} (hk : k < 4) : rI S 519 k = rI T 519 k := h.i (by unfold PM oc; simp; omega)
theorem OM.bb (h : OM T S) {k : Nat} (hk : k < 4) : rI S 520 k = rI T 520 k := h.i (by unfold PM oc; simp; omega)
theorem OM.lf (h : OM T S) {k : Nat} (hk : k < 2) : rI S 521 k = rI T 521 k := h.i (by unfold PM oc; simp; omega)
theorem OM.lt (h : OM T S) {k : Nat} (hk : k < 2) : rI S 522 k = rI T 522 k := h.i (by unfold PM oc; simp; omega)
theorem OM.cd (h : OM T S) {k : Nat} (hk : k < 1000) : rI S 523 k = rI T 523 k := h.i (by unfold PM oc; simp; omega)
theorem OM.ed (h : OM T S) (k : Nat) : rI S 536 k = rI T 536 k := h.i (by unfold PM oc; simp)
theorem OM.st (h : OM T S) (k : Nat) : rI S 537 k = rI T 537 k := h.i (by unfold PM oc; simp)
theorem OM.rh (h : OM T S) (k : Nat) : rI S 538 k = rI T 538 k := h.i (by unfold PM oc; simp)
theorem OM.nr (h : OM T S) (k : Nat) : rI S 539 k = rI T 539 k := h.i (by unfold PM oc; simp)
theorem OM.sw (h : OM T S) {k : Nat} (hk : k < 16) : rJ S 503 k = rJ T 503 k := h.j (by unfold PM oc; simp; omega)
theorem OM.pw (h : OM T S) {k : Nat} (hk : k < 5) : rJ S 504 k = rJ T 504 k := h.j (by unfold PM oc; simp; omega)
end OMR
/-- an orchard that can be told -/
def WF (T : St) (W V : Nat → List Nat) : Prop :=
  (∀ k, k < 6 → rI T 502 k = nI (ct T k)) ∧
  (ct T 0 ≤ 10 ∧ ct T 1 ≤ 16 ∧ ct T 2 ≤ 5 ∧ ct T 3 ≤ 6 ∧ ct T 4 ≤ 4 ∧ ct T 5 ≤ 4) ∧
  (∀ a, a < ct T 0 → IsN T 505 a (ct T 1) ∧ IsN T 506 a 4 ∧ IsN T 507 a 12 ∧ IsN T 508 a 12 ∧ IsN T 509 a 61 ∧ IsN T 510 a 100) ∧
  (∀ a, a < ct T 0 → rI T 511 a = -1 ∨ (IsN T 511 a (ct T 0) ∧ vN T 511 a ≠ a ∧ rI T 511 (vN T 511 a) = nI a)) ∧
  (∀ p, p < ct T 2 → IsN T 512 p 12 ∧ IsN T 513 p 7 ∧ IsN T 514 p 27) ∧
  (∀ g, g < ct T 3 → IsN T 515 g (ct T 1) ∧ IsN T 516 g 11) ∧
  (∀ q, q < ct T 4 → IsN T 518 q 11 ∧ ∀ k, k < vN T 518 q → IsN T 517 (10 * q + k) (ct T 0)) ∧
  (∀ b, b < ct T 5 → IsN T 519 b (ct T 1) ∧ IsN T 520 b (ct T 1)) ∧
  (∀ k, k < ct T 1 → WD (W k) ∧ rJ T 503 k = lN (p27 0 (W k))) ∧
  (∀ p, p < ct T 2 → WD (V p) ∧ rJ T 504 p = lN (p27 0 (V p))) ∧
  (∀ a b, a < ct T 1 → b < ct T 1 → rI T 536 (16 * a + b) = nI (edt (W a) (W b)) ∧ rI T 537 (16 * a + b) = nI (cpl (W a) (W b)) ∧ rI T 538 (16 * a + b) = nI (csl (W a) (W b)) ∧ ∃ c, rI T 539 (16 * a + b) = bI c)
section WFR
variable {T : St} {W V : Nat → List Nat}
theorem WF.n (h : WF T W V) {k : Nat} (hk : k < 6) : rI T 502 k = nI (ct T k) := h.1 k hk
theorem WF.b (h : WF T W V) : ct T 0 ≤ 10 ∧ ct T 1 ≤ 16 ∧ ct T 2 ≤ 5 ∧ ct T 3 ≤ 6 ∧ ct T 4 ≤ 4 ∧ ct T 5 ≤ 4 := h.2.1
theorem WF.ap (h : WF T W V) {a : Nat} (ha : a < ct T 0) : IsN T 505 a (ct T 1) ∧ IsN T 506 a 4 ∧ IsN T 507 a 12 ∧ IsN T 508 a 12 ∧ IsN T 509 a 61 ∧ IsN T 510 a 100 := h.2.2.1 a ha
theorem WF.tw (h : WF T W V) {a : Nat} (ha : a < ct T 0) : rI T 511 a = -1 ∨ (IsN T 511 a (ct T 0) ∧ vN T 511 a ≠ a ∧ rI T 511 (vN T 511 a) = nI a) := h.2.2.2.1 a ha
theorem WF.pe (h : WF T W V) {p : Nat} (hp : p < ct T 2) : IsN T 512 p 12 ∧ IsN T 513 p 7 ∧ IsN T 514 p 27 := h.2.2.2.2.1 p hp
theorem WF.sr (h : WF T W V) {g : Nat} (hg : g < ct T 3) : IsN T 515 g (ct T 1) ∧ IsN T 516 g 11 := h.2.2.2.2.2.1 g hg
theorem WF.pg (h : WF T W V) {q : Nat} (hq : q < ct T 4) : IsN T 518 q 11 ∧ ∀ k, k < vN T 518 q → IsN T 517 (10 * q + k) (ct T 0) := h.2.2.2.2.2.2.1 q hq
theorem WF.bn (h : WF T W V) {b : Nat} (hb : b < ct T 5) : IsN T 519 b (ct T 1) ∧ IsN T 520 b (ct T 1) := h.2.2.2.2.2.2.2.1 b hb
theorem WF.w (h : WF T W V) {k : Nat} (hk : k < ct T 1) : WD (W k) ∧ rJ T 503 k = lN (p27 0 (W k)) := h.2.2.2.2.2.2.2.2.1 k hk
theorem WF.p (h : WF T W V) {p : Nat} (hp : p < ct T 2) : WD (V p) ∧ rJ T 504 p = lN (p27 0 (V p)) := h.2.2.2.2.2.2.2.2.2.1 p hp
theorem WF.nr (h : WF T W V) {a b : Nat} (ha : a < ct T 1) (hb : b < ct T 1) : rI T 536 (16 * a + b) = nI (edt (W a) (W b)) ∧ rI T 537 (16 * a + b) = nI (cpl (W a) (W b)) ∧ rI T 538 (16 * a + b) = nI (csl (W a) (W b)) ∧ ∃ c, rI T 539 (16 * a + b) = bI c := h.2.2.2.2.2.2.2.2.2.2 a b ha hb
end WFR
/-! the standing: 0 what hangs, 1 what is loose, 2 the day, 3 picked, 4 had, 5.. the SOUNDs -/
def zs (Z : Nat → Int32) (a : Nat) : Nat := (Z (5 + a)).toNatClampNeg
def WZ (T : St) (Z : Nat → Int32) : Prop := lo (ct T 0) (Z 0) ∧ lo (ct T 0) (Z 1) ∧ (∀ i, i < 32 → tb (Z 1) i = true → tb (Z 0) i = true) ∧ (∃ b, Z 3 = bI b) ∧ ∀ a, a < ct T 0 → Z (5 + a) = nI (zs Z a) ∧ zs Z a < ct T 1
/-- what a SOUND called is near to -/
def slk (T : St) (Z : Nat → Int32) (c a : Nat) : Bool := if vN T 506 a = 1 then decide (c = zs Z a) else decide (rI T 539 (16 * c + zs Z a) = 1)
def mnt (T : St) (Z : Nat → Int32) (c a : Nat) : Bool := !decide (vN T 506 a = 3) && slk T Z c a
/-- by how many rows -/
def awy (T : St) (a l : Nat) : Nat := if vN T 508 a < l then l - vN T 508 a else vN T 508 a - l
def whB (T : St) (Z : Nat → Int32) (c l w a : Nat) : Bool := mnt T Z c a && decide (awy T a l ≤ w)
def ecB (T : St) (Z : Nat → Int32) (c l w a : Nat) : Bool := mnt T Z c a && (!decide (awy T a l ≤ w) && decide (awy T a l ≤ 2 * w))
def hdB (T : St) (Z : Nat → Int32) (c l w a : Nat) : Bool := mnt T Z c a && decide (awy T a l ≤ 2 * w)
def whM (T : St) (Z : Nat → Int32) (c l w : Nat) : Int32 := mk (ct T 0) (whB T Z c l w)
def ecM (T : St) (Z : Nat → Int32) (c l w : Nat) : Int32 := mk (ct T 0) (ecB T Z c l w)
def hdM (T : St) (Z : Nat → Int32) (c l w : Nat) : Int32 := mk (ct T 0) (hdB T Z c l w)
def srt (T : St) (s : Nat) : Int32 := mk (ct T 0) fun a => decide (vN T 506 a = s)
/-- of two masks heard wholly and half: what falls by itself, and with the twins -/
def fl0 (T : St) (hang loose heard half : Int32) : Int32 := hang &&& ((heard &&& ((srt T 2 ^^^ (-1)) ||| loose)) ||| (half &&& loose))
def twB (T : St) (f : Int32) (n b : Nat) : Bool := (List.range n).any fun a => tb f a && decide (rI T 511 a = nI b)
def flA (T : St) (hang loose heard half : Int32) : Int32 := fl0 T hang loose heard half ||| (hang &&& mk (ct T 0) (twB T (fl0 T hang loose heard half) (ct T 0)))
def lsT (T : St) (hang loose heard half : Int32) : Int32 := (loose ||| (hang &&& ((heard &&& srt T 2) ||| half))) &&& (hang &&& (flA T hang loose heard half ^^^ (-1)))
/-- an apple's worth on a day -/
def vlA (T : St) (L : Int32 → Int32 → Int32) (a : Nat) (day : Int32) : Int32 := L (rI T 510 a) (day - rI T 509 a)
def vlS (T : St) (L : Int32 → Int32 → Int32) (x day : Int32) : Int32 := sm (ct T 0) fun a => bif tb x a then vlA T L a day else 0
/-- a call in the standing Z: the standing behind it -/
def cryF (T : St) (Z : Nat → Int32) (c l w : Nat) : Int32 := flA T (Z 0) (Z 1) (whM T Z c l w) (ecM T Z c l w)
def cryZ (T : St) (L : Int32 → Int32 → Int32) (Z : Nat → Int32) (c l w : Nat) : Nat → Int32 := fun k => if k = 0 then Z 0 &&& (cryF T Z c l w ^^^ (-1)) else if k = 1 then lsT T (Z 0) (Z 1) (whM T Z c l w) (ecM T Z c l w) else if k = 4 then Z 4 + vlS T L (cryF T Z c l w) (Z 2) else Z k
/-- the law of worth that the reference holds -/
def clp (x : Int32) : Int32 := if x < 0 then 0 else if (999 : Int32) < x then 999 else x
def LawV (T : St) (L : Int32 → Int32 → Int32) : Prop :=
  (rI T 522 1 = rI T 521 1 ∧ ∀ k a, k < 100 → L (nI k) a = if a < 0 then 0 else nI k) ∨
  (rI T 522 1 ≠ rI T 521 1 ∧ ∃ fr cs, rI T 521 1 = nI fr ∧ rI T 522 1 = nI (fr + cs.length) ∧ fr + cs.length ≤ 1000 ∧ (∀ i, i < cs.length → rI T 523 (fr + i) = nI (cs.getD i 0) ∧ cs.getD i 0 < 20000) ∧ ∀ X : Nat → Int32, ∃ f v, lrun X cs ([f0 false], none) = some ([f], some v) ∧ clp (fullV f v) = L (X 5) (X 6))
