/-! The class's orchard: a picture of T at v, and its reads. -/
def ccol (j : Nat) : Nat := if j = 5 then 505 else if j = 6 then 511 else 506 + j
def ton (a : Nat) : Prop := (20 ≤ a ∧ a ≤ 29) ∨ (34 ≤ a ∧ a ≤ 45) ∨ (58 ≤ a ∧ a ≤ 63) ∨ (100 ≤ a ∧ a ≤ 109) ∨ (130 ≤ a ∧ a ≤ 139)
/-- the class's law of worth -/
def LawO (v : Nat) (L : Int32 → Int32 → Int32) (S : St) : Prop := ∃ l, FS (v + 16) l S ∧ ∀ k d, k < 100 → ∃ r, rp (fun i => if i = 0 then nI k else if i = 1 then d else if i = 2 then 0 else 0) l [] = some [r] ∧ clp r = L (nI k) d
def TD (v : Nat) (T : St) (W V : Nat → List Nat) (L : Int32 → Int32 → Int32) (S : St) : Prop :=
  (v = 20 ∨ v = 21) ∧
  TB (v + 80) 10 7 (ct T 0) (fun a j => rI T (ccol j) a) S ∧
  TB (v + 82) 5 3 (ct T 2) (fun p j => rI T (512 + j) p) S ∧
  TB (v + 84) 6 2 (ct T 3) (fun g j => rI T (515 + j) g) S ∧
  (∃ f, TB (v + 86) 4 11 (ct T 4) f S ∧ ∀ q, q < ct T 4 → f q 0 = rI T 518 q ∧ ∀ k, k < vN T 518 q → f q (1 + k) = rI T 517 (10 * q + k)) ∧
  TB (v + 88) 4 2 (ct T 5) (fun b j => rI T (519 + j) b) S ∧
  NW (v + 2) 16 (ct T 1) W S ∧ NW (v + 4) 5 (ct T 2) V S ∧
  (∀ c, c < ct T 1 → rI S (v + 38) c = mk (ct T 1) fun k => decide (rI T 539 (16 * c + k) = 1)) ∧
  (∀ r, r < 12 → rI S (v + 40) r = mk (ct T 0) fun a => decide (vN T 508 a = r)) ∧
  (∀ a, a < 10 → rI S (v + 42) a = mk (ct T 0) fun b => decide (rI T 511 b = nI a)) ∧
  (rI S v 14 = srt T 1 ∧ rI S v 15 = srt T 2 ∧ rI S v 16 = srt T 3) ∧
  LawO v L S
section TDR
variable {v : Nat} {T : St} {W V : Nat → List Nat} {L : Int32 → Int32 → Int32} {S S' : St}
theorem TD.k (h : TD v T W V L S) : KO.1 v = (0, 10) := by
  rcases h.1 with rfl | rfl <;> rfl
theorem TD.k38 (h : TD v T W V L S) : KO.1 (v + 38) = (1, 16) := by
  rcases h.1 with rfl | rfl <;> rfl
theorem TD.k40 (h : TD v T W V L S) : KO.1 (v + 40) = (1, 12) := by
  rcases h.1 with rfl | rfl <;> rfl
theorem TD.k42 (h : TD v T W V L S) : KO.1 (v + 42) = (1, 10) := by
  rcases h.1 with rfl | rfl <;> rfl
theorem TD.ap (h : TD v T W V L S) : TB (v + 80) 10 7 (ct T 0) (fun a j => rI T (ccol j) a) S := h.2.1
theorem TD.pe (h : TD v T W V L S) : TB (v + 82) 5 3 (ct T 2) (fun p j => rI T (512 + j) p) S := h.2.2.1
theorem TD.sr (h : TD v T W V L S) : TB (v + 84) 6 2 (ct T 3) (fun g j => rI T (515 + j) g) S := h.2.2.2.1
theorem TD.pg (h : TD v T W V L S) : ∃ f, TB (v + 86) 4 11 (ct T 4) f S ∧ ∀ q, q < ct T 4 → f q 0 = rI T 518 q ∧ ∀ k, k < vN T 518 q → f q (1 + k) = rI T 517 (10 * q + k) := h.2.2.2.2.1
theorem TD.bn (h : TD v T W V L S) : TB (v + 88) 4 2 (ct T 5) (fun b j => rI T (519 + j) b) S := h.2.2.2.2.2.1
theorem TD.sn (h : TD v T W V L S) : NW (v + 2) 16 (ct T 1) W S := h.2.2.2.2.2.2.1
theorem TD.pn (h : TD v T W V L S) : NW (v + 4) 5 (ct T 2) V S := h.2.2.2.2.2.2.2.1
theorem TD.nr (h : TD v T W V L S) {c : Nat} (hc : c < ct T 1) : rI S (v + 38) c = mk (ct T 1) fun k => decide (rI T 539 (16 * c + k) = 1) := h.2.2.2.2.2.2.2.2.1 c hc
theorem TD.ro (h : TD v T W V L S) {r : Nat} (hr : r < 12) : rI S (v + 40) r = mk (ct T 0) fun a => decide (vN T 508 a = r) := h.2.2.2.2.2.2.2.2.2.1 r hr
theorem TD.tw (h : TD v T W V L S) {a : Nat} (ha : a < 10) : rI S (v + 42) a = mk (ct T 0) fun b => decide (rI T 511 b = nI a) := h.2.2.2.2.2.2.2.2.2.2.1 a ha
theorem TD.so (h : TD v T W V L S) : rI S v 14 = srt T 1 ∧ rI S v 15 = srt T 2 ∧ rI S v 16 = srt T 3 := h.2.2.2.2.2.2.2.2.2.2.2.1
theorem TD.la (h : TD v T W V L S) : LawO v L S := h.2.2.2.2.2.2.2.2.2.2.2.2
theorem TD.fr {P : Nat → Nat → Bool} (h : TD v T W V L S) (hf : Fr P S S') (hp : ∀ a k, ton a → P a k = false) : TD v T W V L S' := by
  have hv := h.1
  have tn : ∀ o, (o ≤ 8 ∨ (16 ≤ o ∧ o ≤ 24) ∨ (38 ≤ o ∧ o ≤ 42) ∨ (80 ≤ o ∧ o ≤ 88) ∨ (110 ≤ o ∧ o ≤ 118)) → ∀ k, P (v + o) k = false := fun o ho k => hp (v + o) k (by unfold ton; omega)
  have t0 : ∀ k, P v k = false := tn 0 (by omega)
  obtain ⟨f, hf1, hf2⟩ := h.pg
  obtain ⟨l, hl1, hl2⟩ := h.la
  refine ⟨hv, h.ap.fr hf (tn 80 (by omega)) (tn 110 (by omega)), h.pe.fr hf (tn 82 (by omega)) (tn 112 (by omega)), h.sr.fr hf (tn 84 (by omega)) (tn 114 (by omega)), ⟨f, hf1.fr hf (tn 86 (by omega)) (tn 116 (by omega)), hf2⟩, h.bn.fr hf (tn 88 (by omega)) (tn 118 (by omega)), h.sn.fr hf (tn 2 (by omega) 2) (tn 6 (by omega)), h.pn.fr hf (tn 4 (by omega) 2) (tn 8 (by omega)), fun c hc => ?_, fun r hr => ?_, fun a ha => ?_, ⟨?_, ?_, ?_⟩, ⟨l, hl1.fr hf (tn 16 (by omega) 5) (tn 20 (by omega)) (tn 24 (by omega)), hl2⟩⟩
  · rw [hf.i (tn 38 (by omega) c)]; exact h.nr hc
  · rw [hf.i (tn 40 (by omega) r)]; exact h.ro hr
  · rw [hf.i (tn 42 (by omega) a)]; exact h.tw ha
  · rw [hf.i (t0 14)]; exact h.so.1
  · rw [hf.i (t0 15)]; exact h.so.2.1
  · rw [hf.i (t0 16)]; exact h.so.2.2
theorem to_hasApple (h : TD v T W V L S) (x : Int32) : o_to_hasApple v x S = some (bI (inN x (ct T 0)), S) := by
  unfold o_to_hasApple o_to_hasApple_19 o_to_hasApple_20 inN
  rw [if_pos h.k, if_pos h.ap.k, tb_size h.ap, bnq]
  by_cases h1 : x < 0
  · rw [if_pos h1, if_pos b0, decide_eq_true h1]
    rfl
  · rw [if_neg h1, decide_eq_false h1]
    by_cases h2 : x < nI (ct T 0)
    · rw [if_pos h2, if_pos b1, decide_eq_true h2]
      rfl
    · rw [if_neg h2, if_pos b0, decide_eq_false h2]
      rfl
theorem to_hasPerson (h : TD v T W V L S) (x : Int32) : o_to_hasPerson v x S = some (bI (inN x (ct T 2)), S) := by
  unfold o_to_hasPerson o_to_hasPerson_19 o_to_hasPerson_20 inN
  rw [if_pos h.k, if_pos h.pe.k, tb_size h.pe, bnq]
  by_cases h1 : x < 0
  · rw [if_pos h1, if_pos b0, decide_eq_true h1]
    rfl
  · rw [if_neg h1, decide_eq_false h1]
    by_cases h2 : x < nI (ct T 2)
    · rw [if_pos h2, if_pos b1, decide_eq_true h2]
      rfl
    · rw [if_neg h2, if_pos b0, decide_eq_false h2]
      rfl
theorem to_hasSound (h : TD v T W V L S) (x : Int32) : o_to_hasSound v x S = some (bI (inN x (ct T 1)), S) := by
  unfold o_to_hasSound o_to_hasSound_19 o_to_hasSound_20 inN
  rw [if_pos h.k, if_pos h.sn.1, na_size h.sn, bnq]
  by_cases h1 : x < 0
  · rw [if_pos h1, if_pos b0, decide_eq_true h1]
    rfl
  · rw [if_neg h1, decide_eq_false h1]
    by_cases h2 : x < nI (ct T 1)
    · rw [if_pos h2, if_pos b1, decide_eq_true h2]
      rfl
    · rw [if_neg h2, if_pos b0, decide_eq_false h2]
      rfl
theorem to_laneOf (h : TD v T W V L S) {p : Nat} (hp : p < ct T 2) : o_to_laneOf v (nI p) S = some (rI T 512 p, S) := by
  unfold o_to_laneOf
  rw [if_pos h.k, if_pos h.pe.k, show (0 : Int32) = nI 0 from rfl, tb_atI h.pe hp (by decide), bnq]
theorem to_loudOf (h : TD v T W V L S) {p : Nat} (hp : p < ct T 2) : o_to_loudOf v (nI p) S = some (rI T 513 p, S) := by
  unfold o_to_loudOf
  rw [if_pos h.k, if_pos h.pe.k, show (1 : Int32) = nI 1 from rfl, tb_atI h.pe hp (by decide), bnq]
/-- whether there are such ones, and he can say it -/
def cayB (T : St) (W : Nat → List Nat) (x y : Int32) : Bool := inN x (ct T 2) && (inN y (ct T 1) && sayB T W x.toNatClampNeg y.toNatClampNeg)
theorem to_canSay (hw : WF T W V) (h : TD v T W V L S) (x y : Int32) : o_to_canSay v x y S = some (bI (cayB T W x y), S) := by
  have hb := hw.b
  unfold o_to_canSay o_to_canSay_40 o_to_canSay_41 cayB
  rw [if_pos h.k, to_hasPerson h, bnq]
  cases hx : inN x (ct T 2) with
  | false =>
    rw [if_pos bF, if_pos b0]
    rfl
  | true =>
    rw [if_neg bT, to_hasSound h, bnq]
    cases hy : inN y (ct T 1) with
    | false =>
      rw [if_pos bF, if_pos b0]
      rfl
    | true =>
      obtain ⟨p, hp, rfl⟩ := inN_of hx (by omega)
      obtain ⟨k, hk, rfl⟩ := inN_of hy (by omega)
      have hmu := (hw.pe hp).2.2
      rw [if_neg bT, if_pos h.pe.k, show (2 : Int32) = nI 2 from rfl, tb_atI h.pe hp (by decide), bnq, if_pos h.sn.1]
      rw [show rI T (512 + 2) p = nI (vN T 514 p) from hmu.1, na_holds h.sn hk (by have := hmu.2; omega), bnq, nI_clamp (by omega), nI_clamp (by omega)]
      unfold sayB
      rw [List.contains_eq_mem]
      by_cases q : vN T 514 p = 0
      · rw [decide_eq_true q, decide_eq_false (not_not_intro q)]
        rw [Bool.false_and, if_pos bF, if_pos b1]
        rfl
      · rw [decide_eq_false q, decide_eq_true q, Bool.true_and]
        by_cases q2 : vN T 514 p ∈ W k
        · rw [decide_eq_true q2, if_neg bT, if_pos b0]
          rfl
        · rw [decide_eq_false q2, if_pos bF, if_pos b1]
          rfl
theorem mx_all : ∀ l, l < 12 → ∀ r, r < 13 → (if (0 : Int32) < nI l - nI r then nI l - nI r else 0) = nI (l - r) := by decide +kernel
theorem to_within_loop (h : TD v T W V L S) {l r : Nat} (hl : l < 12) (hr : r < 13) (i0 : Nat) : ∀ (j i m : Nat), i + j = 12 → i0 ≤ i → j < m → o_to_within_11 m v (nI l) (nI r) (mk (ct T 0) fun a => decide (i0 ≤ vN T 508 a) && (decide (vN T 508 a < i) && decide (vN T 508 a ≤ l + r))) (nI i) S = some (mk (ct T 0) fun a => decide (i0 ≤ vN T 508 a) && (decide (vN T 508 a < 12) && decide (vN T 508 a ≤ l + r)), S)
  | 0, i, m, hi, h0, hm => by
    obtain ⟨m, rfl, hm⟩ := fuel hm
    obtain rfl : i = 12 := by omega
    rw [o_to_within_11, nI_add]
    unfold o_to_within_45
    by_cases q : l + r < 12
    · rw [if_pos (nI_lt q (by omega))]
    · rw [if_neg (nI_nlt (by omega) (by omega)), if_pos h.k, h.k40, if_pos (k1r _), show Int32.ofNat 12 = nI 12 from rfl, if_neg (nI_nlt (Nat.le_refl _) (by omega))]
  | j + 1, i, m, hi, h0, hm => by
    obtain ⟨m, rfl, hm⟩ := fuel hm
    rw [o_to_within_11, nI_add]
    by_cases q : l + r < i
    · rw [if_pos (nI_lt q (by omega))]
      unfold o_to_within_45
      rw [mk_ext fun a _ => ?_]
      by_cases q2 : vN T 508 a ≤ l + r
      · have h1 : vN T 508 a < i := by omega
        have h2 : vN T 508 a < 12 := by omega
        simp [h1, h2]
      · simp [q2]
    · rw [if_neg (nI_nlt (by omega) (by omega)), if_pos h.k, h.k40, if_pos (k1r _), show Int32.ofNat 12 = nI 12 from rfl, if_pos (nI_lt (by omega) (by omega)), if_pos (k1e _), if_neg (nI_in (by omega) (by omega)), nI_clamp (by omega), h.ro (by omega), ltq, ltq, nI_1]
      have ih := to_within_loop h hl hr i0 j (i + 1) m (by omega) (by omega) (by omega)
      rw [← ih]
      congr 1
      have hb : ct T 0 ≤ 10 := h.ap.2.2.2.2.2.1
      apply tb_ext
      intro b hb32
      rw [tb_or, tb_mk _ _ _ (by omega) hb32, tb_mk _ _ _ (by omega) hb32, tb_mk _ _ _ (by omega) hb32, ← Bool.and_or_distrib_left]
      congr 1
      by_cases q1 : vN T 508 b = i
      · have h1 : ¬ vN T 508 b < i := by omega
        have h2 : vN T 508 b < i + 1 := by omega
        have h3 : vN T 508 b ≤ l + r := by omega
        have h4 : i0 ≤ vN T 508 b := by omega
        simp [q1, h1, h2, h3, h4]
        omega
      · by_cases q2 : vN T 508 b < i
        · have h2 : vN T 508 b < i + 1 := by omega
          simp [q1, q2, h2]
        · have h2 : ¬ vN T 508 b < i + 1 := by omega
          simp [q1, q2, h2]
theorem to_within (hw : WF T W V) (h : TD v T W V L S) {l r : Nat} (hl : l < 12) (hr : r < 13) : o_to_within v (nI l) (nI r) S = some (mk (ct T 0) fun a => decide (awy T a l ≤ r), S) := by
  unfold o_to_within o_j_max o_j_max_10
  have e : (if (0 : Int32) < nI l - nI r then some (nI l - nI r, S) else some (0, S) : Re Int32) = some (nI (l - r), S) := by
    rw [← mx_all l hl r hr]
    split <;> rfl
  rw [e, bnq]
  have h0 := to_within_loop h hl hr (l - r) (12 - (l - r)) (l - r) FU (by omega) (Nat.le_refl _) (by unfold FU; omega)
  have e0 : mk (ct T 0) (fun a => decide (l - r ≤ vN T 508 a) && (decide (vN T 508 a < l - r) && decide (vN T 508 a ≤ l + r))) = 0 := by
    have hb := hw.b
    apply tb_ext
    intro i hi
    rw [tb_mk _ _ _ (by omega) hi, tb_z]
    by_cases q : l - r ≤ vN T 508 i
    · have : ¬ vN T 508 i < l - r := by omega
      simp [this]
    · simp [q]
  rw [e0] at h0
  rw [h0]
  congr 2
  refine mk_ext fun a ha => ?_
  have hro := (hw.ap ha).2.2.2.1.2
  unfold awy
  rw [decide_eq_true hro, Bool.true_and, ← Bool.decide_and]
  apply decide_eq_decide.mpr
  split <;> omega
end TDR
