/-! Public methods: years. -/
section YEARS
variable {T : St} {W V : Nat → List Nat} {L : Int32 → Int32 → Int32} {v d u a : Nat} {Z Z1 Z2 : Nat → Int32} {So So' Sm Sm' S : St}
def nx (s : Nat) : Nat := (s * 1103515245 + 12345) % 2147483648
def dw (s k : Nat) : Nat := nx s / 65536 % k
theorem nx_lt (s : Nat) : nx s < 2 ^ 31 := Nat.mod_lt _ (by decide)
theorem o_dr {s k : Nat} (hs : s < 2 ^ 31) (hk : 0 < k) (hk2 : k < 100) (h : rJ S 15 0 = lN s) : o_dr_below (nI k) S = some (nI (dw s k), wJ S 15 0 (lN (nx s))) := by
  have hx := nx_lt s
  have hd : nx s / 65536 ≤ nx s := Nat.div_le_self _ _
  unfold o_dr_below o_dr_below_40
  rw [h, show (1103515245 : Int64) = lN 1103515245 from rfl, lN_mul, show (12345 : Int64) = lN 12345 from rfl, lN_add, show (2147483648 : Int64) = lN 2147483648 from rfl, lN_mod (by omega) (by decide), show (s * 1103515245 + 12345) % 2147483648 = nx s from rfl, ltq, rJ_wJ, if_pos (show (0 : Int32) < nI k from nI_lt (a := 0) hk (by omega)), nI_l (by omega), if_neg (fun e => by
    have e : lN k = lN 0 := e
    have := (lN_eqB (by omega) (by decide)).mp e
    omega), show (65536 : Int64) = lN 65536 from rfl, lN_div (show nx s < 2 ^ 63 by omega) (by decide), lN_mod (show nx s / 65536 < 2 ^ 63 by omega) (by omega), lN_i]
  rfl
theorem m_dr {s k : Nat} (hs : s < 2 ^ 31) (hk : 0 < k) (hk2 : k < 100) (h : rJ S 500 86 = lN s) : m_draws (nI k) S = some (nI (dw s k), wJ S 500 86 (lN (nx s))) := by
  have hx := nx_lt s
  have hd : nx s / 65536 ≤ nx s := Nat.div_le_self _ _
  unfold m_draws
  rw [h, show (1103515245 : Int64) = lN 1103515245 from rfl, lN_mul, show (12345 : Int64) = lN 12345 from rfl, lN_add, show (2147483648 : Int64) = lN 2147483648 from rfl, lN_mod (by omega) (by decide), show (s * 1103515245 + 12345) % 2147483648 = nx s from rfl, ltq, rJ_wJ, nI_l (by omega), if_neg (fun e => by
    have e : lN k = lN 0 := e
    have := (lN_eqB (by omega) (by decide)).mp e
    omega), show (65536 : Int64) = lN 65536 from rfl, lN_div (show nx s < 2 ^ 63 by omega) (by decide), lN_mod (show nx s / 65536 < 2 ^ 63 by omega) (by omega), lN_i]
  rfl
theorem dw_lt {s k : Nat} (hk : 0 < k) : dw s k < k := Nat.mod_lt _ hk
/-! the place of the first bit -/
def nz74 (a b : Int32) : Int32 := b + (a.toUInt32 >>> ((1 : Int32).toUInt32 &&& Int32.toUInt32 31)).toInt32
def nz62 (a b : Int32) : Int32 := if (4 : Int32) < a then nz74 (a.toUInt32 >>> ((2 : Int32).toUInt32 &&& Int32.toUInt32 31)).toInt32 (b + 2) else nz74 a b
def nz49 (a b : Int32) : Int32 := if (16 : Int32) < a then nz62 (a.toUInt32 >>> ((4 : Int32).toUInt32 &&& Int32.toUInt32 31)).toInt32 (b + 4) else nz62 a b
def nz34 (a b : Int32) : Int32 := if (256 : Int32) < a then nz49 (a.toUInt32 >>> ((8 : Int32).toUInt32 &&& Int32.toUInt32 31)).toInt32 (b + 8) else nz49 a b
def nz (x : Int32) : Int32 := if (0 : Int32) < ((x ^^^ (-1)) &&& (x - 1)) then (if (65536 : Int32) < ((x ^^^ (-1)) &&& (x - 1)) then nz34 (((x ^^^ (-1)) &&& (x - 1)).toUInt32 >>> ((16 : Int32).toUInt32 &&& Int32.toUInt32 31)).toInt32 (1 + 16) else nz34 ((x ^^^ (-1)) &&& (x - 1)) 1) else ((x ^^^ (-1)) &&& (x - 1)) &&& 32
theorem j_62 (a b : Int32) (S : St) : o_j_numberOfTrailingZeros_62 a b S = some (nz62 a b, S) := by
  unfold o_j_numberOfTrailingZeros_62 o_j_numberOfTrailingZeros_74 nz62
  by_cases q : (4 : Int32) < a
  · rw [if_pos q, if_pos q, ltq, ltq]
    rfl
  · rw [if_neg q, if_neg q]
    rfl
theorem j_49 (a b : Int32) (S : St) : o_j_numberOfTrailingZeros_49 a b S = some (nz49 a b, S) := by
  unfold o_j_numberOfTrailingZeros_49 nz49
  rw [j_62]
  by_cases q : (16 : Int32) < a
  · rw [if_pos q, if_pos q, ltq, ltq, j_62]
  · rw [if_neg q, if_neg q]
theorem j_34 (a b : Int32) (S : St) : o_j_numberOfTrailingZeros_34 a b S = some (nz34 a b, S) := by
  unfold o_j_numberOfTrailingZeros_34 nz34
  rw [j_49]
  by_cases q : (256 : Int32) < a
  · rw [if_pos q, if_pos q, ltq, ltq, j_49]
  · rw [if_neg q, if_neg q]
theorem j_nz (x : Int32) (S : St) : o_j_numberOfTrailingZeros x S = some (nz x, S) := by
  unfold o_j_numberOfTrailingZeros nz
  rw [ltq]
  by_cases q : (0 : Int32) < ((x ^^^ (-1)) &&& (x - 1))
  · rw [if_pos q, if_pos q]
    by_cases q2 : (65536 : Int32) < ((x ^^^ (-1)) &&& (x - 1))
    · rw [if_pos q2, if_pos q2, ltq, ltq, j_34]
    · rw [if_neg q2, if_neg q2, j_34]
  · rw [if_neg q, if_neg q]
theorem nz_all : ∀ n, n < 1024 → n ≠ 0 → nz (nI n) = ff (tb (nI n)) 0 10 := by decide +kernel
theorem nz_ok {x : Int32} (h : lo 10 x) (h0 : ¬ x = 0) : nz x = ff (tb x) 0 10 := by
  obtain ⟨n, hn, rfl⟩ := lo10 h
  exact nz_all n hn fun e => h0 (by rw [e]; rfl)
/-! counts of what is green -/
theorem cb_or {p q : Nat → Bool} : ∀ n, (∀ i, i < n → ¬ (p i = true ∧ q i = true)) → cb (fun i => p i || q i) n = cb p n + cb q n
  | 0, _ => rfl
  | n + 1, h => by
    rw [cb, cb, cb, cb_or n fun i hi => h i (by omega)]
    have := h n (by omega)
    cases hp : p n <;> cases hq : q n
    · rfl
    · rw [Bool.false_or, cond_true, cond_false]; omega
    · rw [Bool.true_or, cond_true, cond_false]; omega
    · exact absurd ⟨hp, hq⟩ this
theorem gr_or (hn : ct T 0 ≤ 10) {x y D : Int32} (h : ∀ i, i < ct T 0 → ¬ (tb x i = true ∧ tb y i = true)) : grN T (x ||| y) D = grN T x D + grN T y D := by
  unfold grN
  rw [← cb_or (ct T 0)]
  · refine cb_ext _ fun i hi => ?_
    rw [tb_and, tb_and, tb_and, tb_or, Bool.and_or_distrib_right]
  · intro i hi hh
    rw [tb_and, tb_and, Bool.and_eq_true, Bool.and_eq_true] at hh
    exact h i hi ⟨hh.1.1, hh.2.1⟩
theorem gr_bc (hn : ct T 0 ≤ 10) (x D : Int32) : bcS (x &&& unM T D) = nI (grN T x D) := by
  unfold bcS grN
  rw [sm_cb]
  congr 1
  have : ∀ c n, n + c = 10 → ct T 0 ≤ n → cb (fun i => tb (x &&& unM T D) i) (n + c) = cb (fun i => tb (x &&& unM T D) i) n := by
    intro c
    induction c with
    | zero => intro n _ _; rfl
    | succ c ih =>
      intro n h1 h2
      rw [show n + (c + 1) = (n + 1) + c by omega, ih (n + 1) (by omega) (by omega), cb, gr_lo T x D hn n h2 (by omega)]
      rfl
  have h10 := this (10 - ct T 0) (ct T 0) (by omega) (Nat.le_refl _)
  rw [show ct T 0 + (10 - ct T 0) = 10 by omega] at h10
  exact h10
theorem grz (D : Int32) : grN T 0 D = 0 := cb_0 _ fun i hi => by
  rw [tb_and, tb_z]
  rfl
/-- where a day stands, on both sides -/
def DS (T : St) (W V : Nat → List Nat) (L : Int32 → Int32 → Int32) (v : Nat) (D x : Int32) (s : Nat) (Z1 : Nat → Int32) (So Sm : St) : Prop := (rQ So 1 9 = some v ∧ TD v T W V L So) ∧ SD 205 Z1 (ct T 0) So ∧ OM T Sm ∧ SM Z1 Sm ∧ WZ T Z1 ∧ Z1 2 = D ∧ lo (ct T 0) x ∧ (∀ i, i < ct T 0 → ¬ (tb x i = true ∧ tb (Z1 0) i = true)) ∧ s < 2 ^ 31 ∧ rJ So 15 0 = lN s ∧ rJ Sm 500 86 = lN s
def fYo : Nat → Nat → Bool := fun a k => frXU 205 a k || a == 15
def fYm : Nat → Nat → Bool := fun a k => fGo a k || (a == 500 && k == 86)
theorem fYo_X {a k : Nat} (h : fYo a k = false) : frXU 205 a k = false := (Bool.or_eq_false_iff.mp h).1
theorem fYm_G {a k : Nat} (h : fYm a k = false) : fGo a k = false := (Bool.or_eq_false_iff.mp h).1
theorem DS.dr {D x : Int32} {s : Nat} (h : DS T W V L v D x s Z1 So Sm) {k : Nat} (hk : 0 < k) (hk2 : k < 100) : ∃ So' Sm', o_dr_below (nI k) So = some (nI (dw s k), So') ∧ m_draws (nI k) Sm = some (nI (dw s k), Sm') ∧ DS T W V L v D x (nx s) Z1 So' Sm' ∧ Fr fYo So So' ∧ Fr fYm Sm Sm' := by
  obtain ⟨⟨h1, h2⟩, h3, h4, h5, h6, h7, h8, h9, h10, h11, h12⟩ := h
  have fo : Fr (fun a k => a == 15 && k == 0) So (wJ So 15 0 (lN (nx s))) := Fr.wJ rfl
  have fm : Fr (fun a k => a == 500 && k == 86) Sm (wJ Sm 500 86 (lN (nx s))) := Fr.wJ rfl
  have no : ∀ x k : Nat, x ≠ 15 → (x == 15 && k == 0) = false := fun x k q => by
    rw [beq_eq_false_iff_ne.mpr q]
    rfl
  have nm : ∀ x k : Nat, x ≠ 500 → (x == 500 && k == 86) = false := fun x k q => by
    rw [beq_eq_false_iff_ne.mpr q]
    rfl
  refine ⟨_, _, o_dr h10 hk hk2 h11, m_dr h10 hk hk2 h12, ⟨⟨(fo.q (no _ _ (by decide))).trans h1, h2.fr fo fun a k q => by unfold ton at q; exact no _ _ (by omega)⟩, h3.frw fo (fun k => no _ _ (by decide)) (fun k => no _ _ (by decide)), h4.fr fm (fun a k q => nm _ _ (by omega)), h5.fr fm (fun k => nm _ _ (by decide)), h6, h7, h8, h9, nx_lt s, rJ_wJ, rJ_wJ⟩, fo.mo fun a k q => ?_, fm.mo fun a k q => (Bool.or_eq_false_iff.mp q).2⟩
  have := (Bool.or_eq_false_iff.mp q).2
  rw [this]
  rfl
theorem DS.cry (hw : WF T W V) (hL : LawV T L) {D x : Int32} {s : Nat} (h : DS T W V L v D x s Z1 So Sm) {c l w : Nat} (hc : c < ct T 1) (hl : l < 12) (hww : w < 7) : ∃ So' Sm', o_sd_cry 205 v (nI l) (nI w) (nI c) So = some (cryF T Z1 c l w, So') ∧ m_calls (nI c) (nI l) (nI w) Sm = some (cryF T Z1 c l w, Sm') ∧ m_greenOf (cryF T Z1 c l w) Sm' = some (nI (grN T (cryF T Z1 c l w) D), Sm') ∧ grN T (x ||| cryF T Z1 c l w) D = grN T x D + grN T (cryF T Z1 c l w) D ∧ DS T W V L v D (x ||| cryF T Z1 c l w) s (cryZ T L Z1 c l w) So' Sm' ∧ Fr fYo So So' ∧ Fr fYm Sm Sm' := by
  have hn := hw.b
  obtain ⟨⟨h1, h2⟩, h3, h4, h5, h6, h7, h8, h9, h10, h11, h12⟩ := h
  obtain ⟨S1, a1, a2, a3⟩ := sd_cry (u := 205) hw h6 h2 (by decide) h3 hc hl hww
  obtain ⟨R1, b1', b2, b3⟩ := m_calls_ok hw hL h6 h4 h5 hc hl hww
  have hO := h4.fr b3 fun a k q => frC_o q
  have eg := m_greenOf_ok hw hO b2 (cryF T Z1 c l w)
  have ez2 : cryZ T L Z1 c l w 2 = D := h7
  rw [ez2] at eg
  have h0 : cryZ T L Z1 c l w 0 = Z1 0 &&& (cryF T Z1 c l w ^^^ (-1)) := rfl
  have hsub : ∀ i, tb (cryF T Z1 c l w) i = true → tb (Z1 0) i = true := fun i hi => by
    unfold cryF flA fl0 at hi
    rw [tb_or, tb_and, tb_and] at hi
    cases h : tb (Z1 0) i with
    | true => rfl
    | false => rw [h, Bool.false_and, Bool.false_and] at hi; cases hi
  refine ⟨S1, R1, a1, b1', eg, gr_or hn.1 fun i hi hh => h9 i hi ⟨hh.1, hsub i hh.2⟩, ⟨⟨(a3.q (frXU_n (by decide) (by decide))).trans h1, h2.fr a3 fun a k q => frXU_t (by decide) q⟩, a2, hO, b2, WZ_cry h6 _ _ _, ez2, lo_or h8 (cry_lo c l w h6), fun i hi hh => ?_, h10, (a3.j (frXU_n (by decide) (by decide))).trans h11, (b3.j (by rfl)).trans h12⟩, a3.mo fun a k q => fYo_X q, b3.mo fun a k q => fGo_C (fYm_G q)⟩
  rw [h0, tb_and, tb_or, tb_not _ (by omega)] at hh
  cases hc : tb (cryF T Z1 c l w) i with
  | true => rw [hc, Bool.not_true, Bool.and_false] at hh; cases hh.2
  | false =>
    rw [hc, Bool.or_false, Bool.not_false, Bool.and_true] at hh
    exact h9 i hi hh
end YEARS
