/-! The class's standings: what is meant, what falls. -/
/-- the standing Z at u, of n apples -/
def SD (u : Nat) (Z : Nat → Int32) (n : Nat) (S : St) : Prop := (KO.1 u = (0, 5) ∧ KO.1 (u + 30) = (1, 10)) ∧ rI S u 1 = Z 0 ∧ rI S u 2 = Z 1 ∧ rI S u 3 = Z 2 ∧ rI S u 4 = Z 4 ∧ rI S u 5 = Z 3 ∧ ∀ a, a < n → rI S (u + 30) a = Z (5 + a)
theorem tb_sh {f : Int32} (hf : lo 31 f) {k i : Nat} (hk : k < 32) (hi : i < 32) : tb (f >>> (nI k &&& 31)) i = (decide (k + i < 32) && tb f (k + i)) := by
  unfold tb
  rw [Int32.toBitVec_shiftRight, BitVec.sshiftRight_eq', sm_all k hk, BitVec.getLsbD_sshiftRight]
  by_cases q : k + i < 32
  · simp [q, hi]
  · have h31 : f.toBitVec.msb = false := by
      rw [BitVec.msb_eq_getLsbD_last]
      exact hf 31 (by omega) (by omega)
    simp [q, h31]
theorem sh_z {f : Int32} (hf : lo 31 f) {k : Nat} (hk : k < 32) : f >>> (nI k &&& 31) = 0 ↔ ∀ i, k ≤ i → i < 32 → tb f i = false := by
  constructor
  · intro h i h1 h2
    have := tb_sh hf hk (show i - k < 32 by omega)
    rw [h, tb_z, show k + (i - k) = i by omega, decide_eq_true h2, Bool.true_and] at this
    exact this.symm
  · intro h
    apply tb_ext
    intro i hi
    rw [tb_sh hf hk hi, tb_z]
    by_cases q : k + i < 32
    · rw [h _ (by omega) q, Bool.and_false]
    · rw [decide_eq_false q, Bool.false_and]
/-- what falls, as the class says -/
def f0C (T : St) (hang loose whole heard : Int32) : Int32 := ((whole &&& (srt T 2 ^^^ (-1))) ||| (heard &&& loose)) &&& hang
def flC (T : St) (hang loose whole heard : Int32) : Int32 := f0C T hang loose whole heard ||| (hang &&& mk (ct T 0) (twB T (f0C T hang loose whole heard) (ct T 0)))
theorem b3 (a b c d e : Bool) : (((a && b) || (c && d)) && e) = (e && ((a && (b || d)) || ((c && !a) && d))) ∨ True := Or.inr trivial
theorem f0_eq {T : St} {hang loose wh ec : Int32} : f0C T hang loose wh (wh ||| ec) = fl0 T hang loose wh ec := by
  unfold f0C fl0
  apply tb_ext
  intro i hi
  simp only [tb_and, tb_or]
  cases tb hang i <;> cases tb loose i <;> cases tb wh i <;> cases tb ec i <;> cases tb (srt T 2 ^^^ (-1)) i <;> rfl
theorem f0_hang {T : St} {hang loose wh hd : Int32} : f0C T hang loose (hang &&& wh) (hang &&& hd) = f0C T hang loose wh hd := by
  unfold f0C
  apply tb_ext
  intro i hi
  simp only [tb_and, tb_or]
  cases tb hang i <;> cases tb loose i <;> cases tb wh i <;> cases tb hd i <;> cases tb (srt T 2 ^^^ (-1)) i <;> rfl
theorem hd_eq (T : St) (Z : Nat → Int32) (c l w : Nat) (hn : ct T 0 ≤ 32) : hdM T Z c l w = whM T Z c l w ||| ecM T Z c l w := by
  unfold hdM whM ecM
  apply tb_ext
  intro i hi
  rw [tb_or, tb_mk _ _ _ hn hi, tb_mk _ _ _ hn hi, tb_mk _ _ _ hn hi, ← Bool.and_or_distrib_left]
  congr 1
  unfold hdB whB ecB
  by_cases q1 : awy T i l ≤ w
  · have q2 : awy T i l ≤ 2 * w := by omega
    simp [q1, q2]
  · simp [q1]
theorem flC_cry {T : St} {Z : Nat → Int32} {c l w : Nat} (hn : ct T 0 ≤ 32) : flC T (Z 0) (Z 1) (Z 0 &&& whM T Z c l w) (Z 0 &&& hdM T Z c l w) = cryF T Z c l w := by
  unfold flC cryF flA
  rw [f0_hang, hd_eq T Z c l w hn, f0_eq]
section STD
variable {v u : Nat} {T : St} {W V : Nat → List Nat} {L : Int32 → Int32 → Int32} {Z : Nat → Int32} {S S' : St}
theorem SD.frw {n : Nat} {P : Nat → Nat → Bool} (h : SD u Z n S) (hf : Fr P S S') (e : ∀ k, P u k = false) (e' : ∀ k, P (u + 30) k = false) : SD u Z n S' := ⟨h.1, (hf.i (e _)).trans h.2.1, (hf.i (e _)).trans h.2.2.1, (hf.i (e _)).trans h.2.2.2.1, (hf.i (e _)).trans h.2.2.2.2.1, (hf.i (e _)).trans h.2.2.2.2.2.1, fun a ha => (hf.i (e' _)).trans (h.2.2.2.2.2.2 a ha)⟩
/-- what the class's twins make of it -/
def tpB (T : St) (f : Int32) (k b : Nat) : Bool := (List.range k).any fun a => tb f a && decide (rI T 511 b = nI a)
theorem tpB_s (f : Int32) (k b : Nat) : tpB T f (k + 1) b = (tpB T f k b || (tb f k && decide (rI T 511 b = nI k))) := by
  unfold tpB
  rw [List.range_succ, List.any_append]
  simp
theorem tp_tw (hw : WF T W V) {f : Int32} (hf : lo (ct T 0) f) {b : Nat} (hb : b < ct T 0) : tpB T f 10 b = twB T f (ct T 0) b := by
  have hn := hw.b
  unfold tpB twB
  rw [Bool.eq_iff_iff, List.any_eq_true, List.any_eq_true]
  constructor
  · rintro ⟨a, ha, h⟩
    rw [Bool.and_eq_true, decide_eq_true_eq] at h
    have ha2 : a < ct T 0 := by
      refine Decidable.byContradiction fun q => ?_
      have := hf a (by omega) (by have := List.mem_range.mp ha; omega)
      rw [this] at h
      cases h.1
    refine ⟨a, List.mem_range.mpr ha2, ?_⟩
    rw [Bool.and_eq_true, decide_eq_true_eq]
    refine ⟨h.1, ?_⟩
    rcases hw.tw hb with h1 | ⟨h1, h2, h3⟩
    · rw [h1] at h
      exact absurd h.2.symm (nI_m1 (by omega))
    · rw [h1.1] at h
      have := nI_ofs h.2 (by have := h1.2; omega) (by omega)
      rw [← this]
      exact h3
  · rintro ⟨a, ha, h⟩
    have ha2 := List.mem_range.mp ha
    rw [Bool.and_eq_true, decide_eq_true_eq] at h
    refine ⟨a, List.mem_range.mpr (by omega), ?_⟩
    rw [Bool.and_eq_true, decide_eq_true_eq]
    refine ⟨h.1, ?_⟩
    rcases hw.tw ha2 with h1 | ⟨h1, h2, h3⟩
    · rw [h1] at h
      exact absurd h.2.symm (nI_m1 (by omega))
    · rw [h1.1] at h
      have := nI_ofs h.2 (by have := h1.2; omega) (by omega)
      rw [← this]
      exact h3
theorem to_felled_loop (hw : WF T W V) (h : TD v T W V L S) {hang f : Int32} (hh : lo (ct T 0) hang) (hf : lo (ct T 0) f) (hfh : ∀ i, i < 32 → tb f i = true → tb hang i = true) : ∀ (j k m : Nat) (pairs : Int32), k + j = 10 → j < m → (∀ i, i < 32 → tb pairs i = (tb f i || (decide (i < ct T 0) && tpB T f k i))) → o_to_felled_28 m v hang (f >>> (nI k &&& 31)) pairs (nI k) S = some (f ||| (hang &&& mk (ct T 0) (twB T f (ct T 0))), S) := by
  have hn := hw.b
  have hf31 : lo 31 f := lo_mo hf (by omega)
  have fin : ∀ (k : Nat) (pairs : Int32), (∀ i, i < 32 → tb pairs i = (tb f i || (decide (i < ct T 0) && tpB T f k i))) → k ≤ 10 → (∀ i, k ≤ i → i < 32 → tb f i = false) → pairs &&& hang = f ||| (hang &&& mk (ct T 0) (twB T f (ct T 0))) := by
    intro k pairs hp hk hz
    have e : ∀ d b, k + d ≤ 10 → tpB T f (k + d) b = tpB T f k b := by
      intro d b
      induction d with
      | zero => intro _; rfl
      | succ d ih => intro hd; rw [← Nat.add_assoc, tpB_s, ih (by omega), hz (k + d) (by omega) (by omega), Bool.false_and, Bool.or_false]
    apply tb_ext
    intro i hi
    rw [tb_and, hp i hi, tb_or, tb_and, tb_mk _ _ _ (by omega) hi]
    by_cases q : i < ct T 0
    · have e2 := e (10 - k) i (by omega)
      rw [show k + (10 - k) = 10 by omega, tp_tw hw hf q] at e2
      rw [← e2, decide_eq_true q, Bool.true_and]
      cases h1 : tb f i
      · cases tb hang i <;> simp
      · rw [hfh i hi h1]; simp
    · rw [decide_eq_false q, hh i (by omega) hi, hf i (by omega) hi]
      rfl
  intro j
  induction j with
  | zero =>
    intro k m pairs hk hm hp
    obtain ⟨m, rfl, hm⟩ := fuel hm
    obtain rfl : k = 10 := by omega
    rw [o_to_felled_28, if_pos h.k, h.k42, if_pos (k1r _), show Int32.ofNat 10 = nI 10 from rfl, if_neg (nI_nlt (Nat.le_refl _) (by omega))]
    unfold o_to_felled_78
    rw [fin 10 pairs hp (Nat.le_refl _) fun i h1 h2 => hf i (by omega) h2]
  | succ j ih =>
    intro k m pairs hk hm hp
    obtain ⟨m, rfl, hm⟩ := fuel hm
    rw [o_to_felled_28, if_pos h.k, h.k42, if_pos (k1r _), show Int32.ofNat 10 = nI 10 from rfl, if_pos (nI_lt (by omega) (by omega))]
    by_cases q : f >>> (nI k &&& 31) = 0
    · rw [if_pos q]
      unfold o_to_felled_78
      rw [fin k pairs hp (by omega) ((sh_z hf31 (by omega)).mp q)]
    · have esh : (f >>> (nI k &&& 31)) >>> ((1 : Int32) &&& 31) = f >>> (nI (k + 1) &&& 31) := by
        apply tb_ext
        intro i hi
        have hl : lo 31 (f >>> (nI k &&& 31)) := fun i h1 h2 => by
          rw [tb_sh hf31 (by omega) h2]
          by_cases q2 : k + i < 32
          · rw [hf31 _ (by omega) q2, Bool.and_false]
          · rw [decide_eq_false q2, Bool.false_and]
        rw [show (1 : Int32) = nI 1 from rfl, tb_sh hl (by omega) hi, tb_sh hf31 (by omega) hi]
        by_cases q2 : 1 + i < 32
        · rw [tb_sh hf31 (by omega) q2, decide_eq_true q2, Bool.true_and, show k + (1 + i) = k + 1 + i by omega]
        · rw [decide_eq_false q2, decide_eq_false (show ¬ k + 1 + i < 32 by omega)]
          rfl
      have e63 : ∀ x : Int32, o_to_felled_63 (o_to_felled_28 m) v hang (f >>> (nI k &&& 31)) (nI k) x pairs S = o_to_felled_28 m v hang (f >>> (nI (k + 1) &&& 31)) (pairs ||| x) (nI (k + 1)) S := fun x => by
        unfold o_to_felled_63
        rw [ltq, ltq, ltq, esh, nI_1]
      rw [if_neg q, if_pos (k1e _), if_neg (nI_in (by omega) (by omega)), nI_clamp (by omega), h.tw (by omega), e63, e63]
      by_cases q2 : tb f k = true
      · rw [if_neg (fun e => by rw [(sr_ne f (by omega)).mp e] at q2; cases q2)]
        refine ih (k + 1) m _ (by omega) (by omega) fun i hi => ?_
        rw [tb_or, hp i hi, tb_mk _ _ _ (by omega) hi, tpB_s, q2, Bool.true_and, Bool.or_assoc, ← Bool.and_or_distrib_left]
      · have q3 : tb f k = false := by
          cases hq : tb f k
          · rfl
          · exact absurd hq q2
        rw [if_pos ((sr_ne f (by omega)).mpr q3)]
        refine ih (k + 1) m _ (by omega) (by omega) fun i hi => ?_
        rw [tb_or, hp i hi, tb_z, tpB_s, q3, Bool.false_and, Bool.or_false, Bool.or_false]
theorem to_felled (hw : WF T W V) (h : TD v T W V L S) {hang : Int32} (hh : lo (ct T 0) hang) (loose whole heard : Int32) : o_to_felled v hang loose whole heard S = some (flC T hang loose whole heard, S) := by
  have hn := hw.b
  have hf : lo (ct T 0) (f0C T hang loose whole heard) := lo_and2 hh
  unfold o_to_felled
  rw [if_pos h.k, ltq, h.so.2.1]
  have h0 := to_felled_loop hw h hh hf (fun i hi q => by
    unfold f0C at q
    rw [tb_and, Bool.and_eq_true] at q
    exact q.2) 10 0 FU (f0C T hang loose whole heard) (by omega) (by unfold FU; omega) (fun i hi => by simp [tpB])
  have e0 : f0C T hang loose whole heard >>> (nI 0 &&& 31) = f0C T hang loose whole heard := by
    apply tb_ext
    intro i hi
    rw [tb_sh (lo_mo hf (by omega)) (by omega) hi, Nat.zero_add, decide_eq_true hi, Bool.true_and]
  rw [e0] at h0
  exact h0
theorem sd_soundOf (h : SD u Z (ct T 0) S) {a : Nat} (ha : a < ct T 0) (hn : ct T 0 ≤ 10) : o_sd_soundOf u (nI a) S = some (Z (5 + a), S) := by
  unfold o_sd_soundOf o_sd_soundOf_23
  rw [if_neg (nI_pos (by omega)), if_pos h.1.1, h.1.2, if_pos (k1r _), show Int32.ofNat 10 = nI 10 from rfl, if_pos (nI_lt (by omega) (by omega)), if_pos (k1e _), if_neg (nI_in (by omega) (by omega)), nI_clamp (by omega), h.2.2.2.2.2.2 a ha]
theorem to_nearTo (h : TD v T W V L S) {c : Nat} (hc : c < ct T 1) (hn : ct T 1 ≤ 16) : o_to_nearTo v (nI c) S = some (mk (ct T 1) fun k => decide (rI T 539 (16 * c + k) = 1), S) := by
  unfold o_to_nearTo o_to_nearTo_23
  rw [if_neg (nI_pos (by omega)), if_pos h.k, h.k38, if_pos (k1r _), show Int32.ofNat 16 = nI 16 from rfl, if_pos (nI_lt (by omega) (by omega)), if_pos (k1e _), if_neg (nI_in (by omega) (by omega)), nI_clamp (by omega), h.nr hc]
theorem sd_isMeant (hw : WF T W V) (hz : WZ T Z) (h : TD v T W V L S) (hs : SD u Z (ct T 0) S) {c a : Nat} (hc : c < ct T 1) (ha : a < ct T 0) : o_sd_isMeant u v (nI a) (nI c) S = some (bI (slk T Z c a), S) := by
  have hn := hw.b
  have hza := hz.2.2.2.2 a ha
  unfold o_sd_isMeant o_sd_isMeant_29 o_sd_isMeant_52 o_sd_isMeant_53 slk
  rw [if_pos hs.1.1, sd_soundOf hs ha hn.1, bnq, if_pos h.k, h.so.1, hza.1]
  have ea : tb (srt T 1) a = decide (vN T 506 a = 1) := by
    unfold srt
    rw [tb_mk _ _ _ (by omega) (by omega), decide_eq_true ha, Bool.true_and]
  by_cases q : vN T 506 a = 1
  · rw [if_pos q, if_neg (fun e => by rw [(sr_ne _ (by omega)).mp e, decide_eq_true q] at ea; cases ea)]
    by_cases q2 : c = zs Z a
    · rw [if_pos (by rw [q2]), if_pos b1, decide_eq_true q2]
      rfl
    · rw [if_neg (fun e => q2 (nI_ofs e (by omega) (by omega)).symm), if_pos b0, decide_eq_false q2]
      rfl
  · rw [if_neg q, if_pos ((sr_ne _ (by omega)).mpr (by rw [ea, decide_eq_false q])), if_neg (nI_pos (by omega)), to_nearTo h hc hn.2.1, bnq]
    have e2 : tb (mk (ct T 1) fun k => decide (rI T 539 (16 * c + k) = 1)) (zs Z a) = decide (rI T 539 (16 * c + zs Z a) = 1) := by
      rw [tb_mk _ _ _ (by omega) (by omega), decide_eq_true hza.2, Bool.true_and]
    by_cases q3 : rI T 539 (16 * c + zs Z a) = 1
    · rw [decide_eq_true q3] at e2
      rw [if_neg (fun e => by rw [(sr_ne _ (by omega)).mp e] at e2; cases e2), if_pos b1, decide_eq_true q3]
      rfl
    · rw [decide_eq_false q3] at e2
      rw [if_pos ((sr_ne _ (by omega)).mpr e2), if_pos b0, decide_eq_false q3]
      rfl
theorem sd_meant_loop (hw : WF T W V) (hz : WZ T Z) (h : TD v T W V L S) (hs : SD u Z (ct T 0) S) {c : Nat} (hc : c < ct T 1) (able : Int32) (hab : lo (ct T 0) able) : ∀ (j k m : Nat), k + j = 10 → j < m → o_sd_meant_18 m u v (nI c) able (mk k fun a => tb able a && slk T Z c a) (nI k) S = some (mk 10 (fun a => tb able a && slk T Z c a), S)
  | 0, k, m, hk, hm => by
    obtain ⟨m, rfl, hm⟩ := fuel hm
    obtain rfl : k = 10 := by omega
    rw [o_sd_meant_18, if_pos hs.1.1, hs.1.2, if_pos (k1r _), show Int32.ofNat 10 = nI 10 from rfl, if_neg (nI_nlt (Nat.le_refl _) (by omega))]
    rfl
  | j + 1, k, m, hk, hm => by
    have hn := hw.b
    obtain ⟨m, rfl, hm⟩ := fuel hm
    rw [o_sd_meant_18, if_pos hs.1.1, hs.1.2, if_pos (k1r _), show Int32.ofNat 10 = nI 10 from rfl, if_pos (nI_lt (by omega) (by omega))]
    by_cases q : able >>> (nI k &&& 31) = 0
    · have hz0 := (sh_z (lo_mo hab (by omega)) (by omega)).mp q
      rw [if_pos q]
      unfold o_sd_meant_74
      rw [mk_more (n := k) (m := 10) (by omega) (by omega) fun i h1 h2 => by rw [hz0 i h1 (by omega), Bool.false_and]]
    · have e65 : ∀ x : Int32, o_sd_meant_65 (o_sd_meant_18 m) u v (nI c) able (nI k) x (mk k fun a => tb able a && slk T Z c a) S = o_sd_meant_18 m u v (nI c) able ((mk k fun a => tb able a && slk T Z c a) ||| x) (nI (k + 1)) S := fun x => by
        unfold o_sd_meant_65
        rw [ltq, ltq, nI_1]
      have ih := sd_meant_loop hw hz h hs hc able hab j (k + 1) m (by omega) (by omega)
      rw [mk] at ih
      rw [if_neg q]
      unfold o_sd_meant_64
      rw [e65]
      cases q2 : tb able k with
      | false =>
        rw [q2, Bool.false_and] at ih
        rw [if_pos ((sr_ne able (by omega)).mpr q2)]
        exact ih
      | true =>
        have hka : k < ct T 0 := Decidable.byContradiction fun hx => by
          rw [hab k (by omega) (by omega)] at q2
          cases q2
        rw [q2, Bool.true_and] at ih
        rw [if_neg (fun e => by rw [(sr_ne able (by omega)).mp e] at q2; cases q2), sd_isMeant hw hz h hs hc hka, bnq]
        cases q3 : slk T Z c k with
        | false =>
          rw [q3] at ih
          rw [if_pos bF, e65]
          exact ih
        | true =>
          rw [q3] at ih
          rw [if_neg bT, e65]
          exact ih
theorem sd_meant (hw : WF T W V) (hz : WZ T Z) (h : TD v T W V L S) (hs : SD u Z (ct T 0) S) {c : Nat} (hc : c < ct T 1) : o_sd_meant u v (nI c) S = some (Z 0 &&& mk (ct T 0) (mnt T Z c), S) := by
  have hn := hw.b
  have hab : lo (ct T 0) (Z 0 &&& (srt T 3 ^^^ (-1))) := lo_and hz.1
  unfold o_sd_meant
  rw [if_pos hs.1.1, if_pos h.k, ltq, hs.2.1, h.so.2.2]
  have h0 := sd_meant_loop hw hz h hs hc _ hab 10 0 FU rfl (by unfold FU; omega)
  rw [show (mk 0 fun a => tb (Z 0 &&& (srt T 3 ^^^ (-1))) a && slk T Z c a) = 0 from rfl] at h0
  rw [show (0 : Int32) = nI 0 from rfl] at h0 ⊢
  rw [h0]
  congr 2
  apply tb_ext
  intro i hi
  rw [tb_mk _ _ _ (by omega) hi, tb_and, tb_not _ hi, tb_and, tb_mk _ _ _ (by omega) hi]
  unfold srt mnt
  rw [tb_mk _ _ _ (by omega) hi]
  by_cases q : i < ct T 0
  · have q10 : i < 10 := by omega
    rw [decide_eq_true q, decide_eq_true q10]
    simp only [Bool.true_and]
    exact Bool.and_assoc _ _ _
  · rw [decide_eq_false q, hz.1 i (by omega) hi]
    simp
theorem mk_and {n : Nat} (p q : Nat → Bool) (hn : n ≤ 32) : mk n p &&& mk n q = mk n fun a => p a && q a := by
  apply tb_ext
  intro i hi
  rw [tb_and, tb_mk _ _ _ hn hi, tb_mk _ _ _ hn hi, tb_mk _ _ _ hn hi]
  cases decide (i < n) <;> simp
/-- what hears a call wholly, and at all -/
theorem meant_wh {c l w : Nat} (hn : ct T 0 ≤ 32) : (Z 0 &&& mk (ct T 0) (mnt T Z c)) &&& mk (ct T 0) (fun a => decide (awy T a l ≤ w)) = Z 0 &&& whM T Z c l w := by
  rw [Int32.and_assoc, mk_and _ _ hn]
  rfl
theorem meant_hd {c l w : Nat} (hn : ct T 0 ≤ 32) : (Z 0 &&& mk (ct T 0) (mnt T Z c)) &&& mk (ct T 0) (fun a => decide (awy T a l ≤ 2 * w)) = Z 0 &&& hdM T Z c l w := by
  rw [Int32.and_assoc, mk_and _ _ hn]
  rfl
theorem two_mul_nI (w : Nat) : (2 : Int32) * nI w = nI (2 * w) := by
  rw [show (2 : Int32) = nI 2 from rfl, nI_mul]
theorem sd_fallers (hw : WF T W V) (hz : WZ T Z) (h : TD v T W V L S) (hs : SD u Z (ct T 0) S) {c l w : Nat} (hc : c < ct T 1) (hl : l < 12) (hww : w < 7) : o_sd_fallers u v (nI l) (nI w) (nI c) S = some (cryF T Z c l w, S) := by
  have hn := hw.b
  unfold o_sd_fallers
  rw [if_pos hs.1.1, sd_meant hw hz h hs hc, bnq, if_pos h.k, to_within hw h hl (by omega), bnq, two_mul_nI, to_within hw h hl (by omega), bnq, hs.2.1, hs.2.2.1, meant_wh (by omega), meant_hd (by omega), to_felled hw h hz.1, bnq, flC_cry (by omega)]
end STD
