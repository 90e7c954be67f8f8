/-! Public methods: loss, best. -/
section LOSS
variable {T : St} {W V : Nat → List Nat} {L : Int32 → Int32 → Int32} {v d u a : Nat} {Z : Nat → Int32} {So So' Sm Sm' S : St}
theorem nI_div {a b : Nat} (ha : a < 2 ^ 31) (hb : b < 2 ^ 31) : nI a / nI b = nI (a / b) := (Int32.ofNat_div ha hb).symm
/-- what a stranger leaves of a chance -/
def stp (T : St) (Z : Nat → Int32) (a i c : Nat) : Nat := bif slk T Z (vN T 515 i) a then c * (10 - vN T 516 i) / 10 else c
def cpre (T : St) (Z : Nat → Int32) (a : Nat) : Nat → Nat → Nat
  | 0, c => c
  | i + 1, c => stp T Z a i (cpre T Z a i c)
def cdays (T : St) (Z : Nat → Int32) (a : Nat) : Nat → Nat → Nat
  | 0, c => c
  | d + 1, c => cdays T Z a d (cpre T Z a (ct T 3) c)
theorem m10 (c x : Nat) (hx : x ≤ 10) : c * x / 10 ≤ c := Nat.div_le_of_le_mul (by rw [Nat.mul_comm]; exact Nat.mul_le_mul_right c hx)
theorem stp_le (T : St) (Z : Nat → Int32) (a i c : Nat) : stp T Z a i c ≤ c := by
  unfold stp
  cases slk T Z (vN T 515 i) a with
  | true => exact m10 _ _ (by omega)
  | false => exact Nat.le_refl _
theorem cpre_le (T : St) (Z : Nat → Int32) (a : Nat) : ∀ i c, cpre T Z a i c ≤ c
  | 0, c => Nat.le_refl _
  | i + 1, c => Nat.le_trans (stp_le T Z a i _) (cpre_le T Z a i c)
theorem cdays_le (T : St) (Z : Nat → Int32) (a : Nat) : ∀ d c, cdays T Z a d c ≤ c
  | 0, c => Nat.le_refl _
  | d + 1, c => Nat.le_trans (cdays_le T Z a d _) (cpre_le T Z a _ c)
def lsA (T : St) (Z : Nat → Int32) (a d : Nat) : Nat := bif tb (Z 0) a && !decide (vN T 506 a = 3) then vN T 510 a * (1000000 - cdays T Z a d 1000000) / 1000 else 0
theorem lsA_le (hw : WF T W V) (Z : Nat → Int32) {a : Nat} (ha : a < ct T 0) (d : Nat) : lsA T Z a d ≤ 100000 := by
  have h := (hw.ap ha).2.2.2.2.2.2
  unfold lsA
  cases tb (Z 0) a && !decide (vN T 506 a = 3) with
  | false => exact Nat.zero_le _
  | true =>
    refine Nat.div_le_of_le_mul ?_
    refine Nat.le_trans (Nat.mul_le_mul (show vN T 510 a ≤ 100 by omega) (show 1000000 - cdays T Z a d 1000000 ≤ 1000000 by omega)) (by decide)
def fo (g : Nat → Nat) : Nat → Nat → Nat
  | 0, c => c
  | i + 1, c => fo g i c * g i / 10
theorem fo_le {g : Nat → Nat} : ∀ (i c : Nat), (∀ q, q < i → g q ≤ 10) → fo g i c ≤ c
  | 0, c, _ => Nat.le_refl _
  | i + 1, c, h => Nat.le_trans (m10 _ _ (h i (by omega))) (fo_le i c fun q hq => h q (by omega))
theorem fo_ext {g g' : Nat → Nat} : ∀ (i c : Nat), (∀ q, q < i → g q = g' q) → fo g i c = fo g' i c
  | 0, c, _ => rfl
  | i + 1, c, h => by rw [fo, fo, fo_ext i c fun q hq => h q (by omega), h i (by omega)]
theorem to_isDeaf (hw : WF T W V) (h : TD v T W V L S) {a : Nat} (ha : a < ct T 0) : o_to_isDeaf v (nI a) S = some (bI (decide (vN T 506 a = 3)), S) := by
  have hn := hw.b
  unfold o_to_isDeaf o_to_isDeaf_23 o_to_isDeaf_24
  rw [if_pos h.k, to_hasApple h, bnq, inN_nI (by omega) (by omega), decide_eq_true ha, if_neg bT, h.so.2.2, if_pos b0, if_pos b1]
  have e : tb (srt T 3) a = decide (vN T 506 a = 3) := by
    unfold srt
    rw [tb_mk _ _ _ (by omega) (by omega), decide_eq_true ha, Bool.true_and]
  by_cases q : vN T 506 a = 3
  · rw [decide_eq_true q] at e ⊢
    rw [if_neg (fun h => by rw [(sr_ne _ (by omega)).mp h] at e; cases e)]
    rfl
  · rw [decide_eq_false q] at e ⊢
    rw [if_pos ((sr_ne _ (by omega)).mpr e)]
    rfl
theorem sp_in {g : Nat → Nat} {n c : Nat} (k96 : Int32 → Int32 → Int32 → Int32 → St → Re Int32) (x y : Int32) (hn : n ≤ 6) (hc : c ≤ 1000000) (hg : ∀ q, q < n → rI S 18 q = nI (g q) ∧ g q ≤ 10) : ∀ (j i m : Nat), i + j = n → j < m → o_spared_105 k96 m x (nI n) (nI (fo g i c)) y (nI i) S = o_spared_143 k96 x (nI n) (nI (fo g n c)) y S
  | 0, i, m, hi, hm => by
    obtain ⟨m, rfl, hm⟩ := fuel hm
    rw [Nat.add_zero] at hi
    subst hi
    rw [o_spared_105, if_neg (nI_nlt (Nat.le_refl _) (by omega))]
  | j + 1, i, m, hi, hm => by
    obtain ⟨m, rfl, hm⟩ := fuel hm
    have hle : fo g i c ≤ c := fo_le i c fun q hq => (hg q (by omega)).2
    have hgi := hg i (by omega)
    have hmul : fo g i c * g i ≤ 10000000 := Nat.le_trans (Nat.mul_le_mul (show fo g i c ≤ 1000000 by omega) hgi.2) (by decide)
    rw [o_spared_105, if_pos (nI_lt (by omega) (by omega)), if_pos (show nI i < 6 from nI_lt (b := 6) (by omega) (by decide)), if_neg (nI_in (by omega) (by omega)), nI_clamp (by omega), hgi.1, nI_mul, show (10 : Int32) = nI 10 from rfl, nI_div (by omega) (by decide), ltq, ltq, nI_1]
    exact sp_in k96 x y hn hc hg j (i + 1) m (by omega) (by omega)
theorem sp_days {g : Nat → Nat} {n d : Nat} (hd : d < 100) (hn : n ≤ 6) (hg : ∀ q, q < n → rI S 18 q = nI (g q) ∧ g q ≤ 10) (he : ∀ c, fo g n c = cpre T Z a (ct T 3) c) : ∀ (j t m c : Nat), t + j = d → j < m → c ≤ 1000000 → o_spared_96 m (nI d) (nI n) (nI c) (nI t) S = some (nI (cdays T Z a j c), S)
  | 0, t, m, c, ht, hm, hc => by
    obtain ⟨m, rfl, hm⟩ := fuel hm
    rw [Nat.add_zero] at ht
    subst ht
    rw [o_spared_96, if_neg (nI_nlt (Nat.le_refl _) (by omega))]
    rfl
  | j + 1, t, m, c, ht, hm, hc => by
    obtain ⟨m, rfl, hm⟩ := fuel hm
    have e := sp_in (S := S) (o_spared_96 m) (nI d) (nI t) hn hc hg n 0 FU (Nat.zero_add _) (by unfold FU; omega)
    have hl := cpre_le T Z a (ct T 3) c
    rw [o_spared_96, if_pos (nI_lt (by omega) (by omega)), (show o_spared_105 (o_spared_96 m) FU (nI d) (nI n) (nI c) (nI t) 0 S = _ from e), he c]
    unfold o_spared_143
    rw [ltq, nI_1]
    exact sp_days hd hn hg he j (t + 1) m _ (by omega) (by omega) (by omega)
def fr18 : Nat → Nat → Bool := fun x _ => x == 18
theorem fr18_n {x k : Nat} (h : x ≠ 18) : fr18 x k = false := beq_eq_false_iff_ne.mpr h
theorem fr18_t {x k : Nat} (h : ton x) : fr18 x k = false := by
  unfold ton at h
  exact fr18_n (by omega)
theorem sp_build (hw : WF T W V) (hz : WZ T Z) (hu : 200 ≤ u) (ha : a < ct T 0) (x : Int32) : ∀ (j i m n : Nat) (g : Nat → Nat) (S : St), rQ S 1 9 = some v → TD v T W V L S → SD u Z (ct T 0) S → i + j = ct T 3 → j < m → n ≤ i → (∀ q, q < n → rI S 18 q = nI (g q) ∧ g q ≤ 10) → (∀ c, fo g n c = cpre T Z a i c) → ∃ n' g' S', o_spared_6 m u (nI a) x (nI n) (nI i) S = o_spared_88 x (nI n') S' ∧ n' ≤ 6 ∧ (∀ q, q < n' → rI S' 18 q = nI (g' q) ∧ g' q ≤ 10) ∧ (∀ c, fo g' n' c = cpre T Z a (ct T 3) c) ∧ Fr fr18 S S'
  | 0, i, m, n, g, S, hv, hT, hs, hi, hm, hni, hg, he => by
    have hn := hw.b
    obtain ⟨m, rfl, hm⟩ := fuel hm
    rw [Nat.add_zero] at hi
    subst hi
    refine ⟨n, g, S, ?_, by omega, hg, he, Fr.rf⟩
    rw [o_spared_6, oq2 hv, if_pos hT.k, if_pos hT.sr.k, tb_size hT.sr, bnq, if_neg (nI_nlt (Nat.le_refl _) (by omega))]
  | j + 1, i, m, n, g, S, hv, hT, hs, hi, hm, hni, hg, he => by
    have hn := hw.b
    obtain ⟨m, rfl, hm⟩ := fuel hm
    have hsr := hw.sr (show i < ct T 3 by omega)
    have hsr2 : vN T 516 i < 11 := hsr.2.2
    have e0 : o_tb_at (v + 84) (nI i) (0 : Int32) S = some (rI T 515 i, S) := tb_atI hT.sr (i := i) (j := 0) (by omega) (by decide)
    have e1 : o_tb_at (v + 84) (nI i) (1 : Int32) S = some (rI T 516 i, S) := tb_atI hT.sr (i := i) (j := 1) (by omega) (by decide)
    have em := sd_isMeant (u := u) hw hz hT hs hsr.1.2 ha
    rw [o_spared_6, oq2 hv, if_pos hT.k, if_pos hT.sr.k, tb_size hT.sr, bnq, if_pos (nI_lt (by omega) (by omega)), oq2 hv, oq2 hv, if_pos hT.k, if_pos hT.sr.k, e0, bnq, if_pos hs.1.1, hsr.1.1, em, bnq]
    unfold o_spared_82
    cases hk : slk T Z (vN T 515 i) a with
    | false =>
      rw [if_pos bF, ltq, nI_1]
      exact sp_build hw hz hu ha x j (i + 1) m n g S hv hT hs (by omega) (by omega) (by omega) hg fun c => by
        rw [cpre, stp, hk]
        exact he c
    | true =>
      have f1 : Fr fr18 S (wI S 18 n (10 - rI T 516 i)) := Fr.wI rfl
      obtain ⟨n', g', S', r1, r2, r3, r4, r5⟩ := sp_build hw hz hu ha x j (i + 1) m (n + 1) (fun q => if q = n then 10 - vN T 516 i else g q) (wI S 18 n (10 - rI T 516 i)) ((f1.q (fr18_n (by decide))).trans hv) (hT.fr f1 fun a k q => fr18_t q) (hs.frw f1 (fun k => fr18_n (by omega)) (fun k => fr18_n (by omega))) (by omega) (by omega) (by omega) (fun q hq => by
          by_cases qn : q = n
          · subst qn
            rw [rI_wI, if_pos rfl, hsr.2.1, show (10 : Int32) = nI 10 from rfl, nI_sub (by omega)]
            exact ⟨rfl, by omega⟩
          · rw [rI_wI_k qn, if_neg qn]
            exact hg q (by omega)) (fun c => by
          rw [fo, if_pos rfl, fo_ext (g' := g) n c (fun q hq => if_neg (by omega)), he c, cpre, stp, hk]
          rfl)
      refine ⟨n', g', S', ?_, r2, r3, r4, f1.tr r5⟩
      rw [if_neg bT, if_pos (show nI n < 6 from nI_lt (b := 6) (by omega) (by decide)), oq2 hv, if_pos hT.k, if_pos hT.sr.k, e1, bnq, if_neg (nI_in (by omega) (by omega)), nI_clamp (by omega), ltq, ltq, ltq, nI_1, nI_1]
      exact r1
/-- what an apple loses, the class -/
theorem o_lossOf_ok (hw : WF T W V) (hz : WZ T Z) (hu : 200 ≤ u) (hv : rQ S 1 9 = some v) (hT : TD v T W V L S) (hs : SD u Z (ct T 0) S) {a d : Nat} (ha : a < ct T 0) (hd : d < 100) : ∃ S', o_lossOf u (nI a) (nI d) S = some (nI (lsA T Z a d), S') ∧ Fr fr18 S S' := by
  have hn := hw.b
  have hap := hw.ap ha
  have hap2 : vN T 510 a < 100 := hap.2.2.2.2.2.2
  unfold o_lossOf o_lossOf_19 lsA
  rw [if_pos hs.1.1, sd_hangs hz hs hn.1, bnq]
  unfold hgB
  rw [inN_nI (by omega) (by omega), decide_eq_true ha, Bool.true_and, nI_clamp (by omega)]
  cases htb : tb (Z 0) a with
  | false =>
    rw [if_pos bF]
    exact ⟨S, rfl, Fr.rf⟩
  | true =>
    rw [if_neg bT, oq2 hv, if_pos hT.k, to_isDeaf hw hT ha, bnq]
    by_cases q : vN T 506 a = 3
    · rw [decide_eq_true q, if_neg bT]
      exact ⟨S, rfl, Fr.rf⟩
    · rw [decide_eq_false q, if_pos bF, oq2 hv, if_pos hT.k, if_pos hT.ap.k]
      have e4 : o_tb_at (v + 80) (nI a) (4 : Int32) S = some (rI T 510 a, S) := tb_atI hT.ap (i := a) (j := 4) ha (by decide)
      obtain ⟨n', g', S', r1, r2, r3, r4, r5⟩ := sp_build (S := S) hw hz hu ha (nI d) (ct T 3) 0 FU 0 (fun _ => 0) hv hT hs (Nat.zero_add _) (by unfold FU; omega) (Nat.le_refl _) (fun q hq => absurd hq (Nat.not_lt_zero _)) (fun c => rfl)
      have r6 := sp_days (S := S') (T := T) (Z := Z) (a := a) hd r2 r3 r4 d 0 FU 1000000 (Nat.zero_add _) (by unfold FU; omega) (Nat.le_refl _)
      have hc := cdays_le T Z a d 1000000
      have hmul : vN T 510 a * (1000000 - cdays T Z a d 1000000) ≤ 100000000 := Nat.le_trans (Nat.mul_le_mul (show vN T 510 a ≤ 100 by omega) (show 1000000 - cdays T Z a d 1000000 ≤ 1000000 by omega)) (by decide)
      refine ⟨S', ?_, r5⟩
      have es : o_spared u (nI a) (nI d) S = some (nI (cdays T Z a d 1000000), S') := r1.trans r6
      rw [e4, bnq, es, bnq, hap.2.2.2.2.2.1, show (1000000 : Int32) = nI 1000000 from rfl, nI_sub hc, nI_mul, show (1000 : Int32) = nI 1000 from rfl, nI_div (by omega) (by decide)]
      rfl
end LOSS
