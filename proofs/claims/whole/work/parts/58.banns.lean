/-! Banns: the class's side. -/
section BANNS
variable {T : St} {W V : Nat → List Nat} {L : Int32 → Int32 → Int32} {v d u a : Nat} {Z Z1 Z2 : Nat → Int32} {So So' Sm Sm' S : St}
/-- one cry, told by what hangs, what is loose and what is lost -/
def b1s (T : St) (Z : Nat → Int32) (L : Int32 → Int32 → Int32) (c l w : Nat) (day : Int32) (σ : Int32 × Int32 × Int32) : Int32 × Int32 × Int32 :=
  (σ.1 &&& (flA T σ.1 σ.2.1 (whM T Z c l w) (ecM T Z c l w) ^^^ (-1)), lsT T σ.1 σ.2.1 (whM T Z c l w) (ecM T Z c l w), σ.2.2 + vlS T L (flA T σ.1 σ.2.1 (whM T Z c l w) (ecM T Z c l w)) day)
/-- one bann read in its week -/
def bst (T : St) (Z : Nat → Int32) (L : Int32 → Int32 → Int32) (l w i b : Nat) (σ : Int32 × Int32 × Int32) : Int32 × Int32 × Int32 :=
  b1s T Z L (vN T 520 b) l w (Z 2 + 7 * nI i) (b1s T Z L (vN T 519 b) l w (Z 2 + 7 * nI i) σ)
def bfo (T : St) (Z : Nat → Int32) (L : Int32 → Int32 → Int32) (l w : Nat) (dg : Nat → Nat) : Nat → Nat → Int32 × Int32 × Int32 → Int32 × Int32 × Int32
  | 0, _, σ => σ
  | j + 1, i, σ => bfo T Z L l w dg j (i + 1) (bst T Z L l w i (dg i) σ)
def dgt (n c i : Nat) : Nat := c / 4 ^ (n - 1 - i) % 4
theorem dgt_all : ∀ n, n < 5 → ∀ i, i < n → ∀ c, c < 256 → ((nI c >>> (((2 : Int32) * ((nI n - 1) - nI i)) &&& 31)) &&& 3) = nI (dgt n c i) := by decide +kernel
theorem o_at {n c i : Nat} (hn : n < 5) (hi : i < n) (hc : c < 256) (S : St) : o_bannAt (nI c) (nI n) (nI i) S = some (nI (dgt n c i), S) := by
  unfold o_bannAt o_bannAt_24
  rw [if_neg (nI_pos (by omega)), if_pos (nI_lt hi (by omega)), dgt_all n hn i hi c hc]
/-- is it an order -/
def iso (n c : Nat) : Nat → Nat → Int32 → Bool
  | 0, _, x => decide (x = ((1 : Int32) <<< (nI n &&& 31)) - 1)
  | j + 1, i, x => iso n c j (i + 1) (x ||| ((1 : Int32) <<< (nI (dgt n c i) &&& 31)))
theorem o_iso {n c : Nat} (hn : n < 5) (hc : c < 256) (S : St) : ∀ (j i m : Nat) (x : Int32), i + j = n → j < m → o_isOrder_4 m (nI c) (nI n) x (nI i) S = some (bI (iso n c j i x), S)
  | 0, i, m, x, hi, hm => by
    obtain ⟨m, rfl, hm⟩ := fuel hm
    rw [Nat.add_zero] at hi
    subst hi
    rw [o_isOrder_4, if_neg (nI_nlt (Nat.le_refl _) (by omega))]
    unfold o_isOrder_26 o_isOrder_40 iso
    by_cases q : x = ((1 : Int32) <<< (nI i &&& 31)) - 1
    · rw [if_pos q, if_pos b1, decide_eq_true q]
      rfl
    · rw [if_neg q, if_pos b0, decide_eq_false q]
      rfl
  | j + 1, i, m, x, hi, hm => by
    obtain ⟨m, rfl, hm⟩ := fuel hm
    rw [o_isOrder_4, if_pos (nI_lt (by omega) (by omega)), o_at hn (by omega) hc, bnq, ltq, ltq, nI_1]
    exact o_iso hn hc S j (i + 1) m _ (by omega) (by omega)
/-- the trial, as the class holds it: its day laid, its names those of now -/
def bTr (T : St) (Z : Nat → Int32) (σ : Int32 × Int32 × Int32) (Z1 : Nat → Int32) : Prop := Z1 0 = σ.1 ∧ Z1 1 = σ.2.1 ∧ Z1 4 = Z 4 + σ.2.2 ∧ sn Z Z1 ∧ WZ T Z1
def setD (Z1 : Nat → Int32) (x : Int32) : Nat → Int32 := fun k => if k = 2 then x else Z1 k
theorem WZ_day (hz : WZ T Z1) (x : Int32) : WZ T (setD Z1 x) := by
  refine ⟨hz.1, hz.2.1, hz.2.2.1, hz.2.2.2.1, fun b hb => ?_⟩
  have e : setD Z1 x (5 + b) = Z1 (5 + b) := if_neg (by omega)
  unfold zs
  rw [e]
  exact hz.2.2.2.2 b hb
theorem bTr_cry {σ : Int32 × Int32 × Int32} (h : bTr T Z σ Z1) (c l w : Nat) : bTr T Z (b1s T Z L c l w (Z1 2) σ) (cryZ T L Z1 c l w) ∧ cryZ T L Z1 c l w 2 = Z1 2 := by
  obtain ⟨h1, h2, h3, h4, h5⟩ := h
  have e0 : cryZ T L Z1 c l w 0 = Z1 0 &&& (cryF T Z1 c l w ^^^ (-1)) := rfl
  have e1 : cryZ T L Z1 c l w 1 = lsT T (Z1 0) (Z1 1) (whM T Z1 c l w) (ecM T Z1 c l w) := rfl
  have e4 : cryZ T L Z1 c l w 4 = Z1 4 + vlS T L (cryF T Z1 c l w) (Z1 2) := rfl
  have ef : cryF T Z1 c l w = flA T σ.1 σ.2.1 (whM T Z c l w) (ecM T Z c l w) := by
    unfold cryF
    rw [sn_wh h4, sn_ec h4, h1, h2]
  refine ⟨⟨?_, ?_, ?_, sn_cry h4 c l w, WZ_cry h5 c l w⟩, rfl⟩
  · rw [e0, ef, h1]
    rfl
  · rw [e1, sn_wh h4, sn_ec h4, h1, h2]
    rfl
  · rw [e4, ef, h3, Int32.add_assoc]
    rfl
theorem bTr_day {σ : Int32 × Int32 × Int32} (h : bTr T Z σ Z1) (x : Int32) : bTr T Z σ (setD Z1 x) :=
  ⟨h.1, h.2.1, h.2.2.1, fun a => (if_neg (by omega)).trans (h.2.2.2.1 a), WZ_day h.2.2.2.2 x⟩
theorem SD_day {n : Nat} (h : SD 205 Z1 n S) (x : Int32) : SD 205 (setD Z1 x) n (wI S 205 3 x) := by
  refine ⟨h.1, ?_, ?_, rI_wI, ?_, ?_, fun a ha => ?_⟩
  · rw [rI_wI_k (by decide)]; exact h.2.1
  · rw [rI_wI_k (by decide)]; exact h.2.2.1
  · rw [rI_wI_k (by decide)]; exact h.2.2.2.2.1
  · rw [rI_wI_k (by decide)]; exact h.2.2.2.2.2.1
  · rw [rI_wI_a (by decide)]
    exact (h.2.2.2.2.2.2 a ha).trans (if_neg (by omega)).symm
theorem lb_loop (hw : WF T W V) {l w c : Nat} (hl : l < 12) (hww : w < 7) (hc : c < 256) (hdg : ∀ i, i < ct T 5 → dgt (ct T 5) c i < ct T 5) : ∀ (j i m : Nat) (σ : Int32 × Int32 × Int32) (Z1 : Nat → Int32) (S : St), rQ S 1 9 = some v → TD v T W V L S → SD 200 Z (ct T 0) S → SD 205 Z1 (ct T 0) S → bTr T Z σ Z1 → i + j = ct T 5 → j < m → ∃ S', o_lostByBanns_29 m (nI c) (nI l) (nI w) (nI (ct T 5)) (nI i) S = some ((bfo T Z L l w (dgt (ct T 5) c) j i σ).2.2, S') ∧ Fr (frXU 205) S S'
  | 0, i, m, σ, Z1, S, hv, hT, hs, h5, ht, hi, hm => by
    have hn := hw.b
    obtain ⟨m, rfl, hm⟩ := fuel hm
    rw [Nat.add_zero] at hi
    subst hi
    refine ⟨S, ?_, Fr.rf⟩
    rw [o_lostByBanns_29, if_neg (nI_nlt (Nat.le_refl _) (by omega))]
    unfold o_lostByBanns_129
    rw [h5.2.2.2.2.1, hs.2.2.2.2.1, ht.2.2.1, Int32.add_comm, Int32.add_sub_cancel]
    rfl
  | j + 1, i, m, σ, Z1, S, hv, hT, hs, h5, ht, hi, hm => by
    have hn := hw.b
    obtain ⟨m, rfl, hm⟩ := fuel hm
    have hb := hdg i (by omega)
    have hba := hw.bn hb
    have f1 : Fr (frXU 205) S (wI S 205 3 (Z 2 + 7 * nI i)) := Fr.wI rfl
    have k1 := (f1.q (frXU_n (a := 1) (k := 9) (by decide) (by decide))).trans hv
    have hT1 : TD v T W V L (wI S 205 3 (Z 2 + 7 * nI i)) := hT.fr f1 fun a k q => frXU_t (by decide) q
    have t1 := bTr_day ht (Z 2 + 7 * nI i)
    obtain ⟨S2, a1, a2, a3⟩ := sd_cry (u := 205) hw t1.2.2.2.2 hT1 (by decide) (SD_day h5 (Z 2 + 7 * nI i)) hba.1.2 hl hww
    obtain ⟨t2, d2⟩ := bTr_cry (L := L) t1 (vN T 519 (dgt (ct T 5) c i)) l w
    have k2 := (a3.q (frXU_n (a := 1) (k := 9) (by decide) (by decide))).trans k1
    have hT2 : TD v T W V L S2 := hT1.fr a3 fun a k q => frXU_t (by decide) q
    obtain ⟨S3, b1', b2, b3⟩ := sd_cry (u := 205) hw t2.2.2.2.2 hT2 (by decide) a2 hba.2.2 hl hww
    obtain ⟨t3, -⟩ := bTr_cry (L := L) t2 (vN T 520 (dgt (ct T 5) c i)) l w
    rw [d2] at t3
    have f3 := (f1.tr a3).tr b3
    obtain ⟨S', e1, e2⟩ := lb_loop hw hl hww hc hdg j (i + 1) m (bst T Z L l w i (dgt (ct T 5) c i) σ) _ S3 ((b3.q (frXU_n (a := 1) (k := 9) (by decide) (by decide))).trans k2) (hT2.fr b3 fun a k q => frXU_t (by decide) q) (hs.frw f3 (fun k => frXU_n (by decide) (by decide)) (fun k => frXU_n (by decide) (by decide))) b2 t3 (by omega) (by omega)
    have e5 : o_tb_at (v + 88) (nI (dgt (ct T 5) c i)) (0 : Int32) (wI S 205 3 (Z 2 + 7 * nI i)) = some (rI T 519 (dgt (ct T 5) c i), wI S 205 3 (Z 2 + 7 * nI i)) := tb_atI hT1.bn (i := dgt (ct T 5) c i) (j := 0) hb (by decide)
    have e6 : o_tb_at (v + 88) (nI (dgt (ct T 5) c i)) (1 : Int32) S2 = some (rI T 520 (dgt (ct T 5) c i), S2) := tb_atI hT2.bn (i := dgt (ct T 5) c i) (j := 1) hb (by decide)
    refine ⟨S', ?_, f3.tr e2⟩
    rw [o_lostByBanns_29, if_pos (nI_lt (by omega) (by omega)), o_at (by omega) (by omega) hc, bnq, hs.2.2.2.1, ltq, oq2 k1, oq2 k1, if_pos hT.k, if_pos hT1.bn.k, e5, bnq, hba.1.1, a1, bnq, oq2 k2, oq2 k2, if_pos hT.k, if_pos hT1.bn.k, e6, bnq, hba.2.1, b1', bnq, ltq, nI_1]
    exact e1
/-- what the class says is lost in an order -/
theorem o_lost_ok (hw : WF T W V) (hz : WZ T Z) {l w c : Nat} (hl : l < 12) (hww : w < 7) (hc : c < 256) (hdg : ∀ i, i < ct T 5 → dgt (ct T 5) c i < ct T 5) (hv : rQ S 1 9 = some v) (hT : TD v T W V L S) (hs : SD 200 Z (ct T 0) S) : ∃ S', o_lostByBanns (nI c) (nI l) (nI w) S = some ((bfo T Z L l w (dgt (ct T 5) c) (ct T 5) 0 (Z 0, Z 1, 0)).2.2, S') ∧ Fr (frXU 205) S S' := by
  have hn := hw.b
  obtain ⟨S1, a1, a2, a3⟩ := sd_copy (u := 205) (u2 := 200) ⟨rfl, rfl⟩ hs hn.1 (by decide) (by decide) (by decide) hz.2.2.2.1
  have f1 : Fr (frXU 205) S S1 := a3.mo fun x k q => frXU_U q
  obtain ⟨S', e1, e2⟩ := lb_loop (v := v) (V := V) (W := W) (L := L) hw hl hww hc hdg (ct T 5) 0 FU (Z 0, Z 1, 0) Z S1 ((f1.q (frXU_n (by decide) (by decide))).trans hv) (hT.fr f1 fun a k q => frXU_t (by decide) q) (hs.frw f1 (fun k => frXU_n (by decide) (by decide)) (fun k => frXU_n (by decide) (by decide))) a2 ⟨rfl, rfl, (Int32.add_zero _).symm, fun _ => rfl, hz⟩ (Nat.zero_add _) (by unfold FU; omega)
  refine ⟨S', ?_, f1.tr e2⟩
  unfold o_lostByBanns
  rw [oq2 hv, if_pos hT.k, if_pos hT.bn.k, tb_size hT.bn, bnq, a1, bnq]
  exact e1
end BANNS
