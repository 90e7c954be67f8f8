/-! feed: both sides lay the same signs behind the tape. -/
def okB (x : Int32) : Bool := decide (x = 10) || (!decide (x < 32) && !decide ((126 : Int32) < x))
def putS (t : Nat × (Nat → Int32)) (x : Int32) : Nat × (Nat → Int32) := bif decide (t.1 < 1000) && okB x then (t.1 + 1, upd t.2 t.1 x) else t
/-- a state with this tape: of the class, of the reference -/
def oT (S : St) (t : Nat × (Nat → Int32)) : St := (fun a k => if a = 4 then t.2 k else if a = 3 ∧ k = 1 then nI t.1 else S.1 a k, S.2)
def mT (S : St) (t : Nat × (Nat → Int32)) : St := (fun a k => if a = 501 then t.2 k else if a = 500 ∧ k = 1 then nI t.1 else S.1 a k, S.2)
def byO (v : Int64) (sh : Int32) : Int32 := ((v >>> (sh.toInt64 &&& 63)) &&& (255 : Int64)).toInt32
def byM (p : Int64) (k : Int32) : Int32 := ((p.toUInt64 >>> (((56 : Int32) - ((8 : Int32) * (k &&& (7 : Int32)))).toInt64.toUInt64 &&& Int64.toUInt64 63)).toInt64 &&& (255 : Int64)).toInt32
theorem putS_le {t : Nat × (Nat → Int32)} (x : Int32) (h : t.1 ≤ 1000) : (putS t x).1 ≤ 1000 := by
  unfold putS
  cases hb : decide (t.1 < 1000) with
  | false => simpa using h
  | true =>
    have h1 : t.1 < 1000 := of_decide_eq_true hb
    cases okB x <;> simp <;> omega
theorem char_ok {x : Int32} (h : okB x = true) : vp_nar .char ((x.toUInt32 % 65536).toInt32) = x := by
  have hx : ∃ j : Nat, j < 127 ∧ x = nI j := by
    unfold okB at h
    by_cases h10 : x = 10
    · exact ⟨10, by decide, h10⟩
    · simp only [h10, decide_false, Bool.false_or, Bool.and_eq_true, Bool.not_eq_true', decide_eq_false_iff_not] at h
      have h0 : ¬ x < 0 := fun q => h.1 (Int32.lt_trans q (by decide))
      obtain ⟨j, hj, rfl⟩ := nI_of h0
      refine ⟨j, ?_, rfl⟩
      have h2 := h.2
      rw [show (126 : Int32) = nI 126 from rfl, nI_ltI (by omega) hj] at h2
      omega
  obtain ⟨j, hj, rfl⟩ := hx
  rw [pk_vc]
  exact (sb_byte j (by omega)).2.1
theorem o_put3 (n : Nat) (v : Int64) (sh : Int32) (S : St) (t : Nat × (Nat → Int32)) (ht : t.1 ≤ 1000) (hsh : ¬ sh < 0) : o_tp_put_3 (n + 1) v sh (oT S t) = o_tp_put_3 n v (sh + (-8 : Int32)) (oT S (putS t (byO v sh))) := by
  rw [o_tp_put_3]
  simp only [if_neg hsh, lt']
  rw [show (((v >>> (sh.toInt64 &&& 63)) &&& (255 : Int64)).toInt32) = byO v sh from rfl]
  have hch := @char_ok (byO v sh)
  generalize byO v sh = x at hch ⊢
  have hl : rI (oT S t) 3 1 = nI t.1 := by simp [rI, oT]
  have w : ∀ hok : okB x = true, o_tp_put_43 (o_tp_put_3 n) v sh x 1 (oT S t) = o_tp_put_3 n v (sh + (-8 : Int32)) (oT S (putS t x)) := by
    intro hok
    unfold o_tp_put_43 o_tp_put_84
    simp only [lt']
    rw [if_neg (by decide : ¬ (1 : Int32) = 0), hl, show (1000 : Int32) = nI 1000 from rfl]
    by_cases hlt : t.1 < 1000
    · rw [if_pos ((nI_ltI (by omega) (by decide)).mpr hlt), nI_clamp (by omega), if_neg (by
        rintro (q | q)
        · exact nI_pos (by omega) q
        · omega), hch hok]
      congr 1
      have hb : decide (t.1 < 1000) = true := decide_eq_true hlt
      unfold putS
      rw [hb, hok]
      refine Prod.ext ?_ rfl
      funext a k
      simp only [wI, up2, oT, rI, upd, Bool.and_self, cond_true]
      by_cases h4 : a = 4
      · subst h4
        simp
      · by_cases h3 : a = 3
        · subst h3
          by_cases hk : k = 1
          · subst hk
            simp [nI_1]
          · simp [hk]
        · simp [h4, h3]
    · rw [if_neg (fun q => hlt ((nI_ltI (by omega) (by decide)).mp q))]
      have hb : decide (t.1 < 1000) = false := decide_eq_false hlt
      unfold putS
      rw [hb]
      rfl
  have w0 : ∀ hok : okB x = false, o_tp_put_43 (o_tp_put_3 n) v sh x 0 (oT S t) = o_tp_put_3 n v (sh + (-8 : Int32)) (oT S (putS t x)) := by
    intro hok
    unfold o_tp_put_43 o_tp_put_84
    simp only [lt']
    rw [if_pos trivial]
    unfold putS
    rw [hok, Bool.and_false]
    rfl
  unfold o_tp_put_38 o_tp_put_42
  by_cases h10 : x = 10
  · rw [if_pos h10]
    exact w (by simp [okB, h10])
  · rw [if_neg h10]
    by_cases h32 : x < 32
    · rw [if_pos h32]
      exact w0 (by simp [okB, h10, h32])
    · rw [if_neg h32]
      by_cases h126 : (126 : Int32) < x
      · rw [if_pos h126]
        exact w0 (by simp [okB, h10, h126])
      · rw [if_neg h126]
        exact w (by simp [okB, h32, h126])
theorem m_feed8 (n : Nat) (a b c : Int64) (k : Nat) (hk : k < 24) (S : St) (t : Nat × (Nat → Int32)) (ht : t.1 ≤ 1000) : m_feed_8 (n + 1) a b c (nI k) (mT S t) = m_feed_8 n a b c (nI (k + 1)) (mT S (putS t (byM (if k < 8 then a else if k < 16 then b else c) (nI k)))) := by
  have key : ∀ p0 : Int64, m_feed_39 (m_feed_8 n) a b c (nI k) p0 (mT S t) = m_feed_8 n a b c (nI (k + 1)) (mT S (putS t (byM p0 (nI k)))) := by
    intro p0
    unfold m_feed_39 m_feed_114 m_feed_93 m_feed_114
    simp only [lt']
    rw [show (((p0.toUInt64 >>> (((56 : Int32) - ((8 : Int32) * (nI k &&& (7 : Int32)))).toInt64.toUInt64 &&& Int64.toUInt64 63)).toInt64 &&& (255 : Int64)).toInt32) = byM p0 (nI k) from rfl]
    generalize byM p0 (nI k) = x
    have hl : rI (mT S t) 500 1 = nI t.1 := by simp [rI, mT]
    rw [hl, nI_1, show (1000 : Int32) = nI 1000 from rfl]
    by_cases hlt : t.1 < 1000
    · have hb : decide (t.1 < 1000) = true := decide_eq_true hlt
      have hw : ∀ hok : okB x = true, wI (wI (mT S t) 501 (nI t.1).toNatClampNeg x) 500 1 (rI (wI (mT S t) 501 (nI t.1).toNatClampNeg x) 500 1 + 1) = mT S (putS t x) := by
        intro hok
        unfold putS
        rw [hb, hok, nI_clamp (by omega)]
        refine Prod.ext ?_ rfl
        funext a k
        simp only [wI, up2, mT, rI, upd, Bool.and_self, cond_true]
        by_cases h4 : a = 501
        · subst h4
          simp
        · by_cases h3 : a = 500
          · subst h3
            by_cases hk : k = 1
            · subst hk
              simp [nI_1]
            · simp [hk]
          · simp [h4, h3]
      have hn : ∀ hok : okB x = false, mT S t = mT S (putS t x) := by
        intro hok
        unfold putS
        rw [hok, Bool.and_false]
        rfl
      have g0 : ¬ (nI t.1 < 0 ∨ 1000 ≤ (nI t.1).toNatClampNeg) := by
        rintro (q | q)
        · exact nI_pos (by omega) q
        · rw [nI_clamp (by omega)] at q; omega
      rw [if_pos ((nI_ltI (by omega) (by decide)).mpr hlt)]
      by_cases h10 : x = 10
      · rw [if_pos h10, if_neg g0, hw (by simp [okB, h10])]
      · rw [if_neg h10]
        by_cases h32 : x < 32
        · rw [if_pos h32, ← hn (by simp [okB, h10, h32])]
        · rw [if_neg h32]
          by_cases h126 : (126 : Int32) < x
          · rw [if_pos h126, ← hn (by simp [okB, h10, h126])]
          · rw [if_neg h126, if_neg g0, hw (by simp [okB, h32, h126])]
    · rw [if_neg (fun q => hlt ((nI_ltI (by omega) (by decide)).mp q))]
      have hb : decide (t.1 < 1000) = false := decide_eq_false hlt
      unfold putS
      rw [hb]
      rfl
  rw [m_feed_8]
  rw [show (24 : Int32) = nI 24 from rfl, show (8 : Int32) = nI 8 from rfl, show (16 : Int32) = nI 16 from rfl, if_pos ((nI_ltI (by omega) (by decide)).mpr hk)]
  by_cases h8 : k < 8
  · rw [if_pos ((nI_ltI (by omega) (by decide)).mpr h8), if_pos h8]
    exact key a
  · rw [if_neg (fun q => h8 ((nI_ltI (by omega) (by decide)).mp q)), if_neg h8]
    by_cases h16 : k < 16
    · rw [if_pos ((nI_ltI (by omega) (by decide)).mpr h16), if_pos h16]
      exact key b
    · rw [if_neg (fun q => h16 ((nI_ltI (by omega) (by decide)).mp q)), if_neg h16]
      exact key c
theorem bv_byte (x : BitVec 64) (s : Nat) (hs : s ≤ 56) : (x >>> s) &&& 255#64 = (x.sshiftRight s) &&& 255#64 := by
  apply BitVec.eq_of_getLsbD_eq
  intro i hi
  rw [BitVec.getLsbD_and, BitVec.getLsbD_and]
  by_cases h8 : i < 8
  · congr 1
    rw [BitVec.getLsbD_ushiftRight, BitVec.getLsbD_sshiftRight]
    have h1 : ¬ 64 ≤ i := by omega
    have h2 : s + i < 64 := by omega
    simp [h1, h2]
  · have h255 : (255#64).getLsbD i = false := by
      have : ∀ j : Nat, j < 64 → 8 ≤ j → (255#64).getLsbD j = false := by decide
      exact this i hi (by omega)
    rw [h255, Bool.and_false, Bool.and_false]
theorem byM_eq (p : Int64) : ∀ k : Nat, k < 24 → byM p (nI k) = byO p (nI (56 - 8 * (k % 8))) := by
  intro k hk
  have key : ∀ s : Nat, s ≤ 56 → ((p.toUInt64 >>> (UInt64.ofNat s)).toInt64 &&& (255 : Int64)) = ((p >>> (Int64.ofNat s)) &&& (255 : Int64)) := by
    intro s hs
    apply Int64.toBitVec_inj.mp
    have h := bv_byte p.toBitVec s hs
    rw [Int64.toBitVec_and, Int64.toBitVec_and]
    have e1 : (p.toUInt64 >>> (UInt64.ofNat s)).toInt64.toBitVec = p.toBitVec >>> s := by
      show (p.toUInt64 >>> (UInt64.ofNat s)).toBitVec = _
      rw [UInt64.toBitVec_shiftRight]
      show p.toBitVec >>> ((BitVec.ofNat 64 s) % 64) = _
      rw [BitVec.ushiftRight_eq']
      congr 1
      simp
      omega
    have e2 : (p >>> (Int64.ofNat s)).toBitVec = p.toBitVec.sshiftRight s := by
      rw [Int64.toBitVec_shiftRight]
      rw [BitVec.sshiftRight_eq']
      congr 1
      have : ∀ s : Nat, s ≤ 56 → ((Int64.ofNat s).toBitVec.smod 64).toNat = s := by decide
      exact this s hs
    rw [e1, e2]
    exact h
  have hc : ∀ k : Nat, k < 24 → ((((56 : Int32) - ((8 : Int32) * (nI k &&& (7 : Int32)))).toInt64.toUInt64 &&& Int64.toUInt64 63) = UInt64.ofNat (56 - 8 * (k % 8))) ∧ (((nI (56 - 8 * (k % 8))).toInt64 &&& 63) = Int64.ofNat (56 - 8 * (k % 8))) := by decide +kernel
  unfold byM byO
  rw [(hc k hk).1, (hc k hk).2, key _ (by omega)]
/-- eight signs of a long -/
def p8 (t : Nat × (Nat → Int32)) (v : Int64) : Nat × (Nat → Int32) := putS (putS (putS (putS (putS (putS (putS (putS t (byO v (nI 56))) (byO v (nI 48))) (byO v (nI 40))) (byO v (nI 32))) (byO v (nI 24))) (byO v (nI 16))) (byO v (nI 8))) (byO v (nI 0))
theorem p8_le {t : Nat × (Nat → Int32)} (v : Int64) (h : t.1 ≤ 1000) : (p8 t v).1 ≤ 1000 := by
  unfold p8
  exact putS_le _ (putS_le _ (putS_le _ (putS_le _ (putS_le _ (putS_le _ (putS_le _ (putS_le _ h)))))))
theorem o_put8 (v : Int64) (S : St) (t : Nat × (Nat → Int32)) (ht : t.1 ≤ 1000) : o_tp_put v (oT S t) = some ((), oT S (p8 t v)) := by
  unfold o_tp_put
  rw [show FU = 999991 + 9 from rfl]
  have a1 := putS_le (byO v (nI 56)) ht
  have a2 := putS_le (byO v (nI 48)) a1
  have a3 := putS_le (byO v (nI 40)) a2
  have a4 := putS_le (byO v (nI 32)) a3
  have a5 := putS_le (byO v (nI 24)) a4
  have a6 := putS_le (byO v (nI 16)) a5
  have a7 := putS_le (byO v (nI 8)) a6
  rw [show (56 : Int32) = nI 56 from rfl]
  rw [o_put3 _ v (nI 56) S t ht (by decide), show nI 56 + (-8 : Int32) = nI 48 by decide]
  rw [o_put3 _ v (nI 48) S _ a1 (by decide), show nI 48 + (-8 : Int32) = nI 40 by decide]
  rw [o_put3 _ v (nI 40) S _ a2 (by decide), show nI 40 + (-8 : Int32) = nI 32 by decide]
  rw [o_put3 _ v (nI 32) S _ a3 (by decide), show nI 32 + (-8 : Int32) = nI 24 by decide]
  rw [o_put3 _ v (nI 24) S _ a4 (by decide), show nI 24 + (-8 : Int32) = nI 16 by decide]
  rw [o_put3 _ v (nI 16) S _ a5 (by decide), show nI 16 + (-8 : Int32) = nI 8 by decide]
  rw [o_put3 _ v (nI 8) S _ a6 (by decide), show nI 8 + (-8 : Int32) = nI 0 by decide]
  rw [o_put3 _ v (nI 0) S _ a7 (by decide), show nI 0 + (-8 : Int32) = (-8 : Int32) by decide]
  rw [o_tp_put_3, if_pos (by decide)]
  rfl
/-- THE CLASS's feed -/
theorem o_feed_ok (a b c : Int64) (S : St) (t : Nat × (Nat → Int32)) (ht : t.1 ≤ 1000) : o_feed a b c (oT S t) = some (nI (p8 (p8 (p8 t a) b) c).1, oT S (p8 (p8 (p8 t a) b) c)) := by
  unfold o_feed
  rw [o_put8 a S t ht]
  simp only [bn]
  rw [o_put8 b S _ (p8_le a ht)]
  simp only
  rw [o_put8 c S _ (p8_le b (p8_le a ht))]
  simp only
  simp [rI, oT]
/-- the reference's signs from the k-th on, j of them -/
def mF (a b c : Int64) : Nat → Nat → Nat × (Nat → Int32) → Nat × (Nat → Int32)
  | 0, _, t => t
  | j + 1, k, t => mF a b c j (k + 1) (putS t (byM (if k < 8 then a else if k < 16 then b else c) (nI k)))
theorem m_feed_run (a b c : Int64) : ∀ (j k n : Nat) (S : St) (t : Nat × (Nat → Int32)), k + j = 24 → t.1 ≤ 1000 → m_feed_8 (n + j + 1) a b c (nI k) (mT S t) = some (nI (mF a b c j k t).1, mT S (mF a b c j k t))
  | 0, k, n, S, t, hk, ht => by
    obtain rfl : k = 24 := by omega
    rw [m_feed_8, if_neg (by decide)]
    unfold m_feed_120 mF
    simp [rI, mT]
  | j + 1, k, n, S, t, hk, ht => by
    rw [show n + (j + 1) + 1 = (n + j + 1) + 1 by omega, m_feed8 _ a b c k (by omega) S t ht, m_feed_run a b c j (k + 1) n S _ (by omega) (putS_le _ ht)]
    rfl
theorem mF_p8 (a b c : Int64) (t : Nat × (Nat → Int32)) : mF a b c 24 0 t = p8 (p8 (p8 t a) b) c := by
  simp only [mF, Nat.zero_add, Nat.reduceAdd, Nat.reduceLT, if_true, if_false]
  rw [byM_eq a 0 (by decide), byM_eq a 1 (by decide), byM_eq a 2 (by decide), byM_eq a 3 (by decide), byM_eq a 4 (by decide), byM_eq a 5 (by decide), byM_eq a 6 (by decide), byM_eq a 7 (by decide),
    byM_eq b 8 (by decide), byM_eq b 9 (by decide), byM_eq b 10 (by decide), byM_eq b 11 (by decide), byM_eq b 12 (by decide), byM_eq b 13 (by decide), byM_eq b 14 (by decide), byM_eq b 15 (by decide),
    byM_eq c 16 (by decide), byM_eq c 17 (by decide), byM_eq c 18 (by decide), byM_eq c 19 (by decide), byM_eq c 20 (by decide), byM_eq c 21 (by decide), byM_eq c 22 (by decide), byM_eq c 23 (by decide)]
  rfl
/-- THE REFERENCE's feed -/
theorem m_feed_ok (a b c : Int64) (S : St) (t : Nat × (Nat → Int32)) (ht : t.1 ≤ 1000) : m_feed a b c (mT S t) = some (nI (p8 (p8 (p8 t a) b) c).1, mT (wI S 500 0 0) (p8 (p8 (p8 t a) b) c)) := by
  unfold m_feed lt'
  have e1 : wI (mT S t) 500 0 (0 : Int32) = mT (wI S 500 0 0) t := by
    refine Prod.ext ?_ rfl
    funext x k
    simp only [wI, up2, mT]
    by_cases h1 : x = 501
    · subst h1; simp
    · by_cases h2 : x = 500
      · subst h2
        by_cases h3 : k = 1
        · subst h3; simp
        · by_cases h4 : k = 0 <;> simp [h3, h4]
      · simp [h1, h2]
  rw [e1]
  have h := m_feed_run a b c 24 0 999975 (wI S 500 0 0) t rfl ht
  rw [mF_p8] at h
  exact h
