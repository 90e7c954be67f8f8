section CALLED2
variable {T : St} {W V : Nat → List Nat} {L : Int32 → Int32 → Int32} {v d u a : Nat} {Z Z1 Z2 : Nat → Int32} {So So' Sm Sm' S : St}
def mn (x y : Int32) : Int32 := if y < x then y else x
theorem o_mn (x y : Int32) (S : St) : o_j_min x y S = some (mn x y, S) := by
  unfold o_j_min o_j_min_10 mn
  by_cases q : y < x
  · rw [if_pos q, if_pos q]
  · rw [if_neg q, if_neg q]
theorem m_mn (x y : Int32) (S : St) : m_min x y S = some (mn x y, S) := by
  unfold m_min m_min_10 mn
  by_cases q : y < x
  · rw [if_pos q, if_pos q]
  · rw [if_neg q, if_neg q]
/-- the evenest one -/
def ev (n : Int32) (t : Nat → Int32) (p : Nat → Bool) : Nat → Nat → Int32 → Int32 → Int32
  | 0, _, b, _ => b
  | j + 1, k, b, mo => bif p k && decide (mo < mn (t k) (n - t k)) then ev n t p j (k + 1) (nI k) (mn (t k) (n - t k)) else ev n t p j (k + 1) b mo
theorem ev_stop (n : Int32) (t : Nat → Int32) (p : Nat → Bool) : ∀ (j k : Nat) (b mo : Int32), (∀ i, k ≤ i → i < k + j → p i = false) → ev n t p j k b mo = b
  | 0, k, b, mo, _ => rfl
  | j + 1, k, b, mo, h => by
    rw [ev, h k (Nat.le_refl _) (by omega), Bool.false_and, cond_false]
    exact ev_stop n t p j (k + 1) b mo fun i h1 h2 => h i (by omega) (by omega)
theorem ev_more (n : Int32) (t : Nat → Int32) (p : Nat → Bool) (c : Nat) : ∀ (j k : Nat) (b mo : Int32), (∀ i, k + j ≤ i → i < k + j + c → p i = false) → ev n t p (j + c) k b mo = ev n t p j k b mo
  | 0, k, b, mo, h => by
    rw [Nat.zero_add]
    exact ev_stop n t p c k b mo fun i h1 h2 => h i (by omega) (by omega)
  | j + 1, k, b, mo, h => by
    rw [show j + 1 + c = (j + c) + 1 by omega, ev, ev, ev_more n t p c j (k + 1) _ _ fun i h1 h2 => h i (by omega) (by omega), ev_more n t p c j (k + 1) _ _ fun i h1 h2 => h i (by omega) (by omega)]
theorem ev_ext (n : Int32) (t : Nat → Int32) {p q : Nat → Bool} : ∀ (j k : Nat) (b mo : Int32), (∀ i, k ≤ i → i < k + j → p i = q i) → ev n t p j k b mo = ev n t q j k b mo
  | 0, k, b, mo, h => rfl
  | j + 1, k, b, mo, h => by
    rw [ev, ev, h k (Nat.le_refl _) (by omega), ev_ext n t j (k + 1) _ _ fun i h1 h2 => h i (by omega) (by omega), ev_ext n t j (k + 1) _ _ fun i h1 h2 => h i (by omega) (by omega)]
theorem o_ev (n x : Int32) {t : Nat → Int32} (ht : TA 17 t S) : ∀ (j k m : Nat) (b mo : Int32), k + j = 10 → j < m → o_evenest_29 m n x b mo (nI k) S = some (ev n t (tb x) j k b mo, S)
  | 0, k, m, b, mo, hk, hm => by
    obtain ⟨m, rfl, hm⟩ := fuel hm
    obtain rfl : k = 10 := by omega
    rw [o_evenest_29, if_neg (by decide)]
    rfl
  | j + 1, k, m, b, mo, hk, hm => by
    obtain ⟨m, rfl, hm⟩ := fuel hm
    have ih := o_ev n x ht j (k + 1) m
    rw [o_evenest_29, if_pos (show nI k < 10 from nI_lt (b := 10) (by omega) (by decide)), if_neg (nI_in (by omega) (by omega)), nI_clamp (by omega), if_neg (nI_inC (by omega) (by omega)), ht k (by omega), o_mn, bnq, ev]
    unfold o_evenest_83
    rw [ltq, ltq, nI_1]
    cases hb : tb x k with
    | false =>
      rw [if_pos ((sr_ne _ (by omega)).mpr hb), Bool.false_and, cond_false]
      exact ih _ _ (by omega) (by omega)
    | true =>
      rw [if_neg (fun e => by rw [(sr_ne _ (by omega)).mp e] at hb; cases hb), Bool.true_and]
      by_cases q : mo < mn (t k) (n - t k)
      · rw [if_pos q, decide_eq_true q, cond_true]
        exact ih _ _ (by omega) (by omega)
      · rw [if_neg q, decide_eq_false q, cond_false]
        exact ih _ _ (by omega) (by omega)
theorem m_ev (hw : WF T W V) (hO : OM T S) (hS : SM Z S) (n : Int32) {kn : Int32} (h7 : rI S 547 0 = kn) {t : Nat → Int32} (ht : TA 564 t S) : ∀ (j k m : Nat) (b mo : Int32), k + j = ct T 0 → j < m → m_called_236 m n b mo (nI k) S = some (ev n t (fun i => tb (Z 0) i && !tb kn i) j k b mo, S)
  | 0, k, m, b, mo, hk, hm => by
    have hn := hw.b
    obtain ⟨m, rfl, hm⟩ := fuel hm
    rw [Nat.add_zero] at hk
    subst hk
    rw [m_called_236, if_neg g0_12, c0, hO.n (by decide), hw.n (by decide), if_neg (nI_nlt (Nat.le_refl _) (by omega))]
    rfl
  | j + 1, k, m, b, mo, hk, hm => by
    have hn := hw.b
    obtain ⟨m, rfl, hm⟩ := fuel hm
    have ih := m_ev hw hO hS n h7 ht j (k + 1) m
    rw [m_called_236, if_neg g0_12, c0, hO.n (by decide), hw.n (by decide), if_pos (nI_lt (by omega) (by omega)), if_neg (nI_in (by omega) (by omega)), nI_clamp (by omega), if_neg (nI_inC (by omega) (by omega)), ht k (by omega), m_mn, bnq, m_hangs_ok hS (by omega), bnq, ev, if_neg (show ¬ ((0 : Int32) < 0 ∨ (5 : Nat) ≤ 0) by decide), h7]
    unfold m_called_310
    rw [ltq, ltq, nI_1]
    cases hb : tb (Z 0) k with
    | false =>
      rw [if_pos bF, Bool.false_and, Bool.false_and, cond_false]
      exact ih _ _ (by omega) (by omega)
    | true =>
      rw [if_neg bT, Bool.true_and]
      cases hk : tb kn k with
      | true =>
        rw [if_pos ((sr_eq _ (by omega)).mpr hk), Bool.not_true, Bool.false_and, cond_false]
        exact ih _ _ (by omega) (by omega)
      | false =>
        rw [if_neg (fun e => by rw [(sr_eq _ (by omega)).mp e] at hk; cases hk), Bool.not_false, Bool.true_and]
        by_cases q : mo < mn (t k) (n - t k)
        · rw [if_pos q, decide_eq_true q, cond_true]
          exact ih _ _ (by omega) (by omega)
        · rw [if_neg q, decide_eq_false q, cond_false]
          exact ih _ _ (by omega) (by omega)
theorem o_fill (x : Int32) : ∀ (j i m : Nat) (S : St), i + j = 10 → j < m → (∀ q, q < i → rI S 17 q = x) → ∃ S', o_j_fillI_5 m 17 x (nI i) (nI 10) S = some ((), S') ∧ TA 17 (fun _ => x) S' ∧ Fr fr17 S S'
  | 0, i, m, S, hi, hm, h => by
    obtain ⟨m, rfl, hm⟩ := fuel hm
    obtain rfl : i = 10 := by omega
    refine ⟨S, ?_, h, Fr.rf⟩
    rw [o_j_fillI_5, if_neg (nI_nlt (Nat.le_refl _) (by omega))]
    rfl
  | j + 1, i, m, S, hi, hm, h => by
    obtain ⟨m, rfl, hm⟩ := fuel hm
    obtain ⟨S', e1, e2, e3⟩ := o_fill x j (i + 1) m (wI S 17 i x) (by omega) (by omega) (fun q hq => by
      by_cases q2 : q = i
      · subst q2
        rw [rI_wI]
      · rw [rI_wI_k q2]
        exact h q (by omega))
    refine ⟨S', ?_, e2, (Fr.wI rfl).tr e3⟩
    have k17 : KO.1 17 = (1, 10) := rfl
    rw [o_j_fillI_5, if_pos (nI_lt (by omega) (by omega)), k17, if_pos (k1e _), if_neg (nI_in (by omega) (by omega)), nI_clamp (by omega), ltq, ltq, nI_1]
    exact e1
theorem m_fill (w n s q : Int32) : ∀ (j i m : Nat) (S : St), i + j = 10 → j < m → (∀ q, q < i → rI S 564 q = 0) → ∃ S', m_called_30 m w n s q (nI i) S = m_called_51 w n s q S' ∧ TA 564 (fun _ => 0) S' ∧ Fr (fun a _ => a == 564) S S'
  | 0, i, m, S, hi, hm, h => by
    obtain ⟨m, rfl, hm⟩ := fuel hm
    obtain rfl : i = 10 := by omega
    refine ⟨S, ?_, h, Fr.rf⟩
    rw [m_called_30, if_neg (by decide)]
  | j + 1, i, m, S, hi, hm, h => by
    obtain ⟨m, rfl, hm⟩ := fuel hm
    obtain ⟨S', e1, e2, e3⟩ := m_fill w n s q j (i + 1) m (wI S 564 i 0) (by omega) (by omega) (fun q hq => by
      by_cases q2 : q = i
      · subst q2
        rw [rI_wI]
      · rw [rI_wI_k q2]
        exact h q (by omega))
    refine ⟨S', ?_, e2, (Fr.wI rfl).tr e3⟩
    rw [m_called_30, if_pos (show nI i < 10 from nI_lt (b := 10) (by omega) (by decide)), if_neg (nI_in (by omega) (by omega)), nI_clamp (by omega), ltq, ltq, nI_1]
    exact e1
theorem fr17_O {x k : Nat} (h : PO x k = false) : fr17 x k = false := by
  unfold PO at h
  refine fr17_n fun q => ?_
  subst q
  simp at h
theorem fLC_Q {a k : Nat} (h : PQ a k = false) : (fLC a k || frH a k) = false := by
  rw [frH_Q h, Bool.or_false]
  unfold PQ at h
  unfold fLC
  simp at h ⊢
  omega
theorem fCl_Q {a k : Nat} (h : PQ a k = false) : fCl a k = false := by
  unfold fCl
  rw [frL_H (frH_Q h), Bool.or_false]
  unfold PQ at h
  simp at h ⊢
  omega
theorem called_ok (h : Inv So Sm) (w : Int32) : Sim (o_called w So) (m_called w Sm) () := by
  have hI := h
  obtain ⟨T, W, V, L, v, Z, d, ht, hz, hs, hu, hm, hp, hr⟩ := h
  obtain ⟨hw, hO, hL, hB, hv, hT⟩ := ht
  have hn := hw.b
  unfold o_called o_called_9 m_called
  rw [ltq (wI Sm 500 0 0), m_within_ok, bnq]
  rcases nI_or w 4 (by decide) with q | ⟨k, hk, rfl⟩ | ⟨k, hk, hk2, rfl⟩
  · rw [if_pos q, decide_eq_true q, if_pos (show bI (!true && _) = 0 from rfl)]
    exact ⟨_, _, _, rfl, rfl, hI.th⟩
  · obtain ⟨nl, fl, mt, gt, kn, th, s1, s2, s3, s4, s5, s6, s7, s8, s9, s10, s11⟩ := hs
    have k17 : KO.1 17 = (1, 10) := rfl
    obtain ⟨S1, a1, a2, a3⟩ := o_fill 0 10 0 FU So rfl (by unfold FU; omega) (fun q hq => absurd hq (Nat.not_lt_zero _))
    have hc0 : CS T W V L v Z kn th So := ⟨hv, hT, hz.1, s6, s8⟩
    obtain ⟨So', b1', b2, b3⟩ := o_cl_out (v := v) (V := V) (L := L) hw hz.2.2 (nI k) (ct T 2) 0 FU (0, 0, 0, fun _ => 0) S1 (hc0.fr a3) a2 (Nat.zero_add _) (by unfold FU; omega)
    have hO1 : OM T (wI Sm 500 0 0) := hO.fr (th0 Sm) fun a k q => PQ_or q
    have hS1 : SM Z (wI Sm 500 0 0) := hz.2.1.fr (th0 Sm) fun k => rfl
    obtain ⟨R1, c1', c2', c3'⟩ := m_laysCalls_ok hw hz.2.2 hO1 hS1
    obtain ⟨R2, d1, d2, d3⟩ := m_fill (nI k) 0 0 0 10 0 FU R1 rfl (by unfold FU; omega) (fun q hq => absurd hq (Nat.not_lt_zero _))
    have g1 : Fr PQ Sm R1 := (th0 Sm).tr (c3'.mo fun a k q => fLC_Q q)
    have g2 : Fr PQ Sm R2 := g1.tr (d3.mo fun a k q => by
      unfold PQ at q
      simp at q ⊢
      omega)
    have hlen : (CL T W).length ≤ 80 := by
      have := allL_len hn.2.1 W (ct T 2) 0
      unfold CL
      omega
    obtain ⟨Sm', e1, e2, e3⟩ := m_cl_loop (Z := Z) (kn := kn) (th := th) hw (nI k) hlen (fun x hx => by
      have := allL_mem T W (ct T 2) 0 x hx
      exact ⟨by omega, this.2.1⟩) (CL T W).length 0 FU (0, 0, 0, fun _ => 0) R2 (hO.fr g2 fun a k q => PQ_or q) (hz.2.1.fr g2 fun k => rfl) (c2'.fr d3 (by rfl) fun k => ⟨rfl, rfl, rfl⟩) ((g2.i (by rfl)).trans s7) ((g2.i (by rfl)).trans s9) d2 (Nat.zero_add _) (by unfold FU; omega)
    have fo : Fr fr17 So So' := Fr.tr a3 b3
    have fm : Fr PQ Sm Sm' := g2.tr (e3.mo fun a k q => fCl_Q q)
    have hinv : Inv So' Sm' := hI.rd (fo.mo fun a k q => fr17_O q) fm
    rw [List.drop_zero] at e1 e2
    have hcs := hc0.fr fo
    rw [if_neg (nI_pos (by omega)), if_neg (show ¬ (3 : Int32) < nI k from nI_nlt (a := 3) (by omega) (by decide)), decide_eq_false (show ¬ nI k < 0 from nI_pos (by omega)), decide_eq_false (show ¬ (3 : Int32) < nI k from nI_nlt (a := 3) (by omega) (by decide)), if_neg (show ¬ bI (!false && !false) = 0 by decide), c1', bnq, (show m_called_30 FU (nI k) 0 0 0 0 R1 = _ from d1)]
    unfold o_j_fillI m_called_51
    rw [k17, if_pos (k1r _), ltq, (show o_j_fillI_5 FU 17 0 0 (Int32.ofNat 10) So = _ from a1), bnq, (show o_called_29 FU (nI k) 0 0 0 0 S1 = _ from b1'), (show m_called_54 FU (nI k) 0 0 0 0 R2 = _ from e1)]
    have eCL : allL T W 0 (ct T 2) = CL T W := rfl
    rw [eCL] at b2 ⊢
    generalize (CL T W).foldl (cst T Z kn th) (0, 0, 0, fun _ => 0) = σ at b2 e2 ⊢
    obtain ⟨n, s, q, t⟩ := σ
    show Sim (o_called_104 (nI k) (nI n) s q So') (m_called_190 (nI k) (nI n) s q Sm') ()
    have b2 : TA 17 t So' := b2
    have e2 : TA 564 t Sm' := e2
    unfold o_called_104 o_called_138 m_called_190 m_called_199 m_called_226
    by_cases qn : nI n = 0
    · rw [if_pos qn, if_pos qn, if_pos qn]
      by_cases q0 : nI k = 0
      · rw [if_pos q0, if_pos q0]
        exact ⟨_, _, _, rfl, rfl, hinv⟩
      · rw [if_neg q0, if_neg q0]
        exact ⟨_, _, _, rfl, rfl, hinv⟩
    · rw [if_neg qn, if_neg qn, if_neg qn]
      rcases (show k = 0 ∨ k = 1 ∨ k = 2 ∨ k = 3 by omega) with rfl | rfl | rfl | rfl
      · rw [if_pos (by decide), if_pos (by decide), if_pos (by decide)]
        exact ⟨_, _, _, rfl, rfl, hinv⟩
      · rw [if_neg (by decide), if_neg (by decide), if_pos (by decide), if_pos (by decide), if_neg (by decide), if_pos (by decide)]
        exact ⟨_, _, _, rfl, rfl, hinv⟩
      · rw [if_neg (by decide), if_neg (by decide), if_neg (by decide), if_pos (by decide), if_neg (by decide), if_neg (by decide)]
        exact ⟨_, _, _, rfl, rfl, hinv⟩
      · rw [if_neg (by decide), if_pos (by decide), if_neg (by decide)]
        have em := m_ev (kn := kn) hw (hO.fr fm fun a k q => PQ_or q) (hz.2.1.fr fm fun k => rfl) (nI n) ((fm.i (by rfl)).trans s7) e2 (ct T 0) 0 FU (-1) 0 (Nat.zero_add _) (by unfold FU; omega)
        have eo := o_ev (nI n) (Z 0 &&& (kn ^^^ (-1))) b2 10 0 FU (-1) 0 rfl (by unfold FU; omega)
        have ee : ev (nI n) t (tb (Z 0 &&& (kn ^^^ (-1)))) 10 0 (-1) 0 = ev (nI n) t (fun i => tb (Z 0) i && !tb kn i) (ct T 0) 0 (-1) 0 := by
          rw [show 10 = ct T 0 + (10 - ct T 0) by omega, ev_more _ _ _ _ _ _ _ _ (fun i h1 h2 => by rw [tb_and, hz.2.2.1 i (by omega) (by omega), Bool.false_and])]
          exact ev_ext _ _ _ _ _ _ fun i h1 h2 => by rw [tb_and, tb_not _ (by omega)]
        refine ⟨ev (nI n) t (fun i => tb (Z 0) i && !tb kn i) (ct T 0) 0 (-1) 0, So', Sm', ?_, em, hinv⟩
        unfold o_evenest
        rw [hcs.2.2.1.2.1, hcs.2.2.2.1, ltq, (show o_evenest_29 FU (nI n) _ (-1) 0 0 So' = _ from eo), bnq, ee]
  · rw [if_neg (nI_pos hk2), if_pos (show (3 : Int32) < nI k from nI_lt (a := 3) (by omega) hk2), decide_eq_true (show (3 : Int32) < nI k from nI_lt (a := 3) (by omega) hk2), if_pos (show bI (_ && !true) = 0 by rw [Bool.not_true, Bool.and_false]; rfl)]
    exact ⟨_, _, _, rfl, rfl, hI.th⟩
end CALLED2
