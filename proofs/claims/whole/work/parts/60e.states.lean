/-! Fetch: the reference's side. -/
section STATES
variable {T : St} {W V : Nat → List Nat} {L : Int32 → Int32 → Int32} {v n : Nat} {Z : Nat → Int32} {So Sm S S' S1 S2 : St}
theorem php : ∀ (n m : Nat) (f : Nat → Nat), (∀ i, i < m → f i < n) → (∀ i j, i < m → j < m → f i = f j → i = j) → m ≤ n
  | 0, m, f, h, _ => by
    rcases Nat.eq_zero_or_pos m with q | q
    · omega
    · exact absurd (h 0 q) (Nat.not_lt_zero _)
  | n + 1, m, f, h, hi => by
    by_cases q : ∃ i, i < m ∧ f i = n
    · obtain ⟨i0, q1, q2⟩ := q
      have ih := php n (m - 1) (fun i => f (if i = i0 then m - 1 else i)) (fun i hm => by
        show f (if i = i0 then m - 1 else i) < n
        have h1 : (if i = i0 then m - 1 else i) < m ∧ (if i = i0 then m - 1 else i) ≠ i0 := by
          by_cases e : i = i0
          · rw [if_pos e]
            omega
          · rw [if_neg e]
            omega
        have h2 := h _ h1.1
        have h3 : f (if i = i0 then m - 1 else i) ≠ n := fun e => h1.2 (hi _ _ h1.1 q1 (by rw [e, q2]))
        omega) (fun i j hm hm' e => by
        have h1 : ∀ i, i < m - 1 → (if i = i0 then m - 1 else i) < m := fun i hm => by
          by_cases e : i = i0
          · rw [if_pos e]
            omega
          · rw [if_neg e]
            omega
        have h2 := hi _ _ (h1 i hm) (h1 j hm') e
        by_cases e1 : i = i0
        · by_cases e2 : j = i0
          · omega
          · rw [if_pos e1, if_neg e2] at h2
            omega
        · by_cases e2 : j = i0
          · rw [if_neg e1, if_pos e2] at h2
            omega
          · rw [if_neg e1, if_neg e2] at h2
            exact h2)
      omega
    · have ih := php n m f (fun i hm => by
        have h1 := h i hm
        have h2 : f i ≠ n := fun e => q ⟨i, hm, e⟩
        omega) hi
      omega
/-- a standing's code -/
def cdN (σ : Int32 × Int32) : Nat := 1024 * cN σ.1 + cN σ.2
theorem cd_ok {σ : Int32 × Int32} (h1 : lo 10 σ.1) (h2 : lo 10 σ.2) : (σ.1 <<< ((10 : Int32) &&& 31)) ||| σ.2 = nI (cdN σ) ∧ cdN σ < 2 ^ 20 ∧ nI (cdN σ) >>> ((10 : Int32) &&& 31) = σ.1 ∧ nI (cdN σ) &&& 1023 = σ.2 := by
  obtain ⟨e1, a1⟩ := cN_ok h1
  obtain ⟨e2, a2⟩ := cN_ok h2
  have hc : cdN σ = 1024 * cN σ.1 + cN σ.2 := rfl
  rw [hc]
  generalize cN σ.1 = a at *
  generalize cN σ.2 = b at *
  rw [e1, e2]
  refine ⟨?_, by omega, ?_, ?_⟩
  · rw [pk_shlN ((10 : Int32) &&& 31) 10 (by decide) (by omega)]
    apply Int32.toBitVec_inj.mp
    apply BitVec.eq_of_toNat_eq
    rw [Int32.toBitVec_or, BitVec.toNat_or, pk_tn (by omega), pk_tn (by omega), pk_tn (by omega)]
    have := Nat.two_pow_add_eq_or_of_lt (i := 10) a2 a
    rw [Nat.mul_comm a]
    exact this.symm
  · rw [pk_shrN (by omega) ((10 : Int32) &&& 31) 10 (by decide)]
    congr 1
    omega
  · rw [pk_andN (by omega) 10 (by decide)]
    congr 1
    omega
theorem cdN_inj {σ τ : Int32 × Int32} (h1 : lo 10 σ.1) (h2 : lo 10 σ.2) (g1 : lo 10 τ.1) (g2 : lo 10 τ.2) (e : cdN σ = cdN τ) : σ = τ := by
  obtain ⟨-, -, a3, a4⟩ := cd_ok h1 h2
  obtain ⟨-, -, b3', b4⟩ := cd_ok g1 g2
  rw [e] at a3 a4
  exact Prod.ext (a3.symm.trans b3') (a4.symm.trans b4)
def bM (S : St) (N : Nat) : Bool := tb (rI S 563 (N / 32)) (N % 32)
theorem m_meets_ok {N : Nat} (hN : N < 2 ^ 20) (S : St) : ∃ S', m_meets (nI N) S = some (bI (!bM S N), S') ∧ (∀ M, bM S' M = (bM S M || decide (M = N))) ∧ Fr (fun a _ => a == 563) S S' := by
  have hd : nI N / (32 : Int32) = nI (N / 32) := pk_div (d := 32) (by omega) (by decide) (by decide)
  have hr : nI N - nI N / (32 : Int32) * (32 : Int32) = nI (N % 32) := pk_rem (d := 32) (by omega) (by decide) (by decide)
  have hlt : N % 32 < 32 := Nat.mod_lt _ (by decide)
  unfold m_meets
  rw [hr, hd, if_neg (nI_in (by omega) (by decide)), nI_clamp (by omega)]
  cases hb : bM S N with
  | true =>
    rw [if_pos ((sr_one _ hlt).mpr hb)]
    refine ⟨S, rfl, fun M => ?_, Fr.rf⟩
    by_cases q : M = N
    · rw [q, hb, Bool.true_or]
    · rw [decide_eq_false q, Bool.or_false]
  | false =>
    rw [if_neg (fun c => by have := (sr_one _ hlt).mp c; unfold bM at hb; rw [hb] at this; cases this), if_neg (nI_inC (by omega) (by decide)), if_neg (nI_inC (by omega) (by decide)), ltq]
    refine ⟨_, rfl, fun M => ?_, Fr.wI rfl⟩
    unfold bM
    by_cases h : M / 32 = N / 32
    · rw [h, rI_wI, tb_or, tb_sh1 hlt (Nat.mod_lt _ (by decide))]
      congr 1
      exact decide_eq_decide.mpr ⟨fun q => by omega, fun q => by omega⟩
    · rw [rI_wI_k h, decide_eq_false (show ¬ M = N by intro q; exact h (by rw [q])), Bool.or_false]
theorem m_deaf_loop (hw : WF T W V) (hO : OM T S) : ∀ (j k m : Nat), k + j = ct T 0 → j < m → m_deaf_4 m (mk k fun a => decide (vN T 506 a = 3)) (nI k) S = some (srt T 3, S)
  | 0, k, m, hk, hm => by
    have hb := hw.b
    obtain ⟨m, rfl, hm⟩ := fuel hm
    rw [Nat.add_zero] at hk
    subst hk
    rw [m_deaf_4, if_neg g0_12, c0, hO.n (by decide), hw.n (by decide), if_neg (nI_nlt (Nat.le_refl _) (by omega))]
    rfl
  | j + 1, k, m, hk, hm => by
    have hb := hw.b
    obtain ⟨m, rfl, hm⟩ := fuel hm
    have hka : k < ct T 0 := by omega
    have hp := (hw.ap hka).2.1
    rw [m_deaf_4, if_neg g0_12, c0, hO.n (by decide), hw.n (by decide), if_pos (nI_lt hka (by omega)), if_neg (nI_in (by omega) (by omega)), nI_clamp (by omega), hO.so (by omega), hp.1]
    unfold m_deaf_32
    rw [ltq, ltq, ltq, ltq, nI_1]
    have ih := m_deaf_loop hw hO j (k + 1) m (by omega) (by omega)
    rw [mk] at ih
    by_cases q : vN T 506 k = 3
    · rw [if_pos (by rw [q]; rfl)]
      rw [decide_eq_true q] at ih
      exact ih
    · rw [if_neg (show ¬ nI (vN T 506 k) = 3 from nI_ne (b := 3) q (by have := hp.2; omega) (by omega))]
      rw [decide_eq_false q] at ih
      exact ih
theorem m_deaf_ok (hw : WF T W V) (hO : OM T S) : m_deaf S = some (srt T 3, S) := by
  have hb := hw.b
  exact m_deaf_loop hw hO (ct T 0) 0 FU (Nat.zero_add _) (by unfold FU; omega)
/-- the row of what was met -/
def gq (q : List (Int32 × Int32)) (i : Nat) : Int32 × Int32 := q.getD i (0, 0)
theorem gq_mem {q : List (Int32 × Int32)} {i : Nat} (h : i < q.length) : gq q i ∈ q := by
  unfold gq
  rw [List.getD_eq_getElem?_getD, List.getElem?_eq_getElem h]
  exact List.getElem_mem _
theorem gq_of {q : List (Int32 × Int32)} {σ : Int32 × Int32} (h : σ ∈ q) : ∃ i, i < q.length ∧ gq q i = σ := by
  obtain ⟨i, h1, h2⟩ := List.getElem_of_mem h
  refine ⟨i, h1, ?_⟩
  unfold gq
  rw [List.getD_eq_getElem?_getD, List.getElem?_eq_getElem h1]
  exact h2
theorem gq_l (q r : List (Int32 × Int32)) {i : Nat} (h : i < q.length) : gq (q ++ r) i = gq q i := by
  unfold gq
  simp [List.getD_eq_getElem?_getD, List.getElem?_append, h]
theorem gq_e (q : List (Int32 × Int32)) (x : Int32 × Int32) : gq (q ++ [x]) q.length = x := by
  unfold gq
  simp [List.getD_eq_getElem?_getD, List.getElem?_append]
def MQS (T : St) (Z : Nat → Int32) (q : List (Int32 × Int32)) (S : St) : Prop := (∀ i, i < q.length → rI S 562 i = nI (cdN (gq q i))) ∧ (∀ N, N < 2 ^ 20 → (bM S N = true ↔ ∃ σ, σ ∈ q ∧ cdN σ = N)) ∧ (∀ i j, i < q.length → j < q.length → gq q i = gq q j → i = j) ∧ ∀ σ, σ ∈ q → VS Z σ
def fFm : Nat → Nat → Bool := fun a k => a == 562 || a == 563 || frL a k
theorem fFm_n {a k : Nat} (h : a ≠ 562 ∧ a ≠ 563) (h2 : a ≠ 500 ∨ k ≠ 72) : fFm a k = false := by
  unfold fFm frL
  simp
  omega
theorem VS_lo (hz : WZ T Z) (hn : ct T 0 ≤ 10) {σ : Int32 × Int32} (h : VS Z σ) : lo 10 σ.1 ∧ lo 10 σ.2 := by
  have h1 : lo 10 σ.1 := lo_sub (lo_mo hz.1 hn) h.1
  exact ⟨h1, lo_sub h1 h.2⟩
theorem MQS.len (hz : WZ T Z) (hn : ct T 0 ≤ 10) {q : List (Int32 × Int32)} (h : MQS T Z q S) : q.length ≤ 59049 := by
  refine php 59049 q.length (fun i => ix (gq q i)) (fun i hi => ?_) fun i j hi hj e => ?_
  · obtain ⟨l1, l2⟩ := VS_lo hz hn (h.2.2.2 _ (gq_mem hi))
    exact ix_lt l1 l2
  · have v1 := h.2.2.2 _ (gq_mem hi)
    have v2 := h.2.2.2 _ (gq_mem hj)
    obtain ⟨l1, l2⟩ := VS_lo hz hn v1
    obtain ⟨l3, l4⟩ := VS_lo hz hn v2
    exact h.2.2.1 i j hi hj (ix_inj l1 l2 v1.2 l3 l4 v2.2 e)
theorem MQS.fr {q : List (Int32 × Int32)} (h : MQS T Z q S) {P : Nat → Nat → Bool} (f : Fr P S S') (h1 : ∀ k, P 562 k = false ∧ P 563 k = false) : MQS T Z q S' := by
  refine ⟨fun i hi => (f.i (h1 _).1).trans (h.1 i hi), fun N hN => ?_, h.2.2⟩
  have : bM S' N = bM S N := by
    unfold bM
    rw [f.i (h1 _).2]
  rw [this]
  exact h.2.1 N hN
/-- one more is met -/
theorem MQS.add (hz : WZ T Z) (hn : ct T 0 ≤ 10) {q : List (Int32 × Int32)} (h : MQS T Z q S) {τ : Int32 × Int32} (hτ : VS Z τ) (hnew : bM S (cdN τ) = false) (hb : ∀ M, bM S1 M = (bM S M || decide (M = cdN τ))) (hf : Fr (fun a _ => a == 563) S S1) : MQS T Z (q ++ [τ]) (wI S1 562 q.length (nI (cdN τ))) := by
  obtain ⟨l1, l2⟩ := VS_lo hz hn hτ
  have hlt := (cd_ok l1 l2).2.1
  refine ⟨fun i hi => ?_, fun N hN => ?_, fun i j hi hj e => ?_, fun σ hσ => ?_⟩
  · rw [List.length_append] at hi
    have hi : i < q.length + 1 := hi
    by_cases e : i = q.length
    · rw [e, rI_wI, gq_e]
    · rw [rI_wI_k e, hf.i (by rfl), gq_l q [τ] (by omega)]
      exact h.1 i (by omega)
  · have e1 : bM (wI S1 562 q.length (nI (cdN τ))) N = bM S1 N := by
      unfold bM
      rw [rI_wI_a (by decide)]
    rw [e1, hb, Bool.or_eq_true, decide_eq_true_eq, h.2.1 N hN]
    constructor
    · rintro (⟨σ, g1, g2⟩ | g)
      · exact ⟨σ, List.mem_append_left _ g1, g2⟩
      · exact ⟨τ, List.mem_append_right _ (List.mem_singleton.mpr rfl), g.symm⟩
    · rintro ⟨σ, g1, g2⟩
      rcases List.mem_append.mp g1 with g1 | g1
      · exact Or.inl ⟨σ, g1, g2⟩
      · rw [List.mem_singleton] at g1
        rw [g1] at g2
        exact Or.inr g2.symm
  · have hno : ∀ k, k < q.length → ¬ gq q k = τ := fun k hk e => by
      have := (h.2.1 (cdN τ) hlt).mpr ⟨gq q k, gq_mem hk, by rw [e]⟩
      rw [hnew] at this
      cases this
    rw [List.length_append] at hi hj
    have hi : i < q.length + 1 := hi
    have hj : j < q.length + 1 := hj
    by_cases e1 : i = q.length
    · by_cases e2 : j = q.length
      · omega
      · exfalso
        rw [e1, gq_e, gq_l q [τ] (show j < q.length by omega)] at e
        exact hno j (by omega) e.symm
    · by_cases e2 : j = q.length
      · exfalso
        rw [e2, gq_e, gq_l q [τ] (show i < q.length by omega)] at e
        exact hno i (by omega) e
      · rw [gq_l q [τ] (show i < q.length by omega), gq_l q [τ] (show j < q.length by omega)] at e
        exact h.2.2.1 i j (by omega) (by omega) e
  · rcases List.mem_append.mp hσ with g | g
    · exact h.2.2.2 σ g
    · rw [List.mem_singleton] at g
      rw [g]
      exact hτ
end STATES
