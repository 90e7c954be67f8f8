/-! Public methods: judged. -/
/-- reads that lay the reference's standing aside and put it back -/
def PR : Nat → Nat → Bool := fun a k => PQ a k || a == 553
theorem PR_of {a k : Nat} (h : ¬ (524 ≤ a ∧ a ≤ 535)) (h2 : ¬ (540 ≤ a ∧ a ≤ 542)) (h3 : a ≠ 554 ∧ a < 558 ∧ a ≠ 553) (h4 : a ≠ 500 ∨ k = 1 ∨ k = 69) : PR a k = false := by
  unfold PR
  rw [PQ_of h h2 (by omega) h4]
  simp
  omega
theorem PR_or {a k : Nat} (h : (502 ≤ a ∧ a ≤ 523) ∨ (536 ≤ a ∧ a ≤ 539)) : PR a k = false := PR_of (by omega) (by omega) (by omega) (by omega)
theorem PR_Q {a k : Nat} (h : PR a k = false) : PQ a k = false := (Bool.or_eq_false_iff.mp h).1
theorem PR_S {a k : Nat} (h : PR a k = false) : (a == 553) = false := (Bool.or_eq_false_iff.mp h).2
theorem PR_C {a k : Nat} (h : PR a k = false) : frC a k = false := by
  unfold frC
  rw [frV_Q (PR_Q h), frH_Q (PR_Q h), PR_S h]
  rfl
theorem PR_FS {a k : Nat} (h : PR a k = false) : frS a k = false := by
  unfold frS
  rw [frV_Q (PR_Q h), PR_S h]
  rfl
theorem PO_205 {a k : Nat} (h : PO a k = false) : frXU 205 a k = false := by
  unfold PO at h
  unfold frXU frU
  simp at h ⊢
  exact ⟨h.1.1.1.1.1, h.1.1.1.1.2⟩
section JUDGED
variable {T : St} {W V : Nat → List Nat} {L : Int32 → Int32 → Int32} {v d : Nat} {Z : Nat → Int32} {So So' Sm Sm' S : St}
theorem Inv.rd2 (h1 : Told T W V L v So Sm) (h2 : Now T Z So Sm) (h3 : Slt T W 0 So Sm) (h4 : Und T d So Sm) (h5 : Mks T W So Sm) (h6 : Tap So Sm) (h7 : Rst v So) (fo : Fr PO So So') (fm : Fr PR Sm Sm') (hS : SM Z Sm') : Inv So' Sm' :=
  ⟨T, W, V, L, v, Z, d, h1.fr fo fm (fun a k q => PO_ton q) rfl (fun a k q => PR_or q),
    ⟨h2.1.frw fo (fun k => rfl) (fun k => rfl), hS, h2.2.2⟩,
    h3.fr fo fm (fun k => ⟨rfl, rfl, rfl, rfl, rfl⟩) (fun a k q => PR_of (by omega) (by omega) (by omega) (by omega)),
    h4.fr fo fm (fun a k q => PO_of (by omega) (by omega) (by omega) (by omega) (by omega) (by omega) (by omega)) rfl (fun k => rfl),
    h5.fr fo fm rfl (fun a k q => PO_mko q) (fun a k q => PR_of (by omega) (by omega) (by omega) (by omega)),
    h6.fr fo fm rfl (fun k => rfl) rfl (fun k => rfl),
    h7.fr h1.2.2.2.2.2.1 fo (fun a k q => PO_ton q) ⟨rfl, fun k => ⟨rfl, rfl, rfl⟩, rfl, rfl⟩⟩
theorem sr_eq (x : Int32) {k : Nat} (hk : k < 32) : (x >>> (nI k &&& 31)) &&& 1 = 1 ↔ tb x k = true := by
  rw [tb_sr x hk]
  cases tb x k <;> simp
/-! how many are green -/
def cb (p : Nat → Bool) : Nat → Nat
  | 0 => 0
  | n + 1 => cb p n + (bif p n then 1 else 0)
theorem cb_le (p : Nat → Bool) : ∀ n, cb p n ≤ n
  | 0 => Nat.le_refl _
  | n + 1 => by
    have := cb_le p n
    rw [cb]
    cases p n <;> simp <;> omega
theorem cb_z {p : Nat → Bool} : ∀ n, cb p n = 0 → ∀ i, i < n → p i = false
  | 0, _, i, hi => absurd hi (Nat.not_lt_zero i)
  | n + 1, h, i, hi => by
    rw [cb] at h
    cases hp : p n with
    | true => rw [hp] at h; exact absurd h (Nat.succ_ne_zero _)
    | false =>
      by_cases q : i = n
      · rw [q, hp]
      · exact cb_z n (by omega) i (by omega)
theorem cb_0 {p : Nat → Bool} : ∀ n, (∀ i, i < n → p i = false) → cb p n = 0
  | 0, _ => rfl
  | n + 1, h => by rw [cb, cb_0 n fun i hi => h i (by omega), h n (by omega)]; rfl
theorem cb_ext {p q : Nat → Bool} : ∀ n, (∀ i, i < n → p i = q i) → cb p n = cb q n
  | 0, _ => rfl
  | n + 1, h => by rw [cb, cb, cb_ext n fun i hi => h i (by omega), h n (by omega)]
theorem sm_cb (p : Nat → Bool) : ∀ n, sm n (fun i => bI (p i)) = nI (cb p n)
  | 0 => rfl
  | n + 1 => by
    show sm n (fun i => bI (p i)) + bI (p n) = nI (cb p n + _)
    rw [sm_cb p n]
    cases p n with
    | true => exact nI_1 _
    | false =>
      rw [bF]
      exact Int32.add_zero _
/-- how many of them are not ripe on that day -/
def grN (T : St) (x day : Int32) : Nat := cb (fun a => tb (x &&& unM T day) a) (ct T 0)
theorem gr_tb (T : St) (x day : Int32) {a : Nat} (ha : a < ct T 0) (hn : ct T 0 ≤ 10) : tb (x &&& unM T day) a = (tb x a && decide (day < rI T 509 a)) := by
  rw [tb_and]
  unfold unM
  rw [tb_mk _ _ _ (by omega) (by omega), decide_eq_true ha, Bool.true_and]
theorem gr_lo (T : St) (x day : Int32) (hn : ct T 0 ≤ 10) : lo (ct T 0) (x &&& unM T day) := lo_and2 (lo_mk _ (by omega))
theorem gr_pos (hn : ct T 0 ≤ 10) (x day : Int32) : (0 : Int32) < nI (grN T x day) ↔ ¬ (x &&& unM T day) = 0 := by
  have hl := cb_le (fun a => tb (x &&& unM T day) a) (ct T 0)
  constructor
  · intro h e
    have : grN T x day = 0 := cb_0 _ fun i hi => by rw [e]; exact tb_z i
    rw [this] at h
    exact absurd h (by decide)
  · intro h
    refine nI_lt (a := 0) (Nat.pos_of_ne_zero fun e => h ?_) (by unfold grN; omega)
    exact eq_of_lo (gr_lo T x day hn) (lo_0 _) fun i hi => by rw [cb_z _ e i hi, tb_z]
theorem m_green_loop (hw : WF T W V) (hO : OM T S) (hS : SM Z S) (x : Int32) : ∀ (j k m : Nat), k + j = ct T 0 → j < m → m_greenOf_4 m x (nI (cb (fun a => tb (x &&& unM T (Z 2)) a) k)) (nI k) S = some (nI (grN T x (Z 2)), S)
  | 0, k, m, hk, hm => by
    obtain ⟨m, rfl, hm⟩ := fuel hm
    have hn := hw.b
    rw [Nat.add_zero] at hk
    subst hk
    rw [m_greenOf_4, if_neg g0_12, c0, hO.n (by decide), hw.n (by decide), if_neg (nI_nlt (Nat.le_refl _) (by omega))]
    rfl
  | j + 1, k, m, hk, hm => by
    obtain ⟨m, rfl, hm⟩ := fuel hm
    have hn := hw.b
    have hle := cb_le (fun a => tb (x &&& unM T (Z 2)) a) k
    have ih := m_green_loop hw hO hS x j (k + 1) m (by omega) (by omega)
    have e := gr_tb T x (Z 2) (show k < ct T 0 by omega) hn.1
    rw [cb, e] at ih
    rw [m_greenOf_4, if_neg g0_12, c0, hO.n (by decide), hw.n (by decide), if_pos (nI_lt (by omega) (by omega))]
    have key : ∀ b : Bool, (tb x k && decide (Z 2 < rI T 509 k)) = b → m_greenOf_44 (m_greenOf_4 m) x (nI k) (bI b) (nI (cb (fun a => tb (x &&& unM T (Z 2)) a) k)) S = some (nI (grN T x (Z 2)), S) := by
      intro b hb
      rw [hb] at ih
      unfold m_greenOf_44
      rw [ltq, ltq, nI_1, ← ih]
      cases b with
      | true => rw [show nI (cb (fun a => tb (x &&& unM T (Z 2)) a) k) + bI true = nI (cb (fun a => tb (x &&& unM T (Z 2)) a) k + 1) from nI_1 _]; rfl
      | false => rw [bF, Int32.add_zero]; rfl
    cases ht : tb x k with
    | false =>
      rw [if_neg (fun q => by rw [sr_eq _ (by omega), ht] at q; cases q)]
      exact key false (by rw [ht]; rfl)
    | true =>
      rw [if_pos ((sr_eq _ (by omega)).mpr ht), if_neg g2_15, if_neg (nI_in (by omega) (by omega)), c2, nI_clamp (by omega), hS 2 (by decide), hO.ri (by omega)]
      by_cases q : Z 2 < rI T 509 k
      · rw [if_pos q]
        exact key true (by rw [ht, decide_eq_true q]; rfl)
      · rw [if_neg q]
        exact key false (by rw [ht, decide_eq_false q]; rfl)
theorem m_greenOf_ok (hw : WF T W V) (hO : OM T S) (hS : SM Z S) (x : Int32) : m_greenOf x S = some (nI (grN T x (Z 2)), S) :=
  m_green_loop hw hO hS x (ct T 0) 0 FU (Nat.zero_add _) (by have := hw.b; unfold FU; omega)
end JUDGED
