/-! The first Inv. -/
section FIRST5
variable {d : Nat} {S S' M : St}
/-- the class's first cells -/
def FST (S : St) : Prop := (∀ e ∈ iniO, rI S e.1 e.2.1 = e.2.2) ∧ (∀ e ∈ iniD 20, rI S e.1 e.2.1 = e.2.2) ∧ (∀ e ∈ iniD 21, rI S e.1 e.2.1 = e.2.2) ∧ (∀ e ∈ iniQ, rQ S e.1 e.2.1 = some e.2.2) ∧ (∀ i, i < 16 → rQ S 19 i = some (206 + i)) ∧ ∀ k, k < 1024 → rI S 11 k = nI (thN k)
/-- the reference's -/
def FSM (M : St) : Prop := (∀ e ∈ iniM, rI M e.1 e.2.1 = e.2.2) ∧ (∀ k, k < 6 → rI M 502 k = 0) ∧ (∀ k, k < 15 → rI M 553 k = 0) ∧ ∀ k, k < 4 → rI M 557 k = 0
def fF0 : Nat → Nat → Bool := fun a _ => dcl a || frU 200 a 0 || a == 111 || a == 116 || a == 70
theorem fF0_n {a k : Nat} (h : ¬ (20 ≤ a ∧ a ≤ 63) ∧ ¬ (100 ≤ a ∧ a ≤ 109) ∧ ¬ (130 ≤ a ∧ a ≤ 139)) (h2 : a ≠ 200 ∧ a ≠ 230 ∧ a ≠ 111 ∧ a ≠ 116 ∧ a ≠ 70) : fF0 a k = false := by
  unfold fF0 frU
  rw [Bool.eq_false_iff.mpr (dcl_n h)]
  simp
  omega
theorem fLd_0 (h : Fr (fLd d) S S') : Fr fF0 S S' := h.mo fun a k q => by
  unfold fF0 at q
  simp only [Bool.or_eq_false_iff] at q
  unfold fLd
  rw [q.1.1.1.1]
  rfl
theorem first_ok (h : FST S) (hM : FSM M) : ∃ S', o_no_init_174 S = some ((), S') ∧ Inv S' M := by
  obtain ⟨h1, h2, h3, h4, h5, h6⟩ := h
  obtain ⟨m1, m2, m3, m4⟩ := hM
  have gI : ∀ a k x, (a, k, x) ∈ iniO → rI S a k = x := fun a k x he => h1 (a, k, x) he
  have gQ : ∀ a k x, (a, k, x) ∈ iniQ → rQ S a k = some x := fun a k x he => h4 (a, k, x) he
  have gM : ∀ a k x, (a, k, x) ∈ iniM → rI M a k = x := fun a k x he => m1 (a, k, x) he
  obtain ⟨S1, a1, a2, a3, a4⟩ := set_0 (Or.inl rfl) h2 M (fun _ => []) (fun _ => [])
  obtain ⟨S2, b1', b2', b3', b4'⟩ := set_0 (d := 21) (S := S1) (Or.inr rfl) (fun e he => (a4.i (fLd_p (by have := iniD_p he; omega))).trans (h3 e he)) M (fun _ => []) (fun _ => [])
  have hT1 := td_0 (Or.inl rfl) m2 a2 a3
  have hT2 := hT1.frp b4' fun a k _ q => fLd_p (by omega)
  have hW := wf_0 m2 (fun _ => []) (fun _ => [])
  have f2 : Fr fF0 S S2 := (fLd_0 a4).tr (fLd_0 b4')
  have tb : ∀ u mx w, KO.1 u = (0, 7) → KO.1 (u + 30) = (1, mx * w) → (mx ≤ 40 ∧ 0 < w ∧ w ≤ 11) → (u, 0, nI mx) ∈ iniO → (u, 1, nI w) ∈ iniO → (u, 3, 0) ∈ iniO → TB u mx w 0 (fun _ _ => 0) S := fun u mx w q1 q2 q3 q4 q5 q6 => ⟨q1, q2, gI _ _ _ q4, gI _ _ _ q5, gI _ _ _ q6, Nat.zero_le _, q3, fun i j hi => absurd hi (Nat.not_lt_zero _)⟩
  have t111 := tb 111 40 3 rfl rfl (by decide) (by decide) (by decide) (by decide)
  have t116 := tb 116 12 3 rfl rfl (by decide) (by decide) (by decide) (by decide)
  have ld : ∀ {d a k : Nat}, (¬ (20 ≤ a ∧ a ≤ 63) ∧ ¬ (100 ≤ a ∧ a ≤ 109) ∧ ¬ (130 ≤ a ∧ a ≤ 139)) → fLd d a k = false := fun h => by
    unfold fLd
    rw [Bool.and_eq_false_iff]
    exact Or.inl (Bool.eq_false_iff.mpr (dcl_n h))
  have t111' := (t111.fr a4 (fun k => ld (by decide)) (fun k => ld (by decide))).fr b4' (fun k => ld (by decide)) (fun k => ld (by decide))
  have t116' := (t116.fr a4 (fun k => ld (by decide)) (fun k => ld (by decide))).fr b4' (fun k => ld (by decide)) (fun k => ld (by decide))
  obtain ⟨S3, c1', c2', c3', c4', c5', c6', c7'⟩ := sa_new hW hT2 t111' t116'
  have F : Fr fF0 S S3 := f2.tr (c7'.mo fun a k q => by
    unfold fF0 at q
    simp only [Bool.or_eq_false_iff] at q ⊢
    exact ⟨⟨⟨q.1.1.1.2, q.1.1.2⟩, q.1.2⟩, q.2⟩)
  have q9 : rQ S 1 9 = some 20 := gQ _ _ _ (by decide)
  have q10 : rQ S 1 10 = some 21 := gQ _ _ _ (by decide)
  refine ⟨S3, ?_, M, fun _ => [], fun _ => [], VL dfV, 20, freshZ M, 0, ⟨hW, Fr.rf, lawv_0 (gM _ _ _ (by decide)) (gM _ _ _ (by decide)), fun k dd _ => VL_b dfV (nI k) dd, (F.q (fF0_n (by decide) (by decide))).trans q9, hT2.frp c7' fun a k q _ => ?_⟩, ⟨c2', fun k hk => ?_, WZ_fresh hW⟩, ⟨0, fun _ _ => 0, 0, fun _ _ => 0, 0, 0, c3' _, fun i hi => absurd hi (Nat.not_lt_zero _), ⟨gM _ _ _ (by decide), fun i hi => absurd hi (Nat.not_lt_zero _)⟩, c4' _, ⟨gM _ _ _ (by decide), fun i hi => absurd hi (Nat.not_lt_zero _)⟩, c5', gM _ _ _ (by decide), c6', gM _ _ _ (by decide), lo_0 _, lo_0 _⟩, ⟨Nat.zero_le _, (F.i (fF0_n (by decide) (by decide))).trans (gI _ _ _ (by decide)), gM _ _ _ (by decide), id, fun i hi => ⟨(F.q (fF0_n (by decide) (by decide))).trans (h5 i hi), hi⟩, fun i j _ _ e => e, fun _ _ => 0, fun i hi => absurd hi (Nat.not_lt_zero _)⟩, ⟨0, (F.i (fF0_n (by decide) (by decide))).trans (gI _ _ _ (by decide)), fun q hq => ⟨?_, ?_, ?_, fun hx => ?_⟩⟩, ⟨0, by decide, (F.i (fF0_n (by decide) (by decide))).trans (gI _ _ _ (by decide)), gM _ _ _ (by decide), fun k hk => absurd hk (Nat.not_lt_zero _)⟩, ?_⟩
  · unfold o_no_init_174
    rw [oq2 q9, if_pos (show KO.1 20 = (0, 10) from rfl), a1, bnq, oq2 ((a4.q (ld (by decide))).trans q10), if_pos (show KO.1 21 = (0, 10) from rfl), b1', bnq, oq2 ((b4'.q (ld (by decide))).trans ((a4.q (ld (by decide))).trans q9)), c1', bnq]
  · unfold ton at q
    unfold frU
    simp
    omega
  · rw [m3 k hk]
    unfold freshZ
    rw [ct_0 m2 (by decide)]
    by_cases q0 : k = 0
    · rw [if_pos q0]
      decide
    · rw [if_neg q0]
      by_cases q5 : k < 5
      · rw [if_pos q5]
      · rw [if_neg q5, if_neg (Nat.not_lt_zero _)]
  · refine (F.q (fF0_n (by decide) (by decide))).trans ?_
    rcases (show q = 0 ∨ q = 1 ∨ q = 2 ∨ q = 3 by omega) with rfl | rfl | rfl | rfl <;> exact gQ _ _ _ (by decide)
  · rw [m4 q hq, tb_z]
    rfl
  · have hs : Shp q S := by
      rcases (show q = 0 ∨ q = 1 ∨ q = 2 ∨ q = 3 by omega) with rfl | rfl | rfl | rfl
      · exact ⟨⟨_, _, tb 112 40 3 rfl rfl (by decide) (by decide) (by decide) (by decide)⟩, _, _, tb 117 12 3 rfl rfl (by decide) (by decide) (by decide) (by decide)⟩
      · exact ⟨⟨_, _, tb 113 40 3 rfl rfl (by decide) (by decide) (by decide) (by decide)⟩, _, _, tb 118 12 3 rfl rfl (by decide) (by decide) (by decide) (by decide)⟩
      · exact ⟨⟨_, _, tb 114 40 3 rfl rfl (by decide) (by decide) (by decide) (by decide)⟩, _, _, tb 119 12 3 rfl rfl (by decide) (by decide) (by decide) (by decide)⟩
      · exact ⟨⟨_, _, tb 115 40 3 rfl rfl (by decide) (by decide) (by decide) (by decide)⟩, _, _, tb 120 12 3 rfl rfl (by decide) (by decide) (by decide) (by decide)⟩
    exact hs.fr hq F fun a k h => fF0_n (by unfold mko at h; omega) (by unfold mko at h; omega)
  · rw [tb_z] at hx
    cases hx
  · have c : ∀ {a k : Nat}, (130 ≤ a ∧ a ≤ 139) ∨ (100 ≤ a ∧ a ≤ 109) → (frU 200 a 0 || a == 111 || a == 116 || a == 70) = false := fun h => by
      unfold frU
      simp
      omega
    refine ⟨(F.q (fF0_n (by decide) (by decide))).trans q10, (b2'.dft).fr3 (Or.inr rfl) c7' (fun a k q => c (k := k) (by omega)), ⟨_, _, (tb 110 40 3 rfl rfl (by decide) (by decide) (by decide) (by decide)).fr F (fun k => fF0_n (by decide) (by decide)) (fun k => fF0_n (by decide) (by decide))⟩, fun k hk => (F.i (fF0_n (by decide) (by decide))).trans (h6 k hk), Or.inl ⟨(F.q (fF0_n (by decide) (by decide))).trans (gQ _ _ _ (by decide)), (F.q (fF0_n (by decide) (by decide))).trans (gQ _ _ _ (by decide))⟩⟩
theorem first_is : ∃ S4, o_no_init_174 SO3 = some ((), S4) ∧ Inv S4 SM0 := first_ok ⟨so3_c.1, so3_c.2.1, so3_c.2.2.1, so3_c.2.2.2.1, so3_c.2.2.2.2, so3_t⟩ sm0_c
end FIRST5
