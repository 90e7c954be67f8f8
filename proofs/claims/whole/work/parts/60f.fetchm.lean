/-! Fetch: the reference's loops; both sides answer alike. -/
section FETCHM
variable {T : St} {W V : Nat → List Nat} {L : Int32 → Int32 → Int32} {v n d : Nat} {Z : Nat → Int32} {So Sm S S' S1 S2 : St}
/-- what the loops read -/
def MX (T : St) (W : Nat → List Nat) (Z : Nat → Int32) (S : St) : Prop := OM T S ∧ LC T Z (CL T W) S
theorem MX.fr (h : MX T W Z S) {P : Nat → Nat → Bool} (f : Fr P S S') (h1 : ∀ a k, (502 ≤ a ∧ a ≤ 523) ∨ (536 ≤ a ∧ a ≤ 539) → P a k = false) (h2 : P 500 77 = false) (h3 : ∀ k, P 558 k = false ∧ P 559 k = false ∧ P 560 k = false) : MX T W Z S' := ⟨h.1.fr f h1, h.2.fr f h2 h3⟩
theorem MX.fm (h : MX T W Z S) (f : Fr fFm S S') : MX T W Z S' := h.fr f (fun a k q => fFm_n (by omega) (by omega)) (by rfl) (fun k => ⟨rfl, rfl, rfl⟩)
theorem fq_in (hw : WF T W V) (hz : WZ T Z) (k105 : Int32 → Int32 → Int32 → Int32 → St → Re Int32) {σ : Int32 × Int32} (hσ : VS Z σ) (v3 v4 v5 : Int32) : ∀ (c i m : Nat) (q : List (Int32 × Int32)) (S : St), MX T W Z S → MQS T Z q S → i + c = (CL T W).length → c < m → ∃ S' q', (m_fetch_140 k105 m (nI q.length) v3 v4 v5 σ.1 σ.2 (nI i) S = some (v3, S') ∧ Fr fFm S S' ∧ ∃ x, x ∈ CL T W ∧ (nxM T Z x σ).1 &&& ndf T = 0) ∨ (m_fetch_140 k105 m (nI q.length) v3 v4 v5 σ.1 σ.2 (nI i) S = m_fetch_238 k105 (nI q'.length) v3 v4 v5 S' ∧ Fr fFm S S' ∧ MQS T Z q' S' ∧ (∃ r, q' = q ++ r) ∧ (∀ τ, τ ∈ q' → τ ∈ q ∨ ∃ x, x ∈ CL T W ∧ τ = nxM T Z x σ) ∧ ∀ x, x ∈ (CL T W).drop i → ¬ (nxM T Z x σ).1 &&& ndf T = 0 ∧ nxM T Z x σ ∈ q')
  | 0, i, m, q, S, hX, hQ, hi, hm => by
    obtain ⟨m, rfl, hm⟩ := fuel hm
    have h80 := CL_len hw
    rw [Nat.add_zero] at hi
    subst hi
    refine ⟨S, q, Or.inr ⟨?_, Fr.rf, hQ, ⟨[], (List.append_nil _).symm⟩, fun τ h => Or.inl h, fun x hx => (by rw [List.drop_length] at hx; cases hx)⟩⟩
    rw [m_fetch_140, hX.2.1, if_neg (nI_nlt (Nat.le_refl _) (by omega))]
  | c + 1, i, m, q, S, hX, hQ, hi, hm => by
    obtain ⟨m, rfl, hm⟩ := fuel hm
    have hn := hw.b
    have h80 := CL_len hw
    have hil : i < (CL T W).length := by omega
    obtain ⟨r1, r2, r3⟩ := hX.2.at hil
    have hmem : (CL T W).getD i (0, 0) ∈ CL T W := by
      rw [List.getD_eq_getElem?_getD, List.getElem?_eq_getElem hil]
      exact List.getElem_mem _
    rw [drop_c (CL T W) hil, m_fetch_140, hX.2.1, if_pos (nI_lt hil (by omega)), if_neg (nI_in (by omega) (by omega)), nI_clamp (by omega), if_neg (nI_inC (by omega) (by omega)), r1, r2]
    generalize (CL T W).getD i (0, 0) = x at r1 r2 r3 hmem
    obtain ⟨S1, a1, a2, a3⟩ := m_fallsBy_ok (S := S) hw hX.1 σ.1 σ.2 (cwh T Z x) (cec T Z x)
    have f1 : Fr fFm S S1 := a2.mo fun a k q => (Bool.or_eq_false_iff.mp q).2
    have hX1 := hX.fm f1
    have hQ1 : MQS T Z q S1 := hQ.fr a2 fun k => ⟨rfl, rfl⟩
    have hnx : VS Z (nxM T Z x σ) := VS_nx hσ x
    obtain ⟨l1, l2⟩ := VS_lo hz (by omega) hnx
    obtain ⟨d1, d2, d3, d4⟩ := cd_ok l1 l2
    have ecd : ((σ.1 &&& (flA T σ.1 σ.2 (cwh T Z x) (cec T Z x) ^^^ (-1))) <<< ((10 : Int32) &&& 31)) ||| rI S1 500 72 = nI (cdN (nxM T Z x σ)) := by
      rw [a3]
      exact d1
    rw [a1, bnq, ecd, ltq, m_deaf_ok hw hX1.1, bnq]
    by_cases qd : (nxM T Z x σ).1 &&& ndf T = 0
    · rw [if_pos (show σ.1 &&& (flA T σ.1 σ.2 (cwh T Z x) (cec T Z x) ^^^ (-1)) &&& (srt T 3 ^^^ (-1)) = 0 from qd)]
      exact ⟨S1, q, Or.inl ⟨rfl, f1, x, hmem, qd⟩⟩
    · rw [if_neg (show ¬ σ.1 &&& (flA T σ.1 σ.2 (cwh T Z x) (cec T Z x) ^^^ (-1)) &&& (srt T 3 ^^^ (-1)) = 0 from qd)]
      obtain ⟨S2, b1', b2, b3⟩ := m_meets_ok d2 S1
      have f2 : Fr fFm S1 S2 := b3.mo fun a k q => by
        unfold fFm at q
        exact (Bool.or_eq_false_iff.mp (Bool.or_eq_false_iff.mp q).1).2
      rw [b1', bnq]
      have rest : ∀ (q1 : List (Int32 × Int32)) (S3 : St), MX T W Z S3 → MQS T Z q1 S3 → Fr fFm S S3 → (∃ r, q1 = q ++ r) → (∀ τ, τ ∈ q1 → τ ∈ q ∨ ∃ x, x ∈ CL T W ∧ τ = nxM T Z x σ) → nxM T Z x σ ∈ q1 → ∃ S' q', (m_fetch_232 (m_fetch_140 k105 m) (nI q1.length) v3 v4 v5 σ.1 σ.2 (nI i) S3 = some (v3, S') ∧ Fr fFm S S' ∧ ∃ x, x ∈ CL T W ∧ (nxM T Z x σ).1 &&& ndf T = 0) ∨ (m_fetch_232 (m_fetch_140 k105 m) (nI q1.length) v3 v4 v5 σ.1 σ.2 (nI i) S3 = m_fetch_238 k105 (nI q'.length) v3 v4 v5 S' ∧ Fr fFm S S' ∧ MQS T Z q' S' ∧ (∃ r, q' = q ++ r) ∧ (∀ τ, τ ∈ q' → τ ∈ q ∨ ∃ x, x ∈ CL T W ∧ τ = nxM T Z x σ) ∧ ∀ x', x' ∈ x :: (CL T W).drop (i + 1) → ¬ (nxM T Z x' σ).1 &&& ndf T = 0 ∧ nxM T Z x' σ ∈ q') := by
        intro q1 S3 hX3 hQ3 f3 hp hfrom hin
        obtain ⟨S', q', h⟩ := fq_in hw hz k105 hσ v3 v4 v5 c (i + 1) m q1 S3 hX3 hQ3 (by omega) (by omega)
        unfold m_fetch_232
        rw [ltq, nI_1]
        rcases h with ⟨e1, e2, e3⟩ | ⟨e1, e2, e3, ⟨r', e4⟩, e5, e6⟩
        · exact ⟨S', q', Or.inl ⟨e1, f3.tr e2, e3⟩⟩
        · refine ⟨S', q', Or.inr ⟨e1, f3.tr e2, e3, ?_, fun τ h => ?_, fun x' hx' => ?_⟩⟩
          · obtain ⟨r, hr⟩ := hp
            exact ⟨r ++ r', by rw [e4, hr, List.append_assoc]⟩
          · rcases e5 τ h with h | h
            · exact hfrom τ h
            · exact Or.inr h
          · rcases List.mem_cons.mp hx' with rfl | hx'
            · exact ⟨qd, by rw [e4]; exact List.mem_append_left _ hin⟩
            · exact e6 x' hx'
      cases hb : bM S1 (cdN (nxM T Z x σ)) with
      | true =>
        rw [if_pos (show bI (!true) = 0 from rfl)]
        obtain ⟨τ, t1, t2⟩ := (hQ1.2.1 _ d2).mp hb
        obtain ⟨l3, l4⟩ := VS_lo hz (by omega) (hQ1.2.2.2 τ t1)
        have : τ = nxM T Z x σ := cdN_inj l3 l4 l1 l2 t2
        have hQ2 : MQS T Z q S2 := by
          refine ⟨fun k hk => (b3.i (by rfl)).trans (hQ1.1 k hk), fun N hN => ?_, hQ1.2.2⟩
          rw [b2]
          by_cases qN : N = cdN (nxM T Z x σ)
          · rw [qN, hb, Bool.true_or]
            exact ⟨fun _ => ⟨τ, t1, t2⟩, fun _ => rfl⟩
          · rw [decide_eq_false qN, Bool.or_false]
            exact hQ1.2.1 N hN
        exact rest q S2 (hX1.fm f2) hQ2 (f1.tr f2) ⟨[], (List.append_nil _).symm⟩ (fun τ h => Or.inl h) (this ▸ t1)
      | false =>
        have hlen := hQ1.len hz (by omega)
        rw [if_neg (show ¬ bI (!false) = 0 from bT), if_neg (nI_in (by omega) (by decide)), nI_clamp (by omega), ltq, ltq, nI_1]
        have hQ2 := hQ1.add hz (by omega) hnx hb b2 b3
        have f3 : Fr fFm S2 (wI S2 562 q.length (nI (cdN (nxM T Z x σ)))) := Fr.wI rfl
        have hl' : (q ++ [nxM T Z x σ]).length = q.length + 1 := List.length_append
        have := rest (q ++ [nxM T Z x σ]) _ ((hX1.fm f2).fm f3) hQ2 ((f1.tr f2).tr f3) ⟨_, rfl⟩ (fun τ h => by
          rcases List.mem_append.mp h with h | h
          · exact Or.inl h
          · rw [List.mem_singleton] at h
            exact Or.inr ⟨x, hmem, h⟩) (List.mem_append_right _ (List.mem_singleton.mpr rfl))
        rw [hl'] at this
        exact this
theorem fq_out (hw : WF T W V) (hz : WZ T Z) {k : Nat} (k94 : Int32 → Int32 → Int32 → St → Re Int32) (v3 : Int32) {q0 : List (Int32 × Int32)} (h0 : ∀ σ, σ ∈ q0 → RM T W Z k σ) (hlen0 : q0.length ≤ 59049) : ∀ (c i m : Nat) (q : List (Int32 × Int32)) (S : St), MX T W Z S → MQS T Z q S → (∃ r, q = q0 ++ r) → i + c = q0.length → c < m → ∃ S' q', (m_fetch_105 k94 m (nI q.length) v3 (nI q0.length) (nI i) S = some (v3, S') ∧ Fr fFm S S' ∧ DM T W Z (k + 1)) ∨ (m_fetch_105 k94 m (nI q.length) v3 (nI q0.length) (nI i) S = m_fetch_244 k94 (nI q'.length) v3 (nI q0.length) S' ∧ Fr fFm S S' ∧ MQS T Z q' S' ∧ (∃ r, q' = q ++ r) ∧ (∀ τ, τ ∈ q' → τ ∈ q ∨ ∃ σ x, RM T W Z k σ ∧ x ∈ CL T W ∧ τ = nxM T Z x σ) ∧ ∀ a, i ≤ a → a < q0.length → ∀ x, x ∈ CL T W → ¬ (nxM T Z x (gq q0 a)).1 &&& ndf T = 0 ∧ nxM T Z x (gq q0 a) ∈ q')
  | 0, i, m, q, S, hX, hQ, hp, hi, hm => by
    obtain ⟨m, rfl, hm⟩ := fuel hm
    refine ⟨S, q, Or.inr ⟨?_, Fr.rf, hQ, ⟨[], (List.append_nil _).symm⟩, fun τ h => Or.inl h, fun a h1 h2 => by omega⟩⟩
    rw [m_fetch_105, if_neg (nI_nlt (by omega) (by omega))]
  | c + 1, i, m, q, S, hX, hQ, hp, hi, hm => by
    obtain ⟨m, rfl, hm⟩ := fuel hm
    have hn := hw.b
    obtain ⟨r0, hr0⟩ := hp
    have hil : i < q0.length := by omega
    have hiq : i < q.length := by rw [hr0, List.length_append]; omega
    have eg : gq q i = gq q0 i := by rw [hr0]; exact gq_l q0 r0 hil
    have hR := h0 _ (gq_mem hil)
    have hσ : VS Z (gq q0 i) := VS_RM k _ hR
    obtain ⟨l1, l2⟩ := VS_lo hz (by omega) hσ
    obtain ⟨d1, d2, d3, d4⟩ := cd_ok l1 l2
    obtain ⟨S1, q1, h⟩ := fq_in hw hz (m_fetch_105 k94 m) hσ v3 (nI q0.length) (nI i) (CL T W).length 0 FU q S hX hQ (Nat.zero_add _) (by have := CL_len hw; unfold FU; omega)
    rw [m_fetch_105, if_pos (nI_lt hil (by omega)), if_neg (nI_in (by omega) (by decide)), nI_clamp (by omega), hQ.1 i hiq, eg, d3, ltq, if_neg (nI_inC (by omega) (by decide)), d4, ltq]
    rcases h with ⟨e1, e2, x, e3, e4⟩ | ⟨e1, e2, e3, ⟨r', e4⟩, e5, e6⟩
    · exact ⟨S1, q1, Or.inl ⟨e1, e2, _, Or.inr ⟨_, x, hR, e3, rfl⟩, e4⟩⟩
    · obtain ⟨S', q', h⟩ := fq_out hw hz k94 v3 h0 hlen0 c (i + 1) m q1 S1 (hX.fm e2) e3 ⟨r0 ++ r', by rw [e4, hr0, List.append_assoc]⟩ (by omega) (by omega)
      rw [(show m_fetch_140 (m_fetch_105 k94 m) FU (nI q.length) v3 (nI q0.length) (nI i) (gq q0 i).1 (gq q0 i).2 0 S = _ from e1)]
      unfold m_fetch_238
      rw [ltq, nI_1]
      rcases h with ⟨g1, g2, g3⟩ | ⟨g1, g2, g3, ⟨r2, g4⟩, g5, g6⟩
      · exact ⟨S', q', Or.inl ⟨g1, e2.tr g2, g3⟩⟩
      · refine ⟨S', q', Or.inr ⟨g1, e2.tr g2, g3, ⟨r' ++ r2, by rw [g4, e4, List.append_assoc]⟩, fun τ h => ?_, fun a h1 h2 x hx => ?_⟩⟩
        · rcases g5 τ h with h | h
          · rcases e5 τ h with h | ⟨x, h1, h2⟩
            · exact Or.inl h
            · exact Or.inr ⟨_, x, hR, h1, h2⟩
          · exact Or.inr h
        · by_cases qa : a = i
          · rw [qa]
            have := e6 x (by rw [List.drop_zero]; exact hx)
            exact ⟨this.1, by rw [g4]; exact List.mem_append_left _ this.2⟩
          · exact g6 a (by omega) h2 x hx
theorem DM_mo {k j : Nat} (h : k ≤ j) (hd : DM T W Z k) : DM T W Z j := by
  obtain ⟨σ, h1, h2⟩ := hd
  exact ⟨σ, RM_mo h h1, h2⟩
theorem fm_lev (hw : WF T W V) (hz : WZ T Z) : ∀ (j k m f : Nat) (q : List (Int32 × Int32)) (S : St), MX T W Z S → MQS T Z q S → f ≤ q.length → (∀ σ, σ ∈ q ↔ RM T W Z k σ) → (∀ i, i < f → ∀ x, x ∈ CL T W → nxM T Z x (gq q i) ∈ q) → ¬ DM T W Z k → k + j = 4 → j < m → ∃ x S', m_fetch_94 m (nI f) (nI q.length) (nI (k + 1)) S = some (x, S') ∧ FAns (DM T W Z) x ∧ Fr fFm S S'
  | 0, k, m, f, q, S, hX, hQ, hf, ha, hc, hd, hk, hm => by
    obtain ⟨m, rfl, hm⟩ := fuel hm
    obtain rfl : k = 4 := by omega
    refine ⟨-1, S, ?_, Or.inr ⟨fun j hj h => hd (DM_mo hj h), rfl⟩, Fr.rf⟩
    rw [m_fetch_94, if_neg (by decide)]
    rfl
  | j + 1, k, m, f, q, S, hX, hQ, hf, ha, hc, hd, hk, hm => by
    obtain ⟨m, rfl, hm⟩ := fuel hm
    have hn := hw.b
    have hlen := hQ.len hz (by omega)
    have h105 : ∃ S' q', (m_fetch_105 (m_fetch_94 m) FU (nI q.length) (nI (k + 1)) (nI q.length) (nI f) S = some (nI (k + 1), S') ∧ Fr fFm S S' ∧ DM T W Z (k + 1)) ∨ (m_fetch_105 (m_fetch_94 m) FU (nI q.length) (nI (k + 1)) (nI q.length) (nI f) S = m_fetch_244 (m_fetch_94 m) (nI q'.length) (nI (k + 1)) (nI q.length) S' ∧ Fr fFm S S' ∧ MQS T Z q' S' ∧ (∃ r, q' = q ++ r) ∧ (∀ τ, τ ∈ q' → τ ∈ q ∨ ∃ σ x, RM T W Z k σ ∧ x ∈ CL T W ∧ τ = nxM T Z x σ) ∧ ∀ a, f ≤ a → a < q.length → ∀ x, x ∈ CL T W → ¬ (nxM T Z x (gq q a)).1 &&& ndf T = 0 ∧ nxM T Z x (gq q a) ∈ q') :=
      fq_out hw hz (k := k) (m_fetch_94 m) (nI (k + 1)) (q0 := q) (fun σ h => (ha σ).mp h) hlen (q.length - f) f FU q S hX hQ ⟨[], (List.append_nil _).symm⟩ (by omega) (by unfold FU; omega)
    obtain ⟨S1, q', h⟩ := h105
    rw [m_fetch_94, if_pos (show nI (k + 1) < 5 from nI_lt (b := 5) (by omega) (by decide))]
    rcases h with ⟨e1, e2, e3⟩ | ⟨e1, e2, e3, ⟨r, e4⟩, e5, e6⟩
    · exact ⟨_, S1, e1, Or.inl ⟨k + 1, by omega, e3, fun i hi h => hd (DM_mo (by omega) h), rfl⟩, e2⟩
    · have hall : ∀ σ, σ ∈ q → ∀ x, x ∈ CL T W → ¬ (nxM T Z x σ).1 &&& ndf T = 0 ∧ nxM T Z x σ ∈ q' := fun σ hσ x hx => by
        obtain ⟨a, a1, rfl⟩ := gq_of hσ
        by_cases qa : a < f
        · have h1 := hc a qa x hx
          exact ⟨fun h0 => hd ⟨_, (ha _).mp h1, h0⟩, by rw [e4]; exact List.mem_append_left _ h1⟩
        · exact e6 a (by omega) a1 x hx
      obtain ⟨x, S', g1, g2, g3⟩ := fm_lev hw hz j (k + 1) m q.length q' S1 (hX.fm e2) e3 (by rw [e4, List.length_append]; omega) (fun σ => by
        constructor
        · intro h
          rcases e5 σ h with h | ⟨τ, x, h1, h2, h3⟩
          · exact Or.inl ((ha σ).mp h)
          · exact Or.inr ⟨τ, x, h1, h2, h3⟩
        · rintro (h | ⟨τ, x, h1, h2, rfl⟩)
          · rw [e4]
            exact List.mem_append_left _ ((ha σ).mpr h)
          · exact (hall τ ((ha τ).mpr h1) x h2).2) (fun i hi x hx => by
        have : gq q' i = gq q i := by rw [e4]; exact gq_l q r hi
        rw [this]
        exact (hall _ (gq_mem hi) x hx).2) (by
        rintro ⟨σ, h1, h2⟩
        rcases h1 with h1 | ⟨τ, x, h3, h4, rfl⟩
        · exact hd ⟨σ, h1, h2⟩
        · exact (hall τ ((ha τ).mpr h3) x h4).1 h2) (by omega) (by omega)
      refine ⟨x, S', ?_, g2, e2.tr g3⟩
      rw [e1]
      unfold m_fetch_244
      rw [ltq, nI_1]
      exact g1
theorem fm_zero : ∀ (j i m : Nat) (S : St), i + j = 32768 → j < m → (∀ q, q < i → rI S 563 q = 0) → ∃ S', m_fetch_29 m (nI i) S = m_fetch_48 S' ∧ (∀ q, q < 32768 → rI S' 563 q = 0) ∧ Fr (fun a _ => a == 563) S S'
  | 0, i, m, S, hi, hm, h => by
    obtain ⟨m, rfl, hm⟩ := fuel hm
    obtain rfl : i = 32768 := by omega
    refine ⟨S, ?_, h, Fr.rf⟩
    rw [m_fetch_29, if_neg (by decide)]
  | j + 1, i, m, S, hi, hm, h => by
    obtain ⟨m, rfl, hm⟩ := fuel hm
    obtain ⟨S', e1, e2, e3⟩ := fm_zero j (i + 1) m (wI S 563 i 0) (by omega) (by omega) (fun q hq => by
      by_cases q2 : q = i
      · rw [q2, rI_wI]
      · rw [rI_wI_k q2]
        exact h q (by omega))
    refine ⟨S', ?_, e2, (Fr.wI rfl).tr e3⟩
    rw [m_fetch_29, if_pos (show nI i < 32768 from nI_lt (b := 32768) (by omega) (by decide)), if_neg (nI_in (by omega) (by decide)), nI_clamp (by omega), ltq, ltq, nI_1]
    exact e1
theorem m_fetch_ok (hw : WF T W V) (hz : WZ T Z) (hO : OM T Sm) (hS : SM Z Sm) : ∃ x S', m_fetch Sm = some (x, S') ∧ FAns (DM T W Z) x ∧ Fr PQ Sm S' := by
  have hn := hw.b
  have fth := th0 Sm
  have hO1 : OM T (wI Sm 500 0 0) := hO.fr fth fun a k q => PQ_or q
  have hS1 : SM Z (wI Sm 500 0 0) := hS.fr fth fun k => rfl
  have hR0 : ∀ σ, RM T W Z 0 σ ↔ σ = (Z 0, Z 1 &&& Z 0) := fun σ => Iff.rfl
  unfold m_fetch
  rw [ltq (wI Sm 500 0 0), if_neg g0_15, m_deaf_ok hw hO1, bnq, c0, hS1 0 (by decide)]
  by_cases q : Z 0 &&& (srt T 3 ^^^ (-1)) = 0
  · rw [if_pos q]
    exact ⟨0, _, rfl, Or.inl ⟨0, by omega, ⟨_, (hR0 _).mpr rfl, q⟩, fun j hj => absurd hj (Nat.not_lt_zero _), rfl⟩, fth⟩
  · rw [if_neg q]
    obtain ⟨M7, d1, d2, d3⟩ := m_laysCalls_ok hw hz hO1 hS1
    have f7 : Fr PQ Sm M7 := fth.tr (d3.mo fun a k q => fLC_Q q)
    have hS7 : SM Z M7 := hS.fr f7 fun k => rfl
    obtain ⟨M8, e1, e2, e3⟩ := fm_zero 32768 0 FU M7 rfl (by unfold FU; omega) (fun q hq => absurd hq (Nat.not_lt_zero _))
    have f8 : Fr PQ Sm M8 := f7.tr (e3.mo fun a k q => by
      unfold PQ at q
      simp at q ⊢
      omega)
    have hS8 : SM Z M8 := hS.fr f8 fun k => rfl
    have hX8 : MX T W Z M8 := ⟨hO.fr f8 fun a k q => PQ_or q, d2.fr e3 (by rfl) fun k => ⟨rfl, rfl, rfl⟩⟩
    have hV0 : VS Z (Z 0, Z 1 &&& Z 0) := VS_RM (T := T) (W := W) 0 _ ((hR0 _).mpr rfl)
    obtain ⟨l1, l2⟩ := VS_lo hz (by omega) hV0
    obtain ⟨g1, g2, g3, g4⟩ := cd_ok l1 l2
    have f9 : Fr fFm M8 (wI M8 562 0 (nI (cdN (Z 0, Z 1 &&& Z 0)))) := Fr.wI rfl
    obtain ⟨M10, m1, m2, m3⟩ := m_meets_ok g2 (wI M8 562 0 (nI (cdN (Z 0, Z 1 &&& Z 0))))
    have hbz : ∀ N, bM (wI M8 562 0 (nI (cdN (Z 0, Z 1 &&& Z 0)))) N = bM M8 N := fun N => by
      unfold bM
      rw [rI_wI_a (by decide)]
    have hz8 : bM M8 (cdN (Z 0, Z 1 &&& Z 0)) = false := by
      unfold bM
      rw [e2 _ (by omega), tb_z]
    have f10 : Fr fFm (wI M8 562 0 (nI (cdN (Z 0, Z 1 &&& Z 0)))) M10 := m3.mo fun a k q => by
      unfold fFm at q
      exact (Bool.or_eq_false_iff.mp (Bool.or_eq_false_iff.mp q).1).2
    have hQ10 : MQS T Z [(Z 0, Z 1 &&& Z 0)] M10 := by
      refine ⟨fun i hi => ?_, fun N hN => ?_, fun i j hi hj _ => ?_, fun σ hσ => ?_⟩
      · have hi : i < 1 := hi
        obtain rfl : i = 0 := by omega
        rw [m3.i (by rfl), rI_wI]
        rfl
      · rw [m2, hbz]
        have : bM M8 N = false := by
          unfold bM
          rw [e2 _ (by omega), tb_z]
        rw [this, Bool.false_or, decide_eq_true_eq]
        constructor
        · intro h
          exact ⟨_, List.mem_singleton.mpr rfl, h.symm⟩
        · rintro ⟨σ, h1, h2⟩
          rw [List.mem_singleton] at h1
          rw [h1] at h2
          exact h2.symm
      · have hi : i < 1 := hi
        have hj : j < 1 := hj
        omega
      · rw [List.mem_singleton] at hσ
        rw [hσ]
        exact hV0
    obtain ⟨x, S', t1, t2, t3⟩ := fm_lev hw hz 4 0 FU 0 [(Z 0, Z 1 &&& Z 0)] M10 ((hX8.fm f9).fm f10) hQ10 (Nat.zero_le _) (fun σ => by rw [List.mem_singleton, hR0]) (fun i hi => absurd hi (Nat.not_lt_zero _)) (by
      rintro ⟨σ, h1, h2⟩
      rw [hR0] at h1
      rw [h1] at h2
      exact q h2) rfl (by unfold FU; omega)
    refine ⟨x, S', ?_, t2, f8.tr (((f9.tr f10).tr t3).mo fun a k q => ?_)⟩
    · rw [d1, bnq, (show m_fetch_29 FU 0 M7 = _ from e1)]
      unfold m_fetch_48
      rw [if_neg g0_15, if_neg g1_15, if_neg g0_15, if_neg (by decide), c0, c1, hS8 0 (by decide), hS8 1 (by decide), (show (Z 0 <<< ((10 : Int32) &&& 31)) ||| (Z 1 &&& Z 0) = _ from g1), ltq (wI M8 562 0 _), if_neg (by decide), rI_wI, m1, bnq]
      exact t1
    · unfold PQ at q
      unfold fFm frL
      simp at q ⊢
      omega
theorem fetch_ok (h : Inv So Sm) : Sim (o_fetch So) (m_fetch Sm) () := by
  have hI := h
  obtain ⟨T, W, V, L, v, Z, d, ht, hz, hs, hu, hm, hp, hr⟩ := h
  have ht0 := ht
  obtain ⟨hw, hO, hL, hB, hv, hT⟩ := ht
  have hn := hw.b
  obtain ⟨x, S1, a1, a2, a3, a4⟩ := fewest_ok hw hz.2.2 hT hz.1 hr.2.2.2.1 hr.2.2.2.2
  obtain ⟨y, S2, b1', b2, b3⟩ := m_fetch_ok hw hz.2.2 hO hz.2.1
  have exy : x = y := FAns.eq (fun k => (DM_DK hw hz.2.2 k).symm) a2 b2
  have hP : ∀ a k, (fGa a k || fFt a k) = true → (5 ≤ a ∧ a ≤ 8) ∨ (12 ≤ a ∧ a ≤ 14) := fun a k q => by
    unfold fGa fFt at q
    simp at q
    omega
  have hPn : ∀ a k, ¬ ((5 ≤ a ∧ a ≤ 8) ∨ (12 ≤ a ∧ a ≤ 14)) → (fGa a k || fFt a k) = false := fun a k q => by
    cases q2 : (fGa a k || fFt a k) with
    | false => rfl
    | true => exact absurd (hP a k q2) q
  have hinv : Inv S1 S2 := by
    refine ⟨T, W, V, L, v, Z, d, ht0.fr a3 b3 (fun a k q => by unfold ton at q; exact hPn a k (by omega)) (hPn 1 9 (by omega)) (fun a k q => PQ_or q),
      hz.fr a3 b3 (fun k => ⟨hPn _ _ (by omega), hPn _ _ (by omega)⟩) (fun k => rfl),
      hs.fr a3 b3 (fun k => ⟨hPn _ _ (by omega), hPn _ _ (by omega), hPn _ _ (by omega), hPn _ _ (by omega), hPn _ _ (by omega)⟩) (fun a k q => PQ_sl (by omega)),
      hu.fr a3 b3 (fun a k q => hPn a k (by omega)) rfl (fun k => rfl),
      hm.fr a3 b3 (hPn _ _ (by omega)) (fun a k q => by unfold mko at q; exact hPn a k (by omega)) (fun a k q => PQ_sl (by omega)),
      hp.fr a3 b3 (hPn _ _ (by omega)) (fun k => hPn _ _ (by omega)) rfl (fun k => rfl), ?_⟩
    obtain ⟨h1, h2, ⟨n', f', h3⟩, h4, h5⟩ := hr
    exact ⟨(a3.q (hPn _ _ (by omega))).trans h1, h2.fr (by have := ht0.2.2.2.2.2.1; omega) a3 (fun a k q => by unfold ton at q; exact hPn a k (by omega)), ⟨n', f', h3.fr a3 (fun k => hPn _ _ (by omega)) (fun k => hPn _ _ (by omega))⟩, fun k hk => (a3.i (hPn _ _ (by omega))).trans (h4 k hk), a4⟩
  unfold o_fetch
  rw [oq2 hv, a1, bnq, b1', exy]
  exact ⟨_, _, _, rfl, rfl, hinv⟩
end FETCHM
