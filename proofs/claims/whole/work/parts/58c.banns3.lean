section BANNS3
variable {T : St} {W V : Nat → List Nat} {L : Int32 → Int32 → Int32} {v d u a : Nat} {Z Z1 Z2 : Nat → Int32} {So So' Sm Sm' S : St}
theorem fRd_of {a k : Nat} (h : fRd a k = false) : (frV a k || frH a k) = false := by
  unfold fRd at h
  simp only [Bool.or_eq_false_iff] at h ⊢
  exact h.1.1.1
theorem BR.fr {n : Nat} {β : Int32 × List Nat} {P : Nat → Nat → Bool} (h : BR n β S) (f : Fr P S So) (h1 : P 500 85 = false) (h2 : ∀ k, P 566 k = false) : BR n β So := ⟨(f.i h1).trans h.1, fun q k hk => (f.i (h2 _)).trans (h.2 q k hk)⟩
/-- the reference goes through the orders -/
theorem mr_ok (hw : WF T W V) (hL : LawV T L) (hz : WZ T Z) {l w : Nat} (hl : l < 12) (hww : w < 7) (h5 : ct T 5 ≤ 4) : ∀ (j f : Nat) (pre : List Nat) (x : Int32) (β : Int32 × List Nat) (S : St), j < f → pre.length + j = ct T 5 → (∀ b, b < ct T 5 → tb x b = pre.contains b) → (∀ q, q < pre.length → rI S 565 q = nI (pre.getD q 0)) → OM T S → SM Z S → BR (ct T 5) β S → ∃ S', m_reads0 f (nI pre.length) x (vsl T Z L l w pre).1 (vsl T Z L l w pre).2.1 (vsl T Z L l w pre).2.2 (nI l) (nI w) S = some ((), S') ∧ BR (ct T 5) ((enu (ct T 5) j pre).foldl (cmS T Z L l w) β) S' ∧ (∀ q, q < pre.length → rI S' 565 q = rI S 565 q) ∧ Fr fRd S S'
  | 0, f, pre, x, β, S, hf, hlen, hx, hd, hO, hS, hβ => by
    have hn := hw.b
    obtain ⟨f, rfl, hf⟩ := fuel hf
    rw [Nat.add_zero] at hlen
    have g5 : (if (5 : Int32) < 0 ∨ 12 ≤ (5 : Int32).toNatClampNeg then (none : Re Unit) else some ((), S)) = some ((), S) := if_neg g5_12
    rw [enu, List.foldl_cons, List.foldl_nil, m_reads0]
    unfold m_reads0_b
    rw [if_neg g5_12, c5, hO.n (by decide), hw.n (by decide), if_pos (by rw [hlen]), hβ.1]
    have sto : ∃ S', m_reads0_27 (m_reads0 f) (vsl T Z L l w pre).2.2 S = some ((), S') ∧ BR (ct T 5) ((vsl T Z L l w pre).2.2, pre) S' ∧ (∀ q, q < pre.length → rI S' 565 q = rI S 565 q) ∧ Fr fRd S S' := by
      obtain ⟨S', e1, e2, e3⟩ := m_copy4 S 4 0 FU (wI S 500 85 (vsl T Z L l w pre).2.2) (m_reads0 f) rfl (by unfold FU; omega) (fun q hq => absurd hq (Nat.not_lt_zero _)) (fun q => rI_wI_a (by decide))
      refine ⟨S', ?_, ⟨(e3.i (by rfl)).trans rI_wI, fun _ q hq => ?_⟩, fun q hq => (e3.i (by rfl)).trans (rI_wI_a (by decide)), (Fr.wI rfl).tr (e3.mo fun a k q => ?_)⟩
      · unfold m_reads0_27
        rw [ltq]
        exact e1
      · rw [e2 q (by omega), hd q (by omega)]
      · unfold fRd at q
        exact (Bool.or_eq_false_iff.mp q).2
    unfold cmS
    by_cases q1 : β.1 < 0
    · rw [if_pos q1, decide_eq_true q1, Bool.true_or, cond_true]
      exact sto
    · rw [if_neg q1, decide_eq_false q1, Bool.false_or]
      by_cases q2 : (vsl T Z L l w pre).2.2 < β.1
      · rw [if_pos q2, decide_eq_true q2, cond_true]
        exact sto
      · rw [if_neg q2, decide_eq_false q2, cond_false]
        exact ⟨S, rfl, hβ, fun q hq => rfl, Fr.rf⟩
  | j + 1, f, pre, x, β, S, hf, hlen, hx, hd, hO, hS, hβ => by
    have hn := hw.b
    obtain ⟨f, rfl, hf⟩ := fuel hf
    have inner : ∀ (c b m : Nat) (β : Int32 × List Nat) (S : St), b + c = ct T 5 → c < m → (∀ q, q < pre.length → rI S 565 q = nI (pre.getD q 0)) → OM T S → SM Z S → BR (ct T 5) β S → ∃ S', m_reads0_66 (m_reads0 f) m (nI pre.length) x (vsl T Z L l w pre).1 (vsl T Z L l w pre).2.1 (vsl T Z L l w pre).2.2 (nI l) (nI w) (nI b) S = some ((), S') ∧ BR (ct T 5) ((enB (fun b => enu (ct T 5) j (pre ++ [b])) pre c b).foldl (cmS T Z L l w) β) S' ∧ (∀ q, q < pre.length → rI S' 565 q = rI S 565 q) ∧ Fr fRd S S' := by
      intro c
      induction c with
      | zero =>
        intro b m β S hb hm hd hO hS hβ
        obtain ⟨m, rfl, hm⟩ := fuel hm
        rw [Nat.add_zero] at hb
        subst hb
        refine ⟨S, ?_, hβ, fun q hq => rfl, Fr.rf⟩
        rw [m_reads0_66, if_neg g5_12, c5, hO.n (by decide), hw.n (by decide), if_neg (nI_nlt (Nat.le_refl _) (by omega))]
        rfl
      | succ c ih =>
        intro b m β S hb hm hd hO hS hβ
        obtain ⟨m, rfl, hm⟩ := fuel hm
        rw [m_reads0_66, if_neg g5_12, c5, hO.n (by decide), hw.n (by decide), if_pos (nI_lt (by omega) (by omega)), enB]
        unfold m_reads0_232
        have hxb := hx b (by omega)
        cases hc : pre.contains b with
        | true =>
          rw [hc] at hxb
          obtain ⟨S', e1, e2, e3, e4⟩ := ih (b + 1) m β S (by omega) (by omega) hd hO hS hβ
          refine ⟨S', ?_, by rw [cond_true, List.nil_append]; exact e2, e3, e4⟩
          rw [if_pos ((sr_eq _ (by omega)).mpr hxb), ltq, nI_1]
          exact e1
        | false =>
          rw [hc] at hxb
          have f0 : Fr fRd S (wI S 565 pre.length (nI b)) := Fr.wI rfl
          have hO1 : OM T (wI S 565 pre.length (nI b)) := hO.fr f0 fun a k q => fRd_n (by omega) (by omega) (by omega)
          have hS1 : SM Z (wI S 565 pre.length (nI b)) := hS.fr f0 fun k => rfl
          obtain ⟨S2, a1, a2⟩ := m_two (L := L) hw hL hz hl hww (show b < ct T 5 by omega) (show pre.length < 4 by omega) (m_reads0 f) (m_reads0_66 (m_reads0 f) m) x (vsl T Z L l w pre).1 (vsl T Z L l w pre).2.1 (vsl T Z L l w pre).2.2 (m := FU) (by unfold FU; omega) (vsl T Z L l w pre) hO1 hS1
          have f2 : Fr fRd S S2 := f0.tr (a2.mo fun a k q => fRd_of q)
          have hO2 : OM T S2 := hO.fr f2 fun a k q => fRd_n (by omega) (by omega) (by omega)
          have hS2 : SM Z S2 := hS.fr f2 fun k => rfl
          have e565 : ∀ q, rI S2 565 q = rI (wI S 565 pre.length (nI b)) 565 q := fun q => a2.i (by rfl)
          have hβ2 : BR (ct T 5) β S2 := (hβ.fr (Fr.wI (P := fun a _ => a == 565) rfl) (by rfl) fun k => rfl).fr a2 (by rfl) fun k => rfl
          have hlen2 : (pre ++ [b]).length = pre.length + 1 := by rw [List.length_append]; rfl
          obtain ⟨S3, b1', b2, b3, b4⟩ := mr_ok hw hL hz hl hww h5 j f (pre ++ [b]) (x ||| ((1 : Int32) <<< (nI b &&& 31))) β S2 (by omega) (by rw [hlen2]; omega) (fun i hi => by
            rw [tb_or, tb_bit (by omega) (by omega), hx i hi]
            simp [List.contains_eq_mem]
            ) (fun q hq => by
            rw [hlen2] at hq
            rw [e565]
            by_cases q2 : q = pre.length
            · rw [q2, rI_wI, gd_e]
            · rw [rI_wI_k q2, gd_l pre b (show q < pre.length by omega), hd q (by omega)]) hO2 hS2 hβ2
          have f3 : Fr fRd S S3 := f2.tr b4
          have e5653 : ∀ q, q < pre.length → rI S3 565 q = rI S 565 q := fun q hq => by
            rw [b3 q (by rw [hlen2]; omega), e565, rI_wI_k (by omega)]
          obtain ⟨S', e1, e2, e3, e4⟩ := ih (b + 1) m _ S3 (by omega) (by omega) (fun q hq => (e5653 q hq).trans (hd q hq)) (hO.fr f3 fun a k q => fRd_n (by omega) (by omega) (by omega)) (hS.fr f3 fun k => rfl) b2
          refine ⟨S', ?_, by rw [cond_false, List.foldl_append]; exact e2, fun q hq => (e3 q hq).trans (e5653 q hq), f3.tr e4⟩
          rw [vsl_s, hlen2] at b1'
          rw [if_neg (fun e => by rw [(sr_eq _ (by omega)).mp e] at hxb; cases hxb), if_neg (nI_in (by omega) (by omega)), nI_clamp (by omega), ltq, a1]
          unfold m_reads0_209 m_reads0_232
          rw [nI_1, b1', bnq, ltq, nI_1]
          exact e1
    obtain ⟨S', e1, e2, e3, e4⟩ := inner (ct T 5) 0 FU β S (Nat.zero_add _) (by unfold FU; omega) hd hO hS hβ
    refine ⟨S', ?_, e2, e3, e4⟩
    rw [m_reads0]
    unfold m_reads0_b
    rw [if_neg g5_12, c5, hO.n (by decide), hw.n (by decide), if_neg (nI_ne (by omega) (by omega) (by omega))]
    exact e1
end BANNS3
