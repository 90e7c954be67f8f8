/-! Fetch: the class's side. -/
section FELLSALL
variable {T : St} {W V : Nat → List Nat} {L : Int32 → Int32 → Int32} {v n fr nx : Nat} {Z : Nat → Int32} {So Sm S S' S1 S2 : St}
def fJn (nx : Nat) : Nat → Nat → Bool := fun a _ => a == 12 || a == nx
theorem fJn_n {a k : Nat} (h : a ≠ 12) (h2 : a ≠ nx) : fJn nx a k = false := by
  unfold fJn
  simp
  omega
/-- more is met, and what is met anew is next -/
def SR (nx : Nat) (S S' : St) : Prop := Fr (fJn nx) S S' ∧ ∀ N, N < 59072 → (bJ S 12 N = true → bJ S' 12 N = true) ∧ bJ S' nx N = (bJ S nx N || (bJ S' 12 N && !bJ S 12 N))
theorem SR.rf : SR nx S S := ⟨Fr.rf, fun N hN => ⟨fun h => h, by cases bJ S nx N <;> cases bJ S 12 N <;> rfl⟩⟩
theorem SR.tr (h : SR nx S S1) (g : SR nx S1 S2) : SR nx S S2 := by
  refine ⟨h.1.tr g.1, fun N hN => ?_⟩
  obtain ⟨h1, h2⟩ := h.2 N hN
  obtain ⟨g1, g2⟩ := g.2 N hN
  refine ⟨fun q => g1 (h1 q), ?_⟩
  rw [g2, h2]
  revert h1 g1
  cases bJ S nx N <;> cases bJ S 12 N <;> cases bJ S1 12 N <;> cases bJ S2 12 N <;> simp
def SC (T : St) (W V : Nat → List Nat) (L : Int32 → Int32 → Int32) (v : Nat) (Z : Nat → Int32) (fr nx : Nat) (S : St) : Prop := TD v T W V L S ∧ GA (GL T W Z) S ∧ (∀ k, k < 1024 → rI S 11 k = nI (thN k)) ∧ rQ S 5 7 = some fr ∧ rQ S 5 8 = some nx ∧ ((fr = 13 ∧ nx = 14) ∨ (fr = 14 ∧ nx = 13))
theorem SC.frw {P : Nat → Nat → Bool} (h : SC T W V L v Z fr nx S) (f : Fr P S S') (hp : ∀ a k, (a < 12 ∨ 14 < a) → P a k = false) : SC T W V L v Z fr nx S' := by
  obtain ⟨h1, ⟨h2, h3, h4⟩, h5, h6, h7, h8⟩ := h
  refine ⟨h1.fr f fun a k q => hp a k (by unfold ton at q; omega), ⟨(f.i (hp _ _ (by omega))).trans h2, h3, fun i hi => ?_⟩, fun k hk => (f.i (hp _ _ (by omega))).trans (h5 k hk), (f.q (hp _ _ (by omega))).trans h6, (f.q (hp _ _ (by omega))).trans h7, h8⟩
  rw [f.i (hp _ _ (by omega)), f.i (hp _ _ (by omega)), f.i (hp _ _ (by omega))]
  exact h4 i hi
theorem SC.ne (h : SC T W V L v Z fr nx S) : (nx = 13 ∨ nx = 14) ∧ (fr = 13 ∨ fr = 14) ∧ fr ≠ nx := by
  have := h.2.2.2.2.2
  omega
theorem SC.sr (h : SC T W V L v Z fr nx S) (f : SR nx S S') : SC T W V L v Z fr nx S' := h.frw f.1 fun a k q => by
  have := h.ne
  exact fJn_n (by omega) (by omega)
theorem SC.k (h : SC T W V L v Z fr nx S) : KO.1 nx = (4, 923) ∧ KO.1 fr = (4, 923) := by
  rcases h.2.2.2.2.2 with ⟨rfl, rfl⟩ | ⟨rfl, rfl⟩
  · exact ⟨rfl, rfl⟩
  · exact ⟨rfl, rfl⟩
theorem meet_ok (hS : SC T W V L v Z fr nx S) {h s : Int32} (h1 : lo 10 h) (h2 : lo 10 s) : ∃ S', o_se_meet h s S = some ((), S') ∧ SR nx S S' ∧ ∀ N, N < 59072 → bJ S' 12 N = (bJ S 12 N || decide (N = ix (h, s))) := by
  obtain ⟨e1, a1⟩ := cN_ok h1
  obtain ⟨e2, a2⟩ := cN_ok h2
  have hlt : ix (h, s) < 59049 := ix_lt (σ := (h, s)) h1 h2
  have hix : ix (h, s) = thN (cN h) + thN (cN s) := rfl
  obtain ⟨k1, k2⟩ := hS.k
  have h12 := hS.ne
  generalize ix (h, s) = N at hlt hix
  obtain ⟨d1, d2⟩ := emod64 (N := N) (k := 64) (by omega) (by decide) (by decide)
  have hq : N / 64 < 923 := by omega
  rw [e1, e2]
  generalize cN h = a at *
  generalize cN s = b at *
  unfold o_se_meet
  rw [if_neg (nI_pos (by omega)), if_pos (show nI a < 1024 from nI_lt (b := 1024) a1 (by decide)), if_neg (nI_pos (by omega)), if_pos (show nI b < 1024 from nI_lt (b := 1024) a2 (by decide)), if_neg (nI_in (by omega) (by omega)), if_neg (nI_in (by omega) (by omega)), nI_clamp (by omega), nI_clamp (by omega), hS.2.2.1 a a1, hS.2.2.1 b a2, nI_add, ← hix, ltq, (show nI N / 64 = nI (N / 64) from d1), ltq, (show nI N - nI (N / 64) * 64 = nI (N % 64) by rw [← d1]; exact d2), ltq, if_pos (show nI (N / 64) < 923 from nI_lt (b := 923) hq (by decide)), oq2 hS.2.2.2.2.1, k1, if_pos (k4r _), if_pos (show nI (N / 64) < Int32.ofNat ((4, 923) : Nat × Nat).2 from nI_lt (b := 923) hq (by decide)), if_neg (nI_in hq (by decide)), nI_clamp (by omega), if_neg (nI_inC hq (by decide))]
  by_cases q : tbJ (rJ S 12 (N / 64)) (N % 64) = false
  · rw [if_pos ((tbJ_bit _ (Nat.mod_lt _ (by decide))).mpr q), if_neg (nI_inC hq (by decide)), ltq, oq2 (show rQ (wJ S 12 (N / 64) _) 5 8 = some nx from hS.2.2.2.2.1), k1, if_pos (k4e _), if_neg (nI_inC (show N / 64 < ((4, 923) : Nat × Nat).2 from hq) (by decide)), if_pos (k4e _), if_neg (nI_inC (show N / 64 < ((4, 923) : Nat × Nat).2 from hq) (by decide)), ltq]
    have b12 : ∀ M, bJ (wJ (wJ S 12 (N / 64) (rJ S 12 (N / 64) ||| ((1 : Int64) <<< ((nI (N % 64)).toInt64 &&& 63)))) nx (N / 64) (rJ (wJ S 12 (N / 64) (rJ S 12 (N / 64) ||| ((1 : Int64) <<< ((nI (N % 64)).toInt64 &&& 63)))) nx (N / 64) ||| ((1 : Int64) <<< ((nI (N % 64)).toInt64 &&& 63)))) 12 M = (bJ S 12 M || decide (M = N)) := fun M => by
      rw [bJ_wo (by omega), bJ_w]
    have bnx : ∀ M, bJ (wJ (wJ S 12 (N / 64) (rJ S 12 (N / 64) ||| ((1 : Int64) <<< ((nI (N % 64)).toInt64 &&& 63)))) nx (N / 64) (rJ (wJ S 12 (N / 64) (rJ S 12 (N / 64) ||| ((1 : Int64) <<< ((nI (N % 64)).toInt64 &&& 63)))) nx (N / 64) ||| ((1 : Int64) <<< ((nI (N % 64)).toInt64 &&& 63)))) nx M = (bJ S nx M || decide (M = N)) := fun M => by
      rw [bJ_w, bJ_wo (by omega)]
    refine ⟨_, rfl, ⟨(Fr.wJ (by unfold fJn; simp)).tr (Fr.wJ (by unfold fJn; simp)), fun M hM => ?_⟩, fun M hM => b12 M⟩
    rw [b12, bnx]
    have q' : bJ S 12 N = false := q
    refine ⟨fun h => by rw [h, Bool.true_or], ?_⟩
    by_cases hMN : M = N
    · rw [hMN, q', decide_eq_true rfl]
      cases bJ S nx N <;> rfl
    · rw [decide_eq_false hMN]
      cases bJ S nx M <;> cases bJ S 12 M <;> rfl
  · rw [if_neg (fun c => q ((tbJ_bit _ (Nat.mod_lt _ (by decide))).mp c))]
    refine ⟨S, rfl, SR.rf, fun M hM => ?_⟩
    by_cases hMN : M = N
    · have q' : bJ S 12 N = true := by
        cases h : bJ S 12 N with
        | true => rfl
        | false => exact absurd h q
      rw [hMN, q', Bool.true_or]
    · rw [decide_eq_false hMN, Bool.or_false]
theorem lo_nxC {σ : Int32 × Int32} (h : lo 10 σ.1) (w e : Int32) : lo 10 (nxC T w e σ).1 ∧ lo 10 (nxC T w e σ).2 := ⟨lo_and h, lo_and2 (lo_and h)⟩
theorem fe_loop (hw : WF T W V) {σ : Int32 × Int32} (hl : lo (ct T 0) σ.1) : ∀ (c i m : Nat) (S : St), SC T W V L v Z fr nx S → i + c = (GL T W Z).length → c < m → ∃ r S', o_se_fellsAll_18 m v σ.2 σ.1 (nI i) S = some (bI r, S') ∧ SR nx S S' ∧ (r = true → ∃ y, y ∈ GL T W Z ∧ (nxC T y.1 y.2.1 σ).1 = 0) ∧ (r = false → ∀ y, y ∈ (GL T W Z).drop i → ¬ (nxC T y.1 y.2.1 σ).1 = 0 ∧ bJ S' 12 (ix (nxC T y.1 y.2.1 σ)) = true) ∧ ∀ N, N < 59072 → bJ S' 12 N = true → bJ S 12 N = true ∨ ∃ y, y ∈ GL T W Z ∧ N = ix (nxC T y.1 y.2.1 σ)
  | 0, i, m, S, hS, hi, hm => by
    obtain ⟨m, rfl, hm⟩ := fuel hm
    have h80 := hS.2.1.2.1
    rw [Nat.add_zero] at hi
    subst hi
    refine ⟨false, S, ?_, SR.rf, fun h => (by cases h), fun _ y hy => (by rw [List.drop_length] at hy; cases hy), fun N _ h => Or.inl h⟩
    rw [o_se_fellsAll_18, hS.2.1.1, if_neg (nI_nlt (Nat.le_refl _) (by omega))]
    rfl
  | c + 1, i, m, S, hS, hi, hm => by
    obtain ⟨m, rfl, hm⟩ := fuel hm
    have hn := hw.b
    have h80 := hS.2.1.2.1
    have hT := hS.1
    have hl10 : lo 10 σ.1 := lo_mo hl (by omega)
    obtain ⟨r1, r2, r3⟩ := hS.2.1.2.2 i (by omega)
    have hmem : (GL T W Z).getD i (0, 0, 0) ∈ GL T W Z := by
      rw [List.getD_eq_getElem?_getD, List.getElem?_eq_getElem (show i < (GL T W Z).length by omega)]
      exact List.getElem_mem _
    rw [t3_c (GL T W Z) (show i < (GL T W Z).length by omega), o_se_fellsAll_18, hS.2.1.1, if_pos (nI_lt (by omega) (by omega)), if_pos (show nI i < 80 from nI_lt (b := 80) (by omega) (by decide)), if_neg (nI_in (by omega) (by omega)), nI_clamp (by omega), if_neg (nI_inC (by omega) (by omega)), if_pos hT.k, r1, r2, to_felled hw hT hl, bnq, ltq]
    generalize (GL T W Z).getD i (0, 0, 0) = y at r1 r2 r3 hmem
    obtain ⟨l1, l2⟩ := lo_nxC (T := T) hl10 y.1 y.2.1
    have hlt : ix (nxC T y.1 y.2.1 σ) < 59072 := Nat.lt_of_lt_of_le (ix_lt l1 l2) (by decide)
    by_cases q : σ.1 &&& (flC T σ.1 σ.2 y.1 y.2.1 ^^^ (-1)) = 0
    · rw [if_pos q]
      exact ⟨true, S, rfl, SR.rf, fun _ => ⟨y, hmem, q⟩, fun h => (by cases h), fun N _ h => Or.inl h⟩
    · obtain ⟨S1, a1, a2, a3⟩ := meet_ok hS l1 l2
      obtain ⟨r, S', e1, e2, e3, e4, e5⟩ := fe_loop hw hl c (i + 1) m S1 (hS.sr a2) (by omega) (by omega)
      refine ⟨r, S', ?_, a2.tr e2, e3, fun hr y' hy' => ?_, fun N hN h => ?_⟩
      · rw [if_neg q, if_neg (nI_inC (by omega) (by omega)), r2, (show o_se_meet (σ.1 &&& (flC T σ.1 σ.2 y.1 y.2.1 ^^^ (-1))) ((σ.2 ||| y.2.1) &&& (σ.1 &&& (flC T σ.1 σ.2 y.1 y.2.1 ^^^ (-1)))) S = _ from a1), bnq, ltq, nI_1]
        exact e1
      · rcases List.mem_cons.mp hy' with rfl | hy'
        · refine ⟨q, (e2.2 _ hlt).1 ?_⟩
          rw [a3 _ hlt]
          show (_ || decide (ix (nxC T y'.1 y'.2.1 σ) = ix (nxC T y'.1 y'.2.1 σ))) = true
          rw [decide_eq_true rfl, Bool.or_true]
        · exact e4 hr y' hy'
      · rcases e5 N hN h with h | h
        · rw [a3 N hN, Bool.or_eq_true, decide_eq_true_eq] at h
          rcases h with h | h
          · exact Or.inl h
          · exact Or.inr ⟨y, hmem, h⟩
        · exact Or.inr h
theorem fellsAll_ok (hw : WF T W V) {σ : Int32 × Int32} (hl : lo (ct T 0) σ.1) (h3 : ∀ i, i < 32 → tb σ.2 i = true → tb σ.1 i = true) (hS : SC T W V L v Z fr nx S) : ∃ r S', o_se_fellsAll v (nI (ix σ)) S = some (bI r, S') ∧ SR nx S S' ∧ (r = true → ∃ y, y ∈ GL T W Z ∧ (nxC T y.1 y.2.1 σ).1 = 0) ∧ (r = false → ∀ y, y ∈ GL T W Z → ¬ (nxC T y.1 y.2.1 σ).1 = 0 ∧ bJ S' 12 (ix (nxC T y.1 y.2.1 σ)) = true) ∧ ∀ N, N < 59072 → bJ S' 12 N = true → bJ S 12 N = true ∨ ∃ y, y ∈ GL T W Z ∧ N = ix (nxC T y.1 y.2.1 σ) := by
  have hn := hw.b
  have h1 : lo 10 σ.1 := lo_mo hl (by omega)
  have h2 : lo 10 σ.2 := fun i q1 q2 => by
    cases q : tb σ.2 i with
    | false => rfl
    | true =>
      have := h3 i q2 q
      rw [h1 i q1 q2] at this
      cases this
  obtain ⟨d2, x, d1, dx⟩ := digits_ok (S := S) h1 h2 h3
  obtain ⟨r, S', e1, e2, e3, e4, e5⟩ := fe_loop hw hl (GL T W Z).length 0 FU S hS (Nat.zero_add _) (by have := hS.2.1.2.1; unfold FU; omega)
  refine ⟨r, S', ?_, e2, e3, e4, e5⟩
  unfold o_se_fellsAll
  rw [d2, bnq, d1, bnq, dx, ltq]
  exact e1
end FELLSALL
