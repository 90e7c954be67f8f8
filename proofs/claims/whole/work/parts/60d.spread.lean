/-! Fetch: the class's side, word by word. -/
section SPREAD
variable {T : St} {W V : Nat → List Nat} {L : Int32 → Int32 → Int32} {v n fr nx k : Nat} {Z : Nat → Int32} {So Sm S S' S1 S2 : St}
/-- what is met anew is reached by one call more -/
def NB (T : St) (W : Nat → List Nat) (Z : Nat → Int32) (k : Nat) (S S' : St) : Prop := ∀ N, N < 59072 → bJ S' 12 N = true → bJ S 12 N = true ∨ ∃ σ y, RK T W Z k σ ∧ y ∈ GL T W Z ∧ N = ix (nxC T y.1 y.2.1 σ)
/-- all that follows on it is met, and none of that is the end -/
def PD (T : St) (W : Nat → List Nat) (Z : Nat → Int32) (k : Nat) (S : St) (N : Nat) : Prop := ∀ σ, RK T W Z k σ → ix σ = N → ∀ y, y ∈ GL T W Z → ¬ (nxC T y.1 y.2.1 σ).1 = 0 ∧ bJ S 12 (ix (nxC T y.1 y.2.1 σ)) = true
theorem NB.rf : NB T W Z k S S := fun N _ h => Or.inl h
theorem NB.tr (h : NB T W Z k S S1) (g : NB T W Z k S1 S2) : NB T W Z k S S2 := fun N hN q => by
  rcases g N hN q with q | q
  · exact h N hN q
  · exact Or.inr q
theorem lo_sub {a b : Int32} {m : Nat} (h : lo m b) (hs : ∀ i, i < 32 → tb a i = true → tb b i = true) : lo m a := fun i q1 q2 => by
  cases q : tb a i with
  | false => rfl
  | true =>
    have := hs i q2 q
    rw [h i q1 q2] at this
    cases this
theorem RK_lo (hz : WZ T Z) {σ : Int32 × Int32} (h : RK T W Z k σ) : lo (ct T 0) σ.1 ∧ lo (ct T 0) σ.2 ∧ ∀ i, i < 32 → tb σ.2 i = true → tb σ.1 i = true := by
  have hv := VS_RK k σ h
  have h1 : lo (ct T 0) σ.1 := lo_sub hz.1 hv.1
  exact ⟨h1, lo_sub h1 hv.2, hv.2⟩
theorem RK_ix (hw : WF T W V) (hz : WZ T Z) {σ : Int32 × Int32} (h : RK T W Z k σ) : ix σ < 59072 := by
  have hn := hw.b
  obtain ⟨h1, h2, h3⟩ := RK_lo hz h
  exact Nat.lt_of_lt_of_le (ix_lt (lo_mo h1 (by omega)) (lo_mo h2 (by omega))) (by decide)
theorem RK_inj (hw : WF T W V) (hz : WZ T Z) {j : Nat} {σ τ : Int32 × Int32} (h : RK T W Z k σ) (g : RK T W Z j τ) (e : ix σ = ix τ) : σ = τ := by
  have hn := hw.b
  obtain ⟨h1, h2, h3⟩ := RK_lo hz h
  obtain ⟨g1, g2, g3⟩ := RK_lo hz g
  exact ix_inj (lo_mo h1 (by omega)) (lo_mo h2 (by omega)) h3 (lo_mo g1 (by omega)) (lo_mo g2 (by omega)) g3 e
theorem RK_nx {σ : Int32 × Int32} (h : RK T W Z k σ) {y : Int32 × Int32 × Int32} (hy : y ∈ GL T W Z) : RK T W Z (k + 1) (nxC T y.1 y.2.1 σ) := Or.inr ⟨σ, y, h, hy, rfl⟩
theorem PD.mo (hw : WF T W V) (hz : WZ T Z) {N : Nat} (h : PD T W Z k S N) (f : SR nx S S') : PD T W Z k S' N := fun σ h1 h2 y hy => ⟨(h σ h1 h2 y hy).1, (f.2 _ (RK_ix hw hz (RK_nx h1 hy))).1 (h σ h1 h2 y hy).2⟩
theorem sq_in (hw : WF T W V) (hz : WZ T Z) (k2 : Nat → Int32 → St → Re Int32) {w : Nat} (hw9 : w < 923) : ∀ (j b m : Nat) (x : Int64) (S : St), SC T W V L v Z fr nx S → (∀ N, N < 59072 → bJ S fr N = true → ∃ σ, RK T W Z k σ ∧ ix σ = N) → (∀ i, i < 64 → tbJ x i = (decide (b + i < 64) && bJ S fr (64 * w + (b + i)))) → b + j = 64 → j < m → ∃ S', (o_se_spread_21 k2 m v (nI w) x (nI b) S = some (1, S') ∧ SR nx S S' ∧ DK T W Z (k + 1)) ∨ (o_se_spread_21 k2 m v (nI w) x (nI b) S = o_se_spread_69 k2 v (nI w) S' ∧ SR nx S S' ∧ NB T W Z k S S' ∧ ∀ i, b ≤ i → i < 64 → bJ S fr (64 * w + i) = true → PD T W Z k S' (64 * w + i))
  | 0, b, m, x, S, hS, hfr, hx, hb, hm => by
    obtain ⟨m, rfl, hm⟩ := fuel hm
    obtain rfl : b = 64 := by omega
    refine ⟨S, Or.inr ⟨?_, SR.rf, NB.rf, fun i h1 h2 => absurd h1 (by omega)⟩⟩
    rw [o_se_spread_21, if_neg (by decide)]
  | j + 1, b, m, x, S, hS, hfr, hx, hb, hm => by
    obtain ⟨m, rfl, hm⟩ := fuel hm
    have hb64 : b < 64 := by omega
    have hx0 : tbJ x 0 = bJ S fr (64 * w + b) := by
      rw [hx 0 (by decide), Nat.add_zero, decide_eq_true hb64, Bool.true_and]
    have hfn : fr ≠ 12 ∧ fr ≠ nx := by
      have := hS.ne
      omega
    have go : ∀ S1, SR nx S S1 → NB T W Z k S S1 → (bJ S fr (64 * w + b) = true → PD T W Z k S1 (64 * w + b)) → ∃ S', (o_se_spread_59 (o_se_spread_21 k2 m) v (nI w) x (nI b) S1 = some (1, S') ∧ SR nx S S' ∧ DK T W Z (k + 1)) ∨ (o_se_spread_59 (o_se_spread_21 k2 m) v (nI w) x (nI b) S1 = o_se_spread_69 k2 v (nI w) S' ∧ SR nx S S' ∧ NB T W Z k S S' ∧ ∀ i, b ≤ i → i < 64 → bJ S fr (64 * w + i) = true → PD T W Z k S' (64 * w + i)) := by
      intro S1 f1 n1 p1
      have hbf : ∀ N, bJ S1 fr N = bJ S fr N := fun N => bJ_fr f1.1 (fun k => fJn_n hfn.1 hfn.2) N
      obtain ⟨S', h⟩ := sq_in hw hz k2 hw9 j (b + 1) m ((x.toUInt64 >>> ((1 : Int32).toInt64.toUInt64 &&& Int64.toUInt64 63)).toInt64) S1 (hS.sr f1) (fun N hN q => hfr N hN (by rw [← hbf]; exact q)) (fun i hi => by
        rw [tbJ_shr, hbf]
        by_cases q : i + 1 < 64
        · rw [hx (i + 1) q, show b + (i + 1) = b + 1 + i by omega]
        · have : tbJ x (i + 1) = false := by
            unfold tbJ
            exact BitVec.getLsbD_of_ge _ _ (by omega)
          rw [this, decide_eq_false (by omega)]
          rfl) (by omega) (by omega)
      unfold o_se_spread_59
      rw [ltq, ltq, nI_1]
      rcases h with ⟨e1, e2, e3⟩ | ⟨e1, e2, e3, e4⟩
      · exact ⟨S', Or.inl ⟨e1, f1.tr e2, e3⟩⟩
      · refine ⟨S', Or.inr ⟨e1, f1.tr e2, n1.tr e3, fun i h1 h2 h3 => ?_⟩⟩
        by_cases q : i = b
        · rw [q] at h3 ⊢
          exact (p1 h3).mo hw hz e2
        · exact e4 i (by omega) h2 (by rw [hbf]; exact h3)
    rw [o_se_spread_21, if_pos (show nI b < 64 from nI_lt (b := 64) hb64 (by decide))]
    by_cases q0 : lg_cmp x 0 = 0
    · rw [if_pos q0]
      refine ⟨S, Or.inr ⟨rfl, SR.rf, NB.rf, fun i h1 h2 h3 => ?_⟩⟩
      rw [lg_cmp_eq] at q0
      have := hx (i - b) (by omega)
      rw [q0, tbJ_z, show b + (i - b) = i by omega, decide_eq_true h2, Bool.true_and, h3] at this
      cases this
    · rw [if_neg q0]
      by_cases q1 : lg_cmp (x &&& (1 : Int64)) (0 : Int64) = 0
      · rw [if_pos q1]
        rw [tbJ_one, hx0] at q1
        exact go S SR.rf NB.rf (fun h => by rw [q1] at h; cases h)
      · have hb1 : bJ S fr (64 * w + b) = true := by
          cases q : bJ S fr (64 * w + b) with
          | true => rfl
          | false => exact absurd ((tbJ_one x).mpr (hx0.trans q)) q1
        obtain ⟨σ, s1, s2⟩ := hfr _ (by omega) hb1
        obtain ⟨l1, l2, l3⟩ := RK_lo hz s1
        obtain ⟨r, S1, e1, e2, e3, e4, e5⟩ := fellsAll_ok hw l1 l3 hS
        rw [if_neg q1, show (64 : Int32) * nI w + nI b = nI (64 * w + b) by rw [show (64 : Int32) = nI 64 from rfl, nI_mul, nI_add], ← s2, e1, bnq]
        cases r with
        | true =>
          rw [if_neg bT]
          obtain ⟨y, y1, y2⟩ := e3 rfl
          exact ⟨S1, Or.inl ⟨rfl, e2, nxC T y.1 y.2.1 σ, RK_nx s1 y1, y2⟩⟩
        | false =>
          rw [if_pos bF]
          refine go S1 e2 (fun N hN h => ?_) (fun _ τ t1 t2 y hy => ?_)
          · rcases e5 N hN h with h | ⟨y, y1, y2⟩
            · exact Or.inl h
            · exact Or.inr ⟨σ, y, s1, y1, y2⟩
          · have : τ = σ := RK_inj hw hz t1 s1 (by rw [t2, s2])
            rw [this]
            exact e4 rfl y hy
theorem sq_out (hw : WF T W V) (hz : WZ T Z) : ∀ (j w m : Nat) (S : St), SC T W V L v Z fr nx S → (∀ N, N < 59072 → bJ S fr N = true → ∃ σ, RK T W Z k σ ∧ ix σ = N) → w + j = 923 → j < m → ∃ r S', o_se_spread_2 m v (nI w) S = some (bI r, S') ∧ SR nx S S' ∧ (r = true → DK T W Z (k + 1)) ∧ (r = false → NB T W Z k S S' ∧ ∀ N, 64 * w ≤ N → N < 59072 → bJ S fr N = true → PD T W Z k S' N)
  | 0, w, m, S, hS, hfr, hj, hm => by
    obtain ⟨m, rfl, hm⟩ := fuel hm
    obtain rfl : w = 923 := by omega
    refine ⟨false, S, ?_, SR.rf, fun h => (by cases h), fun _ => ⟨NB.rf, fun N h1 h2 => absurd h1 (by omega)⟩⟩
    rw [o_se_spread_2, oq2 hS.2.2.2.1, hS.k.2, if_pos (k4r _), if_neg (by decide)]
    rfl
  | j + 1, w, m, S, hS, hfr, hj, hm => by
    obtain ⟨m, rfl, hm⟩ := fuel hm
    have hw9 : w < 923 := by omega
    have hfn : fr ≠ 12 ∧ fr ≠ nx := by
      have := hS.ne
      omega
    obtain ⟨S1, h⟩ := sq_in hw hz (o_se_spread_2 m) hw9 64 0 FU (rJ S fr w) S hS hfr (fun i hi => by
      rw [Nat.zero_add, decide_eq_true hi, Bool.true_and]
      unfold bJ
      rw [show (64 * w + i) / 64 = w by omega, show (64 * w + i) % 64 = i by omega]) rfl (by unfold FU; omega)
    have hst : o_se_spread_2 (m + 1) v (nI w) S = o_se_spread_21 (o_se_spread_2 m) FU v (nI w) (rJ S fr w) 0 S := by
      rw [o_se_spread_2, oq2 hS.2.2.2.1, hS.k.2, if_pos (k4r _), if_pos (show nI w < Int32.ofNat ((4, 923) : Nat × Nat).2 from nI_lt (b := 923) hw9 (by decide)), oq2 hS.2.2.2.1, hS.k.2, if_pos (k4e _), if_neg (nI_in (show w < ((4, 923) : Nat × Nat).2 from hw9) (by decide)), nI_clamp (by omega), ltq]
    rw [hst]
    rcases h with ⟨e1, e2, e3⟩ | ⟨e1, e2, e3, e4⟩
    · exact ⟨true, S1, e1, e2, fun _ => e3, fun h => by cases h⟩
    · have hbf : ∀ N, bJ S1 fr N = bJ S fr N := fun N => bJ_fr e2.1 (fun k => fJn_n hfn.1 hfn.2) N
      obtain ⟨r, S', g1, g2, g3, g4⟩ := sq_out hw hz j (w + 1) m S1 (hS.sr e2) (fun N hN q => hfr N hN (by rw [← hbf]; exact q)) (by omega) (by omega)
      refine ⟨r, S', ?_, e2.tr g2, g3, fun hr => ⟨e3.tr (g4 hr).1, fun N h1 h2 h3 => ?_⟩⟩
      · rw [(show o_se_spread_21 (o_se_spread_2 m) FU v (nI w) (rJ S fr w) 0 S = _ from e1)]
        unfold o_se_spread_69
        rw [ltq, nI_1]
        exact g1
      · by_cases q : 64 * (w + 1) ≤ N
        · exact (g4 hr).2 N q h2 (by rw [hbf]; exact h3)
        · have := e4 (N - 64 * w) (Nat.zero_le _) (by omega)
          rw [show 64 * w + (N - 64 * w) = N by omega] at this
          exact (this h3).mo hw hz g2
theorem spread_ok (hw : WF T W V) (hz : WZ T Z) (hS : SC T W V L v Z fr nx S) (hfr : ∀ N, N < 59072 → bJ S fr N = true → ∃ σ, RK T W Z k σ ∧ ix σ = N) : ∃ r S', o_se_spread v S = some (bI r, S') ∧ SR nx S S' ∧ (r = true → DK T W Z (k + 1)) ∧ (r = false → NB T W Z k S S' ∧ ∀ N, N < 59072 → bJ S fr N = true → PD T W Z k S' N) := by
  obtain ⟨r, S', e1, e2, e3, e4⟩ := sq_out hw hz 923 0 FU S hS hfr (Nat.zero_add _) (by unfold FU; omega)
  exact ⟨r, S', e1, e2, e3, fun h => ⟨(e4 h).1, fun N h1 h2 => (e4 h).2 N (by omega) h1 h2⟩⟩
/-- at a level's beginning: just what is reached is met; what is not next has been gone through -/
def LI (T : St) (W : Nat → List Nat) (Z : Nat → Int32) (g k : Nat) (S : St) : Prop := (∀ N, N < 59072 → (bJ S 12 N = true ↔ ∃ σ, RK T W Z k σ ∧ ix σ = N)) ∧ (∀ N, N < 59072 → bJ S g N = true → bJ S 12 N = true) ∧ (∀ σ, RK T W Z k σ → bJ S g (ix σ) = false → ∀ y, y ∈ GL T W Z → RK T W Z k (nxC T y.1 y.2.1 σ)) ∧ ¬ DK T W Z k
def fFt : Nat → Nat → Bool := fun a k => (decide (12 ≤ a) && decide (a ≤ 14)) || (a == 5 && (k == 7 || k == 8))
theorem fFt_J {a k : Nat} (hn : nx = 13 ∨ nx = 14) (h : fFt a k = false) : fJn nx a k = false := by
  unfold fFt at h
  unfold fJn
  simp at h ⊢
  omega
theorem fFt_e {a k b : Nat} (hb : 12 ≤ b ∧ b ≤ 14) (h : fFt a k = false) : (a == b) = false := by
  unfold fFt at h
  simp at h ⊢
  omega
theorem DK_mo {j : Nat} (h : k ≤ j) (hd : DK T W Z k) : DK T W Z j := by
  obtain ⟨σ, h1, h2⟩ := hd
  exact ⟨σ, RK_mo h h1, h2⟩
theorem fwn_loop (hw : WF T W V) (hz : WZ T Z) : ∀ (j k m fr nx : Nat) (S : St), SC T W V L v Z fr nx S → LI T W Z nx k S → k + j = 4 → j < m → ∃ x S', o_se_fewest_54 m v (nI (k + 1)) S = some (x, S') ∧ FAns (DK T W Z) x ∧ Fr fFt S S' ∧ ∃ fr' nx', SC T W V L v Z fr' nx' S'
  | 0, k, m, fr, nx, S, hS, hL, hk, hm => by
    obtain ⟨m, rfl, hm⟩ := fuel hm
    obtain rfl : k = 4 := by omega
    refine ⟨-1, S, ?_, Or.inr ⟨fun j hj hd => hL.2.2.2 (DK_mo hj hd), rfl⟩, Fr.rf, fr, nx, hS⟩
    rw [o_se_fewest_54, if_pos (by decide)]
    rfl
  | j + 1, k, m, fr, nx, S, hS, hL, hk, hm => by
    obtain ⟨m, rfl, hm⟩ := fuel hm
    have hx := hS.ne
    obtain ⟨kn, kf⟩ := hS.k
    rw [o_se_fewest_54, if_neg (show ¬ (4 : Int32) < nI (k + 1) from nI_nlt (a := 4) (by omega) (by decide)), oq2 hS.2.2.2.1, oq2 hS.2.2.2.2.1, ltq (wQ S 5 7 (some nx)), ltq (wQ (wQ S 5 7 (some nx)) 5 8 (some fr)), oq2 (show rQ (wQ (wQ S 5 7 (some nx)) 5 8 (some fr)) 5 8 = some fr from rQ_wQ)]
    obtain ⟨S7, a1, a2, a3⟩ := fillJ_ok kf (wQ (wQ S 5 7 (some nx)) 5 8 (some fr))
    have fq : Fr (fun a k => a == 5 && (k == 7 || k == 8)) S (wQ (wQ S 5 7 (some nx)) 5 8 (some fr)) := (Fr.wQ rfl).tr (Fr.wQ rfl)
    have hS7 : SC T W V L v Z nx fr S7 := by
      have e1 : SC T W V L v Z nx fr (wQ (wQ S 5 7 (some nx)) 5 8 (some fr)) := ⟨hS.1.fr fq (fun a k q => by unfold ton at q; simp; omega), hS.2.1, hS.2.2.1, by rw [rQ_wQ_k (by decide), rQ_wQ], rQ_wQ, by have := hS.2.2.2.2.2; omega⟩
      exact e1.frw a3 fun a k q => beq_eq_false_iff_ne.mpr (by omega)
    have b12 : ∀ N, bJ S7 12 N = bJ S 12 N := fun N => bJ_fr (a := 12) a3 (fun k => beq_eq_false_iff_ne.mpr (by omega)) N
    have bnx : ∀ N, bJ S7 nx N = bJ S nx N := fun N => bJ_fr (a := nx) a3 (fun k => beq_eq_false_iff_ne.mpr (by omega)) N
    have bfr : ∀ N, N < 59072 → bJ S7 fr N = false := fun N hN => by
      unfold bJ
      rw [a2 _ (by omega), tbJ_z]
    obtain ⟨r, S9, c1', c2', c3', c4'⟩ := spread_ok (k := k) hw hz hS7 (fun N hN q => by rw [bnx] at q; exact (hL.1 N hN).mp (hL.2.1 N hN q))
    have f9 : Fr fFt S S9 := ((fq.mo fun a k q => (Bool.or_eq_false_iff.mp q).2).tr (a3.mo fun a k q => fFt_e (by omega) q)).tr (c2'.1.mo fun a k q => fFt_J (by omega) q)
    have hS9 : SC T W V L v Z nx fr S9 := hS7.sr c2'
    rw [a1, bnq, c1', bnq]
    cases r with
    | true =>
      rw [if_neg bT]
      exact ⟨_, S9, rfl, Or.inl ⟨k + 1, by omega, c3' rfl, fun i hi hd => hL.2.2.2 (DK_mo (by omega) hd), rfl⟩, f9, nx, fr, hS9⟩
    | false =>
      rw [if_pos bF, ltq, nI_1]
      obtain ⟨nb, pd⟩ := c4' rfl
      have mono : ∀ N, N < 59072 → bJ S 12 N = true → bJ S9 12 N = true := fun N hN q => (c2'.2 N hN).1 (by rw [b12]; exact q)
      have succ : ∀ σ, RK T W Z k σ → ∀ y, y ∈ GL T W Z → ¬ (nxC T y.1 y.2.1 σ).1 = 0 ∧ bJ S9 12 (ix (nxC T y.1 y.2.1 σ)) = true := fun σ hσ y hy => by
        cases q : bJ S nx (ix σ) with
        | true => exact pd (ix σ) (RK_ix hw hz hσ) (by rw [bnx]; exact q) σ hσ rfl y hy
        | false =>
          have h1 := hL.2.2.1 σ hσ q y hy
          exact ⟨fun h0 => hL.2.2.2 ⟨_, h1, h0⟩, mono _ (RK_ix hw hz h1) ((hL.1 _ (RK_ix hw hz h1)).mpr ⟨_, h1, rfl⟩)⟩
      have hL9 : LI T W Z fr (k + 1) S9 := by
        refine ⟨fun N hN => ⟨fun q => ?_, ?_⟩, fun N hN q => ?_, fun σ hσ q y hy => ?_, ?_⟩
        · rcases nb N hN q with q | ⟨σ, y, h1, h2, h3⟩
          · rw [b12] at q
            obtain ⟨σ, h1, h2⟩ := (hL.1 N hN).mp q
            exact ⟨σ, Or.inl h1, h2⟩
          · exact ⟨_, RK_nx h1 h2, h3.symm⟩
        · rintro ⟨σ, h1, h2⟩
          rcases h1 with h1 | ⟨τ, y, h3, h4, rfl⟩
          · exact mono N hN ((hL.1 N hN).mpr ⟨σ, h1, h2⟩)
          · rw [← h2]
            exact (succ τ h3 y h4).2
        · rw [(c2'.2 N hN).2, bfr N hN, Bool.false_or, Bool.and_eq_true] at q
          exact q.1
        · have hN := RK_ix hw hz hσ
          have hm9 : bJ S9 12 (ix σ) = true := by
            rcases hσ with h1 | ⟨τ, y, h3, h4, rfl⟩
            · exact mono _ hN ((hL.1 _ hN).mpr ⟨σ, h1, rfl⟩)
            · exact (succ τ h3 y h4).2
          rw [(c2'.2 _ hN).2, bfr _ hN, Bool.false_or, hm9, Bool.true_and, Bool.not_eq_false', b12] at q
          obtain ⟨τ, t1, t2⟩ := (hL.1 _ hN).mp q
          have : σ = τ := RK_inj hw hz hσ t1 t2.symm
          rw [this]
          exact RK_nx t1 hy
        · rintro ⟨σ, h1, h2⟩
          rcases h1 with h1 | ⟨τ, y, h3, h4, rfl⟩
          · exact hL.2.2.2 ⟨σ, h1, h2⟩
          · exact (succ τ h3 y h4).1 h2
      obtain ⟨x, S', g1, g2, g3, g4⟩ := fwn_loop hw hz j (k + 1) m nx fr S9 hS9 hL9 (by omega) (by omega)
      exact ⟨x, S', g1, g2, f9.tr g3, g4⟩
theorem fewest_ok (hw : WF T W V) (hz : WZ T Z) (hT : TD v T W V L S) (hs : SD 200 Z (ct T 0) S) (hth : ∀ k, k < 1024 → rI S 11 k = nI (thN k)) (hfn : (rQ S 5 7 = some 13 ∧ rQ S 5 8 = some 14) ∨ (rQ S 5 7 = some 14 ∧ rQ S 5 8 = some 13)) : ∃ x S', o_se_fewest v 200 S = some (x, S') ∧ FAns (DK T W Z) x ∧ Fr (fun a k => fGa a k || fFt a k) S S' ∧ ((rQ S' 5 7 = some 13 ∧ rQ S' 5 8 = some 14) ∨ (rQ S' 5 7 = some 14 ∧ rQ S' 5 8 = some 13)) := by
  have hn := hw.b
  have e0 : rI S 200 1 &&& (rI S v 16 ^^^ (-1)) = Z 0 &&& ndf T := by rw [hs.2.1, hT.so.2.2]; rfl
  unfold o_se_fewest
  rw [if_pos hs.1.1, if_pos hT.k, e0, ltq]
  by_cases q : Z 0 &&& ndf T = 0
  · rw [if_pos q]
    exact ⟨0, S, rfl, Or.inl ⟨0, by omega, ⟨_, rfl, q⟩, fun j hj => absurd hj (Nat.not_lt_zero _), rfl⟩, Fr.rf, hfn⟩
  · rw [if_neg q]
    obtain ⟨S5, a1, a2, a3⟩ := gather_ok hw hz hT hs
    obtain ⟨fr, nx, hfx, h7, h8⟩ : ∃ fr nx, ((fr = 13 ∧ nx = 14) ∨ (fr = 14 ∧ nx = 13)) ∧ rQ S 5 7 = some fr ∧ rQ S 5 8 = some nx := by
      rcases hfn with ⟨h1, h2⟩ | ⟨h1, h2⟩
      · exact ⟨13, 14, Or.inl ⟨rfl, rfl⟩, h1, h2⟩
      · exact ⟨14, 13, Or.inr ⟨rfl, rfl⟩, h1, h2⟩
    have hS5 : SC T W V L v Z fr nx S5 := ⟨hT.fr a3 fun a k q => by unfold ton at q; exact fGa_n (by omega) (by omega), a2, fun k hk => (a3.i (fGa_n (by decide) (by decide))).trans (hth k hk), (a3.q (by rfl)).trans h7, (a3.q (by rfl)).trans h8, hfx⟩
    obtain ⟨kn, kf⟩ := hS5.k
    obtain ⟨S7, b1', b2, b3⟩ := fillJ_ok (a := 12) rfl S5
    have hS7 : SC T W V L v Z fr nx S7 := hS5.frw b3 fun a k q => beq_eq_false_iff_ne.mpr (by omega)
    obtain ⟨S10, c1', c2', c3'⟩ := fillJ_ok kn S7
    have hS10 : SC T W V L v Z fr nx S10 := hS7.frw c3' fun a k q => beq_eq_false_iff_ne.mpr (by omega)
    have hl1 : lo 10 (Z 0 &&& ndf T) := lo_mo (lo_and hz.1) (by omega)
    have hl2 : lo 10 (Z 1 &&& (Z 0 &&& ndf T)) := lo_mo (lo_and hz.2.1) (by omega)
    obtain ⟨S12, d1, d2, d3⟩ := meet_ok hS10 hl1 hl2
    have hS12 := hS10.sr d2
    have hs10 : rI S10 200 2 = Z 1 := by
      rw [c3'.i (beq_eq_false_iff_ne.mpr (by omega)), b3.i (beq_eq_false_iff_ne.mpr (by omega)), a3.i (fGa_n (by decide) (by decide))]
      exact hs.2.2.1
    have z12 : ∀ N, N < 59072 → bJ S10 12 N = false := fun N hN => by
      rw [bJ_fr (a := 12) c3' (fun k => beq_eq_false_iff_ne.mpr (by omega)) N]
      unfold bJ
      rw [b2 _ (by omega), tbJ_z]
    have znx : ∀ N, N < 59072 → bJ S10 nx N = false := fun N hN => by
      unfold bJ
      rw [c2' _ (by omega), tbJ_z]
    have hR0 : ∀ σ, RK T W Z 0 σ ↔ σ = (Z 0 &&& ndf T, Z 1 &&& (Z 0 &&& ndf T)) := fun σ => Iff.rfl
    have hL0 : LI T W Z nx 0 S12 := by
      refine ⟨fun N hN => ?_, fun N hN h => ?_, fun σ hσ h => ?_, ?_⟩
      · rw [d3 N hN, z12 N hN, Bool.false_or, decide_eq_true_eq]
        constructor
        · intro h
          exact ⟨_, rfl, h.symm⟩
        · rintro ⟨σ, h1, h2⟩
          rw [hR0] at h1
          rw [← h2, h1]
      · rw [(d2.2 N hN).2, znx N hN, Bool.false_or, Bool.and_eq_true] at h
        exact h.1
      · exfalso
        have hN := RK_ix hw hz hσ
        rw [hR0] at hσ
        rw [(d2.2 _ hN).2, znx _ hN, d3 _ hN, z12 _ hN, hσ, decide_eq_true rfl] at h
        cases h
      · rintro ⟨σ, h1, h2⟩
        rw [hR0] at h1
        rw [h1] at h2
        exact q h2
    obtain ⟨x, S', g1, g2, g3, fr', nx', hS'⟩ := fwn_loop hw hz 4 0 FU fr nx S12 hS12 hL0 rfl (by unfold FU; omega)
    refine ⟨x, S', ?_, g2, ?_, ?_⟩
    · rw [a1, bnq, b1', bnq, oq2 hS7.2.2.2.2.1, c1', bnq, hs10, d1, bnq]
      exact g1
    · have hx := hS5.ne
      have f1 : Fr fFt S5 S' := (((b3.mo fun a k q => fFt_e (by omega) q).tr (c3'.mo fun a k q => fFt_e (by omega) q)).tr (d2.1.mo fun a k q => fFt_J (by omega) q)).tr g3
      exact (a3.mo fun a k q => (Bool.or_eq_false_iff.mp q).1).tr (f1.mo fun a k q => (Bool.or_eq_false_iff.mp q).2)
    · obtain ⟨-, -, -, t7, t8, t⟩ := hS'
      rcases t with ⟨rfl, rfl⟩ | ⟨rfl, rfl⟩
      · exact Or.inl ⟨t7, t8⟩
      · exact Or.inr ⟨t7, t8⟩
end SPREAD
