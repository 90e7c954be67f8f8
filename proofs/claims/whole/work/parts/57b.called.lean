section CALLED
variable {T : St} {W V : Nat → List Nat} {L : Int32 → Int32 → Int32} {v d u a : Nat} {Z Z1 Z2 : Nat → Int32} {So So' Sm Sm' S : St}
def cfl (T : St) (Z : Nat → Int32) (x : Nat × Nat) : Int32 := cryF T Z x.2 (vN T 512 x.1) (vN T 513 x.1)
def cst (T : St) (Z : Nat → Int32) (kn th : Int32) (σ : Nat × Int32 × Int32 × (Nat → Int32)) (x : Nat × Nat) : Nat × Int32 × Int32 × (Nat → Int32) :=
  bif decide (cfl T Z x &&& kn = th) then (σ.1 + 1, σ.2.1 ||| ((1 : Int32) <<< (nI x.2 &&& 31)), σ.2.2.1 ||| ((1 : Int32) <<< (nI x.1 &&& 31)), fun i => σ.2.2.2 i + ((cfl T Z x >>> (nI i &&& 31)) &&& 1)) else σ
def TA (a : Nat) (t : Nat → Int32) (S : St) : Prop := ∀ i, i < 10 → rI S a i = t i
theorem o_tal (x : Int32) (t : Nat → Int32) : ∀ (j i m : Nat) (S : St), i + j = 10 → j < m → (∀ q, q < 10 → rI S 17 q = if q < i then t q + ((x >>> (nI q &&& 31)) &&& 1) else t q) → ∃ S', o_wasHeard_70 m x (nI i) S = some (1, S') ∧ TA 17 (fun q => t q + ((x >>> (nI q &&& 31)) &&& 1)) S' ∧ Fr (fun a _ => a == 17) S S'
  | 0, i, m, S, hi, hm, h => by
    obtain ⟨m, rfl, hm⟩ := fuel hm
    obtain rfl : i = 10 := by omega
    refine ⟨S, ?_, fun q hq => by rw [h q hq, if_pos hq], Fr.rf⟩
    rw [o_wasHeard_70, if_neg (by decide)]
    rfl
  | j + 1, i, m, S, hi, hm, h => by
    obtain ⟨m, rfl, hm⟩ := fuel hm
    obtain ⟨S', e1, e2, e3⟩ := o_tal x t j (i + 1) m (wI S 17 i (t i + ((x >>> (nI i &&& 31)) &&& 1))) (by omega) (by omega) (fun q hq => by
      by_cases q2 : q = i
      · subst q2
        rw [rI_wI, if_pos (by omega)]
      · rw [rI_wI_k q2, h q hq]
        by_cases q3 : q < i
        · rw [if_pos q3, if_pos (by omega)]
        · rw [if_neg q3, if_neg (by omega)])
    refine ⟨S', ?_, e2, (Fr.wI rfl).tr e3⟩
    rw [o_wasHeard_70, if_pos (show nI i < 10 from nI_lt (b := 10) (by omega) (by decide)), if_neg (nI_in (by omega) (by omega)), nI_clamp (by omega), if_neg (nI_inC (by omega) (by omega)), h i (by omega), if_neg (Nat.lt_irrefl i), ltq, ltq, nI_1]
    exact e1
theorem m_tal (k54 : Int32 → Int32 → Int32 → Int32 → Int32 → St → Re Int32) (w n s q y : Int32) (x : Int32) (t : Nat → Int32) : ∀ (j i m : Nat) (S : St), i + j = 10 → j < m → (∀ q, q < 10 → rI S 564 q = if q < i then t q + ((x >>> (nI q &&& 31)) &&& 1) else t q) → ∃ S', m_called_154 k54 m w n s q y x (nI i) S = m_called_184 k54 w n s q y S' ∧ TA 564 (fun q => t q + ((x >>> (nI q &&& 31)) &&& 1)) S' ∧ Fr (fun a _ => a == 564) S S'
  | 0, i, m, S, hi, hm, h => by
    obtain ⟨m, rfl, hm⟩ := fuel hm
    obtain rfl : i = 10 := by omega
    refine ⟨S, ?_, fun q hq => by rw [h q hq, if_pos hq], Fr.rf⟩
    rw [m_called_154, if_neg (by decide)]
  | j + 1, i, m, S, hi, hm, h => by
    obtain ⟨m, rfl, hm⟩ := fuel hm
    obtain ⟨S', e1, e2, e3⟩ := m_tal k54 w n s q y x t j (i + 1) m (wI S 564 i (t i + ((x >>> (nI i &&& 31)) &&& 1))) (by omega) (by omega) (fun q hq => by
      by_cases q2 : q = i
      · subst q2
        rw [rI_wI, if_pos (by omega)]
      · rw [rI_wI_k q2, h q hq]
        by_cases q3 : q < i
        · rw [if_pos q3, if_pos (by omega)]
        · rw [if_neg q3, if_neg (by omega)])
    refine ⟨S', ?_, e2, (Fr.wI rfl).tr e3⟩
    rw [m_called_154, if_pos (show nI i < 10 from nI_lt (b := 10) (by omega) (by decide)), if_neg (nI_in (by omega) (by omega)), nI_clamp (by omega), if_neg (nI_inC (by omega) (by omega)), h i (by omega), if_neg (Nat.lt_irrefl i), ltq, ltq, nI_1]
    exact e1
def fr17 : Nat → Nat → Bool := fun x _ => x == 17
theorem fr17_n {x k : Nat} (h : x ≠ 17) : fr17 x k = false := beq_eq_false_iff_ne.mpr h
/-- what the class needs while it counts -/
def CS (T : St) (W V : Nat → List Nat) (L : Int32 → Int32 → Int32) (v : Nat) (Z : Nat → Int32) (kn th : Int32) (S : St) : Prop := rQ S 1 9 = some v ∧ TD v T W V L S ∧ SD 200 Z (ct T 0) S ∧ rI S 70 3 = kn ∧ rI S 70 4 = th
theorem CS.fr {kn th : Int32} (h : CS T W V L v Z kn th S) (f : Fr fr17 S So) : CS T W V L v Z kn th So := ⟨(f.q (fr17_n (by decide))).trans h.1, h.2.1.fr f (fun a k q => by unfold ton at q; exact fr17_n (by omega)), h.2.2.1.frw f (fun k => fr17_n (by decide)) (fun k => fr17_n (by decide)), (f.i (fr17_n (by decide))).trans h.2.2.2.1, (f.i (fr17_n (by decide))).trans h.2.2.2.2⟩
theorem o_cl_in (hw : WF T W V) (hz : WZ T Z) {p : Nat} (hp : p < ct T 2) {kn th : Int32} (k29 : Int32 → Int32 → Int32 → Int32 → Int32 → St → Re Int32) (w : Int32) : ∀ (j k m : Nat) (σ : Nat × Int32 × Int32 × (Nat → Int32)) (S : St), CS T W V L v Z kn th S → TA 17 σ.2.2.2 S → k + j = ct T 1 → j < m → ∃ S', o_called_47 k29 m w (nI σ.1) σ.2.1 σ.2.2.1 (nI p) (nI k) S = o_called_98 k29 w (nI ((rowL T W p k j).foldl (cst T Z kn th) σ).1) ((rowL T W p k j).foldl (cst T Z kn th) σ).2.1 ((rowL T W p k j).foldl (cst T Z kn th) σ).2.2.1 (nI p) S' ∧ TA 17 ((rowL T W p k j).foldl (cst T Z kn th) σ).2.2.2 S' ∧ Fr fr17 S S'
  | 0, k, m, σ, S, hc, ht, hk, hm => by
    have hn := hw.b
    obtain ⟨m, rfl, hm⟩ := fuel hm
    rw [Nat.add_zero] at hk
    subst hk
    refine ⟨S, ?_, ht, Fr.rf⟩
    rw [o_called_47, oq2 hc.1, if_pos hc.2.1.k, if_pos hc.2.1.sn.1, na_size hc.2.1.sn, bnq, if_neg (nI_nlt (Nat.le_refl _) (by omega))]
    rfl
  | j + 1, k, m, σ, S, hc, ht, hk, hm => by
    have hn := hw.b
    obtain ⟨m, rfl, hm⟩ := fuel hm
    have hpe := hw.pe hp
    have hkl : k < ct T 1 := by omega
    have ecay : cayB T W (nI p) (nI k) = sayB T W p k := by
      unfold cayB
      rw [inN_nI (by omega) (by omega), inN_nI (by omega) (by omega), decide_eq_true hp, decide_eq_true hkl, nI_clamp (by omega), nI_clamp (by omega)]
      rfl
    have hf := sd_fallers (u := 200) hw hz hc.2.1 hc.2.2.1 hkl hpe.1.2 hpe.2.1.2
    have ef : cfl T Z (p, k) = cryF T Z k (vN T 512 p) (vN T 513 p) := rfl
    rw [o_called_47, oq2 hc.1, if_pos hc.2.1.k, if_pos hc.2.1.sn.1, na_size hc.2.1.sn, bnq, if_pos (nI_lt (by omega) (by omega)), rowL]
    unfold o_wasHeard o_called_92
    rw [oq2 hc.1, if_pos hc.2.1.k, to_canSay hw hc.2.1, bnq, ecay]
    cases hsay : sayB T W p k with
    | false =>
      obtain ⟨S', e1, e2, e3⟩ := o_cl_in hw hz hp k29 w j (k + 1) m σ S hc ht (by omega) (by omega)
      refine ⟨S', ?_, by rw [cond_false, List.nil_append]; exact e2, e3⟩
      rw [if_pos bF, bnq, if_pos rfl, ltq, nI_1, cond_false, List.nil_append]
      exact e1
    | true =>
      rw [if_neg bT, oq2 hc.1, oq2 hc.1, if_pos hc.2.1.k, to_laneOf hc.2.1 hp, bnq, oq2 hc.1, if_pos hc.2.1.k, to_loudOf hc.2.1 hp, bnq, hpe.1.1, hpe.2.1.1, hf, bnq, hc.2.2.2.1, hc.2.2.2.2, cond_true, List.singleton_append, List.foldl_cons]
      by_cases q : cryF T Z k (vN T 512 p) (vN T 513 p) &&& kn = th
      · obtain ⟨S1, a1, a2, a3⟩ := o_tal (cryF T Z k (vN T 512 p) (vN T 513 p)) σ.2.2.2 10 0 FU S rfl (by unfold FU; omega) (fun q hq => by rw [if_neg (Nat.not_lt_zero _)]; exact ht q hq)
        have es : cst T Z kn th σ (p, k) = (σ.1 + 1, σ.2.1 ||| ((1 : Int32) <<< (nI k &&& 31)), σ.2.2.1 ||| ((1 : Int32) <<< (nI p &&& 31)), fun i => σ.2.2.2 i + ((cryF T Z k (vN T 512 p) (vN T 513 p) >>> (nI i &&& 31)) &&& 1)) := by
          unfold cst
          rw [ef, decide_eq_true q]
          rfl
        obtain ⟨S', e1, e2, e3⟩ := o_cl_in hw hz hp k29 w j (k + 1) m (cst T Z kn th σ (p, k)) S1 (hc.fr a3) (by rw [es]; exact a2) (by omega) (by omega)
        refine ⟨S', ?_, e2, Fr.tr a3 e3⟩
        rw [if_pos q, (show o_wasHeard_70 FU _ 0 S = _ from a1), bnq, if_neg (by decide), ltq, ltq, ltq, ltq, nI_1, nI_1, ← e1, es]
      · have es : cst T Z kn th σ (p, k) = σ := by
          unfold cst
          rw [ef, decide_eq_false q]
          rfl
        obtain ⟨S', e1, e2, e3⟩ := o_cl_in hw hz hp k29 w j (k + 1) m σ S hc ht (by omega) (by omega)
        rw [es]
        refine ⟨S', ?_, e2, e3⟩
        rw [if_neg q, bnq, if_pos rfl, ltq, nI_1]
        exact e1
theorem o_cl_out (hw : WF T W V) (hz : WZ T Z) {kn th : Int32} (w : Int32) : ∀ (j p m : Nat) (σ : Nat × Int32 × Int32 × (Nat → Int32)) (S : St), CS T W V L v Z kn th S → TA 17 σ.2.2.2 S → p + j = ct T 2 → j < m → ∃ S', o_called_29 m w (nI σ.1) σ.2.1 σ.2.2.1 (nI p) S = o_called_104 w (nI ((allL T W p j).foldl (cst T Z kn th) σ).1) ((allL T W p j).foldl (cst T Z kn th) σ).2.1 ((allL T W p j).foldl (cst T Z kn th) σ).2.2.1 S' ∧ TA 17 ((allL T W p j).foldl (cst T Z kn th) σ).2.2.2 S' ∧ Fr fr17 S S'
  | 0, p, m, σ, S, hc, ht, hk, hm => by
    have hn := hw.b
    obtain ⟨m, rfl, hm⟩ := fuel hm
    rw [Nat.add_zero] at hk
    subst hk
    refine ⟨S, ?_, ht, Fr.rf⟩
    rw [o_called_29, oq2 hc.1, if_pos hc.2.1.k, if_pos hc.2.1.pe.k, tb_size hc.2.1.pe, bnq, if_neg (nI_nlt (Nat.le_refl _) (by omega))]
    rfl
  | j + 1, p, m, σ, S, hc, ht, hk, hm => by
    have hn := hw.b
    obtain ⟨m, rfl, hm⟩ := fuel hm
    obtain ⟨S1, a1, a2, a3⟩ := o_cl_in (V := V) (L := L) (v := v) hw hz (show p < ct T 2 by omega) (o_called_29 m) w (ct T 1) 0 FU σ S hc ht (Nat.zero_add _) (by unfold FU; omega)
    obtain ⟨S', e1, e2, e3⟩ := o_cl_out hw hz w j (p + 1) m ((rowL T W p 0 (ct T 1)).foldl (cst T Z kn th) σ) S1 (hc.fr a3) a2 (by omega) (by omega)
    refine ⟨S', ?_, by rw [allL, List.foldl_append]; exact e2, Fr.tr a3 e3⟩
    rw [o_called_29, oq2 hc.1, if_pos hc.2.1.k, if_pos hc.2.1.pe.k, tb_size hc.2.1.pe, bnq, if_pos (nI_lt (by omega) (by omega)), (show o_called_47 (o_called_29 m) FU w (nI σ.1) σ.2.1 σ.2.2.1 (nI p) 0 S = _ from a1), allL, List.foldl_append]
    unfold o_called_98
    rw [ltq, nI_1]
    exact e1
theorem getD_g (l : List (Nat × Nat)) {i : Nat} (h : i < l.length) : l.getD i (0, 0) = l[i] := by
  simp [List.getD_eq_getElem?_getD, h]
theorem drop_c (l : List (Nat × Nat)) {i : Nat} (h : i < l.length) : l.drop i = l.getD i (0, 0) :: l.drop (i + 1) := by
  rw [List.drop_eq_getElem_cons h, getD_g l h]
theorem dec16 {p k : Nat} (hp : p < 100) (hk : k < 16) : nI (16 * p + k) / 16 = nI p ∧ nI (16 * p + k) - nI (16 * p + k) / 16 * 16 = nI k := by
  have h1 : nI (16 * p + k) / 16 = nI p := by
    rw [show (16 : Int32) = nI 16 from rfl, nI_div (by omega) (by decide)]
    congr 1
    omega
  refine ⟨h1, ?_⟩
  rw [h1, show (16 : Int32) = nI 16 from rfl, nI_mul, nI_sub (by omega)]
  congr 1
  omega
def fCl : Nat → Nat → Bool := fun a k => a == 564 || frL a k
theorem fCl_n {a k : Nat} (h : a ≠ 564) (h2 : a ≠ 500 ∨ k ≠ 72) : fCl a k = false := by
  unfold fCl frL
  simp
  omega
theorem m_cl_loop (hw : WF T W V) {kn th : Int32} (w : Int32) {l : List (Nat × Nat)} (hlen : l.length ≤ 80) (hmem : ∀ x ∈ l, x.1 < ct T 2 ∧ x.2 < ct T 1) : ∀ (j i m : Nat) (σ : Nat × Int32 × Int32 × (Nat → Int32)) (S : St), OM T S → SM Z S → LC T Z l S → rI S 547 0 = kn → rI S 548 0 = th → TA 564 σ.2.2.2 S → i + j = l.length → j < m → ∃ S', m_called_54 m w (nI σ.1) σ.2.1 σ.2.2.1 (nI i) S = m_called_190 w (nI ((l.drop i).foldl (cst T Z kn th) σ).1) ((l.drop i).foldl (cst T Z kn th) σ).2.1 ((l.drop i).foldl (cst T Z kn th) σ).2.2.1 S' ∧ TA 564 ((l.drop i).foldl (cst T Z kn th) σ).2.2.2 S' ∧ Fr fCl S S'
  | 0, i, m, σ, S, hO, hS, hl, h7, h8, ht, hi, hm => by
    obtain ⟨m, rfl, hm⟩ := fuel hm
    rw [Nat.add_zero] at hi
    subst hi
    rw [List.drop_length]
    refine ⟨S, ?_, ht, Fr.rf⟩
    rw [m_called_54, hl.1, if_neg (nI_nlt (Nat.le_refl _) (by omega))]
    rfl
  | j + 1, i, m, σ, S, hO, hS, hl, h7, h8, ht, hi, hm => by
    have hn := hw.b
    obtain ⟨m, rfl, hm⟩ := fuel hm
    obtain ⟨r1, r2, r3⟩ := hl.2 i (by omega)
    have hx := hmem (l.getD i (0, 0)) (by rw [getD_g l (show i < l.length by omega)]; exact List.getElem_mem _)
    rw [drop_c l (show i < l.length by omega), List.foldl_cons]
    generalize l.getD i (0, 0) = x at r1 r2 r3 hx
    obtain ⟨p, k⟩ := x
    have hp : p < ct T 2 := hx.1
    have hk : k < ct T 1 := hx.2
    have r3 : rI S 560 i = nI (16 * p + k) := r3
    obtain ⟨d1, d2⟩ := dec16 (show p < 100 by omega) (show k < 16 by omega)
    obtain ⟨S1, a1, a2, a3⟩ := m_fallsBy_ok (S := S) hw hO (Z 0) (Z 1) (whM T Z k (vN T 512 p) (vN T 513 p)) (ecM T Z k (vN T 512 p) (vN T 513 p))
    have f1 : Fr fCl S S1 := a2.mo fun a k q => (Bool.or_eq_false_iff.mp q).2
    have ef : cfl T Z (p, k) = flA T (Z 0) (Z 1) (whM T Z k (vN T 512 p) (vN T 513 p)) (ecM T Z k (vN T 512 p) (vN T 513 p)) := rfl
    have g05b : ¬ ((0 : Int32) < 0 ∨ (5 : Nat) ≤ 0) := by decide
    have g1580 : ¬ ((0 : Int32) < 0 ∨ (15 : Nat) ≤ 0) := by decide
    rw [m_called_54, hl.1, if_pos (nI_lt (by omega) (by omega)), if_neg g0_15, if_neg g1_15, if_neg (nI_in (by omega) (by omega)), nI_clamp (by omega), if_neg (nI_inC (by omega) (by omega)), c0, c1, hS 0 (by decide), hS 1 (by decide), r1, r2, a1, bnq, if_neg g05b, if_neg g05b, a2.i (show frL 547 0 = false from rfl), a2.i (show frL 548 0 = false from rfl), h7, h8, a2.i (show frL 560 i = false from rfl), r3]
    by_cases q : flA T (Z 0) (Z 1) (whM T Z k (vN T 512 p) (vN T 513 p)) (ecM T Z k (vN T 512 p) (vN T 513 p)) &&& kn = th
    · have es : cst T Z kn th σ (p, k) = (σ.1 + 1, σ.2.1 ||| ((1 : Int32) <<< (nI k &&& 31)), σ.2.2.1 ||| ((1 : Int32) <<< (nI p &&& 31)), fun i => σ.2.2.2 i + ((flA T (Z 0) (Z 1) (whM T Z k (vN T 512 p) (vN T 513 p)) (ecM T Z k (vN T 512 p) (vN T 513 p)) >>> (nI i &&& 31)) &&& 1)) := by
        unfold cst
        rw [ef, decide_eq_true q]
        rfl
      obtain ⟨S2, b1', b2, b3⟩ := m_tal (m_called_54 m) w (nI (σ.1 + 1)) (σ.2.1 ||| ((1 : Int32) <<< (nI k &&& 31))) (σ.2.2.1 ||| ((1 : Int32) <<< (nI p &&& 31))) (nI i) (flA T (Z 0) (Z 1) (whM T Z k (vN T 512 p) (vN T 513 p)) (ecM T Z k (vN T 512 p) (vN T 513 p))) σ.2.2.2 10 0 FU S1 rfl (by unfold FU; omega) (fun q hq => by rw [if_neg (Nat.not_lt_zero _)]; exact (a2.i (show frL 564 q = false from rfl)).trans (ht q hq))
      have f2 : Fr fCl S S2 := f1.tr (b3.mo fun a k q => (Bool.or_eq_false_iff.mp q).1)
      obtain ⟨S', e1, e2, e3⟩ := m_cl_loop hw w hlen hmem j (i + 1) m (cst T Z kn th σ (p, k)) S2 (hO.fr f2 fun a k q => fCl_n (by omega) (by omega)) (hS.fr f2 fun k => rfl) (hl.fr f2 (by rfl) fun k => ⟨rfl, rfl, rfl⟩) ((f2.i (by rfl)).trans h7) ((f2.i (by rfl)).trans h8) (by rw [es]; exact b2) (by omega) (by omega)
      refine ⟨S', ?_, e2, f2.tr e3⟩
      rw [if_pos q, ltq, if_neg (nI_inC (by omega) (by omega)), d2, ltq, if_neg (nI_inC (by omega) (by omega)), d1, ltq, nI_1, (show m_called_154 (m_called_54 m) FU w _ _ _ (nI i) _ 0 S1 = _ from b1')]
      unfold m_called_184
      rw [ltq, nI_1, ← e1, es]
    · have es : cst T Z kn th σ (p, k) = σ := by
        unfold cst
        rw [ef, decide_eq_false q]
        rfl
      obtain ⟨S', e1, e2, e3⟩ := m_cl_loop hw w hlen hmem j (i + 1) m σ S1 (hO.fr f1 fun a k q => fCl_n (by omega) (by omega)) (hS.fr f1 fun k => rfl) (hl.fr f1 (by rfl) fun k => ⟨rfl, rfl, rfl⟩) ((f1.i (by rfl)).trans h7) ((f1.i (by rfl)).trans h8) (fun q hq => (a2.i (show frL 564 q = false from rfl)).trans (ht q hq)) (by omega) (by omega)
      rw [es]
      refine ⟨S', ?_, e2, f1.tr e3⟩
      rw [if_neg q]
      unfold m_called_184
      rw [ltq, nI_1]
      exact e1
end CALLED
