/-! Crop: the class's search, day by day. -/
section EXPLORE
variable {T : St} {W V : Nat → List Nat} {L : Int32 → Int32 → Int32} {v n : Nat} {Z : Nat → Int32} {So Sm S S' : St}
def fEx : Nat → Nat → Bool := fun a k => a == 5 && (k == 11 || k == 12)
theorem fEx_n {a k : Nat} (h : a ≠ 5) : fEx a k = false := by
  unfold fEx
  simp
  omega
def EX (T : St) (W V : Nat → List Nat) (L : Int32 → Int32 → Int32) (v : Nat) (Z : Nat → Int32) (n : Nat) (S : St) : Prop := TD v T W V L S ∧ GA (GL T W Z) S ∧ AQ T L (Z 2) n 0 S ∧ rI S 5 10 = nI n
theorem EX.fr (h : EX T W V L v Z n S) (f : Fr fEx S S') : EX T W V L v Z n S' := by
  obtain ⟨h1, ⟨h2, h3, h4⟩, h5, h6⟩ := h
  refine ⟨h1.fr f fun a k q => fEx_n (by unfold ton at q; omega), ⟨(f.i (by rfl)).trans h2, h3, fun i hi => ?_⟩, fun e a q1 q2 q3 => ?_, (f.i (by rfl)).trans h6⟩
  · rw [f.i (fEx_n (by decide)), f.i (fEx_n (by decide)), f.i (fEx_n (by decide))]
    exact h4 i hi
  · rw [f.i (fEx_n (by decide)), f.i (fEx_n (by decide))]
    exact h5 e a q1 q2 q3
def AC (acc : Int32 × Int32) (S : St) : Prop := rI S 5 11 = acc.1 ∧ rI S 5 12 = acc.2
theorem lo_flC {h s w e : Int32} (hl : lo (ct T 0) h) : lo (ct T 0) (flC T h s w e) := by
  unfold flC f0C
  exact lo_or (lo_and2 hl) (lo_and hl)
theorem aq_sum (hw : WF T W V) (hA : AQ T L (Z 2) n 0 S) {dd : Nat} (hd : dd < n) (x : Int32) : sm 10 (fun i => bif tb x i then rI S 9 (10 * dd + i) else 0) = vlS T L x (Z 2 + nI dd) ∧ sm 10 (fun i => bif tb x i then rI S 10 (10 * dd + i) else 0) = cel T L (Z 2) (n - dd) dd x := by
  have hn := hw.b
  constructor
  · rw [vls_avl (by omega)]
    exact sm_ext fun i hi => by
      show (bif tb x i then rI S 9 (10 * dd + i) else 0) = (bif tb x i then avl T L (Z 2) dd i else 0)
      rw [(hA dd i (Nat.zero_le _) hd hi).1]
  · unfold cel
    exact sm_ext fun i hi => by
      show (bif tb x i then rI S 10 (10 * dd + i) else 0) = (bif tb x i then ace T L (Z 2) (n - dd) dd i else 0)
      rw [(hA dd i (Nat.zero_le _) hd hi).2]
theorem vls_rg (hw : WF T W V) (hB : BL L) (x day : Int32) (dd : Nat) : rg 9990 (vlS T L x (day + nI dd)) := by
  have hn := hw.b
  rw [vls_avl (by omega)]
  exact sm_rg (c := 999) 10 (by decide) fun i hi => by
    cases tb x i
    · exact rg_0 _
    · exact avl_rg hw hB _ dd i
theorem ex_loop (hw : WF T W V) (hB : BL L) (hn3 : n ≤ 3) {r dd : Nat} (hd : dd + 1 + r = n) {b g h s : Int32} {ν : Int32 → Int32} (hν : (dd = 0 ∧ ν = fun x => x) ∨ (¬ dd = 0 ∧ ν = fun _ => b)) (hg : rg (9990 * dd) g) (hl : lo (ct T 0) h) (hh : ∀ i, i < 32 → tb h i = true → tb (Z 0) i = true) (rec : Nat → Int32 → Int32 → Int32 → Int32 → Int32 → St → Re Unit) (hrec : ∀ (h' s' g' b' : Int32) (acc : Int32 × Int32) (S : St), lo (ct T 0) h' → (∀ i, i < 32 → tb h' i = true → tb (Z 0) i = true) → (∀ i, i < 32 → tb s' i = true → tb h' i = true) → rg (9990 * (dd + 1)) g' → EX T W V L v Z n S → AC acc S → ∃ S', rec v (nI (dd + 1)) h' s' g' b' S = some ((), S') ∧ AC (upA (g' + gN T Z L (CL T W) r (dd + 1) h' s') b' acc) S' ∧ Fr fEx S S') : ∀ (c i m : Nat) (acc : Int32 × Int32) (S : St), EX T W V L v Z n S → AC acc S → i + c = (GL T W Z).length → c < m → ∃ S', o_se_explore_73 rec m v (nI dd) h s g b (nI i) S = some ((), S') ∧ AC (((GL T W Z).drop i).foldl (ecs T Z L (gN T Z L (CL T W) r (dd + 1)) dd ν h s g) acc) S' ∧ Fr fEx S S'
  | 0, i, m, acc, S, hE, hA, hi, hm => by
    obtain ⟨m, rfl, hm⟩ := fuel hm
    have h80 := hE.2.1.2.1
    rw [Nat.add_zero] at hi
    subst hi
    refine ⟨S, ?_, ?_, Fr.rf⟩
    · rw [o_se_explore_73, hE.2.1.1, if_neg (nI_nlt (Nat.le_refl _) (by omega))]
      rfl
    · rw [List.drop_length]
      exact hA
  | c + 1, i, m, acc, S, hE, hA, hi, hm => by
    obtain ⟨m, rfl, hm⟩ := fuel hm
    have hn := hw.b
    have h80 := hE.2.1.2.1
    have hT := hE.1
    obtain ⟨r1, r2, r3⟩ := hE.2.1.2.2 i (by omega)
    rw [t3_c (GL T W Z) (show i < (GL T W Z).length by omega), List.foldl_cons, o_se_explore_73, hE.2.1.1, if_pos (nI_lt (by omega) (by omega)), if_pos (show nI i < 80 from nI_lt (b := 80) (by omega) (by decide)), if_neg (nI_in (by omega) (by omega)), nI_clamp (by omega), if_neg (nI_inC (by omega) (by omega)), if_pos hT.k, r1, r2, to_felled hw hT hl, bnq, ltq, if_neg (nI_inC (by omega) (by omega)), r2, ltq]
    generalize (GL T W Z).getD i (0, 0, 0) = y at r1 r2 r3
    have stay : ∀ (acc' : Int32 × Int32) (S1 : St), EX T W V L v Z n S1 → AC acc' S1 → ∃ S', o_se_explore_193 rec (o_se_explore_73 rec m) v (nI dd) h s g b (nI i) S1 = some ((), S') ∧ AC (((GL T W Z).drop (i + 1)).foldl (ecs T Z L (gN T Z L (CL T W) r (dd + 1)) dd ν h s g) acc') S' ∧ Fr fEx S1 S' := by
      intro acc' S1 hE1 hA1
      obtain ⟨S', e1, e2, e3⟩ := ex_loop hw hB hn3 hd hν hg hl hh rec hrec c (i + 1) m acc' S1 hE1 hA1 (by omega) (by omega)
      refine ⟨S', ?_, e2, e3⟩
      unfold o_se_explore_193
      rw [ltq, nI_1]
      exact e1
    have go : still T h s y.1 y.2.1 = false → ∃ S', o_se_explore_148 rec (o_se_explore_73 rec m) v (nI dd) h s g b (nI i) (flC T h s y.1 y.2.1) (h &&& (flC T h s y.1 y.2.1 ^^^ (-1))) ((s ||| y.2.1) &&& (h &&& (flC T h s y.1 y.2.1 ^^^ (-1)))) S = some ((), S') ∧ AC (((GL T W Z).drop (i + 1)).foldl (ecs T Z L (gN T Z L (CL T W) r (dd + 1)) dd ν h s g) (ecs T Z L (gN T Z L (CL T W) r (dd + 1)) dd ν h s g acc y)) S' ∧ Fr fEx S S' := by
      intro hst
      have ee : ∀ nm, nm = ν y.2.2 → ecs T Z L (gN T Z L (CL T W) r (dd + 1)) dd ν h s g acc y = upA (g + vlS T L (flC T h s y.1 y.2.1) (Z 2 + nI dd) + gN T Z L (CL T W) r (dd + 1) (h &&& (flC T h s y.1 y.2.1 ^^^ (-1))) ((s ||| y.2.1) &&& (h &&& (flC T h s y.1 y.2.1 ^^^ (-1))))) nm acc := fun nm hnm => by
        unfold ecs
        rw [hst, hnm]
        rfl
      have hlf : lo 10 (flC T h s y.1 y.2.1) := lo_mo (lo_flC hl) (by omega)
      have hwon := (rg_add hg (vls_rg hw hB (flC T h s y.1 y.2.1) (Z 2) dd) (by omega)).2
      have r190 : ∀ nm, nm = ν y.2.2 → ∃ S', o_se_explore_190 rec (o_se_explore_73 rec m) v (nI dd) h s g b (nI i) nm (g + vlS T L (flC T h s y.1 y.2.1) (Z 2 + nI dd)) ((s ||| y.2.1) &&& (h &&& (flC T h s y.1 y.2.1 ^^^ (-1)))) (h &&& (flC T h s y.1 y.2.1 ^^^ (-1))) (nI dd + 1) v S = some ((), S') ∧ AC (((GL T W Z).drop (i + 1)).foldl (ecs T Z L (gN T Z L (CL T W) r (dd + 1)) dd ν h s g) (ecs T Z L (gN T Z L (CL T W) r (dd + 1)) dd ν h s g acc y)) S' ∧ Fr fEx S S' := by
        intro nm hnm
        obtain ⟨S1, a1, a2, a3⟩ := hrec (h &&& (flC T h s y.1 y.2.1 ^^^ (-1))) ((s ||| y.2.1) &&& (h &&& (flC T h s y.1 y.2.1 ^^^ (-1)))) (g + vlS T L (flC T h s y.1 y.2.1) (Z 2 + nI dd)) nm acc S (lo_and hl) (fun i hi q => hh i hi (by rw [tb_and, Bool.and_eq_true] at q; exact q.1)) (fun i hi q => by rw [tb_and, Bool.and_eq_true] at q; exact q.2) (rg_mo hwon (by omega)) hE hA
        rw [← ee nm hnm] at a2
        obtain ⟨S', e1, e2, e3⟩ := stay _ S1 (hE.fr a3) a2
        refine ⟨S', ?_, e2, a3.tr e3⟩
        unfold o_se_explore_190
        rw [nI_1, a1, bnq]
        exact e1
      unfold o_se_explore_148
      rw [sum_ok (v0 := 9) rfl hlf (show dd < 3 by omega), bnq, (aq_sum hw hE.2.2.1 (show dd < n by omega) _).1, ltq]
      rcases hν with ⟨q1, q2⟩ | ⟨q1, q2⟩
      · rw [if_pos (show nI dd = 0 by rw [q1]; rfl), if_neg (nI_in (by omega) (by omega)), nI_clamp (by omega), r3]
        exact r190 y.2.2 (by rw [q2])
      · rw [if_neg (nI_ne0 (by omega) (by omega))]
        exact r190 b (by rw [q2])
    by_cases q1 : h &&& (flC T h s y.1 y.2.1 ^^^ (-1)) = h
    · rw [if_pos q1]
      by_cases q2 : (s ||| y.2.1) &&& (h &&& (flC T h s y.1 y.2.1 ^^^ (-1))) = s
      · rw [if_pos q2]
        have es : ecs T Z L (gN T Z L (CL T W) r (dd + 1)) dd ν h s g acc y = acc := by
          unfold ecs still
          rw [decide_eq_true q1, decide_eq_true q2]
          rfl
        rw [es]
        exact stay acc S hE hA
      · rw [if_neg q2]
        exact go (by unfold still; rw [decide_eq_false q2, Bool.and_false])
    · rw [if_neg q1]
      exact go (by unfold still; rw [decide_eq_false q1, Bool.false_and])
theorem CL_len (hw : WF T W V) : (CL T W).length ≤ 80 := by
  have hn := hw.b
  have := allL_len (T := T) hn.2.1 W (ct T 2) 0
  unfold CL
  omega
theorem ex_dp (hw : WF T W V) (hB : BL L) (hn3 : n ≤ 3) : ∀ (r f dd : Nat) (h s g b : Int32) (acc : Int32 × Int32) (S : St), r < f → dd + r = n → 1 ≤ dd → lo (ct T 0) h → (∀ i, i < 32 → tb h i = true → tb (Z 0) i = true) → (∀ i, i < 32 → tb s i = true → tb h i = true) → rg (9990 * dd) g → EX T W V L v Z n S → AC acc S → ∃ S', o_se_explore f v (nI dd) h s g b S = some ((), S') ∧ AC (upA (g + gN T Z L (CL T W) r dd h s) b acc) S' ∧ Fr fEx S S'
  | 0, f, dd, h, s, g, b, acc, S, hf, hd, h1, hl, hh, hs, hg, hE, hA => by
    obtain ⟨f, rfl, hf⟩ := fuel hf
    rw [Nat.add_zero] at hd
    subst hd
    rw [o_se_explore]
    unfold o_se_explore_b o_se_explore_13 o_se_explore_34
    rw [hE.2.2.2, if_neg (nI_nlt (Nat.le_refl _) (by omega)), gN, Int32.add_zero, hA.1]
    unfold upA
    by_cases q : acc.1 < g
    · rw [if_pos q, if_pos q, ltq (wI S 5 11 g), ltq (wI (wI S 5 11 g) 5 12 b)]
      exact ⟨_, rfl, ⟨by rw [rI_wI_k (by decide), rI_wI], rI_wI⟩, (Fr.wI rfl).tr (Fr.wI rfl)⟩
    · rw [if_neg q, if_neg q]
      exact ⟨S, rfl, hA, Fr.rf⟩
  | r + 1, f, dd, h, s, g, b, acc, S, hf, hd, h1, hl, hh, hs, hg, hE, hA => by
    obtain ⟨f, rfl, hf⟩ := fuel hf
    have hn := hw.b
    have hg2 : rg 19980 g := rg_mo hg (by omega)
    obtain ⟨g1, g2⟩ := gN_cel (Z := Z) hw hB (CL T W) (r + 1) dd h s
    have g3 := cel_rg (T := T) hw hB (Z 2) (r + 1) dd h
    rw [o_se_explore]
    unfold o_se_explore_b
    rw [hE.2.2.2, if_pos (nI_lt (by omega) (by omega)), if_pos (show nI dd < 3 from nI_lt (b := 3) (by omega) (by decide)), sum_ok (v0 := 10) rfl (lo_mo hl (by omega)) (show dd < 3 by omega), bnq, (aq_sum hw hE.2.2.1 (show dd < n by omega) _).2, show n - dd = r + 1 by omega, hA.1]
    by_cases q : acc.1 < g + cel T L (Z 2) (r + 1) dd h
    · rw [if_pos q, nI_1]
      obtain ⟨S1, a1, a2, a3⟩ := ex_dp hw hB hn3 r f (dd + 1) h s g b acc S (by omega) (by omega) (by omega) hl hh hs (rg_mo hg (by omega)) hE hA
      rw [a1, bnq]
      obtain ⟨S', e1, e2, e3⟩ := ex_loop hw hB hn3 (show dd + 1 + r = n by omega) (b := b) (g := g) (h := h) (s := s) (ν := fun _ => b) (Or.inr ⟨by omega, rfl⟩) hg hl hh (o_se_explore f) (fun h' s' g' b' acc S i1 i2 i3 i4 i5 i6 => ex_dp hw hB hn3 r f (dd + 1) h' s' g' b' acc S (by omega) (by omega) (by omega) i1 i2 i3 i4 i5 i6) (GL T W Z).length 0 FU _ S1 (hE.fr a3) a2 (Nat.zero_add _) (by have := hE.2.1.2.1; unfold FU; omega)
      refine ⟨S', e1, ?_, a3.tr e3⟩
      rw [List.drop_zero] at e2
      have hall := ecs_all (L := L) (G := gN T Z L (CL T W) r (dd + 1)) (dd := dd) (ν := fun _ => b) (g := g) hw hh hs (acc0 := upA (g + gN T Z L (CL T W) r (dd + 1) h s) b acc) (upA_ge _ _ _).2 (CL T W) [] (by have := CL_len hw; rw [List.length_nil]; omega)
      have hGL : GL T W Z = (CL T W).foldl (gst T Z) [] := rfl
      rw [hGL, hall, List.foldl_nil, ecr_gN hw hB hg2 (CL T W) (CL T W) _ acc (gN_cel hw hB (CL T W) r (dd + 1) h s).1] at e2
      rw [gN]
      exact e2
    · rw [if_neg q]
      rw [i_lt] at q
      have t1 := (rg_add hg2 g3 (by decide)).1
      have t2 := (rg_add hg2 g1 (by decide)).1
      refine ⟨S, rfl, ?_, Fr.rf⟩
      rw [upA_no (by omega)]
      exact hA
theorem ex_top (hw : WF T W V) (hB : BL L) (hz : WZ T Z) (hn3 : n ≤ 3) (hE : EX T W V L v Z n S) (hA : AC (-1, -1) S) : ∃ S', o_se_explore 8 v 0 (Z 0) (Z 1) 0 (-1) S = some ((), S') ∧ AC (gTo T Z L (CL T W) n (Z 0) (Z 1)) S' ∧ Fr fEx S S' := by
  have hn := hw.b
  cases n with
  | zero =>
    rw [o_se_explore]
    unfold o_se_explore_b o_se_explore_13 o_se_explore_34
    rw [hE.2.2.2, if_neg (show ¬ (0 : Int32) < nI 0 by decide), hA.1, if_pos (show ((-1 : Int32), (-1 : Int32)).1 < 0 by decide), ltq (wI S 5 11 0), ltq (wI (wI S 5 11 0) 5 12 (-1))]
    exact ⟨_, rfl, ⟨by rw [rI_wI_k (by decide), rI_wI]; rfl, by rw [rI_wI]; rfl⟩, (Fr.wI rfl).tr (Fr.wI rfl)⟩
  | succ r =>
    have g3 := cel_rg (T := T) hw hB (Z 2) (r + 1) 0 (Z 0)
    obtain ⟨g1, g2⟩ := gN_cel (Z := Z) hw hB (CL T W) r 1 (Z 0) (Z 1)
    have hsum := sum_ok (S := S) (v0 := 10) rfl (lo_mo hz.1 (by omega)) (show 0 < 3 by decide)
    have hcel := (aq_sum hw hE.2.2.1 (show 0 < r + 1 by omega) (Z 0)).2
    have hpos : (-1 : Int32) < 0 + cel T L (Z 2) (r + 1) 0 (Z 0) := by
      rw [Int32.zero_add, Int32.lt_iff_toInt_lt]
      have := g3.1
      rw [show (-1 : Int32).toInt = -1 from rfl]
      omega
    have hdeep : ∀ (h' s' g' b' : Int32) (acc : Int32 × Int32) (S : St), lo (ct T 0) h' → (∀ i, i < 32 → tb h' i = true → tb (Z 0) i = true) → (∀ i, i < 32 → tb s' i = true → tb h' i = true) → rg (9990 * (0 + 1)) g' → EX T W V L v Z (r + 1) S → AC acc S → ∃ S', o_se_explore 7 v (nI (0 + 1)) h' s' g' b' S = some ((), S') ∧ AC (upA (g' + gN T Z L (CL T W) r (0 + 1) h' s') b' acc) S' ∧ Fr fEx S S' := fun h' s' g' b' acc S i1 i2 i3 i4 i5 i6 => ex_dp hw hB hn3 r 7 (0 + 1) h' s' g' b' acc S (by omega) (by omega) (by omega) i1 i2 i3 i4 i5 i6
    obtain ⟨S1, a1, a2, a3⟩ := hdeep (Z 0) (Z 1) 0 (-1) (-1, -1) S hz.1 (fun i _ q => q) hz.2.2.1 (rg_0 _) hE hA
    have hup : upA (0 + gN T Z L (CL T W) r (0 + 1) (Z 0) (Z 1)) (-1) (-1, -1) = (gN T Z L (CL T W) r 1 (Z 0) (Z 1), -1) := by
      rw [Int32.zero_add]
      refine if_pos ?_
      rw [Int32.lt_iff_toInt_lt]
      have := g1.1
      rw [show ((-1 : Int32), (-1 : Int32)).1.toInt = -1 from rfl]
      show -1 < (gN T Z L (CL T W) r 1 (Z 0) (Z 1)).toInt
      omega
    rw [hup] at a2
    obtain ⟨S', e1, e2, e3⟩ := ex_loop hw hB hn3 (show 0 + 1 + r = r + 1 by omega) (b := -1) (g := 0) (h := Z 0) (s := Z 1) (ν := fun x => x) (Or.inl ⟨rfl, rfl⟩) (rg_0 _) hz.1 (fun i _ q => q) (o_se_explore 7) hdeep (GL T W Z).length 0 FU _ S1 (hE.fr a3) a2 (Nat.zero_add _) (by have := hE.2.1.2.1; unfold FU; omega)
    refine ⟨S', ?_, ?_, a3.tr e3⟩
    · rw [o_se_explore]
      unfold o_se_explore_b
      rw [hE.2.2.2, if_pos (show (0 : Int32) < nI (r + 1) from nI_lt (a := 0) (by omega) (by omega)), if_pos (show (0 : Int32) < 3 by decide), (show o_se_sum 10 0 (Z 0) S = _ from hsum), bnq, (show sm 10 (fun i => bif tb (Z 0) i then rI S 10 (10 * 0 + i) else 0) = cel T L (Z 2) (r + 1) 0 (Z 0) from hcel), hA.1, if_pos hpos, (show o_se_explore 7 v ((0 : Int32) + 1) (Z 0) (Z 1) 0 (-1) S = _ from a1), bnq]
      exact e1
    · rw [List.drop_zero] at e2
      have hall := ecs_all (L := L) (G := gN T Z L (CL T W) r (0 + 1)) (dd := 0) (ν := fun x => x) (g := 0) (h := Z 0) (s := Z 1) hw (fun i _ q => q) hz.2.2.1 (acc0 := (gN T Z L (CL T W) r 1 (Z 0) (Z 1), -1)) (by rw [Int32.zero_add]; exact Int.le_refl _) (CL T W) [] (by have := CL_len hw; rw [List.length_nil]; omega)
      have hGL : GL T W Z = (CL T W).foldl (gst T Z) [] := rfl
      rw [hGL, hall, List.foldl_nil] at e2
      have hfun : ecr T Z L (gN T Z L (CL T W) r (0 + 1)) 0 (fun x => x) (Z 0) (Z 1) 0 = cvt T Z L (gN T Z L (CL T W) r 1) 0 (Z 0) (Z 1) := by
        funext acc x
        unfold ecr cvt upA
        rw [Int32.zero_add]
      rw [hfun] at e2
      rw [gTo]
      exact e2
end EXPLORE
