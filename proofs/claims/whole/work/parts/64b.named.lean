/-! Reading lines: names. -/
section NAMED
variable {n p b k i d r c c' : Nat} {w : List Nat} {tx : Nat → Int32} {So Sm S S' So' Sm' : St} {P Q : Nat → Nat → Bool} {W V : Nat → List Nat} {g : Nat → Nat}
def SNm (r c : Nat) (W : Nat → List Nat) (Sm : St) : Prop := rI Sm 502 (6 * r + 1) = nI c ∧ c ≤ 16 ∧ ∀ k, k < c → rJ Sm 503 (16 * r + k) = lN (p27 0 (W k)) ∧ WD (W k)
def PNm (r c : Nat) (V : Nat → List Nat) (Sm : St) : Prop := rI Sm 502 (6 * r + 2) = nI c ∧ c ≤ 5 ∧ ∀ k, k < c → rJ Sm 504 (5 * r + k) = lN (p27 0 (V k)) ∧ WD (V k)
def ANm (r c : Nat) (g : Nat → Nat) (Sm : St) : Prop := rI Sm 502 (6 * r) = nI c ∧ c ≤ 10 ∧ ∀ k, k < c → rI Sm 505 (10 * r + k) = nI (g k) ∧ g k < 16
theorem wd_eq {u : List Nat} (hw : WD w) (hu : WD u) : lg_cmp (lN (p27 0 u)) (lN (p27 0 w)) = 0 ↔ u = w := by
  have b1' := p27_B hw.2.2 hw.2.1
  have b2 := p27_B hu.2.2 hu.2.1
  rw [lg_cmp_eq, lN_eqB (by omega) (by omega)]
  exact ⟨fun e => p27_inj hu.2.2 hw.2.2 e, fun e => by rw [e]⟩
theorem ixR (a r j : Nat) : nI a * nI r + nI j = nI (a * r + j) := by rw [nI_mul, nI_add]
theorem m_sn_loop (h : SNm r c W Sm) (hr : r < 2) (hw : WD w) (h7 : rJ Sm 500 7 = lN (p27 0 w)) : ∀ (j k m : Nat), k + j = c → j < m → m_soundNamed_2 m (nI r) (nI k) Sm = some (ff (fun i => decide (W i = w)) k j, Sm)
  | 0, k, m, hk, hm => by
    obtain ⟨m, rfl, hm⟩ := fuel hm
    have hc := h.2.1
    rw [m_soundNamed_2, (show (6 : Int32) * nI r + 1 = nI (6 * r + 1) from ixR 6 r 1), if_neg (nI_in (by omega) (by omega)), nI_clamp (by omega), h.1, if_neg (nI_nlt (by omega) (by omega))]
    rfl
  | j + 1, k, m, hk, hm => by
    obtain ⟨m, rfl, hm⟩ := fuel hm
    have hc := h.2.1
    obtain ⟨r1, r2⟩ := h.2.2 k (by omega)
    rw [m_soundNamed_2, (show (6 : Int32) * nI r + 1 = nI (6 * r + 1) from ixR 6 r 1), if_neg (nI_in (by omega) (by omega)), nI_clamp (by omega), h.1, if_pos (nI_lt (by omega) (by omega)), (show (16 : Int32) * nI r + nI k = nI (16 * r + k) from ixR 16 r k), if_neg (nI_in (by omega) (by omega)), nI_clamp (by omega), r1, h7, ff]
    by_cases q : W k = w
    · rw [if_pos ((wd_eq hw r2).mpr q), decide_eq_true q]
      rfl
    · rw [if_neg (fun c => q ((wd_eq hw r2).mp c)), decide_eq_false q, ltq, nI_1, cond_false]
      exact m_sn_loop h hr hw h7 j (k + 1) m (by omega) (by omega)
theorem m_sn_ok (h : SNm r c W Sm) (hr : r < 2) (hw : WD w) (h7 : rJ Sm 500 7 = lN (p27 0 w)) : m_soundNamed (nI r) Sm = some (ff (fun i => decide (W i = w)) 0 c, Sm) := m_sn_loop h hr hw h7 c 0 FU (Nat.zero_add _) (by have := h.2.1; unfold FU; omega)
theorem m_pn_loop (h : PNm r c V Sm) (hr : r < 2) (hw : WD w) (h7 : rJ Sm 500 7 = lN (p27 0 w)) : ∀ (j k m : Nat), k + j = c → j < m → m_personNamed_2 m (nI r) (nI k) Sm = some (ff (fun i => decide (V i = w)) k j, Sm)
  | 0, k, m, hk, hm => by
    obtain ⟨m, rfl, hm⟩ := fuel hm
    have hc := h.2.1
    rw [m_personNamed_2, (show (6 : Int32) * nI r + 2 = nI (6 * r + 2) from ixR 6 r 2), if_neg (nI_in (by omega) (by omega)), nI_clamp (by omega), h.1, if_neg (nI_nlt (by omega) (by omega))]
    rfl
  | j + 1, k, m, hk, hm => by
    obtain ⟨m, rfl, hm⟩ := fuel hm
    have hc := h.2.1
    obtain ⟨r1, r2⟩ := h.2.2 k (by omega)
    rw [m_personNamed_2, (show (6 : Int32) * nI r + 2 = nI (6 * r + 2) from ixR 6 r 2), if_neg (nI_in (by omega) (by omega)), nI_clamp (by omega), h.1, if_pos (nI_lt (by omega) (by omega)), (show (5 : Int32) * nI r + nI k = nI (5 * r + k) from ixR 5 r k), if_neg (nI_in (by omega) (by omega)), nI_clamp (by omega), r1, h7, ff]
    by_cases q : V k = w
    · rw [if_pos ((wd_eq hw r2).mpr q), decide_eq_true q]
      rfl
    · rw [if_neg (fun c => q ((wd_eq hw r2).mp c)), decide_eq_false q, ltq, nI_1, cond_false]
      exact m_pn_loop h hr hw h7 j (k + 1) m (by omega) (by omega)
theorem m_pn_ok (h : PNm r c V Sm) (hr : r < 2) (hw : WD w) (h7 : rJ Sm 500 7 = lN (p27 0 w)) : m_personNamed (nI r) Sm = some (ff (fun i => decide (V i = w)) 0 c, Sm) := m_pn_loop h hr hw h7 c 0 FU (Nat.zero_add _) (by have := h.2.1; unfold FU; omega)
theorem m_an_loop (h : ANm r c g Sm) (hr : r < 2) {s : Nat} (hs : s < 16) : ∀ (j k m : Nat), k + j = c → j < m → m_appleNamed_8 m (nI r) (nI s) (nI k) Sm = some (ff (fun i => decide (g i = s)) k j, Sm)
  | 0, k, m, hk, hm => by
    obtain ⟨m, rfl, hm⟩ := fuel hm
    have hc := h.2.1
    rw [m_appleNamed_8, (show (6 : Int32) * nI r + 0 = nI (6 * r) from ixR 6 r 0), if_neg (nI_in (by omega) (by omega)), nI_clamp (by omega), h.1, if_neg (nI_nlt (by omega) (by omega))]
    rfl
  | j + 1, k, m, hk, hm => by
    obtain ⟨m, rfl, hm⟩ := fuel hm
    have hc := h.2.1
    obtain ⟨r1, r2⟩ := h.2.2 k (by omega)
    rw [m_appleNamed_8, (show (6 : Int32) * nI r + 0 = nI (6 * r) from ixR 6 r 0), if_neg (nI_in (by omega) (by omega)), nI_clamp (by omega), h.1, if_pos (nI_lt (by omega) (by omega)), if_neg (nI_pos (by omega)), (show (10 : Int32) * nI r + nI k = nI (10 * r + k) from ixR 10 r k), if_neg (nI_in (by omega) (by omega)), nI_clamp (by omega), r1, ff]
    by_cases q : g k = s
    · rw [if_pos (by rw [q]), decide_eq_true q]
      rfl
    · rw [if_neg (nI_ne q (by omega) (by omega)), decide_eq_false q, ltq, nI_1, cond_false]
      exact m_an_loop h hr hs j (k + 1) m (by omega) (by omega)
theorem m_an_neg (h : ANm r c g Sm) (hr : r < 2) : m_appleNamed_8 FU (nI r) (-1) 0 Sm = some (-1, Sm) := by
  have hc := h.2.1
  obtain ⟨m, hm⟩ : ∃ m, FU = m + 1 := ⟨999999, rfl⟩
  rw [hm, m_appleNamed_8, (show (6 : Int32) * nI r + 0 = nI (6 * r) from ixR 6 r 0), if_neg (nI_in (by omega) (by omega)), nI_clamp (by omega), h.1, if_pos (show (-1 : Int32) < 0 by decide)]
  by_cases q : (0 : Int32) < nI c
  · rw [if_pos q]
    rfl
  · rw [if_neg q]
    rfl
/-- the apple of a sound, by the sound's place (-1: none) -/
def apF (g : Nat → Nat) (c : Nat) (x : Int32) : Int32 := ff (fun i => decide (nI (g i) = x)) 0 c
theorem apF_s (hg : ∀ k, k < c → g k < 16) {s : Nat} (hs : s < 16) : apF g c (nI s) = ff (fun i => decide (g i = s)) 0 c := ff_ext c 0 fun i _ hi => by
  have := hg i (by omega)
  by_cases q : g i = s
  · rw [decide_eq_true q, q, decide_eq_true rfl]
  · rw [decide_eq_false q, decide_eq_false (nI_ne q (by omega) (by omega))]
theorem apF_n (hg : ∀ k, k < c → g k < 16) : apF g c (-1) = -1 := ff_none c 0 fun i _ hi => by
  have := hg i (by omega)
  exact decide_eq_false (nI_m1 (by omega))
theorem o_ap_loop (hd : KO.1 d = (0, 10)) {f : Nat → Nat → Int32} (h : TB (d + 80) 10 7 c f S) (hf : ∀ k, k < c → f k 5 = nI (g k)) (x : Int32) : ∀ (j k m : Nat), k + j = c → j < m → o_to_appleOfSound_2 m d x (nI k) S = some (ff (fun i => decide (nI (g i) = x)) k j, S)
  | 0, k, m, hk, hm => by
    obtain ⟨m, rfl, hm⟩ := fuel hm
    have hc := h.2.2.2.2.2.1
    rw [o_to_appleOfSound_2, if_pos hd, if_pos h.k, tb_size h, bnq, if_neg (nI_nlt (by omega) (by omega))]
    rfl
  | j + 1, k, m, hk, hm => by
    obtain ⟨m, rfl, hm⟩ := fuel hm
    have hc := h.2.2.2.2.2.1
    rw [o_to_appleOfSound_2, if_pos hd, if_pos h.k, tb_size h, bnq, if_pos (nI_lt (by omega) (by omega)), (show o_tb_at (d + 80) (nI k) 5 S = some (f k 5, S) from tb_atI h (show k < c by omega) (show 5 < 7 by decide)), bnq, hf k (by omega), ff]
    by_cases q : nI (g k) = x
    · rw [if_pos q, decide_eq_true q]
      rfl
    · rw [if_neg q, decide_eq_false q, ltq, nI_1, cond_false]
      exact o_ap_loop hd h hf x j (k + 1) m (by omega) (by omega)
theorem o_ap_ok (hd : KO.1 d = (0, 10)) {f : Nat → Nat → Int32} (h : TB (d + 80) 10 7 c f S) (hf : ∀ k, k < c → f k 5 = nI (g k)) (x : Int32) : o_to_appleOfSound d x S = some (apF g c x, S) := o_ap_loop hd h hf x c 0 FU (Nat.zero_add _) (by have := h.2.2.2.2.2.1; unfold FU; omega)
theorem isName_U (h : TK n tx k w b p So Sm) (h0 : rI So 3 7 = 0) : o_rd_isName So = if nmB k = true then some (1, So) else some (0, wI So 3 7 (1 + 16 * nI b)) := by
  unfold o_rd_isName o_rd_isName_21 o_rd_isName_36
  rw [oq2 h.q, if_pos h.k20, tkIsName h.lt, bnq, wr_U h h0, bnq, if_pos h0]
  cases nmB k with
  | true => rw [if_neg bT, if_pos b1, if_pos rfl]
  | false =>
    have hn := h.1.1
    have hb := h.2.2.2.1
    rw [if_pos bF, rI_wI, if_neg (show ¬ (1 : Int32) + 16 * nI b = 0 from flt_nz (j := 1) (by decide) (by decide) (by omega)), if_pos b0, if_neg (by decide)]
theorem nm_wd (h : TK n tx k w b p So Sm) (hk : nmB k = true) : WD w ∧ rJ So 3 5 = lN (pk5 w) ∧ rJ Sm 500 7 = lN (p27 0 w) ∧ k ≠ 0 := by
  have hk42 := h.lt
  have : k = 3 ∨ kwP k = true := by
    unfold nmB at hk
    unfold kwP
    simp at hk ⊢
    omega
  obtain ⟨h1, h2, h3, h4, h5⟩ := h.wd this
  refine ⟨h1, h4, h5, fun q => ?_⟩
  rw [q] at hk
  cases hk
theorem newName_U (h : TK n tx k w b p So Sm) (h0 : rI So 3 7 = 0) (hd : KO.1 d = (0, 10)) (hW : NW (d + 2) 16 c W So) (hV : NW (d + 4) 5 c' V So) (hWm : SNm 1 c W Sm) (hVm : PNm 1 c' V Sm) : ∃ z x So1 Sm1, o_rd_newName d So = o_rd_newName_47 x So1 ∧ m_isNew Sm = some (bI z, Sm1) ∧ ((z = true ∧ So1 = So ∧ Sm1 = Sm ∧ WD w ∧ x = lN (pk5 w) ∧ rJ Sm 500 7 = lN (p27 0 w) ∧ k ≠ 0) ∨ (z = false ∧ BAD So1 Sm1)) ∧ Fr fCo So So1 ∧ Fr fCm Sm Sm1 := by
  unfold o_rd_newName m_isNew m_isNew_29 m_isNew_37 m_isNew_42
  rw [ltq, isName_U h h0, isKept_ok h, bnq]
  cases hnm : nmB k with
  | false =>
    have hB := bad_of (Sm1 := Sm) h (j := 1) (by decide) (by decide)
    rw [if_neg (by decide), bnq, if_pos rfl, if_neg (show ¬ bI (!false) = 0 from bT), m_fails_ok 1 Sm h.2.2.1.2, bnq, if_pos b0]
    exact ⟨false, _, _, _, rfl, rfl, Or.inr ⟨rfl, hB⟩, Fr.wI rfl, Fr.wI rfl⟩
  | true =>
    obtain ⟨w1, w2, w3, w4⟩ := nm_wd h hnm
    have hB := bad_of (Sm1 := Sm) h (j := 3) (by decide) (by decide)
    rw [if_pos rfl, bnq, if_neg (show ¬ (1 : Int32) = 0 by decide), if_pos hd, if_pos hW.1, w2, na_find hW w1.ok, bnq, if_pos hV.1, na_find hV w1.ok, bnq, if_pos (show bI (!true) = 0 from rfl), (show m_soundNamed 1 Sm = _ from m_sn_ok hWm (by decide) w1 w3), bnq, (show m_personNamed 1 Sm = _ from m_pn_ok hVm (by decide) w1 w3), bnq, m_fails_ok 3 Sm h.2.2.1.2, bnq]
    have e39 : o_rd_newName_39 (lN (pk5 w)) So = o_rd_newName_47 (lN (pk5 w)) (wI So 3 7 (3 + 16 * nI b)) := by
      unfold o_rd_newName_39
      rw [wr_U h h0, bnq]
    rw [e39, if_pos rfl, if_pos b0, if_pos b1]
    rcases ff_or (p := fun i => decide (W i = w)) c 0 with ⟨e, _⟩ | ⟨i, _, i2, _, e, _⟩
    · rw [e, if_pos rfl, if_pos (show (-1 : Int32) < 0 by decide)]
      rcases ff_or (p := fun i => decide (V i = w)) c' 0 with ⟨e', _⟩ | ⟨i', _, i2', _, e', _⟩
      · rw [e', if_pos rfl, if_pos (show (-1 : Int32) < 0 by decide)]
        exact ⟨true, _, So, Sm, rfl, rfl, Or.inl ⟨rfl, rfl, rfl, w1, rfl, w3, w4⟩, Fr.rf, Fr.rf⟩
      · have := hVm.2.1
        rw [e', if_neg (nI_m1 (by omega)), if_neg (nI_pos (by omega))]
        exact ⟨false, _, _, _, rfl, rfl, Or.inr ⟨rfl, hB⟩, Fr.wI rfl, Fr.wI rfl⟩
    · have := hWm.2.1
      rw [e, if_neg (nI_m1 (by omega)), if_neg (nI_pos (by omega))]
      exact ⟨false, _, _, _, rfl, rfl, Or.inr ⟨rfl, hB⟩, Fr.wI rfl, Fr.wI rfl⟩
theorem TK.w46 (h : TK n tx k w b p So Sm) (x : Int32) : TK n tx k w b p So (wI Sm 500 46 x) := by
  obtain ⟨g1, g2, g3, g4, g5, g6⟩ := h
  refine ⟨g1.fr (Fr.rf (P := fun _ _ => false)) (Fr.wI rfl : Fr (fun a k => a == 500 && k == 46) Sm (wI Sm 500 46 x)) rfl (fun k => rfl) rfl (fun k => rfl), ⟨g2.1, by rw [rI_wI_k (by decide)]; exact g2.2⟩, ⟨g3.1, by rw [rI_wI_k (by decide)]; exact g3.2⟩, g4, g5, ?_⟩
  unfold KC
  rw [rI_wI_k (show 6 ≠ 46 by decide), rI_wI_k (show 8 ≠ 46 by decide), rJ_wI]
  exact g6
theorem sound_U (h : TK n tx k w b p So Sm) (h0 : rI So 3 7 = 0) (hd : KO.1 d = (0, 10)) (hr : r < 2) (hW : NW (d + 2) 16 c W So) (hWm : SNm r c W Sm) : ∃ z x So1 Sm1, o_rd_soundHere d So = some (x, So1) ∧ m_needsSound (nI r) Sm = some (bI z, Sm1) ∧ ((z = true ∧ So1 = So ∧ k ≠ 0 ∧ WD w ∧ rJ Sm 500 7 = lN (p27 0 w) ∧ ∃ j, j < c ∧ x = nI j ∧ W j = w ∧ Sm1 = wI Sm 500 46 (nI j)) ∨ (z = false ∧ x = -1 ∧ BAD So1 Sm1)) ∧ Fr fCo So So1 ∧ Fr fCm Sm Sm1 := by
  unfold o_rd_soundHere o_rd_soundHere_25 o_rd_soundHere_39 m_needsSound m_needsSound_37 m_needsSound_42
  rw [isName_U h h0, isKept_ok h, bnq]
  cases hnm : nmB k with
  | false =>
    have hB := bad_of (Sm1 := Sm) h (j := 1) (by decide) (by decide)
    rw [if_neg (by decide), bnq, if_pos rfl, if_pos rfl, (show o_tp_wrong 2 (wI So 3 7 (1 + 16 * nI b)) = _ from wr_F hB.1 2), bnq, if_neg (show ¬ bI (!false) = 0 from bT), m_fails_ok 1 Sm h.2.2.1.2, bnq, if_pos b0]
    exact ⟨false, _, _, _, rfl, rfl, Or.inr ⟨rfl, rfl, hB⟩, Fr.wI rfl, Fr.wI rfl⟩
  | true =>
    obtain ⟨w1, w2, w3, w4⟩ := nm_wd h hnm
    rw [if_pos rfl, bnq, if_neg (show ¬ (1 : Int32) = 0 by decide), if_pos hd, if_pos hW.1, w2, na_find hW w1.ok, bnq, if_pos (show bI (!true) = 0 from rfl), m_sn_ok hWm hr w1 w3, bnq, ltq (wI Sm 500 46 _), rI_wI]
    rcases ff_or (p := fun i => decide (W i = w)) c 0 with ⟨e, _⟩ | ⟨i, _, i2, i3, e, _⟩
    · have hB := bad_of (Sm1 := wI Sm 500 46 (-1)) h (j := 2) (by decide) (by decide)
      rw [e, if_pos rfl, wr_U h h0, bnq, if_pos (show (-1 : Int32) < 0 by decide), m_fails_ok 2 (wI Sm 500 46 (-1)) (by rw [rI_wI_k (by decide)]; exact h.2.2.1.2), bnq, if_pos rfl, if_pos b0]
      exact ⟨false, _, _, _, rfl, rfl, Or.inr ⟨rfl, rfl, hB⟩, Fr.wI rfl, (Fr.wI rfl).tr (Fr.wI rfl)⟩
    · have := hWm.2.1
      rw [e, if_neg (nI_m1 (by omega)), if_neg (nI_pos (by omega)), if_pos b1]
      exact ⟨true, _, So, _, rfl, rfl, Or.inl ⟨rfl, rfl, w4, w1, w3, i, by omega, rfl, of_decide_eq_true i3, rfl⟩, Fr.rf, Fr.wI rfl⟩
theorem apple_U (h : TK n tx k w b p So Sm) (h0 : rI So 3 7 = 0) (hd : KO.1 d = (0, 10)) (hr : r < 2) (hW : NW (d + 2) 16 c W So) (hWm : SNm r c W Sm) {f : Nat → Nat → Int32} (hA : TB (d + 80) 10 7 c' f So) (hf : ∀ k, k < c' → f k 5 = nI (g k)) (hAm : ANm r c' g Sm) : ∃ z x So1 Sm1, o_rd_appleHere d So = some (x, So1) ∧ m_needsApple (nI r) Sm = some (bI z, Sm1) ∧ ((z = true ∧ So1 = So ∧ k ≠ 0 ∧ ∃ j, j < c' ∧ x = nI j ∧ Sm1 = wI Sm 500 46 (nI j)) ∨ (z = false ∧ x = -1 ∧ BAD So1 Sm1)) ∧ Fr fCo So So1 ∧ Fr fCm Sm Sm1 := by
  unfold o_rd_appleHere o_rd_appleHere_29 o_rd_appleHere_43 m_needsApple m_needsApple_37 m_needsApple_42
  rw [isName_U h h0, isKept_ok h, bnq]
  have hg : ∀ k, k < c' → g k < 16 := fun k hk => (hAm.2.2 k hk).2
  cases hnm : nmB k with
  | false =>
    have hB := bad_of (Sm1 := Sm) h (j := 1) (by decide) (by decide)
    rw [if_neg (by decide), bnq, if_pos rfl, if_pos rfl, (show o_tp_wrong 2 (wI So 3 7 (1 + 16 * nI b)) = _ from wr_F hB.1 2), bnq, if_neg (show ¬ bI (!false) = 0 from bT), m_fails_ok 1 Sm h.2.2.1.2, bnq, if_pos b0]
    exact ⟨false, _, _, _, rfl, rfl, Or.inr ⟨rfl, rfl, hB⟩, Fr.wI rfl, Fr.wI rfl⟩
  | true =>
    obtain ⟨w1, w2, w3, w4⟩ := nm_wd h hnm
    have eN : m_appleNamed (nI r) Sm = some (apF g c' (ff (fun i => decide (W i = w)) 0 c), Sm) := by
      unfold m_appleNamed
      rw [m_sn_ok hWm hr w1 w3, bnq]
      rcases ff_or (p := fun i => decide (W i = w)) c 0 with ⟨e, _⟩ | ⟨i, _, i2, i3, e, _⟩
      · rw [e, apF_n hg]
        exact m_an_neg hAm hr
      · have := hWm.2.1
        rw [e, apF_s hg (by omega)]
        exact m_an_loop hAm hr (by omega) c' 0 FU (Nat.zero_add _) (by have := hAm.2.1; unfold FU; omega)
    rw [if_pos rfl, bnq, if_neg (show ¬ (1 : Int32) = 0 by decide), if_pos hd, if_pos hW.1, w2, na_find hW w1.ok, bnq, o_ap_ok hd hA hf, bnq, if_pos (show bI (!true) = 0 from rfl), eN, bnq, ltq (wI Sm 500 46 _), rI_wI]
    rcases ff_or (p := fun i => decide (nI (g i) = ff (fun i => decide (W i = w)) 0 c)) c' 0 with ⟨e, _⟩ | ⟨i, _, i2, i3, e, _⟩
    · have e : apF g c' (ff (fun i => decide (W i = w)) 0 c) = -1 := e
      have hB := bad_of (Sm1 := wI Sm 500 46 (-1)) h (j := 2) (by decide) (by decide)
      rw [e, if_pos rfl, wr_U h h0, bnq, if_pos (show (-1 : Int32) < 0 by decide), m_fails_ok 2 (wI Sm 500 46 (-1)) (by rw [rI_wI_k (by decide)]; exact h.2.2.1.2), bnq, if_pos rfl, if_pos b0]
      exact ⟨false, _, _, _, rfl, rfl, Or.inr ⟨rfl, rfl, hB⟩, Fr.wI rfl, (Fr.wI rfl).tr (Fr.wI rfl)⟩
    · have e : apF g c' (ff (fun i => decide (W i = w)) 0 c) = nI i := e
      have := hAm.2.1
      rw [e, if_neg (nI_m1 (by omega)), if_neg (nI_pos (by omega)), if_pos b1]
      exact ⟨true, _, So, _, rfl, rfl, Or.inl ⟨rfl, rfl, w4, i, by omega, rfl, rfl⟩, Fr.rf, Fr.wI rfl⟩
/-- a person, as the class looks for him -/
theorem person_U (h : TK n tx k w b p So Sm) (h0 : rI So 3 7 = 0) (hd : KO.1 d = (0, 10)) (hV : NW (d + 4) 5 c V So) (hVm : PNm 0 c V Sm) : (nmB k = false ∧ o_rd_personHere d So = some (-1, wI So 3 7 (1 + 16 * nI b))) ∨ (nmB k = true ∧ k ≠ 0 ∧ ∃ x, m_personNamed 0 Sm = some (x, Sm) ∧ ((x = -1 ∧ o_rd_personHere d So = some (-1, wI So 3 7 (2 + 16 * nI b))) ∨ ∃ j, j < c ∧ x = nI j ∧ o_rd_personHere d So = some (nI j, So))) := by
  unfold o_rd_personHere o_rd_personHere_25 o_rd_personHere_39
  rw [isName_U h h0]
  cases hnm : nmB k with
  | false =>
    have hB := bad_of (Sm1 := Sm) h (j := 1) (by decide) (by decide)
    refine Or.inl ⟨rfl, ?_⟩
    rw [if_neg (by decide), bnq, if_pos rfl, if_pos rfl, (show o_tp_wrong 2 (wI So 3 7 (1 + 16 * nI b)) = _ from wr_F hB.1 2), bnq]
    rfl
  | true =>
    obtain ⟨w1, w2, w3, w4⟩ := nm_wd h hnm
    refine Or.inr ⟨rfl, w4, _, (show m_personNamed 0 Sm = _ from m_pn_ok hVm (by decide) w1 w3), ?_⟩
    rw [if_pos rfl, bnq, if_neg (show ¬ (1 : Int32) = 0 by decide), if_pos hd, if_pos hV.1, w2, na_find hV w1.ok, bnq]
    rcases ff_or (p := fun i => decide (V i = w)) c 0 with ⟨e, _⟩ | ⟨i, _, i2, i3, e, _⟩
    · rw [e, if_pos rfl, wr_U h h0, bnq]
      exact Or.inl ⟨rfl, rfl⟩
    · have := hVm.2.1
      rw [e, if_neg (nI_m1 (by omega))]
      exact Or.inr ⟨i, by omega, rfl, rfl⟩
end NAMED
