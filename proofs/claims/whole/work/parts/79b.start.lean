/-! The law's entry: both objects, the row, the loop. -/
set_option maxRecDepth 100000 in
theorem en_ws : lw_tbl[222]? = some (Cond.classLink R_law 8 (kN 11)) ∧ lw_tbl[1509]? = some (Cond.classLink R_law 16 (kN 12)) ∧ lw_tbl[224]? = some (Cond.methodLink R_law 15 (mN 2200)) ∧ lw_tbl[225]? = some (Cond.instanceMethod (mN 2200)) ∧ lw_tbl[1511]? = some (Cond.methodLink R_law 18 (mN 2400)) ∧ lw_tbl[1512]? = some (Cond.instanceMethod (mN 2400)) ∧ lw_tbl[195]? = some (Cond.initialized (kN 11)) ∧ lw_tbl[210]? = some (Cond.initialized (kN 12)) := by decide +kernel
set_option maxRecDepth 100000 in
theorem en_ws2 : lw_tbl[1470]? = some (Cond.laysStatic Bundle.tN "UNASSIGNED_STACK" Bundle.steD) ∧ lw_tbl[1472]? = some (Cond.laysStatic Bundle.tN "SUPPRESSED_SENTINEL" Bundle.listD) ∧ lw_tbl[217]? = some (Cond.initialized Bundle.tN) ∧ lw_tbl[1482]? = some (Cond.stringRef (kN 11) 286 "no such page, lane or voice") := by decide +kernel
set_option maxRecDepth 100000 in
theorem en_fl : flW[283]? = some (.isRef (.static Bundle.tN "UNASSIGNED_STACK" Bundle.steD)) ∧ flW[284]? = some (.isRef (.static Bundle.tN "SUPPRESSED_SENTINEL" Bundle.listD)) ∧ flW[455]? = some (.exactly (.string (kN 11) 286) "java/lang/String") := by decide +kernel
theorem clr_00 (a : Nat) : clr S00 a = S00 := by
  unfold clr S00
  congr 1
  · funext b j
    simp
  · congr 1
    · funext b j
      simp
    · funext b j
      simp
set_option maxRecDepth 100000 in
theorem en_sl : slA KO alO 154 - slA KO alO 1 ≤ 3000000 ∧ slA KM alM 67 - slA KM alM 1 ≤ 3000000 ∧ kF 11 = 13 ∧ kF 12 ≤ 200 := by decide +kernel
section START
variable {p : Program} {l : Launch} {ev : Env} {s : State} {m : MethodId} {below : List Frame} {meth : Method} {c : Code} {b L : Nat} {xs : Nat → Int32} {D : va_G} {cy : Nat → ClassId} {Q : State → Prop}
/-- 'new', in the law -/
theorem lnew {K : Cfg} {al : List Nat} {G : Nat → Nat} {base a ci i pc cells slots : Nat} {H : Heap} {locs : List Loc} {ls : Array Slot} {stk : List Value} (hx : p.tables.exec = Jvm.exec) (hb : c.code = code) (hown : s.vm.findClass R_law = some m.cls) (hts : ∀ w ∈ gw, w.before #[Value.ref b] s = true) (hK : va_K D kCl (tysL cy) s) (hA : okA K al G base) (hz : H.size = base) (ha : al[0]? = some a) (hka : K.1 a = (0, ci)) (hci : ci < 13) (hi9 : ∃ j, inPL.getD ci (0, 0) = (j, kF ci)) (w1 : Cond.classLink R_law i (kN ci) ∈ gw) (w3 : Cond.initialized (kN ci) ∈ gw) (hr1 : cells + 1 ≤ 601024) (hr2 : slots + kF ci ≤ 7293034) (hdec : decode code pc = .ok (.new i, 3))
    (kk : ∀ H1 : Heap, va_P D kCl (wl (KA K al 1) G cy (al.take 1) S00) H1 → H1.size = base + 1 → (∀ q, q < base → H1[q]? = H[q]?) → W p l ev room_1 s m #[Value.ref b] below meth c H1 locs (cells + 1) (slots + kF ci) Q (F0 m (pc + 3) ls (.ref (G a) :: stk))) :
    W p l ev room_1 s m #[Value.ref b] below meth c H locs cells slots Q (F0 m pc ls stk) := by
  have hGa : G a = base := by rw [hA.2.2.2.1 0 a ha]; rfl
  have hKn := hK.1 ci _ (kCl_at ci hci)
  obtain ⟨j, hj⟩ := hi9
  have hin := tb_I ci hci
  rw [hj] at hin
  refine W.newcK hx hb hown (hts _ w1) (hts _ (tx_g hin rfl)) (hts _ w3) rfl hdec hr1 hr2 hKn.2.1 (hz.trans hGa.symm) fun H1 kC hkC g1 z1 o1 => ?_
  have hka' : (KA K al (0 + 1)).1 a = (0, ci) := by
    rw [KA_in, hka]
    rw [List.take_add_one, ha]
    exact List.mem_append_right _ List.mem_cons_self
  have hP0 : va_P D kCl (wl (KA K al 0) G cy (al.take 0) S00) H := fun k q hk => by simp [wl] at hk
  have hP1 := a_push (cy := cy) (D := D) (S := S00) hA ha hP0 (fun q hq => o1 q (by omega)) (H1 := H1) (by
    have hce : cE (KA K al (0 + 1)) G cy (clr S00 a) a = .inr (ci, fL' (KA K al (0 + 1)) G (clr S00 a) a ci) := by unfold cE; rw [hka']; rfl
    rw [hce]
    refine ⟨_, kCl_at ci hci, (u_born (kY ci) hts (k_ws ci hci) hKn hkC g1 (k_ty ci hci)).to fun j hj => ?_⟩
    unfold vp_V
    rw [List.getD_eq_getElem?_getD]
    unfold fL'
    rw [rngmap _ hj]
    exact clr_def hci hj)
  rw [clr_00] at hP1
  exact kk H1 hP1 (by omega) (fun q hq => o1 q (by omega))
/-- a constructor, called by the law -/
theorem linit {K : Cfg} {al : List Nat} {G : Nat → Nat} {SF : (Nat → Prop) → State → Heap → Prop} {base b1 M i pc cells slots mc ms nL : Nat} {bc : ByteArray} {S1 : St} {B : Nat → Prop} {H : Heap} {locs : List Loc} {ls : Array Slot} {rest : List Value} (hx : p.tables.exec = Jvm.exec) (hb : c.code = code) (hml : c.maxLocals = 7) (hown : s.vm.findClass R_law = some m.cls) (hts : ∀ w ∈ gw, w.before #[Value.ref b] s = true) (hnw : ∀ w ∈ nw, va_Nw w s) (hao : ∀ t, 5 ≤ t → t < 8 → va_AO (arK t) s) (hK : va_K D kCl (tysL cy) s) (hF : okF SF)
    (hM : Met l (mN M) (Cond.code (mN M) bc nL none :: gw) { frames := 12, cells := mc, slots := ms, locals := 768 } (va_Pc [.ref (G b1)] (PA K G cy D SF al base 1 S00)) (QI K G cy D al base S1) mc ms (fun q => base ≤ q)) (hnL : nL ≤ 14) (hcw : Cond.code (mN M) bc nL none ∈ gw) (wi : Cond.initialized (mN M).cls ∈ gw) (hmh : (mN M).cls ≠ "java/lang/invoke/MethodHandle" ∧ (mN M).cls ≠ "java/lang/invoke/VarHandle") (hna : (parseMethodDescriptor (mN M).desc).map (fun d => d.parameters.length) = some 0) (wl1 : Cond.methodLink R_law i (mN M) ∈ gw) (wl2 : Cond.instanceMethod (mN M) ∈ gw) (hni : (mN M).name = "<init>") (hSF : SF B s s.heap) (hB : ∀ q, B q ↔ s.heap.size ≤ q) (hbs : s.heap.size ≤ base) (hz : H.size = base + 1) (hP : va_P D kCl (wl (KA K al 1) G cy (al.take 1) S00) H) (hS : va_S B s.heap H locs) (hls : ls.size = 7) (hrest : (rest.map fun v => v.category).sum ≤ 8) (hc : cells + mc ≤ 601024) (hs : slots + ms ≤ 7293034) (hdec : decode code pc = .ok (.invokespecial i, 3))
    (kk : ∀ (H1 : Heap) (locs1 : List Loc), va_P D kCl (wl K G cy al S1) H1 → va_S B s.heap H1 locs1 → (∀ q, q < base → H1[q]? = H[q]?) → W p l ev room_1 s m #[Value.ref b] below meth c H1 locs1 (cells + mc) (slots + ms) Q (F0 m (pc + 3) ls rest)) :
    W p l ev room_1 s m #[Value.ref b] below meth c H locs cells slots Q (F0 m pc ls (.ref (G b1) :: rest)) := by
  have hpc : ∀ U : State, U.heap = H → s.WarmedH U.vm → va_Pc [Value.ref (G b1)] (PA K G cy D SF al base 1 S00) (#[Value.ref (G b1)]) U := by
    intro U hU hW
    refine ⟨rfl, by rw [hU]; exact hz, by rw [hU]; exact hP, va_K.moved hW.alike hK, fun w hw => nw_warm hw hW (hnw w hw), fun t h5 h8 => va_AO.moved hW.alike (hao t h5 h8), ?_⟩
    rw [hU]
    exact hF.2.2 B _ U H (fun q hq => (hB q).mpr (Nat.le_trans hbs hq)) (hF.1 B s U H hW.alike (hF.2.1 B s s.heap H hS.2.1 hSF))
  have hrun := va_runI (p := p) (e := ev) (R := room_1) (H := H) (locs := locs) (cells := cells) (slots := slots) (below := below) (meth := meth) (g := F0 m pc ls (.ref (G b1) :: rest)) (As := []) (rest := rest) (b := G b1) (nL := 7) (index := i) (own := R_law) (maxL := nL) (bytes := bc) (n := 0) ⟨hx, hb, hml, hown, hts⟩ hM ⟨⟨rfl, rfl, Nat.le_of_ble_eq_true rfl, by show 8 + (nL + 11) + 768 ≤ 84000; omega, pay_in hts (fun w hw => (List.mem_cons.mp hw).elim (fun e => by rw [e]; exact gw_good _ hcw) (gw_good w)), List.mem_cons_self, hts _ hcw, hts _ wi, hmh, nargs_of hna, hts _ wl1⟩, hni, hts _ wl2⟩ ⟨pa_blind hF, hpc⟩ rfl rfl hls rfl (lv_room hrest) hdec ⟨hc, hs⟩
  intro T hT X
  obtain ⟨v, st₀, t, T', L9, h0, X', hL, e1, e2, ⟨hv, hp, hz9, hk⟩, st⟩ := hrun T hT X
  cases hv
  rw [h0] at hz9 hk
  have hBb : ∀ q, base ≤ q → B q := fun q hq => (hB q).mpr (Nat.le_trans hbs hq)
  obtain ⟨t2, a1, b1'⟩ := kk T'.heap (locs ++ L9) (by rw [e1]; exact hp)
    ⟨Nat.le_trans hS.1 (by rw [e1]; exact hz9), fun q h1 h2 => by rw [e1, hk q (Nat.lt_of_lt_of_le h1 hS.1) (fun z => h2 (hBb q z))]; exact hS.2.1 q h1 h2, fun q hq => by
      rcases List.mem_append.mp hq with h | h
      · exact hS.2.2 q h
      · exact hBb _ (hL q h)⟩ (fun q hq => by rw [e1]; exact hk q (by omega) (Nat.not_le.mpr hq)) T' rfl X'
  exact ⟨t2, st t2 a1, b1'⟩
theorem wl_top {K : Cfg} {G : Nat → Nat} {al : List Nat} {base n a : Nat} {S : St} {H : Heap} (hA : okA K al G base) (ha : al[n]? = some a) (hP : va_P D kCl (wl K G cy al S) H) : base + n < H.size := by
  have hk : (wl K G cy al S)[n]? = some (G a, cE K G cy S a) := by simp [wl, List.getElem?_map, ha]
  have := (hP n _ hk).lt
  rw [hA.2.2.2.1 n a ha] at this
  exact this
end START
set_option maxRecDepth 100000 in
theorem alO_end : alO[153]? = some (alO.getD 153 0) ∧ alM[66]? = some 566 ∧ alO[0]? = some 1 ∧ alM[0]? = some 500 := by decide +kernel
set_option maxRecDepth 100000 in
theorem dc_en : decode code 0 = .ok (.new 8, 3) ∧ decode code 3 = .ok (.dup, 1) ∧ decode code 4 = .ok (.invokespecial 15, 3) ∧ decode code 7 = .ok (.astore_n 1, 1) ∧ decode code 8 = .ok (.new 16, 3) ∧ decode code 11 = .ok (.dup, 1) ∧ decode code 12 = .ok (.invokespecial 18, 3) ∧ decode code 15 = .ok (.astore_n 2, 1) ∧ decode code 16 = .ok (.iconst 1, 1) ∧ decode code 17 = .ok (.newarray .long, 2) ∧ decode code 19 = .ok (.astore_n 3, 1) ∧ decode code 20 = .ok (.iconst 0, 1) ∧ decode code 21 = .ok (.istore 4, 2) := ⟨by decide +kernel, by decide +kernel, by decide +kernel, by decide +kernel, by decide +kernel, by decide +kernel, by decide +kernel, by decide +kernel, by decide +kernel, by decide +kernel, by decide +kernel, by decide +kernel, by decide +kernel⟩
set_option maxHeartbeats 8000000 in
set_option maxRecDepth 100000 in
/-- the walk of the law's body -/
theorem whole_start {p : Program} {e : Env} {s : State} {m : MethodId} {below : List Frame} {meth : Method} {c : Code} (l : Launch) (hflags : l.flags = flags0) {b L : Nat} {xs : Nat → Int32} (hL : L ≤ 3584) (C0 : lw_At p s m meth c b L xs) : W p l e room_1 s m #[Value.ref b] below meth c s.heap [] 0 0 (lw_Z below #[Value.ref b] s) (entryFrame m ([Value.ref b] : List Value).toArray 7) := by
  obtain ⟨hx, hb, hr, hml, hown, htsL, hX, hbl, hlocks, hgv⟩ := C0
  have hfl : l.stackTraces = false := by
    unfold Launch.stackTraces
    rw [hflags]
    decide +kernel
  obtain ⟨d0, d3, d4, d7, d8, d11, d12, d15, d16, d17, d19, d20, d21⟩ := dc_en
  have hts : ∀ w ∈ gw, w.before #[Value.ref b] s = true := fun w h => htsL w (List.mem_filter.mp h).1
  have hnw := nw_at htsL
  have hao := ao_at htsL
  obtain ⟨D, cy, hK⟩ := k_at htsL
  have hAB : ∀ a : Nat, a < s.heap.size → ¬ (fun q : Nat => s.heap.size ≤ q) a := fun a h => Nat.not_le.mpr h
  obtain ⟨ad, sm, aA, qt, had, hinj, hsf⟩ := sf_at (A := fun q : Nat => s.heap.size ≤ q) hgv htsL hAB
  have hTHx : ∃ sa, TH sa (fun q : Nat => s.heap.size ≤ q) s s.heap := by
    obtain ⟨sa, q1, -, -⟩ := ex_at (A := fun q : Nat => s.heap.size ≤ q) (fl_at hgv en_fl.2.2) hAB
    refine ⟨sa, vx_Zqof (htsL _ (List.mem_of_getElem? en_ws2.1)) (htsL _ (List.mem_of_getElem? en_ws2.2.2.1)) (fl_at hgv en_fl.1) hAB, vx_Zqof (htsL _ (List.mem_of_getElem? en_ws2.2.1)) (htsL _ (List.mem_of_getElem? en_ws2.2.2.1)) (fl_at hgv en_fl.2.1) hAB, vk_R.of (htsL _ (List.mem_of_getElem? en_ws2.2.2.2)) q1, fun w hw => va_Nw.of (th_tb w hw).2 (htsL w (th_tb w hw).1)⟩
  obtain ⟨sa, hTH⟩ := hTHx
  generalize hBe : (fun q : Nat => s.heap.size ≤ q) = B at hTH hsf
  have hB : ∀ q, B q ↔ s.heap.size ≤ q := fun q => by rw [← hBe]
  have hGd : ∃ GO : Nat → Nat, GO = gPl alO s.heap.size ad sm := ⟨_, rfl⟩
  obtain ⟨GO, hGO⟩ := hGd
  have hAO : okA KO alO GO s.heap.size := by rw [hGO]; exact okA_O had hinj
  have hSO : SFt GO aA (fun i => (qt i).1) (fun i => (qt i).2) B s s.heap := hsf GO (fun i hi => by rw [hGO]; exact gPl_c hi) (by rw [hGO]; exact gPl_w)
  obtain ⟨S4, h4, hI⟩ := first_is
  have hl := lv_entry ([.ref b]) (n := 7) (Nat.le_of_ble_eq_true rfl)
  rw [lg_entry_eq]
  generalize (lg_sl ([.ref b]) ++ List.replicate (7 - (lg_sl ([.ref b])).length) Slot.unset).toArray = ls at hl ⊢
  have hl : lv_has ls 7 [(0, .ref b)] := hl
  have hS : va_S B s.heap s.heap [] := va_S.rf
  obtain ⟨sl1, sl2, sl3, sl4⟩ := en_sl
  refine lnew (K := KO) (al := alO) (ci := 11) hx hb hown hts hK hAO rfl alO_end.2.2.1 rfl (by decide) ⟨_, rfl⟩ (tx_g en_ws.1 rfl) (tx_g en_ws.2.2.2.2.2.2.1 rfl) (by omega) (by omega) d0 (fun H1 hP1 z1 o1 => ?_)
  have hS1 : va_S B s.heap H1 [] := ⟨by omega, fun q h1 h2 => o1 q h1, fun _ h => nomatch h⟩
  refine lv_dup hx hb d3 rfl ?_
  refine linit (K := KO) (al := alO) (b1 := 1) (M := 2200) (S1 := S4) (base := s.heap.size) (SF := SFt GO aA (fun i => (qt i).1) (fun i => (qt i).2)) hx hb hml hown hts hnw hao hK SFt_F (c_init SFt_F SFt_T hAO (fun _ _ h => mX_good h) (okI_ok (fun _ _ h => mX_good h)) (okK_O hAO) mx_2200 h4) (by decide) (gw_in (mX_good mx_2200).1 rfl) (tx_g en_ws.2.2.2.2.2.2.1 rfl) ⟨by decide +kernel, by decide +kernel⟩ (by decide +kernel) (tx_g en_ws.2.2.1 rfl) (tx_g en_ws.2.2.2.1 rfl) rfl hSO hB (Nat.le_refl _) z1 hP1 hS1 hl.1 (Nat.le_of_ble_eq_true rfl) (by omega) (by omega) d4 (fun H2 locs2 hPO hS2 _ => ?_)
  refine lv_astore_n (lv' := [(1, .ref (GO 1)), (0, .ref b)]) hx hb d7 rfl hl (by decide) rfl (fun ls hl => ?_)
  have hb2 := wl_top hAO alO_end.1 hPO
  have hGe : ∃ GM : Nat → Nat, GM = gPl alM H2.size ad sm := ⟨_, rfl⟩
  obtain ⟨GM, hGM⟩ := hGe
  have hAM : okA KM alM GM H2.size := by rw [hGM]; exact okA_M
  have hSM : SFt GM aA (fun i => (qt i).1) (fun i => (qt i).2) B s s.heap := hsf GM (fun i hi => by rw [hGM]; exact gPl_c hi) (by rw [hGM]; exact gPl_w)
  refine lnew (K := KM) (al := alM) (ci := 12) hx hb hown hts hK hAM rfl alO_end.2.2.2 rfl (by decide) ⟨_, rfl⟩ (tx_g en_ws.2.1 rfl) (tx_g en_ws.2.2.2.2.2.2.2 rfl) (by omega) (by omega) d8 (fun H3 hP3 z3 o3 => ?_)
  have hS3 : va_S B s.heap H3 locs2 := ⟨by have := hS2.1; omega, fun q h1 h2 => (o3 q (Nat.lt_of_lt_of_le h1 hS2.1)).trans (hS2.2.1 q h1 h2), hS2.2.2⟩
  have hPO3 : va_P D kCl (wl KO GO cy alO S4) H3 := wl_keep hPO (fun a ha hlt => o3 _ hlt)
  refine lv_dup hx hb d11 rfl ?_
  refine linit (K := KM) (al := alM) (b1 := 500) (M := 2400) (S1 := SM0) (base := H2.size) (SF := SFt GM aA (fun i => (qt i).1) (fun i => (qt i).2)) hx hb hml hown hts hnw hao hK SFt_F (c_model SFt_F SFt_T hAM (fun _ _ h => mX_good h) mx_2400) (by decide) (gw_in (mX_good mx_2400).1 rfl) (tx_g en_ws.2.2.2.2.2.2.2 rfl) ⟨by decide +kernel, by decide +kernel⟩ (by decide +kernel) (tx_g en_ws.2.2.2.2.1 rfl) (tx_g en_ws.2.2.2.2.2.1 rfl) rfl hSM hB hS2.1 z3 hP3 hS3 hl.1 (Nat.le_of_ble_eq_true rfl) (by omega) (by omega) d12 (fun H4 locs4 hPM hS4 o4 => ?_)
  have hPO4 : va_P D kCl (wl KO GO cy alO S4) H4 := by
    refine wl_keep hPO3 (fun a ha hlt => o4 _ ?_)
    have := wl_piece hAO alO_len ha
    omega
  have hb4 := wl_top hAM alO_end.2.1 hPM
  refine lv_astore_n (lv' := [(2, .ref (GM 500)), (1, .ref (GO 1)), (0, .ref b)]) hx hb d15 rfl hl (by decide) rfl (fun ls hl => ?_)
  refine lv_iconst (v := 1) hx hb d16 (by decide) ?_
  refine va_newaK (atype := .long) hx hb (hts _ (gw_in at_ws.2.2.2 rfl)) rfl d17 rfl (by decide) (N := 1) (by decide) (by decide) (by show _ ≤ 601024; omega) (by show _ ≤ 7293034; omega) (h := H4.size) rfl (fun H5 cA q1 q2 q3 q4 q5 => ?_)
  have hcA : cA = cy 4 := ar_cy (t := 3) hK rfl rfl q5
  have hPt : va_P D kCl [(H4.size, .inl (cy 4, 1, .inr (.inl (fun _ => 0))))] H5 := by
    intro k q hk
    have hz : k < 1 := (List.getElem?_eq_some_iff.mp hk).1
    obtain rfl : k = 0 := by omega
    cases hk
    show H5[H4.size]? = some (vp_cell _ _)
    rw [q1, hcA]
    rfl
  have hS5 : va_S B s.heap H5 locs4 := ⟨by have := hS4.1; omega, fun q h1 h2 => (q3 q (Nat.lt_of_lt_of_le h1 hS4.1)).trans (hS4.2.1 q h1 h2), hS4.2.2⟩
  have hPO5 : va_P D kCl (wl KO GO cy alO S4) H5 := wl_keep hPO4 (fun a ha hlt => q3 _ hlt)
  have hPM5 : va_P D kCl (wl KM GM cy alM SM0) H5 := wl_keep hPM (fun a ha hlt => q3 _ hlt)
  refine lv_astore_n (lv' := [(3, .ref H4.size), (2, .ref (GM 500)), (1, .ref (GO 1)), (0, .ref b)]) hx hb d19 rfl hl (by decide) rfl (fun ls hl => ?_)
  refine lv_iconst (v := nI 0) hx hb d20 (by decide) ?_
  refine lv_istore (lv' := [(4, .int (nI 0)), (3, .ref H4.size), (2, .ref (GM 500)), (1, .ref (GO 1)), (0, .ref b)]) hx hb d21 hl (by decide) rfl (fun ls hl => ?_)
  have F : LB D cy GO GM aA (fun i => (qt i).1) (fun i => (qt i).2) s.heap.size H2.size H4.size B p s m meth c b L xs := ⟨⟨hx, hb, hml, hown, hlocks, hts, hnw, hK⟩, hr, ⟨hX, hbl, hL⟩, hB, ⟨hAO, hAM⟩, ⟨Nat.le_refl _, by omega, by omega⟩, hSO, hSM⟩
  refine W.widen (k := 1000 + 0) (n := 6500000 + 6 * 0) (by omega) (by omega) ?_
  exact l_loop hfl F hTH (c0 := 1000) (s0 := 6500000) (by decide) (by decide) 513 0 rfl S4 SM0 (fun _ => 0) H5 locs4 ls hI ⟨hPO5, hPM5, hPt⟩ hS5 hl
