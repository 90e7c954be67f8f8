/-! The law's case of the thief. -/
/-- both thieves, with what the law asks of them -/
theorem thief_law {So Sm : St} (h : Inv So Sm) (p x y : Int32) : ∃ w n : Nat, rQ So 1 9 = some w ∧ KO.1 w = (0, 10) ∧ KO.1 (w + 86) = (0, 7) ∧ o_tb_size (w + 86) So = some (nI n, So) ∧ ((∃ r So' Sm', ¬ p < 0 ∧ p < nI n ∧ vcB x y = true ∧ o_stolen p x y So = some (r, So') ∧ m_thief p x y Sm = some (r, Sm') ∧ rI Sm' 500 0 = 0 ∧ Inv So' Sm') ∨ ((p < 0 ∨ ¬ p < nI n ∨ vcB x y = false) ∧ ∃ r Sm', m_thief p x y Sm = some (r, Sm') ∧ rI Sm' 500 0 = 1 ∧ Inv So Sm')) := by
  have hI := h
  have h9 := thief_ok h p x y
  obtain ⟨T, W, V, L, v, Z, d, ht, hz, hs, hu, hm, hp, hr⟩ := h
  obtain ⟨hw, hO, hL, hB, hv, hT⟩ := ht
  have hn := hw.b
  have th : ∀ z : Int32, Fr PQ Sm (wI Sm 500 0 z) := fun z => Fr.wI rfl
  obtain ⟨f, t1, t2⟩ := hT.pg
  obtain ⟨n9, hn9, e9, g9, b9⟩ := h9
  have hc : rI Sm 502 4 = nI (ct T 4) := (hO.n (by decide)).trans (hw.n (by decide))
  have h4 : ct T 4 < 2 ^ 31 := by have := hn.2.2.2.2.1; omega
  obtain rfl : n9 = ct T 4 := nI_ofs (e9.symm.trans hc) (by omega) h4
  refine ⟨v, ct T 4, hv, hT.k, t1.k, tb_size t1, ?_⟩
  cases hb : inN p (ct T 4) && vcB x y with
  | true =>
    obtain ⟨h1, h2⟩ := Bool.and_eq_true_iff.mp hb
    obtain ⟨q, hq, rfl⟩ := inN_of h1 (by omega)
    obtain ⟨l, w, hl, hww, rfl, rfl⟩ := vc_of h2
    obtain ⟨r, So', Sm', e1, e2, e3, e4⟩ := stolen_ok (Sm := wI Sm 500 0 0) hw hz.2.2 hq hl hww hv hT hz.1 (hO.fr (th 0) fun a k q => PQ_or q) (hz.2.1.fr (th 0) fun k => rfl)
    refine Or.inl ⟨r, So', Sm', nI_pos (by omega), nI_lt hq h4, h2, e1, ?_, ?_, hI.rd (e3.mo fun a k q => PO_205 q) ((th 0).tr (e4.mo fun a k q => frH_Q q))⟩
    · unfold m_thief m_thief_28 m_thief_50
      rw [if_neg (nI_pos (by omega)), if_neg g4_12, c4, hO.n (by decide), hw.n (by decide), if_pos (nI_lt hq (by omega)), m_isVoice_ok, bnq, h2, if_neg bT, ltq, rI_wI, if_neg (by decide), e2, bnq]
    · rw [e4.i rfl, rI_wI]
  | false =>
    obtain ⟨Sm', e1, e2, e3⟩ := b9 hb
    refine Or.inr ⟨?_, 0, Sm', e1, e2, e3⟩
    unfold inN at hb
    by_cases q1 : p < 0
    · exact Or.inl q1
    · rw [decide_eq_false q1] at hb
      by_cases q2 : p < nI (ct T 4)
      · rw [decide_eq_true q2] at hb
        exact Or.inr (Or.inr hb)
      · exact Or.inr (Or.inl q2)
section LT2
variable {D : va_G} {cy : Nat → ClassId} {GO GM : Nat → Nat} {aA : Nat} {adT bT : Nat → Nat} {bO bM qo sa : Nat} {B : Nat → Prop} {p : Program} {s : State} {m : MethodId} {meth : Method} {c : Code} {b L : Nat} {xs : Nat → Int32}
variable {l : Launch} {ev : Env} {below : List Frame} {cells slots : Nat} {Q : State → Prop} {H : Heap} {locs : List Loc} {ls : Array Slot} {So So' Sm : St} {v v' : Nat → Int64} {pc : Nat}
set_option maxRecDepth 100000 in
theorem cTh (F : LB D cy GO GM aA adT bT bO bM qo B p s m meth c b L xs) (hTH : TH sa B s s.heap) {k x y z : Int32} (hM : ∀ sz, Met l yLT wsLT rmT (va_Pc [.ref (GO 1), .int x, .int y, .int z, .ref qo] (PLt GO cy D aA adT bT So v sa qo sz)) (QLt GO cy D qo k So' v' (RGt GO qo sz)) 1 6 (RGt GO qo sz)) (hc : cells + 1 ≤ 601024) (hs : slots + 6 ≤ 7293034) (hW : LWd D cy GO GM qo So Sm v H) (hS : va_S B s.heap H locs) (hls : ls.size = 7) (hdec : decode code pc = .ok (.invokestatic 113, 3))
    (kk : ∀ (H1 : Heap) (locs1 : List Loc), LWd D cy GO GM qo So' Sm v' H1 → va_S B s.heap H1 locs1 → W p l ev room_1 s m #[Value.ref b] below meth c H1 locs1 (cells + 1) (slots + 6) Q (F0 m (pc + 3) ls [.int k])) : W p l ev room_1 s m #[Value.ref b] below meth c H locs cells slots Q (F0 m pc ls [.ref qo, .int z, .int y, .int x, .ref (GO 1)]) := by
  obtain ⟨⟨hx, hb, hml, hown, hlocks, hts, hnw, hK⟩, hr, ⟨hX, hbl, hL⟩, hB, ⟨hAO, hAM⟩, ⟨g1, g2, g3⟩, hSO, hSM⟩ := F
  obtain ⟨hPO, hPM, hPt⟩ := hW
  have hin : ∀ q, RGt GO qo H.size q → B q := fun q hq => (hB q).mpr (by
    rcases hq with ⟨a, ha, rfl⟩ | rfl | h
    · exact Nat.le_trans g1 (wl_piece hAO alO_len ha).1
    · omega
    · exact Nat.le_trans hS.1 h)
  have hpc : ∀ U : State, U.heap = H → s.WarmedH U.vm → va_Pc [Value.ref (GO 1), .int x, .int y, .int z, .ref qo] (PLt GO cy D aA adT bT So v sa qo H.size) (#[Value.ref (GO 1), .int x, .int y, .int z, .ref qo]) U := by
    intro U hU hW
    refine ⟨rfl, by rw [hU], by rw [hU]; exact hPO, by rw [hU]; exact hPt, va_K.moved hW.alike hK, fun w hw => nw_warm hw hW (hnw w hw), ?_, ?_⟩
    · rw [hU]
      exact (SFt_F (G := GO)).2.2 _ _ _ _ hin ((SFt_F (G := GO)).1 _ s U _ hW.alike ((SFt_F (G := GO)).2.1 _ _ _ _ hS.2.1 hSO))
    · rw [hU]
      exact ((hTH.kept hS.2.1).moved hW).narrow hin
  have hrun := vx_runSW (p := p) (e := ev) (R := room_1) (H := H) (locs := locs) (cells := cells) (slots := slots) (below := below) (meth := meth) (g := F0 m pc ls [.ref qo, .int z, .int y, .int x, .ref (GO 1)]) (As := [.ref (GO 1), .int x, .int y, .int z, .ref qo]) (rest := []) (nL := 7) (index := 113) (own := R_law) (hh := [(0, 12, 15, 13)]) (bytes := method_3_code) (maxL := 6) (ret := some .int) ⟨hx, hb, hml, hown, hts⟩ (hM H.size) ⟨⟨rfl, rfl, Nat.le_of_ble_eq_true rfl, Nat.le_of_ble_eq_true rfl, pay_in hts lt_good, List.mem_cons_self⟩, hts _ (tx_g lt_ws.2.2.2.2.2.1 rfl), hts _ (tx_g lt_ws.2.2.2.2.2.2.2.2.1 rfl), ⟨by decide, by decide⟩, nargs_of (y := yLT) (n := 5) (by decide +kernel), hts _ (tx_g lt_ws.2.2.2.2.2.2.1 rfl), hts _ (tx_g lt_ws.2.2.2.2.2.2.2.1 rfl)⟩ ⟨plt_blind, hpc⟩ rfl rfl hls rfl (lv_room (Nat.le_of_ble_eq_true rfl)) hdec ⟨hc, hs⟩
  intro T hT X
  obtain ⟨v9, st₀, t, T', L9, h0, X', hL9, e1, e2, ⟨hv, hp1, hp2, hz, hk⟩, st⟩ := hrun T hT X
  cases hv
  rw [h0] at hz hk
  have hMk : va_P D kCl (wl KM GM cy alM Sm) T'.heap := wl_keep hPM (fun a ha hlt => by
    rw [e1]
    refine hk _ hlt (fun z => ?_)
    have h1 := wl_piece hAM alM_len ha
    rcases z with ⟨a', ha', e⟩ | e | h
    · have h2 := wl_piece hAO alO_len ha'
      omega
    · omega
    · omega)
  obtain ⟨t2, a1, b1⟩ := kk T'.heap (locs ++ L9) ⟨by rw [e1]; exact hp1, hMk, by rw [e1]; exact hp2⟩
    ⟨Nat.le_trans hS.1 (by rw [e1]; exact hz), fun q h1 h2 => by rw [e1, hk q (Nat.lt_of_lt_of_le h1 hS.1) (fun z => h2 (hin q z))]; exact hS.2.1 q h1 h2, fun q hq => by
      rcases List.mem_append.mp hq with h | h
      · exact hS.2.2 q h
      · exact hin _ (hL9 q h)⟩ T' rfl X'
  exact ⟨t2, st t2 a1, b1⟩
set_option maxRecDepth 100000 in
theorem dc_21 : decode code 939 = .ok (.aload_n 1, 1) ∧ decode code 940 = .ok (.aload_n 0, 1) ∧ decode code 941 = .ok (.iload 4, 2) ∧ decode code 943 = .ok (.iconst 1, 1) ∧ decode code 944 = .ok (.iadd, 1) ∧ decode code 945 = .ok (.iaload, 1) ∧ decode code 946 = .ok (.aload_n 0, 1) ∧ decode code 947 = .ok (.iload 4, 2) ∧ decode code 949 = .ok (.iconst 2, 1) ∧ decode code 950 = .ok (.iadd, 1) ∧ decode code 951 = .ok (.iaload, 1) ∧ decode code 952 = .ok (.aload_n 0, 1) ∧ decode code 953 = .ok (.iload 4, 2) ∧ decode code 955 = .ok (.iconst 3, 1) ∧ decode code 956 = .ok (.iadd, 1) ∧ decode code 957 = .ok (.iaload, 1) ∧ decode code 958 = .ok (.aload_n 3, 1) ∧ decode code 959 = .ok (.invokestatic 113, 3) ∧ decode code 962 = .ok (.istore 5, 2) ∧ decode code 964 = .ok (.aload_n 2, 1) ∧ decode code 965 = .ok (.aload_n 0, 1) ∧ decode code 966 = .ok (.iload 4, 2) ∧ decode code 968 = .ok (.iconst 1, 1) ∧ decode code 969 = .ok (.iadd, 1) ∧ decode code 970 = .ok (.iaload, 1) ∧ decode code 971 = .ok (.aload_n 0, 1) ∧ decode code 972 = .ok (.iload 4, 2) ∧ decode code 974 = .ok (.iconst 2, 1) ∧ decode code 975 = .ok (.iadd, 1) ∧ decode code 976 = .ok (.iaload, 1) ∧ decode code 977 = .ok (.aload_n 0, 1) ∧ decode code 978 = .ok (.iload 4, 2) ∧ decode code 980 = .ok (.iconst 3, 1) ∧ decode code 981 = .ok (.iadd, 1) ∧ decode code 982 = .ok (.iaload, 1) ∧ decode code 983 = .ok (.invokevirtual 118, 3) ∧ decode code 986 = .ok (.istore 6, 2) ∧ decode code 988 = .ok (.aload_n 2, 1) ∧ decode code 989 = .ok (.invokevirtual 119, 3) ∧ decode code 992 = .ok (.iload 5, 2) ∧ decode code 994 = .ok (.if_icmp .eq 5, 3) ∧ decode code 997 = .ok (.iconst 0, 1) ∧ decode code 998 = .ok (.ireturn, 1) ∧ decode code 999 = .ok (.iload 5, 2) ∧ decode code 1001 = .ok (.ifCond .ne 15, 3) ∧ decode code 1004 = .ok (.aload_n 3, 1) ∧ decode code 1005 = .ok (.iconst 0, 1) ∧ decode code 1006 = .ok (.laload, 1) ∧ decode code 1007 = .ok (.iload 6, 2) ∧ decode code 1009 = .ok (.i2l, 1) ∧ decode code 1010 = .ok (.lcmp, 1) ∧ decode code 1011 = .ok (.ifCond .eq 5, 3) ∧ decode code 1014 = .ok (.iconst 0, 1) ∧ decode code 1015 = .ok (.ireturn, 1) ∧ decode code 1016 = .ok (.goto 216, 3) := ⟨by decide +kernel, by decide +kernel, by decide +kernel, by decide +kernel, by decide +kernel, by decide +kernel, by decide +kernel, by decide +kernel, by decide +kernel, by decide +kernel, by decide +kernel, by decide +kernel, by decide +kernel, by decide +kernel, by decide +kernel, by decide +kernel, by decide +kernel, by decide +kernel, by decide +kernel, by decide +kernel, by decide +kernel, by decide +kernel, by decide +kernel, by decide +kernel, by decide +kernel, by decide +kernel, by decide +kernel, by decide +kernel, by decide +kernel, by decide +kernel, by decide +kernel, by decide +kernel, by decide +kernel, by decide +kernel, by decide +kernel, by decide +kernel, by decide +kernel, by decide +kernel, by decide +kernel, by decide +kernel, by decide +kernel, by decide +kernel, by decide +kernel, by decide +kernel, by decide +kernel, by decide +kernel, by decide +kernel, by decide +kernel, by decide +kernel, by decide +kernel, by decide +kernel, by decide +kernel, by decide +kernel, by decide +kernel, by decide +kernel⟩
set_option maxHeartbeats 4000000 in
set_option maxRecDepth 100000 in
theorem lc_21 (hfl : l.stackTraces = false) (F : LB D cy GO GM aA adT bT bO bM qo B p s m meth c b L xs) (hTH : TH sa B s s.heap) {i : Nat} (hij : i + 6 < L) (hc : cells + 1 ≤ 601024) (hs : slots + 6 ≤ 7293034) (K : LGo D cy GO GM qo B p l ev s m below meth c b i Q (cells + 1) (slots + 6) 1232) : LGo D cy GO GM qo B p l ev s m below meth c b i Q cells slots 939 := by
  intro So Sm v H locs ls hI hW hS hl
  obtain ⟨d939, d940, d941, d943, d944, d945, d946, d947, d949, d950, d951, d952, d953, d955, d956, d957, d958, d959, d962, d964, d965, d966, d968, d969, d970, d971, d972, d974, d975, d976, d977, d978, d980, d981, d982, d983, d986, d988, d989, d992, d994, d997, d998, d999, d1001, d1004, d1005, d1006, d1007, d1009, d1010, d1011, d1014, d1015, d1016⟩ := dc_21
  have F' := F
  obtain ⟨⟨hx, hb, hml, hown, hlocks, hts, hnw, hK⟩, hr, hXX, hB, ⟨hAO, hAM⟩, ⟨g1, g2, g3⟩, hSO, hSM⟩ := F'
  have hqo : ∀ a ∈ alO, GO a ≠ qo := fun a ha => by
    have := wl_piece hAO alO_len ha
    omega
  obtain ⟨w, n, a1, a2, a3, a4, hcase⟩ := thief_law hI (xs (i + 1)) (xs (i + 2)) (xs (i + 3))
  -- what both cases give
  obtain ⟨k, r, So', Sm', v', hM, e2, e3, hI', hk⟩ : ∃ (k r : Int32) (So' Sm' : St) (v' : Nat → Int64), (∀ sz, Met l yLT wsLT rmT (va_Pc [.ref (GO 1), .int (xs (i + 1)), .int (xs (i + 2)), .int (xs (i + 3)), .ref qo] (PLt GO cy D aA adT bT So v sa qo sz)) (QLt GO cy D qo k So' v' (RGt GO qo sz)) 1 6 (RGt GO qo sz)) ∧ m_thief (xs (i + 1)) (xs (i + 2)) (xs (i + 3)) Sm = some (r, Sm') ∧ rI Sm' 500 0 = k ∧ Inv So' Sm' ∧ (k = 0 ∧ v' 0 = r.toInt64 ∨ k = 1) := by
    rcases hcase with ⟨r, So', Sm', q1, q2, q3, q4, q5, q6, q7⟩ | ⟨q1, r, Sm', q5, q6, q7⟩
    · exact ⟨0, r, So', Sm', vp_updL v 0 r.toInt64, fun sz => c_lthief_ok hAO hqo (s_thief (d := 0) a1 a2 a3 a4 q1 q2 q3 q4) sz, q5, q6, q7, Or.inl ⟨rfl, by simp [vp_updL]⟩⟩
    · exact ⟨1, r, So, Sm', v, fun sz => c_lthief_bad hfl hAO hqo a1 a2 a3 a4 q1 sz, q5, q6, q7, Or.inr rfl⟩
  refine lv_aload_n hx hb d939 rfl (lv_at hl 3 rfl) ?_
  refine la F 1 (by omega) hS (lv_at hl 4 rfl) (lv_at hl 0 rfl) (by decide) d940 d941 d943 d944 d945 ?_
  refine la F 2 (by omega) hS (lv_at hl 4 rfl) (lv_at hl 0 rfl) (by decide) d946 d947 d949 d950 d951 ?_
  refine la F 3 (by omega) hS (lv_at hl 4 rfl) (lv_at hl 0 rfl) (by decide) d952 d953 d955 d956 d957 ?_
  refine lv_aload_n hx hb d958 rfl (lv_at hl 1 rfl) ?_
  refine cTh F hTH hM hc hs hW hS hl.1 d959 (fun H1 locs1 hW hS => ?_)
  refine lv_istore (lv' := [(5, .int k), (4, .int (nI i)), (3, .ref qo), (2, .ref (GM 500)), (1, .ref (GO 1)), (0, .ref b)]) hx hb d962 hl (by decide) rfl (fun ls hl => ?_)
  refine lv_aload_n hx hb d964 rfl (lv_at hl 3 rfl) ?_
  refine la F 1 (by omega) hS (lv_at hl 5 rfl) (lv_at hl 1 rfl) (by decide) d965 d966 d968 d969 d970 ?_
  refine la F 2 (by omega) hS (lv_at hl 5 rfl) (lv_at hl 1 rfl) (by decide) d971 d972 d974 d975 d976 ?_
  refine la F 3 (by omega) hS (lv_at hl 5 rfl) (lv_at hl 1 rfl) (by decide) d977 d978 d980 d981 d982 ?_
  refine cM F (vs := [.int (xs (i + 1)), .int (xs (i + 2)), .int (xs (i + 3))]) (rest := []) (s_m_thief (d := 0) _ _ _ Sm e2) mx_2500 (Nat.le_of_ble_eq_true rfl) rfl (lcw (i := 118) (M := 2500) (p1 := 2189) (p2 := 2190) (p3 := 2191) (List.mem_of_getElem? (i := 42) rfl)) (show (parseMethodDescriptor (mN 2500).desc).map (fun d => d.parameters.length) = some 3 by decide +kernel) (fun _ => rfl) (Nat.le_of_ble_eq_true rfl) hc hs hW hS hl.1 (Nat.le_of_ble_eq_true rfl) d983 (fun H1 locs1 hW hS => ?_)
  refine lv_istore (lv' := [(6, .int r), (5, .int k), (4, .int (nI i)), (3, .ref qo), (2, .ref (GM 500)), (1, .ref (GO 1)), (0, .ref b)]) hx hb d986 hl (by decide) rfl (fun ls hl => ?_)
  refine lv_aload_n hx hb d988 rfl (lv_at hl 4 rfl) ?_
  refine cM F (vs := []) (rest := []) (s_m_thrown (d := 0) Sm' rfl) mx_2401 (Nat.le_of_ble_eq_true rfl) rfl (lcw (i := 119) (M := 2401) (p1 := 1780) (p2 := 1781) (p3 := 1782) (List.mem_of_getElem? (i := 43) rfl)) (by decide +kernel) (fun _ => rfl) (Nat.le_of_ble_eq_true rfl) hc hs hW hS hl.1 (Nat.le_of_ble_eq_true rfl) d989 (fun H1 locs1 hW hS => ?_)
  refine lv_iload hx hb d992 (lv_at hl 1 rfl) ?_
  refine lv_icmp_eq (tgt := 999) hx hb d994 (by decide) (fun _ => ?_) (fun h => absurd e3 h)
  have hK1 : W p l ev room_1 s m #[Value.ref b] below meth c H1 locs1 (cells + 1) (slots + 6) Q (F0 m 1016 ls []) := by
    refine lv_goto hx hb d1016 (tgt := 1232) (by decide) ?_
    exact K So' Sm' v' H1 locs1 ls hI' hW hS (lv_sub hl [2, 3, 4, 5, 6] rfl)
  refine lv_iload hx hb d999 (lv_at hl 1 rfl) ?_
  refine lv_if_ne hx hb d1001 (tgt := 1016) (by decide) (fun _ => hK1) (fun hk0 => ?_)
  have hv' : v' 0 = r.toInt64 := by
    rcases hk with ⟨-, h⟩ | h
    · exact h
    · rw [h] at hk0
      exact absurd hk0 (by decide)
  refine lv_aload_n hx hb d1004 rfl (lv_at hl 3 rfl) ?_
  refine lv_iconst (v := 0) hx hb d1005 (by decide) ?_
  refine va_lald hx hb hK hW.2.2 0 3 (i := 0) rfl rfl (show ¬ ((0 : Int32) < 0 ∨ 1 ≤ (0 : Int32).toNatClampNeg) by decide) d1006 ?_
  refine lv_iload hx hb d1007 (lv_at hl 0 rfl) ?_
  refine lv_i2l (v := r.toInt64) hx hb d1009 rfl ?_
  refine W.lcmp hx hb d1010 ?_
  refine lv_if_eq hx hb d1011 (tgt := 1016) (by decide) (fun _ => hK1) (fun h => absurd ((lg_cmp_eq _ _).mpr ?_) h)
  rw [show (0 : Int32).toNatClampNeg = 0 by decide]
  exact hv'
end LT2
