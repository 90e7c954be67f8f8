/-! The law's steps: its frame, the world of both, an argument out of the script, a call of the class, of the reference. -/
def LB (D : va_G) (cy : Nat → ClassId) (GO GM : Nat → Nat) (aA : Nat) (adT bT : Nat → Nat) (bO bM qo : Nat) (B : Nat → Prop) (p : Program) (s : State) (m : MethodId) (meth : Method) (c : Code) (b L : Nat) (xs : Nat → Int32) : Prop :=
  LF D cy R_law 7 code p s m #[Value.ref b] meth c ∧ meth.sig.returnType = ret ∧ (va_X b L xs s s.heap ∧ b < s.heap.size ∧ L ≤ 3584) ∧ (∀ q, B q ↔ s.heap.size ≤ q) ∧ (okA KO alO GO bO ∧ okA KM alM GM bM) ∧ (s.heap.size ≤ bO ∧ bO + 154 ≤ bM ∧ bM + 67 ≤ qo) ∧ SFt GO aA adT bT B s s.heap ∧ SFt GM aA adT bT B s s.heap
def LWd (D : va_G) (cy : Nat → ClassId) (GO GM : Nat → Nat) (qo : Nat) (So Sm : St) (v : Nat → Int64) (H : Heap) : Prop :=
  va_P D kCl (wl KO GO cy alO So) H ∧ va_P D kCl (wl KM GM cy alM Sm) H ∧ va_P D kCl [(qo, .inl (cy 4, 1, .inr (.inl v)))] H
def lcwT : List (Nat × Nat × Nat × Nat × Nat) := [(21, 2201, 710, 711, 712), (25, 2406, 1784, 1785, 1786), (26, 2202, 719, 720, 721), (30, 2453, 1789, 1790, 1791), (31, 2203, 1032, 1033, 1034), (34, 2454, 1990, 1991, 1992), (35, 2204, 1062, 1063, 1064), (39, 2460, 2002, 2003, 2004), (40, 2205, 1089, 1090, 1091), (43, 2461, 2017, 2018, 2019), (44, 2206, 1104, 1105, 1106), (47, 2462, 2025, 2026, 2027), (48, 2207, 1122, 1123, 1124), (51, 2469, 2037, 2038, 2039), (52, 2208, 1156, 1157, 1158), (55, 2471, 2060, 2061, 2062), (56, 2209, 1177, 1178, 1179), (60, 2474, 2079, 2080, 2081), (61, 2210, 1191, 1192, 1193), (65, 2476, 2095, 2096, 2097), (66, 2211, 1207, 1208, 1209), (69, 2478, 2103, 2104, 2105), (70, 2212, 1215, 1216, 1217), (74, 2479, 2111, 2112, 2113), (75, 2213, 1219, 1220, 1221), (78, 2482, 2115, 2116, 2117), (79, 2214, 1229, 1230, 1231), (82, 2486, 2127, 2128, 2129), (83, 2215, 1268, 1269, 1270), (86, 2489, 2143, 2144, 2145), (87, 2216, 1294, 1295, 1296), (91, 2490, 2155, 2156, 2157), (92, 2217, 1298, 1299, 1300), (95, 2491, 2159, 2160, 2161), (96, 2218, 1315, 1316, 1317), (100, 2492, 2163, 2164, 2165), (101, 2219, 1322, 1323, 1324), (104, 2494, 2167, 2168, 2169), (105, 2220, 1330, 1331, 1332), (108, 2496, 2175, 2176, 2177), (109, 2221, 1349, 1350, 1351), (112, 2497, 2185, 2186, 2187), (118, 2500, 2189, 2190, 2191), (119, 2401, 1780, 1781, 1782), (122, 2223, 1353, 1354, 1355), (125, 2501, 2200, 2201, 2202), (126, 2224, 1369, 1370, 1371), (129, 2503, 2205, 2206, 2207), (130, 2225, 1383, 1384, 1385), (133, 2506, 2213, 2214, 2215), (134, 2226, 1421, 1422, 1423), (137, 2507, 2232, 2233, 2234), (138, 2227, 1431, 1432, 1433), (141, 2508, 2240, 2241, 2242)]
set_option maxRecDepth 100000 in
theorem lcwT_ok : ∀ q ∈ lcwT, lw_tbl[q.2.2.1]? = some (Cond.methodLink R_law q.1 (mN q.2.1)) ∧ lw_tbl[q.2.2.2.1]? = some (Cond.instanceMethod (mN q.2.1)) ∧ lw_tbl[q.2.2.2.2]? = some (Cond.selects (mN q.2.1).cls (mN q.2.1) (mN q.2.1)) := by decide +kernel
theorem lcw {i M p1 p2 p3 : Nat} (h : (i, M, p1, p2, p3) ∈ lcwT) : LCW R_law i M := by
  obtain ⟨h1, h2, h3⟩ := lcwT_ok _ h
  exact ⟨tx_g h1 rfl, tx_g h2 rfl, tx_g h3 rfl⟩
set_option maxRecDepth 100000 in
theorem law_long : lw_tbl[2244]? = some (Cond.constantLong R_law 19 4294967295) := by decide +kernel
theorem runO {G : Nat → Nat} {cy : Nat → ClassId} {D : va_G} {aA : Nat} {adT bT : Nat → Nat} {base : Nat} {l : Launch} (hA : okA KO alO G base) : ∀ n, RunOK KO G cy D alO (SFt G aA adT bT) l n := run_ok SFt_F SFt_T (okO_ok SFt_T (okK_O hA)) (okY_ok (okK_O hA)) (okI_ok (fun _ _ h => mX_good h)) (okK_O hA) (fun _ _ h => mX_good h)
theorem runM {G : Nat → Nat} {cy : Nat → ClassId} {D : va_G} {aA : Nat} {adT bT : Nat → Nat} {base : Nat} {l : Launch} (hA : okA KM alM G base) : ∀ n, RunOK KM G cy D alM (SFt G aA adT bT) l n := run_ok SFt_F SFt_T (okO_ok SFt_T (okK_M hA)) (okY_ok (okK_M hA)) (okI_none fun _ _ _ => rfl) (okK_M hA) (fun _ _ h => mX_good h)
def bz (x : Int32) : Int32 := if x = 0 then 0 else 1
theorem bz_b (x : Int32) : bz x = bI (!decide (x = 0)) := by
  unfold bz
  by_cases h : x = 0
  · rw [if_pos h, decide_eq_true h]; rfl
  · rw [if_neg h, decide_eq_false h]; rfl
def lgs (x y : Int32) : Int64 := (x.toInt64 <<< ((32 : Int32).toInt64 &&& 63)) ||| (y.toInt64 &&& 4294967295)
section STEPS
variable {D : va_G} {cy : Nat → ClassId} {GO GM : Nat → Nat} {aA : Nat} {adT bT : Nat → Nat} {bO bM qo : Nat} {B : Nat → Prop} {p : Program} {s : State} {m : MethodId} {meth : Method} {c : Code} {b L : Nat} {xs : Nat → Int32}
variable {l : Launch} {ev : Env} {below : List Frame} {H : Heap} {locs : List Loc} {cells slots : Nat} {Q : State → Prop} {pc : Nat} {ls : Array Slot} {So So' Sm Sm' : St} {v : Nat → Int64} {rest : List Value}
/-- an element of the script -/
theorem la (F : LB D cy GO GM aA adT bT bO bM qo B p s m meth c b L xs) {i : Nat} (j : Nat) (hj : i + j < L) (hS : va_S B s.heap H locs) (h0 : ls[0]? = some (.val (.ref b))) (h4 : ls[4]? = some (.val (.int (nI i)))) {n : Int} (hn : Int32.ofInt n = nI j) (d0 : decode code pc = .ok (.aload_n 0, 1)) (d1 : decode code (pc + 1) = .ok (.iload 4, 2)) (d3 : decode code (pc + 1 + 2) = .ok (.iconst n, 1)) (d4 : decode code (pc + 1 + 2 + 1) = .ok (.iadd, 1)) (d5 : decode code (pc + 1 + 2 + 1 + 1) = .ok (.iaload, 1))
    (kk : W p l ev room_1 s m #[Value.ref b] below meth c H locs cells slots Q (F0 m (pc + 6) ls (.int (xs (i + j)) :: rest))) : W p l ev room_1 s m #[Value.ref b] below meth c H locs cells slots Q (F0 m pc ls rest) := by
  obtain ⟨⟨hx, hb, -⟩, hr, ⟨hX, hbl, hL⟩, hB, -⟩ := F
  have hbA : ¬ B b := fun h => Nat.not_le.mpr hbl ((hB b).mp h)
  refine lv_aload_n hx hb d0 rfl h0 ?_
  refine lv_iload hx hb d1 h4 ?_
  refine lv_iconst hx hb d3 hn ?_
  refine lv_iadd hx hb d4 ?_
  rw [nI_add]
  refine va_sld hx hb hX hbl hbA hS (nI_in hj (by omega)) d5 ?_
  rw [nI_clamp (show i + j < 2 ^ 31 by omega)]
  exact kk
/-- the sixth: its place is a bipush -/
theorem la6 (F : LB D cy GO GM aA adT bT bO bM qo B p s m meth c b L xs) {i : Nat} (hj : i + 6 < L) (hS : va_S B s.heap H locs) (h0 : ls[0]? = some (.val (.ref b))) (h4 : ls[4]? = some (.val (.int (nI i)))) (d0 : decode code pc = .ok (.aload_n 0, 1)) (d1 : decode code (pc + 1) = .ok (.iload 4, 2)) (d3 : decode code (pc + 1 + 2) = .ok (.bipush 6, 2)) (d4 : decode code (pc + 1 + 2 + 2) = .ok (.iadd, 1)) (d5 : decode code (pc + 1 + 2 + 2 + 1) = .ok (.iaload, 1))
    (kk : W p l ev room_1 s m #[Value.ref b] below meth c H locs cells slots Q (F0 m (pc + 7) ls (.int (xs (i + 6)) :: rest))) : W p l ev room_1 s m #[Value.ref b] below meth c H locs cells slots Q (F0 m pc ls rest) := by
  obtain ⟨⟨hx, hb, -⟩, hr, ⟨hX, hbl, hL⟩, hB, -⟩ := F
  have hbA : ¬ B b := fun h => Nat.not_le.mpr hbl ((hB b).mp h)
  refine lv_aload_n hx hb d0 rfl h0 ?_
  refine lv_iload hx hb d1 h4 ?_
  refine lv_bipush (v := nI 6) hx hb d3 (by decide) ?_
  refine lv_iadd hx hb d4 ?_
  rw [nI_add]
  refine va_sld hx hb hX hbl hbA hS (nI_in hj (by omega)) d5 ?_
  rw [nI_clamp (show i + 6 < 2 ^ 31 by omega)]
  exact kk
/-- 'is not 0' -/
theorem lz (F : LB D cy GO GM aA adT bT bO bM qo B p s m meth c b L xs) {x : Int32} (d0 : decode code pc = .ok (.ifCond .eq 7, 3)) (d3 : decode code (pc + 3) = .ok (.iconst 1, 1)) (d4 : decode code (pc + 3 + 1) = .ok (.goto 4, 3)) (d7 : decode code (pc + 7) = .ok (.iconst 0, 1))
    (kk : W p l ev room_1 s m #[Value.ref b] below meth c H locs cells slots Q (F0 m (pc + 8) ls (.int (bz x) :: rest))) : W p l ev room_1 s m #[Value.ref b] below meth c H locs cells slots Q (F0 m pc ls (.int x :: rest)) := by
  obtain ⟨⟨hx, hb, -⟩, -⟩ := F
  refine lv_if_eq hx hb d0 (tgt := pc + 7) (by omega) (fun h => ?_) (fun h => ?_)
  · refine lv_iconst (v := 0) hx hb d7 (by decide) ?_
    rw [show bz x = 0 from if_pos h] at kk
    exact kk
  · refine lv_iconst (v := 1) hx hb d3 (by decide) ?_
    refine lv_goto hx hb d4 (tgt := pc + 8) (by omega) ?_
    rw [show bz x = 1 from if_neg h] at kk
    exact kk
/-- a long out of two -/
theorem ll (F : LB D cy GO GM aA adT bT bO bM qo B p s m meth c b L xs) {i : Nat} (j : Nat) (hj : i + j + 1 < L) (hS : va_S B s.heap H locs) (h0 : ls[0]? = some (.val (.ref b))) (h4 : ls[4]? = some (.val (.int (nI i)))) {n n1 : Int} (hn : Int32.ofInt n = nI j) (hn1 : Int32.ofInt n1 = nI (j + 1)) (d0 : decode code pc = .ok (.aload_n 0, 1)) (d1 : decode code (pc + 1) = .ok (.iload 4, 2)) (d3 : decode code (pc + 1 + 2) = .ok (.iconst n, 1)) (d4 : decode code (pc + 1 + 2 + 1) = .ok (.iadd, 1)) (d5 : decode code (pc + 1 + 2 + 1 + 1) = .ok (.iaload, 1))
    (d6 : decode code (pc + 6) = .ok (.i2l, 1)) (d7 : decode code (pc + 7) = .ok (.bipush 32, 2)) (d9 : decode code (pc + 9) = .ok (.lshl, 1)) (e0 : decode code (pc + 10) = .ok (.aload_n 0, 1)) (e1 : decode code (pc + 10 + 1) = .ok (.iload 4, 2)) (e3 : decode code (pc + 10 + 1 + 2) = .ok (.iconst n1, 1)) (e4 : decode code (pc + 10 + 1 + 2 + 1) = .ok (.iadd, 1)) (e5 : decode code (pc + 10 + 1 + 2 + 1 + 1) = .ok (.iaload, 1)) (e6 : decode code (pc + 16) = .ok (.i2l, 1)) (e7 : decode code (pc + 17) = .ok (.ldc2_w 19, 3)) (e8 : decode code (pc + 20) = .ok (.land, 1)) (e9 : decode code (pc + 21) = .ok (.lor, 1))
    (kk : W p l ev room_1 s m #[Value.ref b] below meth c H locs cells slots Q (F0 m (pc + 22) ls (.long (lgs (xs (i + j)) (xs (i + (j + 1)))) :: rest))) : W p l ev room_1 s m #[Value.ref b] below meth c H locs cells slots Q (F0 m pc ls rest) := by
  have F' := F
  obtain ⟨⟨hx, hb, hml, hown, hlocks, hts, -⟩, -⟩ := F'
  refine la F j (by omega) hS h0 h4 hn d0 d1 d3 d4 d5 ?_
  refine lv_i2l hx hb d6 rfl ?_
  refine lv_bipush (v := 32) hx hb d7 (by decide) ?_
  refine lv_lshl hx hb d9 rfl ?_
  refine la F (j + 1) (by omega) hS h0 h4 hn1 e0 e1 e3 e4 e5 ?_
  refine lv_i2l hx hb e6 rfl ?_
  refine lv_ldc2 hx hb hown (hts _ (tx_g law_long rfl)) e7 ?_
  refine lv_land hx hb e8 ?_
  refine lv_lor hx hb e9 ?_
  exact kk
theorem ll6 (F : LB D cy GO GM aA adT bT bO bM qo B p s m meth c b L xs) {i : Nat} (hj : i + 6 < L) (hS : va_S B s.heap H locs) (h0 : ls[0]? = some (.val (.ref b))) (h4 : ls[4]? = some (.val (.int (nI i)))) (d0 : decode code pc = .ok (.aload_n 0, 1)) (d1 : decode code (pc + 1) = .ok (.iload 4, 2)) (d3 : decode code (pc + 1 + 2) = .ok (.iconst 5, 1)) (d4 : decode code (pc + 1 + 2 + 1) = .ok (.iadd, 1)) (d5 : decode code (pc + 1 + 2 + 1 + 1) = .ok (.iaload, 1))
    (d6 : decode code (pc + 6) = .ok (.i2l, 1)) (d7 : decode code (pc + 7) = .ok (.bipush 32, 2)) (d9 : decode code (pc + 9) = .ok (.lshl, 1)) (e0 : decode code (pc + 10) = .ok (.aload_n 0, 1)) (e1 : decode code (pc + 10 + 1) = .ok (.iload 4, 2)) (e3 : decode code (pc + 10 + 1 + 2) = .ok (.bipush 6, 2)) (e4 : decode code (pc + 10 + 1 + 2 + 2) = .ok (.iadd, 1)) (e5 : decode code (pc + 10 + 1 + 2 + 2 + 1) = .ok (.iaload, 1)) (e6 : decode code (pc + 17) = .ok (.i2l, 1)) (e7 : decode code (pc + 18) = .ok (.ldc2_w 19, 3)) (e8 : decode code (pc + 21) = .ok (.land, 1)) (e9 : decode code (pc + 22) = .ok (.lor, 1))
    (kk : W p l ev room_1 s m #[Value.ref b] below meth c H locs cells slots Q (F0 m (pc + 23) ls (.long (lgs (xs (i + 5)) (xs (i + 6))) :: rest))) : W p l ev room_1 s m #[Value.ref b] below meth c H locs cells slots Q (F0 m pc ls rest) := by
  have F' := F
  obtain ⟨⟨hx, hb, hml, hown, hlocks, hts, -⟩, -⟩ := F'
  refine la F 5 (by omega) hS h0 h4 (by decide) d0 d1 d3 d4 d5 ?_
  refine lv_i2l hx hb d6 rfl ?_
  refine lv_bipush (v := 32) hx hb d7 (by decide) ?_
  refine lv_lshl hx hb d9 rfl ?_
  refine la6 F hj hS h0 h4 e0 e1 e3 e4 e5 ?_
  refine lv_i2l hx hb e6 rfl ?_
  refine lv_ldc2 hx hb hown (hts _ (tx_g law_long rfl)) e7 ?_
  refine lv_land hx hb e8 ?_
  refine lv_lor hx hb e9 ?_
  exact kk
theorem lroom {d : Nat} (hd : d ≤ 100) (hc : cells ≤ 601024) (hs : slots ≤ 7293034) : lfit room_1 d cells slots := ⟨by show d + 5 ≤ 2048; omega, by show 64 * (d + 5) ≤ 84000; omega, hc, hs⟩
/-- a call of the class -/
theorem cO (F : LB D cy GO GM aA adT bT bO bM qo B p s m meth c b L xs) {vs : List Value} {d M i : Nat} {r : Int32} {e : MI × List (Nat × Xi)} (h : RC KO d M (.ref 1 :: vs) So (some (.int r)) So') (he : mX M = some e) (hcs : csum (.ref 1 :: vs) ≤ e.1.2.2.1) (hk : KO.1 1 = (0, e.1.2.2.2.2)) (hw : LCW R_law i M) (hna : (parseMethodDescriptor (mN M).desc).map (fun d => d.parameters.length) = some vs.length) (hvs : ∀ G : Nat → Nat, vs.map (gv G) = vs) (hd : d ≤ 100) (hc : cells ≤ 601024) (hs : slots ≤ 7293034) (hW : LWd D cy GO GM qo So Sm v H) (hS : va_S B s.heap H locs) (hls : ls.size = 7) (hrest : (rest.map fun v => v.category).sum ≤ 8) (hdec : decode code pc = .ok (.invokevirtual i, 3))
    (kk : ∀ (H1 : Heap) (locs1 : List Loc), LWd D cy GO GM qo So' Sm v H1 → va_S B s.heap H1 locs1 → W p l ev room_1 s m #[Value.ref b] below meth c H1 locs1 cells slots Q (F0 m (pc + 3) ls (.int r :: rest))) : W p l ev room_1 s m #[Value.ref b] below meth c H locs cells slots Q (F0 m pc ls (vs.reverse ++ .ref (GO 1) :: rest)) := by
  obtain ⟨FL, hr, ⟨hX, hbl, hL⟩, hB, ⟨hAO, hAM⟩, ⟨g1, g2, g3⟩, hSO, hSM⟩ := F
  obtain ⟨hPO, hPM, hPt⟩ := hW
  have hg := mX_good he
  have hM := metS_rc (runO (l := l) (cy := cy) (D := D) (aA := aA) (adT := adT) (bT := bT) hAO) (okI_ok (fun _ _ h => mX_good h)) he hg hcs h
  refine law_call (al := alO) SFt_F hM he hg FL hSO (fun q hq => (hB q).mpr (hq.elim (fun ⟨a, ha, e⟩ => e ▸ Nat.le_trans g1 (wl_piece hAO alO_len ha).1) (Nat.le_trans hS.1))) hAO hw hna hk (by decide +kernel) (hvs GO) (lroom hd hc hs) hPO hS hls hrest hdec (fun H1 locs1 k1 k2 k3 k4 => ?_)
  refine kk H1 locs1 ⟨k1, wl_keep hPM (fun a ha hlt => k4 _ hlt (fun a' ha' => ?_)), hPt.kept fun k q hk' => ?_⟩ k2
  · have h1 := wl_piece hAM alM_len ha
    have h2 := wl_piece hAO alO_len ha'
    omega
  · have hz : k < 1 := (List.getElem?_eq_some_iff.mp hk').1
    have hlt := (hPt k q hk').lt
    obtain rfl : k = 0 := by omega
    cases hk'
    refine k4 _ hlt (fun a' ha' => ?_)
    have h2 := wl_piece hAO alO_len ha'
    show GO a' ≠ qo
    omega
/-- a call of the reference -/
theorem cM (F : LB D cy GO GM aA adT bT bO bM qo B p s m meth c b L xs) {vs : List Value} {d M i : Nat} {r : Int32} {e : MI × List (Nat × Xi)} (h : RC KM d M (.ref 500 :: vs) Sm (some (.int r)) Sm') (he : mX M = some e) (hcs : csum (.ref 500 :: vs) ≤ e.1.2.2.1) (hk : KM.1 500 = (0, e.1.2.2.2.2)) (hw : LCW R_law i M) (hna : (parseMethodDescriptor (mN M).desc).map (fun d => d.parameters.length) = some vs.length) (hvs : ∀ G : Nat → Nat, vs.map (gv G) = vs) (hd : d ≤ 100) (hc : cells ≤ 601024) (hs : slots ≤ 7293034) (hW : LWd D cy GO GM qo So Sm v H) (hS : va_S B s.heap H locs) (hls : ls.size = 7) (hrest : (rest.map fun v => v.category).sum ≤ 8) (hdec : decode code pc = .ok (.invokevirtual i, 3))
    (kk : ∀ (H1 : Heap) (locs1 : List Loc), LWd D cy GO GM qo So Sm' v H1 → va_S B s.heap H1 locs1 → W p l ev room_1 s m #[Value.ref b] below meth c H1 locs1 cells slots Q (F0 m (pc + 3) ls (.int r :: rest))) : W p l ev room_1 s m #[Value.ref b] below meth c H locs cells slots Q (F0 m pc ls (vs.reverse ++ .ref (GM 500) :: rest)) := by
  obtain ⟨FL, hr, ⟨hX, hbl, hL⟩, hB, ⟨hAO, hAM⟩, ⟨g1, g2, g3⟩, hSO, hSM⟩ := F
  obtain ⟨hPO, hPM, hPt⟩ := hW
  have hg := mX_good he
  have hM := metS_rc (runM (l := l) (cy := cy) (D := D) (aA := aA) (adT := adT) (bT := bT) hAM) (okI_none fun _ _ _ => rfl) he hg hcs h
  refine law_call (al := alM) SFt_F hM he hg FL hSM (fun q hq => (hB q).mpr (hq.elim (fun ⟨a, ha, e⟩ => e ▸ Nat.le_trans g1 (Nat.le_trans (Nat.le_add_right _ 154) (Nat.le_trans g2 (wl_piece hAM alM_len ha).1))) (Nat.le_trans hS.1))) hAM hw hna hk (by decide +kernel) (hvs GM) (lroom hd hc hs) hPM hS hls hrest hdec (fun H1 locs1 k1 k2 k3 k4 => ?_)
  refine kk H1 locs1 ⟨wl_keep hPO (fun a ha hlt => k4 _ hlt (fun a' ha' => ?_)), k1, hPt.kept fun k q hk' => ?_⟩ k2
  · have h1 := wl_piece hAO alO_len ha
    have h2 := wl_piece hAM alM_len ha'
    omega
  · have hz : k < 1 := (List.getElem?_eq_some_iff.mp hk').1
    have hlt := (hPt k q hk').lt
    obtain rfl : k = 0 := by omega
    cases hk'
    refine k4 _ hlt (fun a' ha' => ?_)
    have h2 := wl_piece hAM alM_len ha'
    show GM a' ≠ qo
    omega
end STEPS
/-- from a place of the law's loop the machine goes on to Q, whatever the states are that the invariant ties -/
def LGo (D : va_G) (cy : Nat → ClassId) (GO GM : Nat → Nat) (qo : Nat) (B : Nat → Prop) (p : Program) (l : Launch) (ev : Env) (s : State) (m : MethodId) (below : List Frame) (meth : Method) (c : Code) (b i : Nat) (Q : State → Prop) (cells slots pc : Nat) : Prop :=
  ∀ (So Sm : St) (v : Nat → Int64) (H : Heap) (locs : List Loc) (ls : Array Slot), Inv So Sm → LWd D cy GO GM qo So Sm v H → va_S B s.heap H locs → lv_has ls 7 [(4, .int (nI i)), (3, .ref qo), (2, .ref (GM 500)), (1, .ref (GO 1)), (0, .ref b)] → W p l ev room_1 s m #[Value.ref b] below meth c H locs cells slots Q (F0 m pc ls [])
