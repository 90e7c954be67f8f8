/-! The law's cases: 7, 8, 9, 10, 11, 12, 13. -/
section CASES
variable {D : va_G} {cy : Nat → ClassId} {GO GM : Nat → Nat} {aA : Nat} {adT bT : Nat → Nat} {bO bM qo : Nat} {B : Nat → Prop} {p : Program} {s : State} {m : MethodId} {meth : Method} {c : Code} {b L : Nat} {xs : Nat → Int32}
variable {l : Launch} {ev : Env} {below : List Frame} {cells slots : Nat} {Q : State → Prop}
set_option maxRecDepth 100000 in
theorem dc_7 : decode code 497 = .ok (.aload_n 1, 1) ∧ decode code 498 = .ok (.aload_n 0, 1) ∧ decode code 499 = .ok (.iload 4, 2) ∧ decode code 501 = .ok (.iconst 1, 1) ∧ decode code 502 = .ok (.iadd, 1) ∧ decode code 503 = .ok (.iaload, 1) ∧ decode code 504 = .ok (.aload_n 0, 1) ∧ decode code 505 = .ok (.iload 4, 2) ∧ decode code 507 = .ok (.iconst 2, 1) ∧ decode code 508 = .ok (.iadd, 1) ∧ decode code 509 = .ok (.iaload, 1) ∧ decode code 510 = .ok (.invokevirtual 52, 3) ∧ decode code 513 = .ok (.aload_n 2, 1) ∧ decode code 514 = .ok (.aload_n 0, 1) ∧ decode code 515 = .ok (.iload 4, 2) ∧ decode code 517 = .ok (.iconst 1, 1) ∧ decode code 518 = .ok (.iadd, 1) ∧ decode code 519 = .ok (.iaload, 1) ∧ decode code 520 = .ok (.aload_n 0, 1) ∧ decode code 521 = .ok (.iload 4, 2) ∧ decode code 523 = .ok (.iconst 2, 1) ∧ decode code 524 = .ok (.iadd, 1) ∧ decode code 525 = .ok (.iaload, 1) ∧ decode code 526 = .ok (.invokevirtual 55, 3) ∧ decode code 529 = .ok (.if_icmp .eq 703, 3) ∧ decode code 532 = .ok (.iconst 0, 1) ∧ decode code 533 = .ok (.ireturn, 1) := ⟨by decide +kernel, by decide +kernel, by decide +kernel, by decide +kernel, by decide +kernel, by decide +kernel, by decide +kernel, by decide +kernel, by decide +kernel, by decide +kernel, by decide +kernel, by decide +kernel, by decide +kernel, by decide +kernel, by decide +kernel, by decide +kernel, by decide +kernel, by decide +kernel, by decide +kernel, by decide +kernel, by decide +kernel, by decide +kernel, by decide +kernel, by decide +kernel, by decide +kernel, by decide +kernel, by decide +kernel⟩
set_option maxHeartbeats 4000000 in
/-- call -/
theorem lc_7 (F : LB D cy GO GM aA adT bT bO bM qo B p s m meth c b L xs) {i : Nat} (hij : i + 6 < L) (hc : cells ≤ 601024) (hs : slots ≤ 7293034) (K : LGo D cy GO GM qo B p l ev s m below meth c b i Q cells slots 1232) : LGo D cy GO GM qo B p l ev s m below meth c b i Q cells slots 497 := by
  intro So Sm v H locs ls hI hW hS hl
  obtain ⟨d497, d498, d499, d501, d502, d503, d504, d505, d507, d508, d509, d510, d513, d514, d515, d517, d518, d519, d520, d521, d523, d524, d525, d526, d529, d532, d533⟩ := dc_7
  have F' := F
  obtain ⟨⟨hx, hb, -⟩, -⟩ := F'
  obtain ⟨r, So', Sm', e1, e2, hI'⟩ := call_ok hI ((xs (i + 1))) ((xs (i + 2)))
  refine lv_aload_n hx hb d497 rfl (lv_at hl 3 rfl) ?_
  refine la F 1 (by omega) hS (lv_at hl 4 rfl) (lv_at hl 0 rfl) (by decide) d498 d499 d501 d502 d503 ?_
  refine la F 2 (by omega) hS (lv_at hl 4 rfl) (lv_at hl 0 rfl) (by decide) d504 d505 d507 d508 d509 ?_
  refine cO F (vs := [.int (xs (i + 1)), .int (xs (i + 2))]) (rest := []) (s_o_call (d := 0) _ _ So e1) mx_2208 (Nat.le_of_ble_eq_true rfl) rfl (lcw (i := 52) (M := 2208) (p1 := 1156) (p2 := 1157) (p3 := 1158) (List.mem_of_getElem? (i := 14) rfl)) (show (parseMethodDescriptor (mN 2208).desc).map (fun d => d.parameters.length) = some 2 by decide +kernel) (fun _ => rfl) (Nat.le_of_ble_eq_true rfl) hc hs hW hS hl.1 (Nat.le_of_ble_eq_true rfl) d510 (fun H1 locs1 hW hS => ?_)
  refine lv_aload_n hx hb d513 rfl (lv_at hl 2 rfl) ?_
  refine la F 1 (by omega) hS (lv_at hl 4 rfl) (lv_at hl 0 rfl) (by decide) d514 d515 d517 d518 d519 ?_
  refine la F 2 (by omega) hS (lv_at hl 4 rfl) (lv_at hl 0 rfl) (by decide) d520 d521 d523 d524 d525 ?_
  refine cM F (vs := [.int (xs (i + 1)), .int (xs (i + 2))]) (rest := [.int r]) (s_m_call (d := 0) _ _ Sm e2) mx_2471 (Nat.le_of_ble_eq_true rfl) rfl (lcw (i := 55) (M := 2471) (p1 := 2060) (p2 := 2061) (p3 := 2062) (List.mem_of_getElem? (i := 15) rfl)) (show (parseMethodDescriptor (mN 2471).desc).map (fun d => d.parameters.length) = some 2 by decide +kernel) (fun _ => rfl) (Nat.le_of_ble_eq_true rfl) hc hs hW hS hl.1 (Nat.le_of_ble_eq_true rfl) d526 (fun H1 locs1 hW hS => ?_)
  exact lv_icmp_eq (tgt := 1232) hx hb d529 (by decide) (fun _ => K So' Sm' v _ _ ls hI' hW hS hl) (fun h => absurd rfl h)
set_option maxRecDepth 100000 in
theorem dc_8 : decode code 534 = .ok (.aload_n 1, 1) ∧ decode code 535 = .ok (.aload_n 0, 1) ∧ decode code 536 = .ok (.iload 4, 2) ∧ decode code 538 = .ok (.iconst 1, 1) ∧ decode code 539 = .ok (.iadd, 1) ∧ decode code 540 = .ok (.iaload, 1) ∧ decode code 541 = .ok (.invokevirtual 56, 3) ∧ decode code 544 = .ok (.aload_n 2, 1) ∧ decode code 545 = .ok (.aload_n 0, 1) ∧ decode code 546 = .ok (.iload 4, 2) ∧ decode code 548 = .ok (.iconst 1, 1) ∧ decode code 549 = .ok (.iadd, 1) ∧ decode code 550 = .ok (.iaload, 1) ∧ decode code 551 = .ok (.invokevirtual 60, 3) ∧ decode code 554 = .ok (.if_icmp .eq 678, 3) ∧ decode code 557 = .ok (.iconst 0, 1) ∧ decode code 558 = .ok (.ireturn, 1) := ⟨by decide +kernel, by decide +kernel, by decide +kernel, by decide +kernel, by decide +kernel, by decide +kernel, by decide +kernel, by decide +kernel, by decide +kernel, by decide +kernel, by decide +kernel, by decide +kernel, by decide +kernel, by decide +kernel, by decide +kernel, by decide +kernel, by decide +kernel⟩
set_option maxHeartbeats 4000000 in
/-- pick -/
theorem lc_8 (F : LB D cy GO GM aA adT bT bO bM qo B p s m meth c b L xs) {i : Nat} (hij : i + 6 < L) (hc : cells ≤ 601024) (hs : slots ≤ 7293034) (K : LGo D cy GO GM qo B p l ev s m below meth c b i Q cells slots 1232) : LGo D cy GO GM qo B p l ev s m below meth c b i Q cells slots 534 := by
  intro So Sm v H locs ls hI hW hS hl
  obtain ⟨d534, d535, d536, d538, d539, d540, d541, d544, d545, d546, d548, d549, d550, d551, d554, d557, d558⟩ := dc_8
  have F' := F
  obtain ⟨⟨hx, hb, -⟩, -⟩ := F'
  obtain ⟨r, So', Sm', e1, e2, hI'⟩ := pick_ok hI ((xs (i + 1)))
  refine lv_aload_n hx hb d534 rfl (lv_at hl 3 rfl) ?_
  refine la F 1 (by omega) hS (lv_at hl 4 rfl) (lv_at hl 0 rfl) (by decide) d535 d536 d538 d539 d540 ?_
  refine cO F (vs := [.int (xs (i + 1))]) (rest := []) (s_o_pick (d := 0) _ So e1) mx_2209 (Nat.le_of_ble_eq_true rfl) rfl (lcw (i := 56) (M := 2209) (p1 := 1177) (p2 := 1178) (p3 := 1179) (List.mem_of_getElem? (i := 16) rfl)) (show (parseMethodDescriptor (mN 2209).desc).map (fun d => d.parameters.length) = some 1 by decide +kernel) (fun _ => rfl) (Nat.le_of_ble_eq_true rfl) hc hs hW hS hl.1 (Nat.le_of_ble_eq_true rfl) d541 (fun H1 locs1 hW hS => ?_)
  refine lv_aload_n hx hb d544 rfl (lv_at hl 2 rfl) ?_
  refine la F 1 (by omega) hS (lv_at hl 4 rfl) (lv_at hl 0 rfl) (by decide) d545 d546 d548 d549 d550 ?_
  refine cM F (vs := [.int (xs (i + 1))]) (rest := [.int r]) (s_m_pick (d := 0) _ Sm e2) mx_2474 (Nat.le_of_ble_eq_true rfl) rfl (lcw (i := 60) (M := 2474) (p1 := 2079) (p2 := 2080) (p3 := 2081) (List.mem_of_getElem? (i := 17) rfl)) (show (parseMethodDescriptor (mN 2474).desc).map (fun d => d.parameters.length) = some 1 by decide +kernel) (fun _ => rfl) (Nat.le_of_ble_eq_true rfl) hc hs hW hS hl.1 (Nat.le_of_ble_eq_true rfl) d551 (fun H1 locs1 hW hS => ?_)
  exact lv_icmp_eq (tgt := 1232) hx hb d554 (by decide) (fun _ => K So' Sm' v _ _ ls hI' hW hS hl) (fun h => absurd rfl h)
set_option maxRecDepth 100000 in
theorem dc_9 : decode code 559 = .ok (.aload_n 1, 1) ∧ decode code 560 = .ok (.aload_n 0, 1) ∧ decode code 561 = .ok (.iload 4, 2) ∧ decode code 563 = .ok (.iconst 1, 1) ∧ decode code 564 = .ok (.iadd, 1) ∧ decode code 565 = .ok (.iaload, 1) ∧ decode code 566 = .ok (.aload_n 0, 1) ∧ decode code 567 = .ok (.iload 4, 2) ∧ decode code 569 = .ok (.iconst 2, 1) ∧ decode code 570 = .ok (.iadd, 1) ∧ decode code 571 = .ok (.iaload, 1) ∧ decode code 572 = .ok (.invokevirtual 61, 3) ∧ decode code 575 = .ok (.aload_n 2, 1) ∧ decode code 576 = .ok (.aload_n 0, 1) ∧ decode code 577 = .ok (.iload 4, 2) ∧ decode code 579 = .ok (.iconst 1, 1) ∧ decode code 580 = .ok (.iadd, 1) ∧ decode code 581 = .ok (.iaload, 1) ∧ decode code 582 = .ok (.aload_n 0, 1) ∧ decode code 583 = .ok (.iload 4, 2) ∧ decode code 585 = .ok (.iconst 2, 1) ∧ decode code 586 = .ok (.iadd, 1) ∧ decode code 587 = .ok (.iaload, 1) ∧ decode code 588 = .ok (.invokevirtual 65, 3) ∧ decode code 591 = .ok (.if_icmp .eq 641, 3) ∧ decode code 594 = .ok (.iconst 0, 1) ∧ decode code 595 = .ok (.ireturn, 1) := ⟨by decide +kernel, by decide +kernel, by decide +kernel, by decide +kernel, by decide +kernel, by decide +kernel, by decide +kernel, by decide +kernel, by decide +kernel, by decide +kernel, by decide +kernel, by decide +kernel, by decide +kernel, by decide +kernel, by decide +kernel, by decide +kernel, by decide +kernel, by decide +kernel, by decide +kernel, by decide +kernel, by decide +kernel, by decide +kernel, by decide +kernel, by decide +kernel, by decide +kernel, by decide +kernel, by decide +kernel⟩
set_option maxHeartbeats 4000000 in
/-- christen -/
theorem lc_9 (F : LB D cy GO GM aA adT bT bO bM qo B p s m meth c b L xs) {i : Nat} (hij : i + 6 < L) (hc : cells ≤ 601024) (hs : slots ≤ 7293034) (K : LGo D cy GO GM qo B p l ev s m below meth c b i Q cells slots 1232) : LGo D cy GO GM qo B p l ev s m below meth c b i Q cells slots 559 := by
  intro So Sm v H locs ls hI hW hS hl
  obtain ⟨d559, d560, d561, d563, d564, d565, d566, d567, d569, d570, d571, d572, d575, d576, d577, d579, d580, d581, d582, d583, d585, d586, d587, d588, d591, d594, d595⟩ := dc_9
  have F' := F
  obtain ⟨⟨hx, hb, -⟩, -⟩ := F'
  obtain ⟨r, So', Sm', e1, e2, hI'⟩ := christen_ok hI ((xs (i + 1))) ((xs (i + 2)))
  refine lv_aload_n hx hb d559 rfl (lv_at hl 3 rfl) ?_
  refine la F 1 (by omega) hS (lv_at hl 4 rfl) (lv_at hl 0 rfl) (by decide) d560 d561 d563 d564 d565 ?_
  refine la F 2 (by omega) hS (lv_at hl 4 rfl) (lv_at hl 0 rfl) (by decide) d566 d567 d569 d570 d571 ?_
  refine cO F (vs := [.int (xs (i + 1)), .int (xs (i + 2))]) (rest := []) (s_o_christen (d := 0) _ _ So e1) mx_2210 (Nat.le_of_ble_eq_true rfl) rfl (lcw (i := 61) (M := 2210) (p1 := 1191) (p2 := 1192) (p3 := 1193) (List.mem_of_getElem? (i := 18) rfl)) (show (parseMethodDescriptor (mN 2210).desc).map (fun d => d.parameters.length) = some 2 by decide +kernel) (fun _ => rfl) (Nat.le_of_ble_eq_true rfl) hc hs hW hS hl.1 (Nat.le_of_ble_eq_true rfl) d572 (fun H1 locs1 hW hS => ?_)
  refine lv_aload_n hx hb d575 rfl (lv_at hl 2 rfl) ?_
  refine la F 1 (by omega) hS (lv_at hl 4 rfl) (lv_at hl 0 rfl) (by decide) d576 d577 d579 d580 d581 ?_
  refine la F 2 (by omega) hS (lv_at hl 4 rfl) (lv_at hl 0 rfl) (by decide) d582 d583 d585 d586 d587 ?_
  refine cM F (vs := [.int (xs (i + 1)), .int (xs (i + 2))]) (rest := [.int r]) (s_m_christen (d := 0) _ _ Sm e2) mx_2476 (Nat.le_of_ble_eq_true rfl) rfl (lcw (i := 65) (M := 2476) (p1 := 2095) (p2 := 2096) (p3 := 2097) (List.mem_of_getElem? (i := 19) rfl)) (show (parseMethodDescriptor (mN 2476).desc).map (fun d => d.parameters.length) = some 2 by decide +kernel) (fun _ => rfl) (Nat.le_of_ble_eq_true rfl) hc hs hW hS hl.1 (Nat.le_of_ble_eq_true rfl) d588 (fun H1 locs1 hW hS => ?_)
  exact lv_icmp_eq (tgt := 1232) hx hb d591 (by decide) (fun _ => K So' Sm' v _ _ ls hI' hW hS hl) (fun h => absurd rfl h)
set_option maxRecDepth 100000 in
theorem dc_10 : decode code 596 = .ok (.aload_n 1, 1) ∧ decode code 597 = .ok (.aload_n 0, 1) ∧ decode code 598 = .ok (.iload 4, 2) ∧ decode code 600 = .ok (.iconst 1, 1) ∧ decode code 601 = .ok (.iadd, 1) ∧ decode code 602 = .ok (.iaload, 1) ∧ decode code 603 = .ok (.invokevirtual 66, 3) ∧ decode code 606 = .ok (.aload_n 2, 1) ∧ decode code 607 = .ok (.aload_n 0, 1) ∧ decode code 608 = .ok (.iload 4, 2) ∧ decode code 610 = .ok (.iconst 1, 1) ∧ decode code 611 = .ok (.iadd, 1) ∧ decode code 612 = .ok (.iaload, 1) ∧ decode code 613 = .ok (.invokevirtual 69, 3) ∧ decode code 616 = .ok (.if_icmp .eq 616, 3) ∧ decode code 619 = .ok (.iconst 0, 1) ∧ decode code 620 = .ok (.ireturn, 1) := ⟨by decide +kernel, by decide +kernel, by decide +kernel, by decide +kernel, by decide +kernel, by decide +kernel, by decide +kernel, by decide +kernel, by decide +kernel, by decide +kernel, by decide +kernel, by decide +kernel, by decide +kernel, by decide +kernel, by decide +kernel, by decide +kernel, by decide +kernel⟩
set_option maxHeartbeats 4000000 in
/-- pass -/
theorem lc_10 (F : LB D cy GO GM aA adT bT bO bM qo B p s m meth c b L xs) {i : Nat} (hij : i + 6 < L) (hc : cells ≤ 601024) (hs : slots ≤ 7293034) (K : LGo D cy GO GM qo B p l ev s m below meth c b i Q cells slots 1232) : LGo D cy GO GM qo B p l ev s m below meth c b i Q cells slots 596 := by
  intro So Sm v H locs ls hI hW hS hl
  obtain ⟨d596, d597, d598, d600, d601, d602, d603, d606, d607, d608, d610, d611, d612, d613, d616, d619, d620⟩ := dc_10
  have F' := F
  obtain ⟨⟨hx, hb, -⟩, -⟩ := F'
  obtain ⟨r, So', Sm', e1, e2, hI'⟩ := pass_ok hI ((xs (i + 1)))
  refine lv_aload_n hx hb d596 rfl (lv_at hl 3 rfl) ?_
  refine la F 1 (by omega) hS (lv_at hl 4 rfl) (lv_at hl 0 rfl) (by decide) d597 d598 d600 d601 d602 ?_
  refine cO F (vs := [.int (xs (i + 1))]) (rest := []) (s_o_pass (d := 0) _ So e1) mx_2211 (Nat.le_of_ble_eq_true rfl) rfl (lcw (i := 66) (M := 2211) (p1 := 1207) (p2 := 1208) (p3 := 1209) (List.mem_of_getElem? (i := 20) rfl)) (show (parseMethodDescriptor (mN 2211).desc).map (fun d => d.parameters.length) = some 1 by decide +kernel) (fun _ => rfl) (Nat.le_of_ble_eq_true rfl) hc hs hW hS hl.1 (Nat.le_of_ble_eq_true rfl) d603 (fun H1 locs1 hW hS => ?_)
  refine lv_aload_n hx hb d606 rfl (lv_at hl 2 rfl) ?_
  refine la F 1 (by omega) hS (lv_at hl 4 rfl) (lv_at hl 0 rfl) (by decide) d607 d608 d610 d611 d612 ?_
  refine cM F (vs := [.int (xs (i + 1))]) (rest := [.int r]) (s_m_pass (d := 0) _ Sm e2) mx_2478 (Nat.le_of_ble_eq_true rfl) rfl (lcw (i := 69) (M := 2478) (p1 := 2103) (p2 := 2104) (p3 := 2105) (List.mem_of_getElem? (i := 21) rfl)) (show (parseMethodDescriptor (mN 2478).desc).map (fun d => d.parameters.length) = some 1 by decide +kernel) (fun _ => rfl) (Nat.le_of_ble_eq_true rfl) hc hs hW hS hl.1 (Nat.le_of_ble_eq_true rfl) d613 (fun H1 locs1 hW hS => ?_)
  exact lv_icmp_eq (tgt := 1232) hx hb d616 (by decide) (fun _ => K So' Sm' v _ _ ls hI' hW hS hl) (fun h => absurd rfl h)
set_option maxRecDepth 100000 in
theorem dc_11 : decode code 621 = .ok (.aload_n 1, 1) ∧ decode code 622 = .ok (.invokevirtual 70, 3) ∧ decode code 625 = .ok (.aload_n 2, 1) ∧ decode code 626 = .ok (.invokevirtual 74, 3) ∧ decode code 629 = .ok (.if_icmp .eq 603, 3) ∧ decode code 632 = .ok (.iconst 0, 1) ∧ decode code 633 = .ok (.ireturn, 1) := ⟨by decide +kernel, by decide +kernel, by decide +kernel, by decide +kernel, by decide +kernel, by decide +kernel, by decide +kernel⟩
set_option maxHeartbeats 4000000 in
/-- undo -/
theorem lc_11 (F : LB D cy GO GM aA adT bT bO bM qo B p s m meth c b L xs) {i : Nat} (hij : i + 6 < L) (hc : cells ≤ 601024) (hs : slots ≤ 7293034) (K : LGo D cy GO GM qo B p l ev s m below meth c b i Q cells slots 1232) : LGo D cy GO GM qo B p l ev s m below meth c b i Q cells slots 621 := by
  intro So Sm v H locs ls hI hW hS hl
  obtain ⟨d621, d622, d625, d626, d629, d632, d633⟩ := dc_11
  have F' := F
  obtain ⟨⟨hx, hb, -⟩, -⟩ := F'
  obtain ⟨r, So', Sm', e1, e2, hI'⟩ := undo_ok hI
  refine lv_aload_n hx hb d621 rfl (lv_at hl 3 rfl) ?_
  refine cO F (vs := []) (rest := []) (s_o_undo (d := 0)  So e1) mx_2212 (Nat.le_of_ble_eq_true rfl) rfl (lcw (i := 70) (M := 2212) (p1 := 1215) (p2 := 1216) (p3 := 1217) (List.mem_of_getElem? (i := 22) rfl)) (show (parseMethodDescriptor (mN 2212).desc).map (fun d => d.parameters.length) = some 0 by decide +kernel) (fun _ => rfl) (Nat.le_of_ble_eq_true rfl) hc hs hW hS hl.1 (Nat.le_of_ble_eq_true rfl) d622 (fun H1 locs1 hW hS => ?_)
  refine lv_aload_n hx hb d625 rfl (lv_at hl 2 rfl) ?_
  refine cM F (vs := []) (rest := [.int r]) (s_m_undo (d := 0)  Sm e2) mx_2479 (Nat.le_of_ble_eq_true rfl) rfl (lcw (i := 74) (M := 2479) (p1 := 2111) (p2 := 2112) (p3 := 2113) (List.mem_of_getElem? (i := 23) rfl)) (show (parseMethodDescriptor (mN 2479).desc).map (fun d => d.parameters.length) = some 0 by decide +kernel) (fun _ => rfl) (Nat.le_of_ble_eq_true rfl) hc hs hW hS hl.1 (Nat.le_of_ble_eq_true rfl) d626 (fun H1 locs1 hW hS => ?_)
  exact lv_icmp_eq (tgt := 1232) hx hb d629 (by decide) (fun _ => K So' Sm' v _ _ ls hI' hW hS hl) (fun h => absurd rfl h)
set_option maxRecDepth 100000 in
theorem dc_12 : decode code 634 = .ok (.aload_n 1, 1) ∧ decode code 635 = .ok (.aload_n 0, 1) ∧ decode code 636 = .ok (.iload 4, 2) ∧ decode code 638 = .ok (.iconst 1, 1) ∧ decode code 639 = .ok (.iadd, 1) ∧ decode code 640 = .ok (.iaload, 1) ∧ decode code 641 = .ok (.invokevirtual 75, 3) ∧ decode code 644 = .ok (.aload_n 2, 1) ∧ decode code 645 = .ok (.aload_n 0, 1) ∧ decode code 646 = .ok (.iload 4, 2) ∧ decode code 648 = .ok (.iconst 1, 1) ∧ decode code 649 = .ok (.iadd, 1) ∧ decode code 650 = .ok (.iaload, 1) ∧ decode code 651 = .ok (.invokevirtual 78, 3) ∧ decode code 654 = .ok (.if_icmp .eq 578, 3) ∧ decode code 657 = .ok (.iconst 0, 1) ∧ decode code 658 = .ok (.ireturn, 1) := ⟨by decide +kernel, by decide +kernel, by decide +kernel, by decide +kernel, by decide +kernel, by decide +kernel, by decide +kernel, by decide +kernel, by decide +kernel, by decide +kernel, by decide +kernel, by decide +kernel, by decide +kernel, by decide +kernel, by decide +kernel, by decide +kernel, by decide +kernel⟩
set_option maxHeartbeats 4000000 in
/-- judged -/
theorem lc_12 (F : LB D cy GO GM aA adT bT bO bM qo B p s m meth c b L xs) {i : Nat} (hij : i + 6 < L) (hc : cells ≤ 601024) (hs : slots ≤ 7293034) (K : LGo D cy GO GM qo B p l ev s m below meth c b i Q cells slots 1232) : LGo D cy GO GM qo B p l ev s m below meth c b i Q cells slots 634 := by
  intro So Sm v H locs ls hI hW hS hl
  obtain ⟨d634, d635, d636, d638, d639, d640, d641, d644, d645, d646, d648, d649, d650, d651, d654, d657, d658⟩ := dc_12
  have F' := F
  obtain ⟨⟨hx, hb, -⟩, -⟩ := F'
  obtain ⟨r, So', Sm', e1, e2, hI'⟩ := judged_ok hI ((xs (i + 1)))
  refine lv_aload_n hx hb d634 rfl (lv_at hl 3 rfl) ?_
  refine la F 1 (by omega) hS (lv_at hl 4 rfl) (lv_at hl 0 rfl) (by decide) d635 d636 d638 d639 d640 ?_
  refine cO F (vs := [.int (xs (i + 1))]) (rest := []) (s_o_judged (d := 0) _ So e1) mx_2213 (Nat.le_of_ble_eq_true rfl) rfl (lcw (i := 75) (M := 2213) (p1 := 1219) (p2 := 1220) (p3 := 1221) (List.mem_of_getElem? (i := 24) rfl)) (show (parseMethodDescriptor (mN 2213).desc).map (fun d => d.parameters.length) = some 1 by decide +kernel) (fun _ => rfl) (Nat.le_of_ble_eq_true rfl) hc hs hW hS hl.1 (Nat.le_of_ble_eq_true rfl) d641 (fun H1 locs1 hW hS => ?_)
  refine lv_aload_n hx hb d644 rfl (lv_at hl 2 rfl) ?_
  refine la F 1 (by omega) hS (lv_at hl 4 rfl) (lv_at hl 0 rfl) (by decide) d645 d646 d648 d649 d650 ?_
  refine cM F (vs := [.int (xs (i + 1))]) (rest := [.int r]) (s_m_judged (d := 0) _ Sm e2) mx_2482 (Nat.le_of_ble_eq_true rfl) rfl (lcw (i := 78) (M := 2482) (p1 := 2115) (p2 := 2116) (p3 := 2117) (List.mem_of_getElem? (i := 25) rfl)) (show (parseMethodDescriptor (mN 2482).desc).map (fun d => d.parameters.length) = some 1 by decide +kernel) (fun _ => rfl) (Nat.le_of_ble_eq_true rfl) hc hs hW hS hl.1 (Nat.le_of_ble_eq_true rfl) d651 (fun H1 locs1 hW hS => ?_)
  exact lv_icmp_eq (tgt := 1232) hx hb d654 (by decide) (fun _ => K So' Sm' v _ _ ls hI' hW hS hl) (fun h => absurd rfl h)
set_option maxRecDepth 100000 in
theorem dc_13 : decode code 659 = .ok (.aload_n 1, 1) ∧ decode code 660 = .ok (.aload_n 0, 1) ∧ decode code 661 = .ok (.iload 4, 2) ∧ decode code 663 = .ok (.iconst 1, 1) ∧ decode code 664 = .ok (.iadd, 1) ∧ decode code 665 = .ok (.iaload, 1) ∧ decode code 666 = .ok (.aload_n 0, 1) ∧ decode code 667 = .ok (.iload 4, 2) ∧ decode code 669 = .ok (.iconst 2, 1) ∧ decode code 670 = .ok (.iadd, 1) ∧ decode code 671 = .ok (.iaload, 1) ∧ decode code 672 = .ok (.invokevirtual 79, 3) ∧ decode code 675 = .ok (.aload_n 2, 1) ∧ decode code 676 = .ok (.aload_n 0, 1) ∧ decode code 677 = .ok (.iload 4, 2) ∧ decode code 679 = .ok (.iconst 1, 1) ∧ decode code 680 = .ok (.iadd, 1) ∧ decode code 681 = .ok (.iaload, 1) ∧ decode code 682 = .ok (.aload_n 0, 1) ∧ decode code 683 = .ok (.iload 4, 2) ∧ decode code 685 = .ok (.iconst 2, 1) ∧ decode code 686 = .ok (.iadd, 1) ∧ decode code 687 = .ok (.iaload, 1) ∧ decode code 688 = .ok (.invokevirtual 82, 3) ∧ decode code 691 = .ok (.if_icmp .eq 541, 3) ∧ decode code 694 = .ok (.iconst 0, 1) ∧ decode code 695 = .ok (.ireturn, 1) := ⟨by decide +kernel, by decide +kernel, by decide +kernel, by decide +kernel, by decide +kernel, by decide +kernel, by decide +kernel, by decide +kernel, by decide +kernel, by decide +kernel, by decide +kernel, by decide +kernel, by decide +kernel, by decide +kernel, by decide +kernel, by decide +kernel, by decide +kernel, by decide +kernel, by decide +kernel, by decide +kernel, by decide +kernel, by decide +kernel, by decide +kernel, by decide +kernel, by decide +kernel, by decide +kernel, by decide +kernel⟩
set_option maxHeartbeats 4000000 in
/-- crop -/
theorem lc_13 (F : LB D cy GO GM aA adT bT bO bM qo B p s m meth c b L xs) {i : Nat} (hij : i + 6 < L) (hc : cells ≤ 601024) (hs : slots ≤ 7293034) (K : LGo D cy GO GM qo B p l ev s m below meth c b i Q cells slots 1232) : LGo D cy GO GM qo B p l ev s m below meth c b i Q cells slots 659 := by
  intro So Sm v H locs ls hI hW hS hl
  obtain ⟨d659, d660, d661, d663, d664, d665, d666, d667, d669, d670, d671, d672, d675, d676, d677, d679, d680, d681, d682, d683, d685, d686, d687, d688, d691, d694, d695⟩ := dc_13
  have F' := F
  obtain ⟨⟨hx, hb, -⟩, -⟩ := F'
  obtain ⟨r, So', Sm', e1, e2, hI'⟩ := crop_ok hI ((xs (i + 1))) ((xs (i + 2)))
  refine lv_aload_n hx hb d659 rfl (lv_at hl 3 rfl) ?_
  refine la F 1 (by omega) hS (lv_at hl 4 rfl) (lv_at hl 0 rfl) (by decide) d660 d661 d663 d664 d665 ?_
  refine la F 2 (by omega) hS (lv_at hl 4 rfl) (lv_at hl 0 rfl) (by decide) d666 d667 d669 d670 d671 ?_
  refine cO F (vs := [.int (xs (i + 1)), .int (xs (i + 2))]) (rest := []) (s_o_crop (d := 0) _ _ So e1) mx_2214 (Nat.le_of_ble_eq_true rfl) rfl (lcw (i := 79) (M := 2214) (p1 := 1229) (p2 := 1230) (p3 := 1231) (List.mem_of_getElem? (i := 26) rfl)) (show (parseMethodDescriptor (mN 2214).desc).map (fun d => d.parameters.length) = some 2 by decide +kernel) (fun _ => rfl) (Nat.le_of_ble_eq_true rfl) hc hs hW hS hl.1 (Nat.le_of_ble_eq_true rfl) d672 (fun H1 locs1 hW hS => ?_)
  refine lv_aload_n hx hb d675 rfl (lv_at hl 2 rfl) ?_
  refine la F 1 (by omega) hS (lv_at hl 4 rfl) (lv_at hl 0 rfl) (by decide) d676 d677 d679 d680 d681 ?_
  refine la F 2 (by omega) hS (lv_at hl 4 rfl) (lv_at hl 0 rfl) (by decide) d682 d683 d685 d686 d687 ?_
  refine cM F (vs := [.int (xs (i + 1)), .int (xs (i + 2))]) (rest := [.int r]) (s_m_crop (d := 0) _ _ Sm e2) mx_2486 (Nat.le_of_ble_eq_true rfl) rfl (lcw (i := 82) (M := 2486) (p1 := 2127) (p2 := 2128) (p3 := 2129) (List.mem_of_getElem? (i := 27) rfl)) (show (parseMethodDescriptor (mN 2486).desc).map (fun d => d.parameters.length) = some 2 by decide +kernel) (fun _ => rfl) (Nat.le_of_ble_eq_true rfl) hc hs hW hS hl.1 (Nat.le_of_ble_eq_true rfl) d688 (fun H1 locs1 hW hS => ?_)
  exact lv_icmp_eq (tgt := 1232) hx hb d691 (by decide) (fun _ => K So' Sm' v _ _ ls hI' hW hS hl) (fun h => absurd rfl h)
end CASES
