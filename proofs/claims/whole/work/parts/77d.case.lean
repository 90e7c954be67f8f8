/-! The law's cases: 14, 15, 16, 17, 18, 19. -/
section CASES
variable {D : va_G} {cy : Nat → ClassId} {GO GM : Nat → Nat} {aA : Nat} {adT bT : Nat → Nat} {bO bM qo : Nat} {B : Nat → Prop} {p : Program} {s : State} {m : MethodId} {meth : Method} {c : Code} {b L : Nat} {xs : Nat → Int32}
variable {l : Launch} {ev : Env} {below : List Frame} {cells slots : Nat} {Q : State → Prop}
set_option maxRecDepth 100000 in
theorem dc_14 : decode code 696 = .ok (.aload_n 1, 1) ∧ decode code 697 = .ok (.invokevirtual 83, 3) ∧ decode code 700 = .ok (.aload_n 2, 1) ∧ decode code 701 = .ok (.invokevirtual 86, 3) ∧ decode code 704 = .ok (.if_icmp .eq 528, 3) ∧ decode code 707 = .ok (.iconst 0, 1) ∧ decode code 708 = .ok (.ireturn, 1) := ⟨by decide +kernel, by decide +kernel, by decide +kernel, by decide +kernel, by decide +kernel, by decide +kernel, by decide +kernel⟩
set_option maxHeartbeats 4000000 in
/-- fetch -/
theorem lc_14 (F : LB D cy GO GM aA adT bT bO bM qo B p s m meth c b L xs) {i : Nat} (hij : i + 6 < L) (hc : cells ≤ 601024) (hs : slots ≤ 7293034) (K : LGo D cy GO GM qo B p l ev s m below meth c b i Q cells slots 1232) : LGo D cy GO GM qo B p l ev s m below meth c b i Q cells slots 696 := by
  intro So Sm v H locs ls hI hW hS hl
  obtain ⟨d696, d697, d700, d701, d704, d707, d708⟩ := dc_14
  have F' := F
  obtain ⟨⟨hx, hb, -⟩, -⟩ := F'
  obtain ⟨r, So', Sm', e1, e2, hI'⟩ := fetch_ok hI
  refine lv_aload_n hx hb d696 rfl (lv_at hl 3 rfl) ?_
  refine cO F (vs := []) (rest := []) (s_o_fetch (d := 0)  So e1) mx_2215 (Nat.le_of_ble_eq_true rfl) rfl (lcw (i := 83) (M := 2215) (p1 := 1268) (p2 := 1269) (p3 := 1270) (List.mem_of_getElem? (i := 28) rfl)) (show (parseMethodDescriptor (mN 2215).desc).map (fun d => d.parameters.length) = some 0 by decide +kernel) (fun _ => rfl) (Nat.le_of_ble_eq_true rfl) hc hs hW hS hl.1 (Nat.le_of_ble_eq_true rfl) d697 (fun H1 locs1 hW hS => ?_)
  refine lv_aload_n hx hb d700 rfl (lv_at hl 2 rfl) ?_
  refine cM F (vs := []) (rest := [.int r]) (s_m_fetch (d := 0)  Sm e2) mx_2489 (Nat.le_of_ble_eq_true rfl) rfl (lcw (i := 86) (M := 2489) (p1 := 2143) (p2 := 2144) (p3 := 2145) (List.mem_of_getElem? (i := 29) rfl)) (show (parseMethodDescriptor (mN 2489).desc).map (fun d => d.parameters.length) = some 0 by decide +kernel) (fun _ => rfl) (Nat.le_of_ble_eq_true rfl) hc hs hW hS hl.1 (Nat.le_of_ble_eq_true rfl) d701 (fun H1 locs1 hW hS => ?_)
  exact lv_icmp_eq (tgt := 1232) hx hb d704 (by decide) (fun _ => K So' Sm' v _ _ ls hI' hW hS hl) (fun h => absurd rfl h)
set_option maxRecDepth 100000 in
theorem dc_15 : decode code 709 = .ok (.aload_n 1, 1) ∧ decode code 710 = .ok (.aload_n 0, 1) ∧ decode code 711 = .ok (.iload 4, 2) ∧ decode code 713 = .ok (.iconst 1, 1) ∧ decode code 714 = .ok (.iadd, 1) ∧ decode code 715 = .ok (.iaload, 1) ∧ decode code 716 = .ok (.aload_n 0, 1) ∧ decode code 717 = .ok (.iload 4, 2) ∧ decode code 719 = .ok (.iconst 2, 1) ∧ decode code 720 = .ok (.iadd, 1) ∧ decode code 721 = .ok (.iaload, 1) ∧ decode code 722 = .ok (.ifCond .eq 7, 3) ∧ decode code 725 = .ok (.iconst 1, 1) ∧ decode code 726 = .ok (.goto 4, 3) ∧ decode code 729 = .ok (.iconst 0, 1) ∧ decode code 730 = .ok (.invokevirtual 87, 3) ∧ decode code 733 = .ok (.aload_n 2, 1) ∧ decode code 734 = .ok (.aload_n 0, 1) ∧ decode code 735 = .ok (.iload 4, 2) ∧ decode code 737 = .ok (.iconst 1, 1) ∧ decode code 738 = .ok (.iadd, 1) ∧ decode code 739 = .ok (.iaload, 1) ∧ decode code 740 = .ok (.aload_n 0, 1) ∧ decode code 741 = .ok (.iload 4, 2) ∧ decode code 743 = .ok (.iconst 2, 1) ∧ decode code 744 = .ok (.iadd, 1) ∧ decode code 745 = .ok (.iaload, 1) ∧ decode code 746 = .ok (.ifCond .eq 7, 3) ∧ decode code 749 = .ok (.iconst 1, 1) ∧ decode code 750 = .ok (.goto 4, 3) ∧ decode code 753 = .ok (.iconst 0, 1) ∧ decode code 754 = .ok (.invokevirtual 91, 3) ∧ decode code 757 = .ok (.if_icmp .eq 475, 3) ∧ decode code 760 = .ok (.iconst 0, 1) ∧ decode code 761 = .ok (.ireturn, 1) := ⟨by decide +kernel, by decide +kernel, by decide +kernel, by decide +kernel, by decide +kernel, by decide +kernel, by decide +kernel, by decide +kernel, by decide +kernel, by decide +kernel, by decide +kernel, by decide +kernel, by decide +kernel, by decide +kernel, by decide +kernel, by decide +kernel, by decide +kernel, by decide +kernel, by decide +kernel, by decide +kernel, by decide +kernel, by decide +kernel, by decide +kernel, by decide +kernel, by decide +kernel, by decide +kernel, by decide +kernel, by decide +kernel, by decide +kernel, by decide +kernel, by decide +kernel, by decide +kernel, by decide +kernel, by decide +kernel, by decide +kernel⟩
set_option maxHeartbeats 4000000 in
/-- lies -/
theorem lc_15 (F : LB D cy GO GM aA adT bT bO bM qo B p s m meth c b L xs) {i : Nat} (hij : i + 6 < L) (hc : cells ≤ 601024) (hs : slots ≤ 7293034) (K : LGo D cy GO GM qo B p l ev s m below meth c b i Q cells slots 1232) : LGo D cy GO GM qo B p l ev s m below meth c b i Q cells slots 709 := by
  intro So Sm v H locs ls hI hW hS hl
  obtain ⟨d709, d710, d711, d713, d714, d715, d716, d717, d719, d720, d721, d722, d725, d726, d729, d730, d733, d734, d735, d737, d738, d739, d740, d741, d743, d744, d745, d746, d749, d750, d753, d754, d757, d760, d761⟩ := dc_15
  have F' := F
  obtain ⟨⟨hx, hb, -⟩, -⟩ := F'
  obtain ⟨r, So', Sm', e1, e2, hI'⟩ := lies_ok hI ((xs (i + 1))) (!decide (xs (i + 2) = 0))
  simp only [← bz_b] at e1 e2
  refine lv_aload_n hx hb d709 rfl (lv_at hl 3 rfl) ?_
  refine la F 1 (by omega) hS (lv_at hl 4 rfl) (lv_at hl 0 rfl) (by decide) d710 d711 d713 d714 d715 ?_
  refine la F 2 (by omega) hS (lv_at hl 4 rfl) (lv_at hl 0 rfl) (by decide) d716 d717 d719 d720 d721 ?_
  refine lz F d722 d725 d726 d729 ?_
  refine cO F (vs := [.int (xs (i + 1)), .int (bz (xs (i + 2)))]) (rest := []) (s_o_lies (d := 0) _ _ So e1) mx_2216 (Nat.le_of_ble_eq_true rfl) rfl (lcw (i := 87) (M := 2216) (p1 := 1294) (p2 := 1295) (p3 := 1296) (List.mem_of_getElem? (i := 30) rfl)) (show (parseMethodDescriptor (mN 2216).desc).map (fun d => d.parameters.length) = some 2 by decide +kernel) (fun _ => rfl) (Nat.le_of_ble_eq_true rfl) hc hs hW hS hl.1 (Nat.le_of_ble_eq_true rfl) d730 (fun H1 locs1 hW hS => ?_)
  refine lv_aload_n hx hb d733 rfl (lv_at hl 2 rfl) ?_
  refine la F 1 (by omega) hS (lv_at hl 4 rfl) (lv_at hl 0 rfl) (by decide) d734 d735 d737 d738 d739 ?_
  refine la F 2 (by omega) hS (lv_at hl 4 rfl) (lv_at hl 0 rfl) (by decide) d740 d741 d743 d744 d745 ?_
  refine lz F d746 d749 d750 d753 ?_
  refine cM F (vs := [.int (xs (i + 1)), .int (bz (xs (i + 2)))]) (rest := [.int r]) (s_m_lies (d := 0) _ _ Sm e2) mx_2490 (Nat.le_of_ble_eq_true rfl) rfl (lcw (i := 91) (M := 2490) (p1 := 2155) (p2 := 2156) (p3 := 2157) (List.mem_of_getElem? (i := 31) rfl)) (show (parseMethodDescriptor (mN 2490).desc).map (fun d => d.parameters.length) = some 2 by decide +kernel) (fun _ => rfl) (Nat.le_of_ble_eq_true rfl) hc hs hW hS hl.1 (Nat.le_of_ble_eq_true rfl) d754 (fun H1 locs1 hW hS => ?_)
  exact lv_icmp_eq (tgt := 1232) hx hb d757 (by decide) (fun _ => K So' Sm' v _ _ ls hI' hW hS hl) (fun h => absurd rfl h)
set_option maxRecDepth 100000 in
theorem dc_16 : decode code 762 = .ok (.aload_n 1, 1) ∧ decode code 763 = .ok (.aload_n 0, 1) ∧ decode code 764 = .ok (.iload 4, 2) ∧ decode code 766 = .ok (.iconst 1, 1) ∧ decode code 767 = .ok (.iadd, 1) ∧ decode code 768 = .ok (.iaload, 1) ∧ decode code 769 = .ok (.invokevirtual 92, 3) ∧ decode code 772 = .ok (.aload_n 2, 1) ∧ decode code 773 = .ok (.aload_n 0, 1) ∧ decode code 774 = .ok (.iload 4, 2) ∧ decode code 776 = .ok (.iconst 1, 1) ∧ decode code 777 = .ok (.iadd, 1) ∧ decode code 778 = .ok (.iaload, 1) ∧ decode code 779 = .ok (.invokevirtual 95, 3) ∧ decode code 782 = .ok (.if_icmp .eq 450, 3) ∧ decode code 785 = .ok (.iconst 0, 1) ∧ decode code 786 = .ok (.ireturn, 1) := ⟨by decide +kernel, by decide +kernel, by decide +kernel, by decide +kernel, by decide +kernel, by decide +kernel, by decide +kernel, by decide +kernel, by decide +kernel, by decide +kernel, by decide +kernel, by decide +kernel, by decide +kernel, by decide +kernel, by decide +kernel, by decide +kernel, by decide +kernel⟩
set_option maxHeartbeats 4000000 in
/-- called -/
theorem lc_16 (F : LB D cy GO GM aA adT bT bO bM qo B p s m meth c b L xs) {i : Nat} (hij : i + 6 < L) (hc : cells ≤ 601024) (hs : slots ≤ 7293034) (K : LGo D cy GO GM qo B p l ev s m below meth c b i Q cells slots 1232) : LGo D cy GO GM qo B p l ev s m below meth c b i Q cells slots 762 := by
  intro So Sm v H locs ls hI hW hS hl
  obtain ⟨d762, d763, d764, d766, d767, d768, d769, d772, d773, d774, d776, d777, d778, d779, d782, d785, d786⟩ := dc_16
  have F' := F
  obtain ⟨⟨hx, hb, -⟩, -⟩ := F'
  obtain ⟨r, So', Sm', e1, e2, hI'⟩ := called_ok hI ((xs (i + 1)))
  refine lv_aload_n hx hb d762 rfl (lv_at hl 3 rfl) ?_
  refine la F 1 (by omega) hS (lv_at hl 4 rfl) (lv_at hl 0 rfl) (by decide) d763 d764 d766 d767 d768 ?_
  refine cO F (vs := [.int (xs (i + 1))]) (rest := []) (s_o_called (d := 0) _ So e1) mx_2217 (Nat.le_of_ble_eq_true rfl) rfl (lcw (i := 92) (M := 2217) (p1 := 1298) (p2 := 1299) (p3 := 1300) (List.mem_of_getElem? (i := 32) rfl)) (show (parseMethodDescriptor (mN 2217).desc).map (fun d => d.parameters.length) = some 1 by decide +kernel) (fun _ => rfl) (Nat.le_of_ble_eq_true rfl) hc hs hW hS hl.1 (Nat.le_of_ble_eq_true rfl) d769 (fun H1 locs1 hW hS => ?_)
  refine lv_aload_n hx hb d772 rfl (lv_at hl 2 rfl) ?_
  refine la F 1 (by omega) hS (lv_at hl 4 rfl) (lv_at hl 0 rfl) (by decide) d773 d774 d776 d777 d778 ?_
  refine cM F (vs := [.int (xs (i + 1))]) (rest := [.int r]) (s_m_called (d := 0) _ Sm e2) mx_2491 (Nat.le_of_ble_eq_true rfl) rfl (lcw (i := 95) (M := 2491) (p1 := 2159) (p2 := 2160) (p3 := 2161) (List.mem_of_getElem? (i := 33) rfl)) (show (parseMethodDescriptor (mN 2491).desc).map (fun d => d.parameters.length) = some 1 by decide +kernel) (fun _ => rfl) (Nat.le_of_ble_eq_true rfl) hc hs hW hS hl.1 (Nat.le_of_ble_eq_true rfl) d779 (fun H1 locs1 hW hS => ?_)
  exact lv_icmp_eq (tgt := 1232) hx hb d782 (by decide) (fun _ => K So' Sm' v _ _ ls hI' hW hS hl) (fun h => absurd rfl h)
set_option maxRecDepth 100000 in
theorem dc_17 : decode code 787 = .ok (.aload_n 1, 1) ∧ decode code 788 = .ok (.aload_n 0, 1) ∧ decode code 789 = .ok (.iload 4, 2) ∧ decode code 791 = .ok (.iconst 1, 1) ∧ decode code 792 = .ok (.iadd, 1) ∧ decode code 793 = .ok (.iaload, 1) ∧ decode code 794 = .ok (.aload_n 0, 1) ∧ decode code 795 = .ok (.iload 4, 2) ∧ decode code 797 = .ok (.iconst 2, 1) ∧ decode code 798 = .ok (.iadd, 1) ∧ decode code 799 = .ok (.iaload, 1) ∧ decode code 800 = .ok (.aload_n 0, 1) ∧ decode code 801 = .ok (.iload 4, 2) ∧ decode code 803 = .ok (.iconst 3, 1) ∧ decode code 804 = .ok (.iadd, 1) ∧ decode code 805 = .ok (.iaload, 1) ∧ decode code 806 = .ok (.ifCond .eq 7, 3) ∧ decode code 809 = .ok (.iconst 1, 1) ∧ decode code 810 = .ok (.goto 4, 3) ∧ decode code 813 = .ok (.iconst 0, 1) ∧ decode code 814 = .ok (.invokevirtual 96, 3) ∧ decode code 817 = .ok (.aload_n 2, 1) ∧ decode code 818 = .ok (.aload_n 0, 1) ∧ decode code 819 = .ok (.iload 4, 2) ∧ decode code 821 = .ok (.iconst 1, 1) ∧ decode code 822 = .ok (.iadd, 1) ∧ decode code 823 = .ok (.iaload, 1) ∧ decode code 824 = .ok (.aload_n 0, 1) ∧ decode code 825 = .ok (.iload 4, 2) ∧ decode code 827 = .ok (.iconst 2, 1) ∧ decode code 828 = .ok (.iadd, 1) ∧ decode code 829 = .ok (.iaload, 1) ∧ decode code 830 = .ok (.aload_n 0, 1) ∧ decode code 831 = .ok (.iload 4, 2) ∧ decode code 833 = .ok (.iconst 3, 1) ∧ decode code 834 = .ok (.iadd, 1) ∧ decode code 835 = .ok (.iaload, 1) ∧ decode code 836 = .ok (.ifCond .eq 7, 3) ∧ decode code 839 = .ok (.iconst 1, 1) ∧ decode code 840 = .ok (.goto 4, 3) ∧ decode code 843 = .ok (.iconst 0, 1) ∧ decode code 844 = .ok (.invokevirtual 100, 3) ∧ decode code 847 = .ok (.if_icmp .eq 385, 3) ∧ decode code 850 = .ok (.iconst 0, 1) ∧ decode code 851 = .ok (.ireturn, 1) := ⟨by decide +kernel, by decide +kernel, by decide +kernel, by decide +kernel, by decide +kernel, by decide +kernel, by decide +kernel, by decide +kernel, by decide +kernel, by decide +kernel, by decide +kernel, by decide +kernel, by decide +kernel, by decide +kernel, by decide +kernel, by decide +kernel, by decide +kernel, by decide +kernel, by decide +kernel, by decide +kernel, by decide +kernel, by decide +kernel, by decide +kernel, by decide +kernel, by decide +kernel, by decide +kernel, by decide +kernel, by decide +kernel, by decide +kernel, by decide +kernel, by decide +kernel, by decide +kernel, by decide +kernel, by decide +kernel, by decide +kernel, by decide +kernel, by decide +kernel, by decide +kernel, by decide +kernel, by decide +kernel, by decide +kernel, by decide +kernel, by decide +kernel, by decide +kernel, by decide +kernel⟩
set_option maxHeartbeats 4000000 in
/-- tell -/
theorem lc_17 (F : LB D cy GO GM aA adT bT bO bM qo B p s m meth c b L xs) {i : Nat} (hij : i + 6 < L) (hc : cells ≤ 601024) (hs : slots ≤ 7293034) (K : LGo D cy GO GM qo B p l ev s m below meth c b i Q cells slots 1232) : LGo D cy GO GM qo B p l ev s m below meth c b i Q cells slots 787 := by
  intro So Sm v H locs ls hI hW hS hl
  obtain ⟨d787, d788, d789, d791, d792, d793, d794, d795, d797, d798, d799, d800, d801, d803, d804, d805, d806, d809, d810, d813, d814, d817, d818, d819, d821, d822, d823, d824, d825, d827, d828, d829, d830, d831, d833, d834, d835, d836, d839, d840, d843, d844, d847, d850, d851⟩ := dc_17
  have F' := F
  obtain ⟨⟨hx, hb, -⟩, -⟩ := F'
  obtain ⟨r, So', Sm', e1, e2, hI'⟩ := tell_ok hI ((xs (i + 1))) ((xs (i + 2))) (!decide (xs (i + 3) = 0))
  simp only [← bz_b] at e1 e2
  refine lv_aload_n hx hb d787 rfl (lv_at hl 3 rfl) ?_
  refine la F 1 (by omega) hS (lv_at hl 4 rfl) (lv_at hl 0 rfl) (by decide) d788 d789 d791 d792 d793 ?_
  refine la F 2 (by omega) hS (lv_at hl 4 rfl) (lv_at hl 0 rfl) (by decide) d794 d795 d797 d798 d799 ?_
  refine la F 3 (by omega) hS (lv_at hl 4 rfl) (lv_at hl 0 rfl) (by decide) d800 d801 d803 d804 d805 ?_
  refine lz F d806 d809 d810 d813 ?_
  refine cO F (vs := [.int (xs (i + 1)), .int (xs (i + 2)), .int (bz (xs (i + 3)))]) (rest := []) (s_o_tell (d := 0) _ _ _ So e1) mx_2218 (Nat.le_of_ble_eq_true rfl) rfl (lcw (i := 96) (M := 2218) (p1 := 1315) (p2 := 1316) (p3 := 1317) (List.mem_of_getElem? (i := 34) rfl)) (show (parseMethodDescriptor (mN 2218).desc).map (fun d => d.parameters.length) = some 3 by decide +kernel) (fun _ => rfl) (Nat.le_of_ble_eq_true rfl) hc hs hW hS hl.1 (Nat.le_of_ble_eq_true rfl) d814 (fun H1 locs1 hW hS => ?_)
  refine lv_aload_n hx hb d817 rfl (lv_at hl 2 rfl) ?_
  refine la F 1 (by omega) hS (lv_at hl 4 rfl) (lv_at hl 0 rfl) (by decide) d818 d819 d821 d822 d823 ?_
  refine la F 2 (by omega) hS (lv_at hl 4 rfl) (lv_at hl 0 rfl) (by decide) d824 d825 d827 d828 d829 ?_
  refine la F 3 (by omega) hS (lv_at hl 4 rfl) (lv_at hl 0 rfl) (by decide) d830 d831 d833 d834 d835 ?_
  refine lz F d836 d839 d840 d843 ?_
  refine cM F (vs := [.int (xs (i + 1)), .int (xs (i + 2)), .int (bz (xs (i + 3)))]) (rest := [.int r]) (s_m_tell (d := 0) _ _ _ Sm e2) mx_2492 (Nat.le_of_ble_eq_true rfl) rfl (lcw (i := 100) (M := 2492) (p1 := 2163) (p2 := 2164) (p3 := 2165) (List.mem_of_getElem? (i := 35) rfl)) (show (parseMethodDescriptor (mN 2492).desc).map (fun d => d.parameters.length) = some 3 by decide +kernel) (fun _ => rfl) (Nat.le_of_ble_eq_true rfl) hc hs hW hS hl.1 (Nat.le_of_ble_eq_true rfl) d844 (fun H1 locs1 hW hS => ?_)
  exact lv_icmp_eq (tgt := 1232) hx hb d847 (by decide) (fun _ => K So' Sm' v _ _ ls hI' hW hS hl) (fun h => absurd rfl h)
set_option maxRecDepth 100000 in
theorem dc_18 : decode code 852 = .ok (.aload_n 1, 1) ∧ decode code 853 = .ok (.aload_n 0, 1) ∧ decode code 854 = .ok (.iload 4, 2) ∧ decode code 856 = .ok (.iconst 1, 1) ∧ decode code 857 = .ok (.iadd, 1) ∧ decode code 858 = .ok (.iaload, 1) ∧ decode code 859 = .ok (.invokevirtual 101, 3) ∧ decode code 862 = .ok (.aload_n 2, 1) ∧ decode code 863 = .ok (.aload_n 0, 1) ∧ decode code 864 = .ok (.iload 4, 2) ∧ decode code 866 = .ok (.iconst 1, 1) ∧ decode code 867 = .ok (.iadd, 1) ∧ decode code 868 = .ok (.iaload, 1) ∧ decode code 869 = .ok (.invokevirtual 104, 3) ∧ decode code 872 = .ok (.if_icmp .eq 360, 3) ∧ decode code 875 = .ok (.iconst 0, 1) ∧ decode code 876 = .ok (.ireturn, 1) := ⟨by decide +kernel, by decide +kernel, by decide +kernel, by decide +kernel, by decide +kernel, by decide +kernel, by decide +kernel, by decide +kernel, by decide +kernel, by decide +kernel, by decide +kernel, by decide +kernel, by decide +kernel, by decide +kernel, by decide +kernel, by decide +kernel, by decide +kernel⟩
set_option maxHeartbeats 4000000 in
/-- laws -/
theorem lc_18 (F : LB D cy GO GM aA adT bT bO bM qo B p s m meth c b L xs) {i : Nat} (hij : i + 6 < L) (hc : cells ≤ 601024) (hs : slots ≤ 7293034) (K : LGo D cy GO GM qo B p l ev s m below meth c b i Q cells slots 1232) : LGo D cy GO GM qo B p l ev s m below meth c b i Q cells slots 852 := by
  intro So Sm v H locs ls hI hW hS hl
  obtain ⟨d852, d853, d854, d856, d857, d858, d859, d862, d863, d864, d866, d867, d868, d869, d872, d875, d876⟩ := dc_18
  have F' := F
  obtain ⟨⟨hx, hb, -⟩, -⟩ := F'
  obtain ⟨r, So', Sm', e1, e2, hI'⟩ := laws_ok hI ((xs (i + 1)))
  refine lv_aload_n hx hb d852 rfl (lv_at hl 3 rfl) ?_
  refine la F 1 (by omega) hS (lv_at hl 4 rfl) (lv_at hl 0 rfl) (by decide) d853 d854 d856 d857 d858 ?_
  refine cO F (vs := [.int (xs (i + 1))]) (rest := []) (s_o_laws (d := 0) _ So e1) mx_2219 (Nat.le_of_ble_eq_true rfl) rfl (lcw (i := 101) (M := 2219) (p1 := 1322) (p2 := 1323) (p3 := 1324) (List.mem_of_getElem? (i := 36) rfl)) (show (parseMethodDescriptor (mN 2219).desc).map (fun d => d.parameters.length) = some 1 by decide +kernel) (fun _ => rfl) (Nat.le_of_ble_eq_true rfl) hc hs hW hS hl.1 (Nat.le_of_ble_eq_true rfl) d859 (fun H1 locs1 hW hS => ?_)
  refine lv_aload_n hx hb d862 rfl (lv_at hl 2 rfl) ?_
  refine la F 1 (by omega) hS (lv_at hl 4 rfl) (lv_at hl 0 rfl) (by decide) d863 d864 d866 d867 d868 ?_
  refine cM F (vs := [.int (xs (i + 1))]) (rest := [.int r]) (s_m_laws (d := 0) _ Sm e2) mx_2494 (Nat.le_of_ble_eq_true rfl) rfl (lcw (i := 104) (M := 2494) (p1 := 2167) (p2 := 2168) (p3 := 2169) (List.mem_of_getElem? (i := 37) rfl)) (show (parseMethodDescriptor (mN 2494).desc).map (fun d => d.parameters.length) = some 1 by decide +kernel) (fun _ => rfl) (Nat.le_of_ble_eq_true rfl) hc hs hW hS hl.1 (Nat.le_of_ble_eq_true rfl) d869 (fun H1 locs1 hW hS => ?_)
  exact lv_icmp_eq (tgt := 1232) hx hb d872 (by decide) (fun _ => K So' Sm' v _ _ ls hI' hW hS hl) (fun h => absurd rfl h)
set_option maxRecDepth 100000 in
theorem dc_19 : decode code 877 = .ok (.aload_n 1, 1) ∧ decode code 878 = .ok (.aload_n 0, 1) ∧ decode code 879 = .ok (.iload 4, 2) ∧ decode code 881 = .ok (.iconst 1, 1) ∧ decode code 882 = .ok (.iadd, 1) ∧ decode code 883 = .ok (.iaload, 1) ∧ decode code 884 = .ok (.invokevirtual 105, 3) ∧ decode code 887 = .ok (.aload_n 2, 1) ∧ decode code 888 = .ok (.aload_n 0, 1) ∧ decode code 889 = .ok (.iload 4, 2) ∧ decode code 891 = .ok (.iconst 1, 1) ∧ decode code 892 = .ok (.iadd, 1) ∧ decode code 893 = .ok (.iaload, 1) ∧ decode code 894 = .ok (.invokevirtual 108, 3) ∧ decode code 897 = .ok (.if_icmp .eq 335, 3) ∧ decode code 900 = .ok (.iconst 0, 1) ∧ decode code 901 = .ok (.ireturn, 1) := ⟨by decide +kernel, by decide +kernel, by decide +kernel, by decide +kernel, by decide +kernel, by decide +kernel, by decide +kernel, by decide +kernel, by decide +kernel, by decide +kernel, by decide +kernel, by decide +kernel, by decide +kernel, by decide +kernel, by decide +kernel, by decide +kernel, by decide +kernel⟩
set_option maxHeartbeats 4000000 in
/-- loss -/
theorem lc_19 (F : LB D cy GO GM aA adT bT bO bM qo B p s m meth c b L xs) {i : Nat} (hij : i + 6 < L) (hc : cells ≤ 601024) (hs : slots ≤ 7293034) (K : LGo D cy GO GM qo B p l ev s m below meth c b i Q cells slots 1232) : LGo D cy GO GM qo B p l ev s m below meth c b i Q cells slots 877 := by
  intro So Sm v H locs ls hI hW hS hl
  obtain ⟨d877, d878, d879, d881, d882, d883, d884, d887, d888, d889, d891, d892, d893, d894, d897, d900, d901⟩ := dc_19
  have F' := F
  obtain ⟨⟨hx, hb, -⟩, -⟩ := F'
  obtain ⟨r, So', Sm', e1, e2, hI'⟩ := loss_ok hI ((xs (i + 1)))
  refine lv_aload_n hx hb d877 rfl (lv_at hl 3 rfl) ?_
  refine la F 1 (by omega) hS (lv_at hl 4 rfl) (lv_at hl 0 rfl) (by decide) d878 d879 d881 d882 d883 ?_
  refine cO F (vs := [.int (xs (i + 1))]) (rest := []) (s_o_loss (d := 0) _ So e1) mx_2220 (Nat.le_of_ble_eq_true rfl) rfl (lcw (i := 105) (M := 2220) (p1 := 1330) (p2 := 1331) (p3 := 1332) (List.mem_of_getElem? (i := 38) rfl)) (show (parseMethodDescriptor (mN 2220).desc).map (fun d => d.parameters.length) = some 1 by decide +kernel) (fun _ => rfl) (Nat.le_of_ble_eq_true rfl) hc hs hW hS hl.1 (Nat.le_of_ble_eq_true rfl) d884 (fun H1 locs1 hW hS => ?_)
  refine lv_aload_n hx hb d887 rfl (lv_at hl 2 rfl) ?_
  refine la F 1 (by omega) hS (lv_at hl 4 rfl) (lv_at hl 0 rfl) (by decide) d888 d889 d891 d892 d893 ?_
  refine cM F (vs := [.int (xs (i + 1))]) (rest := [.int r]) (s_m_loss (d := 0) _ Sm e2) mx_2496 (Nat.le_of_ble_eq_true rfl) rfl (lcw (i := 108) (M := 2496) (p1 := 2175) (p2 := 2176) (p3 := 2177) (List.mem_of_getElem? (i := 39) rfl)) (show (parseMethodDescriptor (mN 2496).desc).map (fun d => d.parameters.length) = some 1 by decide +kernel) (fun _ => rfl) (Nat.le_of_ble_eq_true rfl) hc hs hW hS hl.1 (Nat.le_of_ble_eq_true rfl) d894 (fun H1 locs1 hW hS => ?_)
  exact lv_icmp_eq (tgt := 1232) hx hb d897 (by decide) (fun _ => K So' Sm' v _ _ ls hI' hW hS hl) (fun h => absurd rfl h)
end CASES
