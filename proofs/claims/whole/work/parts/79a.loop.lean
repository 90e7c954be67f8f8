/-! The law's loop. -/
section LOOP
variable {D : va_G} {cy : Nat → ClassId} {GO GM : Nat → Nat} {aA : Nat} {adT bT : Nat → Nat} {bO bM qo sa : Nat} {B : Nat → Prop} {p : Program} {s : State} {m : MethodId} {meth : Method} {c : Code} {b L : Nat} {xs : Nat → Int32}
variable {l : Launch} {ev : Env} {below : List Frame} {cells slots : Nat} {Q : State → Prop}
theorem LGo.widen {i pc c1 s1 : Nat} (h1 : cells ≤ c1) (h2 : slots ≤ s1) (K : LGo D cy GO GM qo B p l ev s m below meth c b i Q c1 s1 pc) : LGo D cy GO GM qo B p l ev s m below meth c b i Q cells slots pc := fun So Sm v H locs ls hI hW hS hl => W.widen h1 h2 (K So Sm v H locs ls hI hW hS hl)
set_option maxRecDepth 100000 in
theorem dc_hd : decode code 23 = .ok (.iload 4, 2) ∧ decode code 25 = .ok (.aload_n 0, 1) ∧ decode code 26 = .ok (.arraylength, 1) ∧ decode code 27 = .ok (.bipush 7, 2) ∧ decode code 29 = .ok (.isub, 1) ∧ decode code 30 = .ok (.if_icmp .gt 1208, 3) ∧ decode code 33 = .ok (.aload_n 0, 1) ∧ decode code 34 = .ok (.iload 4, 2) ∧ decode code 36 = .ok (.iaload, 1) ∧ decode code 37 = .ok (.bipush 31, 2) ∧ decode code 39 = .ok (.iand, 1) ∧ decode code 40 = .ok (.tableswitch 1192 0 26 #[124, 271, 284, 297, 334, 383, 420, 457, 494, 519, 556, 581, 594, 619, 656, 669, 722, 747, 812, 837, 862, 899, 979, 1016, 1065, 1114, 1167], 124) ∧ decode code 1232 = .ok (.iinc 4 7, 3) ∧ decode code 1235 = .ok (.goto (-1212), 3) ∧ decode code 1238 = .ok (.iconst 1, 1) ∧ decode code 1239 = .ok (.ireturn, 1) := ⟨by decide +kernel, by decide +kernel, by decide +kernel, by decide +kernel, by decide +kernel, by decide +kernel, by decide +kernel, by decide +kernel, by decide +kernel, by decide +kernel, by decide +kernel, by decide +kernel, by decide +kernel, by decide +kernel, by decide +kernel, by decide +kernel⟩
theorem lL_7 {L i : Nat} (hL : L ≤ 3584) (hi : i < 2 ^ 31) (h : ¬ nI L - nI 7 < nI i) : i + 6 < L := by
  by_cases h7 : 7 ≤ L
  · rw [nI_sub h7] at h
    have : ¬ L - 7 < i := fun q => h (nI_lt q hi)
    omega
  · exfalso
    apply h
    rw [Int32.lt_iff_toInt_lt, nI_toInt hi]
    have : (nI L - nI 7).toInt < 0 := (show ∀ L, L < 7 → (nI L - nI 7).toInt < 0 by decide +kernel) L (by omega)
    omega
set_option maxHeartbeats 8000000 in
set_option maxRecDepth 100000 in
theorem l_loop (hfl : l.stackTraces = false) (F : LB D cy GO GM aA adT bT bO bM qo B p s m meth c b L xs) (hTH : TH sa B s s.heap) {c0 s0 : Nat} (hc0 : c0 ≤ 600000) (hs0 : s0 ≤ 7200000) : ∀ k t : Nat, t + k = 513 → LGo D cy GO GM qo B p l ev s m below meth c b (7 * t) (lw_Z below #[Value.ref b] s) (c0 + t) (s0 + 6 * t) 23 := by
  intro k
  induction k with
  | zero =>
    intro t ht So Sm v H locs ls hI hW hS hl
    obtain ⟨d23, d25, d26, d27, d29, d30, d33, d34, d36, d37, d39, d40, d1232, d1235, d1238, d1239⟩ := dc_hd
    have F' := F
    obtain ⟨⟨hx, hb, hml, hown, hlocks, hts, hnw, hK⟩, hr, ⟨hX, hbl, hL⟩, hB, -⟩ := F'
    have hbA : ¬ B b := fun h => Nat.not_le.mpr hbl ((hB b).mp h)
    refine lv_iload hx hb d23 (lv_at hl 0 rfl) ?_
    refine lv_aload_n hx hb d25 rfl (lv_at hl 4 rfl) ?_
    refine va_slen hx hb hX hbl hbA hS d26 ?_
    refine lv_bipush (v := nI 7) hx hb d27 (by decide) ?_
    refine lv_isub hx hb d29 ?_
    refine lv_icmp_gt hx hb d30 (tgt := 1238) (by decide) (fun _ => ?_) (fun h => ?_)
    · refine lv_iconst (v := 1) hx hb d1238 (by decide) ?_
      refine va_forget (fun q hq => (hB _).mp (hS.2.2 q hq)) ?_
      refine W.widen (k := 601024) (n := 7293034) (by omega) (by omega) ?_
      exact lw_ret hx hb hr hlocks d1239
    · have := lL_7 hL (by omega) h
      omega
  | succ k ih =>
    intro t ht So Sm v H locs ls hI hW hS hl
    obtain ⟨d23, d25, d26, d27, d29, d30, d33, d34, d36, d37, d39, d40, d1232, d1235, d1238, d1239⟩ := dc_hd
    have F' := F
    obtain ⟨⟨hx, hb, hml, hown, hlocks, hts, hnw, hK⟩, hr, ⟨hX, hbl, hL⟩, hB, -⟩ := F'
    have hbA : ¬ B b := fun h => Nat.not_le.mpr hbl ((hB b).mp h)
    refine lv_iload hx hb d23 (lv_at hl 0 rfl) ?_
    refine lv_aload_n hx hb d25 rfl (lv_at hl 4 rfl) ?_
    refine va_slen hx hb hX hbl hbA hS d26 ?_
    refine lv_bipush (v := nI 7) hx hb d27 (by decide) ?_
    refine lv_isub hx hb d29 ?_
    refine lv_icmp_gt hx hb d30 (tgt := 1238) (by decide) (fun _ => ?_) (fun h => ?_)
    · refine lv_iconst (v := 1) hx hb d1238 (by decide) ?_
      refine va_forget (fun q hq => (hB _).mp (hS.2.2 q hq)) ?_
      refine W.widen (k := 601024) (n := 7293034) (by omega) (by omega) ?_
      exact lw_ret hx hb hr hlocks d1239
    · have hij := lL_7 hL (by omega) h
      have K1 : LGo D cy GO GM qo B p l ev s m below meth c b (7 * t) (lw_Z below #[Value.ref b] s) (c0 + t + 1) (s0 + 6 * t + 6) 1232 := by
        intro So Sm v H locs ls hI hW hS hl
        refine lv_iinc (v := nI (7 * (t + 1))) (lv' := [(4, .int (nI (7 * (t + 1)))), (3, .ref qo), (2, .ref (GM 500)), (1, .ref (GO 1)), (0, .ref b)]) hx hb d1232 hl (k := 0) rfl (by rw [show Int32.ofInt 7 = nI 7 by decide, nI_add]; rfl) (by decide) rfl (fun ls hl => ?_)
        refine lv_goto hx hb d1235 (tgt := 23) (by decide) ?_
        exact ih (t + 1) (by omega) So Sm v H locs ls hI hW hS hl
      have K0 := K1.widen (cells := c0 + t) (slots := s0 + 6 * t) (by omega) (by omega)
      have hc : c0 + t ≤ 601024 := by omega
      have hs : s0 + 6 * t ≤ 7293034 := by omega
      refine lv_aload_n hx hb d33 rfl (lv_at hl 4 rfl) ?_
      refine lv_iload hx hb d34 (lv_at hl 0 rfl) ?_
      refine va_sld hx hb hX hbl hbA hS (nI_in (show 7 * t < L by omega) (by omega)) d36 ?_
      refine lv_bipush (v := 31) hx hb d37 (by decide) ?_
      refine lv_iand hx hb d39 ?_
      generalize xs (nI (7 * t)).toNatClampNeg &&& 31 = z
      by_cases ho : z.toInt < 0 ∨ 26 < z.toInt
      · refine lv_tableOut hx hb d40 ho (tgt := 1232) (by decide) ?_
        exact K0 So Sm v H locs ls hI hW hS hl
      · rcases (show z.toInt = 0 ∨ z.toInt = 1 ∨ z.toInt = 2 ∨ z.toInt = 3 ∨ z.toInt = 4 ∨ z.toInt = 5 ∨ z.toInt = 6 ∨ z.toInt = 7 ∨ z.toInt = 8 ∨ z.toInt = 9 ∨ z.toInt = 10 ∨ z.toInt = 11 ∨ z.toInt = 12 ∨ z.toInt = 13 ∨ z.toInt = 14 ∨ z.toInt = 15 ∨ z.toInt = 16 ∨ z.toInt = 17 ∨ z.toInt = 18 ∨ z.toInt = 19 ∨ z.toInt = 20 ∨ z.toInt = 21 ∨ z.toInt = 22 ∨ z.toInt = 23 ∨ z.toInt = 24 ∨ z.toInt = 25 ∨ z.toInt = 26 by omega) with q | q | q | q | q | q | q | q | q | q | q | q | q | q | q | q | q | q | q | q | q | q | q | q | q | q | q
        · refine lv_tableIn hx hb d40 (by omega) (by omega) (off := 124) (by rw [q]; rfl) (tgt := 164) (by decide) ?_
          exact lc_0 F hij hc hs K0 So Sm v H locs ls hI hW hS hl
        · refine lv_tableIn hx hb d40 (by omega) (by omega) (off := 271) (by rw [q]; rfl) (tgt := 311) (by decide) ?_
          exact lc_1 F hij hc hs K0 So Sm v H locs ls hI hW hS hl
        · refine lv_tableIn hx hb d40 (by omega) (by omega) (off := 284) (by rw [q]; rfl) (tgt := 324) (by decide) ?_
          exact lc_2 F hij hc hs K0 So Sm v H locs ls hI hW hS hl
        · refine lv_tableIn hx hb d40 (by omega) (by omega) (off := 297) (by rw [q]; rfl) (tgt := 337) (by decide) ?_
          exact lc_3 F hij hc hs K0 So Sm v H locs ls hI hW hS hl
        · refine lv_tableIn hx hb d40 (by omega) (by omega) (off := 334) (by rw [q]; rfl) (tgt := 374) (by decide) ?_
          exact lc_4 F hij hc hs K0 So Sm v H locs ls hI hW hS hl
        · refine lv_tableIn hx hb d40 (by omega) (by omega) (off := 383) (by rw [q]; rfl) (tgt := 423) (by decide) ?_
          exact lc_5 F hij hc hs K0 So Sm v H locs ls hI hW hS hl
        · refine lv_tableIn hx hb d40 (by omega) (by omega) (off := 420) (by rw [q]; rfl) (tgt := 460) (by decide) ?_
          exact lc_6 F hij hc hs K0 So Sm v H locs ls hI hW hS hl
        · refine lv_tableIn hx hb d40 (by omega) (by omega) (off := 457) (by rw [q]; rfl) (tgt := 497) (by decide) ?_
          exact lc_7 F hij hc hs K0 So Sm v H locs ls hI hW hS hl
        · refine lv_tableIn hx hb d40 (by omega) (by omega) (off := 494) (by rw [q]; rfl) (tgt := 534) (by decide) ?_
          exact lc_8 F hij hc hs K0 So Sm v H locs ls hI hW hS hl
        · refine lv_tableIn hx hb d40 (by omega) (by omega) (off := 519) (by rw [q]; rfl) (tgt := 559) (by decide) ?_
          exact lc_9 F hij hc hs K0 So Sm v H locs ls hI hW hS hl
        · refine lv_tableIn hx hb d40 (by omega) (by omega) (off := 556) (by rw [q]; rfl) (tgt := 596) (by decide) ?_
          exact lc_10 F hij hc hs K0 So Sm v H locs ls hI hW hS hl
        · refine lv_tableIn hx hb d40 (by omega) (by omega) (off := 581) (by rw [q]; rfl) (tgt := 621) (by decide) ?_
          exact lc_11 F hij hc hs K0 So Sm v H locs ls hI hW hS hl
        · refine lv_tableIn hx hb d40 (by omega) (by omega) (off := 594) (by rw [q]; rfl) (tgt := 634) (by decide) ?_
          exact lc_12 F hij hc hs K0 So Sm v H locs ls hI hW hS hl
        · refine lv_tableIn hx hb d40 (by omega) (by omega) (off := 619) (by rw [q]; rfl) (tgt := 659) (by decide) ?_
          exact lc_13 F hij hc hs K0 So Sm v H locs ls hI hW hS hl
        · refine lv_tableIn hx hb d40 (by omega) (by omega) (off := 656) (by rw [q]; rfl) (tgt := 696) (by decide) ?_
          exact lc_14 F hij hc hs K0 So Sm v H locs ls hI hW hS hl
        · refine lv_tableIn hx hb d40 (by omega) (by omega) (off := 669) (by rw [q]; rfl) (tgt := 709) (by decide) ?_
          exact lc_15 F hij hc hs K0 So Sm v H locs ls hI hW hS hl
        · refine lv_tableIn hx hb d40 (by omega) (by omega) (off := 722) (by rw [q]; rfl) (tgt := 762) (by decide) ?_
          exact lc_16 F hij hc hs K0 So Sm v H locs ls hI hW hS hl
        · refine lv_tableIn hx hb d40 (by omega) (by omega) (off := 747) (by rw [q]; rfl) (tgt := 787) (by decide) ?_
          exact lc_17 F hij hc hs K0 So Sm v H locs ls hI hW hS hl
        · refine lv_tableIn hx hb d40 (by omega) (by omega) (off := 812) (by rw [q]; rfl) (tgt := 852) (by decide) ?_
          exact lc_18 F hij hc hs K0 So Sm v H locs ls hI hW hS hl
        · refine lv_tableIn hx hb d40 (by omega) (by omega) (off := 837) (by rw [q]; rfl) (tgt := 877) (by decide) ?_
          exact lc_19 F hij hc hs K0 So Sm v H locs ls hI hW hS hl
        · refine lv_tableIn hx hb d40 (by omega) (by omega) (off := 862) (by rw [q]; rfl) (tgt := 902) (by decide) ?_
          exact lc_20 F hij hc hs K0 So Sm v H locs ls hI hW hS hl
        · refine lv_tableIn hx hb d40 (by omega) (by omega) (off := 899) (by rw [q]; rfl) (tgt := 939) (by decide) ?_
          exact lc_21 hfl F hTH hij (by omega) (by omega) K1 So Sm v H locs ls hI hW hS hl
        · refine lv_tableIn hx hb d40 (by omega) (by omega) (off := 979) (by rw [q]; rfl) (tgt := 1019) (by decide) ?_
          exact lc_22 F hij hc hs K0 So Sm v H locs ls hI hW hS hl
        · refine lv_tableIn hx hb d40 (by omega) (by omega) (off := 1016) (by rw [q]; rfl) (tgt := 1056) (by decide) ?_
          exact lc_23 F hij hc hs K0 So Sm v H locs ls hI hW hS hl
        · refine lv_tableIn hx hb d40 (by omega) (by omega) (off := 1065) (by rw [q]; rfl) (tgt := 1105) (by decide) ?_
          exact lc_24 F hij hc hs K0 So Sm v H locs ls hI hW hS hl
        · refine lv_tableIn hx hb d40 (by omega) (by omega) (off := 1114) (by rw [q]; rfl) (tgt := 1154) (by decide) ?_
          exact lc_25 F hij hc hs K0 So Sm v H locs ls hI hW hS hl
        · refine lv_tableIn hx hb d40 (by omega) (by omega) (off := 1167) (by rw [q]; rfl) (tgt := 1207) (by decide) ?_
          exact lc_26 F hij hc hs K0 So Sm v H locs ls hI hW hS hl
end LOOP
