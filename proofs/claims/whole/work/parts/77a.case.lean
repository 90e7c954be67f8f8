/-! The law's cases: 3. -/
section CASES
variable {D : va_G} {cy : Nat → ClassId} {GO GM : Nat → Nat} {aA : Nat} {adT bT : Nat → Nat} {bO bM qo : Nat} {B : Nat → Prop} {p : Program} {s : State} {m : MethodId} {meth : Method} {c : Code} {b L : Nat} {xs : Nat → Int32}
variable {l : Launch} {ev : Env} {below : List Frame} {cells slots : Nat} {Q : State → Prop}
set_option maxRecDepth 100000 in
theorem dc_3 : decode code 337 = .ok (.aload_n 1, 1) ∧ decode code 338 = .ok (.aload_n 0, 1) ∧ decode code 339 = .ok (.iload 4, 2) ∧ decode code 341 = .ok (.iconst 1, 1) ∧ decode code 342 = .ok (.iadd, 1) ∧ decode code 343 = .ok (.iaload, 1) ∧ decode code 344 = .ok (.aload_n 0, 1) ∧ decode code 345 = .ok (.iload 4, 2) ∧ decode code 347 = .ok (.iconst 2, 1) ∧ decode code 348 = .ok (.iadd, 1) ∧ decode code 349 = .ok (.iaload, 1) ∧ decode code 350 = .ok (.invokevirtual 35, 3) ∧ decode code 353 = .ok (.aload_n 2, 1) ∧ decode code 354 = .ok (.aload_n 0, 1) ∧ decode code 355 = .ok (.iload 4, 2) ∧ decode code 357 = .ok (.iconst 1, 1) ∧ decode code 358 = .ok (.iadd, 1) ∧ decode code 359 = .ok (.iaload, 1) ∧ decode code 360 = .ok (.aload_n 0, 1) ∧ decode code 361 = .ok (.iload 4, 2) ∧ decode code 363 = .ok (.iconst 2, 1) ∧ decode code 364 = .ok (.iadd, 1) ∧ decode code 365 = .ok (.iaload, 1) ∧ decode code 366 = .ok (.invokevirtual 39, 3) ∧ decode code 369 = .ok (.if_icmp .eq 863, 3) ∧ decode code 372 = .ok (.iconst 0, 1) ∧ decode code 373 = .ok (.ireturn, 1) := ⟨by decide +kernel, by decide +kernel, by decide +kernel, by decide +kernel, by decide +kernel, by decide +kernel, by decide +kernel, by decide +kernel, by decide +kernel, by decide +kernel, by decide +kernel, by decide +kernel, by decide +kernel, by decide +kernel, by decide +kernel, by decide +kernel, by decide +kernel, by decide +kernel, by decide +kernel, by decide +kernel, by decide +kernel, by decide +kernel, by decide +kernel, by decide +kernel, by decide +kernel, by decide +kernel, by decide +kernel⟩
set_option maxHeartbeats 4000000 in
/-- apple -/
theorem lc_3 (F : LB D cy GO GM aA adT bT bO bM qo B p s m meth c b L xs) {i : Nat} (hij : i + 6 < L) (hc : cells ≤ 601024) (hs : slots ≤ 7293034) (K : LGo D cy GO GM qo B p l ev s m below meth c b i Q cells slots 1232) : LGo D cy GO GM qo B p l ev s m below meth c b i Q cells slots 337 := by
  intro So Sm v H locs ls hI hW hS hl
  obtain ⟨d337, d338, d339, d341, d342, d343, d344, d345, d347, d348, d349, d350, d353, d354, d355, d357, d358, d359, d360, d361, d363, d364, d365, d366, d369, d372, d373⟩ := dc_3
  have F' := F
  obtain ⟨⟨hx, hb, -⟩, -⟩ := F'
  obtain ⟨r, So', Sm', e1, e2, hI'⟩ := apple_ok hI ((xs (i + 1))) ((xs (i + 2)))
  refine lv_aload_n hx hb d337 rfl (lv_at hl 3 rfl) ?_
  refine la F 1 (by omega) hS (lv_at hl 4 rfl) (lv_at hl 0 rfl) (by decide) d338 d339 d341 d342 d343 ?_
  refine la F 2 (by omega) hS (lv_at hl 4 rfl) (lv_at hl 0 rfl) (by decide) d344 d345 d347 d348 d349 ?_
  refine cO F (vs := [.int (xs (i + 1)), .int (xs (i + 2))]) (rest := []) (s_o_apple (d := 0) _ _ So e1) mx_2204 (Nat.le_of_ble_eq_true rfl) rfl (lcw (i := 35) (M := 2204) (p1 := 1062) (p2 := 1063) (p3 := 1064) (List.mem_of_getElem? (i := 6) rfl)) (show (parseMethodDescriptor (mN 2204).desc).map (fun d => d.parameters.length) = some 2 by decide +kernel) (fun _ => rfl) (Nat.le_of_ble_eq_true rfl) hc hs hW hS hl.1 (Nat.le_of_ble_eq_true rfl) d350 (fun H1 locs1 hW hS => ?_)
  refine lv_aload_n hx hb d353 rfl (lv_at hl 2 rfl) ?_
  refine la F 1 (by omega) hS (lv_at hl 4 rfl) (lv_at hl 0 rfl) (by decide) d354 d355 d357 d358 d359 ?_
  refine la F 2 (by omega) hS (lv_at hl 4 rfl) (lv_at hl 0 rfl) (by decide) d360 d361 d363 d364 d365 ?_
  refine cM F (vs := [.int (xs (i + 1)), .int (xs (i + 2))]) (rest := [.int r]) (s_m_apple (d := 0) _ _ Sm e2) mx_2460 (Nat.le_of_ble_eq_true rfl) rfl (lcw (i := 39) (M := 2460) (p1 := 2002) (p2 := 2003) (p3 := 2004) (List.mem_of_getElem? (i := 7) rfl)) (show (parseMethodDescriptor (mN 2460).desc).map (fun d => d.parameters.length) = some 2 by decide +kernel) (fun _ => rfl) (Nat.le_of_ble_eq_true rfl) hc hs hW hS hl.1 (Nat.le_of_ble_eq_true rfl) d366 (fun H1 locs1 hW hS => ?_)
  exact lv_icmp_eq (tgt := 1232) hx hb d369 (by decide) (fun _ => K So' Sm' v _ _ ls hI' hW hS hl) (fun h => absurd rfl h)
end CASES
