/-! String.length, isLatin1, checkIndex, charAt. -/
theorem tx_len {p : Program} {l : Launch} {e : Env} {R : Room} {s : State} {m : MethodId} {args : Array Value} {below : List Frame} {meth : Method} {c : Code} {H : Heap} {locs : List Loc} {cells slots : Nat} {Q : State → Prop} {cc : ByteArray} {pc t N : Nat} {ls : Array Slot} {rest : List Value} {A : Nat → Prop} {ty : FieldType} {f : Nat → Value} (hexec : p.tables.exec = Jvm.exec) (hb : c.code = cc) (hT : va_T ty t N f A s s.heap) (hS : va_S A s.heap H locs) (hdg : decode cc pc = .ok (.arraylength, 1))
    (kk : W p l e R s m args below meth c H locs cells slots Q (F0 m (pc + 1) ls (.int (Int32.ofNat N) :: rest))) : W p l e R s m args below meth c H locs cells slots Q (F0 m pc ls (.ref t :: rest)) := by
  obtain ⟨cell, h1, h2, h3, h4, h5, h6, h7⟩ := hT
  exact W.alen (n := Int32.ofNat N) hexec hb (by rw [hS.2.1 t (Array.getElem?_eq_some_iff.mp h1).1 h7]; exact h1) h2 h5 rfl rfl hdg kk
theorem tx_recv {q b n : Nat} {f : Nat → Int32} {s : State} (hB : SX q b n f (fun _ => False) s s.heap) : ∃ cell : Cell, s.heap[q]? = some cell ∧ cell.vm.isStatics = false ∧ s.vm.findClass "java/lang/String" = some cell.cls := by
  obtain ⟨cell, h1, h2, h3, -⟩ := hB.1
  exact ⟨cell, h1, h2, h3⟩
theorem nI_sh0 (n : Nat) : nI n >>> ((0 : Int32) &&& 31) = nI n := by
  apply Int32.toBitVec_inj.mp
  rw [Int32.toBitVec_shiftRight, show ((0 : Int32) &&& 31) = 0 from rfl, BitVec.sshiftRight_eq']
  show (nI n).toBitVec.sshiftRight 0 = _
  exact BitVec.sshiftRight_zero
/-- length() -/
theorem c_len (l : Launch) (q b n : Nat) (f : Nat → Int32) : Met l yLen (Cond.code yLen prog_24_method_54_code 1 (some .int) :: gw) (rX 1) (PX [.ref q] q b n f) (QX (some (.int (nI n)))) 0 0 (fun _ => False) := by
  refine metX (by decide +kernel) (Nat.le_of_ble_eq_true rfl) fun p ev s m below meth c ls C0 hl hB0 => ?_
  obtain ⟨hx, hb, hr, hml, hown, hlocks, hts⟩ := C0
  have hB := hB0
  obtain ⟨-, hcod, hval, hbyt, hcs, hzq⟩ := hB
  refine lv_aload_n hx hb (by decide +kernel : decode prog_24_method_54_code 0 = .ok (.aload_n 0, 1)) rfl (lv_at hl 0 rfl) ?_
  refine vk_getf hx hb hval s0 hown (hts _ (tx_g tx_ws.2.2.1.2.2.1 rfl)) (fun _ h => h) (by decide +kernel : decode prog_24_method_54_code 1 = .ok (.getfield 9, 3)) ?_
  refine tx_len hx hb hbyt s0 (by decide +kernel : decode prog_24_method_54_code 4 = .ok (.arraylength, 1)) ?_
  refine lv_aload_n hx hb (by decide +kernel : decode prog_24_method_54_code 5 = .ok (.aload_n 0, 1)) rfl (lv_at hl 0 rfl) ?_
  refine w_callX (va_runV (C := "java/lang/String") (As := []) (rest := [.int (nI n)]) (nL := 1) ⟨hx, hb, hml, hown, hts⟩ (c_cod l q b n f 0) ⟨⟨rfl, rfl, Nat.le_of_ble_eq_true rfl, Nat.le_of_ble_eq_true rfl, pay_in hts (tx_good tx_ws.1.2.1), List.mem_cons_self, hts _ (tx_g tx_ws.1.2.1 rfl), hts _ (tx_g tx_ws.2.2.2.1 rfl), ⟨by decide, by decide⟩, nargs_of (y := yCod) (by decide +kernel), hts _ (tx_g tx_ws.2.1.1 rfl)⟩, hts _ (tx_g tx_ws.2.1.2.1 rfl), hts _ (tx_g tx_ws.2.1.2.2.1 rfl)⟩ ⟨px_blind, tx_recv hB0, fun U hU hW => ⟨rfl, by dsimp only; rw [hU]; exact SX.moved hW.alike hB0⟩⟩ rfl rfl hl.1 rfl (lv_room (by show 1 ≤ 8; decide)) (by decide +kernel : decode prog_24_method_54_code 6 = .ok (.invokevirtual 335, 3)) ⟨Nat.le_refl _, Nat.le_refl _⟩) ?_
  refine lv_ishr hx hb (by decide +kernel : decode prog_24_method_54_code 9 = .ok (.ishr, 1)) ?_
  rw [nI_sh0]
  exact W.iret hx hb hr (fun t ht _ => ⟨rfl, ht⟩) (fun q h => by cases h) (by decide +kernel : decode prog_24_method_54_code 10 = .ok (.ireturn, 1)) hlocks
/-- isLatin1() -/
theorem c_lat (l : Launch) (q b n : Nat) (f : Nat → Int32) (d : Nat) : Met l yLat (Cond.code yLat prog_24_method_154_code 1 (some .boolean) :: gw) (rX d) (PX [.ref q] q b n f) (QX (some (.int 1))) 0 0 (fun _ => False) := by
  refine metX (by decide +kernel) (Nat.le_of_ble_eq_true rfl) fun p ev s m below meth c ls C0 hl hB => ?_
  obtain ⟨hx, hb, hr, hml, hown, hlocks, hts⟩ := C0
  obtain ⟨-, hcod, hval, hbyt, hcs, hzq⟩ := hB
  refine va_gets hx hb hcs s0 hown (hts _ (tx_g tx_ws.2.2.1.1 rfl)) (fun _ h => h) (by decide +kernel : decode prog_24_method_154_code 0 = .ok (.getstatic 38, 3)) ?_
  refine lv_if_eq hx hb (by decide +kernel : decode prog_24_method_154_code 3 = .ok (.ifCond .eq 14, 3)) (tgt := 17) (by decide) (fun h => absurd h (by decide)) (fun _ => ?_)
  refine lv_aload_n hx hb (by decide +kernel : decode prog_24_method_154_code 6 = .ok (.aload_n 0, 1)) rfl (lv_at hl 0 rfl) ?_
  refine vk_getf hx hb hcod s0 hown (hts _ (tx_g tx_ws.2.2.1.2.2.2 rfl)) (fun _ h => h) (by decide +kernel : decode prog_24_method_154_code 7 = .ok (.getfield 15, 3)) ?_
  refine lv_if_ne hx hb (by decide +kernel : decode prog_24_method_154_code 10 = .ok (.ifCond .ne 7, 3)) (tgt := 17) (by decide) (fun h => absurd rfl h) (fun _ => ?_)
  refine lv_iconst hx hb (by decide +kernel : decode prog_24_method_154_code 13 = .ok (.iconst 1, 1)) rfl ?_
  refine lv_goto hx hb (by decide +kernel : decode prog_24_method_154_code 14 = .ok (.goto 4, 3)) (tgt := 18) (by decide) ?_
  exact W.zret hx hb hr rfl (fun t ht _ => ⟨rfl, ht⟩) (fun q h => by cases h) (by decide +kernel : decode prog_24_method_154_code 18 = .ok (.ireturn, 1)) hlocks
/-- Preconditions.checkIndex(i, n, .) -/
theorem c_pre (l : Launch) (i n : Nat) (hi : i < n) (hn : n < 2 ^ 31) (v : Value) (hv : v = .null ∨ ∃ t, v = .ref t) (q b k : Nat) (f : Nat → Int32) (d : Nat) : Met l yPre (Cond.code yPre prog_33_method_11_code 3 (some .int) :: gw) (rX d) (PX [.int (nI i), .int (nI n), v] q b k f) (QX (some (.int (nI i)))) 0 0 (fun _ => False) := by
  have hc : csum [.int (nI i), .int (nI n), v] ≤ 3 := by
    rcases hv with rfl | ⟨t, rfl⟩ <;> exact Nat.le_of_ble_eq_true rfl
  refine metX (by decide +kernel) hc fun p ev s m below meth c ls C0 hl hB => ?_
  obtain ⟨hx, hb, hr, hml, hown, hlocks, hts⟩ := C0
  refine lv_iload_n hx hb (by decide +kernel : decode prog_33_method_11_code 0 = .ok (.iload_n 0, 1)) rfl (lv_at hl 0 rfl) ?_
  refine lv_if_lt hx hb (by decide +kernel : decode prog_33_method_11_code 1 = .ok (.ifCond .lt 8, 3)) (tgt := 9) (by decide) (fun h => absurd h (nI_pos (by omega))) (fun _ => ?_)
  refine lv_iload_n hx hb (by decide +kernel : decode prog_33_method_11_code 4 = .ok (.iload_n 0, 1)) rfl (lv_at hl 0 rfl) ?_
  refine lv_iload_n hx hb (by decide +kernel : decode prog_33_method_11_code 5 = .ok (.iload_n 1, 1)) rfl (lv_at hl 1 rfl) ?_
  refine lv_icmp_lt hx hb (by decide +kernel : decode prog_33_method_11_code 6 = .ok (.if_icmp .lt 10, 3)) (tgt := 16) (by decide) (fun _ => ?_) (fun h => absurd ((nI_ltI (by omega) hn).mpr hi) h)
  refine lv_iload_n hx hb (by decide +kernel : decode prog_33_method_11_code 16 = .ok (.iload_n 0, 1)) rfl (lv_at hl 0 rfl) ?_
  exact W.iret hx hb hr (fun t ht _ => ⟨rfl, ht⟩) (fun q h => by cases h) (by decide +kernel : decode prog_33_method_11_code 17 = .ok (.ireturn, 1)) hlocks
/-- String.checkIndex(i, n) -/
theorem c_chk (l : Launch) (i n : Nat) (hi : i < n) (hn : n < 2 ^ 31) (q b k : Nat) (f : Nat → Int32) : Met l yChk (Cond.code yChk prog_24_method_155_code 2 none :: gw) (rX 1) (PX [.int (nI i), .int (nI n)] q b k f) (QX none) 0 0 (fun _ => False) := by
  refine metX (by decide +kernel) (Nat.le_of_ble_eq_true rfl) fun p ev s m below meth c ls C0 hl hB0 => ?_
  obtain ⟨hx, hb, hr, hml, hown, hlocks, hts⟩ := C0
  have hB := hB0
  obtain ⟨-, hcod, hval, hbyt, hcs, hzq⟩ := hB
  refine lv_iload_n hx hb (by decide +kernel : decode prog_24_method_155_code 0 = .ok (.iload_n 0, 1)) rfl (lv_at hl 0 rfl) ?_
  refine lv_iload_n hx hb (by decide +kernel : decode prog_24_method_155_code 1 = .ok (.iload_n 1, 1)) rfl (lv_at hl 1 rfl) ?_
  have key : ∀ v : Value, (v = .null ∨ ∃ t, v = .ref t) → v.category = 1 → W p l ev (rX 1) s m ([Value.int (nI i), .int (nI n)]).toArray below meth c s.heap [] 0 0 (MQ below (QX none) ([Value.int (nI i), .int (nI n)]).toArray s 0 0 (fun _ => False)) (F0 m 5 ls (v :: .int (nI n) :: .int (nI i) :: [])) := by
    intro v hv hvc
    refine w_callX (va_runS (As := [.int (nI i), .int (nI n), v]) (rest := []) (nL := 2) ⟨hx, hb, hml, hown, hts⟩ (c_pre l i n hi hn v hv q b k f 0) ⟨⟨rfl, rfl, Nat.le_of_ble_eq_true rfl, Nat.le_of_ble_eq_true rfl, pay_in hts (tx_good tx_ws.1.2.2.2.2.2.2), List.mem_cons_self, hts _ (tx_g tx_ws.1.2.2.2.2.2.2 rfl), hts _ (tx_g tx_ws.2.2.2.2.2 rfl), ⟨by decide, by decide⟩, nargs_of (y := yPre) (n := 3) (by decide +kernel), hts _ (tx_g tx_ws.2.1.2.2.2.2.2.2.2.2.2.2.1 rfl)⟩, hts _ (tx_g tx_ws.2.1.2.2.2.2.2.2.2.2.2.2.2 rfl)⟩ ⟨px_blind, fun U hU hW => ⟨rfl, by dsimp only; rw [hU]; exact SX.moved hW.alike hB0⟩⟩ rfl rfl hl.1 rfl (lv_room (by decide)) (by decide +kernel : decode prog_24_method_155_code 5 = .ok (.invokestatic 1059, 3)) ⟨Nat.le_refl _, Nat.le_refl _⟩) ?_
    refine lv_pop hx hb (by decide +kernel : decode prog_24_method_155_code 8 = .ok (.pop, 1)) rfl ?_
    exact W.vret hx hb hr (fun t ht _ => ⟨rfl, ht⟩) (fun q h => by cases h) (by decide +kernel : decode prog_24_method_155_code 9 = .ok (.return_, 1)) hlocks
  rcases hzq with hz | ⟨t, hz⟩
  · refine va_gets hx hb hz s0 hown (hts _ (tx_g tx_ws.2.2.1.2.1 rfl)) (fun _ h => h) (by decide +kernel : decode prog_24_method_155_code 2 = .ok (.getstatic 1053, 3)) ?_
    exact key .null (Or.inl rfl) rfl
  · refine va_gets hx hb hz s0 hown (hts _ (tx_g tx_ws.2.2.1.2.1 rfl)) (fun _ h => h) (by decide +kernel : decode prog_24_method_155_code 2 = .ok (.getstatic 1053, 3)) ?_
    exact key (.ref t) (Or.inr ⟨t, rfl⟩) rfl
/-- a byte as a char -/
def chX (x : Int32) : Int32 := ((x &&& 255).toUInt32 % 65536).toInt32
/-- StringLatin1.charAt(bytes, i) -/
theorem c_lch (l : Launch) (i n : Nat) (hi : i < n) (hn : n < 2 ^ 31) (q b : Nat) (f : Nat → Int32) (hf : narrow .char (.int (chX (f i))) = .int (chX (f i))) : Met l yLCh (Cond.code yLCh prog_25_method_2_code 2 (some .char) :: gw) (rX 2) (PX [.ref b, .int (nI i)] q b n f) (QX (some (.int (chX (f i))))) 0 0 (fun _ => False) := by
  refine metX (by decide +kernel) (Nat.le_of_ble_eq_true rfl) fun p ev s m below meth c ls C0 hl hB0 => ?_
  obtain ⟨hx, hb, hr, hml, hown, hlocks, hts⟩ := C0
  have hB := hB0
  obtain ⟨-, hcod, hval, hbyt, hcs, hzq⟩ := hB
  refine lv_iload_n hx hb (by decide +kernel : decode prog_25_method_2_code 0 = .ok (.iload_n 1, 1)) rfl (lv_at hl 1 rfl) ?_
  refine lv_aload_n hx hb (by decide +kernel : decode prog_25_method_2_code 1 = .ok (.aload_n 0, 1)) rfl (lv_at hl 0 rfl) ?_
  refine tx_len hx hb hbyt s0 (by decide +kernel : decode prog_25_method_2_code 2 = .ok (.arraylength, 1)) ?_
  refine w_callX (va_runS (As := [.int (nI i), .int (nI n)]) (rest := []) (nL := 2) ⟨hx, hb, hml, hown, hts⟩ (c_chk l i n hi hn q b n f) ⟨⟨rfl, rfl, Nat.le_of_ble_eq_true rfl, Nat.le_of_ble_eq_true rfl, pay_in hts (tx_good tx_ws.1.2.2.2.2.2.1), List.mem_cons_self, hts _ (tx_g tx_ws.1.2.2.2.2.2.1 rfl), hts _ (tx_g tx_ws.2.2.2.1 rfl), ⟨by decide, by decide⟩, nargs_of (y := yChk) (n := 2) (by decide +kernel), hts _ (tx_g tx_ws.2.1.2.2.2.2.2.2.2.2.1 rfl)⟩, hts _ (tx_g tx_ws.2.1.2.2.2.2.2.2.2.2.2.1 rfl)⟩ ⟨px_blind, fun U hU hW => ⟨rfl, by dsimp only; rw [hU]; exact SX.moved hW.alike hB0⟩⟩ rfl rfl hl.1 rfl (lv_room (by decide)) (by decide +kernel : decode prog_25_method_2_code 3 = .ok (.invokestatic 9, 3)) ⟨Nat.le_refl _, Nat.le_refl _⟩) ?_
  refine lv_aload_n hx hb (by decide +kernel : decode prog_25_method_2_code 6 = .ok (.aload_n 0, 1)) rfl (lv_at hl 0 rfl) ?_
  refine lv_iload_n hx hb (by decide +kernel : decode prog_25_method_2_code 7 = .ok (.iload_n 1, 1)) rfl (lv_at hl 1 rfl) ?_
  refine va_tb hx hb hbyt s0 (i := nI i) (nI_in hi hn) rfl (by decide +kernel : decode prog_25_method_2_code 8 = .ok (.baload, 1)) ?_
  rw [nI_clamp (by omega)]
  refine lv_sipush hx hb (by decide +kernel : decode prog_25_method_2_code 9 = .ok (.sipush 255, 3)) rfl ?_
  refine lv_iand hx hb (by decide +kernel : decode prog_25_method_2_code 12 = .ok (.iand, 1)) ?_
  refine lv_i2c hx hb (by decide +kernel : decode prog_25_method_2_code 13 = .ok (.i2c, 1)) rfl ?_
  exact W.zret hx hb hr hf (fun t ht _ => ⟨rfl, ht⟩) (fun q h => by cases h) (by decide +kernel : decode prog_25_method_2_code 14 = .ok (.ireturn, 1)) hlocks
/-- charAt(i) -/
theorem c_chr (l : Launch) (i n : Nat) (hi : i < n) (hn : n < 2 ^ 31) (q b : Nat) (f : Nat → Int32) (hf : narrow .char (.int (chX (f i))) = .int (chX (f i))) : Met l yChr (Cond.code yChr prog_24_method_56_code 2 (some .char) :: gw) (rX 3) (PX [.ref q, .int (nI i)] q b n f) (QX (some (.int (chX (f i))))) 0 0 (fun _ => False) := by
  refine metX (by decide +kernel) (Nat.le_of_ble_eq_true rfl) fun p ev s m below meth c ls C0 hl hB0 => ?_
  obtain ⟨hx, hb, hr, hml, hown, hlocks, hts⟩ := C0
  have hB := hB0
  obtain ⟨-, hcod, hval, hbyt, hcs, hzq⟩ := hB
  refine lv_aload_n hx hb (by decide +kernel : decode prog_24_method_56_code 0 = .ok (.aload_n 0, 1)) rfl (lv_at hl 0 rfl) ?_
  refine w_callX (va_runV (C := "java/lang/String") (As := []) (rest := []) (nL := 2) ⟨hx, hb, hml, hown, hts⟩ (c_lat l q b n f 0) ⟨⟨rfl, rfl, Nat.le_of_ble_eq_true rfl, Nat.le_of_ble_eq_true rfl, pay_in hts (tx_good tx_ws.1.2.2.2.1), List.mem_cons_self, hts _ (tx_g tx_ws.1.2.2.2.1 rfl), hts _ (tx_g tx_ws.2.2.2.1 rfl), ⟨by decide, by decide⟩, nargs_of (y := yLat) (by decide +kernel), hts _ (tx_g tx_ws.2.1.2.2.2.1 rfl)⟩, hts _ (tx_g tx_ws.2.1.2.2.2.2.1 rfl), hts _ (tx_g tx_ws.2.1.2.2.2.2.2.1 rfl)⟩ ⟨px_blind, tx_recv hB0, fun U hU hW => ⟨rfl, by dsimp only; rw [hU]; exact SX.moved hW.alike hB0⟩⟩ rfl rfl hl.1 rfl (lv_room (by decide)) (by decide +kernel : decode prog_24_method_56_code 1 = .ok (.invokevirtual 492, 3)) ⟨Nat.le_refl _, Nat.le_refl _⟩) ?_
  refine lv_if_eq hx hb (by decide +kernel : decode prog_24_method_56_code 4 = .ok (.ifCond .eq 12, 3)) (tgt := 16) (by decide) (fun h => absurd h (by decide)) (fun _ => ?_)
  refine lv_aload_n hx hb (by decide +kernel : decode prog_24_method_56_code 7 = .ok (.aload_n 0, 1)) rfl (lv_at hl 0 rfl) ?_
  refine vk_getf hx hb hval s0 hown (hts _ (tx_g tx_ws.2.2.1.2.2.1 rfl)) (fun _ h => h) (by decide +kernel : decode prog_24_method_56_code 8 = .ok (.getfield 9, 3)) ?_
  refine lv_iload_n hx hb (by decide +kernel : decode prog_24_method_56_code 11 = .ok (.iload_n 1, 1)) rfl (lv_at hl 1 rfl) ?_
  refine w_callX (va_runS (As := [.ref b, .int (nI i)]) (rest := []) (nL := 2) ⟨hx, hb, hml, hown, hts⟩ (c_lch l i n hi hn q b f hf) ⟨⟨rfl, rfl, Nat.le_of_ble_eq_true rfl, Nat.le_of_ble_eq_true rfl, pay_in hts (tx_good tx_ws.1.2.2.2.2.1), List.mem_cons_self, hts _ (tx_g tx_ws.1.2.2.2.2.1 rfl), hts _ (tx_g tx_ws.2.2.2.2.1 rfl), ⟨by decide, by decide⟩, nargs_of (y := yLCh) (n := 2) (by decide +kernel), hts _ (tx_g tx_ws.2.1.2.2.2.2.2.2.1 rfl)⟩, hts _ (tx_g tx_ws.2.1.2.2.2.2.2.2.2.1 rfl)⟩ ⟨px_blind, fun U hU hW => ⟨rfl, by dsimp only; rw [hU]; exact SX.moved hW.alike hB0⟩⟩ rfl rfl hl.1 rfl (lv_room (by decide)) (by decide +kernel : decode prog_24_method_56_code 12 = .ok (.invokestatic 495, 3)) ⟨Nat.le_refl _, Nat.le_refl _⟩) ?_
  exact W.zret hx hb hr hf (fun t ht _ => ⟨rfl, ht⟩) (fun q h => by cases h) (by decide +kernel : decode prog_24_method_56_code 15 = .ok (.ireturn, 1)) hlocks
