/-! Token.ofSign, Token.ofLetters: by hand. -/
def tokTx : List (List Int32) := [[], [], [], [], [40], [41], [59], [110, 111, 116], [97, 110, 100], [111, 114], [60], [61], [43], [45], [42], [97, 112, 112, 108, 101], [97, 116], [114, 105, 112, 101], [119, 111, 114, 116, 104], [116, 119, 105, 110], [111, 116, 104, 101, 114], [112, 101, 114, 115, 111, 110], [108, 97, 110, 101], [108, 111, 117, 100], [115, 116, 114, 97, 110, 103, 101, 114], [112, 97, 103, 101], [98, 97, 110, 110], [110, 101, 97, 114], [118, 97, 108, 117, 101], [99, 97, 108, 108], [112, 105, 99, 107], [100, 97, 121], [112, 108, 97, 105, 110], [97, 108, 105, 97, 115], [119, 101, 108, 115, 104], [100, 101, 97, 102], [101, 100, 105, 116, 115], [115, 116, 97, 114, 116], [114, 104, 121, 109, 101], [115, 105, 122, 101], [98, 97, 115, 101], [97, 103, 101]]
def txN (i : Nat) : Nat := (tokTx.getD i []).length
def txB (i j : Nat) : Int32 := (tokTx.getD i []).getD j 0
/-- what stands of the statics: the constants, the row of all, their texts -/
def SFt (G : Nat → Nat) (aA : Nat) (adT bT : Nat → Nat) (A : Nat → Prop) (U : State) (H : Heap) : Prop :=
  TF G A U H ∧ va_Z "NameOrchard$Token" "ALL" "[LNameOrchard$Token;" (.ref aA) A U H ∧ va_T (.object "NameOrchard$Token") aA 42 (fun j => .ref (G (1000 + j))) A U H ∧ va_Ef 42 "NameOrchard$Token" "text" "Ljava/lang/String;" (fun i => .ref (adT i)) (fun i => G (1000 + i)) A U H ∧ ∀ i, i < 42 → SX (adT i) (bT i) (txN i) (txB i) A U H
theorem SFt_F {G : Nat → Nat} {aA : Nat} {adT bT : Nat → Nat} : okF (SFt G aA adT bT) :=
  ⟨fun A u U H hvm h => ⟨h.1.moved hvm, va_Z.moved hvm h.2.1, va_T.moved hvm h.2.2.1, va_Ef.moved hvm h.2.2.2.1, fun i hi => (h.2.2.2.2 i hi).moved hvm⟩,
   fun A U H H1 hq h => ⟨h.1.kept hq, h.2.1.kept hq, h.2.2.1.kept hq, h.2.2.2.1.kept hq, fun i hi => (h.2.2.2.2 i hi).kept hq⟩,
   fun A B U H hAB h => ⟨h.1.narrow hAB, h.2.1.narrow hAB, h.2.2.1.narrow hAB, h.2.2.2.1.narrow hAB, fun i hi => (h.2.2.2.2 i hi).narrow hAB⟩⟩
theorem SFt_T {G : Nat → Nat} {aA : Nat} {adT bT : Nat → Nat} : okT (SFt G aA adT bT) G := fun _ _ _ h => h.1
def sgF (x : Int32) : Nat → Nat → Nat
  | 0, _ => 1
  | k + 1, i => if txN i = 1 then (if x = chX (txB i 0) then i else sgF x k (i + 1)) else sgF x k (i + 1)
def ltF (x : Int64) : Nat → Nat → Nat
  | 0, _ => 3
  | k + 1, i => if x = tokJL.getD i 0 then (if x = 0 then ltF x k (i + 1) else i) else ltF x k (i + 1)
theorem chT : ∀ i, i < 42 → narrow .char (.int (chX (txB i 0))) = .int (chX (txB i 0)) := by decide +kernel
set_option maxRecDepth 100000 in
theorem tk_ws : lw_tbl[763]? = some (Cond.fieldLink "NameOrchard$Token" 189 "NameOrchard$Token" "ALL" "[LNameOrchard$Token;") ∧ lw_tbl[826]? = some (Cond.fieldLink "NameOrchard$Token" 9 "NameOrchard$Token" "STRANGE" "LNameOrchard$Token;") ∧ lw_tbl[2265]? = some (Cond.fieldLink "NameOrchard$Token" 185 "NameOrchard$Token" "letters" "J") ∧ lw_tbl[2266]? = some (Cond.fieldLink "NameOrchard$Token" 154 "NameOrchard$Token" "text" "Ljava/lang/String;") ∧ lw_tbl[778]? = some (Cond.methodLink "NameOrchard$Token" 169 yLen) ∧ lw_tbl[779]? = some (Cond.instanceMethod yLen) ∧ lw_tbl[780]? = some (Cond.selects "java/lang/String" yLen yLen) ∧ lw_tbl[788]? = some (Cond.methodLink "NameOrchard$Token" 175 yChr) ∧ lw_tbl[789]? = some (Cond.instanceMethod yChr) ∧ lw_tbl[790]? = some (Cond.selects "java/lang/String" yChr yChr) := by decide +kernel
set_option maxRecDepth 100000 in
theorem tk_ws2 : lw_tbl[765]? = some (Cond.fieldLink "NameOrchard$Token" 15 "NameOrchard$Token" "NAME" "LNameOrchard$Token;") := by decide +kernel
theorem sgF_n {x : Int32} {k i : Nat} (h : ¬ txN i = 1) : sgF x (k + 1) i = sgF x k (i + 1) := by rw [sgF, if_neg h]
theorem sgF_y {x v : Int32} {k i : Nat} (h : txN i = 1) (hv : chX (txB i 0) = v) : sgF x (k + 1) i = if x = v then i else sgF x k (i + 1) := by rw [sgF, if_pos h, hv]
theorem ltF_n {x : Int64} {k i : Nat} (h : tokJL.getD i 0 = 0) : ltF x (k + 1) i = ltF x k (i + 1) := by
  rw [ltF, h]
  by_cases hx : x = 0
  · rw [if_pos hx, if_pos hx]
  · rw [if_neg hx]
theorem ltF_y {x v : Int64} {k i : Nat} (hv : tokJL.getD i 0 = v) (h0 : ¬ v = 0) : ltF x (k + 1) i = if x = v then i else ltF x k (i + 1) := by
  rw [ltF, hv]
  by_cases hx : x = v
  · rw [if_pos hx, if_pos hx, if_neg (by rw [hx]; exact h0)]
  · rw [if_neg hx, if_neg hx]
theorem sgF_0 (x : Int32) : sgF x 42 0 = sgT x := by
  unfold sgT
  rw [sgF_n (by decide +kernel), sgF_n (by decide +kernel), sgF_n (by decide +kernel), sgF_n (by decide +kernel), sgF_y (by decide +kernel) (show chX (txB 4 0) = 40 by decide +kernel), sgF_y (by decide +kernel) (show chX (txB 5 0) = 41 by decide +kernel), sgF_y (by decide +kernel) (show chX (txB 6 0) = 59 by decide +kernel), sgF_n (by decide +kernel), sgF_n (by decide +kernel), sgF_n (by decide +kernel), sgF_y (by decide +kernel) (show chX (txB 10 0) = 60 by decide +kernel), sgF_y (by decide +kernel) (show chX (txB 11 0) = 61 by decide +kernel), sgF_y (by decide +kernel) (show chX (txB 12 0) = 43 by decide +kernel), sgF_y (by decide +kernel) (show chX (txB 13 0) = 45 by decide +kernel), sgF_y (by decide +kernel) (show chX (txB 14 0) = 42 by decide +kernel), sgF_n (by decide +kernel), sgF_n (by decide +kernel), sgF_n (by decide +kernel), sgF_n (by decide +kernel), sgF_n (by decide +kernel), sgF_n (by decide +kernel), sgF_n (by decide +kernel), sgF_n (by decide +kernel), sgF_n (by decide +kernel), sgF_n (by decide +kernel), sgF_n (by decide +kernel), sgF_n (by decide +kernel), sgF_n (by decide +kernel), sgF_n (by decide +kernel), sgF_n (by decide +kernel), sgF_n (by decide +kernel), sgF_n (by decide +kernel), sgF_n (by decide +kernel), sgF_n (by decide +kernel), sgF_n (by decide +kernel), sgF_n (by decide +kernel), sgF_n (by decide +kernel), sgF_n (by decide +kernel), sgF_n (by decide +kernel), sgF_n (by decide +kernel), sgF_n (by decide +kernel), sgF_n (by decide +kernel)]
  rfl
theorem ltF_0 (x : Int64) : ltF x 42 0 = ltT x := by
  unfold ltT
  rw [ltF_n (by decide +kernel), ltF_n (by decide +kernel), ltF_n (by decide +kernel), ltF_n (by decide +kernel), ltF_n (by decide +kernel), ltF_n (by decide +kernel), ltF_n (by decide +kernel), ltF_y (show tokJL.getD 7 0 = 20974 by decide +kernel) (by decide +kernel), ltF_y (show tokJL.getD 8 0 = 4545 by decide +kernel) (by decide +kernel), ltF_y (show tokJL.getD 9 0 = 591 by decide +kernel) (by decide +kernel), ltF_n (by decide +kernel), ltF_n (by decide +kernel), ltF_n (by decide +kernel), ltF_n (by decide +kernel), ltF_n (by decide +kernel), ltF_y (show tokJL.getD 15 0 = 5652993 by decide +kernel) (by decide +kernel), ltF_y (show tokJL.getD 16 0 = 641 by decide +kernel) (by decide +kernel), ltF_y (show tokJL.getD 17 0 = 180530 by decide +kernel) (by decide +kernel), ltF_y (show tokJL.getD 18 0 = 9062903 by decide +kernel) (by decide +kernel), ltF_y (show tokJL.getD 19 0 = 468724 by decide +kernel) (by decide +kernel), ltF_y (show tokJL.getD 20 0 = 19047055 by decide +kernel) (by decide +kernel), ltF_y (show tokJL.getD 21 0 = 486131888 by decide +kernel) (by decide +kernel), ltF_y (show tokJL.getD 22 0 = 178220 by decide +kernel) (by decide +kernel), ltF_y (show tokJL.getD 23 0 = 153068 by decide +kernel) (by decide +kernel), ltF_y (show tokJL.getD 24 0 = 624093612691 by decide +kernel) (by decide +kernel), ltF_y (show tokJL.getD 25 0 = 171056 by decide +kernel) (by decide +kernel), ltF_y (show tokJL.getD 26 0 = 473122 by decide +kernel) (by decide +kernel), ltF_y (show tokJL.getD 27 0 = 591022 by decide +kernel) (by decide +kernel), ltF_y (show tokJL.getD 28 0 = 5943350 by decide +kernel) (by decide +kernel), ltF_y (show tokJL.getD 29 0 = 405539 by decide +kernel) (by decide +kernel), ltF_y (show tokJL.getD 30 0 = 363824 by decide +kernel) (by decide +kernel), ltF_y (show tokJL.getD 31 0 = 25636 by decide +kernel) (by decide +kernel), ltF_y (show tokJL.getD 32 0 = 14976400 by decide +kernel) (by decide +kernel), ltF_y (show tokJL.getD 33 0 = 19965313 by decide +kernel) (by decide +kernel), ltF_y (show tokJL.getD 34 0 = 9023671 by decide +kernel) (by decide +kernel), ltF_y (show tokJL.getD 35 0 = 197796 by decide +kernel) (by decide +kernel), ltF_y (show tokJL.getD 36 0 = 20587653 by decide +kernel) (by decide +kernel), ltF_y (show tokJL.getD 37 0 = 21563027 by decide +kernel) (by decide +kernel), ltF_y (show tokJL.getD 38 0 = 5694738 by decide +kernel) (by decide +kernel), ltF_y (show tokJL.getD 39 0 = 190771 by decide +kernel) (by decide +kernel), ltF_y (show tokJL.getD 40 0 = 183330 by decide +kernel) (by decide +kernel), ltF_y (show tokJL.getD 41 0 = 5345 by decide +kernel) (by decide +kernel)]
  rfl
section TOK
variable {K : Cfg} {G : Nat → Nat} {cy : Nat → ClassId} {L : List Nat} {D : va_G} {aA : Nat} {adT bT : Nat → Nat}
theorem metS_body {SF : (Nat → Prop) → State → Heap → Prop} {l : Launch} {d M : Nat} {as : List Value} {S S' : St} {r : Option Value} {e : MI × List (Nat × Xi)} (he : mX M = some e) (hg : GoodE e) (hc : csum as ≤ e.1.2.2.1)
    (body : ∀ (p : Program) (ev : Env) (s : State) (m : MethodId) (below : List Frame) (meth : Method) (c : Code) (ls : Array Slot) (A : Nat → Prop), FrC K G cy D L SF e p s m ((as.map (gv G)).toArray) meth c A → va_P D kCl (wl K G cy L S) s.heap → lv_has ls e.1.2.2.1 (gl G (lv_args 0 as)) → W p l ev (rmd d) s m ((as.map (gv G)).toArray) below meth c s.heap [] 0 0 (MQ below (QB K G cy D L S' r A) ((as.map (gv G)).toArray) s 0 0 A) (F0 m 0 ls [])) : MetS K G cy D L SF l d e as S r S' := by
  intro sz
  obtain ⟨hcw, -, hcls, ho, -⟩ := hg
  refine va_MetF (cc := e.1.2.1) (maxL := e.1.2.2.1) (ret := e.1.2.2.2.1) (mX_plain he) rfl ?_
  intro p ev s m args below meth c s₁ B hml hv
  obtain ⟨rfl, hsz, hP, hK, hD0, hnw, hSF⟩ := hv
  have hts0 := atoms_spec (ws := Cond.code e.1.1 e.1.2.1 e.1.2.2.1 e.1.2.2.2.1 :: gw) B.pre
  have hts : ∀ w ∈ gw, w.before ((as.map (gv G)).toArray) s = true := fun w h => hts0 w (List.mem_cons_of_mem _ h)
  have hown : s.vm.findClass (kN e.1.2.2.2.2) = some m.cls := by rw [← hcls]; exact findClass_of_methodNamed B.named
  subst hsz
  have hlen : (lg_sl (as.map (gv G))).length ≤ e.1.2.2.1 := by rw [csum_sl, csum_map]; exact hc
  have hl := lv_entry (as.map (gv G)) (n := e.1.2.2.1) hlen
  rw [lg_entry_eq]
  generalize (lg_sl (as.map (gv G)) ++ List.replicate (e.1.2.2.1 - (lg_sl (as.map (gv G))).length) Slot.unset).toArray = ls at hl ⊢
  rw [← gl_args] at hl
  exact body p ev s m below meth c ls _ ⟨B.exec, B.bytes, B.returns, hml, hown, B.notSynchronized, hts, hnw, hK, fun q => wl_A, hSF⟩ hP hl
section SG
variable {l : Launch} {d : Nat} {p : Program} {ev : Env} {s : State} {m : MethodId} {args : Array Value} {below : List Frame} {meth : Method} {c : Code} {A : Nat → Prop} {S : St}
theorem ofT_row (hx : p.tables.exec = Jvm.exec) {cc : ByteArray} (hb : c.code = cc) (hts : ∀ w ∈ gw, w.before args s = true) (hown : s.vm.findClass "NameOrchard$Token" = some m.cls) (hSF : SFt G aA adT bT A s s.heap) {pc : Nat} {ls : Array Slot} {rest : List Value} {Q : State → Prop} (hdec : decode cc pc = .ok (.getstatic 189, 3)) (kk : W p l ev (rmd d) s m args below meth c s.heap [] 0 0 Q (F0 m (pc + 3) ls (.ref aA :: rest))) : W p l ev (rmd d) s m args below meth c s.heap [] 0 0 Q (F0 m pc ls rest) :=
  va_gets (A := A) hx hb hSF.2.1 va_S.rf hown (hts _ (tx_g tk_ws.1 rfl)) (fun _ h => h) hdec kk
theorem sg_loop {x : Int32} (hx : p.tables.exec = Jvm.exec) (hb : c.code = prog_12_method_7_code) (hr : meth.sig.returnType = some (.object "NameOrchard$Token")) (hml : c.maxLocals = 2) (hown : s.vm.findClass "NameOrchard$Token" = some m.cls) (hlocks : meth.locks = false) (hts : ∀ w ∈ gw, w.before args s = true) (hSF : SFt G aA adT bT A s s.heap) (hP : va_P D kCl (wl K G cy L S) s.heap) :
    ∀ k i : Nat, i + k = 42 → ∀ ls : Array Slot, lv_has ls 2 [(1, .int (nI i)), (0, .int x)] → W p l ev (rmd d) s m args below meth c s.heap [] 0 0 (MQ below (QB K G cy D L S (some (.ref (1000 + sgF x k i))) A) args s 0 0 A) (F0 m 2 ls []) := by
  have hS : va_S A s.heap s.heap [] := va_S.rf
  intro k
  induction k with
  | zero =>
    intro i hi ls hl
    obtain rfl : i = 42 := by omega
    refine lv_iload_n hx hb (by decide +kernel : decode prog_12_method_7_code 2 = .ok (.iload_n 1, 1)) rfl (lv_at hl 0 rfl) ?_
    refine ofT_row hx hb hts hown hSF (by decide +kernel : decode prog_12_method_7_code 3 = .ok (.getstatic 189, 3)) ?_
    refine tx_len hx hb hSF.2.2.1 hS (by decide +kernel : decode prog_12_method_7_code 6 = .ok (.arraylength, 1)) ?_
    refine lv_icmp_ge hx hb (by decide +kernel : decode prog_12_method_7_code 7 = .ok (.if_icmp .ge 46, 3)) (tgt := 53) (by decide) (fun _ => ?_) (fun h => absurd (Int32.le_refl _) h)
    refine va_gets hx hb (hSF.1.1.1 1 (by decide)).1 hS hown (hts _ (tx_g tk_ws.2.1 rfl)) (fun _ h => h) (by decide +kernel : decode prog_12_method_7_code 53 = .ok (.getstatic 9, 3)) ?_
    exact W.aret hx hb hr (Or.inl ⟨_, rfl⟩) (Or.inr ⟨_, rfl⟩) (fun t ht _ => ⟨rfl, by rw [ht]; exact hP, hS.F ht⟩) hS.2.2 (by decide +kernel : decode prog_12_method_7_code 56 = .ok (.areturn, 1)) hlocks
  | succ k ih =>
    intro i hi ls hl
    have hlt : i < 42 := by omega
    have hin : vp_in (nI i) 42 := nI_in hlt (by decide)
    have hfi : (fun j => Value.ref (G (1000 + j))) (nI i).toNatClampNeg = .ref (G (1000 + i)) := by rw [nI_clamp (by omega)]
    have hSX := hSF.2.2.2.2 i hlt
    have hSX0 : SX (adT i) (bT i) (txN i) (txB i) (fun _ => False) s s.heap := hSX.narrow (fun _ h => h.elim)
    have next : ∀ ls : Array Slot, lv_has ls 2 [(1, .int (nI i)), (0, .int x)] → sgF x (k + 1) i = sgF x k (i + 1) → W p l ev (rmd d) s m args below meth c s.heap [] 0 0 (MQ below (QB K G cy D L S (some (.ref (1000 + sgF x (k + 1) i))) A) args s 0 0 A) (F0 m 47 ls []) := by
      intro ls hl he
      rw [he]
      refine lv_iinc (v := nI (i + 1)) (lv' := [(1, .int (nI (i + 1))), (0, .int x)]) hx hb (by decide +kernel : decode prog_12_method_7_code 47 = .ok (.iinc 1 1, 3)) hl (k := 0) rfl (nI_1 i) (by decide) rfl (fun ls hl => ?_)
      refine lv_goto hx hb (by decide +kernel : decode prog_12_method_7_code 50 = .ok (.goto (-48), 3)) (tgt := 2) (by decide) ?_
      exact ih (i + 1) (by omega) ls hl
    refine lv_iload_n hx hb (by decide +kernel : decode prog_12_method_7_code 2 = .ok (.iload_n 1, 1)) rfl (lv_at hl 0 rfl) ?_
    refine ofT_row hx hb hts hown hSF (by decide +kernel : decode prog_12_method_7_code 3 = .ok (.getstatic 189, 3)) ?_
    refine tx_len hx hb hSF.2.2.1 hS (by decide +kernel : decode prog_12_method_7_code 6 = .ok (.arraylength, 1)) ?_
    refine lv_icmp_ge hx hb (by decide +kernel : decode prog_12_method_7_code 7 = .ok (.if_icmp .ge 46, 3)) (tgt := 53) (by decide) (fun h => absurd h (nI_ge hlt (by decide))) (fun _ => ?_)
    refine ofT_row hx hb hts hown hSF (by decide +kernel : decode prog_12_method_7_code 10 = .ok (.getstatic 189, 3)) ?_
    refine lv_iload_n hx hb (by decide +kernel : decode prog_12_method_7_code 13 = .ok (.iload_n 1, 1)) rfl (lv_at hl 0 rfl) ?_
    refine vb_tq hx hb hSF.2.2.1 hS hin hfi (by decide +kernel : decode prog_12_method_7_code 14 = .ok (.aaload, 1)) ?_
    refine vk_getf hx hb (hSF.2.2.2.1 i hlt) hS hown (hts _ (tx_g tk_ws.2.2.2.1 rfl)) (fun _ h => h) (by decide +kernel : decode prog_12_method_7_code 15 = .ok (.getfield 154, 3)) ?_
    refine w_callX (va_runV (C := "java/lang/String") (As := []) (rest := []) (nL := 2) ⟨hx, hb, hml, hown, hts⟩ (c_len l (adT i) (bT i) (txN i) (txB i)) ⟨⟨rfl, rfl, by show 1 + 1 ≤ d + 4; omega, by show 8 + (1 + 11) + 64 * 1 ≤ 64 * (d + 4); omega, pay_in hts (tx_good tx_ws.1.1), List.mem_cons_self, hts _ (tx_g tx_ws.1.1 rfl), hts _ (tx_g tx_ws.2.2.2.1 rfl), ⟨by decide, by decide⟩, nargs_of (y := yLen) (by decide +kernel), hts _ (tx_g tk_ws.2.2.2.2.1 rfl)⟩, hts _ (tx_g tk_ws.2.2.2.2.2.1 rfl), hts _ (tx_g tk_ws.2.2.2.2.2.2.1 rfl)⟩ ⟨px_blind, tx_recv hSX0, fun U hU hW => ⟨rfl, by dsimp only; rw [hU]; exact SX.moved hW.alike hSX0⟩⟩ rfl rfl hl.1 rfl (lv_room (by decide)) (by decide +kernel : decode prog_12_method_7_code 18 = .ok (.invokevirtual 169, 3)) ⟨Nat.le_refl _, Nat.le_refl _⟩) ?_
    refine lv_iconst (v := nI 1) hx hb (by decide +kernel : decode prog_12_method_7_code 21 = .ok (.iconst 1, 1)) (by decide) ?_
    have hN : txN i < 2 ^ 31 := (show ∀ i, i < 42 → txN i < 2 ^ 31 by decide +kernel) i hlt
    refine lv_icmp_ne hx hb (by decide +kernel : decode prog_12_method_7_code 22 = .ok (.if_icmp .ne 25, 3)) (tgt := 47) (by decide) (fun h => next ls hl (sgF_n (fun e => h (by rw [e])))) (fun h1 => ?_)
    have hn1 : txN i = 1 := (nI_eq hN (by decide)).mp h1
    refine ofT_row hx hb hts hown hSF (by decide +kernel : decode prog_12_method_7_code 25 = .ok (.getstatic 189, 3)) ?_
    refine lv_iload_n hx hb (by decide +kernel : decode prog_12_method_7_code 28 = .ok (.iload_n 1, 1)) rfl (lv_at hl 0 rfl) ?_
    refine vb_tq hx hb hSF.2.2.1 hS hin hfi (by decide +kernel : decode prog_12_method_7_code 29 = .ok (.aaload, 1)) ?_
    refine vk_getf hx hb (hSF.2.2.2.1 i hlt) hS hown (hts _ (tx_g tk_ws.2.2.2.1 rfl)) (fun _ h => h) (by decide +kernel : decode prog_12_method_7_code 30 = .ok (.getfield 154, 3)) ?_
    refine lv_iconst (v := nI 0) hx hb (by decide +kernel : decode prog_12_method_7_code 33 = .ok (.iconst 0, 1)) (by decide) ?_
    refine w_callX (va_runV (C := "java/lang/String") (As := [.int (nI 0)]) (rest := []) (nL := 2) ⟨hx, hb, hml, hown, hts⟩ (c_chr l 0 (txN i) (by omega) hN (adT i) (bT i) (txB i) (chT i hlt)) ⟨⟨rfl, rfl, by show 3 + 1 ≤ d + 4; omega, by show 8 + (2 + 11) + 64 * 3 ≤ 64 * (d + 4); omega, pay_in hts (tx_good tx_ws.1.2.2.1), List.mem_cons_self, hts _ (tx_g tx_ws.1.2.2.1 rfl), hts _ (tx_g tx_ws.2.2.2.1 rfl), ⟨by decide, by decide⟩, nargs_of (y := yChr) (by decide +kernel), hts _ (tx_g tk_ws.2.2.2.2.2.2.2.1 rfl)⟩, hts _ (tx_g tk_ws.2.2.2.2.2.2.2.2.1 rfl), hts _ (tx_g tk_ws.2.2.2.2.2.2.2.2.2 rfl)⟩ ⟨px_blind, tx_recv hSX0, fun U hU hW => ⟨rfl, by dsimp only; rw [hU]; exact SX.moved hW.alike hSX0⟩⟩ rfl rfl hl.1 rfl (lv_room (by decide)) (by decide +kernel : decode prog_12_method_7_code 34 = .ok (.invokevirtual 175, 3)) ⟨Nat.le_refl _, Nat.le_refl _⟩) ?_
    refine lv_iload_n hx hb (by decide +kernel : decode prog_12_method_7_code 37 = .ok (.iload_n 0, 1)) rfl (lv_at hl 1 rfl) ?_
    refine lv_icmp_ne hx hb (by decide +kernel : decode prog_12_method_7_code 38 = .ok (.if_icmp .ne 9, 3)) (tgt := 47) (by decide) (fun h => next ls hl (by rw [sgF_y hn1 rfl, if_neg (fun e => h e.symm)])) (fun h2 => ?_)
    rw [show sgF x (k + 1) i = i by rw [sgF_y hn1 rfl, if_pos h2.symm]]
    refine ofT_row hx hb hts hown hSF (by decide +kernel : decode prog_12_method_7_code 41 = .ok (.getstatic 189, 3)) ?_
    refine lv_iload_n hx hb (by decide +kernel : decode prog_12_method_7_code 44 = .ok (.iload_n 1, 1)) rfl (lv_at hl 0 rfl) ?_
    refine vb_tq hx hb hSF.2.2.1 hS hin hfi (by decide +kernel : decode prog_12_method_7_code 45 = .ok (.aaload, 1)) ?_
    exact W.aret hx hb hr (Or.inl ⟨_, rfl⟩) (Or.inr ⟨_, rfl⟩) (fun t ht _ => ⟨rfl, by rw [ht]; exact hP, hS.F ht⟩) hS.2.2 (by decide +kernel : decode prog_12_method_7_code 46 = .ok (.areturn, 1)) hlocks
theorem ltr_loop {x : Int64} (hx : p.tables.exec = Jvm.exec) (hb : c.code = prog_12_method_8_code) (hr : meth.sig.returnType = some (.object "NameOrchard$Token")) (hml : c.maxLocals = 3) (hown : s.vm.findClass "NameOrchard$Token" = some m.cls) (hlocks : meth.locks = false) (hts : ∀ w ∈ gw, w.before args s = true) (hSF : SFt G aA adT bT A s s.heap) (hP : va_P D kCl (wl K G cy L S) s.heap) :
    ∀ k i : Nat, i + k = 42 → ∀ ls : Array Slot, lv_has ls 3 [(2, .int (nI i)), (0, .long x)] → W p l ev (rmd d) s m args below meth c s.heap [] 0 0 (MQ below (QB K G cy D L S (some (.ref (1000 + ltF x k i))) A) args s 0 0 A) (F0 m 2 ls []) := by
  have hS : va_S A s.heap s.heap [] := va_S.rf
  intro k
  induction k with
  | zero =>
    intro i hi ls hl
    obtain rfl : i = 42 := by omega
    refine lv_iload_n hx hb (by decide +kernel : decode prog_12_method_8_code 2 = .ok (.iload_n 2, 1)) rfl (lv_at hl 0 rfl) ?_
    refine ofT_row hx hb hts hown hSF (by decide +kernel : decode prog_12_method_8_code 3 = .ok (.getstatic 189, 3)) ?_
    refine tx_len hx hb hSF.2.2.1 hS (by decide +kernel : decode prog_12_method_8_code 6 = .ok (.arraylength, 1)) ?_
    refine lv_icmp_ge hx hb (by decide +kernel : decode prog_12_method_8_code 7 = .ok (.if_icmp .ge 34, 3)) (tgt := 41) (by decide) (fun _ => ?_) (fun h => absurd (Int32.le_refl _) h)
    refine va_gets hx hb (hSF.1.1.1 3 (by decide)).1 hS hown (hts _ (tx_g tk_ws2 rfl)) (fun _ h => h) (by decide +kernel : decode prog_12_method_8_code 41 = .ok (.getstatic 15, 3)) ?_
    exact W.aret hx hb hr (Or.inl ⟨_, rfl⟩) (Or.inr ⟨_, rfl⟩) (fun t ht _ => ⟨rfl, by rw [ht]; exact hP, hS.F ht⟩) hS.2.2 (by decide +kernel : decode prog_12_method_8_code 44 = .ok (.areturn, 1)) hlocks
  | succ k ih =>
    intro i hi ls hl
    have hlt : i < 42 := by omega
    have hin : vp_in (nI i) 42 := nI_in hlt (by decide)
    have hfi : (fun j => Value.ref (G (1000 + j))) (nI i).toNatClampNeg = .ref (G (1000 + i)) := by rw [nI_clamp (by omega)]
    have next : ∀ ls : Array Slot, lv_has ls 3 [(2, .int (nI i)), (0, .long x)] → ltF x (k + 1) i = ltF x k (i + 1) → W p l ev (rmd d) s m args below meth c s.heap [] 0 0 (MQ below (QB K G cy D L S (some (.ref (1000 + ltF x (k + 1) i))) A) args s 0 0 A) (F0 m 35 ls []) := by
      intro ls hl he
      rw [he]
      refine lv_iinc (v := nI (i + 1)) (lv' := [(2, .int (nI (i + 1))), (0, .long x)]) hx hb (by decide +kernel : decode prog_12_method_8_code 35 = .ok (.iinc 2 1, 3)) hl (k := 0) rfl (nI_1 i) (by decide) rfl (fun ls hl => ?_)
      refine lv_goto hx hb (by decide +kernel : decode prog_12_method_8_code 38 = .ok (.goto (-36), 3)) (tgt := 2) (by decide) ?_
      exact ih (i + 1) (by omega) ls hl
    refine lv_iload_n hx hb (by decide +kernel : decode prog_12_method_8_code 2 = .ok (.iload_n 2, 1)) rfl (lv_at hl 0 rfl) ?_
    refine ofT_row hx hb hts hown hSF (by decide +kernel : decode prog_12_method_8_code 3 = .ok (.getstatic 189, 3)) ?_
    refine tx_len hx hb hSF.2.2.1 hS (by decide +kernel : decode prog_12_method_8_code 6 = .ok (.arraylength, 1)) ?_
    refine lv_icmp_ge hx hb (by decide +kernel : decode prog_12_method_8_code 7 = .ok (.if_icmp .ge 34, 3)) (tgt := 41) (by decide) (fun h => absurd h (nI_ge hlt (by decide))) (fun _ => ?_)
    refine ofT_row hx hb hts hown hSF (by decide +kernel : decode prog_12_method_8_code 10 = .ok (.getstatic 189, 3)) ?_
    refine lv_iload_n hx hb (by decide +kernel : decode prog_12_method_8_code 13 = .ok (.iload_n 2, 1)) rfl (lv_at hl 0 rfl) ?_
    refine vb_tq hx hb hSF.2.2.1 hS hin hfi (by decide +kernel : decode prog_12_method_8_code 14 = .ok (.aaload, 1)) ?_
    refine vk_getf hx hb (hSF.1.2.1 i hlt) hS hown (hts _ (tx_g tk_ws.2.2.1 rfl)) (fun _ h => h) (by decide +kernel : decode prog_12_method_8_code 15 = .ok (.getfield 185, 3)) ?_
    refine lv_lload_n hx hb (by decide +kernel : decode prog_12_method_8_code 18 = .ok (.lload_n 0, 1)) rfl (lv_at hl 1 rfl) ?_
    refine W.lcmp hx hb (by decide +kernel : decode prog_12_method_8_code 19 = .ok (.lcmp, 1)) ?_
    refine lv_if_ne hx hb (by decide +kernel : decode prog_12_method_8_code 20 = .ok (.ifCond .ne 15, 3)) (tgt := 35) (by decide) (fun h => next ls hl (by rw [ltF, if_neg (fun e => h ((lg_cmp_eq _ _).mpr e.symm))])) (fun h1 => ?_)
    have e1 := (lg_cmp_eq _ _).mp h1
    refine lv_lload_n hx hb (by decide +kernel : decode prog_12_method_8_code 23 = .ok (.lload_n 0, 1)) rfl (lv_at hl 1 rfl) ?_
    refine lv_lconst (v := 0) hx hb (by decide +kernel : decode prog_12_method_8_code 24 = .ok (.lconst 0, 1)) rfl ?_
    refine W.lcmp hx hb (by decide +kernel : decode prog_12_method_8_code 25 = .ok (.lcmp, 1)) ?_
    refine lv_if_eq hx hb (by decide +kernel : decode prog_12_method_8_code 26 = .ok (.ifCond .eq 9, 3)) (tgt := 35) (by decide) (fun h => next ls hl (by rw [ltF, if_pos e1.symm, if_pos ((lg_cmp_eq _ _).mp h)])) (fun h2 => ?_)
    rw [show ltF x (k + 1) i = i by rw [ltF, if_pos e1.symm, if_neg (fun e => h2 ((lg_cmp_eq _ _).mpr e))]]
    refine ofT_row hx hb hts hown hSF (by decide +kernel : decode prog_12_method_8_code 29 = .ok (.getstatic 189, 3)) ?_
    refine lv_iload_n hx hb (by decide +kernel : decode prog_12_method_8_code 32 = .ok (.iload_n 2, 1)) rfl (lv_at hl 0 rfl) ?_
    refine vb_tq hx hb hSF.2.2.1 hS hin hfi (by decide +kernel : decode prog_12_method_8_code 33 = .ok (.aaload, 1)) ?_
    exact W.aret hx hb hr (Or.inl ⟨_, rfl⟩) (Or.inr ⟨_, rfl⟩) (fun t ht _ => ⟨rfl, by rw [ht]; exact hP, hS.F ht⟩) hS.2.2 (by decide +kernel : decode prog_12_method_8_code 34 = .ok (.areturn, 1)) hlocks
end SG
theorem okI_ok {l : Launch} (hG : ∀ (M : Nat) (e : MI × List (Nat × Xi)), mX M = some e → GoodE e) : okI KO G cy D L (SFt G aA adT bT) l := by
  intro d y as S o e ho he
  have ho : inO y as S = some o := ho
  unfold inO at ho
  split at ho
  · rename_i hy
    subst hy
    split at ho
    · rename_i x
      cases ho
      obtain rfl := Option.some.inj (he.symm.trans mx_1800)
      refine metS_body he (hG _ _ he) (Nat.le_of_ble_eq_true rfl) fun p ev s m below meth c ls A C0 hP hl => ?_
      obtain ⟨hx, hb, hr, hml, hown, hlocks, hts, hnw, hK, hA, hSF⟩ := C0
      have hl : lv_has ls 2 [(0, .int x)] := hl
      refine lv_iconst (v := nI 0) hx hb (by decide +kernel : decode prog_12_method_7_code 0 = .ok (.iconst 0, 1)) (by decide) ?_
      refine lv_istore_n (lv' := [(1, .int (nI 0)), (0, .int x)]) hx hb (by decide +kernel : decode prog_12_method_7_code 1 = .ok (.istore_n 1, 1)) rfl hl (by decide) rfl (fun ls hl => ?_)
      have h := sg_loop (K := KO) (G := G) (cy := cy) (L := L) (D := D) (l := l) (d := d) (p := p) (ev := ev) (below := below) (S := S) (x := x) hx hb hr hml hown hlocks hts hSF hP 42 0 rfl ls hl
      rw [sgF_0] at h
      exact h
    · cases ho
  · split at ho
    · rename_i hy
      subst hy
      split at ho
      · rename_i x
        cases ho
        obtain rfl := Option.some.inj (he.symm.trans mx_1801)
        refine metS_body he (hG _ _ he) (Nat.le_of_ble_eq_true rfl) fun p ev s m below meth c ls A C0 hP hl => ?_
        obtain ⟨hx, hb, hr, hml, hown, hlocks, hts, hnw, hK, hA, hSF⟩ := C0
        have hl : lv_has ls 3 [(0, .long x)] := hl
        refine lv_iconst (v := nI 0) hx hb (by decide +kernel : decode prog_12_method_8_code 0 = .ok (.iconst 0, 1)) (by decide) ?_
        refine lv_istore_n (lv' := [(2, .int (nI 0)), (0, .long x)]) hx hb (by decide +kernel : decode prog_12_method_8_code 1 = .ok (.istore_n 2, 1)) rfl hl (by decide) rfl (fun ls hl => ?_)
        have h := ltr_loop (K := KO) (G := G) (cy := cy) (L := L) (D := D) (l := l) (d := d) (p := p) (ev := ev) (below := below) (S := S) (x := x) hx hb hr hml hown hlocks hts hSF hP 42 0 rfl ls hl
        rw [ltF_0] at h
        exact h
      · cases ho
    · cases ho
end TOK
