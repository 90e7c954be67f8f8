section TOK
variable {K : Cfg} {G : Nat → Nat} {cy : Nat → ClassId} {L : List Nat} {D : va_G} {aA : Nat} {adT bT : Nat → Nat}
theorem metS_body {SF : (Nat → Prop) → State → Heap → Prop} {l : Launch} {d M : Nat} {as : List Value} {S S' : St} {r : Option Value} {e : MI × List (Nat × Xi)} (he : mX M = some e) (hg : GoodE e) (hc : csum as ≤ e.1.2.2.1)
    (body : ∀ (p : Program) (ev : Env) (s : State) (m : MethodId) (below : List Frame) (meth : Method) (c : Code) (ls : Array Slot) (A : Nat → Prop), FrC K G cy D L SF e p s m ((as.map (gv G)).toArray) meth c A → va_P D kCl (wl K G cy L S) s.heap → lv_has ls e.1.2.2.1 (gl G (lv_args 0 as)) → W p l ev (rmd d) s m ((as.map (gv G)).toArray) below meth c s.heap [] 0 0 (MQ below (QB K G cy D L S' r A) ((as.map (gv G)).toArray) s 0 0 A) (F0 m 0 ls [])) : MetS K G cy D L SF l d e as S r S' := by
  intro sz
  obtain ⟨hcw, -, hcls, ho, -⟩ := hg
  refine va_MetF (cc := e.1.2.1) (maxL := e.1.2.2.1) (ret := e.1.2.2.2.1) (mX_plain he) rfl ?_
  intro p ev s m args below meth c s₁ B hml hv
  obtain ⟨rfl, hsz, hP, hK, hD0, hnw, hSF⟩ := hv
  have hts0 := atoms_spec (ws := Cond.code e.1.1 e.1.2.1 e.1.2.2.1 e.1.2.2.2.1 :: gw) B.pre
  have hts : ∀ w ∈ gw, w.before ((as.map (gv G)).toArray) s = true := fun w h => hts0 w (List.mem_cons_of_mem _ h)
  have hown : s.vm.findClass (kN e.1.2.2.2.2) = some m.cls := by rw [← hcls]; exact findClass_of_methodNamed B.named
  subst hsz
  have hlen : (lg_sl (as.map (gv G))).length ≤ e.1.2.2.1 := by rw [csum_sl, csum_map]; exact hc
  have hl := lv_entry (as.map (gv G)) (n := e.1.2.2.1) hlen
  rw [lg_entry_eq]
  generalize (lg_sl (as.map (gv G)) ++ List.replicate (e.1.2.2.1 - (lg_sl (as.map (gv G))).length) Slot.unset).toArray = ls at hl ⊢
  rw [← gl_args] at hl
  exact body p ev s m below meth c ls _ ⟨B.exec, B.bytes, B.returns, hml, hown, B.notSynchronized, hts, hnw, hK, fun q => wl_A, hSF⟩ hP hl
section SG
variable {l : Launch} {d : Nat} {p : Program} {ev : Env} {s : State} {m : MethodId} {args : Array Value} {below : List Frame} {meth : Method} {c : Code} {A : Nat → Prop} {S : St}
theorem ofT_row (hx : p.tables.exec = Jvm.exec) {cc : ByteArray} (hb : c.code = cc) (hts : ∀ w ∈ gw, w.before args s = true) (hown : s.vm.findClass "NameOrchard$Token" = some m.cls) (hSF : SFt G aA adT bT A s s.heap) {pc : Nat} {ls : Array Slot} {rest : List Value} {Q : State → Prop} (hdec : decode cc pc = .ok (.getstatic 189, 3)) (kk : W p l ev (rmd d) s m args below meth c s.heap [] 0 0 Q (F0 m (pc + 3) ls (.ref aA :: rest))) : W p l ev (rmd d) s m args below meth c s.heap [] 0 0 Q (F0 m pc ls rest) :=
  va_gets (A := A) hx hb hSF.2.1 va_S.rf hown (hts _ (tx_g tk_ws.1 rfl)) (fun _ h => h) hdec kk
theorem sg_loop {x : Int32} (hx : p.tables.exec = Jvm.exec) (hb : c.code = prog_12_method_7_code) (hr : meth.sig.returnType = some (.object "NameOrchard$Token")) (hml : c.maxLocals = 2) (hown : s.vm.findClass "NameOrchard$Token" = some m.cls) (hlocks : meth.locks = false) (hts : ∀ w ∈ gw, w.before args s = true) (hSF : SFt G aA adT bT A s s.heap) (hP : va_P D kCl (wl K G cy L S) s.heap) :
    ∀ k i : Nat, i + k = 42 → ∀ ls : Array Slot, lv_has ls 2 [(1, .int (nI i)), (0, .int x)] → W p l ev (rmd d) s m args below meth c s.heap [] 0 0 (MQ below (QB K G cy D L S (some (.ref (1000 + sgF x k i))) A) args s 0 0 A) (F0 m 2 ls []) := by
  have hS : va_S A s.heap s.heap [] := va_S.rf
  intro k
  induction k with
  | zero =>
    intro i hi ls hl
    obtain rfl : i = 42 := by omega
    rw [show sgF x 0 42 = 1 from rfl]
    refine lv_iload_n hx hb (by decide +kernel : decode prog_12_method_7_code 2 = .ok (.iload_n 1, 1)) rfl (lv_at hl 0 rfl) ?_
    refine ofT_row hx hb hts hown hSF (by decide +kernel : decode prog_12_method_7_code 3 = .ok (.getstatic 189, 3)) ?_
    refine tx_len hx hb hSF.2.2.1 hS (by decide +kernel : decode prog_12_method_7_code 6 = .ok (.arraylength, 1)) ?_
    refine lv_icmp_ge hx hb (by decide +kernel : decode prog_12_method_7_code 7 = .ok (.if_icmp .ge 46, 3)) (tgt := 53) (by decide) (fun _ => ?_) (fun h => absurd (Int32.le_refl _) h)
    refine va_gets hx hb (hSF.1.1.1 1 (by decide)).1 hS hown (hts _ (tx_g tk_ws.2.1 rfl)) (fun _ h => h) (by decide +kernel : decode prog_12_method_7_code 53 = .ok (.getstatic 9, 3)) ?_
    exact W.aret hx hb hr (Or.inl ⟨_, rfl⟩) (Or.inr ⟨_, rfl⟩) (fun t ht _ => ⟨rfl, by rw [ht]; exact hP, hS.F ht⟩) hS.2.2 (by decide +kernel : decode prog_12_method_7_code 56 = .ok (.areturn, 1)) hlocks
  | succ k ih =>
    intro i hi ls hl
    have hlt : i < 42 := by omega
    have hin : vp_in (nI i) 42 := nI_in hlt (by decide)
    have hfi : (fun j => Value.ref (G (1000 + j))) (nI i).toNatClampNeg = .ref (G (1000 + i)) := by rw [nI_clamp (by omega)]
    have hSX := hSF.2.2.2.2 i hlt
    have hSX0 : SX (adT i) (bT i) (txN i) (txB i) (fun _ => False) s s.heap := hSX.narrow (fun _ h => h.elim)
    have next : ∀ ls : Array Slot, lv_has ls 2 [(1, .int (nI i)), (0, .int x)] → sgF x (k + 1) i = sgF x k (i + 1) → W p l ev (rmd d) s m args below meth c s.heap [] 0 0 (MQ below (QB K G cy D L S (some (.ref (1000 + sgF x (k + 1) i))) A) args s 0 0 A) (F0 m 47 ls []) := by
      intro ls hl he
      rw [he]
      refine lv_iinc (v := nI (i + 1)) (lv' := [(1, .int (nI (i + 1))), (0, .int x)]) hx hb (by decide +kernel : decode prog_12_method_7_code 47 = .ok (.iinc 1 1, 3)) hl (k := 0) rfl (nI_1 i) (by decide) rfl (fun ls hl => ?_)
      refine lv_goto hx hb (by decide +kernel : decode prog_12_method_7_code 50 = .ok (.goto (-48), 3)) (tgt := 2) (by decide) ?_
      exact ih (i + 1) (by omega) ls hl
    refine lv_iload_n hx hb (by decide +kernel : decode prog_12_method_7_code 2 = .ok (.iload_n 1, 1)) rfl (lv_at hl 0 rfl) ?_
    refine ofT_row hx hb hts hown hSF (by decide +kernel : decode prog_12_method_7_code 3 = .ok (.getstatic 189, 3)) ?_
    refine tx_len hx hb hSF.2.2.1 hS (by decide +kernel : decode prog_12_method_7_code 6 = .ok (.arraylength, 1)) ?_
    refine lv_icmp_ge hx hb (by decide +kernel : decode prog_12_method_7_code 7 = .ok (.if_icmp .ge 46, 3)) (tgt := 53) (by decide) (fun h => absurd h (nI_ge hlt (by decide))) (fun _ => ?_)
    refine ofT_row hx hb hts hown hSF (by decide +kernel : decode prog_12_method_7_code 10 = .ok (.getstatic 189, 3)) ?_
    refine lv_iload_n hx hb (by decide +kernel : decode prog_12_method_7_code 13 = .ok (.iload_n 1, 1)) rfl (lv_at hl 0 rfl) ?_
    refine vb_tq hx hb hSF.2.2.1 hS hin hfi (by decide +kernel : decode prog_12_method_7_code 14 = .ok (.aaload, 1)) ?_
    refine vk_getf hx hb (hSF.2.2.2.1 i hlt) hS hown (hts _ (tx_g tk_ws.2.2.2.1 rfl)) (fun _ h => h) (by decide +kernel : decode prog_12_method_7_code 15 = .ok (.getfield 154, 3)) ?_
    refine w_callX (va_runV (C := "java/lang/String") (As := []) (rest := []) (nL := 2) ⟨hx, hb, hml, hown, hts⟩ (c_len l (adT i) (bT i) (txN i) (txB i)) ⟨⟨rfl, rfl, by show 1 + 1 ≤ d + 4; omega, by show 8 + (1 + 11) + 64 * 1 ≤ 64 * (d + 4); omega, pay_in hts (tx_good tx_ws.1.1), List.mem_cons_self, hts _ (tx_g tx_ws.1.1 rfl), hts _ (tx_g tx_ws.2.2.2.1 rfl), ⟨by decide, by decide⟩, nargs_of (y := yLen) (by decide +kernel), hts _ (tx_g tk_ws.2.2.2.2.1 rfl)⟩, hts _ (tx_g tk_ws.2.2.2.2.2.1 rfl), hts _ (tx_g tk_ws.2.2.2.2.2.2.1 rfl)⟩ ⟨px_blind, tx_recv hSX0, fun U hU hW => ⟨rfl, by dsimp only; rw [hU]; exact SX.moved hW.alike hSX0⟩⟩ rfl rfl hl.1 rfl (lv_room (by decide)) (by decide +kernel : decode prog_12_method_7_code 18 = .ok (.invokevirtual 169, 3)) ⟨Nat.le_refl _, Nat.le_refl _⟩) ?_
    refine lv_iconst (v := nI 1) hx hb (by decide +kernel : decode prog_12_method_7_code 21 = .ok (.iconst 1, 1)) (by decide) ?_
    have hN : txN i < 2 ^ 31 := (show ∀ i, i < 42 → txN i < 2 ^ 31 by decide +kernel) i hlt
    refine lv_icmp_ne hx hb (by decide +kernel : decode prog_12_method_7_code 22 = .ok (.if_icmp .ne 25, 3)) (tgt := 47) (by decide) (fun h => next ls hl (sgF_n (fun e => h (by rw [e])))) (fun h1 => ?_)
    have hn1 : txN i = 1 := (nI_eq hN (by decide)).mp h1
    refine ofT_row hx hb hts hown hSF (by decide +kernel : decode prog_12_method_7_code 25 = .ok (.getstatic 189, 3)) ?_
    refine lv_iload_n hx hb (by decide +kernel : decode prog_12_method_7_code 28 = .ok (.iload_n 1, 1)) rfl (lv_at hl 0 rfl) ?_
    refine vb_tq hx hb hSF.2.2.1 hS hin hfi (by decide +kernel : decode prog_12_method_7_code 29 = .ok (.aaload, 1)) ?_
    refine vk_getf hx hb (hSF.2.2.2.1 i hlt) hS hown (hts _ (tx_g tk_ws.2.2.2.1 rfl)) (fun _ h => h) (by decide +kernel : decode prog_12_method_7_code 30 = .ok (.getfield 154, 3)) ?_
    refine lv_iconst (v := nI 0) hx hb (by decide +kernel : decode prog_12_method_7_code 33 = .ok (.iconst 0, 1)) (by decide) ?_
    refine w_callX (va_runV (C := "java/lang/String") (As := [.int (nI 0)]) (rest := []) (nL := 2) ⟨hx, hb, hml, hown, hts⟩ (c_chr l 0 (txN i) (by omega) hN (adT i) (bT i) (txB i) (chT i hlt)) ⟨⟨rfl, rfl, by show 3 + 1 ≤ d + 4; omega, by show 8 + (2 + 11) + 64 * 3 ≤ 64 * (d + 4); omega, pay_in hts (tx_good tx_ws.1.2.2.1), List.mem_cons_self, hts _ (tx_g tx_ws.1.2.2.1 rfl), hts _ (tx_g tx_ws.2.2.2.1 rfl), ⟨by decide, by decide⟩, nargs_of (y := yChr) (by decide +kernel), hts _ (tx_g tk_ws.2.2.2.2.2.2.2.1 rfl)⟩, hts _ (tx_g tk_ws.2.2.2.2.2.2.2.2.1 rfl), hts _ (tx_g tk_ws.2.2.2.2.2.2.2.2.2 rfl)⟩ ⟨px_blind, tx_recv hSX0, fun U hU hW => ⟨rfl, by dsimp only; rw [hU]; exact SX.moved hW.alike hSX0⟩⟩ rfl rfl hl.1 rfl (lv_room (by decide)) (by decide +kernel : decode prog_12_method_7_code 34 = .ok (.invokevirtual 175, 3)) ⟨Nat.le_refl _, Nat.le_refl _⟩) ?_
    refine lv_iload_n hx hb (by decide +kernel : decode prog_12_method_7_code 37 = .ok (.iload_n 0, 1)) rfl (lv_at hl 1 rfl) ?_
    refine lv_icmp_ne hx hb (by decide +kernel : decode prog_12_method_7_code 38 = .ok (.if_icmp .ne 9, 3)) (tgt := 47) (by decide) (fun h => next ls hl (by rw [sgF_y hn1 rfl, if_neg (fun e => h e.symm)])) (fun h2 => ?_)
    rw [show sgF x (k + 1) i = i by rw [sgF_y hn1 rfl, if_pos h2.symm]]
    refine ofT_row hx hb hts hown hSF (by decide +kernel : decode prog_12_method_7_code 41 = .ok (.getstatic 189, 3)) ?_
    refine lv_iload_n hx hb (by decide +kernel : decode prog_12_method_7_code 44 = .ok (.iload_n 1, 1)) rfl (lv_at hl 0 rfl) ?_
    refine vb_tq hx hb hSF.2.2.1 hS hin hfi (by decide +kernel : decode prog_12_method_7_code 45 = .ok (.aaload, 1)) ?_
    exact W.aret hx hb hr (Or.inl ⟨_, rfl⟩) (Or.inr ⟨_, rfl⟩) (fun t ht _ => ⟨rfl, by rw [ht]; exact hP, hS.F ht⟩) hS.2.2 (by decide +kernel : decode prog_12_method_7_code 46 = .ok (.areturn, 1)) hlocks
end SG
end TOK
