section TOK
variable {K : Cfg} {G : Nat → Nat} {cy : Nat → ClassId} {L : List Nat} {D : va_G} {aA : Nat} {adT bT : Nat → Nat}
section SG
variable {l : Launch} {d : Nat} {p : Program} {ev : Env} {s : State} {m : MethodId} {args : Array Value} {below : List Frame} {meth : Method} {c : Code} {A : Nat → Prop} {S : St}
theorem ltr_loop {x : Int64} (hx : p.tables.exec = Jvm.exec) (hb : c.code = prog_12_method_8_code) (hr : meth.sig.returnType = some (.object "NameOrchard$Token")) (hml : c.maxLocals = 3) (hown : s.vm.findClass "NameOrchard$Token" = some m.cls) (hlocks : meth.locks = false) (hts : ∀ w ∈ gw, w.before args s = true) (hSF : SFt G aA adT bT A s s.heap) (hP : va_P D kCl (wl K G cy L S) s.heap) :
    ∀ k i : Nat, i + k = 42 → ∀ ls : Array Slot, lv_has ls 3 [(2, .int (nI i)), (0, .long x)] → W p l ev (rmd d) s m args below meth c s.heap [] 0 0 (MQ below (QB K G cy D L S (some (.ref (1000 + ltF x k i))) A) args s 0 0 A) (F0 m 2 ls []) := by
  have hS : va_S A s.heap s.heap [] := va_S.rf
  intro k
  induction k with
  | zero =>
    intro i hi ls hl
    obtain rfl : i = 42 := by omega
    rw [show ltF x 0 42 = 3 from rfl]
    refine lv_iload_n hx hb (by decide +kernel : decode prog_12_method_8_code 2 = .ok (.iload_n 2, 1)) rfl (lv_at hl 0 rfl) ?_
    refine ofT_row hx hb hts hown hSF (by decide +kernel : decode prog_12_method_8_code 3 = .ok (.getstatic 189, 3)) ?_
    refine tx_len hx hb hSF.2.2.1 hS (by decide +kernel : decode prog_12_method_8_code 6 = .ok (.arraylength, 1)) ?_
    refine lv_icmp_ge hx hb (by decide +kernel : decode prog_12_method_8_code 7 = .ok (.if_icmp .ge 34, 3)) (tgt := 41) (by decide) (fun _ => ?_) (fun h => absurd (Int32.le_refl _) h)
    refine va_gets hx hb (hSF.1.1.1 3 (by decide)).1 hS hown (hts _ (tx_g tk_ws2 rfl)) (fun _ h => h) (by decide +kernel : decode prog_12_method_8_code 41 = .ok (.getstatic 15, 3)) ?_
    exact W.aret hx hb hr (Or.inl ⟨_, rfl⟩) (Or.inr ⟨_, rfl⟩) (fun t ht _ => ⟨rfl, by rw [ht]; exact hP, hS.F ht⟩) hS.2.2 (by decide +kernel : decode prog_12_method_8_code 44 = .ok (.areturn, 1)) hlocks
  | succ k ih =>
    intro i hi ls hl
    have hlt : i < 42 := by omega
    have hin : vp_in (nI i) 42 := nI_in hlt (by decide)
    have hfi : (fun j => Value.ref (G (1000 + j))) (nI i).toNatClampNeg = .ref (G (1000 + i)) := by rw [nI_clamp (by omega)]
    have next : ∀ ls : Array Slot, lv_has ls 3 [(2, .int (nI i)), (0, .long x)] → ltF x (k + 1) i = ltF x k (i + 1) → W p l ev (rmd d) s m args below meth c s.heap [] 0 0 (MQ below (QB K G cy D L S (some (.ref (1000 + ltF x (k + 1) i))) A) args s 0 0 A) (F0 m 35 ls []) := by
      intro ls hl he
      rw [he]
      refine lv_iinc (v := nI (i + 1)) (lv' := [(2, .int (nI (i + 1))), (0, .long x)]) hx hb (by decide +kernel : decode prog_12_method_8_code 35 = .ok (.iinc 2 1, 3)) hl (k := 0) rfl (nI_1 i) (by decide) rfl (fun ls hl => ?_)
      refine lv_goto hx hb (by decide +kernel : decode prog_12_method_8_code 38 = .ok (.goto (-36), 3)) (tgt := 2) (by decide) ?_
      exact ih (i + 1) (by omega) ls hl
    refine lv_iload_n hx hb (by decide +kernel : decode prog_12_method_8_code 2 = .ok (.iload_n 2, 1)) rfl (lv_at hl 0 rfl) ?_
    refine ofT_row hx hb hts hown hSF (by decide +kernel : decode prog_12_method_8_code 3 = .ok (.getstatic 189, 3)) ?_
    refine tx_len hx hb hSF.2.2.1 hS (by decide +kernel : decode prog_12_method_8_code 6 = .ok (.arraylength, 1)) ?_
    refine lv_icmp_ge hx hb (by decide +kernel : decode prog_12_method_8_code 7 = .ok (.if_icmp .ge 34, 3)) (tgt := 41) (by decide) (fun h => absurd h (nI_ge hlt (by decide))) (fun _ => ?_)
    refine ofT_row hx hb hts hown hSF (by decide +kernel : decode prog_12_method_8_code 10 = .ok (.getstatic 189, 3)) ?_
    refine lv_iload_n hx hb (by decide +kernel : decode prog_12_method_8_code 13 = .ok (.iload_n 2, 1)) rfl (lv_at hl 0 rfl) ?_
    refine vb_tq hx hb hSF.2.2.1 hS hin hfi (by decide +kernel : decode prog_12_method_8_code 14 = .ok (.aaload, 1)) ?_
    refine vk_getf hx hb (hSF.1.2.1 i hlt) hS hown (hts _ (tx_g tk_ws.2.2.1 rfl)) (fun _ h => h) (by decide +kernel : decode prog_12_method_8_code 15 = .ok (.getfield 185, 3)) ?_
    refine lv_lload_n hx hb (by decide +kernel : decode prog_12_method_8_code 18 = .ok (.lload_n 0, 1)) rfl (lv_at hl 1 rfl) ?_
    refine W.lcmp hx hb (by decide +kernel : decode prog_12_method_8_code 19 = .ok (.lcmp, 1)) ?_
    refine lv_if_ne hx hb (by decide +kernel : decode prog_12_method_8_code 20 = .ok (.ifCond .ne 15, 3)) (tgt := 35) (by decide) (fun h => next ls hl (by rw [ltF, if_neg (fun e => h ((lg_cmp_eq _ _).mpr e.symm))])) (fun h1 => ?_)
    have e1 := (lg_cmp_eq _ _).mp h1
    refine lv_lload_n hx hb (by decide +kernel : decode prog_12_method_8_code 23 = .ok (.lload_n 0, 1)) rfl (lv_at hl 1 rfl) ?_
    refine lv_lconst (v := 0) hx hb (by decide +kernel : decode prog_12_method_8_code 24 = .ok (.lconst 0, 1)) rfl ?_
    refine W.lcmp hx hb (by decide +kernel : decode prog_12_method_8_code 25 = .ok (.lcmp, 1)) ?_
    refine lv_if_eq hx hb (by decide +kernel : decode prog_12_method_8_code 26 = .ok (.ifCond .eq 9, 3)) (tgt := 35) (by decide) (fun h => next ls hl (by rw [ltF, if_pos e1.symm, if_pos ((lg_cmp_eq _ _).mp h)])) (fun h2 => ?_)
    rw [show ltF x (k + 1) i = i by rw [ltF, if_pos e1.symm, if_neg (fun e => h2 ((lg_cmp_eq _ _).mpr e))]]
    refine ofT_row hx hb hts hown hSF (by decide +kernel : decode prog_12_method_8_code 29 = .ok (.getstatic 189, 3)) ?_
    refine lv_iload_n hx hb (by decide +kernel : decode prog_12_method_8_code 32 = .ok (.iload_n 2, 1)) rfl (lv_at hl 0 rfl) ?_
    refine vb_tq hx hb hSF.2.2.1 hS hin hfi (by decide +kernel : decode prog_12_method_8_code 33 = .ok (.aaload, 1)) ?_
    exact W.aret hx hb hr (Or.inl ⟨_, rfl⟩) (Or.inr ⟨_, rfl⟩) (fun t ht _ => ⟨rfl, by rw [ht]; exact hP, hS.F ht⟩) hS.2.2 (by decide +kernel : decode prog_12_method_8_code 34 = .ok (.areturn, 1)) hlocks
end SG
end TOK
