/-! The two calls of the JDK's that part 06 takes as one step: Enum.ordinal of a constant, System.arraycopy of a whole row of ints. -/
theorem loc_ge {d r : Nat} (h : 64 * (d + 4) ≤ r) : 256 ≤ r := Nat.le_trans (show 64 * 4 ≤ 64 * (d + 4) from Nat.mul_le_mul_left 64 (Nat.le_add_left 4 d)) h
def yOrd : MethodName := ⟨"java/lang/Enum", "ordinal", "()I"⟩
def yOrd0 : MethodName := ⟨"NameOrchard$Token", "ordinal", "()I"⟩
theorem ord_d0 : decode prog_19_method_2_code 0 = .ok (.aload_n 0, 1) := by decide +kernel
theorem ord_d1 : decode prog_19_method_2_code 1 = .ok (.getfield 7, 3) := by decide +kernel
theorem ord_d4 : decode prog_19_method_2_code 4 = .ok (.ireturn, 1) := by decide +kernel
set_option maxRecDepth 100000 in
theorem ord_cw : Cond.code yOrd prog_19_method_2_code 1 (some .int) ∈ lw_tbl := List.mem_of_getElem? (i := 639) rfl
set_option maxRecDepth 100000 in
theorem ord_fl : Cond.fieldLink "java/lang/Enum" 7 "java/lang/Enum" "ordinal" "I" ∈ lw_tbl := List.mem_of_getElem? (i := 2263) (by decide +kernel)
set_option maxRecDepth 100000 in
theorem ord_ws : Cond.methodLink "NameOrchard$Formula" 108 yOrd0 ∈ lw_tbl ∧ Cond.methodLink "NameOrchard$Reader" 49 yOrd0 ∈ lw_tbl ∧ Cond.sameMethod "NameOrchard$Token" "java/lang/Enum" "ordinal" "()I" ∈ lw_tbl ∧ Cond.selects "NameOrchard$Token" yOrd0 yOrd ∈ lw_tbl ∧ Cond.instanceMethod yOrd ∈ lw_tbl ∧ Cond.initialized "java/lang/Enum" ∈ lw_tbl :=
  ⟨List.mem_of_getElem? (i := 634) (by decide +kernel), List.mem_of_getElem? (i := 833) (by decide +kernel), List.mem_of_getElem? (i := 635) (by decide +kernel), List.mem_of_getElem? (i := 637) (by decide +kernel), List.mem_of_getElem? (i := 638) (by decide +kernel), List.mem_of_getElem? (i := 198) (by decide +kernel)⟩
theorem ord_plain : plainFor yOrd = true := by decide +kernel
def Pord (q : Nat) (v : Int32) : Array Value → State → Prop := va_Pc [.ref q] (fun U => va_OF "java/lang/Enum" "ordinal" "I" (.int v) q (fun _ => False) U U.heap)
theorem ord_met (l : Launch) (q : Nat) (v : Int32) : Met l yOrd (Cond.code yOrd prog_19_method_2_code 1 (some .int) :: gw) { frames := 0, cells := 0, slots := 0, locals := 0 } (Pord q v) (k2_QcV (.int v)) 0 0 (fun _ => False) := by
  refine va_MetF (cc := prog_19_method_2_code) (maxL := 1) (ret := some .int) ord_plain rfl ?_
  intro p ev s m args below meth c s₁ B hml hv
  obtain ⟨rfl, hOF⟩ := hv
  have hts0 := atoms_spec (ws := Cond.code yOrd prog_19_method_2_code 1 (some .int) :: gw) B.pre
  have hown : s.vm.findClass "java/lang/Enum" = some m.cls := findClass_of_methodNamed B.named
  have hl := lv_entry ([.ref q]) (n := 1) (Nat.le_of_ble_eq_true rfl)
  rw [lg_entry_eq]
  generalize (lg_sl ([.ref q]) ++ List.replicate (1 - (lg_sl ([.ref q])).length) Slot.unset).toArray = ls at hl ⊢
  have hl : lv_has ls 1 [(0, .ref q)] := hl
  obtain ⟨cf, k, fi, f, cell, h1, h2, h3, h4, h5, h6⟩ := hOF
  refine lv_aload_n B.exec B.bytes ord_d0 rfl (lv_at hl 0 rfl) ?_
  refine W.getf B.exec B.bytes hown (hts0 _ (List.mem_cons_of_mem _ (gw_in ord_fl rfl))) h1 h2 h3 h4 h5 rfl rfl ord_d1 ?_
  exact W.iret B.exec B.bytes B.returns (fun t ht _ => ⟨rfl, ht⟩) (fun q h => by cases h) ord_d4 B.notSynchronized
theorem ord_val : ∀ t, t < 42 → (([0, 1, 2, 3, 4, 5, 6, 7, 8, 9, 10, 11, 12, 13, 14, 15, 16, 17, 18, 19, 20, 21, 22, 23, 24, 25, 26, 27, 28, 29, 30, 31, 32, 33, 34, 35, 36, 37, 38, 39, 40, 41] : List Int32).getD t 0) = Int32.ofNat t := by decide +kernel
section JDK
variable {K : Cfg} {G : Nat → Nat} {cy : Nat → ClassId} {L : List Nat} {D : va_G} {SF : (Nat → Prop) → State → Heap → Prop}
theorem okO_ok {l : Launch} (hT : okT SF G) (hk : okK K L G) : okO K G cy D L SF l := by
  intro d e p ev R cells slots s m args below meth c H locs ls A S b pc i r Q y C0 hfit hP hS hsz hgd hdec kk
  obtain ⟨hx, hb, hr, hml, hown, hlocks, hts, hnw, hK, hA, hSF⟩ := C0
  obtain ⟨hy, ho, h20, hcr, hd⟩ := hgd
  obtain ⟨d', rfl⟩ : ∃ d', d = d' + 1 := ⟨d - 1, by omega⟩
  obtain ⟨hb9, ht⟩ := hk.2.2.1 b h20
  have hn : (K.1 b).2 < tokNL.length := ht
  have hE := (hT _ _ _ hSF).1.1 _ hn
  have e1 : G b = G (1000 + (K.1 b).2) := congrArg G hb9
  obtain ⟨cell, g1, g2, g3, -⟩ := hE.2.1.kept hS.2.1
  have hOF := (hE.2.2 ("java/lang/Enum", "ordinal", "I", _) (List.mem_cons_of_mem _ (List.mem_cons_of_mem _ (List.mem_cons_of_mem _ List.mem_cons_self)))).kept hS.2.1
  rw [ord_val _ ht] at hOF
  have hOF' : va_OF "java/lang/Enum" "ordinal" "I" (.int (Int32.ofNat (K.1 b).2)) (G b) (fun _ => False) s H := by
    rw [e1]
    exact hOF.narrow (fun _ h => h.elim)
  have hW8 : ((r.map (gv G)).map fun v => v.category).sum ≤ 8 := by have := csum_map G r; unfold csum at this hcr; omega
  obtain ⟨w1, w2, w3, w4, w5, w6⟩ := ord_ws
  have hgd : GoodIn gw (Cond.code yOrd prog_19_method_2_code 1 (some .int) :: gw) := by
    intro w hw
    rcases List.mem_cons.mp hw with rfl | h
    · exact ⟨gw_in ord_cw rfl, good_of_word rfl⟩
    · exact gw_good w h
  have hlink : (Cond.methodLink (kN e.1.2.2.2.2) i yOrd0).before args s = true := by
    rcases ho with ⟨h1, h2⟩ | ⟨h1, h2⟩ <;> rw [h1, h2]
    · exact hts _ (gw_in w1 rfl)
    · exact hts _ (gw_in w2 rfl)
  have hrun := va_runU (C := "NameOrchard$Token") (owner := "java/lang/Enum") (x := yOrd0) (As := []) (rest := r.map (gv G)) (nL := e.1.2.2.1) (R := R) (g := F0 m pc ls (.ref (G b) :: r.map (gv G))) ⟨hx, hb, hml, hown, hts⟩ (ord_met l (G b) (Int32.ofNat (K.1 b).2)) (n := 0) (H := H) (locs := locs) (cells := cells) (slots := slots) (below := below) (e := ev) (meth := meth) (index := i)
    ⟨⟨rfl, rfl, by show 0 + 1 ≤ R.frames; have := hfit.1; omega, by show 8 + (1 + 11) + 0 ≤ R.locals; have := loc_ge hfit.2.1; omega, pay_in hts hgd, List.mem_cons_self⟩, hts _ (gw_in ord_cw rfl), hts _ (gw_in w6 rfl), ⟨by decide, by decide⟩, nargs_of (y := yOrd0) (by decide +kernel), hlink, hts _ (gw_in w3 rfl), va_Decl.of (hts _ (gw_in w5 rfl)) (hts _ (gw_in ord_cw rfl)), hts _ (gw_in w4 rfl), hts _ (gw_in w5 rfl)⟩
    ⟨fun a U g mk h => ⟨h.1, va_OF.moved (u := U) (U := U.calling g mk a) (Vm.Alike.refl U.vm) h.2⟩, ⟨cell, by rw [e1]; exact g1, g2, g3⟩, fun U hU hW => ⟨rfl, by dsimp only; rw [hU]; exact va_OF.moved hW.alike hOF'⟩⟩ rfl rfl hsz rfl (lv_room hW8) hdec ⟨hfit.2.2.1, hfit.2.2.2⟩
  exact W.callV hrun.run kk
theorem cpy_ws : Cond.methodLink "NameOrchard$Table" 37 arraycopyName ∈ lw_tbl ∧ Cond.static arraycopyName ∈ lw_tbl ∧ Cond.native arraycopyName ∈ lw_tbl ∧ Cond.initialized "java/lang/System" ∈ lw_tbl :=
  ⟨List.mem_of_getElem? (i := 1059) (by decide +kernel), List.mem_of_getElem? (i := 1060) (by decide +kernel), List.mem_of_getElem? (i := 1061) (by decide +kernel), List.mem_of_getElem? (i := 215) (by decide +kernel)⟩
theorem okY_ok {l : Launch} (hk : okK K L G) : okY K G cy D L SF l := by
  intro d e p ev R cells slots s m args below meth c H locs ls A S cn dp b sp a pc i r Q y C0 hfit hP hD hS hsz hgd hdec kk
  obtain ⟨hx, hb, hr, hml, hown, hlocks, hts, hnw, hK, hA, hSF⟩ := C0
  obtain ⟨hy, ho, hi, ha1, hb1, hab, rfl, rfl, hcn, hn, hlt, hcr, hd⟩ := hgd
  subst hi
  obtain ⟨d', rfl⟩ : ∃ d', d = d' + 1 := ⟨d - 1, by omega⟩
  have ha : K.1 a = (1, (K.1 a).2) := by rw [← ha1]
  have hb' : K.1 b = (1, (K.1 b).2) := by rw [← hb1]
  obtain ⟨qa, hqa, hwa⟩ := wl_get (K := K) (G := G) (cy := cy) S (hk.1 a (by omega))
  obtain ⟨qb, hqb, hwb⟩ := wl_get (K := K) (G := G) (cy := cy) S (hk.1 b (by omega))
  rw [cE_arr ha (by decide) (by decide)] at hwa
  rw [cE_arr hb' (by decide) (by decide)] at hwb
  have hW8 : ((r.map (gv G)).map fun v => v.category).sum ≤ 8 := by have := csum_map G r; unfold csum at this hcr; omega
  obtain ⟨w1, w2, w3, w4⟩ := cpy_ws
  have hown' : s.vm.findClass "NameOrchard$Table" = some m.cls := by rw [ho] at hown; exact hown
  have hcl : cn.toNatClampNeg = (K.1 b).2 := by rw [hcn]; exact nI_clamp (show (K.1 b).2 < 2 ^ 31 by omega)
  have hc0 : ¬ cn < 0 := by rw [hcn]; exact nI_pos (show (K.1 b).2 < 2 ^ 31 by omega)
  have hz : (0 : Int32).toNatClampNeg = 0 := by decide
  refine va_copyi (R := R) hx hb (hml.trans hsz.symm) hown' (hts _ (gw_in w1 rfl)) (hts _ (gw_in w3 rfl)) (hts _ (gw_in w2 rfl)) (hts _ (gw_in w4 rfl)) hK hP hD hS qa qb 0 0 hwa hwb rfl rfl rfl (by decide) (by decide) hc0 (by rw [hz, hcl, hn]; omega) (by rw [hz, hcl]; omega) (fun _ _ => rfl) (by have := hfit.1; omega) ?_ hdec (fun H1 locs1 g1 g2 g3 => ?_)
  · have : nativeFrameWords "java/lang/System" "arraycopy" 5 ≤ 40 := by decide +kernel
    have := loc_ge hfit.2.1
    omega
  · have hset := wl_set (S' := cpA S a b (K.1 b).2) (e' := .inl (cy 1, (K.1 b).2, .inl (va_cpy (rI S a) (rI S b) (0 : Int32).toNatClampNeg (0 : Int32).toNatClampNeg cn.toNatClampNeg))) hD hqb (by
        rw [cE_arr hb' (by decide) (by decide), hz, hcl]
        congr 5
        funext k
        simp [rI, cpA, va_cpy]) (fun q hq => by
        have h1 : rI (cpA S a b (K.1 b).2) q = rI S q := by funext k; simp [rI, cpA, hq]
        have h2 : ∀ c, fL' K G (cpA S a b (K.1 b).2) q c = fL' K G S q c := fun c => by unfold fL' fget; rw [h1]; rfl
        unfold cE
        rw [h1, h2]
        rfl)
    rw [hset] at g1
    exact kk H1 locs1 g1 g3
end JDK
