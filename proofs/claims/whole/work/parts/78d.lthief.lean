/-! The law's own thief: it calls the class's, keeps the answer in its row, or catches. -/
def yLT : MethodName := ⟨R_law, "thief", "(LNameOrchard;III[J)I"⟩
def wsLT : List Cond := Cond.codeWith yLT method_3_code 6 (some .int) [(0, 12, 15, 13)] :: gw
set_option maxRecDepth 100000 in
theorem lt_ws : lw_tbl[1439]? = some (Cond.methodLink R_law 7 (mN 2222)) ∧ lw_tbl[1440]? = some (Cond.instanceMethod (mN 2222)) ∧ lw_tbl[1441]? = some (Cond.selects (mN 2222).cls (mN 2222) (mN 2222)) ∧ lw_tbl[1438]? = some (Cond.classLink R_law 13 nseN) ∧ lw_tbl[1445]? = some (Cond.castable nseN nseN) ∧ lw_tbl[1437]? = some (Cond.codeWith yLT method_3_code 6 (some .int) [(0, 12, 15, 13)]) ∧ lw_tbl[1435]? = some (Cond.methodLink R_law 113 yLT) ∧ lw_tbl[1436]? = some (Cond.static yLT) ∧ lw_tbl[194]? = some (Cond.initialized R_law) ∧ lw_tbl[1442]? = some (Cond.code (mN 2222) prog_1_method_23_code 4 (some .int)) ∧ lw_tbl[195]? = some (Cond.initialized (kN 11)) := by decide +kernel
theorem lt_good : GoodIn gw wsLT := by
  intro w hw
  rcases List.mem_cons.mp hw with rfl | h
  · exact ⟨tx_g lt_ws.2.2.2.2.2.1 rfl, good_of_word rfl⟩
  · exact gw_good w h
/-- what it may change: the class's cells, the row, what is new -/
def RGt (G : Nat → Nat) (qo sz q : Nat) : Prop := (∃ a ∈ alO, G a = q) ∨ q = qo ∨ sz ≤ q
def PLt (G : Nat → Nat) (cy : Nat → ClassId) (D : va_G) (aA : Nat) (adT bT : Nat → Nat) (So : St) (v : Nat → Int64) (sa qo sz : Nat) (U : State) : Prop :=
  U.heap.size = sz ∧ va_P D kCl (wl KO G cy alO So) U.heap ∧ va_P D kCl [(qo, .inl (cy 4, 1, .inr (.inl v)))] U.heap ∧ va_K D kCl (tysL cy) U ∧ (∀ w ∈ nw, va_Nw w U) ∧ SFt G aA adT bT (RGt G qo sz) U U.heap ∧ TH sa (RGt G qo sz) U U.heap
def QLt (G : Nat → Nat) (cy : Nat → ClassId) (D : va_G) (qo : Nat) (k : Int32) (So : St) (v : Nat → Int64) (A : Nat → Prop) : Array Value → State → Outcome → State → Prop := fun _ st oc t => oc = .returned (some (.int k)) ∧ va_P D kCl (wl KO G cy alO So) t.heap ∧ va_P D kCl [(qo, .inl (cy 4, 1, .inr (.inl v)))] t.heap ∧ va_F A st t
section LT
variable {G : Nat → Nat} {cy : Nat → ClassId} {D : va_G} {aA : Nat} {adT bT : Nat → Nat} {base qo sa : Nat} {l : Launch} {So So' : St} {v : Nat → Int64} {w n : Nat} {p x y r : Int32}
theorem plt_blind {as : List Value} {sz : Nat} : FrameBlind (va_Pc as (PLt G cy D aA adT bT So v sa qo sz)) := by
  intro a U g mk h
  obtain ⟨h0, h1, h2, h3, h4, h5, h6, h7⟩ := h
  have hv : U.vm = (U.calling g mk a).vm := rfl
  exact ⟨h0, h1, h2, h3, va_K.moved (u := U) (U := U.calling g mk a) (Vm.Alike.refl U.vm) h4, fun w hw => nw_blind hw hv (h5 w hw), (SFt_F (G := G)).1 _ U (U.calling g mk a) _ (Vm.Alike.refl U.vm) h6, TH.moved (u := U) (U := U.calling g mk a) (State.WarmedH.refl U) h7⟩
theorem last1 {A : Nat → Prop} {p : Program} {l : Launch} {e : Env} {R : Room} {s : State} {m : MethodId} {args : Array Value} {below : List Frame} {meth : Method} {c : Code} {H : Heap} {locs : List Loc} {cells slots : Nat} {Q : State → Prop} {cc : ByteArray} {pc a : Nat} {ls : Array Slot} {rest : List Value} {f : Nat → Int64} {x : Int64} {H0 : Heap} (hexec : p.tables.exec = Jvm.exec) (hb : c.code = cc) (hK : va_K D kCl (tysL cy) s) (hP : va_P D kCl [(a, .inl (cy 4, 1, .inr (.inl f)))] H) (hA : A a) (hS : va_S A H0 H locs) (hdg : decode cc pc = .ok (.lastore, 1))
    (kk : ∀ (H1 : Heap) (locs1 : List Loc), va_P D kCl [(a, .inl (cy 4, 1, .inr (.inl (vp_updL f 0 x))))] H1 → H1.size = H.size → (∀ q, q ≠ a → H1[q]? = H[q]?) → va_S A H0 H1 locs1 → W p l e R s m args below meth c H1 locs1 cells slots Q (F0 m (pc + 1) ls rest)) : W p l e R s m args below meth c H locs cells slots Q (F0 m pc ls (.long x :: .int 0 :: .ref a :: rest)) := by
  have hD : va_D A [(a, (.inl (cy 4, 1, .inr (.inl f)) : va_E))] := ⟨fun i j p q hi hj e => by
    have h1 := (List.getElem?_eq_some_iff.mp hi).1
    have h2 := (List.getElem?_eq_some_iff.mp hj).1
    simp only [List.length_cons, List.length_nil] at h1 h2
    omega, fun k q hk => by
    have h1 := (List.getElem?_eq_some_iff.mp hk).1
    simp only [List.length_cons, List.length_nil] at h1
    obtain rfl : k = 0 := by omega
    cases hk
    exact hA⟩
  have ha : ([(a, (.inl (cy 4, 1, .inr (.inl f)) : va_E))] : va_W)[0]? = some (a, .inl (cy 4, 1, .inr (.inl f))) := rfl
  have hz : (0 : Int32).toNatClampNeg = 0 := by decide
  refine W.last hexec hb (hP 0 _ ha) ((hK.2 3 _ rfl).1 1 (fun j => .long (f j))) (fun q => by cases q) (by show ¬ ((0 : Int32) < 0 ∨ (arrV _ _ _).slots.size ≤ _); rw [arrV_size]; exact (show ¬ ((0 : Int32) < 0 ∨ 1 ≤ (0 : Int32).toNatClampNeg) by decide)) rfl rfl hdg fun H1 e z oq => ?_
  refine kk H1 _ (hP.set hD ha ?_ oq) z oq (hS.put z oq hA)
  show H1[a]? = some (vp_cell _ _)
  rw [e]
  rw [vp_cell_l, vp_cell_l, arrV_store, hz]
  congr 2
  funext q
  by_cases hq : q = 0
  · subst hq
    simp [updV, vp_updL]
  · simp [updV, vp_updL, hq]
theorem dc_lt : decode method_3_code 0 = .ok (.aload 4, 2) ∧ decode method_3_code 2 = .ok (.iconst 0, 1) ∧ decode method_3_code 3 = .ok (.aload_n 0, 1) ∧ decode method_3_code 4 = .ok (.iload_n 1, 1) ∧ decode method_3_code 5 = .ok (.iload_n 2, 1) ∧ decode method_3_code 6 = .ok (.iload_n 3, 1) ∧ decode method_3_code 7 = .ok (.invokevirtual 7, 3) ∧ decode method_3_code 10 = .ok (.i2l, 1) ∧ decode method_3_code 11 = .ok (.lastore, 1) ∧ decode method_3_code 12 = .ok (.goto 7, 3) ∧ decode method_3_code 15 = .ok (.astore 5, 2) ∧ decode method_3_code 17 = .ok (.iconst 1, 1) ∧ decode method_3_code 18 = .ok (.ireturn, 1) ∧ decode method_3_code 19 = .ok (.iconst 0, 1) ∧ decode method_3_code 20 = .ok (.ireturn, 1) := ⟨by decide +kernel, by decide +kernel, by decide +kernel, by decide +kernel, by decide +kernel, by decide +kernel, by decide +kernel, by decide +kernel, by decide +kernel, by decide +kernel, by decide +kernel, by decide +kernel, by decide +kernel, by decide +kernel, by decide +kernel⟩
/-- the room of the law's thief -/
def rmT : Room := { frames := 13, cells := 1, slots := 6, locals := 832 }
theorem rgt_in {sz : Nat} (hq : ∀ a ∈ alO, G a ≠ qo) : ∀ q, va_A (wl KO G cy alO So) sz q → RGt G qo sz q := fun q h => (wl_A.mp h).elim Or.inl (fun h => Or.inr (Or.inr h))
set_option maxHeartbeats 4000000 in
set_option maxRecDepth 100000 in
theorem c_lthief_ok (hA : okA KO alO G base) (hqo : ∀ a ∈ alO, G a ≠ qo) (h : RC KO 7 2222 [.ref 1, .int p, .int x, .int y] So (some (.int r)) So') (sz : Nat) : Met l yLT wsLT rmT (va_Pc [.ref (G 1), .int p, .int x, .int y, .ref qo] (PLt G cy D aA adT bT So v sa qo sz)) (QLt G cy D qo 0 So' (vp_updL v 0 r.toInt64) (RGt G qo sz)) 1 6 (RGt G qo sz) := by
  refine va_MetW (cc := method_3_code) (maxL := 6) (ret := some .int) (by decide +kernel) rfl ?_
  intro p9 ev s m args below meth c s₁ B hml hv9
  obtain ⟨rfl, hsz, hP, hPt, hK, hnw, hSF, hTH⟩ := hv9
  have hts0 := atoms_spec (ws := wsLT) B.pre
  have hts : ∀ w ∈ gw, w.before #[Value.ref (G 1), .int p, .int x, .int y, .ref qo] s = true := fun w h => hts0 w (List.mem_cons_of_mem _ h)
  have hown : s.vm.findClass R_law = some m.cls := findClass_of_methodNamed B.named
  have hl := lv_entry ([.ref (G 1), .int p, .int x, .int y, .ref qo]) (n := 6) (Nat.le_of_ble_eq_true rfl)
  rw [lg_entry_eq]
  generalize (lg_sl ([.ref (G 1), .int p, .int x, .int y, .ref qo]) ++ List.replicate (6 - (lg_sl ([.ref (G 1), .int p, .int x, .int y, .ref qo])).length) Slot.unset).toArray = ls at hl ⊢
  have hl : lv_has ls 6 [(0, .ref (G 1)), (1, .int p), (2, .int x), (3, .int y), (4, .ref qo)] := hl
  obtain ⟨d0, d2, d3, d4, d5, d6, d7, d10, d11, d12, d15, d17, d18, d19, d20⟩ := dc_lt
  have hx := B.exec
  have hb := B.bytes
  have hS : va_S (RGt G qo sz) s.heap s.heap [] := va_S.rf
  have hg := mX_good mx_2222
  have hM := metS_rc (runO (l := l) (cy := cy) (D := D) (aA := aA) (adT := adT) (bT := bT) hA) (okI_ok (fun _ _ h => mX_good h)) mx_2222 hg (Nat.le_of_ble_eq_true rfl) h
  refine lv_aload hx hb d0 (lv_at hl 4 rfl) ?_
  refine lv_iconst (v := 0) hx hb d2 (by decide) ?_
  refine lv_aload_n hx hb d3 rfl (lv_at hl 0 rfl) ?_
  refine lv_iload_n hx hb d4 rfl (lv_at hl 1 rfl) ?_
  refine lv_iload_n hx hb d5 rfl (lv_at hl 2 rfl) ?_
  refine lv_iload_n hx hb d6 rfl (lv_at hl 3 rfl) ?_
  refine law_call (own := R_law) (al := alO) (M := 2222) (vs := [.int p, .int x, .int y]) (rest := [.int 0, .ref qo]) (B := RGt G qo sz) SFt_F hM mx_2222 hg ⟨hx, hb, hml, hown, B.notSynchronized, hts, hnw, hK⟩ hSF (fun q hq => hq.elim Or.inl (fun h => Or.inr (Or.inr (by omega)))) hA ⟨tx_g lt_ws.1 rfl, tx_g lt_ws.2.1 rfl, tx_g lt_ws.2.2.1 rfl⟩ (show (parseMethodDescriptor (mN 2222).desc).map (fun d => d.parameters.length) = some 3 by decide +kernel) rfl (by decide +kernel) (show [Value.int p, .int x, .int y].map (gv G) = [Value.int p, .int x, .int y] from rfl) ⟨Nat.le_of_ble_eq_true rfl, Nat.le_of_ble_eq_true rfl, Nat.zero_le _, Nat.zero_le _⟩ hP hS hl.1 (Nat.le_of_ble_eq_true rfl) d7 (fun H1 locs1 k1 k2 k3 k4 => ?_)
  have hPt1 : va_P D kCl [(qo, .inl (cy 4, 1, .inr (.inl v)))] H1 := hPt.kept fun k q hk => by
    have hz : k < 1 := (List.getElem?_eq_some_iff.mp hk).1
    have hlt := (hPt k q hk).lt
    obtain rfl : k = 0 := by omega
    cases hk
    exact k4 _ hlt (fun a ha => hqo a ha)
  show W _ _ _ _ _ _ _ _ _ _ _ _ _ _ _ (F0 m 10 ls (.int r :: .int 0 :: [.ref qo]))
  refine lv_i2l (v := r.toInt64) hx hb d10 rfl ?_
  refine last1 hx hb hK hPt1 (Or.inr (Or.inl rfl)) k2 d11 (fun H2 locs2 j1 j2 j3 j4 => ?_)
  refine lv_goto hx hb d12 (tgt := 19) (by decide) ?_
  refine lv_iconst (v := 0) hx hb d19 (by decide) ?_
  refine W.widen (k := 1) (n := 6) (Nat.zero_le _) (Nat.zero_le _) ?_
  refine W.iret hx hb B.returns (fun t ht _ => ⟨rfl, ?_, ?_, j4.F ht⟩) j4.2.2 d20 B.notSynchronized
  · rw [ht]
    exact wl_keep k1 (fun a ha _ => j3 _ (hqo a ha))
  · rw [ht]
    exact j1
set_option maxHeartbeats 4000000 in
set_option maxRecDepth 100000 in
theorem c_lthief_bad (hfl : l.stackTraces = false) (hA : okA KO alO G base) (hqo : ∀ a ∈ alO, G a ≠ qo) (hw : rQ So 1 9 = some w) (hk10 : KO.1 w = (0, 10)) (hk7 : KO.1 (w + 86) = (0, 7)) (hs : o_tb_size (w + 86) So = some (nI n, So)) (hbad : p < 0 ∨ ¬ p < nI n ∨ vcB x y = false) (sz : Nat) : Met l yLT wsLT rmT (va_Pc [.ref (G 1), .int p, .int x, .int y, .ref qo] (PLt G cy D aA adT bT So v sa qo sz)) (QLt G cy D qo 1 So v (RGt G qo sz)) 1 6 (RGt G qo sz) := by
  refine va_MetW (cc := method_3_code) (maxL := 6) (ret := some .int) (by decide +kernel) rfl ?_
  intro p9 ev s m args below meth c s₁ B hml hv9
  obtain ⟨rfl, hsz, hP, hPt, hK, hnw, hSF, hTH⟩ := hv9
  have hts0 := atoms_spec (ws := wsLT) B.pre
  have hts : ∀ w ∈ gw, w.before #[Value.ref (G 1), .int p, .int x, .int y, .ref qo] s = true := fun w h => hts0 w (List.mem_cons_of_mem _ h)
  have hown : s.vm.findClass R_law = some m.cls := findClass_of_methodNamed B.named
  have htab : c.exceptionTable.toList = [] ++ (⟨0, 12, 15, 13⟩ : ExceptionTableEntry) :: [] := vx_table (x := yLT) B (hts0 _ List.mem_cons_self)
  have hl := lv_entry ([.ref (G 1), .int p, .int x, .int y, .ref qo]) (n := 6) (Nat.le_of_ble_eq_true rfl)
  rw [lg_entry_eq]
  generalize (lg_sl ([.ref (G 1), .int p, .int x, .int y, .ref qo]) ++ List.replicate (6 - (lg_sl ([.ref (G 1), .int p, .int x, .int y, .ref qo])).length) Slot.unset).toArray = ls at hl ⊢
  have hl : lv_has ls 6 [(0, .ref (G 1)), (1, .int p), (2, .int x), (3, .int y), (4, .ref qo)] := hl
  obtain ⟨d0, d2, d3, d4, d5, d6, d7, d10, d11, d12, d15, d17, d18, d19, d20⟩ := dc_lt
  have hx := B.exec
  have hb := B.bytes
  have hS : va_S (RGt G qo sz) s.heap s.heap [] := va_S.rf
  have hg := mX_good mx_2222
  have hk := okK_O hA
  have hinA : ∀ q, va_A (wl KO G cy alO So) s.heap.size q → RGt G qo sz q := fun q h => (wl_A.mp h).elim Or.inl (fun h => Or.inr (Or.inr (by omega)))
  refine lv_aload hx hb d0 (lv_at hl 4 rfl) ?_
  refine lv_iconst (v := 0) hx hb d2 (by decide) ?_
  refine lv_aload_n hx hb d3 rfl (lv_at hl 0 rfl) ?_
  refine lv_iload_n hx hb d4 rfl (lv_at hl 1 rfl) ?_
  refine lv_iload_n hx hb d5 rfl (lv_at hl 2 rfl) ?_
  refine lv_iload_n hx hb d6 rfl (lv_at hl 3 rfl) ?_
  have hrecv : ∃ cell : Cell, s.heap[G 1]? = some cell ∧ cell.vm.isStatics = false ∧ s.vm.findClass (mN 2222).cls = some cell.cls := by
    obtain ⟨q, hq, hwq⟩ := wl_get (K := KO) (G := G) (cy := cy) So (show 1 ∈ alO by decide +kernel)
    have hce : cE KO G cy So 1 = .inr (11, fL' KO G So 1 11) := by unfold cE; rfl
    rw [hce] at hwq
    exact va_recv hK hP (kCl_at 11 (by decide)) hwq
  have hpc : ∀ U : State, U.heap = s.heap → s.WarmedH U.vm → va_Pc [Value.ref (G 1), .int p, .int x, .int y] (PTh G cy D aA adT bT So sa s.heap.size) (#[Value.ref (G 1), .int p, .int x, .int y]) U := by
    intro U hU hW
    refine ⟨rfl, by rw [hU], ⟨by rw [hU]; exact hP, va_K.moved hW.alike hK, (wl_apart (cy := cy) hA So).weaken (fun _ _ _ _ => trivial), fun w hw => nw_warm hw hW (hnw w hw), ?_⟩, ?_⟩
    · rw [hU]
      exact (SFt_F (G := G)).2.2 _ _ _ _ hinA ((SFt_F (G := G)).1 _ s U _ hW.alike hSF)
    · rw [hU]
      exact (hTH.moved hW).narrow hinA
  have hrun := vx_runV (p := p9) (e := ev) (R := rmT) (H := s.heap) (locs := []) (cells := 0) (slots := 0) (below := below) (meth := meth) (C := (mN 2222).cls) (g := F0 m 7 ls (.int y :: .int x :: .int p :: .ref (G 1) :: [.int 0, .ref qo])) (As := [.int p, .int x, .int y]) (rest := [.int 0, .ref qo]) (nL := 6) (index := 7) (own := R_law) ⟨hx, hb, hml, hown, hts⟩ (c_thief (aA := aA) (adT := adT) (bT := bT) (cy := cy) (D := D) (sa := sa) hfl hA hw hk10 hk7 hs hbad s.heap.size) ⟨⟨rfl, rfl, Nat.le_of_ble_eq_true rfl, Nat.le_of_ble_eq_true rfl, pay_in hts (fun w hw => (List.mem_cons.mp hw).elim (fun e => ⟨by rw [e]; exact tx_g lt_ws.2.2.2.2.2.2.2.2.2.1 rfl, by rw [e]; exact good_of_word rfl⟩) (gw_good w)), List.mem_cons_self, hts _ (tx_g lt_ws.2.2.2.2.2.2.2.2.2.1 rfl), hts _ (tx_g lt_ws.2.2.2.2.2.2.2.2.2.2 rfl), ⟨by decide +kernel, by decide +kernel⟩, nargs_of (y := mN 2222) (n := 3) (by decide +kernel), hts _ (tx_g lt_ws.1 rfl)⟩, hts _ (tx_g lt_ws.2.1 rfl), hts _ (tx_g lt_ws.2.2.1 rfl)⟩ ⟨pth_blind, hrecv, hpc⟩ rfl rfl hl.1 rfl (lv_room (Nat.le_of_ble_eq_true rfl)) d7 ⟨by decide, by decide⟩
  refine vx_calli hrun hS (fun q _ h => hinA q h) hinA (fun q _ h => hinA q h) (fun E ce q9 u t H1 locs1 ht hvm _ hB hz1 hk1 hS1 hce hcv hcl => ?_) (fun r u t H1 locs1 ht hvm hf _ _ _ _ => hf.elim)
  obtain ⟨rfl, hP1⟩ := hB
  rw [ht] at hP1
  have hPt1 : va_P D kCl [(qo, .inl (cy 4, 1, .inr (.inl v)))] H1 := hPt.kept fun k q hk => by
    have hz : k < 1 := (List.getElem?_eq_some_iff.mp hk).1
    have hlt := (hPt k q hk).lt
    obtain rfl : k = 0 := by omega
    cases hk
    refine hk1 _ hlt (fun z => ?_)
    rcases wl_A.mp z with ⟨a, ha, e⟩ | h
    · exact hqo a ha e
    · exact absurd hlt (Nat.not_lt.mpr h)
  refine vx_catch hown [] ⟨0, 12, 15, 13⟩ [] htab (fun z hz => nomatch hz) (by decide) (by decide) (hts _ (tx_g lt_ws.2.2.2.1 rfl)) (va_Nw.use rfl (hTH.2.2.2 _ List.mem_cons_self)) hce hcv hcl ?_
  refine lv_astore (lv' := [(5, .ref q9), (0, .ref (G 1)), (1, .int p), (2, .int x), (3, .int y), (4, .ref qo)]) hx hb d15 hl (by decide) rfl (fun ls hl => ?_)
  refine lv_iconst (v := 1) hx hb d17 (by decide) ?_
  refine W.widen (k := 1) (n := 6) (Nat.le_refl _) (Nat.le_refl _) ?_
  refine W.iret hx hb B.returns (fun t ht _ => ⟨rfl, ?_, ?_, hS1.F ht⟩) hS1.2.2 d18 B.notSynchronized
  · rw [ht]
    exact hP1
  · rw [ht]
    exact hPt1
end LT
