/-! thief of the class throws; the law's own thief, which catches. -/
def thL : List Cond := Cond.classLink nseO 284 nseN :: Cond.initialized nseN :: thA.filter vx_no
/-- the words that a call doesn't hand on -/
def thB : List Cond := [.castable nseN nseN, .declares (Bundle.initS "java/lang/RuntimeException"), .declares (Bundle.initS "java/lang/Exception"), .declares (Bundle.initS "java/lang/Throwable")]
set_option maxRecDepth 100000 in
theorem th_in : ∀ w ∈ thL.filter goodWord, w ∈ lw_tbl := by decide +kernel
set_option maxRecDepth 100000 in
theorem th_no : ∀ w ∈ thL.filter (fun w => !goodWord w), w ∈ thB := by decide +kernel
set_option maxRecDepth 100000 in
theorem th_ot : ∀ w ∈ thL, vx_ot w = true := by decide +kernel
set_option maxRecDepth 100000 in
theorem th_tb : ∀ w ∈ thB, w ∈ lw_tbl ∧ w.onTables = true := by decide +kernel
theorem th_warm {s U : State} (hW : s.WarmedH U.vm) : (∀ w ∈ thB, va_Nw w s) → ∀ w ∈ thB, va_Nw w U := by
  intro h w hw
  have h1 := h w hw
  simp only [thB, List.mem_cons, List.not_mem_nil, or_false] at hw
  rcases hw with rfl | rfl | rfl | rfl
  · exact va_Nw.warmC hW h1
  · exact va_Nw.warmD hW h1
  · exact va_Nw.warmD hW h1
  · exact va_Nw.warmD hW h1
/-- what the throw wants of the statics and the text -/
def TH (sa : Nat) (A : Nat → Prop) (U : State) (H : Heap) : Prop := vx_Zq Bundle.tN "UNASSIGNED_STACK" Bundle.steD A U H ∧ vx_Zq Bundle.tN "SUPPRESSED_SENTINEL" Bundle.listD A U H ∧ vk_R (kN 11) 286 "no such page, lane or voice" sa U ∧ ∀ w ∈ thB, va_Nw w U
theorem TH.moved {sa : Nat} {A : Nat → Prop} {u U : State} {H : Heap} (hW : u.WarmedH U.vm) (h : TH sa A u H) : TH sa A U H := ⟨vx_Zq.moved hW.alike h.1, vx_Zq.moved hW.alike h.2.1, vk_R.warm hW h.2.2.1, th_warm hW h.2.2.2⟩
theorem TH.kept {sa : Nat} {A : Nat → Prop} {U : State} {H H1 : Heap} (h : TH sa A U H) (hq : ∀ a : Nat, a < H.size → ¬ A a → H1[a]? = H[a]?) : TH sa A U H1 := ⟨h.1.kept hq, h.2.1.kept hq, h.2.2⟩
theorem TH.narrow {sa : Nat} {A B : Nat → Prop} {U : State} {H : Heap} (h : TH sa A U H) (hAB : ∀ q, B q → A q) : TH sa B U H := ⟨h.1.narrow hAB, h.2.1.narrow hAB, h.2.2⟩
section THROWN
variable {G : Nat → Nat} {cy : Nat → ClassId} {D : va_G} {aA : Nat} {adT bT : Nat → Nat} {base : Nat} {l : Launch} {So : St} {v n : Nat} {p x y : Int32} {sa : Nat}
def PTh (G : Nat → Nat) (cy : Nat → ClassId) (D : va_G) (aA : Nat) (adT bT : Nat → Nat) (So : St) (sa sz : Nat) (U : State) : Prop := U.heap.size = sz ∧ PB KO G cy D alO (SFt G aA adT bT) So U ∧ TH sa (va_A (wl KO G cy alO So) U.heap.size) U U.heap
theorem pth_blind {as : List Value} {sz : Nat} : FrameBlind (va_Pc as (PTh G cy D aA adT bT So sa sz)) := by
  intro a U g mk h
  obtain ⟨h0, h1, ⟨h2, h3, h4, h5, h6⟩, h7⟩ := h
  have hv : U.vm = (U.calling g mk a).vm := rfl
  exact ⟨h0, h1, ⟨h2, va_K.moved (u := U) (U := U.calling g mk a) (Vm.Alike.refl U.vm) h3, h4, fun w hw => nw_blind hw hv (h5 w hw), (SFt_F (G := G)).1 _ U (U.calling g mk a) _ (Vm.Alike.refl U.vm) h6⟩, TH.moved (u := U) (U := U.calling g mk a) (State.WarmedH.refl U) h7⟩
def XTh (G : Nat → Nat) (cy : Nat → ClassId) (D : va_G) (So : St) (A : Nat → Prop) : String → State → State → Prop := vx_X (fun _ : Unit => True) (fun E _ t => E = nseN ∧ va_P D kCl (wl KO G cy alO So) t.heap) A
set_option maxHeartbeats 4000000 in
theorem c_thief (hfl : l.stackTraces = false) (hA : okA KO alO G base) (hv : rQ So 1 9 = some v) (hk10 : KO.1 v = (0, 10)) (hk7 : KO.1 (v + 86) = (0, 7)) (hs : o_tb_size (v + 86) So = some (nI n, So)) (hbad : p < 0 ∨ ¬ p < nI n ∨ vcB x y = false) (sz : Nat) :
    vx_Met l (mN 2222) (Cond.code (mN 2222) prog_1_method_23_code 4 (some .int) :: gw) { frames := 12, cells := 1, slots := 6, locals := 768 } (va_Pc [.ref (G 1), .int p, .int x, .int y] (PTh G cy D aA adT bT So sa sz)) (va_Qi (S := Unit) (fun _ _ => False) (fun _ _ => True) (va_A (wl KO G cy alO So) sz)) (XTh G cy D So (va_A (wl KO G cy alO So) sz)) 1 6 (va_A (wl KO G cy alO So) sz) := by
  refine vx_ofW (cc := prog_1_method_23_code) (maxL := 4) (ret := some .int) (by decide +kernel) rfl ?_
  intro p9 ev s m args below meth c s₁ B hml hnt hv9
  obtain ⟨rfl, hsz, ⟨hP, hK, hD0, hnw, hSF⟩, hTH⟩ := hv9
  subst hsz
  have hg := mX_good mx_2222
  have hkk := okK_O hA
  have hts0 := atoms_spec (ws := Cond.code (mN 2222) prog_1_method_23_code 4 (some .int) :: gw) B.pre
  have hts : ∀ w ∈ gw, w.before #[Value.ref (G 1), .int p, .int x, .int y] s = true := fun w h => hts0 w (List.mem_cons_of_mem _ h)
  have hown : s.vm.findClass (kN 11) = some m.cls := findClass_of_methodNamed B.named
  have hl := lv_entry ([.ref (G 1), .int p, .int x, .int y]) (n := 4) (Nat.le_of_ble_eq_true rfl)
  rw [lg_entry_eq]
  generalize (lg_sl ([.ref (G 1), .int p, .int x, .int y]) ++ List.replicate (4 - (lg_sl ([.ref (G 1), .int p, .int x, .int y])).length) Slot.unset).toArray = ls at hl ⊢
  have hl : lv_has ls 4 (gl G [(0, .ref 1), (1, .int p), (2, .int x), (3, .int y)]) := hl
  generalize hAe : va_A (wl KO G cy alO So) s.heap.size = A at hSF hTH ⊢
  have C0 : FrC KO G cy D alO (SFt G aA adT bT) ((⟨kN 11, "thief", "(III)I"⟩, prog_1_method_23_code, 4, some .int, 11), cd_2222) p9 s m #[Value.ref (G 1), .int p, .int x, .int y] meth c A := ⟨B.exec, B.bytes, B.returns, hml, hown, B.notSynchronized, hts, hnw, hK, fun q => by rw [← hAe]; exact wl_A, hSF⟩
  have hS0 : va_S A s.heap s.heap [] := va_S.rf
  have hD : va_D A (wl KO G cy alO So) := by rw [← hAe]; exact hD0.self
  have hfit : rfit { frames := 12, cells := 1, slots := 6, locals := 768 } (0 + 1) 0 0 := ⟨by decide, by decide, Nat.zero_le _, Nat.zero_le _⟩
  -- the throw
  have kT : ∀ lc : Lc, WA KO G cy D alO A p9 l ev { frames := 12, cells := 1, slots := 6, locals := 768 } s m #[Value.ref (G 1), .int p, .int x, .int y] below meth c 0 0 (vx_MQ below (va_Qi (S := Unit) (fun _ _ => False) (fun _ _ => True) A) (XTh G cy D So A) #[Value.ref (G 1), .int p, .int x, .int y] s 1 6 A) 4 26 lc [] So := by
    intro lc H locs ls hP1 hD1 hS1 hl1
    have hall : ∀ w ∈ thL, w.before #[Value.ref (G 1), .int p, .int x, .int y] s = true := vx_hat (fun w hw => hts w (gw_in (th_in w hw) (List.mem_filter.mp hw).2)) th_no (fun w hw => va_Nw.use (th_tb w hw).2 (hTH.2.2.2 w hw))
    refine nse_make (A := A) (sa := sa) (text := "no such page, lane or voice") B.exec B.bytes hfl hown (hall _ List.mem_cons_self) (hall _ (List.mem_cons_of_mem _ List.mem_cons_self)) hTH.2.2.1 (fun w hw => hall w (List.mem_cons_of_mem _ (List.mem_cons_of_mem _ hw))) th_ot hTH.1 hTH.2.1 hS1 (hl1.1.trans hml.symm) (by decide +kernel) (by decide +kernel) (by decide +kernel) (by decide +kernel) (Nat.le_of_ble_eq_true rfl) (Nat.le_of_ble_eq_true rfl) (Nat.le_of_ble_eq_true rfl) (Nat.le_of_ble_eq_true rfl) (fun q9 ce H1 h1 h2 h3 h4 h5 => ?_)
    refine vx_athrow B.exec B.bytes (by decide +kernel) ?_
    refine vx_out (E := nseN) (ce := ce) (fun x hx => (hnt x hx).elim) B.notSynchronized h1 h2 h3 (fun t ht _ => ⟨(), trivial, ⟨rfl, ?_⟩, ?_, fun q g1 g2 => ?_⟩) hS1.2.2 (Nat.le_refl _) (Nat.le_refl _)
    · rw [ht]
      exact hP1.kept fun k q hk => h5 _ ((hP1 k q hk).lt)
    · rw [ht]
      exact Nat.le_trans hS1.1 h4
    · rw [ht, h5 q (Nat.lt_of_lt_of_le g1 hS1.1)]
      exact hS1.2.1 q g1 g2
  have key : WA KO G cy D alO A p9 l ev { frames := 12, cells := 1, slots := 6, locals := 768 } s m #[Value.ref (G 1), .int p, .int x, .int y] below meth c 0 0 (vx_MQ below (va_Qi (S := Unit) (fun _ _ => False) (fun _ _ => True) A) (XTh G cy D So A) #[Value.ref (G 1), .int p, .int x, .int y] s 1 6 A) 4 0 [(0, .ref 1), (1, .int p), (2, .int x), (3, .int y)] [] So := by
    have hT : okT (SFt G aA adT bT) G := SFt_T
    refine WA.runs (pc' := icm .lt p 0 26 4) (lc' := [(0, .ref 1), (1, .int p), (2, .int x), (3, .int y)]) (st' := []) (S1 := So) (nL := 4) (cd := cd_2222) hT hkk hg mx_2222 C0 rfl rfl 2 rfl ?_
    by_cases q1 : p < 0
    · rw [show icm .lt p 0 26 4 = 26 from if_pos q1]
      exact kT _
    rw [show icm .lt p 0 26 4 = 4 from if_neg q1]
    refine WA.runs (pc' := 9) (lc' := [(0, .ref 1), (1, .int p), (2, .int x), (3, .int y)]) (st' := [qv (rQ So 1 9), .int p]) (S1 := So) (nL := 4) (cd := cd_2222) hT hkk hg mx_2222 C0 rfl rfl 3 rfl ?_
    rw [hv]
    refine WA.gPo (pc' := 12) (lc' := [(0, .ref 1), (1, .int p), (2, .int x), (3, .int y)]) (st' := [.ref (v + 86), .int p]) (S1 := So) (nL := 4) (cd := cd_2222) hT hkk hg mx_2222 C0 rfl rfl rfl ⟨hk10, by decide, by decide⟩ ?_
    refine WA.callV (b := (v + 86)) (as := []) (rest := [.int p]) (r1 := (some (.int (nI n)))) (S1 := So) (d' := 0) SFt_F hT hkk hg mx_2222 C0 rfl rfl rfl mx_1402 (mX_good mx_1402) rfl rfl rfl hk7 (Nat.le_of_ble_eq_true rfl) (metS_rc (runO (l := l) hA) (okI_ok (fun _ _ h => mX_good h)) mx_1402 (mX_good mx_1402) (Nat.le_of_ble_eq_true rfl) (s_o_tb_size (d := 0) _ _ hs)) hfit ?_
    show WA KO G cy D alO A p9 l ev _ s m _ below meth c 0 0 _ 4 15 [(0, .ref 1), (1, .int p), (2, .int x), (3, .int y)] [.int (nI n), .int p] So
    refine WA.runs (pc' := icm .ge p (nI n) 26 18) (lc' := [(0, .ref 1), (1, .int p), (2, .int x), (3, .int y)]) (st' := []) (S1 := So) (nL := 4) (cd := cd_2222) hT hkk hg mx_2222 C0 rfl rfl 1 rfl ?_
    by_cases q2 : p < nI n
    · rw [show icm .ge p (nI n) 26 18 = 18 from if_pos q2]
      have hvc : vcB x y = false := by
        rcases hbad with h | h | h
        · exact absurd h q1
        · exact absurd q2 h
        · exact h
      refine WA.runs (pc' := 20) (lc' := [(0, .ref 1), (1, .int p), (2, .int x), (3, .int y)]) (st' := [.int y, .int x]) (S1 := So) (nL := 4) (cd := cd_2222) hT hkk hg mx_2222 C0 rfl rfl 2 rfl ?_
      refine WA.callS (as := [.int x, .int y]) (rest := []) (r1 := (some (.int (bI (vcB x y))))) (S1 := So) (d' := 0) SFt_F hT hkk hg mx_2222 C0 rfl rfl rfl mx_2235 (mX_good mx_2235) rfl rfl rfl (Nat.le_of_ble_eq_true rfl) (Nat.le_of_ble_eq_true rfl) (metS_rc (runO (l := l) hA) (okI_ok (fun _ _ h => mX_good h)) mx_2235 (mX_good mx_2235) (Nat.le_of_ble_eq_true rfl) (s_o_isVoice (d := 0) _ _ _ (o_isVoice_ok _ _ _))) hfit ?_
      show WA KO G cy D alO A p9 l ev _ s m _ below meth c 0 0 _ 4 23 [(0, .ref 1), (1, .int p), (2, .int x), (3, .int y)] [.int (bI (vcB x y))] So
      refine WA.runs (pc' := icm .ne (bI (vcB x y)) 0 37 26) (lc' := [(0, .ref 1), (1, .int p), (2, .int x), (3, .int y)]) (st' := []) (S1 := So) (nL := 4) (cd := cd_2222) hT hkk hg mx_2222 C0 rfl rfl 1 rfl ?_
      rw [show icm .ne (bI (vcB x y)) 0 37 26 = 26 from if_pos (by rw [hvc]; rfl)]
      exact kT _
    · rw [show icm .ge p (nI n) 26 18 = 26 from if_neg q2]
      exact kT _
  exact key s.heap [] ls hP hD hS0 hl
end THROWN
