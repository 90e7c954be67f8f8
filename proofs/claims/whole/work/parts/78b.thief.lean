/-! thief of the class: where there is such a page, lane and voice it runs as 'ex' says; where there is not it throws. -/
set_option maxRecDepth 100000 in
theorem mx_2222 : mX 2222 = some ((⟨kN 11, "thief", "(III)I"⟩, prog_1_method_23_code, 4, some .int, 11), cd_2222) := rfl
set_option maxRecDepth 100000 in
theorem s_thief {d : Nat} {So So' : St} {v n : Nat} {p x y r : Int32} (hv : rQ So 1 9 = some v) (hk : KO.1 v = (0, 10)) (hk7 : KO.1 (v + 86) = (0, 7)) (hs : o_tb_size (v + 86) So = some (nI n, So)) (h0 : ¬ p < 0) (h1 : p < nI n) (hvc : vcB x y = true) (h : o_stolen p x y So = some (r, So')) : RC KO (d + 7) 2222 [.ref 1, .int p, .int x, .int y] So (some (.int r)) So' := by
  refine RC.of rfl ?_
  show RR KO (d + 7) 2222 0 [(0, .ref 1), (1, .int p), (2, .int x), (3, .int y)] [] So _ _
  refine RR.runs (pc' := icm .lt p 0 26 4) (lc' := [(0, .ref 1), (1, .int p), (2, .int x), (3, .int y)]) (st' := []) (S1 := So) (nL := 4) (cd := cd_2222) mx_2222 rfl rfl 2 rfl ?_
  refine RR.c_lt (fun q => absurd q h0) (fun _ => ?_)
  refine RR.runs (pc' := 9) (lc' := [(0, .ref 1), (1, .int p), (2, .int x), (3, .int y)]) (st' := [qv (rQ So 1 9), .int p]) (S1 := So) (nL := 4) (cd := cd_2222) mx_2222 rfl rfl 3 rfl ?_
  rw [hv]
  refine RR.gPo (pc' := 12) (lc' := [(0, .ref 1), (1, .int p), (2, .int x), (3, .int y)]) (st' := [.ref (v + 86), .int p]) (S1 := So) (nL := 4) (cd := cd_2222) mx_2222 rfl rfl rfl ⟨hk, by decide, by decide⟩ ?_
  refine RR.callV (b := (v + 86)) (as := []) (rest := [.int p]) (r1 := (some (.int (nI n)))) (S1 := So) mx_2222 rfl rfl mx_1402 rfl rfl (by decide) (Or.inl hk7) (Nat.le_of_ble_eq_true rfl) (Nat.le_of_ble_eq_true rfl) (RC.deep (by omega) (s_o_tb_size (d := d) _ _ hs)) ?_
  show RR KO _ 2222 15 [(0, .ref 1), (1, .int p), (2, .int x), (3, .int y)] [.int (nI n), .int p] So _ _
  refine RR.runs (pc' := icm .ge p (nI n) 26 18) (lc' := [(0, .ref 1), (1, .int p), (2, .int x), (3, .int y)]) (st' := []) (S1 := So) (nL := 4) (cd := cd_2222) mx_2222 rfl rfl 1 rfl ?_
  refine RR.c_ge (fun _ => ?_) (fun q => absurd h1 q)
  refine RR.runs (pc' := 20) (lc' := [(0, .ref 1), (1, .int p), (2, .int x), (3, .int y)]) (st' := [.int y, .int x]) (S1 := So) (nL := 4) (cd := cd_2222) mx_2222 rfl rfl 2 rfl ?_
  refine RR.callS (as := [.int x, .int y]) (rest := []) (r1 := (some (.int (bI (vcB x y))))) (S1 := So) mx_2222 rfl rfl mx_2235 rfl rfl (by decide) (Nat.le_of_ble_eq_true rfl) (Nat.le_of_ble_eq_true rfl) (Nat.le_of_ble_eq_true rfl) (RC.deep (by omega) (s_o_isVoice (d := d) _ _ _ (o_isVoice_ok _ _ _))) ?_
  show RR KO _ 2222 23 [(0, .ref 1), (1, .int p), (2, .int x), (3, .int y)] [.int (bI (vcB x y))] So _ _
  refine RR.runs (pc' := icm .ne (bI (vcB x y)) 0 37 26) (lc' := [(0, .ref 1), (1, .int p), (2, .int x), (3, .int y)]) (st' := []) (S1 := So) (nL := 4) (cd := cd_2222) mx_2222 rfl rfl 1 rfl ?_
  refine RR.c_ne (fun q => absurd q (by rw [hvc]; exact bT)) (fun _ => ?_)
  refine RR.runs (pc' := 41) (lc' := [(0, .ref 1), (1, .int p), (2, .int x), (3, .int y)]) (st' := [.int y, .int x, .int p, .ref 1]) (S1 := So) (nL := 4) (cd := cd_2222) mx_2222 rfl rfl 4 rfl ?_
  refine RR.callV (b := 1) (as := [.int p, .int x, .int y]) (rest := []) (r1 := (some (.int r))) (S1 := So') mx_2222 rfl rfl mx_2236 rfl rfl (by decide) (Or.inl rfl) (Nat.le_of_ble_eq_true rfl) (Nat.le_of_ble_eq_true rfl) (RC.deep (by omega) (s_o_stolen (d := d) _ _ _ _ h)) ?_
  show RR KO _ 2222 44 [(0, .ref 1), (1, .int p), (2, .int x), (3, .int y)] [.int r] So' _ _
  exact RR.reti mx_2222 rfl rfl rfl
section WA
variable {K : Cfg} {G : Nat → Nat} {cy : Nat → ClassId} {L : List Nat} {D : va_G} {SF : (Nat → Prop) → State → Heap → Prop} {A : Nat → Prop} {S S1 : St}
variable {p : Program} {l : Launch} {ev : Env} {R : Room} {s : State} {m : MethodId} {args : Array Value} {below : List Frame} {meth : Method} {c : Code} {cells slots : Nat} {Q : State → Prop} {e e' : MI × List (Nat × Xi)} {M nL pc pc' : Nat} {lc lc' : Lc} {st st' : List Value} {cd : List (Nat × Xi)}
/-- from here, whatever the heap that holds this state, the machine goes on to Q -/
def WA (K : Cfg) (G : Nat → Nat) (cy : Nat → ClassId) (D : va_G) (L : List Nat) (A : Nat → Prop) (p : Program) (l : Launch) (ev : Env) (R : Room) (s : State) (m : MethodId) (args : Array Value) (below : List Frame) (meth : Method) (c : Code) (cells slots : Nat) (Q : State → Prop) (nL pc : Nat) (lc : Lc) (st : List Value) (S : St) : Prop :=
  ∀ (H : Heap) (locs : List Loc) (ls : Array Slot), va_P D kCl (wl K G cy L S) H → va_D A (wl K G cy L S) → va_S A s.heap H locs → lv_has ls nL (gl G lc) → W p l ev R s m args below meth c H locs cells slots Q (F0 m pc ls (st.map (gv G)))
theorem WA.one (hT : okT SF G) (hk : okK K L G) (hg : GoodE e) (he : mX M = some e) (C0 : FrC K G cy D L SF e p s m args meth c A) {q : Nx} (h : s1 K e.1.2.2.1 e.2 (pc, lc, st, S) = some q) (kk : WA K G cy D L A p l ev R s m args below meth c cells slots Q e.1.2.2.1 q.1 q.2.1 q.2.2.1 q.2.2.2) : WA K G cy D L A p l ev R s m args below meth c cells slots Q e.1.2.2.1 pc lc st S := by
  intro H locs ls hP hD hS hl
  obtain ⟨hx, hb, hr, hml, hown, hlocks, hts, hnw, hK, hA, hSF⟩ := C0
  obtain ⟨hcw, hall, hcls, ho, hml14⟩ := hg
  unfold s1 at h
  cases hlk : e.2.lookup pc with
  | none => simp only [hlk] at h; cases h
  | some w =>
    obtain ⟨ins, len, x, y, z⟩ := w
    simp only [hlk] at h
    have hmem := lookup_mem hlk
    have hchk := List.all_eq_true.mp hall _ hmem
    have hlen' := List.all_eq_true.mp (mX_len he) _ hmem
    have hdec : decode e.1.2.1 pc = .ok (ins, len) := by
      unfold chkI at hchk
      exact of_decide_eq_true (Bool.and_eq_true_iff.mp hchk).1
    have hlen : ilen ins = 0 ∨ len = ilen ins := by simpa [chkL] using hlen'
    cases hcr : isCR ins with
    | true => rw [hcr] at h; cases h
    | false =>
      rw [hcr] at h
      obtain ⟨pc2, lc2, st2, S2⟩ := q
      exact sx_ok hx hb hts hnw hown hK (hT _ _ _ hSF) hP hD hS hk hdec hlen hchk h hl (fun H1 locs1 ls1 g1 g2 g3 g4 => kk H1 locs1 ls1 g1 g2 g3 g4)
theorem WA.run (hT : okT SF G) (hk : okK K L G) (hg : GoodE e) (he : mX M = some e) (C0 : FrC K G cy D L SF e p s m args meth c A) : ∀ (k : Nat) (q q' : Nx), sN K e.1.2.2.1 e.2 k q = some q' → WA K G cy D L A p l ev R s m args below meth c cells slots Q e.1.2.2.1 q'.1 q'.2.1 q'.2.2.1 q'.2.2.2 → WA K G cy D L A p l ev R s m args below meth c cells slots Q e.1.2.2.1 q.1 q.2.1 q.2.2.1 q.2.2.2
  | 0, q, q', h, kk => by
    rw [sN] at h
    cases h
    exact kk
  | k + 1, q, q', h, kk => by
    rw [sN] at h
    cases h1 : s1 K e.1.2.2.1 e.2 q with
    | none => rw [h1] at h; cases h
    | some q1 =>
      rw [h1] at h
      exact WA.one hT hk hg he C0 h1 (WA.run hT hk hg he C0 k q1 q' h kk)
theorem WA.runs (hT : okT SF G) (hk : okK K L G) (hg : GoodE e) (he : mX M = some e) (C0 : FrC K G cy D L SF e p s m args meth c A) (hn : e.1.2.2.1 = nL) (hc : e.2 = cd) (k : Nat) (h : sN K nL cd k (pc, lc, st, S) = some (pc', lc', st', S1)) (kk : WA K G cy D L A p l ev R s m args below meth c cells slots Q nL pc' lc' st' S1) : WA K G cy D L A p l ev R s m args below meth c cells slots Q nL pc lc st S := by
  subst hn hc
  exact WA.run hT hk hg he C0 k _ _ h kk
theorem WA.gPo (hT : okT SF G) (hk : okK K L G) (hg : GoodE e) (he : mX M = some e) (C0 : FrC K G cy D L SF e p s m args meth c A) (hn : e.1.2.2.1 = nL) (hc : e.2 = cd) {g : Prop} [Decidable g] {o : Option Nx} (h : s1 K nL cd (pc, lc, st, S) = if g then some (pc', lc', st', S1) else o) (hg1 : g) (kk : WA K G cy D L A p l ev R s m args below meth c cells slots Q nL pc' lc' st' S1) : WA K G cy D L A p l ev R s m args below meth c cells slots Q nL pc lc st S := by
  subst hn hc
  rw [if_pos hg1] at h
  exact WA.one hT hk hg he C0 h kk
theorem WA.callV (hF : okF SF) (hT : okT SF G) (hk : okK K L G) (hg : GoodE e) (he : mX M = some e) (C0 : FrC K G cy D L SF e p s m args meth c A) (hn : e.1.2.2.1 = nL) (hc : e.2 = cd) {i len x y z b d' : Nat} {as rest : List Value} {r1 : Option Value} (hl0 : cd.lookup pc = some (.invokevirtual i, len, x, y, z)) (hmy : mX y = some e') (hg' : GoodE e') (hdrop : st.drop z = .ref b :: rest) (has : (st.take z).reverse = as) (hx1 : x = 1) (hkb : K.1 b = (0, e'.1.2.2.2.2)) (hcr : csum rest ≤ 8) (hM : MetS K G cy D L SF l d' e' (.ref b :: as) S r1 S1) (hfit : rfit R (d' + 1) cells slots)
    (kk : WA K G cy D L A p l ev R s m args below meth c cells slots Q nL (pc + 3) lc (r1.toList ++ rest) S1) : WA K G cy D L A p l ev R s m args below meth c cells slots Q nL pc lc st S := by
  subst hn hc has
  intro H locs ls hP hD hS hl
  have C1 := C0
  obtain ⟨hx, hb, hr, hml, hown, hlocks, hts, hnw, hK, hA, hSF⟩ := C0
  obtain ⟨hcw, hall, hcls, ho, hml14⟩ := hg
  have hmem := lookup_mem hl0
  have hchk := List.all_eq_true.mp hall _ hmem
  have hlen' := List.all_eq_true.mp (mX_len he) _ hmem
  have hdec : decode e.1.2.1 pc = .ok (.invokevirtual i, len) := by
    unfold chkI at hchk
    exact of_decide_eq_true (Bool.and_eq_true_iff.mp hchk).1
  have hlen : ilen (.invokevirtual i) = 0 ∨ len = ilen (.invokevirtual i) := by simpa [chkL] using hlen'
  obtain rfl : len = 3 := by simpa [ilen] using hlen
  have hzl : z < st.length := by
    have := congrArg List.length hdrop
    simp only [List.length_drop, List.length_cons] at this
    omega
  have hst : st.map (gv G) = (((st.take z).reverse).map (gv G)).reverse ++ .ref (G b) :: rest.map (gv G) := by
    rw [← List.map_reverse, List.reverse_reverse]
    conv => lhs; rw [← List.take_append_drop z st, hdrop]
    simp [gv]
  have hAs : (((st.take z).reverse).map (gv G)).length = z := by simp; omega
  have hrecv : ∃ cell : Cell, H[G b]? = some cell ∧ cell.vm.isStatics = false ∧ s.vm.findClass (kN e'.1.2.2.2.2) = some cell.cls := by
    obtain ⟨q, hq, hwq⟩ := wl_get (K := K) (G := G) (cy := cy) S (hk.1 b (by simp [hkb]))
    have hy13 : e'.1.2.2.2.2 < 13 := by have := hk.2.1 b (by rw [hkb]); rw [hkb] at this; exact this
    have hce : cE K G cy S b = .inr (e'.1.2.2.2.2, fL' K G S b e'.1.2.2.2.2) := by unfold cE; rw [hkb]; rfl
    rw [hce] at hwq
    exact va_recv hK hP (kCl_at _ hy13) hwq
  have hW8 : ((rest.map (gv G)).map fun v => v.category).sum ≤ 8 := by have := csum_map G rest; unfold csum at this hcr; omega
  have hloc : 8 + (e'.1.2.2.1 + 11) + (rmd d').locals ≤ R.locals := loc_ok hg'.2.2.2.2 hfit.2.1
  have hini : Cond.initialized e'.1.1.cls ∈ lw_tbl := by rw [hg'.2.2.1]; exact List.mem_of_getElem? (k_init _ hg'.2.2.2.1)
  have hmh := kN_mh _ hg'.2.2.2.1
  rw [← hg'.2.2.1] at hmh hrecv
  have hpc := pb_of (e := e) hF C1 hP hD hS (Value.ref (G b) :: ((st.take z).reverse).map (gv G))
  have hA1 := A_of (e := e) (S := S) C1 hS
  rw [hst]
  obtain ⟨w1, w2, w3, w4⟩ := link_1 (o := e.1.2.2.2.2) hmy hg' (ckI_of hchk) hx1
  refine w_call (va_runVN (C := e'.1.1.cls) (host := "NameOrchard") (As := ((st.take z).reverse).map (gv G)) (rest := rest.map (gv G)) (nL := e.1.2.2.1) ⟨hx, hb, hml, hown, hts⟩ (hM H.size) ⟨⟨⟨rfl, rfl, frm_ok hfit.1, hloc, pay_in hts (ws_good hg'), List.mem_cons_self⟩, hts _ (gw_in hg'.1 rfl), hts _ (gw_in hini rfl), hmh, nargs_of w4, va_Nw.use rfl (hnw _ (nw_in w1 rfl))⟩, hts _ (gw_in w2 rfl), hts _ (gw_in w3 rfl)⟩ ⟨pb_blind hF, hrecv, hpc⟩ rfl hAs hl.1 rfl (lv_room hW8) hdec ⟨hfit.2.2.1, hfit.2.2.2⟩) hS (fun q _ h => hA1 q h) hA1 (fun H1 locs1 g1 g3 => ?_)
  rw [gv_ret]
  exact kk H1 locs1 ls g1 (wl_D _ hD) g3 hl
theorem WA.callS (hF : okF SF) (hT : okT SF G) (hk : okK K L G) (hg : GoodE e) (he : mX M = some e) (C0 : FrC K G cy D L SF e p s m args meth c A) (hn : e.1.2.2.1 = nL) (hc : e.2 = cd) {i len x y z d' : Nat} {as rest : List Value} {r1 : Option Value} (hl0 : cd.lookup pc = some (.invokestatic i, len, x, y, z)) (hmy : mX y = some e') (hg' : GoodE e') (hdrop : st.drop z = rest) (has : (st.take z).reverse = as) (hx1 : x = 2) (hzl : z ≤ st.length) (hcr : csum rest ≤ 8) (hM : MetS K G cy D L SF l d' e' as S r1 S1) (hfit : rfit R (d' + 1) cells slots)
    (kk : WA K G cy D L A p l ev R s m args below meth c cells slots Q nL (pc + 3) lc (r1.toList ++ rest) S1) : WA K G cy D L A p l ev R s m args below meth c cells slots Q nL pc lc st S := by
  subst hn hc has hdrop
  intro H locs ls hP hD hS hl
  have C1 := C0
  obtain ⟨hx, hb, hr, hml, hown, hlocks, hts, hnw, hK, hA, hSF⟩ := C0
  obtain ⟨hcw, hall, hcls, ho, hml14⟩ := hg
  have hmem := lookup_mem hl0
  have hchk := List.all_eq_true.mp hall _ hmem
  have hlen' := List.all_eq_true.mp (mX_len he) _ hmem
  have hdec : decode e.1.2.1 pc = .ok (.invokestatic i, len) := by
    unfold chkI at hchk
    exact of_decide_eq_true (Bool.and_eq_true_iff.mp hchk).1
  have hlen : ilen (.invokestatic i) = 0 ∨ len = ilen (.invokestatic i) := by simpa [chkL] using hlen'
  obtain rfl : len = 3 := by simpa [ilen] using hlen
  have hst : st.map (gv G) = (((st.take z).reverse).map (gv G)).reverse ++ (st.drop z).map (gv G) := by
    rw [← List.map_reverse, List.reverse_reverse, ← List.map_append, List.take_append_drop]
  have hAs : (((st.take z).reverse).map (gv G)).length = z := by simp; omega
  have hW8 : (((st.drop z).map (gv G)).map fun v => v.category).sum ≤ 8 := by have := csum_map G (st.drop z); unfold csum at this hcr; omega
  have hloc : 8 + (e'.1.2.2.1 + 11) + (rmd d').locals ≤ R.locals := loc_ok hg'.2.2.2.2 hfit.2.1
  have hini : Cond.initialized e'.1.1.cls ∈ lw_tbl := by rw [hg'.2.2.1]; exact List.mem_of_getElem? (k_init _ hg'.2.2.2.1)
  have hmh := kN_mh _ hg'.2.2.2.1
  rw [← hg'.2.2.1] at hmh
  have hpc := pb_of (e := e) hF C1 hP hD hS (((st.take z).reverse).map (gv G))
  have hA1 := A_of (e := e) (S := S) C1 hS
  rw [hst]
  obtain ⟨w1, w2, w4⟩ := link_2 (o := e.1.2.2.2.2) hmy hg' (ckI_of hchk) hx1
  refine w_call (va_runS (As := ((st.take z).reverse).map (gv G)) (rest := (st.drop z).map (gv G)) (nL := e.1.2.2.1) ⟨hx, hb, hml, hown, hts⟩ (hM H.size) ⟨⟨rfl, rfl, frm_ok hfit.1, hloc, pay_in hts (ws_good hg'), List.mem_cons_self, hts _ (gw_in hg'.1 rfl), hts _ (gw_in hini rfl), hmh, nargs_of w4, hts _ (gw_in w1 rfl)⟩, hts _ (gw_in w2 rfl)⟩ ⟨pb_blind hF, hpc⟩ rfl hAs hl.1 rfl (lv_room hW8) hdec ⟨hfit.2.2.1, hfit.2.2.2⟩) hS (fun q _ h => hA1 q h) hA1 (fun H1 locs1 g1 g3 => ?_)
  rw [gv_ret]
  exact kk H1 locs1 ls g1 (wl_D _ hD) g3 hl
end WA
