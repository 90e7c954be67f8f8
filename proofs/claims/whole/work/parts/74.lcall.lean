/-! A call out of the law: the class's methods, the reference's, each by its run on the small machine. -/
/-- what the law's frame knows (own: the class whose code runs) -/
def LF (D : va_G) (cy : Nat → ClassId) (own : String) (nL : Nat) (cc : ByteArray) (p : Program) (s : State) (m : MethodId) (args : Array Value) (meth : Method) (c : Code) : Prop :=
  p.tables.exec = Jvm.exec ∧ c.code = cc ∧ c.maxLocals = nL ∧ s.vm.findClass own = some m.cls ∧ meth.locks = false ∧ (∀ w ∈ gw, w.before args s = true) ∧ (∀ w ∈ nw, va_Nw w s) ∧ va_K D kCl (tysL cy) s
/-- a method's words, as the law has them: the link, the method, who answers -/
def LCW (own : String) (i M : Nat) : Prop := Cond.methodLink own i (mN M) ∈ gw ∧ Cond.instanceMethod (mN M) ∈ gw ∧ Cond.selects (mN M).cls (mN M) (mN M) ∈ gw
theorem wl_keep {K : Cfg} {G : Nat → Nat} {cy : Nat → ClassId} {D : va_G} {al : List Nat} {S : St} {H H1 : Heap} (hP : va_P D kCl (wl K G cy al S) H) (h : ∀ a ∈ al, G a < H.size → H1[G a]? = H[G a]?) : va_P D kCl (wl K G cy al S) H1 := by
  refine hP.kept fun k q hk => ?_
  obtain ⟨a, ha, e⟩ := wl_in hk
  have hlt := (hP k q hk).lt
  rw [← e] at hlt ⊢
  exact h a ha hlt
section LCALL
variable {K : Cfg} {G : Nat → Nat} {cy : Nat → ClassId} {D : va_G} {al : List Nat} {SF : (Nat → Prop) → State → Heap → Prop} {base : Nat}
variable {p : Program} {l : Launch} {ev : Env} {R : Room} {s : State} {m : MethodId} {args : Array Value} {below : List Frame} {meth : Method} {c : Code} {H : Heap} {locs : List Loc} {cells slots : Nat} {Q : State → Prop} {cc : ByteArray} {pc : Nat} {ls : Array Slot}
/-- the room of a call d deep -/
def lfit (R : Room) (d cells slots : Nat) : Prop := d + 5 ≤ R.frames ∧ 64 * (d + 5) ≤ R.locals ∧ cells ≤ R.cells ∧ slots ≤ R.slots
theorem law_call {own : String} {nL i d M b : Nat} {vs rest : List Value} {S S' : St} {r : Option Value} {e : MI × List (Nat × Xi)} {B : Nat → Prop} (hF : okF SF) (hM : MetS K G cy D al SF l d e (.ref b :: vs) S r S') (he : mX M = some e) (hg : GoodE e) (C0 : LF D cy own nL cc p s m args meth c) (hSF : SF B s s.heap)
    (hin : ∀ q, (∃ a ∈ al, G a = q) ∨ H.size ≤ q → B q) (hA : okA K al G base) (hw : LCW own i M) (hna : (parseMethodDescriptor (mN M).desc).map (fun d => d.parameters.length) = some vs.length) (hkb : K.1 b = (0, e.1.2.2.2.2)) (hbal : b ∈ al) (hvs : vs.map (gv G) = vs) (hfit : lfit R d cells slots) (hP : va_P D kCl (wl K G cy al S) H) (hS : va_S B s.heap H locs) (hls : ls.size = nL) (hrest : (rest.map fun v => v.category).sum ≤ 8) (hdec : decode cc pc = .ok (.invokevirtual i, 3))
    (kk : ∀ (H1 : Heap) (locs1 : List Loc), va_P D kCl (wl K G cy al S') H1 → va_S B s.heap H1 locs1 → H.size ≤ H1.size → (∀ q, q < H.size → (∀ a ∈ al, G a ≠ q) → H1[q]? = H[q]?) → W p l ev R s m args below meth c H1 locs1 cells slots Q (F0 m (pc + 3) ls ((r.map (gv G)).toList ++ rest))) :
    W p l ev R s m args below meth c H locs cells slots Q (F0 m pc ls (vs.reverse ++ .ref (G b) :: rest)) := by
  obtain ⟨hx, hb, hml, hown, hlocks, hts, hnw, hK⟩ := C0
  obtain ⟨w1, w2, w3⟩ := hw
  have emn := mN_of he
  rw [emn] at w1 w2 w3 hna
  have hy13 : e.1.2.2.2.2 < 13 := by have := (hA.2.1 b hbal).2.2; rw [hkb] at this; exact this rfl
  have hrecv : ∃ cell : Cell, H[G b]? = some cell ∧ cell.vm.isStatics = false ∧ s.vm.findClass e.1.1.cls = some cell.cls := by
    obtain ⟨q, hq, hwq⟩ := wl_get (K := K) (G := G) (cy := cy) S hbal
    have hce : cE K G cy S b = .inr (e.1.2.2.2.2, fL' K G S b e.1.2.2.2.2) := by unfold cE; rw [hkb]; rfl
    rw [hce] at hwq
    rw [hg.2.2.1]
    exact va_recv hK hP (kCl_at _ hy13) hwq
  have hini : Cond.initialized e.1.1.cls ∈ lw_tbl := by rw [hg.2.2.1]; exact List.mem_of_getElem? (k_init _ hg.2.2.2.1)
  have hmh := kN_mh _ hg.2.2.2.1
  rw [← hg.2.2.1] at hmh
  have hD0 := wl_apart (cy := cy) hA S
  have hpc : ∀ U : State, U.heap = H → s.WarmedH U.vm → va_Pc (Value.ref (G b) :: vs) (fun U => U.heap.size = H.size ∧ PB K G cy D al SF S U) (Value.ref (G b) :: vs).toArray U := by
    intro U hU hW
    have h1 := hF.2.1 B s s.heap H hS.2.1 hSF
    have h2 := hF.1 B s U H hW.alike h1
    have h3 := hF.2.2 B (va_A (wl K G cy al S) H.size) U H (fun q hq => hin q (wl_A.mp hq)) h2
    exact ⟨rfl, by rw [hU], by rw [hU]; exact hP, va_K.moved hW.alike hK, hD0.weaken (fun _ _ _ _ => trivial), fun w hw => nw_warm hw hW (hnw w hw), by rw [hU]; exact h3⟩
  have hM1 := hM H.size
  rw [List.map_cons, hvs] at hM1
  have hrun := va_runV (p := p) (e := ev) (R := R) (H := H) (locs := locs) (cells := cells) (slots := slots) (below := below) (meth := meth) (C := e.1.1.cls) (g := F0 m pc ls (vs.reverse ++ .ref (G b) :: rest)) (As := vs) (rest := rest) (nL := nL) (index := i) ⟨hx, hb, hml, hown, hts⟩ hM1 ⟨⟨rfl, rfl, by show d + 4 + 1 ≤ R.frames; have := hfit.1; omega, loc_ok (d := d) hg.2.2.2.2 (by have := hfit.2.1; rw [show d + 1 + 4 = d + 5 from rfl]; exact this), pay_in hts (ws_good hg), List.mem_cons_self, hts _ (gw_in hg.1 rfl), hts _ (gw_in hini rfl), hmh, nargs_of hna, hts _ w1⟩, hts _ w2, hts _ w3⟩ ⟨pb_blind hF, hrecv, hpc⟩ rfl rfl hls rfl (lv_room hrest) hdec ⟨hfit.2.2.1, hfit.2.2.2⟩
  intro T hT X
  obtain ⟨v, st₀, t, T', L9, h0, X', hL, e1, e2, ⟨hv, hp, hz, hk⟩, st⟩ := hrun T hT X
  cases hv
  rw [h0] at hz hk
  have hin : ∀ q, va_A (wl K G cy al S) H.size q → B q := fun q hq => hin q (wl_A.mp hq)
  have hfr : ∀ q, q < H.size → (∀ a ∈ al, G a ≠ q) → T'.heap[q]? = H[q]? := fun q h1 h2 => by
    rw [e1]
    refine hk q h1 (fun z => ?_)
    rcases wl_A.mp z with ⟨a, ha, e⟩ | h
    · exact h2 a ha e
    · omega
  obtain ⟨t2, a1, b1⟩ := kk T'.heap (locs ++ L9) (by rw [e1]; exact hp)
    ⟨Nat.le_trans hS.1 (by rw [e1]; exact hz), fun q h1 h2 => by rw [e1, hk q (Nat.lt_of_lt_of_le h1 hS.1) (fun z => h2 (hin q z))]; exact hS.2.1 q h1 h2, fun q hq => by
      rcases List.mem_append.mp hq with h | h
      · exact hS.2.2 q h
      · exact hin _ (hL q h)⟩ (by rw [e1]; exact hz) hfr T' rfl X'
  exact ⟨t2, st t2 a1, b1⟩
/-- ... from a run of the small machine -/
theorem metS_rc {d M : Nat} {as : List Value} {S S' : St} {r : Option Value} {e : MI × List (Nat × Xi)} (hrun : ∀ n, RunOK K G cy D al SF l n) (hI : okI K G cy D al SF l) (he : mX M = some e) (hg : GoodE e) (hc : csum as ≤ e.1.2.2.1) (h : RC K d M as S r S') : MetS K G cy D al SF l d e as S r S' := by
  obtain ⟨n, hn⟩ := h
  exact metS_call (o := (r, S')) (hrun n) hI he hg hc hn
end LCALL
