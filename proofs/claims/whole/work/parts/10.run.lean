/-! A run of part 06 is one of the machine: each method, by its contract. -/
theorem mL_word {o i x y z : Nat} (h : (mL.any (fun f => f.1 == o && (f.2.1 == i && (f.2.2.1 == x && (f.2.2.2.1 == y && f.2.2.2.2.1 == z)))) || x == 9) = true) (hx : x < 9) : lW o i x y ∈ lw_tbl ∧ lV x y ∈ lw_tbl ∧ (x / 2 = 0 → lS x y ∈ lw_tbl) ∧ (parseMethodDescriptor (mN y).desc).map (fun d => d.parameters.length) = some z := by
  rcases Bool.or_eq_true_iff.mp h with h | h
  · obtain ⟨f, hf, h1⟩ := List.any_eq_true.mp h
    simp only [Bool.and_eq_true, beq_iff_eq] at h1
    obtain ⟨rfl, rfl, rfl, rfl, rfl⟩ := h1
    obtain ⟨g1, g2, g3, g4⟩ := mL_ok f hf
    exact ⟨List.mem_of_getElem? g1, List.mem_of_getElem? g2, fun h => List.mem_of_getElem? (g3 h), g4⟩
  · have : x = 9 := by simpa using h
    omega
theorem mN_of {M : Nat} {e : MI × List (Nat × Xi)} (h : mX M = some e) : mN M = e.1.1 := by unfold mN; rw [h]
theorem nw_warm {w : Cond} {s U : State} (h : w ∈ nw) (hW : s.WarmedH U.vm) (hz : va_Nw w s) : va_Nw w U := by
  have h1 := (List.mem_filter.mp h).2
  cases w <;> first | exact va_Nw.warmF hW hz | exact va_Nw.warmM hW hz | (simp [isNest] at h1; done)
theorem nw_blind {w : Cond} {s U : State} (h : w ∈ nw) (hv : s.vm = U.vm) (hz : va_Nw w s) : va_Nw w U := by
  have h1 := (List.mem_filter.mp h).2
  cases w <;> first | exact va_Nw.same rfl hv hz | (simp [isNest] at h1; done)
set_option maxRecDepth 100000 in
theorem plain_all : ∀ l ∈ mXX, ∀ e ∈ l, plainFor e.1.1 = true := by decide +kernel
theorem mX_plain {M : Nat} {e : MI × List (Nat × Xi)} (h : mX M = some e) : plainFor e.1.1 = true := by
  have h1 := List.mem_of_getElem? h
  rw [List.getD_eq_getElem?_getD] at h1
  cases hl : mXX[M / 200]? with
  | none => rw [hl] at h1; exact absurd h1 List.not_mem_nil
  | some l => rw [hl] at h1; exact plain_all l (List.mem_of_getElem? hl) e h1
theorem kN_mh : ∀ c, c < 16 → kN c ≠ "java/lang/invoke/MethodHandle" ∧ kN c ≠ "java/lang/invoke/VarHandle" := by decide +kernel
/-- facts of the statics: they speak of cells outside A, and stay -/
def okF (SF : (Nat → Prop) → State → Heap → Prop) : Prop :=
  (∀ (A : Nat → Prop) (u U : State) (H : Heap), u.vm.Alike U.vm → SF A u H → SF A U H) ∧ (∀ (A : Nat → Prop) (U : State) (H H1 : Heap), (∀ q : Nat, q < H.size → ¬ A q → H1[q]? = H[q]?) → SF A U H → SF A U H1) ∧ (∀ (A B : Nat → Prop) (U : State) (H : Heap), (∀ q, B q → A q) → SF A U H → SF B U H)
/-- the constants' facts are among them -/
def okT (SF : (Nat → Prop) → State → Heap → Prop) (G : Nat → Nat) : Prop := ∀ (A : Nat → Prop) (U : State) (H : Heap), SF A U H → TF G A U H
def PB (K : Cfg) (G : Nat → Nat) (cy : Nat → ClassId) (D : va_G) (L : List Nat) (SF : (Nat → Prop) → State → Heap → Prop) (S : St) (U : State) : Prop :=
  va_P D kCl (wl K G cy L S) U.heap ∧ va_K D kCl (tysL cy) U ∧ va_D (fun _ => True) (wl K G cy L S) ∧ (∀ w ∈ nw, va_Nw w U) ∧ SF (va_A (wl K G cy L S) U.heap.size) U U.heap
def QB (K : Cfg) (G : Nat → Nat) (cy : Nat → ClassId) (D : va_G) (L : List Nat) (S' : St) (r : Option Value) (A : Nat → Prop) : Array Value → State → Outcome → State → Prop := fun _ st oc t => oc = .returned (r.map (gv G)) ∧ va_P D kCl (wl K G cy L S') t.heap ∧ va_F A st t
def rmd (d : Nat) : Room := { frames := d + 4, cells := 0, slots := 0, locals := 64 * (d + 4) }
/-- the contract of method M at these arguments and this state -/
def MetS (K : Cfg) (G : Nat → Nat) (cy : Nat → ClassId) (D : va_G) (L : List Nat) (SF : (Nat → Prop) → State → Heap → Prop) (l : Launch) (d : Nat) (e : MI × List (Nat × Xi)) (as : List Value) (S : St) (r : Option Value) (S' : St) : Prop :=
  ∀ sz : Nat, Met l e.1.1 (Cond.code e.1.1 e.1.2.1 e.1.2.2.1 e.1.2.2.2.1 :: gw) (rmd d) (va_Pc (as.map (gv G)) (fun U => U.heap.size = sz ∧ PB K G cy D L SF S U)) (QB K G cy D L S' r (va_A (wl K G cy L S) sz)) 0 0 (va_A (wl K G cy L S) sz)
theorem pb_blind {K : Cfg} {G : Nat → Nat} {cy : Nat → ClassId} {D : va_G} {L : List Nat} {SF : (Nat → Prop) → State → Heap → Prop} (hF : okF SF) {S : St} {as : List Value} {sz : Nat} : FrameBlind (va_Pc as (fun U => U.heap.size = sz ∧ PB K G cy D L SF S U)) := by
  intro a U g mk h
  obtain ⟨h0, h1, h2, h3, h4, h5, h6⟩ := h
  have hv : U.vm = (U.calling g mk a).vm := rfl
  exact ⟨h0, h1, h2, va_K.moved (u := U) (U := U.calling g mk a) (Vm.Alike.refl U.vm) h3, h4, fun w hw => nw_blind hw hv (h5 w hw), hF.1 _ U (U.calling g mk a) _ (Vm.Alike.refl U.vm) h6⟩
section RUN
variable {K : Cfg} {G : Nat → Nat} {cy : Nat → ClassId} {L : List Nat} {D : va_G} {SF : (Nat → Prop) → State → Heap → Prop}
/-- what a frame of method e knows -/
def FrC (K : Cfg) (G : Nat → Nat) (cy : Nat → ClassId) (D : va_G) (L : List Nat) (SF : (Nat → Prop) → State → Heap → Prop) (e : MI × List (Nat × Xi)) (p : Program) (s : State) (m : MethodId) (args : Array Value) (meth : Method) (c : Code) (A : Nat → Prop) : Prop :=
  p.tables.exec = Jvm.exec ∧ c.code = e.1.2.1 ∧ meth.sig.returnType = e.1.2.2.2.1 ∧ c.maxLocals = e.1.2.2.1 ∧ s.vm.findClass (kN e.1.2.2.2.2) = some m.cls ∧ meth.locks = false ∧ (∀ w ∈ gw, w.before args s = true) ∧ (∀ w ∈ nw, va_Nw w s) ∧ va_K D kCl (tysL cy) s ∧ (∀ q, A q ↔ (∃ a ∈ L, G a = q) ∨ s.heap.size ≤ q) ∧ SF A s s.heap
/-- a return, by its instruction -/
def rtx (ins : Instr) (ret : Option FieldType) (st : List Value) (S : St) : Option (Option Value × St) := match ins with
  | .ireturn => rti ret st S
  | .lreturn => rtl ret st S
  | .areturn => rta ret st S
  | .return_ => rtv ret st S
  | _ => none
theorem rti_S {ret : Option FieldType} {st : List Value} {S S' : St} {r : Option Value} (h : rti ret st S = some (r, S')) : S' = S := by
  unfold rti at h
  split at h
  · cases h; rfl
  · split at h <;> cases h; rfl
  · cases h
theorem rtl_S {ret : Option FieldType} {st : List Value} {S S' : St} {r : Option Value} (h : rtl ret st S = some (r, S')) : S' = S := by
  unfold rtl at h
  split at h <;> cases h; rfl
theorem rta_S {ret : Option FieldType} {st : List Value} {S S' : St} {r : Option Value} (h : rta ret st S = some (r, S')) : S' = S := by
  unfold rta at h
  split at h <;> cases h <;> rfl
theorem rtv_S {ret : Option FieldType} {st : List Value} {S S' : St} {r : Option Value} (h : rtv ret st S = some (r, S')) : S' = S := by
  unfold rtv at h
  split at h <;> cases h; rfl
/-- the room that a run wants -/
def rfit (R : Room) (d cells slots : Nat) : Prop := d + 4 ≤ R.frames ∧ 64 * (d + 4) ≤ R.locals ∧ cells ≤ R.cells ∧ slots ≤ R.slots
def RunOK (K : Cfg) (G : Nat → Nat) (cy : Nat → ClassId) (D : va_G) (L : List Nat) (SF : (Nat → Prop) → State → Heap → Prop) (l : Launch) (n : Nat) : Prop :=
  ∀ (d M pc : Nat) (lc : Lc) (st : List Value) (S : St) (r : Option Value) (S' : St), ex K n d M pc lc st S = some (r, S') → ∀ e : MI × List (Nat × Xi), mX M = some e →
  ∀ (p : Program) (ev : Env) (R : Room) (s : State) (m : MethodId) (args : Array Value) (below : List Frame) (meth : Method) (c : Code) (H : Heap) (locs : List Loc) (ls : Array Slot) (A : Nat → Prop) (cells slots : Nat) (Q : State → Prop),
  FrC K G cy D L SF e p s m args meth c A → va_P D kCl (wl K G cy L S) H → va_D A (wl K G cy L S) → va_S A s.heap H locs → lv_has ls e.1.2.2.1 (gl G lc) → rfit R d cells slots →
  (∀ (H1 : Heap) (locs1 : List Loc) (pc' : Nat) (ls' : Array Slot) (st' : List Value) (ins : Instr), decode e.1.2.1 pc' = .ok (ins, 1) → rtx ins e.1.2.2.2.1 st' S' = some (r, S') → va_P D kCl (wl K G cy L S') H1 → va_S A s.heap H1 locs1 → W p l ev R s m args below meth c H1 locs1 cells slots Q (F0 m pc' ls' (st'.map (gv G)))) →
  W p l ev R s m args below meth c H locs cells slots Q (F0 m pc ls (st.map (gv G)))
/-- a return is one of the machine -/
theorem ret_ok {ins : Instr} {e : MI × List (Nat × Xi)} {p : Program} {l : Launch} {ev : Env} {R : Room} {s : State} {m : MethodId} {args : Array Value} {below : List Frame} {meth : Method} {c : Code} {H : Heap} {locs : List Loc} {ls : Array Slot} {A : Nat → Prop} {cells slots pc : Nat} {st : List Value} {r : Option Value} {S' : St} {Qc : Array Value → State → Outcome → State → Prop}
    (hx : p.tables.exec = Jvm.exec) (hb : c.code = e.1.2.1) (hr : meth.sig.returnType = e.1.2.2.2.1) (hlocks : meth.locks = false) (hdec : decode e.1.2.1 pc = .ok (ins, 1)) (hst : rtx ins e.1.2.2.2.1 st S' = some (r, S')) (hq : ∀ t : State, t.heap = H → s.WarmedH t.vm → Qc args s (.returned (r.map (gv G))) t) (hf : ∀ q ∈ locs, A q.base) :
    W p l ev R s m args below meth c H locs cells slots (MQ below Qc args s cells slots A) (F0 m pc ls (st.map (gv G))) := by
  generalize hret : e.1.2.2.2.1 = ret at hst
  unfold rtx at hst
  split at hst
  · unfold rti at hst
    split at hst
    · cases hst
      exact W.iret hx hb (hr.trans hret) hq hf hdec hlocks
    · split at hst <;> try (cases hst; done)
      rename_i hbo
      cases hst
      exact W.zret hx hb (hr.trans hret) (nar_Z hbo) hq hf hdec hlocks
    · cases hst
  · unfold rtl at hst
    split at hst
    · cases hst
      exact W.lret hx hb (hr.trans hret) hq hf hdec hlocks
    · cases hst
  · unfold rta at hst
    split at hst
    · cases hst
      exact W.aret hx hb (hr.trans hret) (Or.inl ⟨_, rfl⟩) (Or.inr ⟨_, rfl⟩) hq hf hdec hlocks
    · cases hst
      exact W.aret hx hb (hr.trans hret) (Or.inl ⟨_, rfl⟩) (Or.inl rfl) hq hf hdec hlocks
    · cases hst
  · unfold rtv at hst
    split at hst
    · cases hst
      exact W.vret hx hb (hr.trans hret) hq hf hdec hlocks
    · cases hst
  · cases hst
theorem metS_of {l : Launch} {n d M : Nat} {as : List Value} {S S' : St} {r : Option Value} {e : MI × List (Nat × Xi)} (hn : RunOK K G cy D L SF l n) (he : mX M = some e) (hg : GoodE e) (hc : csum as ≤ e.1.2.2.1) (hex : ex K n d M 0 (lv_args 0 as) [] S = some (r, S')) : MetS K G cy D L SF l d e as S r S' := by
  intro sz
  obtain ⟨hcw, -, hcls, ho, -⟩ := hg
  refine va_MetF (cc := e.1.2.1) (maxL := e.1.2.2.1) (ret := e.1.2.2.2.1) (mX_plain he) rfl ?_
  intro p ev s m args below meth c s₁ B hml hv
  obtain ⟨rfl, hsz, hP, hK, hD0, hnw, hSF⟩ := hv
  have hts0 := atoms_spec (ws := Cond.code e.1.1 e.1.2.1 e.1.2.2.1 e.1.2.2.2.1 :: gw) B.pre
  have hts : ∀ w ∈ gw, w.before ((as.map (gv G)).toArray) s = true := fun w h => hts0 w (List.mem_cons_of_mem _ h)
  have hown : s.vm.findClass (kN e.1.2.2.2.2) = some m.cls := by rw [← hcls]; exact findClass_of_methodNamed B.named
  subst hsz
  have hlen : (lg_sl (as.map (gv G))).length ≤ e.1.2.2.1 := by rw [csum_sl, csum_map]; exact hc
  have hl := lv_entry (as.map (gv G)) (n := e.1.2.2.1) hlen
  rw [lg_entry_eq]
  generalize (lg_sl (as.map (gv G)) ++ List.replicate (e.1.2.2.1 - (lg_sl (as.map (gv G))).length) Slot.unset).toArray = ls at hl ⊢
  rw [← gl_args] at hl
  exact hn d M 0 _ [] S r S' hex e he p ev _ s m _ below meth c s.heap [] ls _ 0 0 _ ⟨B.exec, B.bytes, B.returns, hml, hown, B.notSynchronized, hts, hnw, hK, fun q => wl_A, hSF⟩ hP hD0.self va_S.rf hl ⟨Nat.le_refl _, Nat.le_refl _, Nat.le_refl _, Nat.le_refl _⟩ (fun H1 locs1 pc' ls' st' ins g1 g2 g3 g4 => ret_ok B.exec B.bytes B.returns B.notSynchronized g1 g2 (fun t ht _ => ⟨rfl, by rw [ht]; exact g3, g4.F ht⟩) g4.2.2)
/-- behind a call -/
theorem w_call {l : Launch} {p : Program} {ev : Env} {R : Room} {s : State} {m : MethodId} {args : Array Value} {below : List Frame} {meth : Method} {c : Code} {H : Heap} {locs : List Loc} {cells slots : Nat} {Q : State → Prop} {pc : Nat} {ls : Array Slot} {rest st0 : List Value} {a : Array Value} {A0 A1 free : Nat → Prop} {S' : St} {r : Option Value}
    (hr : va_Run p l ev R s m args below meth c H locs cells slots 0 0 (F0 m pc ls st0) rest (QB K G cy D L S' r A1 a) free) (hS : va_S A0 s.heap H locs) (hA : ∀ q, q < H.size → A1 q → A0 q) (hf : ∀ q, free q → A0 q)
    (kk : ∀ (H1 : Heap) (locs1 : List Loc), va_P D kCl (wl K G cy L S') H1 → va_S A0 s.heap H1 locs1 → W p l ev R s m args below meth c H1 locs1 cells slots Q (F0 m (pc + 3) ls ((r.map (gv G)).toList ++ rest))) : W p l ev R s m args below meth c H locs cells slots Q (F0 m pc ls st0) := by
  intro T hT X
  obtain ⟨v, st₀, t, T', L9, h0, X', hL, e1, e2, ⟨hv, hp, hz, hk⟩, st⟩ := hr T hT X
  cases hv
  rw [h0] at hz hk
  obtain ⟨t2, a1, b1⟩ := kk T'.heap (locs ++ L9) (by rw [e1]; exact hp)
    ⟨Nat.le_trans hS.1 (by rw [e1]; exact hz), fun q h1 h2 => by rw [e1, hk q (Nat.lt_of_lt_of_le h1 hS.1) (fun z => h2 (hA q (Nat.lt_of_lt_of_le h1 hS.1) z))]; exact hS.2.1 q h1 h2, fun q hq => by
      rcases List.mem_append.mp hq with h | h
      · exact hS.2.2 q h
      · exact hf _ (hL q h)⟩ T' rfl X'
  exact ⟨t2, st t2 a1, b1⟩
/-- what the callee's start wants, from what the caller knows -/
theorem pb_of {e : MI × List (Nat × Xi)} {p : Program} {s : State} {m : MethodId} {args : Array Value} {meth : Method} {c : Code} {A : Nat → Prop} {S : St} {H : Heap} {locs : List Loc} (hF : okF SF) (C0 : FrC K G cy D L SF e p s m args meth c A) (hP : va_P D kCl (wl K G cy L S) H) (hD : va_D A (wl K G cy L S)) (hS : va_S A s.heap H locs) (as : List Value) : ∀ U : State, U.heap = H → s.WarmedH U.vm → va_Pc as (fun U => U.heap.size = H.size ∧ PB K G cy D L SF S U) as.toArray U := by
  intro U hU hW
  obtain ⟨-, -, -, -, -, -, -, hnw, hK, hA, hSF⟩ := C0
  have h1 := hF.2.1 A s s.heap H hS.2.1 hSF
  have h2 := hF.1 A s U H hW.alike h1
  have h3 := hF.2.2 A (va_A (wl K G cy L S) H.size) U H (fun q hq => (hA q).mpr ((wl_A.mp hq).imp id (fun z => Nat.le_trans hS.1 z))) h2
  exact ⟨rfl, by rw [hU], by rw [hU]; exact hP, va_K.moved hW.alike hK, hD.weaken (fun _ _ _ _ => trivial), fun w hw => nw_warm hw hW (hnw w hw), by rw [hU]; exact h3⟩
theorem A_of {e : MI × List (Nat × Xi)} {p : Program} {s : State} {m : MethodId} {args : Array Value} {meth : Method} {c : Code} {A : Nat → Prop} {S : St} {H : Heap} {locs : List Loc} (C0 : FrC K G cy D L SF e p s m args meth c A) (hS : va_S A s.heap H locs) : ∀ q, va_A (wl K G cy L S) H.size q → A q := by
  obtain ⟨-, -, -, -, -, -, -, -, -, hA, -⟩ := C0
  exact fun q hq => (hA q).mpr ((wl_A.mp hq).imp id (fun z => Nat.le_trans hS.1 z))
theorem code_good (y : MethodName) (b : ByteArray) (k : Nat) (r : Option FieldType) : goodWord (Cond.code y b k r) = true := rfl
theorem ws_good {e : MI × List (Nat × Xi)} (hg : GoodE e) : GoodIn gw (Cond.code e.1.1 e.1.2.1 e.1.2.2.1 e.1.2.2.2.1 :: gw) := by
  intro w hw
  rcases List.mem_cons.mp hw with rfl | h
  · exact ⟨gw_in hg.1 rfl, good_of_word rfl⟩
  · exact gw_good w h
theorem nargs_of {y : MethodName} {n : Nat} (h : (parseMethodDescriptor y.desc).map (fun d => d.parameters.length) = some n) : ∀ sig, parseMethodDescriptor y.desc = some sig → n = sig.parameters.length := by
  intro sig h1
  rw [h1] at h
  exact (Option.some.inj h).symm
theorem lookup_mem {α : Type} {l : List (Nat × α)} {k : Nat} {v : α} (h : l.lookup k = some v) : (k, v) ∈ l := by
  induction l with
  | nil => simp at h
  | cons q t ih =>
    obtain ⟨j, w⟩ := q
    rw [List.lookup_cons] at h
    by_cases hij : k = j
    · subst hij
      simp at h
      subst h
      exact List.mem_cons_self
    · have : (k == j) = false := by simpa using hij
      rw [this] at h
      exact List.mem_cons_of_mem _ (ih h)
/-- the words of a call, from the link's place in the tables -/
theorem link_0 {o i x y z : Nat} {e' : MI × List (Nat × Xi)} (hmy : mX y = some e') (hg : GoodE e') (h : ckI o (.invokevirtual i) x y z = true) (hx : x = 0) : Cond.methodLink (kN o) i e'.1.1 ∈ lw_tbl ∧ Cond.instanceMethod e'.1.1 ∈ lw_tbl ∧ Cond.selects e'.1.1.cls e'.1.1 e'.1.1 ∈ lw_tbl ∧ (parseMethodDescriptor e'.1.1.desc).map (fun d => d.parameters.length) = some z := by
  subst hx
  obtain ⟨g1, g2, g3, g4⟩ := mL_word (o := o) (i := i) (x := 0) (y := y) (z := z) h (by omega)
  have e1 := mN_of hmy
  rw [← e1]
  exact ⟨g1, g2, g3 rfl, g4⟩
theorem link_1 {o i x y z : Nat} {e' : MI × List (Nat × Xi)} (hmy : mX y = some e') (hg : GoodE e') (h : ckI o (.invokevirtual i) x y z = true) (hx : x = 1) : Cond.methodLinkNest (kN o) i e'.1.1 "NameOrchard" ∈ lw_tbl ∧ Cond.instanceMethod e'.1.1 ∈ lw_tbl ∧ Cond.selects e'.1.1.cls e'.1.1 e'.1.1 ∈ lw_tbl ∧ (parseMethodDescriptor e'.1.1.desc).map (fun d => d.parameters.length) = some z := by
  subst hx
  obtain ⟨g1, g2, g3, g4⟩ := mL_word (o := o) (i := i) (x := 1) (y := y) (z := z) h (by omega)
  have e1 := mN_of hmy
  rw [← e1]
  exact ⟨g1, g2, g3 rfl, g4⟩
theorem link_2 {o i x y z : Nat} {e' : MI × List (Nat × Xi)} (hmy : mX y = some e') (hg : GoodE e') (h : ckI o (.invokestatic i) x y z = true) (hx : x = 2) : Cond.methodLink (kN o) i e'.1.1 ∈ lw_tbl ∧ Cond.static e'.1.1 ∈ lw_tbl ∧ (parseMethodDescriptor e'.1.1.desc).map (fun d => d.parameters.length) = some z := by
  subst hx
  obtain ⟨g1, g2, -, g4⟩ := mL_word (o := o) (i := i) (x := 2) (y := y) (z := z) h (by omega)
  have e1 := mN_of hmy
  rw [← e1]
  exact ⟨g1, g2, g4⟩
theorem link_3 {o i x y z : Nat} {e' : MI × List (Nat × Xi)} (hmy : mX y = some e') (hg : GoodE e') (h : ckI o (.invokestatic i) x y z = true) (hx : x = 3) : Cond.methodLinkNest (kN o) i e'.1.1 "NameOrchard" ∈ lw_tbl ∧ Cond.static e'.1.1 ∈ lw_tbl ∧ (parseMethodDescriptor e'.1.1.desc).map (fun d => d.parameters.length) = some z := by
  subst hx
  obtain ⟨g1, g2, -, g4⟩ := mL_word (o := o) (i := i) (x := 3) (y := y) (z := z) h (by omega)
  have e1 := mN_of hmy
  rw [← e1]
  exact ⟨g1, g2, g4⟩
theorem gv_ret (G : Nat → Nat) (o : Option Value) (r : List Value) : (o.map (gv G)).toList ++ r.map (gv G) = (o.toList ++ r).map (gv G) := by cases o <;> rfl
/-- what is proved by hand -/
def okI (K : Cfg) (G : Nat → Nat) (cy : Nat → ClassId) (D : va_G) (L : List Nat) (SF : (Nat → Prop) → State → Heap → Prop) (l : Launch) : Prop := ∀ (d y : Nat) (as : List Value) (S : St) (o : Option Value × St) (e : MI × List (Nat × Xi)), K.2.2 y as S = some o → mX y = some e → MetS K G cy D L SF l d e as S o.1 o.2
theorem metS_call {l : Launch} {n d M : Nat} {as : List Value} {S : St} {o : Option Value × St} {e : MI × List (Nat × Xi)} (hn : RunOK K G cy D L SF l n) (hI : okI K G cy D L SF l) (he : mX M = some e) (hg : GoodE e) (hc : csum as ≤ e.1.2.2.1) (hex : call K (ex K n d M 0 (lv_args 0 as) [] S) M as S = some o) : MetS K G cy D L SF l d e as S o.1 o.2 := by
  unfold call at hex
  split at hex
  · rename_i o' ho
    cases hex
    exact hI d M as S _ e ho he
  · exact metS_of hn he hg hc hex
/-- the two calls of the JDK's that are no run: ordinal, arraycopy -/
def okO (K : Cfg) (G : Nat → Nat) (cy : Nat → ClassId) (D : va_G) (L : List Nat) (SF : (Nat → Prop) → State → Heap → Prop) (l : Launch) : Prop := ∀ (d : Nat) (e : MI × List (Nat × Xi)) (p : Program) (ev : Env) (R : Room) (cells slots : Nat) (s : State) (m : MethodId) (args : Array Value) (below : List Frame) (meth : Method) (c : Code) (H : Heap) (locs : List Loc) (ls : Array Slot) (A : Nat → Prop) (S : St) (b pc i : Nat) (r : List Value) (Q : State → Prop) {y : Nat},
  FrC K G cy D L SF e p s m args meth c A → rfit R d cells slots → va_P D kCl (wl K G cy L S) H → va_S A s.heap H locs → ls.size = e.1.2.2.1 → (y = 1 ∧ ((e.1.2.2.2.2 = 1 ∧ i = 108) ∨ (e.1.2.2.2.2 = 3 ∧ i = 49)) ∧ (K.1 b).1 = 20 ∧ csum r ≤ 8 ∧ 0 < d) → decode e.1.2.1 pc = .ok (.invokevirtual i, 3) →
  W p l ev R s m args below meth c H locs cells slots Q (F0 m (pc + 3) ls ((Value.int (Int32.ofNat (K.1 b).2) :: r).map (gv G))) → W p l ev R s m args below meth c H locs cells slots Q (F0 m pc ls ((Value.ref b :: r).map (gv G)))
def okY (K : Cfg) (G : Nat → Nat) (cy : Nat → ClassId) (D : va_G) (L : List Nat) (SF : (Nat → Prop) → State → Heap → Prop) (l : Launch) : Prop := ∀ (d : Nat) (e : MI × List (Nat × Xi)) (p : Program) (ev : Env) (R : Room) (cells slots : Nat) (s : State) (m : MethodId) (args : Array Value) (below : List Frame) (meth : Method) (c : Code) (H : Heap) (locs : List Loc) (ls : Array Slot) (A : Nat → Prop) (S : St) (cn dp : Int32) (b : Nat) (sp : Int32) (a pc i : Nat) (r : List Value) (Q : State → Prop) {y : Nat},
  FrC K G cy D L SF e p s m args meth c A → rfit R d cells slots → va_P D kCl (wl K G cy L S) H → va_D A (wl K G cy L S) → va_S A s.heap H locs → ls.size = e.1.2.2.1 → (y = 4 ∧ e.1.2.2.2.2 = 7 ∧ i = 37 ∧ (K.1 a).1 = 1 ∧ (K.1 b).1 = 1 ∧ a ≠ b ∧ sp = 0 ∧ dp = 0 ∧ cn = Int32.ofNat (K.1 b).2 ∧ (K.1 a).2 = (K.1 b).2 ∧ (K.1 b).2 < 100000 ∧ csum r ≤ 8 ∧ 0 < d) → decode e.1.2.1 pc = .ok (.invokestatic i, 3) →
  (∀ (H1 : Heap) (locs1 : List Loc), va_P D kCl (wl K G cy L (cpA S a b (K.1 b).2)) H1 → va_S A s.heap H1 locs1 → W p l ev R s m args below meth c H1 locs1 cells slots Q (F0 m (pc + 3) ls (r.map (gv G)))) → W p l ev R s m args below meth c H locs cells slots Q (F0 m pc ls ((Value.int cn :: .int dp :: .ref b :: .int sp :: .ref a :: r).map (gv G)))
theorem loc_ok {a d r : Nat} (h1 : a ≤ 14) (h2 : 64 * (d + 1 + 4) ≤ r) : 8 + (a + 11) + 64 * (d + 4) ≤ r := by
  rw [show d + 1 + 4 = (d + 4) + 1 from Nat.add_right_comm d 1 4] at h2
  generalize d + 4 = k at h2 ⊢
  omega
theorem frm_ok {d r : Nat} (h : d + 1 + 4 ≤ r) : d + 4 + 1 ≤ r := by omega
set_option maxHeartbeats 4000000 in
theorem run_ok {l : Launch} (hF : okF SF) (hT : okT SF G) (hO : okO K G cy D L SF l) (hY : okY K G cy D L SF l) (hI : okI K G cy D L SF l) (hk : okK K L G) (hG : ∀ (M : Nat) (e : MI × List (Nat × Xi)), mX M = some e → GoodE e) : ∀ n, RunOK K G cy D L SF l n := by
  intro n
  induction n with
  | zero =>
    intro d M pc lc st S r S' hex
    simp only [ex] at hex
    cases hex
  | succ n IH =>
    intro d M pc lc st S r S' hex e he p ev R s m args below meth c H locs ls A cells slots Q C0 hP hD hS hl hfit hret
    have hg := hG M e he
    have C1 := C0
    obtain ⟨hcw, hall, hcls, ho, hml14⟩ := hg
    obtain ⟨hx, hb, hr, hml, hown, hlocks, hts, hnw, hK, hA, hSF⟩ := C0
    rw [ex, he] at hex
    simp only at hex
    cases hlk : e.2.lookup pc with
    | none => rw [hlk] at hex; cases hex
    | some q =>
      obtain ⟨ins, len, x, y, z⟩ := q
      rw [hlk] at hex
      have hmem := lookup_mem hlk
      have hchk := List.all_eq_true.mp hall _ hmem
      have hlen' := List.all_eq_true.mp (mX_len he) _ hmem
      have hdec : decode e.1.2.1 pc = .ok (ins, len) := by
        unfold chkI at hchk
        exact of_decide_eq_true (Bool.and_eq_true_iff.mp hchk).1
      have hlen : ilen ins = 0 ∨ len = ilen ins := by simpa [chkL] using hlen'
      clear hlen'
      simp only at hex
      split at hex
      · obtain rfl : len = 1 := by simpa [ilen] using hlen
        obtain rfl := rti_S hex
        exact hret H locs pc ls st .ireturn hdec hex hP hS
      · obtain rfl : len = 1 := by simpa [ilen] using hlen
        obtain rfl := rtl_S hex
        exact hret H locs pc ls st .lreturn hdec hex hP hS
      · obtain rfl : len = 1 := by simpa [ilen] using hlen
        obtain rfl := rta_S hex
        exact hret H locs pc ls st .areturn hdec hex hP hS
      · obtain rfl : len = 1 := by simpa [ilen] using hlen
        obtain rfl := rtv_S hex
        exact hret H locs pc ls st .return_ hdec hex hP hS
      · obtain rfl : len = 3 := by simpa [ilen] using hlen
        split at hex
        · split at hex <;> try (cases hex; done)
          split at hex <;> try (cases hex; done)
          rename_i b r9 hgd
          exact hO _ e p ev R cells slots s m args below meth c H locs ls A S b pc _ r9 _ C1 hfit hP hS hl.1 hgd hdec (IH d M (pc + 3) lc _ S r S' hex e he p ev R s m args below meth c H locs ls A cells slots Q C1 hP hD hS hl hfit hret)
        rename_i hx9
        split at hex <;> try (cases hex; done)
        rename_i b r9 e' d' hdrop hmy
        split at hex <;> try (cases hex; done)
        rename_i hgd
        obtain ⟨hx2, hkb, hcr, hca⟩ := hgd
        split at hex <;> try (cases hex; done)
        rename_i o hcall
        have hg' := hG y e' hmy
        have hM := metS_call IH hI hmy hg' hca hcall H.size
        have hzl : z < st.length := by
          have := congrArg List.length hdrop
          simp only [List.length_drop, List.length_cons] at this
          omega
        have hst : st.map (gv G) = (((st.take z).reverse).map (gv G)).reverse ++ .ref (G b) :: r9.map (gv G) := by
          rw [← List.map_reverse, List.reverse_reverse]
          conv => lhs; rw [← List.take_append_drop z st, hdrop]
          simp [gv]
        have hAs : (((st.take z).reverse).map (gv G)).length = z := by simp; omega
        have hrecv : ∃ cell : Cell, H[G b]? = some cell ∧ cell.vm.isStatics = false ∧ s.vm.findClass (kN e'.1.2.2.2.2) = some cell.cls := by
          rcases hkb with hkb | ⟨h20, h9⟩
          · obtain ⟨q, hq, hwq⟩ := wl_get (K := K) (G := G) (cy := cy) S (hk.1 b (by simp [hkb]))
            have hy13 : e'.1.2.2.2.2 < 13 := by have := hk.2.1 b (by rw [hkb]); rw [hkb] at this; exact this
            have hce : cE K G cy S b = .inr (e'.1.2.2.2.2, fL' K G S b e'.1.2.2.2.2) := by unfold cE; rw [hkb]; rfl
            rw [hce] at hwq
            exact va_recv hK hP (kCl_at _ hy13) hwq
          · obtain ⟨hb9, ht⟩ := hk.2.2.1 b h20
            have hn : (K.1 b).2 < tokNL.length := ht
            obtain ⟨cell, g1, g2, g3, -⟩ := (((hT _ _ _ hSF).1.1 _ hn).2.1).kept hS.2.1
            have e1 : G b = G (1000 + (K.1 b).2) := congrArg G hb9
            rw [h9]
            exact ⟨cell, by rw [e1]; exact g1, g2, g3⟩
        have hW8 : ((r9.map (gv G)).map fun v => v.category).sum ≤ 8 := by have := csum_map G r9; unfold csum at this hcr; omega
        have hloc : 8 + (e'.1.2.2.1 + 11) + (rmd d').locals ≤ R.locals := loc_ok hg'.2.2.2.2 hfit.2.1
        have hini : Cond.initialized e'.1.1.cls ∈ lw_tbl := by rw [hg'.2.2.1]; exact List.mem_of_getElem? (k_init _ hg'.2.2.2.1)
        have hmh := kN_mh _ hg'.2.2.2.1
        rw [← hg'.2.2.1] at hmh
        rw [← hg'.2.2.1] at hrecv
        have hpc := pb_of (e := e) hF C1 hP hD hS (Value.ref (G b) :: ((st.take z).reverse).map (gv G))
        have hA1 := A_of (e := e) (S := S) C1 hS
        rw [hst]
        rcases (show x = 0 ∨ x = 1 by omega) with h0 | h0
        · obtain ⟨w1, w2, w3, w4⟩ := link_0 (o := e.1.2.2.2.2) hmy hg' (ckI_of hchk) h0
          refine w_call (va_runV (C := e'.1.1.cls) (As := ((st.take z).reverse).map (gv G)) (rest := r9.map (gv G)) (nL := e.1.2.2.1) ⟨hx, hb, hml, hown, hts⟩ hM ⟨⟨rfl, rfl, frm_ok hfit.1, hloc, pay_in hts (ws_good hg'), List.mem_cons_self, hts _ (gw_in hg'.1 rfl), hts _ (gw_in hini rfl), hmh, nargs_of w4, hts _ (gw_in w1 rfl)⟩, hts _ (gw_in w2 rfl), hts _ (gw_in w3 rfl)⟩ ⟨pb_blind hF, hrecv, hpc⟩ rfl hAs hl.1 rfl (lv_room hW8) hdec ⟨hfit.2.2.1, hfit.2.2.2⟩) hS (fun q _ h => hA1 q h) hA1 (fun H1 locs1 g1 g3 => ?_)
          rw [gv_ret]
          exact IH (d' + 1) M (pc + 3) lc _ o.2 r S' hex e he p ev R s m args below meth c H1 locs1 ls A cells slots Q C1 g1 (wl_D _ hD) g3 hl hfit hret
        · obtain ⟨w1, w2, w3, w4⟩ := link_1 (o := e.1.2.2.2.2) hmy hg' (ckI_of hchk) h0
          refine w_call (va_runVN (C := e'.1.1.cls) (host := "NameOrchard") (As := ((st.take z).reverse).map (gv G)) (rest := r9.map (gv G)) (nL := e.1.2.2.1) ⟨hx, hb, hml, hown, hts⟩ hM ⟨⟨⟨rfl, rfl, frm_ok hfit.1, hloc, pay_in hts (ws_good hg'), List.mem_cons_self⟩, hts _ (gw_in hg'.1 rfl), hts _ (gw_in hini rfl), hmh, nargs_of w4, va_Nw.use rfl (hnw _ (nw_in w1 rfl))⟩, hts _ (gw_in w2 rfl), hts _ (gw_in w3 rfl)⟩ ⟨pb_blind hF, hrecv, hpc⟩ rfl hAs hl.1 rfl (lv_room hW8) hdec ⟨hfit.2.2.1, hfit.2.2.2⟩) hS (fun q _ h => hA1 q h) hA1 (fun H1 locs1 g1 g3 => ?_)
          rw [gv_ret]
          exact IH (d' + 1) M (pc + 3) lc _ o.2 r S' hex e he p ev R s m args below meth c H1 locs1 ls A cells slots Q C1 g1 (wl_D _ hD) g3 hl hfit hret
      · obtain rfl : len = 3 := by simpa [ilen] using hlen
        split at hex
        · split at hex <;> try (cases hex; done)
          split at hex <;> try (cases hex; done)
          rename_i cn dp b sp a r9 hgd
          exact hY _ e p ev R cells slots s m args below meth c H locs ls A S cn dp b sp a pc _ r9 _ C1 hfit hP hD hS hl.1 hgd hdec (fun H1 locs1 g1 g3 => IH d M (pc + 3) lc r9 _ r S' hex e he p ev R s m args below meth c H1 locs1 ls A cells slots Q C1 g1 (wl_D _ hD) g3 hl hfit hret)
        rename_i hx9
        split at hex <;> try (cases hex; done)
        rename_i e' d' hmy
        split at hex <;> try (cases hex; done)
        rename_i hgd
        obtain ⟨hx1, hx4, hzl, hcr, hca⟩ := hgd
        split at hex <;> try (cases hex; done)
        rename_i o hcall
        have hg' := hG y e' hmy
        have hM := metS_call IH hI hmy hg' hca hcall H.size
        have hst : st.map (gv G) = (((st.take z).reverse).map (gv G)).reverse ++ (st.drop z).map (gv G) := by
          rw [← List.map_reverse, List.reverse_reverse, ← List.map_append, List.take_append_drop]
        have hAs : (((st.take z).reverse).map (gv G)).length = z := by simp; omega
        have hW8 : (((st.drop z).map (gv G)).map fun v => v.category).sum ≤ 8 := by have := csum_map G (st.drop z); unfold csum at this hcr; omega
        have hloc : 8 + (e'.1.2.2.1 + 11) + (rmd d').locals ≤ R.locals := loc_ok hg'.2.2.2.2 hfit.2.1
        have hini : Cond.initialized e'.1.1.cls ∈ lw_tbl := by rw [hg'.2.2.1]; exact List.mem_of_getElem? (k_init _ hg'.2.2.2.1)
        have hmh := kN_mh _ hg'.2.2.2.1
        rw [← hg'.2.2.1] at hmh
        have hpc := pb_of (e := e) hF C1 hP hD hS (((st.take z).reverse).map (gv G))
        have hA1 := A_of (e := e) (S := S) C1 hS
        rw [hst]
        rcases (show x = 2 ∨ x = 3 by omega) with h0 | h0
        · obtain ⟨w1, w2, w4⟩ := link_2 (o := e.1.2.2.2.2) hmy hg' (ckI_of hchk) h0
          refine w_call (va_runS (As := ((st.take z).reverse).map (gv G)) (rest := (st.drop z).map (gv G)) (nL := e.1.2.2.1) ⟨hx, hb, hml, hown, hts⟩ hM ⟨⟨rfl, rfl, frm_ok hfit.1, hloc, pay_in hts (ws_good hg'), List.mem_cons_self, hts _ (gw_in hg'.1 rfl), hts _ (gw_in hini rfl), hmh, nargs_of w4, hts _ (gw_in w1 rfl)⟩, hts _ (gw_in w2 rfl)⟩ ⟨pb_blind hF, hpc⟩ rfl hAs hl.1 rfl (lv_room hW8) hdec ⟨hfit.2.2.1, hfit.2.2.2⟩) hS (fun q _ h => hA1 q h) hA1 (fun H1 locs1 g1 g3 => ?_)
          rw [gv_ret]
          exact IH (d' + 1) M (pc + 3) lc _ o.2 r S' hex e he p ev R s m args below meth c H1 locs1 ls A cells slots Q C1 g1 (wl_D _ hD) g3 hl hfit hret
        · obtain ⟨w1, w2, w4⟩ := link_3 (o := e.1.2.2.2.2) hmy hg' (ckI_of hchk) h0
          refine w_call (va_runSN (host := "NameOrchard") (As := ((st.take z).reverse).map (gv G)) (rest := (st.drop z).map (gv G)) (nL := e.1.2.2.1) ⟨hx, hb, hml, hown, hts⟩ hM ⟨⟨⟨rfl, rfl, frm_ok hfit.1, hloc, pay_in hts (ws_good hg'), List.mem_cons_self⟩, hts _ (gw_in hg'.1 rfl), hts _ (gw_in hini rfl), hmh, nargs_of w4, va_Nw.use rfl (hnw _ (nw_in w1 rfl))⟩, hts _ (gw_in w2 rfl), trivial⟩ ⟨pb_blind hF, hpc⟩ rfl hAs hl.1 rfl (lv_room hW8) hdec ⟨hfit.2.2.1, hfit.2.2.2⟩) hS (fun q _ h => hA1 q h) hA1 (fun H1 locs1 g1 g3 => ?_)
          rw [gv_ret]
          exact IH (d' + 1) M (pc + 3) lc _ o.2 r S' hex e he p ev R s m args below meth c H1 locs1 ls A cells slots Q C1 g1 (wl_D _ hD) g3 hl hfit hret
      · split at hex <;> try (cases hex; done)
        rename_i q hq
        obtain ⟨pc', lc', st', S1⟩ := q
        exact sx_ok hx hb hts hnw hown hK (hT _ _ _ hSF) hP hD hS hk hdec hlen hchk hq hl (fun H1 locs1 ls1 g1 g2 g3 g4 => IH d M pc' lc' st' S1 r S' hex e he p ev R s m args below meth c H1 locs1 ls1 A cells slots Q C1 g1 g2 g3 g4 hfit hret)
end RUN
