/-! The JDK's methods that ofSign calls: String.length, String.charAt, and what they call. -/
def yLen : MethodName := ⟨"java/lang/String", "length", "()I"⟩
def yCod : MethodName := ⟨"java/lang/String", "coder", "()B"⟩
def yChr : MethodName := ⟨"java/lang/String", "charAt", "(I)C"⟩
def yLat : MethodName := ⟨"java/lang/String", "isLatin1", "()Z"⟩
def yLCh : MethodName := ⟨"java/lang/StringLatin1", "charAt", "([BI)C"⟩
def yChk : MethodName := ⟨"java/lang/String", "checkIndex", "(II)V"⟩
def yPre : MethodName := ⟨"jdk/internal/util/Preconditions", "checkIndex", "(IILjava/util/function/BiFunction;)I"⟩
/-- a text, by its cell, its bytes' cell, their number, the bytes -/
def SX (q b n : Nat) (f : Nat → Int32) (A : Nat → Prop) (U : State) (H : Heap) : Prop :=
  va_O "java/lang/String" q A U H ∧ va_OF "java/lang/String" "coder" "B" (.int 0) q A U H ∧ va_OF "java/lang/String" "value" "[B" (.ref b) q A U H ∧ va_T .byte b n (fun j => .int (f j)) A U H ∧ va_Z "java/lang/String" "COMPACT_STRINGS" "Z" (.int 1) A U H ∧ va_Zq "jdk/internal/util/Preconditions" "SIOOBE_FORMATTER" "Ljava/util/function/BiFunction;" A U H
theorem SX.moved {q b n : Nat} {f : Nat → Int32} {A : Nat → Prop} {u U : State} {H : Heap} (hvm : u.vm.Alike U.vm) (h : SX q b n f A u H) : SX q b n f A U H :=
  ⟨va_O.moved hvm h.1, va_OF.moved hvm h.2.1, va_OF.moved hvm h.2.2.1, va_T.moved hvm h.2.2.2.1, va_Z.moved hvm h.2.2.2.2.1, va_Zq.moved hvm h.2.2.2.2.2⟩
theorem SX.kept {q b n : Nat} {f : Nat → Int32} {A : Nat → Prop} {U : State} {H H1 : Heap} (h : SX q b n f A U H) (hq : ∀ a : Nat, a < H.size → ¬ A a → H1[a]? = H[a]?) : SX q b n f A U H1 :=
  ⟨h.1.kept hq, h.2.1.kept hq, h.2.2.1.kept hq, h.2.2.2.1.kept hq, h.2.2.2.2.1.kept hq, h.2.2.2.2.2.kept hq⟩
theorem SX.narrow {q b n : Nat} {f : Nat → Int32} {A B : Nat → Prop} {U : State} {H : Heap} (h : SX q b n f A U H) (hAB : ∀ q, B q → A q) : SX q b n f B U H :=
  ⟨h.1.narrow hAB, h.2.1.narrow hAB, h.2.2.1.narrow hAB, h.2.2.2.1.narrow hAB, h.2.2.2.2.1.narrow hAB, h.2.2.2.2.2.narrow hAB⟩
def PX (as : List Value) (q b n : Nat) (f : Nat → Int32) : Array Value → State → Prop := va_Pc as (fun U => SX q b n f (fun _ => False) U U.heap)
theorem px_blind {as : List Value} {q b n : Nat} {f : Nat → Int32} : FrameBlind (PX as q b n f) := fun a U g mk h => ⟨h.1, SX.moved (u := U) (U := U.calling g mk a) (Vm.Alike.refl U.vm) h.2⟩
def QX (oc : Option Value) : Array Value → State → Outcome → State → Prop := fun _ st o t => o = .returned oc ∧ t.heap = st.heap
def rX (d : Nat) : Room := { frames := d, cells := 0, slots := 0, locals := 64 * d }
theorem w_callX {l : Launch} {p : Program} {ev : Env} {R : Room} {s : State} {m : MethodId} {args : Array Value} {below : List Frame} {meth : Method} {c : Code} {H : Heap} {locs : List Loc} {cells slots : Nat} {Q : State → Prop} {pc : Nat} {ls : Array Slot} {rest st0 : List Value} {a : Array Value} {oc : Option Value}
    (hr : va_Run p l ev R s m args below meth c H locs cells slots 0 0 (F0 m pc ls st0) rest (QX oc a) (fun _ => False)) (kk : W p l ev R s m args below meth c H locs cells slots Q (F0 m (pc + 3) ls (oc.toList ++ rest))) : W p l ev R s m args below meth c H locs cells slots Q (F0 m pc ls st0) := by
  intro T hT X
  obtain ⟨v, st₀, t, T', L, h0, X', hL, e1, e2, ⟨hv, hh⟩, st⟩ := hr T hT X
  cases hv
  have hLn : L = [] := by
    cases L with
    | nil => rfl
    | cons x l => exact (hL x List.mem_cons_self).elim
  subst hLn
  rw [List.append_nil] at X'
  obtain ⟨t2, a1, b1⟩ := kk T' (by rw [e1, hh, h0]) X'
  exact ⟨t2, st t2 a1, b1⟩
set_option maxRecDepth 100000 in
theorem tx_ws : (lw_tbl[781]? = some (Cond.code yLen prog_24_method_54_code 1 (some .int)) ∧ lw_tbl[785]? = some (Cond.code yCod prog_24_method_152_code 1 (some .byte)) ∧ lw_tbl[791]? = some (Cond.code yChr prog_24_method_56_code 2 (some .char)) ∧ lw_tbl[795]? = some (Cond.code yLat prog_24_method_154_code 1 (some .boolean)) ∧ lw_tbl[798]? = some (Cond.code yLCh prog_25_method_2_code 2 (some .char)) ∧ lw_tbl[801]? = some (Cond.code yChk prog_24_method_155_code 2 none) ∧ lw_tbl[806]? = some (Cond.code yPre prog_33_method_11_code 3 (some .int)))
  ∧ (lw_tbl[782]? = some (Cond.methodLink "java/lang/String" 335 yCod) ∧ lw_tbl[783]? = some (Cond.instanceMethod yCod) ∧ lw_tbl[784]? = some (Cond.selects "java/lang/String" yCod yCod) ∧ lw_tbl[792]? = some (Cond.methodLink "java/lang/String" 492 yLat) ∧ lw_tbl[793]? = some (Cond.instanceMethod yLat) ∧ lw_tbl[794]? = some (Cond.selects "java/lang/String" yLat yLat) ∧ lw_tbl[796]? = some (Cond.methodLink "java/lang/String" 495 yLCh) ∧ lw_tbl[797]? = some (Cond.static yLCh) ∧ lw_tbl[799]? = some (Cond.methodLink "java/lang/StringLatin1" 9 yChk) ∧ lw_tbl[800]? = some (Cond.static yChk) ∧ lw_tbl[804]? = some (Cond.methodLink "java/lang/String" 1059 yPre) ∧ lw_tbl[805]? = some (Cond.static yPre))
  ∧ (lw_tbl[786]? = some (Cond.fieldLink "java/lang/String" 38 "java/lang/String" "COMPACT_STRINGS" "Z") ∧ lw_tbl[802]? = some (Cond.fieldLink "java/lang/String" 1053 "jdk/internal/util/Preconditions" "SIOOBE_FORMATTER" "Ljava/util/function/BiFunction;") ∧ lw_tbl[2267]? = some (Cond.fieldLink "java/lang/String" 9 "java/lang/String" "value" "[B") ∧ lw_tbl[2268]? = some (Cond.fieldLink "java/lang/String" 15 "java/lang/String" "coder" "B"))
  ∧ (lw_tbl[211]? = some (Cond.initialized "java/lang/String") ∧ lw_tbl[212]? = some (Cond.initialized "java/lang/StringLatin1") ∧ lw_tbl[213]? = some (Cond.initialized "jdk/internal/util/Preconditions")) := by decide +kernel
theorem tx_g {w : Cond} {i : Nat} (h : lw_tbl[i]? = some w) (hg : goodWord w = true) : w ∈ gw := gw_in (List.mem_of_getElem? h) hg
theorem tx_good {y : MethodName} {bc : ByteArray} {k : Nat} {r : Option FieldType} {i : Nat} (h : lw_tbl[i]? = some (Cond.code y bc k r)) : GoodIn gw (Cond.code y bc k r :: gw) := by
  intro w hw
  rcases List.mem_cons.mp hw with rfl | h'
  · exact ⟨tx_g h rfl, good_of_word rfl⟩
  · exact gw_good w h'
/-- what a frame of such a method has -/
def FX (cc : ByteArray) (ret : Option FieldType) (own : String) (nL : Nat) (p : Program) (s : State) (m : MethodId) (args : Array Value) (meth : Method) (c : Code) : Prop := p.tables.exec = Jvm.exec ∧ c.code = cc ∧ meth.sig.returnType = ret ∧ c.maxLocals = nL ∧ s.vm.findClass own = some m.cls ∧ meth.locks = false ∧ (∀ w ∈ gw, w.before args s = true)
theorem metX {l : Launch} {y : MethodName} {cc : ByteArray} {maxL : Nat} {ret : Option FieldType} {R : Room} {as : List Value} {B : State → Prop} {Qc : Array Value → State → Outcome → State → Prop} (hp : plainFor y = true) (hc : csum as ≤ maxL)
    (body : ∀ (p : Program) (ev : Env) (s : State) (m : MethodId) (below : List Frame) (meth : Method) (c : Code) (ls : Array Slot), FX cc ret y.cls maxL p s m as.toArray meth c → lv_has ls maxL (lv_args 0 as) → B s → W p l ev R s m as.toArray below meth c s.heap [] 0 0 (MQ below Qc as.toArray s 0 0 (fun _ => False)) (F0 m 0 ls [])) :
    Met l y (Cond.code y cc maxL ret :: gw) R (va_Pc as B) Qc 0 0 (fun _ => False) := by
  refine va_MetF (cc := cc) (maxL := maxL) (ret := ret) hp rfl ?_
  intro p ev s m args below meth c s₁ B' hml hv
  obtain ⟨rfl, hB⟩ := hv
  have hts0 := atoms_spec (ws := Cond.code y cc maxL ret :: gw) B'.pre
  have hl := lv_entry as (n := maxL) (by rw [csum_sl]; exact hc)
  rw [lg_entry_eq]
  generalize (lg_sl as ++ List.replicate (maxL - (lg_sl as).length) Slot.unset).toArray = ls at hl ⊢
  exact body p ev s m below meth c ls ⟨B'.exec, B'.bytes, B'.returns, hml, findClass_of_methodNamed B'.named, B'.notSynchronized, fun w h => hts0 w (List.mem_cons_of_mem _ h)⟩ hl hB
theorem s0 {s : State} : va_S (fun _ => False) s.heap s.heap [] := va_S.rf
/-- coder() -/
theorem c_cod (l : Launch) (q b n : Nat) (f : Nat → Int32) (d : Nat) : Met l yCod (Cond.code yCod prog_24_method_152_code 1 (some .byte) :: gw) (rX d) (PX [.ref q] q b n f) (QX (some (.int 0))) 0 0 (fun _ => False) := by
  refine metX (by decide +kernel) (Nat.le_of_ble_eq_true rfl) fun p ev s m below meth c ls C0 hl hB => ?_
  obtain ⟨hx, hb, hr, hml, hown, hlocks, hts⟩ := C0
  obtain ⟨-, hcod, hval, hbyt, hcs, hzq⟩ := hB
  refine va_gets hx hb hcs s0 hown (hts _ (tx_g tx_ws.2.2.1.1 rfl)) (fun _ h => h) (by decide +kernel : decode prog_24_method_152_code 0 = .ok (.getstatic 38, 3)) ?_
  refine lv_if_eq hx hb (by decide +kernel : decode prog_24_method_152_code 3 = .ok (.ifCond .eq 10, 3)) (tgt := 13) (by decide) (fun h => absurd h (by decide)) (fun _ => ?_)
  refine lv_aload_n hx hb (by decide +kernel : decode prog_24_method_152_code 6 = .ok (.aload_n 0, 1)) rfl (lv_at hl 0 rfl) ?_
  refine vk_getf hx hb hcod s0 hown (hts _ (tx_g tx_ws.2.2.1.2.2.2 rfl)) (fun _ h => h) (by decide +kernel : decode prog_24_method_152_code 7 = .ok (.getfield 15, 3)) ?_
  refine lv_goto hx hb (by decide +kernel : decode prog_24_method_152_code 10 = .ok (.goto 4, 3)) (tgt := 14) (by decide) ?_
  exact W.zret hx hb hr rfl (fun t ht _ => ⟨rfl, ht⟩) (fun q h => by cases h) (by decide +kernel : decode prog_24_method_152_code 14 = .ok (.ireturn, 1)) hlocks
