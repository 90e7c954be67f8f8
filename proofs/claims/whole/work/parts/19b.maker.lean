/-! A run of 'exA' is one of the machine. -/
section MAKER
variable {K : Cfg} {G : Nat → Nat} {cy : Nat → ClassId} {D : va_G} {SF : (Nat → Prop) → State → Heap → Prop} {al : List Nat} {base sM sp : Nat}
/-- what a constructor's frame knows -/
def FrA (G : Nat → Nat) (cy : Nat → ClassId) (D : va_G) (SF : (Nat → Prop) → State → Heap → Prop) (base : Nat) (e : MI × List (Nat × Xi)) (p : Program) (s : State) (m : MethodId) (args : Array Value) (meth : Method) (c : Code) (k0 : Nat) : Prop :=
  p.tables.exec = Jvm.exec ∧ c.code = e.1.2.1 ∧ meth.sig.returnType = e.1.2.2.2.1 ∧ c.maxLocals = e.1.2.2.1 ∧ s.vm.findClass (kN e.1.2.2.2.2) = some m.cls ∧ meth.locks = false ∧ meth.name = e.1.1.name ∧ (∀ w ∈ gw, w.before args s = true) ∧ (∀ w ∈ nw, va_Nw w s) ∧ va_K D kCl (tysL cy) s ∧ (∀ t, 5 ≤ t → t < 8 → va_AO (arK t) s) ∧ SF (fun q => base ≤ q) s s.heap ∧ s.heap.size = base + k0
def PA (K : Cfg) (G : Nat → Nat) (cy : Nat → ClassId) (D : va_G) (SF : (Nat → Prop) → State → Heap → Prop) (al : List Nat) (base k : Nat) (S : St) (U : State) : Prop :=
  U.heap.size = base + k ∧ va_P D kCl (wl (KA K al k) G cy (al.take k) S) U.heap ∧ va_K D kCl (tysL cy) U ∧ (∀ w ∈ nw, va_Nw w U) ∧ (∀ t, 5 ≤ t → t < 8 → va_AO (arK t) U) ∧ SF (fun q => base ≤ q) U U.heap
def QA (K : Cfg) (G : Nat → Nat) (cy : Nat → ClassId) (D : va_G) (al : List Nat) (base k : Nat) (S : St) : Array Value → State → Outcome → State → Prop := fun _ st oc t => oc = .returned none ∧ va_P D kCl (wl (KA K al k) G cy (al.take k) S) t.heap ∧ va_F (fun q => base ≤ q) st t
/-- a constructor's contract -/
def MetA (K : Cfg) (G : Nat → Nat) (cy : Nat → ClassId) (D : va_G) (SF : (Nat → Prop) → State → Heap → Prop) (al : List Nat) (base : Nat) (l : Launch) (d : Nat) (e : MI × List (Nat × Xi)) (as : List Value) (k : Nat) (S : St) (k1 : Nat) (S1 : St) : Prop :=
  Met l e.1.1 (Cond.code e.1.1 e.1.2.1 e.1.2.2.1 e.1.2.2.2.1 :: gw) { frames := d + 4, cells := k1 - k, slots := slA K al k1 - slA K al k, locals := 64 * (d + 4) } (va_Pc (as.map (gv G)) (PA K G cy D SF al base k S)) (QA K G cy D al base k1 S1) (k1 - k) (slA K al k1 - slA K al k) (fun q => base ≤ q)
/-- where a run of exA ends -/
def EndA (sM sp M : Nat) (e : MI × List (Nat × Xi)) (o : Ea) : Prop := (M = sM ∧ o.2.1 = sp) ∨ (decode e.1.2.1 o.2.1 = .ok (.return_, 1) ∧ o.2.2.2.1 = [] ∧ e.1.2.2.2.1 = none)
def RunA (K : Cfg) (G : Nat → Nat) (cy : Nat → ClassId) (D : va_G) (SF : (Nat → Prop) → State → Heap → Prop) (al : List Nat) (base sM sp : Nat) (l : Launch) (n : Nat) : Prop :=
  ∀ (d M k pc : Nat) (lc : Lc) (st : List Value) (S : St) (o : Ea), exA K al sM sp n d M k pc lc st S = some o → ∀ e : MI × List (Nat × Xi), mX M = some e →
  ∀ (p : Program) (ev : Env) (R : Room) (s : State) (m : MethodId) (args : Array Value) (below : List Frame) (meth : Method) (c : Code) (H : Heap) (locs : List Loc) (ls : Array Slot) (k0 : Nat) (Q : State → Prop),
  FrA G cy D SF base e p s m args meth c k0 → k0 ≤ k → k ≤ al.length → va_P D kCl (wl (KA K al k) G cy (al.take k) S) H → va_S (fun q => base ≤ q) s.heap H locs → lv_has ls e.1.2.2.1 (gl G lc) → rfit R d (o.1 - k0) (slA K al o.1 - slA K al k0) →
  (∀ (H1 : Heap) (locs1 : List Loc) (ls1 : Array Slot), EndA sM sp M e o → va_P D kCl (wl (KA K al o.1) G cy (al.take o.1) o.2.2.2.2) H1 → va_S (fun q => base ≤ q) s.heap H1 locs1 → lv_has ls1 e.1.2.2.1 (gl G o.2.2.1) → W p l ev R s m args below meth c H1 locs1 (o.1 - k0) (slA K al o.1 - slA K al k0) Q (F0 m o.2.1 ls1 (o.2.2.2.1.map (gv G)))) →
  W p l ev R s m args below meth c H locs (k - k0) (slA K al k - slA K al k0) Q (F0 m pc ls (st.map (gv G)))
theorem a_size {k k0 : Nat} {S : St} {s : State} {H : Heap} (hA : okA K al G base) (hk : k ≤ al.length) (hk0 : k0 ≤ k) (hP : va_P D kCl (wl (KA K al k) G cy (al.take k) S) H) (hs : s.heap.size = base + k0) (hS : s.heap.size ≤ H.size) (hu : H.size ≤ s.heap.size + (k - k0)) : H.size = base + k := by
  have hlo : base + k ≤ H.size := by
    rcases Nat.eq_zero_or_pos k with h0 | h0
    · omega
    · have hl : k - 1 < (al.take k).length := by rw [List.length_take]; omega
      have hg : (al.take k)[k - 1]? = some (al.take k)[k - 1] := List.getElem?_eq_getElem hl
      have e1 := hA.2.2.2.1 (k - 1) _ (tk_at hg).1
      have hw : (wl (KA K al k) G cy (al.take k) S)[k - 1]? = some (G (al.take k)[k - 1], cE (KA K al k) G cy S (al.take k)[k - 1]) := by
        unfold wl
        rw [List.getElem?_map, hg]
        rfl
      have := (hP (k - 1) _ hw).lt
      simp only [e1] at this
      omega
  omega
theorem pa_blind (hF : okF SF) {S : St} {as : List Value} {k : Nat} : FrameBlind (va_Pc as (PA K G cy D SF al base k S)) := by
  intro a U g mk h
  obtain ⟨h0, h1, h2, h3, h4, h5, h6⟩ := h
  have hv : U.vm = (U.calling g mk a).vm := rfl
  exact ⟨h0, h1, h2, va_K.moved (u := U) (U := U.calling g mk a) (Vm.Alike.refl U.vm) h3, fun w hw => nw_blind hw hv (h4 w hw), fun t g1 g2 => va_AO.moved (u := U) (U := U.calling g mk a) (Vm.Alike.refl U.vm) (h5 t g1 g2), hF.1 _ U (U.calling g mk a) _ (Vm.Alike.refl U.vm) h6⟩
theorem metA_of {l : Launch} {n d M k : Nat} {as : List Value} {S : St} {o : Ea} {e : MI × List (Nat × Xi)} (hn : RunA K G cy D SF al base sM sp l n) (he : mX M = some e) (hg : GoodE e) (hM : M ≠ sM) (hk : k ≤ al.length) (hc : csum as ≤ e.1.2.2.1) (hex : exA K al sM sp n d M k 0 (lv_args 0 as) [] S = some o) : MetA K G cy D SF al base l d e as k S o.1 o.2.2.2.2 := by
  obtain ⟨hcw, -, hcls, ho, -⟩ := hg
  refine va_MetF (cc := e.1.2.1) (maxL := e.1.2.2.1) (ret := e.1.2.2.2.1) (mX_plain he) rfl ?_
  intro p ev s m args below meth c s₁ B hml hv
  obtain ⟨rfl, hsz, hP, hK, hnw, hao, hSF⟩ := hv
  have hts0 := atoms_spec (ws := Cond.code e.1.1 e.1.2.1 e.1.2.2.1 e.1.2.2.2.1 :: gw) B.pre
  have hts : ∀ w ∈ gw, w.before ((as.map (gv G)).toArray) s = true := fun w h => hts0 w (List.mem_cons_of_mem _ h)
  have hown : s.vm.findClass (kN e.1.2.2.2.2) = some m.cls := by rw [← hcls]; exact findClass_of_methodNamed B.named
  have hnm : meth.name = e.1.1.name := (name_of_methodNamed B.named B.method).1
  have hlen : (lg_sl (as.map (gv G))).length ≤ e.1.2.2.1 := by rw [csum_sl, csum_map]; exact hc
  have hl := lv_entry (as.map (gv G)) (n := e.1.2.2.1) hlen
  rw [lg_entry_eq]
  generalize (lg_sl (as.map (gv G)) ++ List.replicate (e.1.2.2.1 - (lg_sl (as.map (gv G))).length) Slot.unset).toArray = ls at hl ⊢
  rw [← gl_args] at hl
  have key := hn d M k 0 _ [] S o hex e he p ev { frames := d + 4, cells := o.1 - k, slots := slA K al o.1 - slA K al k, locals := 64 * (d + 4) } s m _ below meth c s.heap [] ls k (MQ below (QA K G cy D al base o.1 o.2.2.2.2) ((as.map (gv G)).toArray) s (o.1 - k) (slA K al o.1 - slA K al k) (fun q => base ≤ q)) ⟨B.exec, B.bytes, B.returns, hml, hown, B.notSynchronized, hnm, hts, hnw, hK, hao, hSF, hsz⟩ (Nat.le_refl _) hk hP va_S.rf hl ⟨Nat.le_refl _, Nat.le_refl _, Nat.le_refl _, Nat.le_refl _⟩ (fun H1 locs1 ls1 hend g1 g2 g3 => by
    rcases hend with ⟨q, -⟩ | ⟨q1, q2, q3⟩
    · exact absurd q hM
    · rw [q2]
      exact W.vret B.exec B.bytes (B.returns.trans q3) (fun t ht hW => ⟨rfl, by rw [ht]; exact g1, g2.F ht⟩) g2.2.2 q1 B.notSynchronized)
  rw [Nat.sub_self, Nat.sub_self] at key
  exact key
theorem w_callA {l : Launch} {p : Program} {ev : Env} {R : Room} {s : State} {m : MethodId} {args : Array Value} {below : List Frame} {meth : Method} {c : Code} {H : Heap} {locs : List Loc} {cells slots mc ms : Nat} {Q : State → Prop} {pc : Nat} {ls : Array Slot} {rest st0 : List Value} {a : Array Value} {k1 : Nat} {S1 : St}
    (hr : va_Run p l ev R s m args below meth c H locs cells slots mc ms (F0 m pc ls st0) rest (QA K G cy D al base k1 S1 a) (fun q => base ≤ q)) (hS : va_S (fun q => base ≤ q) s.heap H locs)
    (kk : ∀ (H1 : Heap) (locs1 : List Loc), va_P D kCl (wl (KA K al k1) G cy (al.take k1) S1) H1 → va_S (fun q => base ≤ q) s.heap H1 locs1 → W p l ev R s m args below meth c H1 locs1 (cells + mc) (slots + ms) Q (F0 m (pc + 3) ls rest)) : W p l ev R s m args below meth c H locs cells slots Q (F0 m pc ls st0) := by
  intro T hT X
  obtain ⟨v, st₀, t, T', L9, h0, X', hL, e1, e2, ⟨hv, hp, hz, hk⟩, st⟩ := hr T hT X
  cases hv
  rw [h0] at hz hk
  obtain ⟨t2, a1, b1⟩ := kk T'.heap (locs ++ L9) (by rw [e1]; exact hp)
    ⟨Nat.le_trans hS.1 (by rw [e1]; exact hz), fun q h1 h2 => by rw [e1, hk q (Nat.lt_of_lt_of_le h1 hS.1) h2]; exact hS.2.1 q h1 h2, fun q hq => by
      rcases List.mem_append.mp hq with h | h
      · exact hS.2.2 q h
      · exact hL q h⟩ T' rfl X'
  exact ⟨t2, st t2 a1, b1⟩
theorem clr_def {S : St} {a c z : Nat} {k : Nat} (hc : c < 13) (hz : z < kF c) : defaultValue (kY c z) = gv G (fget (KA K al k) (clr S a) a c z) := by
  unfold fget
  rcases k_tag c hc z hz with ⟨h, e⟩ | ⟨h, e⟩ | ⟨h, e⟩ | ⟨h, ⟨t, e⟩ | ⟨t, e⟩⟩ <;> rw [h, e] <;> simp [defaultValue, gv, rI, rJ, rQ, clr, KA, qv]
theorem new_ok {l : Launch} {p : Program} {ev : Env} {R : Room} {s : State} {m : MethodId} {args : Array Value} {below : List Frame} {meth : Method} {c : Code} {H : Heap} {locs : List Loc} {ls : Array Slot} {k k0 i a ci pc : Nat} {S : St} {stk : List Value} {Q : State → Prop} {e : MI × List (Nat × Xi)} (hA : okA K al G base) (C0 : FrA G cy D SF base e p s m args meth c k0) (hk0 : k0 ≤ k)
    (hP : va_P D kCl (wl (KA K al k) G cy (al.take k) S) H) (hS : va_S (fun q => base ≤ q) s.heap H locs) (hz : H.size = base + k) (ha : al[k]? = some a) (hka : K.1 a = (0, ci)) (hci : ci < 13) (w1 : Cond.classLink (kN e.1.2.2.2.2) i (kN ci) ∈ lw_tbl) (w2 : Cond.instantiable (kN ci) (kF ci) ∈ lw_tbl) (hr1 : k + 1 - k0 ≤ R.cells) (hr2 : slA K al (k + 1) - slA K al k0 ≤ R.slots) (hdec : decode e.1.2.1 pc = .ok (.new i, 3))
    (kk : ∀ (H1 : Heap) (locs1 : List Loc), va_P D kCl (wl (KA K al (k + 1)) G cy (al.take (k + 1)) (clr S a)) H1 → va_S (fun q => base ≤ q) s.heap H1 locs1 → W p l ev R s m args below meth c H1 locs1 (k + 1 - k0) (slA K al (k + 1) - slA K al k0) Q (F0 m (pc + 3) ls (.ref (G a) :: stk))) :
    W p l ev R s m args below meth c H locs (k - k0) (slA K al k - slA K al k0) Q (F0 m pc ls stk) := by
  obtain ⟨hx, hb, hr, hml, hown, hlocks, hnm, hts, hnw, hK, hao, hSF, hsz⟩ := C0
  have hGa : G a = base + k := hA.2.2.2.1 k a ha
  have hKn := hK.1 ci _ (kCl_at ci hci)
  have e1 : k - k0 + 1 = k + 1 - k0 := by omega
  have hsl := sl_push (K := K) ha
  rw [hka] at hsl
  have hsn : slN (0, ci) = kF ci := rfl
  have hm0 := sl_mono (K := K) (al := al) hk0
  have e2 : slA K al k - slA K al k0 + kF ci = slA K al (k + 1) - slA K al k0 := by omega
  refine W.newcK hx hb hown (hts _ (gw_in w1 rfl)) (hts _ (gw_in w2 rfl)) (hts _ (gw_in (List.mem_of_getElem? (k_init ci (by omega))) rfl)) rfl hdec (by omega) (by omega) hKn.2.1 (hz.trans hGa.symm) fun H1 kC hkC g1 z1 o1 => ?_
  rw [e1, e2]
  refine kk H1 locs (a_push hA ha hP (fun q hq => o1 q (by omega)) ?_) ⟨Nat.le_trans hS.1 (by omega), fun q h1 h2 => (o1 q (by have := hS.1; omega)).trans (hS.2.1 q h1 h2), hS.2.2⟩
  have hka' : (KA K al (k + 1)).1 a = (0, ci) := by
    rw [KA_in, hka]
    rw [List.take_add_one, ha]
    exact List.mem_append_right _ List.mem_cons_self
  have hce : cE (KA K al (k + 1)) G cy (clr S a) a = .inr (ci, fL' (KA K al (k + 1)) G (clr S a) a ci) := by unfold cE; rw [hka']; rfl
  rw [hce]
  refine ⟨_, kCl_at ci hci, (u_born (kY ci) hts (k_ws ci hci) hKn hkC g1 (k_ty ci hci)).to fun j hj => ?_⟩
  unfold vp_V
  rw [List.getD_eq_getElem?_getD]
  unfold fL'
  rw [rngmap _ hj]
  exact clr_def hci hj
theorem ar_cy {s : State} {cA : ClassId} {t : Nat} {ty : FieldType} (hK : va_K D kCl (tysL cy) s) (ht : (tysL cy)[t]? = some (cy (t + 1), ty)) (hp : va_RA s (cy (t + 1)) ty = (s.vm.findClass ("[" ++ ty.toString) = some (cy (t + 1)))) (h : s.vm.findClass ("[" ++ ty.toString) = some cA) : cA = cy (t + 1) := by
  have h1 := (hK.2 t _ ht).2
  rw [hp] at h1
  exact Option.some.inj (h.symm.trans h1)
theorem newa_ok {l : Launch} {p : Program} {ev : Env} {R : Room} {s : State} {m : MethodId} {args : Array Value} {below : List Frame} {meth : Method} {c : Code} {H : Heap} {locs : List Loc} {ls : Array Slot} {k k0 a pc : Nat} {S : St} {stk : List Value} {Q : State → Prop} {e : MI × List (Nat × Xi)} {t : ArrayType} {v : Int32} (hA : okA K al G base) (C0 : FrA G cy D SF base e p s m args meth c k0) (hk0 : k0 ≤ k)
    (hP : va_P D kCl (wl (KA K al k) G cy (al.take k) S) H) (hS : va_S (fun q => base ≤ q) s.heap H locs) (hz : H.size = base + k) (ha : al[k]? = some a) (hv : ¬ v < 0) (hka : K.1 a = (atK t, v.toNatClampNeg)) (ht : atK t < 5) (hn : v.toNatClampNeg ≤ 100000) (hr1 : k + 1 - k0 ≤ R.cells) (hr2 : slA K al (k + 1) - slA K al k0 ≤ R.slots) (hdec : decode e.1.2.1 pc = .ok (.newarray t, 2))
    (kk : ∀ (H1 : Heap) (locs1 : List Loc), va_P D kCl (wl (KA K al (k + 1)) G cy (al.take (k + 1)) (clr S a)) H1 → va_S (fun q => base ≤ q) s.heap H1 locs1 → W p l ev R s m args below meth c H1 locs1 (k + 1 - k0) (slA K al (k + 1) - slA K al k0) Q (F0 m (pc + 2) ls (.ref (G a) :: stk))) :
    W p l ev R s m args below meth c H locs (k - k0) (slA K al k - slA K al k0) Q (F0 m pc ls (.int v :: stk)) := by
  obtain ⟨hx, hb, hr, hml, hown, hlocks, hnm, hts, hnw, hK, hao, hSF, hsz⟩ := C0
  have hGa : G a = base + k := hA.2.2.2.1 k a ha
  have e1 : k - k0 + 1 = k + 1 - k0 := by omega
  have hsl := sl_push (K := K) ha
  rw [hka] at hsl
  have hm0 := sl_mono (K := K) (al := al) hk0
  have hka' : (KA K al (k + 1)).1 a = (atK t, v.toNatClampNeg) := by
    rw [KA_in, hka]
    rw [List.take_add_one, ha]
    exact List.mem_append_right _ List.mem_cons_self
  have z1 : rI (clr S a) a = fun _ => 0 := by funext j; simp [rI, clr]
  have z2 : rJ (clr S a) a = fun _ => 0 := by funext j; simp [rJ, clr]
  obtain ⟨a1, a2, a3, a4⟩ := at_ws
  have key : ∀ (ty : FieldType) (ve : vp_A), newarray.typeOf t = ty → Cond.arrayClass ty ∈ lw_tbl → slN (atK t, v.toNatClampNeg) = v.toNatClampNeg → componentBytes ty ≤ 8 → (∀ cA : ClassId, s.vm.findClass ("[" ++ ty.toString) = some cA → cA = cy (atK t)) → (∀ cA : ClassId, vp_cell cA ve = arrV cA v.toNatClampNeg (fun _ => defaultValue ty)) → cE (KA K al (k + 1)) G cy (clr S a) a = .inl (cy (atK t), ve) →
      W p l ev R s m args below meth c H locs (k - k0) (slA K al k - slA K al k0) Q (F0 m pc ls (.int v :: stk)) := by
    intro ty ve hty hw hsn hby hcy hve hce
    subst hty
    have e2 : slA K al k - slA K al k0 + v.toNatClampNeg = slA K al (k + 1) - slA K al k0 := by omega
    refine va_newaK hx hb (hts _ (gw_in hw rfl)) rfl hdec rfl hv rfl ?_ (by omega) (by omega) (hz.trans hGa.symm) fun H1 cA g1 zz o1 hAr hNm => ?_
    · have := Nat.mul_le_mul hn hby
      omega
    · rw [e1, e2]
      refine kk H1 locs (a_push hA ha hP (fun q hq => o1 q (by omega)) ?_) ⟨Nat.le_trans hS.1 (by omega), fun q h1 h2 => (o1 q (by have := hS.1; omega)).trans (hS.2.1 q h1 h2), hS.2.2⟩
      rw [hce]
      show H1[G a]? = some (vp_cell (cy (atK t)) ve)
      rw [hve, ← hcy cA hNm]
      exact g1
  cases t <;> first
    | exact absurd ht (by decide)
    | exact key .int (v.toNatClampNeg, .inl (fun _ => 0)) rfl a1 rfl (by decide) (fun cA h => ar_cy (t := 0) hK rfl rfl h) (fun _ => rfl) (by unfold cE; rw [hka', z1]; rfl)
    | exact key .char (v.toNatClampNeg, .inl (fun _ => 0)) rfl a2 rfl (by decide) (fun cA h => ar_cy (t := 1) hK rfl rfl h) (fun _ => rfl) (by unfold cE; rw [hka', z1]; rfl)
    | exact key .boolean (v.toNatClampNeg, .inl (fun _ => 0)) rfl a3 rfl (by decide) (fun cA h => ar_cy (t := 2) hK rfl rfl h) (fun _ => rfl) (by unfold cE; rw [hka', z1]; rfl)
    | exact key .long (v.toNatClampNeg, .inr (.inl (fun _ => 0))) rfl a4 rfl (by decide) (fun cA h => ar_cy (t := 3) hK rfl rfl h) (fun _ => rfl) (by unfold cE; rw [hka', z2]; rfl)
theorem newq_ok {l : Launch} {p : Program} {ev : Env} {R : Room} {s : State} {m : MethodId} {args : Array Value} {below : List Frame} {meth : Method} {c : Code} {H : Heap} {locs : List Loc} {ls : Array Slot} {k k0 i a t pc : Nat} {S : St} {stk : List Value} {Q : State → Prop} {e : MI × List (Nat × Xi)} {v : Int32} (hA : okA K al G base) (C0 : FrA G cy D SF base e p s m args meth c k0) (hk0 : k0 ≤ k)
    (hP : va_P D kCl (wl (KA K al k) G cy (al.take k) S) H) (hS : va_S (fun q => base ≤ q) s.heap H locs) (hz : H.size = base + k) (ha : al[k]? = some a) (hv : ¬ v < 0) (hka : K.1 a = (t, v.toNatClampNeg)) (ht : t = 5 ∨ t = 6 ∨ t = 7) (hn : v.toNatClampNeg ≤ 100000) (w1 : Cond.classLink (kN e.1.2.2.2.2) i (arK t) ∈ lw_tbl) (hr1 : k + 1 - k0 ≤ R.cells) (hr2 : slA K al (k + 1) - slA K al k0 ≤ R.slots) (hdec : decode e.1.2.1 pc = .ok (.anewarray i, 3))
    (kk : ∀ (H1 : Heap) (locs1 : List Loc), va_P D kCl (wl (KA K al (k + 1)) G cy (al.take (k + 1)) (clr S a)) H1 → va_S (fun q => base ≤ q) s.heap H1 locs1 → W p l ev R s m args below meth c H1 locs1 (k + 1 - k0) (slA K al (k + 1) - slA K al k0) Q (F0 m (pc + 3) ls (.ref (G a) :: stk))) :
    W p l ev R s m args below meth c H locs (k - k0) (slA K al k - slA K al k0) Q (F0 m pc ls (.int v :: stk)) := by
  obtain ⟨hx, hb, hr, hml, hown, hlocks, hnm, hts, hnw, hK, hao, hSF, hsz⟩ := C0
  have hGa : G a = base + k := hA.2.2.2.1 k a ha
  have e1 : k - k0 + 1 = k + 1 - k0 := by omega
  have hsl := sl_push (K := K) ha
  rw [hka] at hsl
  have hsn : slN (t, v.toNatClampNeg) = v.toNatClampNeg := by rcases ht with rfl | rfl | rfl <;> rfl
  have hm0 := sl_mono (K := K) (al := al) hk0
  have e2 : slA K al k - slA K al k0 + v.toNatClampNeg = slA K al (k + 1) - slA K al k0 := by omega
  have hka' : (KA K al (k + 1)).1 a = (t, v.toNatClampNeg) := by
    rw [KA_in, hka]
    rw [List.take_add_one, ha]
    exact List.mem_append_right _ List.mem_cons_self
  have z3 : (fun i => (rQ (clr S a) a i).map G) = fun _ => none := by funext j; simp [rQ, clr]
  have hcy : ∀ cA : ClassId, s.vm.findClass ("[" ++ (FieldType.object (arK t)).toString) = some cA → cA = cy t := by
    intro cA h
    rcases ht with rfl | rfl | rfl
    · obtain ⟨_, _, _, _, _, g⟩ := (hK.2 4 _ rfl).2
      exact Option.some.inj (h.symm.trans g)
    · obtain ⟨_, _, _, _, _, g⟩ := (hK.2 5 _ rfl).2
      exact Option.some.inj (h.symm.trans g)
    · obtain ⟨_, _, _, _, _, g⟩ := (hK.2 6 _ rfl).2
      exact Option.some.inj (h.symm.trans g)
  refine W.anew hx hb hown (hts _ (gw_in w1 rfl)) (va_AO.use (hao t (by omega) (by omega))) rfl hdec rfl hv (by omega) (by omega) (by omega) fun cA kA comp f1 f2 f3 f4 => ?_
  obtain rfl := hcy cA f1
  rw [e1, e2, show H.size = G a from hz.trans hGa.symm]
  refine kk _ locs (a_push hA ha hP (fun q hq => by rw [Array.getElem?_push, if_neg (Nat.ne_of_lt hq)]) ?_) ⟨Nat.le_trans hS.1 (by rw [Array.size_push]; omega), fun q h1 h2 => by rw [Array.getElem?_push, if_neg (by have := hS.1; omega)]; exact hS.2.1 q h1 h2, hS.2.2⟩
  have hce : cE (KA K al (k + 1)) G cy (clr S a) a = .inl (cy t, v.toNatClampNeg, .inr (.inr (.inr (.inr (fun _ => none))))) := by
    unfold cE
    rw [hka', z3]
    rcases ht with rfl | rfl | rfl <;> rfl
  rw [hce]
  show (H.push _)[G a]? = some (vp_cell _ _)
  rw [vp_cell_q, show G a = H.size from (hz.trans hGa.symm).symm, Array.getElem?_push_size, arrV_new]
  rfl
end MAKER
