/-! The constructors' contracts. -/
theorem fget_st {K K' : Cfg} {S : St} {a c z : Nat} (h0 : K.2.1 c a z = none) (h1 : ∀ b, K'.2.1 c a z = some b → rQ S a z = some b) : fget K S a c z = fget K' S a c z := by
  unfold fget
  cases hb : K'.2.1 c a z with
  | none => simp only [h0]
  | some b => simp only [h0, h1 b hb, qv]
theorem wl_conv {K K' : Cfg} {G : Nat → Nat} {cy : Nat → ClassId} {L : List Nat} {S : St} (hk : ∀ a ∈ L, K.1 a = K'.1 a) (hf : ∀ a ∈ L, (K.1 a).1 = 0 → ∀ z, z < kF (K.1 a).2 → fget K S a (K.1 a).2 z = fget K' S a (K.1 a).2 z) : wl K G cy L S = wl K' G cy L S := by
  unfold wl
  apply List.map_congr_left
  intro a ha
  have e := hk a ha
  have h : cE K G cy S a = cE K' G cy S a := by
    unfold cE
    rw [← e]
    by_cases h0 : (K.1 a).1 = 0
    · rw [if_pos h0, if_pos h0]
      have h2 : fL' K G S a (K.1 a).2 = fL' K' G S a (K.1 a).2 := by
        unfold fL'
        apply List.map_congr_left
        intro z hz
        rw [hf a ha h0 z (List.mem_range.mp hz)]
      rw [h2]
    · rw [if_neg h0, if_neg h0]
  rw [h]
theorem chk_of {K : Cfg} {al : List Nat} {S : St} (h : chkS K al S = true) : ∀ a ∈ al, (K.1 a).1 = 0 → ∀ z, z < kF (K.1 a).2 → ∀ b, K.2.1 (K.1 a).2 a z = some b → rQ S a z = some b := by
  intro a ha h0 z hz b hb
  have h1 := List.all_eq_true.mp h a ha
  rw [h0] at h1
  simp only [bne_self_eq_false, Bool.false_or] at h1
  have h2 := List.all_eq_true.mp h1 z (List.mem_range.mpr hz)
  rw [hb] at h2
  simpa [rQ] using h2
section CTORS
variable {K : Cfg} {G : Nat → Nat} {cy : Nat → ClassId} {D : va_G} {SF : (Nat → Prop) → State → Heap → Prop} {al : List Nat} {base : Nat} {l : Launch}
/-- the world of all that was made is the one of the kinds -/
theorem made_conv {S : St} (hA : okA K al G base) (h : chkS K al S = true) : wl (KA K al al.length) G cy (al.take al.length) S = wl K G cy al S := by
  rw [List.take_length]
  refine wl_conv (fun a ha => KA_in (by rw [List.take_length]; exact ha)) (fun a ha h0 z hz => ?_)
  have e : (KA K al al.length).1 a = K.1 a := KA_in (by rw [List.take_length]; exact ha)
  rw [e] at h0 hz ⊢
  exact fget_st rfl (chk_of h a ha h0 z hz)
theorem a_A (hA : okA K al G base) {k0 k : Nat} (h1 : k0 ≤ k) (h2 : k ≤ al.length) (q : Nat) : base ≤ q ↔ (∃ a ∈ al.take k, G a = q) ∨ base + k0 ≤ q := by
  constructor
  · intro h
    by_cases hq : base + k0 ≤ q
    · exact Or.inr hq
    · refine Or.inl ?_
      have hl : q - base < (al.take k).length := by rw [List.length_take]; omega
      have hg : (al.take k)[q - base]? = some (al.take k)[q - base] := List.getElem?_eq_getElem hl
      refine ⟨_, List.mem_of_getElem? hg, ?_⟩
      rw [hA.2.2.2.1 _ _ (tk_at hg).1]
      omega
  · rintro (⟨a, ha, rfl⟩ | h)
    · obtain ⟨i, hi⟩ := List.getElem?_of_mem ha
      rw [hA.2.2.2.1 i a (tk_at hi).1]
      omega
    · omega
theorem metA_w {d M k : Nat} {as : List Value} {S : St} {e : MI × List (Nat × Xi)} {Qc : Array Value → State → Outcome → State → Prop} {mc ms : Nat} (he : mX M = some e) (hg : GoodE e) (hc : csum as ≤ e.1.2.2.1)
    (body : ∀ (p : Program) (ev : Env) (s : State) (m : MethodId) (below : List Frame) (meth : Method) (c : Code) (ls : Array Slot), FrA G cy D SF base e p s m ((as.map (gv G)).toArray) meth c k → va_P D kCl (wl (KA K al k) G cy (al.take k) S) s.heap → lv_has ls e.1.2.2.1 (gl G (lv_args 0 as)) → W p l ev { frames := d + 4, cells := mc, slots := ms, locals := 64 * (d + 4) } s m ((as.map (gv G)).toArray) below meth c s.heap [] 0 0 (MQ below Qc ((as.map (gv G)).toArray) s mc ms (fun q => base ≤ q)) (F0 m 0 ls [])) :
    Met l e.1.1 (Cond.code e.1.1 e.1.2.1 e.1.2.2.1 e.1.2.2.2.1 :: gw) { frames := d + 4, cells := mc, slots := ms, locals := 64 * (d + 4) } (va_Pc (as.map (gv G)) (PA K G cy D SF al base k S)) Qc mc ms (fun q => base ≤ q) := by
  obtain ⟨hcw, -, hcls, ho, -⟩ := hg
  refine va_MetF (cc := e.1.2.1) (maxL := e.1.2.2.1) (ret := e.1.2.2.2.1) (mX_plain he) rfl ?_
  intro p ev s m args below meth c s₁ B hml hv
  obtain ⟨rfl, hsz, hP, hK, hnw, hao, hSF⟩ := hv
  have hts0 := atoms_spec (ws := Cond.code e.1.1 e.1.2.1 e.1.2.2.1 e.1.2.2.2.1 :: gw) B.pre
  have hts : ∀ w ∈ gw, w.before ((as.map (gv G)).toArray) s = true := fun w h => hts0 w (List.mem_cons_of_mem _ h)
  have hown : s.vm.findClass (kN e.1.2.2.2.2) = some m.cls := by rw [← hcls]; exact findClass_of_methodNamed B.named
  have hnm : meth.name = e.1.1.name := (name_of_methodNamed B.named B.method).1
  have hlen : (lg_sl (as.map (gv G))).length ≤ e.1.2.2.1 := by rw [csum_sl, csum_map]; exact hc
  have hl := lv_entry (as.map (gv G)) (n := e.1.2.2.1) hlen
  rw [lg_entry_eq]
  generalize (lg_sl (as.map (gv G)) ++ List.replicate (e.1.2.2.1 - (lg_sl (as.map (gv G))).length) Slot.unset).toArray = ls at hl ⊢
  rw [← gl_args] at hl
  exact body p ev s m below meth c ls ⟨B.exec, B.bytes, B.returns, hml, hown, B.notSynchronized, hnm, hts, hnw, hK, hao, hSF, hsz⟩ hP hl
/-- a call of a constructor -/
theorem callI_ok {p : Program} {ev : Env} {R : Room} {s : State} {m : MethodId} {args : Array Value} {below : List Frame} {meth : Method} {c : Code} {H : Heap} {locs : List Loc} {ls : Array Slot} {k k0 k1 i y z pc d' b : Nat} {lc : Lc} {S S1 : St} {st r9 : List Value} {Q : State → Prop} {e e' : MI × List (Nat × Xi)} (hF : okF SF) (hA : okA K al G base) (C0 : FrA G cy D SF base e p s m args meth c k0) (hz : H.size = base + k) (hk0 : k0 ≤ k) (hk1 : k ≤ k1)
    (hP : va_P D kCl (wl (KA K al k) G cy (al.take k) S) H) (hS : va_S (fun q => base ≤ q) s.heap H locs) (hl : lv_has ls e.1.2.2.1 (gl G lc)) (hdec : decode e.1.2.1 pc = .ok (.invokespecial i, 3)) (hchk : chkI e.1.2.2.2.2 e.1.2.1 (pc, .invokespecial i, 3, 5, y, z) = true) (hmy : mX y = some e') (hg' : GoodE e') (hM : MetA K G cy D SF al base l d' e' (.ref b :: (st.take z).reverse) k S k1 S1) (hdrop : st.drop z = .ref b :: r9) (hcr : csum r9 ≤ 8) (hni : e'.1.1.name = "<init>") (hrn : e'.1.2.2.2.1 = none) (hfit : rfit R (d' + 1) (k1 - k0) (slA K al k1 - slA K al k0))
    (ka : K.1 b = (0, e'.1.2.2.2.2)) (kb : b ∈ al.take k)
    (kk : ∀ (H1 : Heap) (locs1 : List Loc), va_P D kCl (wl (KA K al k1) G cy (al.take k1) S1) H1 → va_S (fun q => base ≤ q) s.heap H1 locs1 → W p l ev R s m args below meth c H1 locs1 (k1 - k0) (slA K al k1 - slA K al k0) Q (F0 m (pc + 3) ls (r9.map (gv G)))) :
    W p l ev R s m args below meth c H locs (k - k0) (slA K al k - slA K al k0) Q (F0 m pc ls (st.map (gv G))) := by
  obtain ⟨hx, hb, hr, hml, hown, hlocks, hnm, hts, hnw, hK, hao, hSF, hsz⟩ := C0
  have hs0 := sl_mono (K := K) (al := al) hk0
  have hs1 := sl_mono (K := K) (al := al) hk1
  have hcw' : Cond.code e'.1.1 e'.1.2.1 e'.1.2.2.1 none = Cond.code e'.1.1 e'.1.2.1 e'.1.2.2.1 e'.1.2.2.2.1 := by rw [hrn]
  have hzl : z < st.length := by
    have := congrArg List.length hdrop
    simp only [List.length_drop, List.length_cons] at this
    omega
  have hst : st.map (gv G) = (((st.take z).reverse).map (gv G)).reverse ++ .ref (G b) :: r9.map (gv G) := by
    rw [← List.map_reverse, List.reverse_reverse]
    conv => lhs; rw [← List.take_append_drop z st, hdrop]
    simp [gv]
  have hAs : (((st.take z).reverse).map (gv G)).length = z := by simp; omega
  have hW8 : ((r9.map (gv G)).map fun v => v.category).sum ≤ 8 := by have := csum_map G r9; unfold csum at this hcr; omega
  have hloc : 8 + (e'.1.2.2.1 + 11) + 64 * (d' + 4) ≤ R.locals := loc_ok hg'.2.2.2.2 hfit.2.1
  have hini : Cond.initialized e'.1.1.cls ∈ lw_tbl := by rw [hg'.2.2.1]; exact List.mem_of_getElem? (k_init _ hg'.2.2.2.1)
  have hmh := kN_mh _ hg'.2.2.2.1
  rw [← hg'.2.2.1] at hmh
  obtain ⟨w1, w2, w4⟩ := link_5 hmy (sp_word hchk)
  have hSF' := hF.2.1 _ s s.heap H hS.2.1 hSF
  have hpc : ∀ U : State, U.heap = H → s.WarmedH U.vm → va_Pc (Value.ref (G b) :: ((st.take z).reverse).map (gv G)) (PA K G cy D SF al base k S) (Value.ref (G b) :: ((st.take z).reverse).map (gv G)).toArray U := fun U hU hW =>
    ⟨rfl, by rw [hU]; exact hz, by rw [hU]; exact hP, va_K.moved hW.alike hK, fun w hw => nw_warm hw hW (hnw w hw), fun t g1 g2 => va_AO.moved hW.alike (hao t g1 g2), by rw [hU]; exact hF.1 _ s U H hW.alike hSF'⟩
  rw [hst]
  refine w_callA (va_runIN (bytes := e'.1.2.1) (maxL := e'.1.2.2.1) (host := "NameOrchard") (As := ((st.take z).reverse).map (gv G)) (rest := r9.map (gv G)) (nL := e.1.2.2.1) ⟨hx, hb, hml, hown, hts⟩ hM ⟨⟨⟨rfl, rfl, frm_ok hfit.1, hloc, pay_in hts (ws_good hg'), by rw [hcw']; exact List.mem_cons_self⟩, by rw [hcw']; exact hts _ (gw_in hg'.1 rfl), hts _ (gw_in hini rfl), hmh, nargs_of w4, va_Nw.use rfl (hnw _ (nw_in w1 rfl))⟩, hni, hts _ (gw_in w2 rfl)⟩ ⟨pa_blind hF, hpc⟩ rfl hAs hl.1 rfl (lv_room hW8) hdec ⟨by have := hfit.2.2.1; omega, by have := hfit.2.2.2; omega⟩) hS (fun H1 locs1 g1 g3 => ?_)
  rw [show k - k0 + (k1 - k) = k1 - k0 by omega, show slA K al k - slA K al k0 + (slA K al k1 - slA K al k) = slA K al k1 - slA K al k0 by omega]
  exact kk H1 locs1 g1 g3
end CTORS
