/-! 'sx' is right: one instruction that is no call and no return. -/
theorem ofBool_or {a b : Bool} (h : (a || b) = true) (hb : b = false) : a = true := by rw [hb] at h; simpa using h
theorem iL_word {o i x y : Nat} (h : (iL.any (fun f => f.1 == o && (f.2.1 == i && f.2.2.1 == x)) || y == 9) = true) (hy : y ≠ 9) : Cond.constant (kN o) i (Int32.ofNat x) ∈ lw_tbl := by
  rcases Bool.or_eq_true_iff.mp h with h | h
  · obtain ⟨f, hf, h1⟩ := List.any_eq_true.mp h
    simp only [Bool.and_eq_true, beq_iff_eq] at h1
    obtain ⟨rfl, rfl, rfl⟩ := h1
    exact List.mem_of_getElem? (iL_ok f hf)
  · exact absurd (by simpa using h) hy
theorem jL_word {o i x : Nat} (h : (jL.any (fun f => f.1 == o && (f.2.1 == i && f.2.2.1 == x))) = true) : Cond.constantLong (kN o) i (Int64.ofNat x) ∈ lw_tbl := by
  obtain ⟨f, hf, h1⟩ := List.any_eq_true.mp h
  simp only [Bool.and_eq_true, beq_iff_eq] at h1
  obtain ⟨rfl, rfl, rfl⟩ := h1
  exact List.mem_of_getElem? (jL_ok f hf)
theorem cE_arr {K : Cfg} {G : Nat → Nat} {cy : Nat → ClassId} {S : St} {a n : Nat} {t : Nat} (h : K.1 a = (t, n)) (h0 : 0 < t) (h3 : t ≤ 3) : cE K G cy S a = .inl (cy t, n, .inl (rI S a)) := by
  unfold cE
  rw [h]
  simp only [if_neg (Nat.ne_of_gt h0), if_pos h3]
theorem cE_arrJ {K : Cfg} {G : Nat → Nat} {cy : Nat → ClassId} {S : St} {a n : Nat} (h : K.1 a = (4, n)) : cE K G cy S a = .inl (cy 4, n, .inr (.inl (rJ S a))) := by
  unfold cE
  rw [h]
  rfl
theorem cE_arrQ {K : Cfg} {G : Nat → Nat} {cy : Nat → ClassId} {S : St} {a n t : Nat} (h : K.1 a = (t, n)) (h0 : 5 ≤ t) : cE K G cy S a = .inl (cy t, n, .inr (.inr (.inr (.inr (fun i => (rQ S a i).map G))))) := by
  unfold cE
  rw [h]
  simp only [if_neg (show ¬ t = 0 by omega), if_neg (show ¬ t ≤ 3 by omega), if_neg (show ¬ t = 4 by omega)]
theorem tb_0 (x : Int32) (pc : Nat) (d : Int) : ∀ (ts : List Int) (lo : Int), x.toInt < lo ∨ lo + (ts.length : Int) - 1 < x.toInt → swt x pc d lo ts = ((pc : Int) + d).toNat
  | [], _, _ => rfl
  | t :: ts, lo, h => by
    have hne : ¬ x.toInt = lo := by
      simp only [List.length_cons] at h
      omega
    unfold swt
    rw [if_neg hne]
    refine tb_0 x pc d ts (lo + 1) ?_
    simp only [List.length_cons] at h
    omega
theorem tb_1 (x : Int32) (pc : Nat) (d : Int) : ∀ (ts : List Int) (lo : Int), ¬ x.toInt < lo → ¬ lo + (ts.length : Int) - 1 < x.toInt → ∃ t, ts[(x.toInt - lo).toNat]? = some t ∧ swt x pc d lo ts = ((pc : Int) + t).toNat
  | [], lo, h1, h2 => by simp only [List.length_nil] at h2; omega
  | t :: ts, lo, h1, h2 => by
    by_cases he : x.toInt = lo
    · refine ⟨t, ?_, ?_⟩
      · rw [he]; simp
      · unfold swt; rw [if_pos he]
    · simp only [List.length_cons] at h2
      obtain ⟨t', g1, g2⟩ := tb_1 x pc d ts (lo + 1) (by omega) (by omega)
      refine ⟨t', ?_, ?_⟩
      · rw [show (x.toInt - lo).toNat = (x.toInt - (lo + 1)).toNat + 1 by omega, List.getElem?_cons_succ]
        exact g1
      · unfold swt; rw [if_neg he]; exact g2
def ckI (o : Nat) (ins : Instr) (x y z : Nat) : Bool := match ins with
  | .getfield i => fL.any (fun f => f.1 == o && (f.2.1 == i && (f.2.2.1 == x && (f.2.2.2.1 == y && f.2.2.2.2.1 == z)))) || x == 9
  | .putfield i => fL.any (fun f => f.1 == o && (f.2.1 == i && (f.2.2.1 == x && (f.2.2.2.1 == y && f.2.2.2.2.1 == z)))) || x == 9
  | .ldc_w i => iL.any (fun f => f.1 == o && (f.2.1 == i && f.2.2.1 == x)) || y == 9
  | .getstatic i => sL.any (fun f => f.1 == o && (f.2.1 == i && (f.2.2.1 == x && f.2.2.2.1 == y))) || x == 9
  | .ldc i => iL.any (fun f => f.1 == o && (f.2.1 == i && f.2.2.1 == x)) || y == 9
  | .ldc2_w i => jL.any (fun f => f.1 == o && (f.2.1 == i && f.2.2.1 == x))
  | .invokevirtual i => mL.any (fun f => f.1 == o && (f.2.1 == i && (f.2.2.1 == x && (f.2.2.2.1 == y && f.2.2.2.2.1 == z)))) || x == 9
  | .invokestatic i => mL.any (fun f => f.1 == o && (f.2.1 == i && (f.2.2.1 == x && (f.2.2.2.1 == y && f.2.2.2.2.1 == z)))) || x == 9
  | _ => true
theorem ckI_of {o pc len x y z : Nat} {cc : ByteArray} {ins : Instr} (h : chkI o cc (pc, ins, len, x, y, z) = true) : ckI o ins x y z = true := by
  unfold chkI at h
  have h1 := (Bool.and_eq_true_iff.mp h).2
  cases ins <;> first | exact h1 | rfl
section SXP
variable {K : Cfg} {G : Nat → Nat} {cy : Nat → ClassId} {L : List Nat} {D : va_G} {A : Nat → Prop} {S S' : St}
variable {p : Program} {l : Launch} {e : Env} {R : Room} {s : State} {m : MethodId} {args : Array Value} {below : List Frame} {meth : Method} {c : Code} {H : Heap} {locs : List Loc} {cells slots : Nat} {Q : State → Prop}
variable {cc : ByteArray} {pc : Nat} {ls : Array Slot}
/-- a constant is stored in a row of constants -/
theorem st_astT {a t : Nat} {v : Nat} {i : Int32} {n q : Nat} {f : Nat → Option Nat} {rest : List Value} (hx : p.tables.exec = Jvm.exec) (hb : c.code = cc) (hTF : TF G A s s.heap) (hK : va_K D kCl (tysL cy) s) (hP : va_P D kCl (wl K G cy L S) H) (hD : va_D A (wl K G cy L S)) (hS : va_S A s.heap H locs) (hk : okK K L G)
    (hwq : (wl K G cy L S)[q]? = some (G a, .inl (cy 5, n, .inr (.inr (.inr (.inr f)))))) (hvt : v = 1000 + t) (ht : t < 42) (hin : vp_in i n) (hdec : decode cc pc = .ok (.aastore, 1))
    (kk : ∀ (H1 : Heap) (locs1 : List Loc), va_P D kCl ((wl K G cy L S).set q (G a, .inl (cy 5, n, .inr (.inr (.inr (.inr (va_up f i.toNatClampNeg (some (G v))))))))) H1 → va_D A ((wl K G cy L S).set q (G a, .inl (cy 5, n, .inr (.inr (.inr (.inr (va_up f i.toNatClampNeg (some (G v))))))))) → va_S A s.heap H1 locs1 → W p l e R s m args below meth c H1 locs1 cells slots Q (F0 m (pc + 1) ls rest)) : W p l e R s m args below meth c H locs cells slots Q (F0 m pc ls (.ref (G v) :: .int i :: .ref (G a) :: rest)) := by
  subst hvt
  have hlt : i.toNatClampNeg < n := Nat.not_le.mp fun q => hin (Or.inr q)
  have h0 : ¬ i < 0 := fun q => hin (Or.inl q)
  have hn : t < tokNL.length := ht
  obtain ⟨cellV, g1, g2, g3, -⟩ := (hTF.1.1 t hn).2.1.kept hS.2.1
  have hcls := (hK.1 9 _ (kCl_at 9 (by decide))).2
  obtain ⟨kA, comp, k1, k2, k3, -⟩ := (hK.2 4 (cy 5, .object "NameOrchard$Token") rfl).2
  have hcomp : comp = D.1 9 := Option.some.inj (k3.symm.trans hcls.1)
  subst hcomp
  have hvc : cellV.cls = D.1 9 := Option.some.inj (g3.symm.trans hcls.1)
  obtain ⟨kC, hkC, -⟩ := hcls.2
  refine W.aast hx hb (hP q _ hwq) (fun q h => by cases h) (fun h => by cases h) k1 k2 rfl hkC ⟨h0, by show _ < (arrV _ _ _).slots.size; rw [arrV_size]; exact hlt⟩ g1 (fun q h => by rw [h] at g2; cases g2) (by rw [hvc]; exact hkC) (by rw [hvc]; exact va_assign hcls) rfl rfl hdec fun H1 e z oq => ?_
  refine kk H1 _ (hP.set hD hwq ?_ oq) (hD.set hwq) (hS.put z oq (hD.2 q _ hwq))
  show H1[G a]? = some (vp_cell _ _)
  rw [e]
  rw [vp_cell_q, vp_cell_q, arrV_store]
  congr 2
  funext j
  by_cases hj : j = i.toNatClampNeg
  · subst hj
    simp [updV, va_up, va_rf]
  · simp [updV, va_up, hj]
set_option maxHeartbeats 4000000 in
set_option maxRecDepth 100000 in
theorem sx_ok {o nL len x y z pc' : Nat} {ins : Instr} {lc lc' : Lc} {st st' : List Value} (hx : p.tables.exec = Jvm.exec) (hb : c.code = cc) (hts : ∀ w ∈ gw, w.before args s = true) (hnw : ∀ w ∈ nw, va_Nw w s) (hown : s.vm.findClass (kN o) = some m.cls) (hK : va_K D kCl (tysL cy) s) (hTF : TF G A s s.heap) (hP : va_P D kCl (wl K G cy L S) H) (hD : va_D A (wl K G cy L S)) (hS : va_S A s.heap H locs) (hk : okK K L G)
    (hdec : decode cc pc = .ok (ins, len)) (hlen : ilen ins = 0 ∨ len = ilen ins) (hchk : chkI o cc (pc, ins, len, x, y, z) = true) (hsx : sx K nL pc ins x y z lc st S = some (pc', lc', st', S')) (hl : lv_has ls nL (gl G lc))
    (kk : ∀ (H1 : Heap) (locs1 : List Loc) (ls1 : Array Slot), va_P D kCl (wl K G cy L S') H1 → va_D A (wl K G cy L S') → va_S A s.heap H1 locs1 → lv_has ls1 nL (gl G lc') → W p l e R s m args below meth c H1 locs1 cells slots Q (F0 m pc' ls1 (st'.map (gv G)))) :
    W p l e R s m args below meth c H locs cells slots Q (F0 m pc ls (st.map (gv G))) := by
  have hck := ckI_of hchk
  clear hchk
  cases ins with
  | iconst n => cases hsx; obtain rfl : len = 1 := by simpa [ilen] using hlen
                exact lv_iconst hx hb hdec rfl (kk _ _ _ hP hD hS hl)
  | bipush n => cases hsx; obtain rfl : len = 2 := by simpa [ilen] using hlen
                exact lv_bipush hx hb hdec rfl (kk _ _ _ hP hD hS hl)
  | sipush n => cases hsx; obtain rfl : len = 3 := by simpa [ilen] using hlen
                exact lv_sipush hx hb hdec rfl (kk _ _ _ hP hD hS hl)
  | lconst n => cases hsx; obtain rfl : len = 1 := by simpa [ilen] using hlen
                exact lv_lconst hx hb hdec rfl (kk _ _ _ hP hD hS hl)
  | aconst_null => cases hsx; obtain rfl : len = 1 := by simpa [ilen] using hlen
                   exact lv_null hx hb hdec (kk _ _ _ hP hD hS hl)
  | ldc_w i =>
    obtain rfl : len = 3 := by simpa [ilen] using hlen
    simp only [sx] at hsx
    split at hsx
    · cases hsx
    · rename_i hy
      cases hsx
      exact lv_ldcw hx hb hown (hts _ (gw_in (iL_word hck hy) rfl)) hdec (kk _ _ _ hP hD hS hl)
  | ldc i =>
    obtain rfl : len = 2 := by simpa [ilen] using hlen
    simp only [sx] at hsx
    split at hsx
    · cases hsx
    · rename_i hy
      cases hsx
      exact lv_ldc hx hb hown (hts _ (gw_in (iL_word hck hy) rfl)) hdec (kk _ _ _ hP hD hS hl)
  | ldc2_w i =>
    obtain rfl : len = 3 := by simpa [ilen] using hlen
    cases hsx
    exact lv_ldc2 hx hb hown (hts _ (gw_in (jL_word hck) rfl)) hdec (kk _ _ _ hP hD hS hl)
  | iload i =>
    obtain rfl : len = 2 := by simpa [ilen] using hlen
    simp only [sx] at hsx
    split at hsx <;> cases hsx
    exact lv_iload hx hb hdec (lget_at hl ‹_›) (kk _ _ _ hP hD hS hl)
  | iload_n i =>
    obtain rfl : len = 1 := by simpa [ilen] using hlen
    simp only [sx] at hsx
    split at hsx <;> cases hsx
    exact lv_iload_n hx hb hdec rfl (lget_at hl ‹_›) (kk _ _ _ hP hD hS hl)
  | lload i =>
    obtain rfl : len = 2 := by simpa [ilen] using hlen
    simp only [sx] at hsx
    split at hsx <;> cases hsx
    exact lv_lload hx hb hdec (lget_at hl ‹_›) (kk _ _ _ hP hD hS hl)
  | lload_n i =>
    obtain rfl : len = 1 := by simpa [ilen] using hlen
    simp only [sx] at hsx
    split at hsx <;> cases hsx
    exact lv_lload_n hx hb hdec rfl (lget_at hl ‹_›) (kk _ _ _ hP hD hS hl)
  | aload i =>
    obtain rfl : len = 2 := by simpa [ilen] using hlen
    simp only [sx] at hsx
    split at hsx <;> cases hsx
    · exact lv_aload hx hb hdec (lget_at hl ‹_›) (kk _ _ _ hP hD hS hl)
    · exact lv_aloadN hx hb hdec (lget_at hl ‹_›) (kk _ _ _ hP hD hS hl)
  | aload_n i =>
    obtain rfl : len = 1 := by simpa [ilen] using hlen
    simp only [sx] at hsx
    split at hsx <;> cases hsx
    · exact lv_aload_n hx hb hdec rfl (lget_at hl ‹_›) (kk _ _ _ hP hD hS hl)
    · exact lv_aload_nN hx hb hdec rfl (lget_at hl ‹_›) (kk _ _ _ hP hD hS hl)
  | istore i =>
    obtain rfl : len = 2 := by simpa [ilen] using hlen
    simp only [sx] at hsx
    split at hsx <;> try (cases hsx; done)
    split at hsx <;> cases hsx
    exact lv_istore hx hb hdec hl ‹_› (gl_lset1 (v := .int _)) (fun ls1 h => kk _ _ ls1 hP hD hS h)
  | istore_n i =>
    obtain rfl : len = 1 := by simpa [ilen] using hlen
    simp only [sx] at hsx
    split at hsx <;> try (cases hsx; done)
    split at hsx <;> cases hsx
    exact lv_istore_n hx hb hdec rfl hl ‹_› (gl_lset1 (v := .int _)) (fun ls1 h => kk _ _ ls1 hP hD hS h)
  | lstore i =>
    obtain rfl : len = 2 := by simpa [ilen] using hlen
    simp only [sx] at hsx
    split at hsx <;> try (cases hsx; done)
    split at hsx <;> cases hsx
    exact lv_lstore hx hb hdec hl ‹_› (gl_lset2 (v := .long _)) (fun ls1 h => kk _ _ ls1 hP hD hS h)
  | lstore_n i =>
    obtain rfl : len = 1 := by simpa [ilen] using hlen
    simp only [sx] at hsx
    split at hsx <;> try (cases hsx; done)
    split at hsx <;> cases hsx
    exact lv_lstore_n hx hb hdec rfl hl ‹_› (gl_lset2 (v := .long _)) (fun ls1 h => kk _ _ ls1 hP hD hS h)
  | astore i =>
    obtain rfl : len = 2 := by simpa [ilen] using hlen
    simp only [sx] at hsx
    split at hsx <;> try (cases hsx; done)
    · split at hsx <;> cases hsx
      exact lv_astore hx hb hdec hl ‹_› (gl_lset1 (v := .ref _)) (fun ls1 h => kk _ _ ls1 hP hD hS h)
    · split at hsx <;> cases hsx
      exact lv_astoreN hx hb hdec hl ‹_› (gl_lset1 (v := .null)) (fun ls1 h => kk _ _ ls1 hP hD hS h)
  | astore_n i =>
    obtain rfl : len = 1 := by simpa [ilen] using hlen
    simp only [sx] at hsx
    split at hsx <;> try (cases hsx; done)
    · split at hsx <;> cases hsx
      exact lv_astore_n hx hb hdec rfl hl ‹_› (gl_lset1 (v := .ref _)) (fun ls1 h => kk _ _ ls1 hP hD hS h)
    · split at hsx <;> cases hsx
      exact lv_astore_nN hx hb hdec rfl hl ‹_› (gl_lset1 (v := .null)) (fun ls1 h => kk _ _ ls1 hP hD hS h)
  | iinc i n =>
    obtain rfl : len = 3 := by simpa [ilen] using hlen
    simp only [sx] at hsx
    split at hsx <;> try (cases hsx; done)
    rename_i v hg
    split at hsx <;> cases hsx
    obtain ⟨k, hk9⟩ := lget_ix (G := G) hg
    exact lv_iinc hx hb hdec hl hk9 rfl ‹_› (gl_lset1 (v := .int _)) (fun ls1 h => kk _ _ ls1 hP hD hS h)
  | iadd => obtain rfl : len = 1 := by simpa [ilen] using hlen
            simp only [sx, b2] at hsx; split at hsx <;> cases hsx; exact lv_iadd hx hb hdec (kk _ _ _ hP hD hS hl)
  | isub => obtain rfl : len = 1 := by simpa [ilen] using hlen
            simp only [sx, b2] at hsx; split at hsx <;> cases hsx; exact lv_isub hx hb hdec (kk _ _ _ hP hD hS hl)
  | imul => obtain rfl : len = 1 := by simpa [ilen] using hlen
            simp only [sx, b2] at hsx; split at hsx <;> cases hsx; exact lv_imul hx hb hdec (kk _ _ _ hP hD hS hl)
  | iand => obtain rfl : len = 1 := by simpa [ilen] using hlen
            simp only [sx, b2] at hsx; split at hsx <;> cases hsx; exact lv_iand hx hb hdec (kk _ _ _ hP hD hS hl)
  | ior => obtain rfl : len = 1 := by simpa [ilen] using hlen
           simp only [sx, b2] at hsx; split at hsx <;> cases hsx; exact lv_ior hx hb hdec (kk _ _ _ hP hD hS hl)
  | ixor => obtain rfl : len = 1 := by simpa [ilen] using hlen
            simp only [sx, b2] at hsx; split at hsx <;> cases hsx; exact lv_ixor hx hb hdec (kk _ _ _ hP hD hS hl)
  | ishl => obtain rfl : len = 1 := by simpa [ilen] using hlen
            simp only [sx, b2] at hsx; split at hsx <;> cases hsx; exact lv_ishl hx hb hdec (kk _ _ _ hP hD hS hl)
  | ishr => obtain rfl : len = 1 := by simpa [ilen] using hlen
            simp only [sx, b2] at hsx; split at hsx <;> cases hsx; exact lv_ishr hx hb hdec (kk _ _ _ hP hD hS hl)
  | iushr => obtain rfl : len = 1 := by simpa [ilen] using hlen
             simp only [sx, b2] at hsx; split at hsx <;> cases hsx; exact lv_iushr hx hb hdec rfl (kk _ _ _ hP hD hS hl)
  | idiv => obtain rfl : len = 1 := by simpa [ilen] using hlen
            simp only [sx, d2] at hsx; split at hsx <;> try (cases hsx; done)
            split at hsx <;> cases hsx; exact lv_idiv hx hb hdec ‹_› (kk _ _ _ hP hD hS hl)
  | irem => obtain rfl : len = 1 := by simpa [ilen] using hlen
            simp only [sx, d2] at hsx; split at hsx <;> try (cases hsx; done)
            split at hsx <;> cases hsx; exact lv_irem hx hb hdec ‹_› (kk _ _ _ hP hD hS hl)
  | ladd => obtain rfl : len = 1 := by simpa [ilen] using hlen
            simp only [sx, b2L] at hsx; split at hsx <;> cases hsx; exact lv_ladd hx hb hdec (kk _ _ _ hP hD hS hl)
  | lsub => obtain rfl : len = 1 := by simpa [ilen] using hlen
            simp only [sx, b2L] at hsx; split at hsx <;> cases hsx; exact lv_lsub hx hb hdec (kk _ _ _ hP hD hS hl)
  | lmul => obtain rfl : len = 1 := by simpa [ilen] using hlen
            simp only [sx, b2L] at hsx; split at hsx <;> cases hsx; exact lv_lmul hx hb hdec (kk _ _ _ hP hD hS hl)
  | land => obtain rfl : len = 1 := by simpa [ilen] using hlen
            simp only [sx, b2L] at hsx; split at hsx <;> cases hsx; exact lv_land hx hb hdec (kk _ _ _ hP hD hS hl)
  | lor => obtain rfl : len = 1 := by simpa [ilen] using hlen
           simp only [sx, b2L] at hsx; split at hsx <;> cases hsx; exact lv_lor hx hb hdec (kk _ _ _ hP hD hS hl)
  | ldiv => obtain rfl : len = 1 := by simpa [ilen] using hlen
            simp only [sx, d2L] at hsx; split at hsx <;> try (cases hsx; done)
            split at hsx <;> cases hsx; exact lv_ldiv hx hb hdec ‹_› (kk _ _ _ hP hD hS hl)
  | lrem => obtain rfl : len = 1 := by simpa [ilen] using hlen
            simp only [sx, d2L] at hsx; split at hsx <;> try (cases hsx; done)
            split at hsx <;> cases hsx; exact lv_lrem hx hb hdec ‹_› (kk _ _ _ hP hD hS hl)
  | lshl => obtain rfl : len = 1 := by simpa [ilen] using hlen
            simp only [sx, sh2] at hsx; split at hsx <;> cases hsx; exact lv_lshl hx hb hdec rfl (kk _ _ _ hP hD hS hl)
  | lshr => obtain rfl : len = 1 := by simpa [ilen] using hlen
            simp only [sx, sh2] at hsx; split at hsx <;> cases hsx; exact lv_lshr hx hb hdec rfl (kk _ _ _ hP hD hS hl)
  | lushr => obtain rfl : len = 1 := by simpa [ilen] using hlen
             simp only [sx, sh2] at hsx; split at hsx <;> cases hsx; exact lv_lushr hx hb hdec rfl (kk _ _ _ hP hD hS hl)
  | lcmp => obtain rfl : len = 1 := by simpa [ilen] using hlen
            simp only [sx] at hsx; split at hsx <;> cases hsx; exact W.lcmp hx hb hdec (kk _ _ _ hP hD hS hl)
  | i2l => obtain rfl : len = 1 := by simpa [ilen] using hlen
           simp only [sx] at hsx; split at hsx <;> cases hsx; exact lv_i2l hx hb hdec rfl (kk _ _ _ hP hD hS hl)
  | l2i => obtain rfl : len = 1 := by simpa [ilen] using hlen
           simp only [sx] at hsx; split at hsx <;> cases hsx; exact lv_l2i hx hb hdec rfl (kk _ _ _ hP hD hS hl)
  | i2c => obtain rfl : len = 1 := by simpa [ilen] using hlen
           simp only [sx] at hsx; split at hsx <;> cases hsx; exact lv_i2c hx hb hdec rfl (kk _ _ _ hP hD hS hl)
  | dup => obtain rfl : len = 1 := by simpa [ilen] using hlen
           simp only [sx] at hsx; split at hsx <;> cases hsx <;> exact lv_dup hx hb hdec rfl (kk _ _ _ hP hD hS hl)
  | dup2 => obtain rfl : len = 1 := by simpa [ilen] using hlen
            simp only [sx] at hsx; split at hsx <;> cases hsx; exact lv_dup2_11 hx hb hdec rfl rfl (kk _ _ _ hP hD hS hl)
  | pop => obtain rfl : len = 1 := by simpa [ilen] using hlen
           simp only [sx] at hsx; split at hsx <;> cases hsx <;> exact lv_pop hx hb hdec rfl (kk _ _ _ hP hD hS hl)
  | goto off => obtain rfl : len = 3 := by simpa [ilen] using hlen
                simp only [sx, jmp] at hsx; split at hsx <;> cases hsx; exact lv_goto hx hb hdec ‹_› (kk _ _ _ hP hD hS hl)
  | if_icmp cn off =>
    obtain rfl : len = 3 := by simpa [ilen] using hlen
    simp only [sx, jmp] at hsx
    split at hsx <;> try (cases hsx; done)
    split at hsx <;> try (cases hsx; done)
    rename_i ht
    cases hsx
    cases cn <;> simp only [icm] at kk
    · exact lv_icmp_eq hx hb hdec ht (fun h => by have := kk _ _ _ hP hD hS hl; rwa [if_pos h] at this) (fun h => by have := kk _ _ _ hP hD hS hl; rwa [if_neg h] at this)
    · exact lv_icmp_ne hx hb hdec ht (fun h => by have := kk _ _ _ hP hD hS hl; rwa [if_neg h] at this) (fun h => by have := kk _ _ _ hP hD hS hl; rwa [if_pos h] at this)
    · exact lv_icmp_lt hx hb hdec ht (fun h => by have := kk _ _ _ hP hD hS hl; rwa [if_pos h] at this) (fun h => by have := kk _ _ _ hP hD hS hl; rwa [if_neg h] at this)
    · exact lv_icmp_ge hx hb hdec ht (fun h => by have := kk _ _ _ hP hD hS hl; rwa [if_neg (Int32.not_lt.mpr h)] at this) (fun h => by have := kk _ _ _ hP hD hS hl; rwa [if_pos (Int32.not_le.mp h)] at this)
    · exact lv_icmp_gt hx hb hdec ht (fun h => by have := kk _ _ _ hP hD hS hl; rwa [if_pos h] at this) (fun h => by have := kk _ _ _ hP hD hS hl; rwa [if_neg h] at this)
    · exact lv_icmp_le hx hb hdec ht (fun h => by have := kk _ _ _ hP hD hS hl; rwa [if_neg (Int32.not_lt.mpr h)] at this) (fun h => by have := kk _ _ _ hP hD hS hl; rwa [if_pos (Int32.not_le.mp h)] at this)
  | ifCond cn off =>
    obtain rfl : len = 3 := by simpa [ilen] using hlen
    simp only [sx, jmp] at hsx
    split at hsx <;> try (cases hsx; done)
    split at hsx <;> try (cases hsx; done)
    rename_i ht
    cases hsx
    cases cn <;> simp only [icm] at kk
    · exact lv_if_eq hx hb hdec ht (fun h => by have := kk _ _ _ hP hD hS hl; rwa [if_pos h] at this) (fun h => by have := kk _ _ _ hP hD hS hl; rwa [if_neg h] at this)
    · exact lv_if_ne hx hb hdec ht (fun h => by have := kk _ _ _ hP hD hS hl; rwa [if_neg h] at this) (fun h => by have := kk _ _ _ hP hD hS hl; rwa [if_pos h] at this)
    · exact lv_if_lt hx hb hdec ht (fun h => by have := kk _ _ _ hP hD hS hl; rwa [if_pos h] at this) (fun h => by have := kk _ _ _ hP hD hS hl; rwa [if_neg h] at this)
    · exact lv_if_ge hx hb hdec ht (fun h => by have := kk _ _ _ hP hD hS hl; rwa [if_neg (Int32.not_lt.mpr h)] at this) (fun h => by have := kk _ _ _ hP hD hS hl; rwa [if_pos (Int32.not_le.mp h)] at this)
    · exact lv_if_gt hx hb hdec ht (fun h => by have := kk _ _ _ hP hD hS hl; rwa [if_pos h] at this) (fun h => by have := kk _ _ _ hP hD hS hl; rwa [if_neg h] at this)
    · exact lv_if_le hx hb hdec ht (fun h => by have := kk _ _ _ hP hD hS hl; rwa [if_neg (Int32.not_lt.mpr h)] at this) (fun h => by have := kk _ _ _ hP hD hS hl; rwa [if_pos (Int32.not_le.mp h)] at this)
  | ifnull off =>
    obtain rfl : len = 3 := by simpa [ilen] using hlen
    simp only [sx, jmp] at hsx
    split at hsx <;> try (cases hsx; done)
    · split at hsx <;> cases hsx
      exact lv_ifnullN hx hb hdec ‹_› (kk _ _ _ hP hD hS hl)
    · cases hsx
      exact lv_ifnull hx hb hdec (kk _ _ _ hP hD hS hl)
  | ifnonnull off =>
    obtain rfl : len = 3 := by simpa [ilen] using hlen
    simp only [sx, jmp] at hsx
    split at hsx <;> try (cases hsx; done)
    · split at hsx <;> cases hsx
      exact lv_ifnonnull hx hb hdec ‹_› (kk _ _ _ hP hD hS hl)
    · cases hsx
      exact lv_ifnonnullN hx hb hdec (kk _ _ _ hP hD hS hl)
  | tableswitch d lo hi offs =>
    simp only [sx] at hsx
    split at hsx <;> try (cases hsx; done)
    rename_i a r
    split at hsx <;> try (cases hsx; done)
    rename_i hg
    obtain ⟨hhi, hd0, hall⟩ := hg
    cases hsx
    have hsz : (offs.toList.length : Int) = (offs.size : Int) := by simp
    by_cases hout : a.toInt < lo ∨ hi < a.toInt
    · have := kk _ _ _ hP hD hS hl
      rw [tb_0 a pc d offs.toList lo (by rcases hout with h | h; exact Or.inl h; right; omega)] at this
      exact lv_tableOut hx hb hdec hout (by omega) this
    · have h1 : ¬ a.toInt < lo := fun h => hout (Or.inl h)
      have h2 : ¬ hi < a.toInt := fun h => hout (Or.inr h)
      obtain ⟨t, g1, g2⟩ := tb_1 a pc d offs.toList lo h1 (by omega)
      have := kk _ _ _ hP hD hS hl
      rw [g2] at this
      have ht : 0 ≤ (pc : Int) + t := by
        have := List.all_eq_true.mp hall t (List.mem_of_getElem? g1)
        simpa using this
      exact lv_tableIn hx hb hdec h1 h2 (by rw [← g1]; simp) (by omega) this
  | getfield i =>
    obtain rfl : len = 3 := by simpa [ilen] using hlen
    simp only [sx] at hsx
    split at hsx <;> try (cases hsx; done)
    rename_i a r
    split at hsx
    · rename_i hg
      cases hsx
      exact st_get hx hb hts hnw hown hK hP hk hdec (fL_word hck hg.2.1) hg.2.1 hg.1 hg.2.2 (kk _ _ _ hP hD hS hl)
    · split at hsx <;> try (cases hsx; done)
      rename_i hg
      obtain ⟨h20, hx2, rfl, hz0, hz5⟩ := hg
      cases hsx
      obtain ⟨ha, ht⟩ := hk.2.2.1 a h20
      have kk9 := kk _ _ _ hP hD hS hl
      have hgt : gv G (tokV (K.1 a).2 z) = tokV (K.1 a).2 z := by
        rcases (show z = 1 ∨ z = 2 ∨ z = 3 ∨ z = 4 by omega) with rfl | rfl | rfl | rfl <;> rfl
      rw [List.map_cons, hgt] at kk9
      exact st_getT hx hb hts hnw hown hTF hS ha ht hz0 hz5 hdec (fL_word hck hx2) hx2 kk9
  | getstatic i =>
    obtain rfl : len = 3 := by simpa [ilen] using hlen
    simp only [sx] at hsx
    split at hsx
    · rename_i hg
      cases hsx
      have hn : y < tokNL.length := hg.2
      have hne : (y == 42) = false := by simp; omega
      exact st_gets (nm := tokNL.getD y "") (C := "NameOrchard$Token") (d := "LNameOrchard$Token;") hx hb hts hnw hown (hTF.1.1 y hn).1 hS hdec (sL_word hck hg.1) (by unfold sW sC; rw [hne]; rfl) hg.1 (kk _ _ _ hP hD hS hl)
    · split at hsx <;> try (cases hsx; done)
      rename_i hg
      obtain ⟨hx2, rfl⟩ := hg
      cases hsx
      exact st_gets (nm := "$SwitchMap$NameOrchard$Token") (C := "NameOrchard$1") (d := "[I") hx hb hts hnw hown hTF.2.2.1 hS hdec (sL_word hck hx2) rfl hx2 (kk _ _ _ hP hD hS hl)
  | if_acmp cn off =>
    obtain rfl : len = 3 := by simpa [ilen] using hlen
    simp only [sx, jmp] at hsx
    split at hsx <;> try (cases hsx; done)
    · split at hsx <;> try (cases hsx; done)
      rename_i b a r hg
      split at hsx <;> try (cases hsx; done)
      rename_i ht
      cases hsx
      have hinj : some (G a) = some (G b) ↔ a = b := ⟨fun h => hk.2.2.2.2 a b hg.1 hg.2 (Option.some.inj h), fun h => by rw [h]⟩
      cases cn <;> simp only [acm] at kk
      · exact lv_acmp_eq (rx := some (G a)) (ry := some (G b)) hx hb hdec ht (fun h => by have := kk _ _ _ hP hD hS hl; rwa [if_pos (hinj.mp h)] at this) (fun h => by have := kk _ _ _ hP hD hS hl; rwa [if_neg (fun q => h (hinj.mpr q))] at this)
      · exact lv_acmp_ne (rx := some (G a)) (ry := some (G b)) hx hb hdec ht (fun h => by have := kk _ _ _ hP hD hS hl; rwa [if_neg (fun q => h (hinj.mpr q))] at this) (fun h => by have := kk _ _ _ hP hD hS hl; rwa [if_pos (hinj.mp h)] at this)
    · rename_i a r
      split at hsx <;> try (cases hsx; done)
      rename_i ht
      cases hsx
      cases cn <;> simp only [acn] at kk
      · exact lv_acmp_eq (rx := some (G a)) (ry := none) hx hb hdec ht (fun h => by cases h) (fun _ => kk _ _ _ hP hD hS hl)
      · exact lv_acmp_ne (rx := some (G a)) (ry := none) hx hb hdec ht (fun _ => kk _ _ _ hP hD hS hl) (fun h => by cases h)
    · rename_i b r
      split at hsx <;> try (cases hsx; done)
      rename_i ht
      cases hsx
      cases cn <;> simp only [acn] at kk
      · exact lv_acmp_eq (rx := none) (ry := some (G b)) hx hb hdec ht (fun h => by cases h) (fun _ => kk _ _ _ hP hD hS hl)
      · exact lv_acmp_ne (rx := none) (ry := some (G b)) hx hb hdec ht (fun _ => kk _ _ _ hP hD hS hl) (fun h => by cases h)
  | aastore =>
    obtain rfl : len = 1 := by simpa [ilen] using hlen
    simp only [sx] at hsx
    split at hsx <;> try (cases hsx; done)
    · rename_i v i a r
      split at hsx <;> try (cases hsx; done)
      rename_i hty
      split at hsx <;> try (cases hsx; done)
      rename_i hin
      cases hsx
      obtain ⟨q, hq, hwq⟩ := wl_get (K := K) (G := G) (cy := cy) S (hk.1 a (by omega))
      rw [cE_arrQ (t := (K.1 a).1) (n := (K.1 a).2) rfl (by omega)] at hwq
      have hset := wl_set (S' := wQ S a i.toNatClampNeg (some v)) (e' := .inl (cy (K.1 a).1, (K.1 a).2, .inr (.inr (.inr (.inr (va_up (fun j => (rQ S a j).map G) i.toNatClampNeg (some (G v)))))))) hD hq (by rw [cE_arrQ (t := (K.1 a).1) (n := (K.1 a).2) rfl (by omega), rQ_wQ_s]; congr 7; funext j; unfold va_up; split <;> rfl) (fun b hb9 => cE_Q_n hb9)
      rcases hty with ⟨h5, h20⟩ | ⟨h6, hv⟩ | ⟨h7, hv⟩
      · rw [h5] at hwq hset
        exact st_astT hx hb hTF hK hP hD hS hk hwq (hk.2.2.1 v h20).1 (hk.2.2.1 v h20).2 hin hdec (fun H1 locs1 g1 g2 g3 => by rw [hset] at g1 g2; exact kk _ _ _ g1 g2 g3 hl)
      · rw [h6] at hwq hset
        obtain ⟨qk, hqk, hwk⟩ := wl_get (K := K) (G := G) (cy := cy) S (hk.1 v (by simp [hv]))
        have hce : cE K G cy S v = .inr (6, fL' K G S v 6) := by unfold cE; rw [hv]; rfl
        rw [hce] at hwk
        exact va_astq hx hb hK hP hD hS q 5 qk 6 hwq rfl hwk (kCl_at 6 (by decide)) hin hdec (fun H1 locs1 g1 g2 g3 => by rw [hset] at g1 g2; exact kk _ _ _ g1 g2 g3 hl)
      · rw [h7] at hwq hset
        obtain ⟨qk, hqk, hwk⟩ := wl_get (K := K) (G := G) (cy := cy) S (hk.1 v (by simp [hv]))
        have hce : cE K G cy S v = .inr (5, fL' K G S v 5) := by unfold cE; rw [hv]; rfl
        rw [hce] at hwk
        exact va_astq hx hb hK hP hD hS q 6 qk 5 hwq rfl hwk (kCl_at 5 (by decide)) hin hdec (fun H1 locs1 g1 g2 g3 => by rw [hset] at g1 g2; exact kk _ _ _ g1 g2 g3 hl)
    · rename_i i a r
      split at hsx <;> try (cases hsx; done)
      rename_i hty
      split at hsx <;> try (cases hsx; done)
      rename_i hin
      cases hsx
      obtain ⟨q, hq, hwq⟩ := wl_get (K := K) (G := G) (cy := cy) S (hk.1 a (by omega))
      rw [cE_arrQ (t := (K.1 a).1) (n := (K.1 a).2) rfl hty.1] at hwq
      have hset := wl_set (S' := wQ S a i.toNatClampNeg none) (e' := .inl (cy (K.1 a).1, (K.1 a).2, .inr (.inr (.inr (.inr (va_up (fun j => (rQ S a j).map G) i.toNatClampNeg none)))))) hD hq (by rw [cE_arrQ (t := (K.1 a).1) (n := (K.1 a).2) rfl hty.1, rQ_wQ_s]; congr 7; funext j; unfold va_up; split <;> rfl) (fun b hb9 => cE_Q_n hb9)
      have hc9 : ∃ (t0 : Nat) (C : String), (tysL cy)[t0]? = some (cy (K.1 a).1, .object C) := by
        rcases (show (K.1 a).1 = 5 ∨ (K.1 a).1 = 6 ∨ (K.1 a).1 = 7 by omega) with h | h | h <;> rw [h]
        · exact ⟨4, _, rfl⟩
        · exact ⟨5, _, rfl⟩
        · exact ⟨6, _, rfl⟩
      obtain ⟨t0, C, hC⟩ := hc9
      exact va_astqN hx hb hK hP hD hS q t0 hwq hC hin hdec (fun H1 locs1 g1 g2 g3 => by rw [hset] at g1 g2; exact kk _ _ _ g1 g2 g3 hl)
  | putfield i =>
    obtain rfl : len = 3 := by simpa [ilen] using hlen
    simp only [sx] at hsx
    split at hsx <;> try (cases hsx; done)
    · split at hsx <;> try (cases hsx; done)
      rename_i v a r hg
      obtain ⟨ha, hx2, hfin, hz⟩ := hg
      have hy : y < 13 := by have := hk.2.1 a (by rw [ha]); rw [ha] at this; exact this
      have ht := k_tag y hy z hz
      have he : ∀ w : Int32, (kG y z = 0 ∨ kG y z = 3) → cE K G cy (wI S a z w) a = .inr (y, (fL' K G S a y).set z (.int w)) := fun w h => by
        unfold cE
        rw [ha]
        simp only [if_pos]
        rw [fL_I hz h]
      split at hsx <;> try (cases hsx; done)
      · rename_i h0
        cases hsx
        exact st_put (ty := .int) hx hb hts hnw hown hK hP hD hS hk hdec (fL_word hck hx2) hx2 ha hz hfin (by rcases ht with h | h | h | h <;> simp_all) rfl rfl (he v (Or.inl h0)) (fun b hb9 => cE_I_n hb9) (fun H1 locs1 g1 g2 g3 => kk H1 locs1 ls g1 g2 g3 hl)
      · rename_i h0
        split at hsx <;> try (cases hsx; done)
        rename_i hbo
        cases hsx
        exact st_put (ty := .boolean) hx hb hts hnw hown hK hP hD hS hk hdec (fL_word hck hx2) hx2 ha hz hfin (by rcases ht with h | h | h | h <;> simp_all) (nar_Z hbo) (fits_Z hbo) (he v (Or.inr h0)) (fun b hb9 => cE_I_n hb9) (fun H1 locs1 g1 g2 g3 => kk H1 locs1 ls g1 g2 g3 hl)
    · split at hsx <;> try (cases hsx; done)
      rename_i v a r hg
      obtain ⟨ha, hx2, hfin, hz, h0⟩ := hg
      have hy : y < 13 := by have := hk.2.1 a (by rw [ha]); rw [ha] at this; exact this
      have ht := k_tag y hy z hz
      cases hsx
      exact st_put (ty := .long) hx hb hts hnw hown hK hP hD hS hk hdec (fL_word hck hx2) hx2 ha hz hfin (by rcases ht with h | h | h | h <;> simp_all) rfl rfl (by unfold cE; rw [ha]; simp only [if_pos]; rw [fL_J hz h0]; rfl) (fun b hb9 => cE_J_n hb9) (fun H1 locs1 g1 g2 g3 => kk H1 locs1 ls g1 g2 g3 hl)
    · split at hsx <;> try (cases hsx; done)
      rename_i v a r hg
      obtain ⟨ha, hx2, hfin, hz, h0, hf⟩ := hg
      have hy : y < 13 := by have := hk.2.1 a (by rw [ha]); rw [ha] at this; exact this
      have ht := k_tag y hy z hz
      cases hsx
      have hty : (∃ t, kY y z = .object t) ∨ ∃ t, kY y z = .array t := by rcases ht with h | h | h | h <;> simp_all
      refine st_put (v := .ref (G v)) hx hb hts hnw hown hK hP hD hS hk hdec (fL_word hck hx2) hx2 ha hz hfin rfl ?_ ?_ (by unfold cE; rw [ha]; simp only [if_pos]; rw [fL_Q hz h0 hf]) (fun b hb9 => cE_Q_n hb9) (fun H1 locs1 g1 g2 g3 => kk H1 locs1 ls g1 g2 g3 hl)
      · rcases hty with ⟨t, ht⟩ | ⟨t, ht⟩ <;> rw [ht] <;> rfl
      · rcases hty with ⟨t, ht⟩ | ⟨t, ht⟩ <;> rw [ht] <;> rfl
  | iaload =>
    obtain rfl : len = 1 := by simpa [ilen] using hlen
    simp only [sx] at hsx
    split at hsx <;> try (cases hsx; done)
    rename_i i a r
    split at hsx
    · rename_i ha1
      have ha : K.1 a = (1, (K.1 a).2) := by rw [← ha1]
      split at hsx <;> try (cases hsx; done)
      rename_i hin
      cases hsx
      obtain ⟨q, hq, hwq⟩ := wl_get (K := K) (G := G) (cy := cy) S (hk.1 a (by omega))
      rw [cE_arr ha (by decide) (by decide)] at hwq
      exact va_iald hx hb hK hP q 0 hwq rfl hin hdec (kk _ _ _ hP hD hS hl)
    · split at hsx <;> try (cases hsx; done)
      rename_i h30
      split at hsx <;> try (cases hsx; done)
      rename_i hin
      cases hsx
      obtain ⟨rfl, hn⟩ := hk.2.2.2.1 a h30
      rw [hn] at hin
      exact va_ti hx hb hTF.2.2.2 hS hin rfl hdec (kk _ _ _ hP hD hS hl)
  | caload =>
    obtain rfl : len = 1 := by simpa [ilen] using hlen
    simp only [sx] at hsx
    split at hsx <;> try (cases hsx; done)
    rename_i i a r
    split at hsx <;> try (cases hsx; done)
    rename_i ha1
    have ha : K.1 a = (2, (K.1 a).2) := by rw [← ha1]
    split at hsx <;> try (cases hsx; done)
    rename_i hin
    cases hsx
    obtain ⟨q, hq, hwq⟩ := wl_get (K := K) (G := G) (cy := cy) S (hk.1 a (by omega))
    rw [cE_arr ha (by decide) (by decide)] at hwq
    exact va_cald hx hb hK hP q 1 hwq rfl hin hdec (kk _ _ _ hP hD hS hl)
  | baload =>
    obtain rfl : len = 1 := by simpa [ilen] using hlen
    simp only [sx] at hsx
    split at hsx <;> try (cases hsx; done)
    rename_i i a r
    split at hsx <;> try (cases hsx; done)
    rename_i ha1
    have ha : K.1 a = (3, (K.1 a).2) := by rw [← ha1]
    split at hsx <;> try (cases hsx; done)
    rename_i hin
    cases hsx
    obtain ⟨q, hq, hwq⟩ := wl_get (K := K) (G := G) (cy := cy) S (hk.1 a (by omega))
    rw [cE_arr ha (by decide) (by decide)] at hwq
    exact va_zald hx hb hK hP q 2 hwq rfl hin hdec (kk _ _ _ hP hD hS hl)
  | laload =>
    obtain rfl : len = 1 := by simpa [ilen] using hlen
    simp only [sx] at hsx
    split at hsx <;> try (cases hsx; done)
    rename_i i a r
    split at hsx <;> try (cases hsx; done)
    rename_i ha1
    have ha : K.1 a = (4, (K.1 a).2) := by rw [← ha1]
    split at hsx <;> try (cases hsx; done)
    rename_i hin
    cases hsx
    obtain ⟨q, hq, hwq⟩ := wl_get (K := K) (G := G) (cy := cy) S (hk.1 a (by omega))
    rw [cE_arrJ ha] at hwq
    exact va_lald hx hb hK hP q 3 hwq rfl hin hdec (kk _ _ _ hP hD hS hl)
  | aaload =>
    obtain rfl : len = 1 := by simpa [ilen] using hlen
    simp only [sx] at hsx
    split at hsx <;> try (cases hsx; done)
    split at hsx <;> try (cases hsx; done)
    rename_i i a r hty
    split at hsx <;> try (cases hsx; done)
    rename_i hin
    cases hsx
    obtain ⟨q, hq, hwq⟩ := wl_get (K := K) (G := G) (cy := cy) S (hk.1 a (by omega))
    rw [cE_arrQ (t := (K.1 a).1) (n := (K.1 a).2) rfl hty.1] at hwq
    have kk9 := kk _ _ _ hP hD hS hl
    simp only [List.map_cons, gv_qv] at kk9
    have hc9 : ∃ (t0 : Nat) (C : String), (tysL cy)[t0]? = some (cy (K.1 a).1, .object C) := by
      rcases (show (K.1 a).1 = 5 ∨ (K.1 a).1 = 6 ∨ (K.1 a).1 = 7 by omega) with h | h | h <;> rw [h]
      · exact ⟨4, _, rfl⟩
      · exact ⟨5, _, rfl⟩
      · exact ⟨6, _, rfl⟩
    obtain ⟨t0, C, hC⟩ := hc9
    exact va_aldq hx hb hK hP q t0 hwq hC hin hdec kk9
  | iastore =>
    obtain rfl : len = 1 := by simpa [ilen] using hlen
    simp only [sx] at hsx
    split at hsx <;> try (cases hsx; done)
    rename_i v i a r
    split at hsx <;> try (cases hsx; done)
    rename_i ha1
    have ha : K.1 a = (1, (K.1 a).2) := by rw [← ha1]
    split at hsx <;> try (cases hsx; done)
    rename_i hin
    cases hsx
    obtain ⟨q, hq, hwq⟩ := wl_get (K := K) (G := G) (cy := cy) S (hk.1 a (by omega))
    rw [cE_arr ha (by decide) (by decide)] at hwq
    refine va_iast hx hb hK hP hD hS q 0 hwq rfl hin hdec (fun H1 locs1 g1 g2 g3 => ?_)
    rw [wl_set (S' := wI S a i.toNatClampNeg v) hD hq (by rw [cE_arr ha (by decide) (by decide), rI_wI_s]) (fun b hb9 => cE_I_n hb9)] at g1 g2
    exact kk _ _ _ g1 g2 g3 hl
  | castore =>
    obtain rfl : len = 1 := by simpa [ilen] using hlen
    simp only [sx] at hsx
    split at hsx <;> try (cases hsx; done)
    rename_i v i a r
    split at hsx <;> try (cases hsx; done)
    rename_i ha1
    have ha : K.1 a = (2, (K.1 a).2) := by rw [← ha1]
    split at hsx <;> try (cases hsx; done)
    rename_i hin
    cases hsx
    obtain ⟨q, hq, hwq⟩ := wl_get (K := K) (G := G) (cy := cy) S (hk.1 a (by omega))
    rw [cE_arr ha (by decide) (by decide)] at hwq
    refine va_cast hx hb hK hP hD hS q 1 hwq rfl hin hdec (fun H1 locs1 g1 g2 g3 => ?_)
    rw [wl_set (S' := wI S a i.toNatClampNeg (vp_nar .char v)) hD hq (by rw [cE_arr ha (by decide) (by decide), rI_wI_s]) (fun b hb9 => cE_I_n hb9)] at g1 g2
    exact kk _ _ _ g1 g2 g3 hl
  | bastore =>
    obtain rfl : len = 1 := by simpa [ilen] using hlen
    simp only [sx] at hsx
    split at hsx <;> try (cases hsx; done)
    rename_i v i a r
    split at hsx <;> try (cases hsx; done)
    rename_i ha1
    have ha : K.1 a = (3, (K.1 a).2) := by rw [← ha1]
    split at hsx <;> try (cases hsx; done)
    rename_i hin
    cases hsx
    obtain ⟨q, hq, hwq⟩ := wl_get (K := K) (G := G) (cy := cy) S (hk.1 a (by omega))
    rw [cE_arr ha (by decide) (by decide)] at hwq
    refine va_zast hx hb hK hP hD hS q 2 hwq rfl hin hdec (fun H1 locs1 g1 g2 g3 => ?_)
    rw [wl_set (S' := wI S a i.toNatClampNeg (vp_nar .boolean v)) hD hq (by rw [cE_arr ha (by decide) (by decide), rI_wI_s]) (fun b hb9 => cE_I_n hb9)] at g1 g2
    exact kk _ _ _ g1 g2 g3 hl
  | lastore =>
    obtain rfl : len = 1 := by simpa [ilen] using hlen
    simp only [sx] at hsx
    split at hsx <;> try (cases hsx; done)
    rename_i v i a r
    split at hsx <;> try (cases hsx; done)
    rename_i ha1
    have ha : K.1 a = (4, (K.1 a).2) := by rw [← ha1]
    split at hsx <;> try (cases hsx; done)
    rename_i hin
    cases hsx
    obtain ⟨q, hq, hwq⟩ := wl_get (K := K) (G := G) (cy := cy) S (hk.1 a (by omega))
    rw [cE_arrJ ha] at hwq
    refine va_last hx hb hK hP hD hS q 3 hwq rfl hin hdec (fun H1 locs1 g1 g2 g3 => ?_)
    rw [wl_set (S' := wJ S a i.toNatClampNeg v) hD hq (by rw [cE_arrJ ha, rJ_wJ_s]) (fun b hb9 => cE_J_n hb9)] at g1 g2
    exact kk _ _ _ g1 g2 g3 hl
  | arraylength =>
    obtain rfl : len = 1 := by simpa [ilen] using hlen
    simp only [sx] at hsx
    split at hsx <;> try (cases hsx; done)
    rename_i a r
    split at hsx <;> try (cases hsx; done)
    rename_i hty
    cases hsx
    obtain ⟨q, hq, hwq⟩ := wl_get (K := K) (G := G) (cy := cy) S (hk.1 a (by omega))
    have hc9 : ∃ (v9 : vp_A) (t0 : Nat) (ty : FieldType), cE K G cy S a = .inl (cy (K.1 a).1, v9) ∧ v9.1 = (K.1 a).2 ∧ (tysL cy)[t0]? = some (cy (K.1 a).1, ty) := by
      generalize hka : K.1 a = ka at hty
      obtain ⟨t, n⟩ := ka
      simp only at hty ⊢
      rcases (show t = 1 ∨ t = 2 ∨ t = 3 ∨ t = 4 ∨ t = 5 ∨ t = 6 ∨ t = 7 by omega) with rfl | rfl | rfl | rfl | rfl | rfl | rfl
      · exact ⟨_, 0, _, cE_arr hka (by decide) (by decide), rfl, rfl⟩
      · exact ⟨_, 1, _, cE_arr hka (by decide) (by decide), rfl, rfl⟩
      · exact ⟨_, 2, _, cE_arr hka (by decide) (by decide), rfl, rfl⟩
      · exact ⟨_, 3, _, cE_arrJ hka, rfl, rfl⟩
      · exact ⟨_, 4, _, cE_arrQ hka (by decide), rfl, rfl⟩
      · exact ⟨_, 5, _, cE_arrQ hka (by decide), rfl, rfl⟩
      · exact ⟨_, 6, _, cE_arrQ hka (by decide), rfl, rfl⟩
    obtain ⟨v9, t0, ty, g1, g2, g3⟩ := hc9
    rw [g1] at hwq
    exact va_alen hx hb hK hP q t0 hwq g3 (by rw [g2]) hdec (kk _ _ _ hP hD hS hl)
  | _ => cases hsx
end SXP
