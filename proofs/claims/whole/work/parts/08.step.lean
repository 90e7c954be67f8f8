/-! One instruction of part 06 is one of the machine. -/
def ilen : Instr → Nat
  | .bipush _ | .iload _ | .lload _ | .aload _ | .istore _ | .lstore _ | .astore _ => 2
  | .sipush _ | .ldc_w _ | .ldc2_w _ | .iinc _ _ | .goto _ | .if_icmp _ _ | .ifCond _ _ | .if_acmp _ _ | .ifnull _ | .ifnonnull _ | .getfield _ | .putfield _ | .getstatic _ | .invokevirtual _ | .invokestatic _ | .invokespecial _ | .anewarray _ | .new _ => 3
  | .tableswitch _ _ _ _ => 0
  | .ldc _ | .newarray _ => 2
  | _ => 1
def chkL (e : Nat × Xi) : Bool := ilen e.2.1 == 0 || e.2.2.1 == ilen e.2.1
set_option maxRecDepth 100000 in
theorem len_all : ∀ l ∈ mXX, ∀ e ∈ l, e.2.all chkL = true := by decide +kernel
theorem mX_len {M : Nat} {e : MI × List (Nat × Xi)} (h : mX M = some e) : e.2.all chkL = true := by
  have h1 := List.mem_of_getElem? h
  rw [List.getD_eq_getElem?_getD] at h1
  cases hl : mXX[M / 200]? with
  | none => rw [hl] at h1; exact absurd h1 List.not_mem_nil
  | some l => rw [hl] at h1; exact len_all l (List.mem_of_getElem? hl) e h1
/-- what stands of the tables, of the names' kinds, and of the world, for a frame -/
def tysL (cy : Nat → ClassId) : List (ClassId × FieldType) := [(cy 1, .int), (cy 2, .char), (cy 3, .boolean), (cy 4, .long), (cy 5, .object "NameOrchard$Token"), (cy 6, .object "NameOrchard$State"), (cy 7, .object "NameOrchard$Standing")]
def okK (K : Cfg) (L : List Nat) (G : Nat → Nat) : Prop := (∀ a, (K.1 a).1 < 8 → a ∈ L) ∧ (∀ a, (K.1 a).1 = 0 → (K.1 a).2 < 13) ∧ (∀ a, (K.1 a).1 = 20 → a = 1000 + (K.1 a).2 ∧ (K.1 a).2 < 42) ∧ (∀ a, (K.1 a).1 = 30 → a = 1100 ∧ (K.1 a).2 = 42) ∧ ∀ a b, ((K.1 a).1 < 8 ∨ (K.1 a).1 = 20) → ((K.1 b).1 < 8 ∨ (K.1 b).1 = 20) → G a = G b → a = b
theorem nar_Z {v : Int32} (h : isBo v = true) : narrow .boolean (.int v) = .int v := by
  simp only [isBo, Bool.or_eq_true, beq_iff_eq] at h
  rcases h with rfl | rfl <;> rfl
theorem fits_Z {v : Int32} (h : isBo v = true) : fits .boolean (.int v) = true := h
theorem rngmap {α : Type} (f : Nat → α) {n k : Nat} (h : k < n) : ((List.range n).map f)[k]? = some (f k) := by simp [h]
theorem gv_qv (G : Nat → Nat) (o : Option Nat) : gv G (qv o) = va_rf (o.map G) := by cases o <;> rfl
theorem fT_kT {y k : Nat} (hy : y < 13) (hk : k < kF y) : fT y k = kT y k := by
  unfold fT
  split
  · rename_i h
    subst h
    exact absurd hk (by have h9 : kF 9 = 0 := rfl; omega)
  · rfl
theorem fL_word {o i x y z : Nat} (h : (fL.any (fun f => f.1 == o && (f.2.1 == i && (f.2.2.1 == x && (f.2.2.2.1 == y && f.2.2.2.2.1 == z)))) || x == 9) = true) (hx : x < 2) : fW o i x y z ∈ lw_tbl := by
  rcases Bool.or_eq_true_iff.mp h with h | h
  · obtain ⟨f, hf, h1⟩ := List.any_eq_true.mp h
    simp only [Bool.and_eq_true, beq_iff_eq] at h1
    obtain ⟨rfl, rfl, rfl, rfl, rfl⟩ := h1
    exact List.mem_of_getElem? (fL_ok f hf)
  · have : x = 9 := by simpa using h
    omega
section SXO
variable {K : Cfg} {G : Nat → Nat} {cy : Nat → ClassId} {L : List Nat} {D : va_G} {A : Nat → Prop} {S S' : St}
variable {p : Program} {l : Launch} {e : Env} {R : Room} {s : State} {m : MethodId} {args : Array Value} {below : List Frame} {meth : Method} {c : Code} {H : Heap} {locs : List Loc} {cells slots : Nat} {Q : State → Prop}
variable {cc : ByteArray} {pc : Nat} {ls : Array Slot}
/-- a field is read -/
theorem st_get {o i x y z a : Nat} {rest : List Value} (hx : p.tables.exec = Jvm.exec) (hb : c.code = cc) (hts : ∀ w ∈ gw, w.before args s = true) (hnw : ∀ w ∈ nw, va_Nw w s) (hown : s.vm.findClass (kN o) = some m.cls) (hK : va_K D kCl (tysL cy) s) (hP : va_P D kCl (wl K G cy L S) H) (hk : okK K L G)
    (hdec : decode cc pc = .ok (.getfield i, 3)) (hw : fW o i x y z ∈ lw_tbl) (hx2 : x < 2) (ha : K.1 a = (0, y)) (hz : z < kF y)
    (kk : W p l e R s m args below meth c H locs cells slots Q (F0 m (pc + 3) ls (gv G (fget K S a y z) :: rest))) : W p l e R s m args below meth c H locs cells slots Q (F0 m pc ls (.ref (G a) :: rest)) := by
  have hy : y < 13 := by have := hk.2.1 a (by rw [ha]); rw [ha] at this; exact this
  obtain ⟨q, hq, hwq⟩ := wl_get (K := K) (G := G) (cy := cy) S (hk.1 a (by simp [ha]))
  have hce : cE K G cy S a = .inr (y, fL' K G S a y) := by unfold cE; rw [ha]; rfl
  rw [hce] at hwq
  have hv : (fL' K G S a y)[z]? = some (gv G (fget K S a y z)) := rngmap _ hz
  have hft := fT_kT hy hz
  unfold fW at hw
  rw [hft] at hw
  rcases (show x = 0 ∨ x = 1 by omega) with rfl | rfl
  · exact va_get (own := kN o) (ref := (kT y z).1) (C := kN y) (T := kT y) (N := kF y) (ci := y) (Ts := gw) hx hb hts (k_ws y hy) hown hK hP q hwq (kCl_at y hy) z hz (hts _ (gw_in hw rfl)) (fun _ h => h) hv hdec kk
  · exact va_getN (own := kN o) (ref := (kT y z).1) (C := kN y) (T := kT y) (N := kF y) (ci := y) (Ts := gw) (host := "NameOrchard") hx hb hts (k_ws y hy) hown hK hP q hwq (kCl_at y hy) z hz (va_Nw.use rfl (hnw _ (nw_in hw rfl))) (fun _ h => h) hv hdec kk
/-- a field is written -/
theorem st_put {o i x y z a : Nat} {v : Value} {ty : FieldType} {rest : List Value} (hx : p.tables.exec = Jvm.exec) (hb : c.code = cc) (hts : ∀ w ∈ gw, w.before args s = true) (hnw : ∀ w ∈ nw, va_Nw w s) (hown : s.vm.findClass (kN o) = some m.cls) (hK : va_K D kCl (tysL cy) s) (hP : va_P D kCl (wl K G cy L S) H) (hD : va_D A (wl K G cy L S)) (hS : va_S A s.heap H locs) (hk : okK K L G)
    (hdec : decode cc pc = .ok (.putfield i, 3)) (hw : fW o i x y z ∈ lw_tbl) (hx2 : x < 2) (ha : K.1 a = (0, y)) (hz : z < kF y) (hfin : (kT y z).2.2.2 = false) (hty : kY y z = ty) (hn : narrow ty v = v) (hfit : fits ty v = true)
    (h1 : cE K G cy S' a = .inr (y, (fL' K G S a y).set z v)) (h2 : ∀ b, b ≠ a → cE K G cy S' b = cE K G cy S b)
    (kk : ∀ (H1 : Heap) (locs1 : List Loc), va_P D kCl (wl K G cy L S') H1 → va_D A (wl K G cy L S') → va_S A s.heap H1 locs1 → W p l e R s m args below meth c H1 locs1 cells slots Q (F0 m (pc + 3) ls rest)) : W p l e R s m args below meth c H locs cells slots Q (F0 m pc ls (v :: .ref (G a) :: rest)) := by
  have hy : y < 13 := by have := hk.2.1 a (by rw [ha]); rw [ha] at this; exact this
  obtain ⟨q, hq, hwq⟩ := wl_get (K := K) (G := G) (cy := cy) S (hk.1 a (by simp [ha]))
  have hce : cE K G cy S a = .inr (y, fL' K G S a y) := by unfold cE; rw [ha]; rfl
  rw [hce] at hwq
  have hft := fT_kT hy hz
  unfold fW at hw
  rw [hft] at hw
  have hlen : z < (fL' K G S a y).length := by simp [fL', hz]
  have hpd : parseFieldDescriptor (kT y z).2.2.1 = some ty := by rw [← hty]; exact k_ty y hy z hz
  have hset := wl_set (e' := .inr (y, (fL' K G S a y).set z v)) hD hq h1 h2
  rcases (show x = 0 ∨ x = 1 by omega) with rfl | rfl
  · refine va_put (own := kN o) (ref := (kT y z).1) (C := kN y) (T := kT y) (N := kF y) (ci := y) (Ts := gw) hx hb hts (k_ws y hy) (kY y) (k_ty y hy) (k_nm y hy) hown hK hP hD hS q hwq (kCl_at y hy) z hz (hts _ (gw_in hw rfl)) (fun _ h => h) hfin hpd hn hfit hlen hdec (fun H1 locs1 g1 g2 g3 => ?_)
    rw [hset] at g1 g2
    exact kk H1 locs1 g1 g2 g3
  · refine va_putN (own := kN o) (ref := (kT y z).1) (C := kN y) (T := kT y) (N := kF y) (ci := y) (Ts := gw) (host := "NameOrchard") hx hb hts (k_ws y hy) (kY y) (k_ty y hy) (k_nm y hy) hown hK hP hD hS q hwq (kCl_at y hy) z hz (va_Nw.use rfl (hnw _ (nw_in hw rfl))) (fun _ h => h) hfin hpd hn hfit hlen hdec (fun H1 locs1 g1 g2 g3 => ?_)
    rw [hset] at g1 g2
    exact kk H1 locs1 g1 g2 g3
/-- a field of a constant -/
theorem st_getT {o i x z a : Nat} {rest : List Value} (hx : p.tables.exec = Jvm.exec) (hb : c.code = cc) (hts : ∀ w ∈ gw, w.before args s = true) (hnw : ∀ w ∈ nw, va_Nw w s) (hown : s.vm.findClass (kN o) = some m.cls) (hT : TF G A s s.heap) (hS : va_S A s.heap H locs) {t : Nat} (hat : a = 1000 + t) (ht : t < 42) (hz0 : 0 < z) (hz5 : z < 5)
    (hdec : decode cc pc = .ok (.getfield i, 3)) (hw : fW o i x 9 z ∈ lw_tbl) (hx2 : x < 2)
    (kk : W p l e R s m args below meth c H locs cells slots Q (F0 m (pc + 3) ls (tokV t z :: rest))) : W p l e R s m args below meth c H locs cells slots Q (F0 m pc ls (.ref (G a) :: rest)) := by
  subst hat
  have hOF : va_OF "NameOrchard$Token" (fT 9 z).2.1 (fT 9 z).2.2.1 (tokV t z) (G (1000 + t)) A s H := by
    have hn : t < tokNL.length := ht
    rcases (show z = 1 ∨ z = 2 ∨ z = 3 ∨ z = 4 by omega) with rfl | rfl | rfl | rfl
    · exact (hT.2.1 t ht).kept hS.2.1
    · exact ((hT.1.1 t hn).2.2 ("NameOrchard$Token", "strength", "I", tokIL) (by simp [tokFI])).kept hS.2.1
    · exact ((hT.1.1 t hn).2.2 ("NameOrchard$Token", "fact", "I", tokFL) (by simp [tokFI])).kept hS.2.1
    · exact ((hT.1.1 t hn).2.2 ("NameOrchard$Token", "ofNear", "Z", tokNL') (by simp [tokFI])).kept hS.2.1
  have hr : (fT 9 z).1 = "NameOrchard$Token" := by rcases (show z = 1 ∨ z = 2 ∨ z = 3 ∨ z = 4 by omega) with rfl | rfl | rfl | rfl <;> rfl
  obtain ⟨cf, k, fi, f, cell, h1, h2, h3, h4, h5, h6⟩ := hOF
  unfold fW at hw
  rw [hr] at hw
  rcases (show x = 0 ∨ x = 1 by omega) with rfl | rfl
  · exact W.getf hx hb hown (hts _ (gw_in hw rfl)) h1 h2 h3 h4 h5 rfl rfl hdec kk
  · exact va_Wgetf hx hb hown (va_Nw.use rfl (hnw _ (nw_in hw rfl))) h1 h2 h3 h4 h5 rfl rfl hdec kk
theorem sL_word {o i x y : Nat} (h : (sL.any (fun f => f.1 == o && (f.2.1 == i && (f.2.2.1 == x && f.2.2.2.1 == y))) || x == 9) = true) (hx : x < 2) : sW o i x y ∈ lw_tbl := by
  rcases Bool.or_eq_true_iff.mp h with h | h
  · obtain ⟨f, hf, h1⟩ := List.any_eq_true.mp h
    simp only [Bool.and_eq_true, beq_iff_eq] at h1
    obtain ⟨rfl, rfl, rfl, rfl⟩ := h1
    exact List.mem_of_getElem? (sL_ok f hf)
  · have : x = 9 := by simpa using h
    omega
/-- a constant, or the switch's table, out of its static field -/
theorem st_gets {o i x y : Nat} {rest : List Value} {nm C d : String} {v : Value} (hx : p.tables.exec = Jvm.exec) (hb : c.code = cc) (hts : ∀ w ∈ gw, w.before args s = true) (hnw : ∀ w ∈ nw, va_Nw w s) (hown : s.vm.findClass (kN o) = some m.cls) (hZ : va_Z C nm d v A s s.heap) (hS : va_S A s.heap H locs)
    (hdec : decode cc pc = .ok (.getstatic i, 3)) (hw : sW o i x y ∈ lw_tbl) (hsw : sW o i x y = bif x == 0 then Cond.fieldLink (kN o) i C nm d else Cond.fieldLinkNest (kN o) i C nm d "NameOrchard") (hx2 : x < 2)
    (kk : W p l e R s m args below meth c H locs cells slots Q (F0 m (pc + 3) ls (v :: rest))) : W p l e R s m args below meth c H locs cells slots Q (F0 m pc ls rest) := by
  rw [hsw] at hw
  rcases (show x = 0 ∨ x = 1 by omega) with rfl | rfl
  · exact va_gets hx hb hZ hS hown (hts _ (gw_in hw rfl)) (fun _ h => h) hdec kk
  · exact va_getsN hx hb hZ hS hown (va_Nw.use rfl (hnw _ (nw_in hw rfl))) (fun _ h => h) hdec kk
end SXO
