/-! The worlds of the machine that part 06's states speak of. G: the address of a name; cy: the classes of the arrays; L: the names that are there. -/
def gv (G : Nat → Nat) : Value → Value
  | .ref a => .ref (G a)
  | v => v
theorem gv_cat (G : Nat → Nat) (v : Value) : (gv G v).category = v.category := by cases v <;> rfl
def gl (G : Nat → Nat) (lc : Lc) : Lc := lc.map (fun q => (q.1, gv G q.2))
theorem gl_lset1 {G : Nat → Nat} {lc : Lc} {i : Nat} {v : Value} : (i, gv G v) :: (gl G lc).filter (fun q => !(q.1 == i) && !(q.1 + 1 == i && q.2.category == 2)) = gl G (lset1 lc i v) := by
  simp only [gl, lset1, List.map_cons, List.filter_map]
  congr 3
  funext q
  simp [Function.comp, gv_cat]
theorem gl_lset2 {G : Nat → Nat} {lc : Lc} {i : Nat} {v : Value} : (i, gv G v) :: (gl G lc).filter (fun q => !(q.1 == i) && (!(q.1 == i + 1) && !(q.1 + 1 == i && q.2.category == 2))) = gl G (lset2 lc i v) := by
  simp only [gl, lset2, List.map_cons, List.filter_map]
  congr 3
  funext q
  simp [Function.comp, gv_cat]
theorem lget_mem {lc : Lc} {i : Nat} {v : Value} (h : lget lc i = some v) : (i, v) ∈ lc := by
  induction lc with
  | nil => simp [lget] at h
  | cons q l ih =>
    obtain ⟨j, w⟩ := q
    unfold lget at h ih
    rw [List.lookup_cons] at h
    by_cases hij : i = j
    · subst hij
      simp at h
      subst h
      exact List.mem_cons_self
    · have : (i == j) = false := by simpa using hij
      rw [this] at h
      exact List.mem_cons_of_mem _ (ih h)
theorem lget_ix {G : Nat → Nat} {lc : Lc} {i : Nat} {v : Value} (h : lget lc i = some v) : ∃ k : Nat, (gl G lc)[k]? = some (i, gv G v) :=
  List.getElem?_of_mem (List.mem_map.mpr ⟨_, lget_mem h, rfl⟩)
theorem lget_at {G : Nat → Nat} {lc : Lc} {ls : Array Slot} {nL i : Nat} {v : Value} (hl : lv_has ls nL (gl G lc)) (h : lget lc i = some v) : ls[i]? = some (.val (gv G v)) := by
  obtain ⟨k, hk⟩ := lget_ix (G := G) h
  exact lv_at hl k hk
theorem gl_args (G : Nat → Nat) : ∀ (vs : List Value) (i : Nat), gl G (lv_args i vs) = lv_args i (vs.map (gv G))
  | [], _ => rfl
  | v :: vs, i => by
    simp only [lv_args, gl, List.map_cons, gv_cat]
    congr 1
    exact gl_args G vs _
theorem csum_sl (vs : List Value) : (lg_sl vs).length = csum vs := by
  induction vs with
  | nil => rfl
  | cons v t ih =>
    have e1 : lg_sl (v :: t) = (if v.category = 2 then [Slot.val v, .second] else [.val v]) ++ lg_sl t := rfl
    have e2 : csum (v :: t) = v.category + csum t := by simp [csum]
    rw [e1, e2, List.length_append, ih]
    rcases lv_cat v with h | h <;> simp [h]
theorem csum_map (G : Nat → Nat) (vs : List Value) : csum (vs.map (gv G)) = csum vs := by
  simp only [csum, List.map_map]
  congr 1
  exact List.map_congr_left (fun v _ => gv_cat G v)
/-! reading behind writing -/
theorem up2_s {α : Type} (f : Nat → Nat → α) (a k : Nat) (v : α) : up2 f a k v a = fun j => if j = k then v else f a j := by funext j; simp [up2]
theorem up2_n {α : Type} (f : Nat → Nat → α) {a b : Nat} (k : Nat) (v : α) (h : b ≠ a) : up2 f a k v b = f b := by funext j; simp [up2, h]
theorem rI_wI_s (S : St) (a k : Nat) (v : Int32) : rI (wI S a k v) a = upd (rI S a) k v := by unfold rI wI upd; simp [up2_s]
theorem rI_wI_n (S : St) {a b : Nat} (k : Nat) (v : Int32) (hn : b ≠ a) : rI (wI S a k v) b = rI S b := by unfold rI wI; simp [up2_n _ _ _ hn]
theorem rJ_wI (S : St) (a b k : Nat) (v : Int32) : rJ (wI S a k v) b = rJ S b := rfl
theorem rQ_wI (S : St) (a b k : Nat) (v : Int32) : rQ (wI S a k v) b = rQ S b := rfl
theorem rJ_wJ_s (S : St) (a k : Nat) (v : Int64) : rJ (wJ S a k v) a = vp_updL (rJ S a) k v := by unfold rJ wJ vp_updL; simp [up2_s]
theorem rJ_wJ_n (S : St) {a b : Nat} (k : Nat) (v : Int64) (hn : b ≠ a) : rJ (wJ S a k v) b = rJ S b := by unfold rJ wJ; simp [up2_n _ _ _ hn]
theorem rI_wJ (S : St) (a b k : Nat) (v : Int64) : rI (wJ S a k v) b = rI S b := rfl
theorem rQ_wJ (S : St) (a b k : Nat) (v : Int64) : rQ (wJ S a k v) b = rQ S b := rfl
theorem rQ_wQ_s (S : St) (a k : Nat) (v : Option Nat) : rQ (wQ S a k v) a = va_up (rQ S a) k v := by unfold rQ wQ va_up; simp [up2_s]
theorem rQ_wQ_n (S : St) {a b : Nat} (k : Nat) (v : Option Nat) (hn : b ≠ a) : rQ (wQ S a k v) b = rQ S b := by unfold rQ wQ; simp [up2_n _ _ _ hn]
theorem rI_wQ (S : St) (a b k : Nat) (v : Option Nat) : rI (wQ S a k v) b = rI S b := rfl
theorem rJ_wQ (S : St) (a b k : Nat) (v : Option Nat) : rJ (wQ S a k v) b = rJ S b := rfl
/-- the fields of an object -/
def fL' (K : Cfg) (G : Nat → Nat) (S : St) (a c : Nat) : List Value := (List.range (kF c)).map (fun k => gv G (fget K S a c k))
def cE (K : Cfg) (G : Nat → Nat) (cy : Nat → ClassId) (S : St) (a : Nat) : va_E :=
  if (K.1 a).1 = 0 then .inr ((K.1 a).2, fL' K G S a (K.1 a).2)
  else if (K.1 a).1 ≤ 3 then .inl (cy (K.1 a).1, (K.1 a).2, .inl (rI S a))
  else if (K.1 a).1 = 4 then .inl (cy 4, (K.1 a).2, .inr (.inl (rJ S a)))
  else .inl (cy (K.1 a).1, (K.1 a).2, .inr (.inr (.inr (.inr (fun i => (rQ S a i).map G)))))
def wl (K : Cfg) (G : Nat → Nat) (cy : Nat → ClassId) (L : List Nat) (S : St) : va_W := L.map (fun a => (G a, cE K G cy S a))
theorem wl_get {K : Cfg} {G : Nat → Nat} {cy : Nat → ClassId} {L : List Nat} (S : St) {a : Nat} (h : a ∈ L) : ∃ k : Nat, L[k]? = some a ∧ (wl K G cy L S)[k]? = some (G a, cE K G cy S a) := by
  obtain ⟨k, hk⟩ := List.getElem?_of_mem h
  exact ⟨k, hk, by simp [wl, List.getElem?_map, hk]⟩
theorem wl_set {K : Cfg} {G : Nat → Nat} {cy : Nat → ClassId} {L : List Nat} {A : Nat → Prop} {S S' : St} {a k : Nat} {e' : va_E} (hD : va_D A (wl K G cy L S)) (hk : L[k]? = some a) (h1 : cE K G cy S' a = e') (h2 : ∀ b, b ≠ a → cE K G cy S' b = cE K G cy S b) : (wl K G cy L S).set k (G a, e') = wl K G cy L S' := by
  have hwk : (wl K G cy L S)[k]? = some (G a, cE K G cy S a) := by simp [wl, List.getElem?_map, hk]
  apply List.ext_getElem?
  intro j
  by_cases hj : j = k
  · subst hj
    rw [List.getElem?_set_self (List.getElem?_eq_some_iff.mp hwk).1]
    simp [wl, List.getElem?_map, hk, h1]
  · rw [List.getElem?_set_ne (Ne.symm hj)]
    cases hb : L[j]? with
    | none => simp [wl, List.getElem?_map, hb]
    | some b =>
      have hwj : (wl K G cy L S)[j]? = some (G b, cE K G cy S b) := by simp [wl, List.getElem?_map, hb]
      have hba : b ≠ a := fun e => hj (hD.1 j k _ _ hwj hwk (by rw [e]))
      rw [hwj]
      simp [wl, List.getElem?_map, hb, h2 b hba]
theorem wl_D {K : Cfg} {G : Nat → Nat} {cy : Nat → ClassId} {L : List Nat} {A : Nat → Prop} {S : St} (S' : St) (h : va_D A (wl K G cy L S)) : va_D A (wl K G cy L S') := by
  have key : ∀ (k : Nat) (q : Nat × va_E), (wl K G cy L S')[k]? = some q → ∃ q0, (wl K G cy L S)[k]? = some q0 ∧ q0.1 = q.1 := by
    intro k q hk
    simp only [wl, List.getElem?_map] at hk ⊢
    cases hb : L[k]? with
    | none => simp [hb] at hk
    | some b =>
      simp only [hb, Option.map_some, Option.some.injEq] at hk ⊢
      exact ⟨_, rfl, by rw [← hk]⟩
  refine ⟨fun i j p q hi hj e => ?_, fun k q hk => ?_⟩
  · obtain ⟨p0, g1, g2⟩ := key i p hi
    obtain ⟨q0, g3, g4⟩ := key j q hj
    exact h.1 i j p0 q0 g1 g3 (by rw [g2, g4, e])
  · obtain ⟨q0, g1, g2⟩ := key k q hk
    rw [← g2]
    exact h.2 k q0 g1
theorem wl_A {K : Cfg} {G : Nat → Nat} {cy : Nat → ClassId} {L : List Nat} {S : St} {sz q : Nat} : va_A (wl K G cy L S) sz q ↔ (∃ a ∈ L, G a = q) ∨ sz ≤ q := by
  unfold va_A
  refine or_congr ⟨?_, ?_⟩ Iff.rfl
  · rintro ⟨k, e, h⟩
    simp only [wl, List.getElem?_map] at h
    cases hb : L[k]? with
    | none => simp [hb] at h
    | some b =>
      simp only [hb, Option.map_some, Option.some.injEq, Prod.mk.injEq] at h
      exact ⟨b, List.mem_of_getElem? hb, h.1⟩
  · rintro ⟨a, ha, rfl⟩
    obtain ⟨k, -, hk⟩ := wl_get (K := K) (G := G) (cy := cy) S ha
    exact ⟨k, _, hk⟩
theorem wl_A2 {K : Cfg} {G : Nat → Nat} {cy : Nat → ClassId} {L : List Nat} (S S' : St) (sz : Nat) : va_A (wl K G cy L S) sz = va_A (wl K G cy L S') sz := by
  funext q
  exact propext (wl_A.trans wl_A.symm)
/-! a cell behind a write -/
theorem fL_I {K : Cfg} {G : Nat → Nat} {S : St} {a c z : Nat} {v : Int32} (hz : z < kF c) (hg : kG c z = 0 ∨ kG c z = 3) : fL' K G (wI S a z v) a c = (fL' K G S a c).set z (.int v) := by
  apply List.ext_getElem?
  intro j
  by_cases hj : j < kF c
  · by_cases hjz : j = z
    · subst hjz
      rw [List.getElem?_set_self (by simp [fL', hj])]
      rcases hg with hg | hg <;> simp [fL', hj, fget, hg, gv, rI_wI_s, upd]
    · rw [List.getElem?_set_ne (Ne.symm hjz)]
      simp only [fL', List.getElem?_map, List.getElem?_range hj, Option.map_some]
      congr 2
      unfold fget
      rw [rI_wI_s, rJ_wI, rQ_wI]
      simp [upd, hjz]
  · have h1 : (fL' K G (wI S a z v) a c).length ≤ j := by simp [fL']; omega
    have h2 : ((fL' K G S a c).set z (.int v)).length ≤ j := by simp [fL']; omega
    rw [List.getElem?_eq_none h1, List.getElem?_eq_none h2]
theorem fL_J {K : Cfg} {G : Nat → Nat} {S : St} {a c z : Nat} {v : Int64} (hz : z < kF c) (hg : kG c z = 1) : fL' K G (wJ S a z v) a c = (fL' K G S a c).set z (.long v) := by
  apply List.ext_getElem?
  intro j
  by_cases hj : j < kF c
  · by_cases hjz : j = z
    · subst hjz
      rw [List.getElem?_set_self (by simp [fL', hj])]
      simp [fL', hj, fget, hg, gv, rJ_wJ_s, vp_updL]
    · rw [List.getElem?_set_ne (Ne.symm hjz)]
      simp only [fL', List.getElem?_map, List.getElem?_range hj, Option.map_some]
      congr 2
      unfold fget
      rw [rI_wJ, rJ_wJ_s, rQ_wJ]
      simp [vp_updL, hjz]
  · have h1 : (fL' K G (wJ S a z v) a c).length ≤ j := by simp [fL']; omega
    have h2 : ((fL' K G S a c).set z (.long v)).length ≤ j := by simp [fL']; omega
    rw [List.getElem?_eq_none h1, List.getElem?_eq_none h2]
theorem fL_Q {K : Cfg} {G : Nat → Nat} {S : St} {a c z b : Nat} (hz : z < kF c) (hg : kG c z = 2) (hf : K.2.1 c a z = none) : fL' K G (wQ S a z (some b)) a c = (fL' K G S a c).set z (.ref (G b)) := by
  apply List.ext_getElem?
  intro j
  by_cases hj : j < kF c
  · by_cases hjz : j = z
    · subst hjz
      rw [List.getElem?_set_self (by simp [fL', hj])]
      simp [fL', hj, fget, hg, hf, gv, rQ_wQ_s, va_up, qv]
    · rw [List.getElem?_set_ne (Ne.symm hjz)]
      simp only [fL', List.getElem?_map, List.getElem?_range hj, Option.map_some]
      congr 2
      unfold fget
      rw [rI_wQ, rJ_wQ, rQ_wQ_s]
      simp [va_up, hjz]
  · have h1 : (fL' K G (wQ S a z (some b)) a c).length ≤ j := by simp [fL']; omega
    have h2 : ((fL' K G S a c).set z (.ref (G b))).length ≤ j := by simp [fL']; omega
    rw [List.getElem?_eq_none h1, List.getElem?_eq_none h2]
theorem cE_I_n {K : Cfg} {G : Nat → Nat} {cy : Nat → ClassId} {S : St} {a b k : Nat} {v : Int32} (h : b ≠ a) : cE K G cy (wI S a k v) b = cE K G cy S b := by
  have h1 : ∀ c, fL' K G (wI S a k v) b c = fL' K G S b c := fun c => by
    unfold fL' fget
    rw [rI_wI_n _ _ _ h, rJ_wI, rQ_wI]
  unfold cE
  rw [rI_wI_n _ _ _ h, rJ_wI, rQ_wI, h1]
theorem cE_J_n {K : Cfg} {G : Nat → Nat} {cy : Nat → ClassId} {S : St} {a b k : Nat} {v : Int64} (h : b ≠ a) : cE K G cy (wJ S a k v) b = cE K G cy S b := by
  have h1 : ∀ c, fL' K G (wJ S a k v) b c = fL' K G S b c := fun c => by
    unfold fL' fget
    rw [rI_wJ, rJ_wJ_n _ _ _ h, rQ_wJ]
  unfold cE
  rw [rI_wJ, rJ_wJ_n _ _ _ h, rQ_wJ, h1]
theorem cE_Q_n {K : Cfg} {G : Nat → Nat} {cy : Nat → ClassId} {S : St} {a b k : Nat} {v : Option Nat} (h : b ≠ a) : cE K G cy (wQ S a k v) b = cE K G cy S b := by
  have h1 : ∀ c, fL' K G (wQ S a k v) b c = fL' K G S b c := fun c => by
    unfold fL' fget
    rw [rI_wQ, rJ_wQ, rQ_wQ_n _ _ _ h]
  unfold cE
  rw [rI_wQ, rJ_wQ, rQ_wQ_n _ _ _ h, h1]
