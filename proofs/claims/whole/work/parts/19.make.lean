/-! Making cells: the constructors. al: the names in the order in which their cells are made; base: the address of the first. 'exA' runs a constructor up to its return, or up to a place (sM, sp). -/
def nwL : List (Nat × Nat × Nat × Nat × Nat) := [(11, 7, 3, 230, 231), (3, 9, 8, 236, 237), (3, 18, 7, 277, 278), (11, 16, 6, 306, 307), (6, 7, 5, 312, 313), (6, 16, 7, 344, 278), (11, 23, 5, 367, 313), (11, 30, 4, 369, 370), (11, 37, 0, 418, 419), (11, 48, 10, 430, 431), (10, 11, 2, 436, 437), (10, 23, 7, 452, 278), (10, 44, 1, 454, 455)]
def arK (t : Nat) : String := match t with
  | 5 => "NameOrchard$Token"
  | 6 => "NameOrchard$State"
  | _ => "NameOrchard$Standing"
def anL : List (Nat × Nat × Nat × Nat) := [(11, 16, 6, 306), (11, 23, 7, 367), (1, 9, 5, 460)]
def oiL : List (Nat × Nat × Nat) := [(11, 1, 227), (3, 3, 235), (8, 1, 241), (7, 3, 282), (6, 1, 311), (5, 3, 317), (4, 7, 374), (0, 1, 423), (10, 5, 435), (2, 3, 441), (1, 1, 459), (12, 1, 1514)]
set_option maxRecDepth 100000 in
theorem nwL_ok : ∀ q ∈ nwL, lw_tbl[q.2.2.2.1]? = some (Cond.classLink (kN q.1) q.2.1 (kN q.2.2.1)) ∧ lw_tbl[q.2.2.2.2]? = some (Cond.instantiable (kN q.2.2.1) (kF q.2.2.1)) ∧ q.2.2.1 < 13 := by decide +kernel
set_option maxRecDepth 100000 in
theorem anL_ok : ∀ q ∈ anL, lw_tbl[q.2.2.2]? = some (Cond.classLink (kN q.1) q.2.1 (arK q.2.2.1)) ∧ (q.2.2.1 = 5 ∨ q.2.2.1 = 6 ∨ q.2.2.1 = 7) := by decide +kernel
set_option maxRecDepth 100000 in
theorem oiL_ok : ∀ q ∈ oiL, lw_tbl[q.2.2]? = some (Cond.methodLink (kN q.1) q.2.1 objectInit) := by decide +kernel
set_option maxRecDepth 100000 in
theorem oi_ws : Cond.instanceMethod objectInit ∈ lw_tbl ∧ Cond.code objectInit ⟨#[0xb1]⟩ 1 none ∈ lw_tbl := ⟨List.mem_of_getElem? (i := 228) (by decide +kernel), List.mem_of_getElem? (i := 229) (by decide +kernel)⟩
set_option maxRecDepth 100000 in
theorem at_ws : Cond.arrayClass .int ∈ lw_tbl ∧ Cond.arrayClass .char ∈ lw_tbl ∧ Cond.arrayClass .boolean ∈ lw_tbl ∧ Cond.arrayClass .long ∈ lw_tbl :=
  ⟨List.mem_of_getElem? (i := 296) (by decide +kernel), List.mem_of_getElem? (i := 276) (by decide +kernel), List.mem_of_getElem? (i := 1779) (by decide +kernel), List.mem_of_getElem? (i := 417) (by decide +kernel)⟩
def atK (t : ArrayType) : Nat := match t with
  | .int => 1
  | .char => 2
  | .boolean => 3
  | .long => 4
  | _ => 99
abbrev Ea : Type := Nat × Nat × Lc × List Value × St
/-- what the names are when k cells are made -/
def KA (K : Cfg) (al : List Nat) (k : Nat) : Cfg := (fun a => if a ∈ al.take k ∨ 1000 ≤ a then K.1 a else (99, 0), fun _ _ _ => none, fun _ _ _ => none)
def clr (S : St) (a : Nat) : St := (fun b j => if b = a then 0 else S.1 b j, fun b j => if b = a then 0 else S.2.1 b j, fun b j => if b = a then none else S.2.2 b j)
def slN (q : Nat × Nat) : Nat := if q.1 = 0 then kF q.2 else q.2
def slA (K : Cfg) (al : List Nat) (k : Nat) : Nat := ((al.take k).map (fun a => slN (K.1 a))).sum
def exA (K : Cfg) (al : List Nat) (sM sp : Nat) : Nat → Nat → Nat → Nat → Nat → Lc → List Value → St → Option Ea
  | 0, _, _, _, _, _, _, _ => none
  | n + 1, d, M, k, pc, lc, st, S => match mX M with
    | none => none
    | some e => if M = sM ∧ pc = sp then some (k, pc, lc, st, S) else match e.2.lookup pc with
      | none => none
      | some (ins, _, x, y, z) => match ins with
        | .return_ => (match st with
          | [] => if e.1.2.2.2.1 = none then some (k, pc, lc, [], S) else none
          | _ => none)
        | .new i => (match al[k]? with
          | some a => if (nwL.any fun q => q.1 == e.1.2.2.2.2 && (q.2.1 == i && K.1 a == (0, q.2.2.1))) = true then exA K al sM sp n d M (k + 1) (pc + 3) lc (.ref a :: st) (clr S a) else none
          | none => none)
        | .newarray t => (match al[k]?, st with
          | some a, .int v :: r => if ¬ v < 0 ∧ K.1 a = (atK t, v.toNatClampNeg) ∧ atK t < 5 ∧ v.toNatClampNeg ≤ 100000 then exA K al sM sp n d M (k + 1) (pc + 2) lc (.ref a :: r) (clr S a) else none
          | _, _ => none)
        | .anewarray i => (match al[k]?, st with
          | some a, .int v :: r => if ¬ v < 0 ∧ (anL.any fun q => q.1 == e.1.2.2.2.2 && (q.2.1 == i && K.1 a == (q.2.2.1, v.toNatClampNeg))) = true ∧ v.toNatClampNeg ≤ 100000 then exA K al sM sp n d M (k + 1) (pc + 3) lc (.ref a :: r) (clr S a) else none
          | _, _ => none)
        | .invokespecial i => if x = 9 then (match st with
            | .ref _ :: r => if (oiL.any fun q => q.1 == e.1.2.2.2.2 && q.2.1 == i) = true ∧ csum r ≤ 8 ∧ 0 < d then exA K al sM sp n d M k (pc + 3) lc r S else none
            | _ => none)
          else (match st.drop z, mX y, d with
            | .ref b :: r, some e', d' + 1 => if x = 5 ∧ csum r ≤ 8 ∧ csum (.ref b :: (st.take z).reverse) ≤ e'.1.2.2.1 ∧ y ≠ sM ∧ e'.1.1.name = "<init>" ∧ e'.1.2.2.2.1 = none then (match exA K al sM sp n d' y k 0 (lv_args 0 (.ref b :: (st.take z).reverse)) [] S with
                | none => none
                | some o => exA K al sM sp n (d' + 1) M o.1 (pc + 3) lc r o.2.2.2.2) else none
            | _, _, _ => none)
        | .putfield i => if (kT y z).2.2.2 = true then (match st with
            | .int v :: .ref a :: r => if (KA K al k).1 a = (0, y) ∧ x = 0 ∧ z < kF y ∧ kG y z = 0 ∧ (kT y z).1 = kN e.1.2.2.2.2 ∧ e.1.1.name = "<init>" then exA K al sM sp n d M k (pc + 3) lc r (wI S a z v) else none
            | .ref v :: .ref a :: r => if (KA K al k).1 a = (0, y) ∧ x = 0 ∧ z < kF y ∧ kG y z = 2 ∧ (kT y z).1 = kN e.1.2.2.2.2 ∧ e.1.1.name = "<init>" then exA K al sM sp n d M k (pc + 3) lc r (wQ S a z (some v)) else none
            | _ => none)
          else (match sx (KA K al k) e.1.2.2.1 pc (.putfield i) x y z lc st S with
            | none => none
            | some q => exA K al sM sp n d M k q.1 q.2.1 q.2.2.1 q.2.2.2)
        | ins => match sx (KA K al k) e.1.2.2.1 pc ins x y z lc st S with
          | none => none
          | some q => exA K al sM sp n d M k q.1 q.2.1 q.2.2.1 q.2.2.2
def okA (K : Cfg) (al : List Nat) (G : Nat → Nat) (base : Nat) : Prop := al.Nodup ∧ (∀ a ∈ al, a < 1000 ∧ (K.1 a).1 < 8 ∧ ((K.1 a).1 = 0 → (K.1 a).2 < 13)) ∧ (∀ a, 1000 ≤ a → ¬ (K.1 a).1 < 8 ∧ ((K.1 a).1 = 20 → a = 1000 + (K.1 a).2 ∧ (K.1 a).2 < 42) ∧ ((K.1 a).1 = 30 → a = 1100 ∧ (K.1 a).2 = 42)) ∧ (∀ i a : Nat, al[i]? = some a → G a = base + i) ∧ (∀ a b, 1000 ≤ a → (K.1 a).1 = 20 → (b ∈ al ∨ (1000 ≤ b ∧ (K.1 b).1 = 20)) → G a = G b → a = b)
section MAKE
variable {K : Cfg} {G : Nat → Nat} {cy : Nat → ClassId} {D : va_G} {al : List Nat} {base : Nat}
theorem KA_in {k a : Nat} (h : a ∈ al.take k) : (KA K al k).1 a = K.1 a := if_pos (Or.inl h)
theorem KA_c {k a : Nat} (h : 1000 ≤ a) : (KA K al k).1 a = K.1 a := if_pos (Or.inr h)
theorem KA_cases (k a : Nat) : (a ∈ al.take k ∧ (KA K al k).1 a = K.1 a) ∨ (1000 ≤ a ∧ (KA K al k).1 a = K.1 a) ∨ (KA K al k).1 a = (99, 0) := by
  by_cases h : a ∈ al.take k
  · exact Or.inl ⟨h, KA_in h⟩
  · by_cases h2 : 1000 ≤ a
    · exact Or.inr (Or.inl ⟨h2, KA_c h2⟩)
    · exact Or.inr (Or.inr (if_neg (by rintro (q | q) <;> contradiction)))
theorem tk_at {k i a : Nat} (h : (al.take k)[i]? = some a) : al[i]? = some a ∧ i < k := by
  rw [List.getElem?_take] at h
  split at h
  · exact ⟨h, by assumption⟩
  · cases h
theorem okK_A (hA : okA K al G base) (k : Nat) : okK (KA K al k) (al.take k) G := by
  obtain ⟨h1, h2, h3, h4, h5⟩ := hA
  have h20 : ∀ a, ((KA K al k).1 a).1 < 8 → a ∈ al.take k := by
    intro a h
    rcases KA_cases (K := K) (al := al) k a with ⟨q, -⟩ | ⟨q, e⟩ | e
    · exact q
    · rw [e] at h; exact absurd h (h3 a q).1
    · rw [e] at h; exact absurd h (by decide)
  refine ⟨h20, fun a h => ?_, fun a h => ?_, fun a h => ?_, fun a b ha hb he => ?_⟩
  · rcases KA_cases (K := K) (al := al) k a with ⟨q, e⟩ | ⟨q, e⟩ | e
    · rw [e] at h ⊢; exact (h2 a (List.mem_of_mem_take q)).2.2 h
    · rw [e] at h ⊢; exact absurd (by omega) (h3 a q).1
    · rw [e] at h; exact absurd h (by decide)
  · rcases KA_cases (K := K) (al := al) k a with ⟨q, e⟩ | ⟨q, e⟩ | e
    · rw [e] at h; have := (h2 a (List.mem_of_mem_take q)).2.1; omega
    · rw [e] at h ⊢; exact (h3 a q).2.1 h
    · rw [e] at h; exact absurd h (by decide)
  · rcases KA_cases (K := K) (al := al) k a with ⟨q, e⟩ | ⟨q, e⟩ | e
    · rw [e] at h; have := (h2 a (List.mem_of_mem_take q)).2.1; omega
    · rw [e] at h ⊢; exact (h3 a q).2.2 h
    · rw [e] at h; exact absurd h (by decide)
  · have key : ∀ a, (((KA K al k).1 a).1 < 8 ∨ ((KA K al k).1 a).1 = 20) → a ∈ al ∨ (1000 ≤ a ∧ (K.1 a).1 = 20) := by
      intro a h
      rcases KA_cases (K := K) (al := al) k a with ⟨q, e⟩ | ⟨q, e⟩ | e
      · exact Or.inl (List.mem_of_mem_take q)
      · rw [e] at h
        rcases h with h | h
        · exact absurd h (h3 a q).1
        · exact Or.inr ⟨q, h⟩
      · rw [e] at h; exact absurd h (by decide)
    rcases key a ha with qa | ⟨qa, ca⟩
    · rcases key b hb with qb | ⟨qb, cb⟩
      · obtain ⟨i, hi⟩ := List.getElem?_of_mem qa
        obtain ⟨j, hj⟩ := List.getElem?_of_mem qb
        have e1 := h4 i a hi
        have e2 := h4 j b hj
        have hij : i = j := by omega
        subst hij
        exact Option.some.inj (hi.symm.trans hj)
      · exact (h5 b a qb cb (Or.inl qa) he.symm).symm
    · exact h5 a b qa ca (key b hb) he
theorem a_D (hA : okA K al G base) (k : Nat) (S : St) : va_D (fun q => base ≤ q) (wl (KA K al k) G cy (al.take k) S) := by
  have key : ∀ (i : Nat) (p : Nat × va_E), (wl (KA K al k) G cy (al.take k) S)[i]? = some p → p.1 = base + i := by
    intro i p h
    simp only [wl, List.getElem?_map] at h
    cases hb : (al.take k)[i]? with
    | none => simp [hb] at h
    | some b =>
      simp only [hb, Option.map_some, Option.some.injEq] at h
      rw [← h]
      exact hA.2.2.2.1 i b (tk_at hb).1
  refine ⟨fun i j p q hi hj e => ?_, fun i p hi => ?_⟩
  · have := key i p hi
    have := key j q hj
    omega
  · have := key i p hi
    show base ≤ p.1
    omega
theorem cE_clr {k : Nat} {S : St} {a b : Nat} (hb : b ≠ a) (hk : (KA K al (k + 1)).1 b = (KA K al k).1 b) : cE (KA K al (k + 1)) G cy (clr S a) b = cE (KA K al k) G cy S b := by
  have h1 : rI (clr S a) b = rI S b := by funext j; simp [rI, clr, hb]
  have h2 : rJ (clr S a) b = rJ S b := by funext j; simp [rJ, clr, hb]
  have h3 : rQ (clr S a) b = rQ S b := by funext j; simp [rQ, clr, hb]
  have h4 : ∀ c, fL' (KA K al (k + 1)) G (clr S a) b c = fL' (KA K al k) G S b c := fun c => by
    unfold fL' fget
    rw [h1, h2, h3]
    rfl
  unfold cE
  rw [hk, h1, h2, h3, h4]
theorem a_push {k a : Nat} {S : St} (hA : okA K al G base) (ha : al[k]? = some a) {H H1 : Heap} (hP : va_P D kCl (wl (KA K al k) G cy (al.take k) S) H) (hk : ∀ q : Nat, q < H.size → H1[q]? = H[q]?) (hc : va_at D kCl (G a, cE (KA K al (k + 1)) G cy (clr S a) a) H1) : va_P D kCl (wl (KA K al (k + 1)) G cy (al.take (k + 1)) (clr S a)) H1 := by
  have e1 : al.take (k + 1) = al.take k ++ [a] := by rw [List.take_add_one, ha]; rfl
  have e2 : wl (KA K al (k + 1)) G cy (al.take (k + 1)) (clr S a) = wl (KA K al k) G cy (al.take k) S ++ [(G a, cE (KA K al (k + 1)) G cy (clr S a) a)] := by
    unfold wl
    rw [e1, List.map_append]
    congr 1
    apply List.map_congr_left
    intro b hb
    have hba : b ≠ a := by
      rintro rfl
      obtain ⟨i, hi⟩ := List.getElem?_of_mem hb
      obtain ⟨g1, g2⟩ := tk_at hi
      have := hA.2.2.2.1 i b g1
      have := hA.2.2.2.1 k b ha
      omega
    rw [cE_clr hba (by rw [KA_in hb, KA_in (by rw [e1]; exact List.mem_append_left _ hb)])]
  rw [e2]
  refine (hP.kept fun j x hx => hk _ ((hP j x hx).lt)).app (fun j x hx => ?_)
  have hj : j < 1 := (List.getElem?_eq_some_iff.mp hx).1
  rw [show j = 0 by omega] at hx
  cases hx
  exact hc
theorem sl_push {k a : Nat} (ha : al[k]? = some a) : slA K al (k + 1) = slA K al k + slN (K.1 a) := by
  unfold slA
  rw [List.take_add_one, ha]
  simp
theorem sl_mono : ∀ {k k1 : Nat}, k ≤ k1 → slA K al k ≤ slA K al k1 := by
  intro k k1 h
  obtain ⟨j, rfl⟩ := Nat.exists_eq_add_of_le h
  unfold slA
  rw [List.take_add, List.map_append, List.sum_append]
  omega
end MAKE
theorem W.top {p : Program} {l : Launch} {ev : Env} {R : Room} {s : State} {m : MethodId} {args : Array Value} {below : List Frame} {meth : Method} {c : Code} {H : Heap} {locs : List Loc} {cells slots : Nat} {Q : State → Prop} {g : JFrame} (h : H.size ≤ s.heap.size + cells → W p l ev R s m args below meth c H locs cells slots Q g) : W p l ev R s m args below meth c H locs cells slots Q g := fun T hT X => h (by
  have h1 : T.heap.size ≤ s.heap.size + cells := X.same.2.2.1
  rw [← hT]
  exact h1) T hT X
set_option maxHeartbeats 4000000 in
theorem exA_mono {K : Cfg} {al : List Nat} {sM sp : Nat} : ∀ (n d M k pc : Nat) (lc : Lc) (st : List Value) (S : St) (o : Ea), exA K al sM sp n d M k pc lc st S = some o → k ≤ o.1 ∧ (k ≤ al.length → o.1 ≤ al.length) := by
  intro n
  induction n with
  | zero => intro d M k pc lc st S o h; simp [exA] at h
  | succ n IH =>
    intro d M k pc lc st S o h
    have st1 : ∀ {a : Nat}, al[k]? = some a → k < al.length := fun h => (List.getElem?_eq_some_iff.mp h).1
    rw [exA] at h
    split at h
    · cases h
    split at h
    · cases h; exact ⟨Nat.le_refl _, id⟩
    split at h
    · cases h
    split at h
    · split at h
      · split at h
        · cases h; exact ⟨Nat.le_refl _, id⟩
        · cases h
      · cases h
    · split at h
      · rename_i ha
        split at h
        · have := IH _ _ _ _ _ _ _ _ h
          have := st1 ha
          exact ⟨by omega, fun _ => by omega⟩
        · cases h
      · cases h
    · split at h
      · rename_i ha
        split at h
        · have := IH _ _ _ _ _ _ _ _ h
          have := st1 ha
          exact ⟨by omega, fun _ => by omega⟩
        · cases h
      · cases h
    · split at h
      · rename_i ha
        split at h
        · have := IH _ _ _ _ _ _ _ _ h
          have := st1 ha
          exact ⟨by omega, fun _ => by omega⟩
        · cases h
      · cases h
    · split at h
      · split at h
        · split at h
          · exact IH _ _ _ _ _ _ _ _ h
          · cases h
        · cases h
      · split at h
        · split at h
          · split at h
            · cases h
            · rename_i o1 ho
              have g1 := IH _ _ _ _ _ _ _ _ ho
              have g2 := IH _ _ _ _ _ _ _ _ h
              exact ⟨by omega, fun q => g2.2 (g1.2 q)⟩
          · cases h
        · cases h
    · split at h
      · split at h
        · split at h
          · exact IH _ _ _ _ _ _ _ _ h
          · cases h
        · split at h
          · exact IH _ _ _ _ _ _ _ _ h
          · cases h
        · cases h
      · split at h
        · cases h
        · exact IH _ _ _ _ _ _ _ _ h
    · split at h
      · cases h
      · exact IH _ _ _ _ _ _ _ _ h
