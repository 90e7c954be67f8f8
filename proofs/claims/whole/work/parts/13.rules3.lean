/-! The rules as a program lays them. -/
theorem ex_mono {K : Cfg} : ∀ (n d M pc : Nat) (lc lc' : Lc) (st : List Value) (S : St) (o : Option Value × St), lle lc lc' → ex K n d M pc lc st S = some o → ex K n d M pc lc' st S = some o
  | 0, d, M, pc, lc, lc', st, S, o, hl, h => by rw [ex] at h; cases h
  | n + 1, d, M, pc, lc, lc', st, S, o, hl, h => by
    rw [ex] at h ⊢
    split at h
    · cases h
    · split at h
      · cases h
      · split at h
        · exact h
        · exact h
        · exact h
        · exact h
        · split at h
          · rename_i hx9
            rw [if_pos hx9]
            split at h
            · split at h
              · rename_i hgd
                rw [if_pos hgd]
                exact ex_mono _ _ _ _ _ _ _ _ _ hl h
              · cases h
            · cases h
          · rename_i hx9
            rw [if_neg hx9]
            split at h
            · split at h
              · split at h
                · cases h
                · rename_i hc
                  rw [if_pos ‹_›]
                  exact ex_mono _ _ _ _ _ _ _ _ _ hl h
              · cases h
            · cases h
        · split at h
          · rename_i hx9
            rw [if_pos hx9]
            split at h
            · split at h
              · rename_i hgd
                rw [if_pos hgd]
                exact ex_mono _ _ _ _ _ _ _ _ _ hl h
              · cases h
            · cases h
          · rename_i hx9
            rw [if_neg hx9]
            split at h
            · split at h
              · split at h
                · cases h
                · rename_i hc
                  rw [if_pos ‹_›]
                  exact ex_mono _ _ _ _ _ _ _ _ _ hl h
              · cases h
            · cases h
        · split at h
          · cases h
          · rename_i q hq
            obtain ⟨lc1, h1, h2⟩ := sx_mono hq hl
            rw [h1]
            exact ex_mono _ _ _ _ _ _ _ _ _ h2 h
theorem RR.weak {K : Cfg} {d M pc : Nat} {lc' : Lc} {st : List Value} {S S' : St} {r : Option Value} (lc : Lc) (hl : lck lc lc') (k : RR K d M pc lc st S r S') : RR K d M pc lc' st S r S' := by
  obtain ⟨n, hn⟩ := k
  exact ⟨n, ex_mono _ _ _ _ _ _ _ _ _ (lle_of hl) hn⟩
theorem RR.runs {K : Cfg} {d M pc pc' nL : Nat} {cd : List (Nat × Xi)} {lc lc' : Lc} {st st' : List Value} {S S1 S' : St} {r : Option Value} {e : MI × List (Nat × Xi)} (hm : mX M = some e) (hn : e.1.2.2.1 = nL) (hc : e.2 = cd) (k : Nat) (h : sN K nL cd k (pc, lc, st, S) = some (pc', lc', st', S1)) (kk : RR K d M pc' lc' st' S1 r S') : RR K d M pc lc st S r S' := by
  subst hn hc
  exact RR.run hm k _ _ h kk
/-- a step that is guarded -/
theorem RR.gN {K : Cfg} {d M pc pc' nL : Nat} {cd : List (Nat × Xi)} {lc lc' : Lc} {st st' : List Value} {S S1 S' : St} {r : Option Value} {e : MI × List (Nat × Xi)} {c : Prop} [Decidable c] (hm : mX M = some e) (hn : e.1.2.2.1 = nL) (hc : e.2 = cd) (h : s1 K nL cd (pc, lc, st, S) = if c then none else some (pc', lc', st', S1)) (g : ¬ c) (kk : RR K d M pc' lc' st' S1 r S') : RR K d M pc lc st S r S' := by
  subst hn hc
  rw [if_neg g] at h
  exact RR.one hm h kk
theorem RR.gP {K : Cfg} {d M pc pc' nL : Nat} {cd : List (Nat × Xi)} {lc lc' : Lc} {st st' : List Value} {S S1 S' : St} {r : Option Value} {e : MI × List (Nat × Xi)} {c : Prop} [Decidable c] (hm : mX M = some e) (hn : e.1.2.2.1 = nL) (hc : e.2 = cd) (h : s1 K nL cd (pc, lc, st, S) = if c then some (pc', lc', st', S1) else none) (g : c) (kk : RR K d M pc' lc' st' S1 r S') : RR K d M pc lc st S r S' := by
  subst hn hc
  rw [if_pos g] at h
  exact RR.one hm h kk
theorem RR.gPN {K : Cfg} {d M pc pc' nL : Nat} {cd : List (Nat × Xi)} {lc lc' : Lc} {st st' : List Value} {S S1 S' : St} {r : Option Value} {e : MI × List (Nat × Xi)} {c c2 : Prop} [Decidable c] [Decidable c2] (hm : mX M = some e) (hn : e.1.2.2.1 = nL) (hc : e.2 = cd) (h : s1 K nL cd (pc, lc, st, S) = if c2 then (if c then none else some (pc', lc', st', S1)) else none) (g2 : c2) (g : ¬ c) (kk : RR K d M pc' lc' st' S1 r S') : RR K d M pc lc st S r S' := by
  rw [if_pos g2] at h
  exact RR.gN hm hn hc h g kk
section ICM
variable {K : Cfg} {d M A B : Nat} {lc : Lc} {st : List Value} {S S' : St} {r : Option Value} {a b : Int32}
theorem RR.c_eq (ht : a = b → RR K d M A lc st S r S') (hf : ¬ a = b → RR K d M B lc st S r S') : RR K d M (icm .eq a b A B) lc st S r S' := by
  unfold icm
  by_cases h : a = b
  · simp only [if_pos h]; exact ht h
  · simp only [if_neg h]; exact hf h
theorem RR.c_ne (ht : a = b → RR K d M B lc st S r S') (hf : ¬ a = b → RR K d M A lc st S r S') : RR K d M (icm .ne a b A B) lc st S r S' := by
  unfold icm
  by_cases h : a = b
  · simp only [if_pos h]; exact ht h
  · simp only [if_neg h]; exact hf h
theorem RR.c_lt (ht : a < b → RR K d M A lc st S r S') (hf : ¬ a < b → RR K d M B lc st S r S') : RR K d M (icm .lt a b A B) lc st S r S' := by
  unfold icm
  by_cases h : a < b
  · simp only [if_pos h]; exact ht h
  · simp only [if_neg h]; exact hf h
theorem RR.c_ge (ht : a < b → RR K d M B lc st S r S') (hf : ¬ a < b → RR K d M A lc st S r S') : RR K d M (icm .ge a b A B) lc st S r S' := by
  unfold icm
  by_cases h : a < b
  · simp only [if_pos h]; exact ht h
  · simp only [if_neg h]; exact hf h
theorem RR.c_gt (ht : b < a → RR K d M A lc st S r S') (hf : ¬ b < a → RR K d M B lc st S r S') : RR K d M (icm .gt a b A B) lc st S r S' := by
  unfold icm
  by_cases h : b < a
  · simp only [if_pos h]; exact ht h
  · simp only [if_neg h]; exact hf h
theorem RR.c_le (ht : b < a → RR K d M B lc st S r S') (hf : ¬ b < a → RR K d M A lc st S r S') : RR K d M (icm .le a b A B) lc st S r S' := by
  unfold icm
  by_cases h : b < a
  · simp only [if_pos h]; exact ht h
  · simp only [if_neg h]; exact hf h
end ICM
section RET
variable {K : Cfg} {d M pc len x y z : Nat} {cd : List (Nat × Xi)} {lc : Lc} {S : St} {e : MI × List (Nat × Xi)}
theorem RR.reti (hm : mX M = some e) (hc : e.2 = cd) (hr : e.1.2.2.2.1 = some .int) (hl : cd.lookup pc = some (.ireturn, len, x, y, z)) {v : Int32} : RR K d M pc lc [.int v] S (some (.int v)) S := ⟨1, by subst hc; rw [ex, hm]; simp only [hl, hr]; rfl⟩
theorem RR.retz (hm : mX M = some e) (hc : e.2 = cd) (hr : e.1.2.2.2.1 = some .boolean) (hl : cd.lookup pc = some (.ireturn, len, x, y, z)) {v : Int32} (hv : isBo v = true) : RR K d M pc lc [.int v] S (some (.int v)) S := ⟨1, by subst hc; rw [ex, hm]; simp only [hl, hr, rti, hv]; rfl⟩
theorem RR.retl (hm : mX M = some e) (hc : e.2 = cd) (hr : e.1.2.2.2.1 = some .long) (hl : cd.lookup pc = some (.lreturn, len, x, y, z)) {v : Int64} : RR K d M pc lc [.long v] S (some (.long v)) S := ⟨1, by subst hc; rw [ex, hm]; simp only [hl, hr]; rfl⟩
theorem RR.retv (hm : mX M = some e) (hc : e.2 = cd) (hr : e.1.2.2.2.1 = none) (hl : cd.lookup pc = some (.return_, len, x, y, z)) : RR K d M pc lc [] S none S := ⟨1, by subst hc; rw [ex, hm]; simp only [hl, hr]; rfl⟩
theorem RR.reta {n : String} {b : Nat} (hm : mX M = some e) (hc : e.2 = cd) (hr : e.1.2.2.2.1 = some (.object n)) (hl : cd.lookup pc = some (.areturn, len, x, y, z)) : RR K d M pc lc [.ref b] S (some (.ref b)) S := ⟨1, by subst hc; rw [ex, hm]; simp only [hl, hr]; rfl⟩
theorem RR.retan {n : String} (hm : mX M = some e) (hc : e.2 = cd) (hr : e.1.2.2.2.1 = some (.object n)) (hl : cd.lookup pc = some (.areturn, len, x, y, z)) : RR K d M pc lc [.null] S (some .null) S := ⟨1, by subst hc; rw [ex, hm]; simp only [hl, hr]; rfl⟩
end RET
/-- a call: the arguments 'as' (this first), what stays below, 'rest' -/
theorem RR.callV {K : Cfg} {d M pc i len x y z b : Nat} {cd : List (Nat × Xi)} {lc : Lc} {st as rest : List Value} {S S1 S' : St} {r r1 : Option Value} {e e' : MI × List (Nat × Xi)} (hm : mX M = some e) (hc : e.2 = cd) (hl : cd.lookup pc = some (.invokevirtual i, len, x, y, z)) (hy : mX y = some e') (hst : st.drop z = .ref b :: rest) (has : (st.take z).reverse = as) (hx : x < 2) (hk : K.1 b = (0, e'.1.2.2.2.2) ∨ ((K.1 b).1 = 20 ∧ e'.1.2.2.2.2 = 9)) (hr : csum rest ≤ 8) (ha : csum (.ref b :: as) ≤ e'.1.2.2.1) (hcall : RC K d y (.ref b :: as) S r1 S1) (kk : RR K (d + 1) M (pc + 3) lc (r1.toList ++ rest) S1 r S') : RR K (d + 1) M pc lc st S r S' := by
  subst hc has
  obtain ⟨n1, h1⟩ := hcall
  obtain ⟨n2, h2⟩ := kk
  refine ⟨max n1 n2 + 1, ?_⟩
  rw [ex, hm]
  simp only [hl, hst, hy]
  rw [if_neg (show ¬ x = 9 by omega), if_pos ⟨hx, hk, hr, ha⟩]
  have h3 : call K (ex K (max n1 n2) d y 0 (lv_args 0 (.ref b :: (st.take z).reverse)) [] S) y (.ref b :: (st.take z).reverse) S = some (r1, S1) := by
    unfold call at h1 ⊢
    split at h1
    · exact h1
    · exact ex_le (Nat.le_max_left _ _) h1
  rw [h3]
  exact ex_le (Nat.le_max_right _ _) h2
theorem RR.callS {K : Cfg} {d M pc i len x y z : Nat} {cd : List (Nat × Xi)} {lc : Lc} {st as rest : List Value} {S S1 S' : St} {r r1 : Option Value} {e e' : MI × List (Nat × Xi)} (hm : mX M = some e) (hc : e.2 = cd) (hl : cd.lookup pc = some (.invokestatic i, len, x, y, z)) (hy : mX y = some e') (hst : st.drop z = rest) (has : (st.take z).reverse = as) (hx : 1 < x ∧ x < 4) (hz : z ≤ st.length) (hr : csum rest ≤ 8) (ha : csum as ≤ e'.1.2.2.1) (hcall : RC K d y as S r1 S1) (kk : RR K (d + 1) M (pc + 3) lc (r1.toList ++ rest) S1 r S') : RR K (d + 1) M pc lc st S r S' := by
  subst hc has hst
  obtain ⟨n1, h1⟩ := hcall
  obtain ⟨n2, h2⟩ := kk
  refine ⟨max n1 n2 + 1, ?_⟩
  rw [ex, hm]
  simp only [hl, hy]
  rw [if_neg (show ¬ x = 9 by omega), if_pos ⟨hx.1, hx.2, hz, hr, ha⟩]
  have h3 : call K (ex K (max n1 n2) d y 0 (lv_args 0 (st.take z).reverse) [] S) y (st.take z).reverse S = some (r1, S1) := by
    unfold call at h1 ⊢
    split at h1
    · exact h1
    · exact ex_le (Nat.le_max_left _ _) h1
  rw [h3]
  exact ex_le (Nat.le_max_right _ _) h2
theorem RC.of {K : Cfg} {d M : Nat} {as : List Value} {S S' : St} {r : Option Value} (hi : K.2.2 M as S = none) (h : RR K d M 0 (lv_args 0 as) [] S r S') : RC K d M as S r S' := by
  obtain ⟨n, hn⟩ := h
  exact ⟨n, by unfold call; rw [hi]; exact hn⟩
/-! lifted functions: an answer and a state, or nothing -/
abbrev Re (α : Type) : Type := Option (α × St)
def bn {α β : Type} (o : Re α) (k : α → St → Re β) : Re β := match o with
  | none => none
  | some q => k q.1 q.2
def lt' {α : Type} {β : Type} (x : α) (k : α → β) : β := k x
theorem bnE {α β : Type} {o : Re α} {k : α → St → Re β} {x : β × St} (h : bn o k = some x) : ∃ (v : α) (S1 : St), o = some (v, S1) ∧ k v S1 = some x := by
  unfold bn at h
  split at h
  · cases h
  · rename_i q
    exact ⟨q.1, q.2, rfl, h⟩
theorem ltE {α β : Type} {x : α} {k : α → β} {y : β} (h : lt' x k = y) : ∃ z : α, z = x ∧ k z = y := ⟨x, rfl, h⟩
theorem gnE {β : Type} {c : Prop} [Decidable c] {o : Re β} {x : β × St} (h : (if c then none else o) = some x) : ¬ c ∧ o = some x := by
  split at h
  · cases h
  · exact ⟨‹_›, h⟩
theorem gpE {β : Type} {c : Prop} [Decidable c] {o : Re β} {x : β × St} (h : (if c then o else none) = some x) : c ∧ o = some x := by
  split at h
  · exact ⟨‹_›, h⟩
  · cases h
theorem ifE {β : Type} {c : Prop} [Decidable c] {o o' : Re β} {x : β × St} (h : (if c then o else o') = some x) : (c ∧ o = some x) ∨ (¬ c ∧ o' = some x) := by
  split at h
  · exact Or.inl ⟨‹_›, h⟩
  · exact Or.inr ⟨‹_›, h⟩
/-- how often a loop may go round: far above what any run needs -/
def FU : Nat := 1000000
