/-! Rules for symbolic names, references that may be null, switches, the two calls of the JDK's. -/
section R4
variable {K : Cfg} {d M pc pc' nL : Nat} {cd : List (Nat × Xi)} {lc lc' : Lc} {st st' : List Value} {S S1 S' : St} {r : Option Value} {e : MI × List (Nat × Xi)}
theorem RR.gPo {c : Prop} [Decidable c] {o : Option Nx} (hm : mX M = some e) (hn : e.1.2.2.1 = nL) (hc : e.2 = cd) (h : s1 K nL cd (pc, lc, st, S) = if c then some (pc', lc', st', S1) else o) (g : c) (kk : RR K d M pc' lc' st' S1 r S') : RR K d M pc lc st S r S' := by
  subst hn hc
  rw [if_pos g] at h
  exact RR.one hm h kk
theorem RR.gPNo {c c2 : Prop} [Decidable c] [Decidable c2] {o : Option Nx} (hm : mX M = some e) (hn : e.1.2.2.1 = nL) (hc : e.2 = cd) (h : s1 K nL cd (pc, lc, st, S) = if c2 then (if c then none else some (pc', lc', st', S1)) else o) (g2 : c2) (g : ¬ c) (kk : RR K d M pc' lc' st' S1 r S') : RR K d M pc lc st S r S' := by
  rw [if_pos g2] at h
  exact RR.gN hm hn hc h g kk
theorem RR.gPP {c c2 : Prop} [Decidable c] [Decidable c2] (hm : mX M = some e) (hn : e.1.2.2.1 = nL) (hc : e.2 = cd) (h : s1 K nL cd (pc, lc, st, S) = if c2 then (if c then some (pc', lc', st', S1) else none) else none) (g2 : c2) (g : c) (kk : RR K d M pc' lc' st' S1 r S') : RR K d M pc lc st S r S' := by
  rw [if_pos g2] at h
  exact RR.gP hm hn hc h g kk
theorem RR.gNP {c c2 : Prop} [Decidable c] [Decidable c2] {o : Option Nx} (hm : mX M = some e) (hn : e.1.2.2.1 = nL) (hc : e.2 = cd) (h : s1 K nL cd (pc, lc, st, S) = if c2 then o else (if c then some (pc', lc', st', S1) else none)) (g2 : ¬ c2) (g : c) (kk : RR K d M pc' lc' st' S1 r S') : RR K d M pc lc st S r S' := by
  rw [if_neg g2] at h
  exact RR.gP hm hn hc h g kk
theorem RR.a_eq {a b A B : Nat} (ht : a = b → RR K d M A lc st S r S') (hf : ¬ a = b → RR K d M B lc st S r S') : RR K d M (acm .eq a b A B) lc st S r S' := by
  unfold acm
  by_cases h : a = b
  · simp only [if_pos h]; exact ht h
  · simp only [if_neg h]; exact hf h
theorem RR.a_ne {a b A B : Nat} (ht : a = b → RR K d M B lc st S r S') (hf : ¬ a = b → RR K d M A lc st S r S') : RR K d M (acm .ne a b A B) lc st S r S' := by
  unfold acm
  by_cases h : a = b
  · simp only [if_pos h]; exact ht h
  · simp only [if_neg h]; exact hf h
theorem RR.sw {x : Int32} {df lo t : Int} {ts : List Int} (T : Nat) (hT : ((pc : Int) + t).toNat = T) (ht : x.toInt = lo → RR K d M T lc st S r S') (hf : ¬ x.toInt = lo → RR K d M (swt x pc df (lo + 1) ts) lc st S r S') : RR K d M (swt x pc df lo (t :: ts)) lc st S r S' := by
  subst hT
  unfold swt
  by_cases h : x.toInt = lo
  · rw [if_pos h]; exact ht h
  · rw [if_neg h]; exact hf h
theorem RR.sw0 {x : Int32} {df lo : Int} (T : Nat) (hT : ((pc : Int) + df).toNat = T) (k : RR K d M T lc st S r S') : RR K d M (swt x pc df lo []) lc st S r S' := by
  subst hT
  exact k
end R4
theorem RR.reto {K : Cfg} {d M pc len x y z : Nat} {cd : List (Nat × Xi)} {lc : Lc} {S : St} {e : MI × List (Nat × Xi)} {n : String} {o : Option Nat} (hm : mX M = some e) (hc : e.2 = cd) (hr : e.1.2.2.2.1 = some (.object n)) (hl : cd.lookup pc = some (.areturn, len, x, y, z)) : RR K d M pc lc [qv o] S (some (qv o)) S := by
  cases o with
  | none => exact RR.retan hm hc hr hl
  | some b => exact RR.reta hm hc hr hl
theorem RR.ord {K : Cfg} {d M pc i len z b : Nat} {cd : List (Nat × Xi)} {lc : Lc} {rest : List Value} {S S' : St} {r : Option Value} {e : MI × List (Nat × Xi)} (hm : mX M = some e) (hc : e.2 = cd) (hl : cd.lookup pc = some (.invokevirtual i, len, 9, 1, z)) (ho : (e.1.2.2.2.2 = 1 ∧ i = 108) ∨ (e.1.2.2.2.2 = 3 ∧ i = 49)) (hk : (K.1 b).1 = 20) (hr : csum rest ≤ 8) (kk : RR K (d + 1) M (pc + 3) lc (.int (Int32.ofNat (K.1 b).2) :: rest) S r S') : RR K (d + 1) M pc lc (.ref b :: rest) S r S' := by
  subst hc
  obtain ⟨n2, h2⟩ := kk
  refine ⟨n2 + 1, ?_⟩
  rw [ex, hm]
  simp only [hl]
  rw [if_pos trivial, if_pos ⟨trivial, ho, hk, hr, Nat.succ_pos _⟩]
  exact h2
theorem RR.cpy {K : Cfg} {d M pc i len z a b : Nat} {cd : List (Nat × Xi)} {lc : Lc} {rest : List Value} {S S' : St} {r : Option Value} {cn dp sp : Int32} {e : MI × List (Nat × Xi)} (hm : mX M = some e) (hc : e.2 = cd) (hl : cd.lookup pc = some (.invokestatic i, len, 9, 4, z)) (ho : e.1.2.2.2.2 = 7 ∧ i = 37) (hk : (K.1 a).1 = 1 ∧ (K.1 b).1 = 1 ∧ a ≠ b ∧ sp = 0 ∧ dp = 0 ∧ cn = Int32.ofNat (K.1 b).2 ∧ (K.1 a).2 = (K.1 b).2 ∧ (K.1 b).2 < 100000) (hr : csum rest ≤ 8) (kk : RR K (d + 1) M (pc + 3) lc rest (cpA S a b (K.1 b).2) r S') : RR K (d + 1) M pc lc (.int cn :: .int dp :: .ref b :: .int sp :: .ref a :: rest) S r S' := by
  subst hc
  obtain ⟨n2, h2⟩ := kk
  refine ⟨n2 + 1, ?_⟩
  rw [ex, hm]
  simp only [hl]
  rw [if_pos trivial, if_pos ⟨trivial, ho.1, ho.2, hk.1, hk.2.1, hk.2.2.1, hk.2.2.2.1, hk.2.2.2.2.1, hk.2.2.2.2.2.1, hk.2.2.2.2.2.2.1, hk.2.2.2.2.2.2.2, hr, Nat.succ_pos _⟩]
  exact h2
def oq {β : Type} (o : Option Nat) (a : β) (k : Nat → β) : β := match o with
  | none => a
  | some b => k b
theorem oqE {β : Type} {o : Option Nat} {a : β} {k : Nat → β} {x : β} (h : oq o a k = x) : (o = none ∧ a = x) ∨ ∃ b, o = some b ∧ k b = x := by
  cases o with
  | none => exact Or.inl ⟨rfl, h⟩
  | some b => exact Or.inr ⟨b, rfl, h⟩
theorem RR.g30 {K : Cfg} {d M pc pc' nL : Nat} {cd : List (Nat × Xi)} {lc lc' : Lc} {st st' : List Value} {S S1 S' : St} {r : Option Value} {e : MI × List (Nat × Xi)} {c c1 c2 : Prop} [Decidable c] [Decidable c1] [Decidable c2] {o : Option Nx} (hm : mX M = some e) (hn : e.1.2.2.1 = nL) (hc : e.2 = cd) (h : s1 K nL cd (pc, lc, st, S) = if c1 then o else (if c2 then (if c then none else some (pc', lc', st', S1)) else none)) (g1 : ¬ c1) (g2 : c2) (g : ¬ c) (kk : RR K d M pc' lc' st' S1 r S') : RR K d M pc lc st S r S' := by
  rw [if_neg g1, if_pos g2] at h
  exact RR.gN hm hn hc h g kk
