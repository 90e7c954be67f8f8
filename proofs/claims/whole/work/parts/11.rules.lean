/-! Rules for runs: a run ends, with an answer and a state. -/
def RR (K : Cfg) (d M pc : Nat) (lc : Lc) (st : List Value) (S : St) (r : Option Value) (S' : St) : Prop := ∃ n, ex K n d M pc lc st S = some (r, S')
def RC (K : Cfg) (d M : Nat) (as : List Value) (S : St) (r : Option Value) (S' : St) : Prop := ∃ n, call K (ex K n d M 0 (lv_args 0 as) [] S) M as S = some (r, S')
def isCR : Instr → Bool
  | .ireturn | .lreturn | .areturn | .return_ | .invokevirtual _ | .invokestatic _ => true
  | _ => false
/-- one step over a method's code -/
def s1 (K : Cfg) (nL : Nat) (cd : List (Nat × Xi)) (q : Nx) : Option Nx := match cd.lookup q.1 with
  | none => none
  | some (ins, _, x, y, z) => bif isCR ins then none else sx K nL q.1 ins x y z q.2.1 q.2.2.1 q.2.2.2
def sN (K : Cfg) (nL : Nat) (cd : List (Nat × Xi)) : Nat → Nx → Option Nx
  | 0, q => some q
  | k + 1, q => match s1 K nL cd q with
    | none => none
    | some q' => sN K nL cd k q'
theorem ex_succ {K : Cfg} : ∀ (n d M pc : Nat) (lc : Lc) (st : List Value) (S : St) (o : Option Value × St), ex K n d M pc lc st S = some o → ex K (n + 1) d M pc lc st S = some o
  | 0, d, M, pc, lc, st, S, o, h => by rw [ex] at h; cases h
  | n + 1, d, M, pc, lc, st, S, o, h => by
    rw [ex] at h ⊢
    split at h
    · cases h
    · split at h
      · cases h
      · split at h
        · exact h
        · exact h
        · exact h
        · exact h
        · split at h
          · rename_i hx9
            rw [if_pos hx9]
            split at h
            · split at h
              · rename_i hgd
                rw [if_pos hgd]
                exact ex_succ _ _ _ _ _ _ _ _ h
              · cases h
            · cases h
          · rename_i hx9
            rw [if_neg hx9]
            split at h
            · split at h
              · split at h
                · cases h
                · rename_i hc
                  unfold call at hc ⊢
                  split at hc
                  · cases hc
                    rename_i hg hi
                    rw [if_pos ‹_›]
                    simp only
                    exact ex_succ _ _ _ _ _ _ _ _ h
                  · rw [if_pos ‹_›, ex_succ _ _ _ _ _ _ _ _ hc]
                    simp only
                    exact ex_succ _ _ _ _ _ _ _ _ h
              · cases h
            · cases h
        · split at h
          · rename_i hx9
            rw [if_pos hx9]
            split at h
            · split at h
              · rename_i hgd
                rw [if_pos hgd]
                exact ex_succ _ _ _ _ _ _ _ _ h
              · cases h
            · cases h
          · rename_i hx9
            rw [if_neg hx9]
            split at h
            · split at h
              · split at h
                · cases h
                · rename_i hc
                  unfold call at hc ⊢
                  split at hc
                  · cases hc
                    rename_i hg hi
                    rw [if_pos ‹_›]
                    simp only
                    exact ex_succ _ _ _ _ _ _ _ _ h
                  · rw [if_pos ‹_›, ex_succ _ _ _ _ _ _ _ _ hc]
                    simp only
                    exact ex_succ _ _ _ _ _ _ _ _ h
              · cases h
            · cases h
        · split at h
          · cases h
          · exact ex_succ _ _ _ _ _ _ _ _ h
theorem ex_le {K : Cfg} {n m d M pc : Nat} {lc : Lc} {st : List Value} {S : St} {o : Option Value × St} (hnm : n ≤ m) (h : ex K n d M pc lc st S = some o) : ex K m d M pc lc st S = some o := by
  induction hnm with
  | refl => exact h
  | step _ ih => exact ex_succ _ _ _ _ _ _ _ _ ih
theorem RR.one {K : Cfg} {d M pc : Nat} {lc : Lc} {st : List Value} {S S' : St} {r : Option Value} {e : MI × List (Nat × Xi)} {q : Nx} (hm : mX M = some e) (h : s1 K e.1.2.2.1 e.2 (pc, lc, st, S) = some q) (k : RR K d M q.1 q.2.1 q.2.2.1 q.2.2.2 r S') : RR K d M pc lc st S r S' := by
  obtain ⟨n, hn⟩ := k
  refine ⟨n + 1, ?_⟩
  rw [ex, hm]
  unfold s1 at h
  simp only at h ⊢
  cases hl : e.2.lookup pc with
  | none => rw [hl] at h; cases h
  | some v =>
    obtain ⟨ins, len, x, y, z⟩ := v
    rw [hl] at h
    simp only at h ⊢
    cases ins <;> first | (simp only [isCR, cond_true] at h; cases h; done) | (simp only [isCR, cond_false] at h; simp only [h]; exact hn)
theorem RR.run {K : Cfg} {d M : Nat} {S' : St} {r : Option Value} {e : MI × List (Nat × Xi)} (hm : mX M = some e) : ∀ (k : Nat) (q q' : Nx), sN K e.1.2.2.1 e.2 k q = some q' → RR K d M q'.1 q'.2.1 q'.2.2.1 q'.2.2.2 r S' → RR K d M q.1 q.2.1 q.2.2.1 q.2.2.2 r S'
  | 0, q, q', h, kk => by cases h; exact kk
  | k + 1, q, q', h, kk => by
    simp only [sN] at h
    split at h
    · cases h
    · rename_i q1 h1
      exact RR.one hm h1 (RR.run hm k q1 q' h kk)
