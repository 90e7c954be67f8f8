/-! More rules: deeper, fewer locals, returns, calls, branches; how the lifted functions are taken apart. -/
theorem ex_deep {K : Cfg} : ∀ (n d M pc : Nat) (lc : Lc) (st : List Value) (S : St) (o : Option Value × St), ex K n d M pc lc st S = some o → ex K n (d + 1) M pc lc st S = some o
  | 0, d, M, pc, lc, st, S, o, h => by rw [ex] at h; cases h
  | n + 1, d, M, pc, lc, st, S, o, h => by
    rw [ex] at h ⊢
    split at h
    · cases h
    · split at h
      · cases h
      · split at h
        · exact h
        · exact h
        · exact h
        · exact h
        · split at h
          · rename_i hx9
            rw [if_pos hx9]
            split at h
            · split at h
              · rename_i hgd
                rw [if_pos ⟨hgd.1, hgd.2.1, hgd.2.2.1, hgd.2.2.2.1, Nat.succ_pos _⟩]
                exact ex_deep _ _ _ _ _ _ _ _ h
              · cases h
            · cases h
          · rename_i hx9
            rw [if_neg hx9]
            split at h
            · rename_i hd hm
              rw [hd, hm]
              simp only
              split at h
              · split at h
                · cases h
                · rename_i hc
                  unfold call at hc ⊢
                  split at hc
                  · cases hc
                    rename_i hi
                    rw [if_pos ‹_›]
                    simp only [hi]
                    exact ex_deep _ _ _ _ _ _ _ _ h
                  · rename_i hi
                    rw [if_pos ‹_›]
                    simp only [hi, ex_deep _ _ _ _ _ _ _ _ hc]
                    exact ex_deep _ _ _ _ _ _ _ _ h
              · cases h
            · cases h
        · split at h
          · rename_i hx9
            rw [if_pos hx9]
            split at h
            · split at h
              · rename_i hgd
                rw [if_pos ⟨hgd.1, hgd.2.1, hgd.2.2.1, hgd.2.2.2.1, hgd.2.2.2.2.1, hgd.2.2.2.2.2.1, hgd.2.2.2.2.2.2.1, hgd.2.2.2.2.2.2.2.1, hgd.2.2.2.2.2.2.2.2.1, hgd.2.2.2.2.2.2.2.2.2.1, hgd.2.2.2.2.2.2.2.2.2.2.1, hgd.2.2.2.2.2.2.2.2.2.2.2.1, Nat.succ_pos _⟩]
                exact ex_deep _ _ _ _ _ _ _ _ h
              · cases h
            · cases h
          · rename_i hx9
            rw [if_neg hx9]
            split at h
            · rename_i hm
              rw [hm]
              simp only
              split at h
              · split at h
                · cases h
                · rename_i hc
                  unfold call at hc ⊢
                  split at hc
                  · cases hc
                    rename_i hi
                    rw [if_pos ‹_›]
                    simp only [hi]
                    exact ex_deep _ _ _ _ _ _ _ _ h
                  · rename_i hi
                    rw [if_pos ‹_›]
                    simp only [hi, ex_deep _ _ _ _ _ _ _ _ hc]
                    exact ex_deep _ _ _ _ _ _ _ _ h
              · cases h
            · cases h
        · split at h
          · cases h
          · exact ex_deep _ _ _ _ _ _ _ _ h
theorem ex_dle {K : Cfg} {n d d' M pc : Nat} {lc : Lc} {st : List Value} {S : St} {o : Option Value × St} (hd : d ≤ d') (h : ex K n d M pc lc st S = some o) : ex K n d' M pc lc st S = some o := by
  induction hd with
  | refl => exact h
  | step _ ih => exact ex_deep _ _ _ _ _ _ _ _ ih
theorem RC.deep {K : Cfg} {d d' M : Nat} {as : List Value} {S S' : St} {r : Option Value} (hd : d ≤ d') (h : RC K d M as S r S') : RC K d' M as S r S' := by
  obtain ⟨n, hn⟩ := h
  refine ⟨n, ?_⟩
  unfold call at hn ⊢
  split at hn
  · exact hn
  · exact ex_dle hd hn
/-! fewer locals -/
def lck : Lc → Lc → Prop
  | [], _ => True
  | q :: t, lc' => lget lc' q.1 = some q.2 ∧ lck t lc'
def lle (lc lc' : Lc) : Prop := ∀ q ∈ lc, lget lc' q.1 = some q.2
def lnd (lc : Lc) : Prop := (lc.map (fun q => q.1)).Nodup
theorem lle_of : ∀ {lc lc' : Lc}, lck lc lc' → lle lc lc'
  | [], _, _ => fun _ h => absurd h List.not_mem_nil
  | _ :: _, _, h => List.forall_mem_cons.mpr ⟨h.1, lle_of h.2⟩
theorem lle_get {lc lc' : Lc} (h : lle lc lc') {i : Nat} {v : Value} (hg : lget lc i = some v) : lget lc' i = some v := h _ (lget_mem hg)
theorem lnd_filter {lc : Lc} (h : lnd lc) (p : Nat × Value → Bool) : lnd (lc.filter p) := h.sublist (List.Sublist.map _ List.filter_sublist)
theorem lnd_set1 {lc : Lc} (h : lnd lc) (i : Nat) (v : Value) : lnd (lset1 lc i v) := by
  refine List.nodup_cons.mpr ⟨?_, lnd_filter h _⟩
  simp only [List.mem_map, List.mem_filter, not_exists]
  rintro q ⟨⟨-, hq⟩, he⟩
  simp only [Bool.and_eq_true, Bool.not_eq_true', beq_eq_false_iff_ne] at hq
  exact hq.1 he
theorem lnd_set2 {lc : Lc} (h : lnd lc) (i : Nat) (v : Value) : lnd (lset2 lc i v) := by
  refine List.nodup_cons.mpr ⟨?_, lnd_filter h _⟩
  simp only [List.mem_map, List.mem_filter, not_exists]
  rintro q ⟨⟨-, hq⟩, he⟩
  simp only [Bool.and_eq_true, Bool.not_eq_true', beq_eq_false_iff_ne] at hq
  exact hq.1 he
theorem lget_filter {lc : Lc} {i : Nat} {v : Value} {p : Nat × Value → Bool} (h : lget lc i = some v) (hp : p (i, v) = true) : lget (lc.filter p) i = some v := by
  induction lc with
  | nil => simp [lget] at h
  | cons q l ih =>
    obtain ⟨j, w⟩ := q
    unfold lget at h ih ⊢
    rw [List.lookup_cons] at h
    by_cases hij : i = j
    · subst hij
      simp at h
      subst h
      rw [List.filter_cons_of_pos hp, List.lookup_cons]
      simp
    · have h2 : (i == j) = false := by simpa using hij
      rw [h2] at h
      by_cases hq : p (j, w) = true
      · rw [List.filter_cons_of_pos hq, List.lookup_cons, h2]
        exact ih h
      · rw [List.filter_cons_of_neg hq]
        exact ih h
theorem lget_cons {lc : Lc} {i j : Nat} {v : Value} : lget ((i, v) :: lc) j = if j = i then some v else lget lc j := by
  unfold lget
  rw [List.lookup_cons]
  by_cases h : j = i
  · simp [h]
  · have h2 : (j == i) = false := by simpa using h
    simp [h2, h]
theorem lle_set1 {lc lc' : Lc} (h : lle lc lc') (i : Nat) (v : Value) : lle (lset1 lc i v) (lset1 lc' i v) := by
  intro q hq
  unfold lset1 at hq ⊢
  rw [lget_cons]
  rcases List.mem_cons.mp hq with rfl | hq
  · simp
  · obtain ⟨h1, h2⟩ := List.mem_filter.mp hq
    have hne : q.1 ≠ i := by
      simp only [Bool.and_eq_true, Bool.not_eq_true', beq_eq_false_iff_ne] at h2
      exact h2.1
    rw [if_neg hne]
    exact lget_filter (h q h1) h2
theorem lle_set2 {lc lc' : Lc} (h : lle lc lc') (i : Nat) (v : Value) : lle (lset2 lc i v) (lset2 lc' i v) := by
  intro q hq
  unfold lset2 at hq ⊢
  rw [lget_cons]
  rcases List.mem_cons.mp hq with rfl | hq
  · simp
  · obtain ⟨h1, h2⟩ := List.mem_filter.mp hq
    have hne : q.1 ≠ i := by
      simp only [Bool.and_eq_true, Bool.not_eq_true', beq_eq_false_iff_ne] at h2
      exact h2.1
    rw [if_neg hne]
    exact lget_filter (h q h1) h2
def lcN (o : Option Nx) (lc : Lc) : Option Nx := o.map (fun q => (q.1, lc, q.2.2))
set_option maxHeartbeats 4000000 in
theorem sx_mono {K : Cfg} {nL pc x y z : Nat} {ins : Instr} {lc lc' : Lc} {st : List Value} {S : St} {q : Nx} (h : sx K nL pc ins x y z lc st S = some q) (hl : lle lc lc') : ∃ lc1, sx K nL pc ins x y z lc' st S = some (q.1, lc1, q.2.2) ∧ lle q.2.1 lc1 := by
  obtain ⟨pc1, lcq, st1, S1⟩ := q
  cases ins with
  | iload i | iload_n i | lload i | lload_n i =>
    simp only [sx] at h ⊢
    split at h <;> cases h
    rename_i hg
    rw [lle_get hl hg]
    exact ⟨lc', rfl, hl⟩
  | aload i | aload_n i =>
    simp only [sx] at h ⊢
    split at h <;> cases h <;> (rename_i hg; rw [lle_get hl hg]; exact ⟨lc', rfl, hl⟩)
  | iinc i c =>
    simp only [sx] at h ⊢
    split at h <;> try (cases h; done)
    rename_i hg
    split at h <;> cases h
    rename_i hi
    rw [lle_get hl hg]
    simp only [if_pos hi]
    exact ⟨_, rfl, lle_set1 hl _ _⟩
  | istore i | istore_n i =>
    simp only [sx] at h ⊢
    split at h <;> try (cases h; done)
    split at h <;> cases h
    rename_i hi
    simp only [if_pos hi]
    exact ⟨_, rfl, lle_set1 hl _ _⟩
  | lstore i | lstore_n i =>
    simp only [sx] at h ⊢
    split at h <;> try (cases h; done)
    split at h <;> cases h
    rename_i hi
    simp only [if_pos hi]
    exact ⟨_, rfl, lle_set2 hl _ _⟩
  | astore i | astore_n i =>
    simp only [sx] at h ⊢
    split at h <;> try (cases h; done)
    all_goals
      split at h <;> cases h
      rename_i hi
      simp only [if_pos hi]
      exact ⟨_, rfl, lle_set1 hl _ _⟩
  | iadd | isub | imul | iand | ior | ixor | ishl | ishr | iushr =>
    simp only [sx, b2] at h ⊢
    split at h <;> cases h
    exact ⟨lc', rfl, hl⟩
  | idiv | irem =>
    simp only [sx, d2] at h ⊢
    split at h <;> try (cases h; done)
    split at h <;> cases h
    rename_i hi
    simp only [if_neg hi]
    exact ⟨lc', rfl, hl⟩
  | ladd | lsub | lmul | land | lor =>
    simp only [sx, b2L] at h ⊢
    split at h <;> cases h
    exact ⟨lc', rfl, hl⟩
  | ldiv | lrem =>
    simp only [sx, d2L] at h ⊢
    split at h <;> try (cases h; done)
    split at h <;> cases h
    rename_i hi
    simp only [if_neg hi]
    exact ⟨lc', rfl, hl⟩
  | lshl | lshr | lushr =>
    simp only [sx, sh2] at h ⊢
    split at h <;> cases h
    exact ⟨lc', rfl, hl⟩
  | lcmp | i2l | l2i | i2c | dup | dup2 | pop =>
    simp only [sx] at h ⊢
    split at h <;> cases h <;> exact ⟨lc', rfl, hl⟩
  | iconst _ | bipush _ | sipush _ | lconst _ | aconst_null | ldc2_w _ =>
    simp only [sx] at h ⊢
    cases h
    exact ⟨lc', rfl, hl⟩
  | ldc_w _ | ldc _ =>
    simp only [sx] at h ⊢
    split at h <;> cases h
    rename_i hi
    simp only [if_neg hi]
    exact ⟨lc', rfl, hl⟩
  | goto o =>
    simp only [sx, jmp] at h ⊢
    split at h <;> cases h
    rename_i hi
    simp only [if_pos hi]
    exact ⟨lc', rfl, hl⟩
  | if_icmp c o | ifCond c o =>
    simp only [sx, jmp] at h ⊢
    split at h <;> try (cases h; done)
    split at h <;> try (cases h; done)
    rename_i hi
    cases h
    simp only [if_pos hi]
    exact ⟨lc', rfl, hl⟩
  | ifnull o | ifnonnull o =>
    simp only [sx, jmp] at h ⊢
    split at h <;> try (cases h; done)
    · split at h <;> cases h
      rename_i hi
      simp only [if_pos hi]
      exact ⟨lc', rfl, hl⟩
    · cases h
      exact ⟨lc', rfl, hl⟩
  | tableswitch d lo hi offs =>
    simp only [sx] at h ⊢
    split at h <;> try (cases h; done)
    split at h <;> cases h
    rename_i hi
    simp only [if_pos hi]
    exact ⟨lc', rfl, hl⟩
  | getfield _ =>
    simp only [sx] at h ⊢
    split at h <;> try (cases h; done)
    split at h
    · rename_i hi
      cases h
      simp only [if_pos hi]
      exact ⟨lc', rfl, hl⟩
    · rename_i hi
      split at h <;> cases h
      rename_i hj
      simp only [if_neg hi, if_pos hj]
      exact ⟨lc', rfl, hl⟩
  | getstatic _ =>
    simp only [sx] at h ⊢
    split at h
    · rename_i hi
      cases h
      simp only [if_pos hi]
      exact ⟨lc', rfl, hl⟩
    · rename_i hi
      split at h <;> cases h
      rename_i hj
      simp only [if_neg hi, if_pos hj]
      exact ⟨lc', rfl, hl⟩
  | iaload =>
    simp only [sx] at h ⊢
    split at h <;> try (cases h; done)
    split at h
    · rename_i hi
      split at h <;> cases h
      rename_i hj
      simp only [if_pos hi, if_neg hj]
      exact ⟨lc', rfl, hl⟩
    · rename_i hi
      split at h <;> try (cases h; done)
      rename_i hi2
      split at h <;> cases h
      rename_i hj
      simp only [if_neg hi, if_pos hi2, if_neg hj]
      exact ⟨lc', rfl, hl⟩
  | aastore =>
    simp only [sx] at h ⊢
    split at h <;> try (cases h; done)
    all_goals
      split at h <;> try (cases h; done)
      rename_i hi
      split at h <;> cases h
      rename_i hj
      simp only [if_pos hi, if_neg hj]
      exact ⟨lc', rfl, hl⟩
  | if_acmp c o =>
    simp only [sx, jmp] at h ⊢
    split at h <;> try (cases h; done)
    · split at h <;> try (cases h; done)
      rename_i hg
      split at h <;> try (cases h; done)
      rename_i hi
      cases h
      simp only [if_pos hg, if_pos hi]
      exact ⟨lc', rfl, hl⟩
    all_goals
      split at h <;> try (cases h; done)
      rename_i hi
      cases h
      simp only [if_pos hi]
      exact ⟨lc', rfl, hl⟩
  | putfield _ =>
    simp only [sx] at h ⊢
    split at h <;> try (cases h; done)
    · split at h <;> try (cases h; done)
      rename_i hi
      simp only [if_pos hi]
      split at h <;> try (cases h; done)
      · cases h
        exact ⟨lc', rfl, hl⟩
      · split at h <;> cases h
        rename_i hb
        simp only [if_pos hb]
        exact ⟨lc', rfl, hl⟩
    · split at h <;> cases h
      rename_i hi
      simp only [if_pos hi]
      exact ⟨lc', rfl, hl⟩
    · split at h <;> cases h
      rename_i hi
      simp only [if_pos hi]
      exact ⟨lc', rfl, hl⟩
  | caload | baload | laload | aaload | iastore | castore | bastore | lastore =>
    simp only [sx] at h ⊢
    split at h <;> try (cases h; done)
    split at h <;> try (cases h; done)
    rename_i hi
    split at h <;> cases h
    rename_i hj
    simp only [if_pos hi, if_neg hj]
    exact ⟨lc', rfl, hl⟩
  | arraylength =>
    simp only [sx] at h ⊢
    split at h <;> try (cases h; done)
    split at h <;> cases h
    rename_i hi
    simp only [if_pos hi]
    exact ⟨lc', rfl, hl⟩
  | _ => cases h
