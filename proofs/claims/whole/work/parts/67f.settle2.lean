/-! An orchard is settled: all of it. -/
section SETTLE2
variable {n p b k i d s s' bz j mo mm a v x : Nat} {T T' So Sm S S' So' Sm' : St} {P Q : Nat → Nat → Bool} {c c' : Nat → Nat} {W V : Nat → List Nat} {NB : Nat → Nat → Bool} {f : Nat → Nat → Int32} {l lN' lV' : List (Nat × Int32)}
theorem fFa_f (h : Fr (fFa v) S S') : Fr (fFf v) S S' := h.mo fun _ _ q => (Bool.or_eq_false_iff.mp q).1
theorem se_near (hd : d = 20 ∨ d = 21) (h : (rI S d 12 = 0 ∧ l = dfN) ∨ (¬ rI S d 12 = 0 ∧ FS (d + 14) l S)) : ∃ S', o_to_settle d S = o_to_settle_47 d S' ∧ FS (d + 14) l S' ∧ Fr (fFf (d + 14)) S S' := by
  unfold o_to_settle
  have hK := fk_all (d + 14) (by omega) (by omega)
  rcases h with ⟨h1, rfl⟩ | ⟨h1, h2⟩
  · obtain ⟨S1, a1, a2, _, a3⟩ := fo_clear hK S
    obtain ⟨S2, b1', b2', b3'⟩ := fo_add a2 (by decide) (t := 36) (by decide) 0
    obtain ⟨S3, c1', c2', c3'⟩ := fo_add b2' (by decide) (t := 2) (by decide) 0
    obtain ⟨S4, d1', d2', d3'⟩ := fo_add c2' (by decide) (t := 11) (by decide) 0
    rw [if_pos (kd_d hd), if_pos h1, if_pos hK.1, a1, bnq, (show o_fo_add (d + 14) 1036 0 S1 = _ from b1'), bnq, (show o_fo_add (d + 14) 1002 0 S2 = _ from c1'), bnq, (show o_fo_add (d + 14) 1011 0 S3 = _ from d1'), bnq]
    exact ⟨S4, rfl, d2', ((a3.tr (fFa_f b3')).tr (fFa_f c3')).tr (fFa_f d3')⟩
  · rw [if_pos (kd_d hd), if_neg h1]
    exact ⟨S, rfl, h2, Fr.rf⟩
theorem se_value (hd : d = 20 ∨ d = 21) (h : (rI S d 13 = 0 ∧ l = dfV) ∨ (¬ rI S d 13 = 0 ∧ FS (d + 16) l S)) : ∃ S', o_to_settle_47 d S = o_to_settle_127 d S' ∧ FS (d + 16) l S' ∧ Fr (fFf (d + 16)) S S' := by
  unfold o_to_settle_47
  have hK := fk_all (d + 16) (by omega) (by omega)
  rcases h with ⟨h1, rfl⟩ | ⟨h1, h2⟩
  · obtain ⟨S1, a1, a2, _, a3⟩ := fo_clear hK S
    obtain ⟨S2, b1', b2', b3'⟩ := fo_add a2 (by decide) (t := 40) (by decide) 0
    obtain ⟨S3, c1', c2', c3'⟩ := fo_add b2' (by decide) (t := 41) (by decide) 0
    obtain ⟨S4, d1', d2', d3'⟩ := fo_add c2' (by decide) (t := 2) (by decide) 0
    obtain ⟨S5, e1', e2', e3'⟩ := fo_add d2' (by decide) (t := 10) (by decide) 0
    obtain ⟨S6, f1', f2', f3'⟩ := fo_add e2' (by decide) (t := 7) (by decide) 0
    obtain ⟨S7, g1', g2', g3'⟩ := fo_add f2' (by decide) (t := 14) (by decide) 0
    rw [if_pos (kd_d hd), if_pos h1, if_pos hK.1, a1, bnq, (show o_fo_add (d + 16) 1040 0 S1 = _ from b1'), bnq, (show o_fo_add (d + 16) 1041 0 S2 = _ from c1'), bnq, (show o_fo_add (d + 16) 1002 0 S3 = _ from d1'), bnq, (show o_fo_add (d + 16) 1010 0 S4 = _ from e1'), bnq, (show o_fo_add (d + 16) 1007 0 S5 = _ from f1'), bnq, (show o_fo_add (d + 16) 1014 0 S6 = _ from g1'), bnq]
    exact ⟨S7, rfl, g2', (((((a3.tr (fFa_f b3')).tr (fFa_f c3')).tr (fFa_f d3')).tr (fFa_f e3')).tr (fFa_f f3')).tr (fFa_f g3')⟩
  · rw [if_pos (kd_d hd), if_neg h1]
    exact ⟨S, rfl, h2, Fr.rf⟩
/-- all that is settled -/
def SET (d : Nat) (c : Nat → Nat) (T : St) (W : Nat → List Nat) (lN' lV' : List (Nat × Int32)) (S : St) : Prop := FS (d + 16) lV' S ∧ (∀ x, x < c 1 → rI S (d + 38) x = mk (c 1) (NBl W lN' x)) ∧ (∀ r, r < 12 → rI S (d + 40) r = mk (c 0) fun a => decide (rI T 508 a = nI r)) ∧ (∀ a, a < 10 → rI S (d + 42) a = mk (c 0) fun b => decide (rI T 511 b = nI a)) ∧ ∀ q, q = 1 ∨ q = 2 ∨ q = 3 → rI S d (13 + q) = mk (c 0) fun a => decide (rI T 506 a = nI q)
def fLd (d : Nat) : Nat → Nat → Bool := fun a _ => dcl a && a % 2 == d % 2
theorem fLo_dc (h : ∀ a k, P a k = true → dcl a = true ∧ a % 2 = d % 2) (f : Fr P S S') : Fr (fLd d) S S' := f.mo fun a k q => by
  refine Bool.eq_false_iff.mpr fun q2 => ?_
  obtain ⟨h1, h2⟩ := h a k q2
  unfold fLd at q
  rw [h1, h2] at q
  simp at q
theorem dcl_i (hd : d = 20 ∨ d = 21) {a : Nat} (h : d ≤ a ∧ a ≤ d + 42) : dcl a = true := dcl_d hd (Or.inl h)
theorem se_ok (hd : d = 20 ∨ d = 21) (hT : DTB d c T W V S) (hN : (rI S d 12 = 0 ∧ lN' = dfN) ∨ (¬ rI S d 12 = 0 ∧ FS (d + 14) lN' S)) (hV : (rI S d 13 = 0 ∧ lV' = dfV) ∨ (¬ rI S d 13 = 0 ∧ FS (d + 16) lV' S)) (hR : ∀ x y, ∃ r, rp (nF W x y) lN' [] = some [r]) : ∃ S', o_to_settle d S = some ((), S') ∧ DTB d c T W V S' ∧ SET d c T W lN' lV' S' ∧ Fr (fLd d) S S' := by
  have hk := kS_d hd
  obtain ⟨S1, a1, a2, a3⟩ := se_near hd hN
  obtain ⟨S2, b1', b2', b3'⟩ := se_value (S := S1) (l := lV') hd (by
    rcases hV with ⟨h1, h2⟩ | ⟨h1, h2⟩
    · exact Or.inl ⟨(a3.i (fFf_n (by omega) (by omega))).trans h1, h2⟩
    · exact Or.inr ⟨fun q => h1 ((a3.i (fFf_n (by omega) (by omega))).symm.trans q), h2.fr a3 (fFf_n (by omega) (by omega)) (fun k => fFf_n (by omega) (by omega)) (fun k => fFf_n (by omega) (by omega))⟩)
  have a2' := a2.fr b3' (fFf_n (by omega) (by omega)) (fun k => fFf_n (by omega) (by omega)) (fun k => fFf_n (by omega) (by omega))
  have hT2 : DTB d c T W V S2 := (hT.fr2 a3 (fun a k q => fFf_n (by omega) (by omega)) hd).fr2 b3' (fun a k q => fFf_n (by omega) (by omega)) hd
  obtain ⟨S3, c1', c2', _, c3'⟩ := se_129 hk hR 16 0 FU S2 (by decide) (by unfold FU; omega) hT2.2.2.2.2.2.1 a2'
  have hT3 : DTB d c T W V S3 := hT2.fr2 c3' (fun a k q => fN8_n (by omega)) hd
  have t3 := hT3.1
  have fw : ∀ {S : St} {k : Nat} {y : Int32}, Fr (fAr d) S (wI S d k y) := Fr.wI (by unfold fAr; simp)
  have hv : ∀ {S : St} (y : Int32), TB (d + 80) 10 7 (c 0) (fun a j => rI T (ccol j) a) S → o_to_having d 0 y S = some (mk (c 0) fun a => decide (rI T 506 a = y), S) := fun y h => hv_ok hk.1 h (show 0 < 7 by decide) y
  have t4 := t3.fr (fw (k := 14) (y := mk (c 0) fun a => decide (rI T 506 a = 1))) (fun k => fAr_n (by omega)) (fun k => fAr_n (by omega))
  have t5 := t4.fr (fw (k := 15) (y := mk (c 0) fun a => decide (rI T 506 a = 2))) (fun k => fAr_n (by omega)) (fun k => fAr_n (by omega))
  have t6 := t5.fr (fw (k := 16) (y := mk (c 0) fun a => decide (rI T 506 a = 3))) (fun k => fAr_n (by omega)) (fun k => fAr_n (by omega))
  have s14 : rI (wI (wI (wI S3 d 14 (mk (c 0) fun a => decide (rI T 506 a = 1))) d 15 (mk (c 0) fun a => decide (rI T 506 a = 2))) d 16 (mk (c 0) fun a => decide (rI T 506 a = 3))) d 14 = mk (c 0) fun a => decide (rI T 506 a = nI 1) := by rw [rI_wI_k (by decide), rI_wI_k (by decide), rI_wI]; rfl
  have s15 : rI (wI (wI (wI S3 d 14 (mk (c 0) fun a => decide (rI T 506 a = 1))) d 15 (mk (c 0) fun a => decide (rI T 506 a = 2))) d 16 (mk (c 0) fun a => decide (rI T 506 a = 3))) d 15 = mk (c 0) fun a => decide (rI T 506 a = nI 2) := by rw [rI_wI_k (by decide), rI_wI]; rfl
  have s16 : rI (wI (wI (wI S3 d 14 (mk (c 0) fun a => decide (rI T 506 a = 1))) d 15 (mk (c 0) fun a => decide (rI T 506 a = 2))) d 16 (mk (c 0) fun a => decide (rI T 506 a = 3))) d 16 = mk (c 0) fun a => decide (rI T 506 a = nI 3) := by rw [rI_wI]; rfl
  have f6 : Fr (fAr d) S3 (wI (wI (wI S3 d 14 (mk (c 0) fun a => decide (rI T 506 a = 1))) d 15 (mk (c 0) fun a => decide (rI T 506 a = 2))) d 16 (mk (c 0) fun a => decide (rI T 506 a = 3))) := (fw.tr fw).tr fw
  have e155 : o_to_settle_155 d S3 = o_to_settle_187 FU d 0 (wI (wI (wI S3 d 14 (mk (c 0) fun a => decide (rI T 506 a = 1))) d 15 (mk (c 0) fun a => decide (rI T 506 a = 2))) d 16 (mk (c 0) fun a => decide (rI T 506 a = 3))) := by
    unfold o_to_settle_155
    rw [if_pos hk.1, hv 1 t3, bnq, ltq (wI S3 d 14 _), hv 2 t4, bnq, ltq (wI (wI S3 d 14 _) d 15 _), hv 3 t5, bnq, ltq (wI (wI (wI S3 d 14 _) d 15 _) d 16 _)]
  generalize wI (wI (wI S3 d 14 (mk (c 0) fun a => decide (rI T 506 a = 1))) d 15 (mk (c 0) fun a => decide (rI T 506 a = 2))) d 16 (mk (c 0) fun a => decide (rI T 506 a = 3)) = S6 at *
  obtain ⟨S7, d1', d2', _, d3'⟩ := se_187 hk 12 0 FU S6 (by decide) (by unfold FU; omega) t6
  have t7 := t6.fr d3' (fun k => fAr_n (by omega)) (fun k => fAr_n (by omega))
  obtain ⟨S8, e1', e2', _, e3'⟩ := se_216 hk 10 0 FU S7 (by decide) (by unfold FU; omega) t7
  have hT6 : DTB d c T W V S6 := hT3.fr2 f6 (fun a k q => fAr_n (by omega)) hd
  have hT8 : DTB d c T W V S8 := (hT6.fr2 d3' (fun a k q => fAr_n (by omega)) hd).fr2 e3' (fun a k q => fAr_n (by omega)) hd
  refine ⟨S8, ?_, hT8, ⟨?_, fun x hx => ?_, fun r hr => ?_, fun a ha => e2' a (Nat.zero_le _) ha, fun q hq => ?_⟩, ?_⟩
  · unfold o_to_settle_127 at b1'
    unfold o_to_settle_214 at d1'
    rw [a1, b1', (show o_to_settle_129 FU d 0 S2 = _ from c1'), e155, (show o_to_settle_187 FU d 0 S6 = _ from d1')]
    exact e1'
  · have g3 := b2'.fr c3' (fN8_n (by omega)) (fun k => fN8_n (by omega)) (fun k => fN8_n (by omega))
    have g6 := g3.fr f6 (fAr_n (by omega)) (fun k => fAr_n (by omega)) (fun k => fAr_n (by omega))
    have g7 := g6.fr d3' (fAr_n (by omega)) (fun k => fAr_n (by omega)) (fun k => fAr_n (by omega))
    exact g7.fr e3' (fAr_n (by omega)) (fun k => fAr_n (by omega)) (fun k => fAr_n (by omega))
  · rw [e3'.i (fAr_n (by omega)), d3'.i (fAr_n (by omega)), f6.i (fAr_n (by omega))]
    exact c2' x (Nat.zero_le _) hx
  · rw [e3'.i (fAr_n (by omega))]
    exact d2' r (Nat.zero_le _) hr
  · rw [e3'.i (fAr_n (by omega)), d3'.i (fAr_n (by omega))]
    rcases hq with rfl | rfl | rfl
    · exact s14
    · exact s15
    · exact s16
  · have ff : ∀ {f a k : Nat}, fFf f a k = true → a = f ∨ a = f + 4 ∨ a = f + 8 ∨ a = f + 12 := fun {f a k} q => by
      by_cases h1 : a = f ∨ a = f + 4 ∨ a = f + 8 ∨ a = f + 12
      · exact h1
      · rw [fFf_n (by omega) (by omega)] at q
        cases q
    have fa : ∀ {f a k : Nat}, fAr f a k = true → a = f := fun q => beq_iff_eq.mp q
    have f8 : ∀ {a k : Nat}, fN8 d a k = true → a = d + 10 ∨ a = d + 30 ∨ a = d + 34 ∨ a = d + 38 := fun {a k} q => by
      unfold fN8 fNo at q
      simp at q
      omega
    refine (((((fLo_dc (fun a k q => ?_) a3).tr (fLo_dc (fun a k q => ?_) b3')).tr (fLo_dc (fun a k q => ?_) c3')).tr (fLo_dc (fun a k q => ?_) f6)).tr (fLo_dc (fun a k q => ?_) d3')).tr (fLo_dc (fun a k q => ?_) e3')
    · have := ff q
      exact ⟨dcl_i hd (by omega), by omega⟩
    · have := ff q
      exact ⟨dcl_i hd (by omega), by omega⟩
    · have := f8 q
      exact ⟨dcl_i hd (by omega), by omega⟩
    · have := fa q
      exact ⟨dcl_i hd (by omega), by omega⟩
    · have := fa q
      exact ⟨dcl_i hd (by omega), by omega⟩
    · have := fa q
      exact ⟨dcl_i hd (by omega), by omega⟩
end SETTLE2
