section TOK
variable {K : Cfg} {G : Nat → Nat} {cy : Nat → ClassId} {L : List Nat} {D : va_G} {aA : Nat} {adT bT : Nat → Nat}
theorem okI_ok {l : Launch} (hG : ∀ (M : Nat) (e : MI × List (Nat × Xi)), mX M = some e → GoodE e) : okI KO G cy D L (SFt G aA adT bT) l := by
  intro d y as S o e ho0 he
  have ho : inO y as S = some o := ho0
  clear ho0
  unfold inO at ho
  split at ho
  · rename_i hy
    subst hy
    split at ho
    · rename_i x
      cases ho
      obtain rfl := Option.some.inj (he.symm.trans mx_1800)
      refine metS_body he (hG _ _ he) (Nat.le_of_ble_eq_true rfl) fun p ev s m below meth c ls A C0 hP hl => ?_
      obtain ⟨hx, hb, hr, hml, hown, hlocks, hts, hnw, hK, hA, hSF⟩ := C0
      have hl : lv_has ls 2 [(0, .int x)] := hl
      refine lv_iconst (v := nI 0) hx hb (by decide +kernel : decode prog_12_method_7_code 0 = .ok (.iconst 0, 1)) (by decide) ?_
      refine lv_istore_n (lv' := [(1, .int (nI 0)), (0, .int x)]) hx hb (by decide +kernel : decode prog_12_method_7_code 1 = .ok (.istore_n 1, 1)) rfl hl (by decide) rfl (fun ls hl => ?_)
      have h := sg_loop (K := KO) (G := G) (cy := cy) (L := L) (D := D) (l := l) (d := d) (p := p) (ev := ev) (below := below) (S := S) (x := x) hx hb hr hml hown hlocks hts hSF hP 42 0 rfl ls hl
      rw [sgF_0] at h
      exact h
    · cases ho
  · split at ho
    · rename_i hy
      subst hy
      split at ho
      · rename_i x
        cases ho
        obtain rfl := Option.some.inj (he.symm.trans mx_1801)
        refine metS_body he (hG _ _ he) (Nat.le_of_ble_eq_true rfl) fun p ev s m below meth c ls A C0 hP hl => ?_
        obtain ⟨hx, hb, hr, hml, hown, hlocks, hts, hnw, hK, hA, hSF⟩ := C0
        have hl : lv_has ls 3 [(0, .long x)] := hl
        refine lv_iconst (v := nI 0) hx hb (by decide +kernel : decode prog_12_method_8_code 0 = .ok (.iconst 0, 1)) (by decide) ?_
        refine lv_istore_n (lv' := [(2, .int (nI 0)), (0, .long x)]) hx hb (by decide +kernel : decode prog_12_method_8_code 1 = .ok (.istore_n 2, 1)) rfl hl (by decide) rfl (fun ls hl => ?_)
        have h := ltr_loop (K := KO) (G := G) (cy := cy) (L := L) (D := D) (l := l) (d := d) (p := p) (ev := ev) (below := below) (S := S) (x := x) hx hb hr hml hown hlocks hts hSF hP 42 0 rfl ls hl
        rw [ltF_0] at h
        exact h
      · cases ho
    · cases ho
end TOK
