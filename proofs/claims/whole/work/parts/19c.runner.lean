/-! A run of 'exA' is one of the machine: the theorem. -/
section RUNNER
variable {K : Cfg} {G : Nat → Nat} {cy : Nat → ClassId} {D : va_G} {SF : (Nat → Prop) → State → Heap → Prop} {al : List Nat} {base sM sp : Nat}
theorem putF_ok {l : Launch} {p : Program} {ev : Env} {R : Room} {s : State} {m : MethodId} {args : Array Value} {below : List Frame} {meth : Method} {c : Code} {H : Heap} {locs : List Loc} {ls : Array Slot} {cells slots k k0 i y z a pc : Nat} {S S' : St} {stk : List Value} {v : Value} {ty : FieldType} {Q : State → Prop} {e : MI × List (Nat × Xi)} (hA : okA K al G base) (C0 : FrA G cy D SF base e p s m args meth c k0)
    (hP : va_P D kCl (wl (KA K al k) G cy (al.take k) S) H) (hS : va_S (fun q => base ≤ q) s.heap H locs) (hdec : decode e.1.2.1 pc = .ok (.putfield i, 3)) (hw : fW e.1.2.2.2.2 i 0 y z ∈ lw_tbl) (ha : (KA K al k).1 a = (0, y)) (hz : z < kF y) (hfin : (kT y z).2.2.2 = true) (hdecl : (kT y z).1 = kN e.1.2.2.2.2) (hini : e.1.1.name = "<init>") (hty : kY y z = ty) (hn : narrow ty v = v) (hfit : fits ty v = true)
    (h1 : cE (KA K al k) G cy S' a = .inr (y, (fL' (KA K al k) G S a y).set z v)) (h2 : ∀ b, b ≠ a → cE (KA K al k) G cy S' b = cE (KA K al k) G cy S b)
    (kk : ∀ (H1 : Heap) (locs1 : List Loc), va_P D kCl (wl (KA K al k) G cy (al.take k) S') H1 → va_S (fun q => base ≤ q) s.heap H1 locs1 → W p l ev R s m args below meth c H1 locs1 cells slots Q (F0 m (pc + 3) ls stk)) :
    W p l ev R s m args below meth c H locs cells slots Q (F0 m pc ls (v :: .ref (G a) :: stk)) := by
  obtain ⟨hx, hb, hr, hml, hown, hlocks, hnm, hts, hnw, hK, hao, hSF, hsz⟩ := C0
  have hk := okK_A hA k
  have hD := a_D (cy := cy) hA k S
  have hy : y < 13 := by have := hk.2.1 a (by rw [ha]); rw [ha] at this; exact this
  obtain ⟨q, hq, hwq⟩ := wl_get (K := KA K al k) (G := G) (cy := cy) S (hk.1 a (by simp [ha]))
  have hce : cE (KA K al k) G cy S a = .inr (y, fL' (KA K al k) G S a y) := by unfold cE; rw [ha]; rfl
  rw [hce] at hwq
  have hset := wl_set hD hq h1 h2
  have hft := fT_kT hy hz
  unfold fW at hw
  rw [hft] at hw
  refine va_putF (own := kN e.1.2.2.2.2) (ref := (kT y z).1) (C := kN y) (T := kT y) (N := kF y) (ci := y) (Ts := gw) hx hb hts (k_ws y hy) (kY y) (k_ty y hy) (k_nm y hy) hown hK hP hD hS q hwq (kCl_at y hy) z hz (hts _ (gw_in hw rfl)) (fun _ h => h) hfin (hnm.trans hini) hdecl ((k_ty y hy z hz).trans (congrArg some hty)) hn hfit (by simp [fL', hz]) hdec (fun H1 locs1 g1 g2 g3 => ?_)
  rw [hset] at g1
  exact kk H1 locs1 g1 g3
theorem sp_word {o i x y z : Nat} {cc : ByteArray} {pc len : Nat} (h : chkI o cc (pc, .invokespecial i, len, x, y, z) = true) : (mL.any (fun f => f.1 == o && (f.2.1 == i && (f.2.2.1 == x && (f.2.2.2.1 == y && f.2.2.2.2.1 == z)))) || x == 9) = true := by
  unfold chkI at h
  exact (Bool.and_eq_true_iff.mp h).2
theorem link_5 {o i y z : Nat} {e' : MI × List (Nat × Xi)} (hmy : mX y = some e') (h : (mL.any (fun f => f.1 == o && (f.2.1 == i && (f.2.2.1 == 5 && (f.2.2.2.1 == y && f.2.2.2.2.1 == z)))) || (5 : Nat) == 9) = true) : Cond.methodLinkNest (kN o) i e'.1.1 "NameOrchard" ∈ lw_tbl ∧ Cond.instanceMethod e'.1.1 ∈ lw_tbl ∧ (parseMethodDescriptor e'.1.1.desc).map (fun d => d.parameters.length) = some z := by
  obtain ⟨g1, g2, g3, g4⟩ := mL_word (o := o) (i := i) (x := 5) (y := y) (z := z) h (by omega)
  have e1 := mN_of hmy
  rw [← e1]
  exact ⟨g1, g2, g4⟩
set_option maxHeartbeats 8000000 in
theorem runA_ok {l : Launch} (hF : okF SF) (hT : okT SF G) (hA : okA K al G base) (hG : ∀ (M : Nat) (e : MI × List (Nat × Xi)), mX M = some e → GoodE e) : ∀ n, RunA K G cy D SF al base sM sp l n := by
  intro n
  induction n with
  | zero =>
    intro d M k pc lc st S o hex
    simp only [exA] at hex
    cases hex
  | succ n IH =>
    intro d M k pc lc st S o hex e he p ev R s m args below meth c H locs ls k0 Q C0 hk0 hkl hP hS hl hfit hret
    have hg := hG M e he
    have C1 := C0
    obtain ⟨hcw, hall, hcls, ho, hml14⟩ := hg
    obtain ⟨hx, hb, hr, hml, hown, hlocks, hnm, hts, hnw, hK, hao, hSF, hsz⟩ := C0
    have hD := a_D (cy := cy) hA k S
    have hsub := okK_A hA k
    have hsl0 := sl_mono (K := K) (al := al) hk0
    rw [exA, he] at hex
    simp only at hex
    split at hex
    · rename_i hstop
      cases hex
      exact hret H locs ls (Or.inl hstop) hP hS hl
    cases hlk : e.2.lookup pc with
    | none => rw [hlk] at hex; cases hex
    | some q =>
      obtain ⟨ins, len, x, y, z⟩ := q
      rw [hlk] at hex
      have hmem := lookup_mem hlk
      have hchk := List.all_eq_true.mp hall _ hmem
      have hlen' := List.all_eq_true.mp (mX_len he) _ hmem
      have hdec : decode e.1.2.1 pc = .ok (ins, len) := by
        unfold chkI at hchk
        exact of_decide_eq_true (Bool.and_eq_true_iff.mp hchk).1
      have hlen : ilen ins = 0 ∨ len = ilen ins := by simpa [chkL] using hlen'
      clear hlen'
      refine W.top fun hu => ?_
      have hz := a_size hA hkl hk0 hP hsz hS.1 hu
      simp only at hex
      split at hex
      · obtain rfl : len = 1 := by simpa [ilen] using hlen
        split at hex
        · split at hex
          · rename_i hrn
            cases hex
            exact hret H locs ls (Or.inr ⟨hdec, rfl, hrn⟩) hP hS hl
          · cases hex
        · cases hex
      · obtain rfl : len = 3 := by simpa [ilen] using hlen
        split at hex
        · rename_i a ha
          split at hex
          · rename_i hany
            obtain ⟨q, hq, h1⟩ := List.any_eq_true.mp hany
            simp only [Bool.and_eq_true, beq_iff_eq] at h1
            obtain ⟨h1, h2, h3⟩ := h1
            obtain ⟨w1, w2, w3⟩ := nwL_ok q hq
            rw [h1, h2] at w1
            have hm := exA_mono _ _ _ _ _ _ _ _ _ hex
            have hsl1 := sl_mono (K := K) (al := al) hm.1
            have hkl1 : k < al.length := (List.getElem?_eq_some_iff.mp ha).1
            refine new_ok hA C1 hk0 hP hS hz ha h3 w3 (List.mem_of_getElem? w1) (List.mem_of_getElem? w2) (by have := hfit.2.2.1; have := hm.1; omega) (by have := hfit.2.2.2; omega) hdec (fun H1 locs1 g1 g2 => ?_)
            exact IH d M (k + 1) (pc + 3) lc (.ref a :: st) (clr S a) o hex e he p ev R s m args below meth c H1 locs1 ls k0 Q C1 (by omega) (by omega) g1 g2 hl hfit hret
          · cases hex
        · cases hex
      · obtain rfl : len = 2 := by simpa [ilen] using hlen
        split at hex
        · rename_i a v r9 ha
          split at hex
          · rename_i hgd
            obtain ⟨hv, h3, ht5, hn5⟩ := hgd
            have hm := exA_mono _ _ _ _ _ _ _ _ _ hex
            have hsl1 := sl_mono (K := K) (al := al) hm.1
            have hkl1 : k < al.length := (List.getElem?_eq_some_iff.mp ha).1
            refine newa_ok (stk := r9.map (gv G)) hA C1 hk0 hP hS hz ha hv h3 ht5 hn5 (by have := hfit.2.2.1; have := hm.1; omega) (by have := hfit.2.2.2; omega) hdec (fun H1 locs1 g1 g2 => ?_)
            exact IH d M (k + 1) (pc + 2) lc (.ref a :: r9) (clr S a) o hex e he p ev R s m args below meth c H1 locs1 ls k0 Q C1 (by omega) (by omega) g1 g2 hl hfit hret
          · cases hex
        · cases hex
      · obtain rfl : len = 3 := by simpa [ilen] using hlen
        split at hex
        · rename_i a v r9 ha
          split at hex
          · rename_i hgd
            obtain ⟨hv, hany, hn5⟩ := hgd
            obtain ⟨q, hq, h1⟩ := List.any_eq_true.mp hany
            simp only [Bool.and_eq_true, beq_iff_eq] at h1
            obtain ⟨h1, h2, h3⟩ := h1
            obtain ⟨w1, w3⟩ := anL_ok q hq
            rw [h1, h2] at w1
            have hm := exA_mono _ _ _ _ _ _ _ _ _ hex
            have hsl1 := sl_mono (K := K) (al := al) hm.1
            have hkl1 : k < al.length := (List.getElem?_eq_some_iff.mp ha).1
            refine newq_ok (stk := r9.map (gv G)) hA C1 hk0 hP hS hz ha hv h3 w3 hn5 (List.mem_of_getElem? w1) (by have := hfit.2.2.1; have := hm.1; omega) (by have := hfit.2.2.2; omega) hdec (fun H1 locs1 g1 g2 => ?_)
            exact IH d M (k + 1) (pc + 3) lc (.ref a :: r9) (clr S a) o hex e he p ev R s m args below meth c H1 locs1 ls k0 Q C1 (by omega) (by omega) g1 g2 hl hfit hret
          · cases hex
        · cases hex
      · obtain rfl : len = 3 := by simpa [ilen] using hlen
        split at hex
        · split at hex
          · rename_i b9 r9
            split at hex
            · rename_i hgd
              obtain ⟨hany, hcr, hd0⟩ := hgd
              obtain ⟨q, hq, h1⟩ := List.any_eq_true.mp hany
              simp only [Bool.and_eq_true, beq_iff_eq] at h1
              have w := oiL_ok q hq
              rw [h1.1, h1.2] at w
              have hW8 : ((r9.map (gv G)).map fun v => v.category).sum ≤ 8 := by have := csum_map G r9; unfold csum at this hcr; omega
              refine W.objInit (rest := r9.map (gv G)) hx hb hown (hts _ (gw_in (List.mem_of_getElem? w) rfl)) (hts _ (gw_in oi_ws.1 rfl)) (hts _ (gw_in oi_ws.2 rfl)) rfl (hl.1.trans hml.symm) rfl hdec (by have := hfit.1; omega) (by
                show 2 * 0 + _ + 12 ≤ _
                have := loc_ge hfit.2.1
                omega) ?_
              exact IH d M k (pc + 3) lc r9 S o hex e he p ev R s m args below meth c H locs ls k0 Q C1 hk0 hkl hP hS hl hfit hret
            · cases hex
          · cases hex
        · split at hex
          · rename_i b r9 e' d' hdrop hmy
            split at hex
            · rename_i hgd
              obtain ⟨rfl, hcr, hca, hys, hni, hrn⟩ := hgd
              have hcw' : Cond.code e'.1.1 e'.1.2.1 e'.1.2.2.1 none = Cond.code e'.1.1 e'.1.2.1 e'.1.2.2.1 e'.1.2.2.2.1 := by rw [hrn]
              split at hex
              · cases hex
              · rename_i o1 ho1
                have hm1 := exA_mono _ _ _ _ _ _ _ _ _ ho1
                have hm2 := exA_mono _ _ _ _ _ _ _ _ _ hex
                have hs1 := sl_mono (K := K) (al := al) hm1.1
                have hs2 := sl_mono (K := K) (al := al) hm2.1
                have hg' := hG y e' hmy
                have hM := metA_of (base := base) IH hmy hg' hys hkl hca ho1
                have hzl : z < st.length := by
                  have := congrArg List.length hdrop
                  simp only [List.length_drop, List.length_cons] at this
                  omega
                have hst : st.map (gv G) = (((st.take z).reverse).map (gv G)).reverse ++ .ref (G b) :: r9.map (gv G) := by
                  rw [← List.map_reverse, List.reverse_reverse]
                  conv => lhs; rw [← List.take_append_drop z st, hdrop]
                  simp [gv]
                have hAs : (((st.take z).reverse).map (gv G)).length = z := by simp; omega
                have hW8 : ((r9.map (gv G)).map fun v => v.category).sum ≤ 8 := by have := csum_map G r9; unfold csum at this hcr; omega
                have hloc : 8 + (e'.1.2.2.1 + 11) + 64 * (d' + 4) ≤ R.locals := loc_ok hg'.2.2.2.2 hfit.2.1
                have hini : Cond.initialized e'.1.1.cls ∈ lw_tbl := by rw [hg'.2.2.1]; exact List.mem_of_getElem? (k_init _ hg'.2.2.2.1)
                have hmh := kN_mh _ hg'.2.2.2.1
                rw [← hg'.2.2.1] at hmh
                obtain ⟨w1, w2, w4⟩ := link_5 hmy (sp_word hchk)
                have hSF' := hF.2.1 _ s s.heap H hS.2.1 hSF
                have hpc : ∀ U : State, U.heap = H → s.WarmedH U.vm → va_Pc (Value.ref (G b) :: ((st.take z).reverse).map (gv G)) (PA K G cy D SF al base k S) (Value.ref (G b) :: ((st.take z).reverse).map (gv G)).toArray U := fun U hU hW =>
                  ⟨rfl, by rw [hU]; exact hz, by rw [hU]; exact hP, va_K.moved hW.alike hK, fun w hw => nw_warm hw hW (hnw w hw), fun t g1 g2 => va_AO.moved hW.alike (hao t g1 g2), by rw [hU]; exact hF.1 _ s U H hW.alike hSF'⟩
                rw [hst]
                refine w_callA (va_runIN (bytes := e'.1.2.1) (maxL := e'.1.2.2.1) (host := "NameOrchard") (As := ((st.take z).reverse).map (gv G)) (rest := r9.map (gv G)) (nL := e.1.2.2.1) ⟨hx, hb, hml, hown, hts⟩ hM ⟨⟨⟨rfl, rfl, frm_ok hfit.1, hloc, pay_in hts (ws_good hg'), by rw [hcw']; exact List.mem_cons_self⟩, by rw [hcw']; exact hts _ (gw_in hg'.1 rfl), hts _ (gw_in hini rfl), hmh, nargs_of w4, va_Nw.use rfl (hnw _ (nw_in w1 rfl))⟩, hni, hts _ (gw_in w2 rfl)⟩ ⟨pa_blind hF, hpc⟩ rfl hAs hl.1 rfl (lv_room hW8) hdec ⟨by have := hfit.2.2.1; have := hm2.1; have := hm1.1; omega, by have := hfit.2.2.2; omega⟩) hS (fun H1 locs1 g1 g3 => ?_)
                rw [show k - k0 + (o1.1 - k) = o1.1 - k0 by have := hm1.1; omega, show slA K al k - slA K al k0 + (slA K al o1.1 - slA K al k) = slA K al o1.1 - slA K al k0 by omega]
                exact IH (d' + 1) M o1.1 (pc + 3) lc r9 o1.2.2.2.2 o hex e he p ev R s m args below meth c H1 locs1 ls k0 Q C1 (by have := hm1.1; omega) (hm1.2 hkl) g1 g3 hl hfit hret
            · cases hex
          · cases hex
      · obtain rfl : len = 3 := by simpa [ilen] using hlen
        split at hex
        · rename_i hfin
          split at hex
          · rename_i v a r9
            split at hex
            · rename_i hgd
              obtain ⟨ha, rfl, hzz, hkg, hdecl, hini⟩ := hgd
              have hy : y < 13 := by have := hsub.2.1 a (by rw [ha]); rw [ha] at this; exact this
              have ht := k_tag y hy z hzz
              exact putF_ok (v := .int v) (ty := .int) (stk := r9.map (gv G)) hA C1 hP hS hdec (fL_word (ckI_of hchk) (by omega)) ha hzz hfin hdecl hini (by rcases ht with h | h | h | h <;> simp_all) rfl rfl (by unfold cE; rw [ha]; simp only [if_pos]; rw [fL_I hzz (Or.inl hkg)]) (fun b hb9 => cE_I_n hb9) (fun H1 locs1 g1 g3 => IH d M k (pc + 3) lc r9 _ o hex e he p ev R s m args below meth c H1 locs1 ls k0 Q C1 hk0 hkl g1 g3 hl hfit hret)
            · cases hex
          · rename_i v a r9
            split at hex
            · rename_i hgd
              obtain ⟨ha, rfl, hzz, hkg, hdecl, hini⟩ := hgd
              have hy : y < 13 := by have := hsub.2.1 a (by rw [ha]); rw [ha] at this; exact this
              have ht := k_tag y hy z hzz
              have hty : (∃ t, kY y z = .object t) ∨ ∃ t, kY y z = .array t := by rcases ht with h | h | h | h <;> simp_all
              refine putF_ok (v := .ref (G v)) (stk := r9.map (gv G)) hA C1 hP hS hdec (fL_word (ckI_of hchk) (by omega)) ha hzz hfin hdecl hini rfl ?_ ?_ (by unfold cE; rw [ha]; simp only [if_pos]; rw [fL_Q hzz hkg rfl]) (fun b hb9 => cE_Q_n hb9) (fun H1 locs1 g1 g3 => IH d M k (pc + 3) lc r9 _ o hex e he p ev R s m args below meth c H1 locs1 ls k0 Q C1 hk0 hkl g1 g3 hl hfit hret)
              · rcases hty with ⟨t, ht⟩ | ⟨t, ht⟩ <;> rw [ht] <;> rfl
              · rcases hty with ⟨t, ht⟩ | ⟨t, ht⟩ <;> rw [ht] <;> rfl
            · cases hex
          · cases hex
        · split at hex
          · cases hex
          · rename_i q hq
            obtain ⟨pc', lc', st', S1⟩ := q
            exact sx_ok hx hb hts hnw hown hK (hT _ _ _ hSF) hP hD hS hsub hdec (Or.inr rfl) hchk hq hl (fun H1 locs1 ls1 g1 g2 g3 g4 => IH d M k pc' lc' st' S1 o hex e he p ev R s m args below meth c H1 locs1 ls1 k0 Q C1 hk0 hkl g1 g3 g4 hfit hret)
      · split at hex
        · cases hex
        · rename_i q hq
          obtain ⟨pc', lc', st', S1⟩ := q
          exact sx_ok hx hb hts hnw hown hK (hT _ _ _ hSF) hP hD hS hsub hdec hlen hchk hq hl (fun H1 locs1 ls1 g1 g2 g3 g4 => IH d M k pc' lc' st' S1 o hex e he p ev R s m args below meth c H1 locs1 ls1 k0 Q C1 hk0 hkl g1 g3 g4 hfit hret)
end RUNNER
