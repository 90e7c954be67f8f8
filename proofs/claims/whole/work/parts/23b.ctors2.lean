/-! Search(), NameOrchard(), NameOrchardModel(). -/
set_option maxRecDepth 100000 in
theorem kS_all : ∀ a, a < 260 → ((KS.1 a).1 < 8 → a ∈ alO.take 25 ∧ KS.1 a = KO.1 a) ∧ ((KS.1 a).1 = 0 → (KS.1 a).2 < 13) ∧ (KS.1 a).1 ≠ 20 ∧ (KS.1 a).1 ≠ 30 := by decide +kernel
set_option maxRecDepth 100000 in
theorem kS_in : ∀ a ∈ alO.take 25, KS.1 a = KO.1 a := by decide +kernel
theorem kS_big {a : Nat} (h : ¬ a < 260) : KS.1 a = (99, 0) := by
  show (if a < 260 then ksL.getD a (99, 0) else (99, 0)) = _
  rw [if_neg h]
theorem kS_of {a : Nat} (h : (KS.1 a).1 ≠ 99) : ((KS.1 a).1 < 8 → a ∈ alO.take 25 ∧ KS.1 a = KO.1 a) ∧ ((KS.1 a).1 = 0 → (KS.1 a).2 < 13) ∧ (KS.1 a).1 ≠ 20 ∧ (KS.1 a).1 ≠ 30 := by
  by_cases hb : a < 260
  · exact kS_all a hb
  · rw [kS_big hb] at h; exact absurd rfl h
section CT2
variable {G : Nat → Nat} {cy : Nat → ClassId} {D : va_G} {SF : (Nat → Prop) → State → Heap → Prop} {base : Nat} {l : Launch}
theorem okK_S (hA : okA KO alO G base) : okK KS (alO.take 25) G := by
  have h5 := (okK_A hA 25).2.2.2.2
  have key : ∀ a, ((KS.1 a).1 < 8 ∨ (KS.1 a).1 = 20) → ((KA KO alO 25).1 a).1 < 8 := by
    intro a h
    have h1 : (KS.1 a).1 ≠ 99 := by omega
    have h2 := kS_of h1
    have h3 : (KS.1 a).1 < 8 := by have := h2.2.2.1; omega
    obtain ⟨g1, g2⟩ := h2.1 h3
    rw [KA_in g1, ← g2]
    exact h3
  refine ⟨fun a h => ((kS_of (by omega)).1 h).1, fun a h => (kS_of (by omega)).2.1 h, fun a h => absurd h (kS_of (by omega)).2.2.1, fun a h => absurd h (kS_of (by omega)).2.2.2, fun a b ha hb he => h5 a b (Or.inl (key a ha)) (Or.inl (key b hb)) he⟩
theorem s_conv {S : St} (h : rQ S 5 5 = some 11) : wl (KA KO alO 25) G cy (alO.take 25) S = wl KS G cy (alO.take 25) S := by
  refine wl_conv (fun a ha => by rw [KA_in ha, kS_in a ha]) (fun a ha _ z _ => fget_st rfl (fun b hb => ?_))
  have hb' : (if ((KA KO alO 25).1 a).2 = 4 ∧ a = 5 ∧ z = 5 then some 11 else none) = some b := hb
  split at hb'
  · rename_i hc
    obtain ⟨-, rfl, rfl⟩ := hc
    cases hb'
    exact h
  · cases hb'
theorem okI_none {K : Cfg} {L : List Nat} (h : ∀ y as S, K.2.2 y as S = none) : okI K G cy D L SF l := by
  intro d y as S o e ho
  rw [h] at ho
  cases ho
def QI (K : Cfg) (G : Nat → Nat) (cy : Nat → ClassId) (D : va_G) (al : List Nat) (base : Nat) (S : St) : Array Value → State → Outcome → State → Prop := fun _ st oc t => oc = .returned none ∧ va_P D kCl (wl K G cy al S) t.heap ∧ va_F (fun q => base ≤ q) st t
set_option maxRecDepth 100000 in
set_option maxHeartbeats 4000000 in
theorem c_search (hF : okF SF) (hT : okT SF G) (hA : okA KO alO G base) (hG : ∀ (M : Nat) (e : MI × List (Nat × Xi)), mX M = some e → GoodE e) {e : MI × List (Nat × Xi)} (he : mX 800 = some e) : MetA KO G cy D SF alO base l 7 e [.ref 5] 16 SO1 25 (thrS SO2) := by
  obtain ⟨hr2, hq2, hz2⟩ := rO2_is
  have e1 := Option.some.inj (he.symm.trans mx_800)
  have hc : csum [Value.ref 5] ≤ e.1.2.2.1 := by rw [e1]; exact Nat.le_of_ble_eq_true rfl
  unfold MetA
  refine metA_w he (hG _ _ he) hc fun p ev s m below meth c ls C0 hP hl => ?_
  have C1 := C0
  obtain ⟨hx, hb, hr, hml, hown, hlocks, hnm, hts, hnw, hK, hao, hSF, hsz⟩ := C0
  have key := fun hcont => runA_ok (cy := cy) (D := D) (l := l) (sM := 800) (sp := 80) hF hT hA hG 100000 7 800 16 0 _ [] SO1 _ hr2 e he p ev { frames := 7 + 4, cells := 25 - 16, slots := slA KO alO 25 - slA KO alO 16, locals := 64 * (7 + 4) } s m _ below meth c s.heap [] ls 16 (MQ below (QA KO G cy D alO base 25 (thrS SO2)) (([Value.ref 5].map (gv G)).toArray) s (25 - 16) (slA KO alO 25 - slA KO alO 16) (fun q => base ≤ q)) C1 (Nat.le_refl _) (Nat.le_of_ble_eq_true rfl) hP va_S.rf hl ⟨Nat.le_refl _, Nat.le_refl _, Nat.le_refl _, Nat.le_refl _⟩ hcont
  simp only [Nat.sub_self] at key
  refine key fun H1 locs1 ls1 _ g1 g2 g3 => ?_
  rw [s_conv hq2] at g1
  obtain ⟨n, hn⟩ := s_i_se_init_80 (d := 7) SO2 (se_init hz2)
  have hk := okK_S hA
  have hD : va_D (fun q => base ≤ q) (wl KS G cy (alO.take 25) SO2) := by rw [← s_conv hq2]; exact a_D hA 25 SO2
  refine run_ok (K := KS) (cy := cy) (D := D) (l := l) hF hT (okO_ok hT hk) (okY_ok hk) (okI_none fun _ _ _ => rfl) hk hG n (7 + 0) 800 80 _ [] SO2 none _ hn e he p ev _ s m _ below meth c H1 locs1 ls1 (fun q => base ≤ q) (25 - 16) _ _ ⟨hx, hb, hr, hml, hown, hlocks, hts, hnw, hK, fun q => by rw [hsz]; exact a_A hA (Nat.le_of_ble_eq_true rfl) (Nat.le_of_ble_eq_true rfl) q, hSF⟩ g1 hD g2 g3 ⟨Nat.le_refl _, Nat.le_refl _, Nat.le_refl _, Nat.le_refl _⟩ ?_
  intro H2 locs2 pc' ls' st' ins q1 q2 q3 q4
  refine ret_ok hx hb hr hlocks q1 q2 (fun t ht _ => ⟨rfl, ?_, q4.F ht⟩) q4.2.2
  rw [ht, s_conv (S := thrS SO2) hq2]
  exact q3
set_option maxRecDepth 100000 in
set_option maxHeartbeats 4000000 in
theorem c_init (hF : okF SF) (hT : okT SF G) (hA : okA KO alO G base) (hG : ∀ (M : Nat) (e : MI × List (Nat × Xi)), mX M = some e → GoodE e) (hI : okI KO G cy D alO SF l) (hk : okK KO alO G) {e : MI × List (Nat × Xi)} (he : mX 2200 = some e) {S4 : St} (h4 : o_no_init_174 SO3 = some ((), S4)) :
    Met l e.1.1 (Cond.code e.1.1 e.1.2.1 e.1.2.2.1 e.1.2.2.2.1 :: gw) { frames := 8 + 4, cells := 154 - 1, slots := slA KO alO 154 - slA KO alO 1, locals := 64 * (8 + 4) } (va_Pc ([Value.ref 1].map (gv G)) (PA KO G cy D SF alO base 1 S00)) (QI KO G cy D alO base S4) (154 - 1) (slA KO alO 154 - slA KO alO 1) (fun q => base ≤ q) := by
  obtain ⟨hr3, hch⟩ := rO3_is
  have e1 := Option.some.inj (he.symm.trans mx_2200)
  have hc : csum [Value.ref 1] ≤ e.1.2.2.1 := by rw [e1]; exact Nat.le_of_ble_eq_true rfl
  have hg := hG _ _ he
  have hmem : (42, (.invokespecial 32, 3, 5, 800, 0)) ∈ e.2 := by rw [e1]; exact List.mem_of_getElem? (i := 20) rfl
  have hchk := List.all_eq_true.mp hg.2.1 _ hmem
  have hdec : decode e.1.2.1 42 = .ok (.invokespecial 32, 3) := by
    unfold chkI at hchk
    exact of_decide_eq_true (Bool.and_eq_true_iff.mp hchk).1
  refine metA_w he hg hc fun p ev s m below meth c ls C0 hP hl => ?_
  have C1 := C0
  obtain ⟨hx, hb, hr, hml, hown, hlocks, hnm, hts, hnw, hK, hao, hSF, hsz⟩ := C0
  have s16 := sl_mono (K := KO) (al := alO) (k := 16) (k1 := 154) (Nat.le_of_ble_eq_true rfl)
  have s25 := sl_mono (K := KO) (al := alO) (k := 25) (k1 := 154) (Nat.le_of_ble_eq_true rfl)
  have key := fun hcont => runA_ok (cy := cy) (D := D) (l := l) (sM := 2200) (sp := 42) hF hT hA hG 100000 8 2200 1 0 _ [] S00 _ rO1_is e he p ev { frames := 8 + 4, cells := 154 - 1, slots := slA KO alO 154 - slA KO alO 1, locals := 64 * (8 + 4) } s m _ below meth c s.heap [] ls 1 (MQ below (QI KO G cy D alO base S4) (([Value.ref 1].map (gv G)).toArray) s (154 - 1) (slA KO alO 154 - slA KO alO 1) (fun q => base ≤ q)) C1 (Nat.le_refl _) (Nat.le_of_ble_eq_true rfl) hP va_S.rf hl ⟨Nat.le_refl _, Nat.le_refl _, Nat.le_of_ble_eq_true rfl, by simp only; omega⟩ hcont
  simp only [Nat.sub_self] at key
  refine key fun H1 locs1 ls1 _ g1 g2 g3 => ?_
  refine W.top fun hu => ?_
  have hz := a_size (k := 16) (k0 := 1) hA (Nat.le_of_ble_eq_true rfl) (Nat.le_of_ble_eq_true rfl) g1 hsz g2.1 hu
  refine callI_ok (k := 16) (k0 := 1) (k1 := 25) (y := 800) (z := 0) (i := 32) (b := 5) (r9 := [.ref 5, .ref 1]) (d' := 7) (e := e) (e' := _) hF hA C1 hz (Nat.le_of_ble_eq_true rfl) (Nat.le_of_ble_eq_true rfl) g1 g2 g3 hdec hchk mx_800 (hG _ _ mx_800) (c_search hF hT hA hG mx_800) rfl (Nat.le_of_ble_eq_true rfl) rfl rfl ⟨Nat.le_refl _, Nat.le_refl _, Nat.le_of_ble_eq_true rfl, by simp only; omega⟩ rfl (by decide +kernel) (fun H2 locs2 h1 h2 => ?_)
  refine runA_ok (cy := cy) (D := D) (l := l) (sM := 2200) (sp := 174) hF hT hA hG 100000 8 2200 25 45 _ [.ref 5, .ref 1] (thrS SO2) _ hr3 e he p ev _ s m _ below meth c H2 locs2 ls1 1 _ C1 (Nat.le_of_ble_eq_true rfl) (Nat.le_of_ble_eq_true rfl) h1 h2 g3 ⟨Nat.le_refl _, Nat.le_refl _, Nat.le_refl _, Nat.le_refl _⟩ (fun H3 locs3 ls3 _ k1 k2 k3 => ?_)
  have hcv : ∀ {S : St}, chkS KO alO S = true → wl (KA KO alO 154) G cy (alO.take 154) S = wl KO G cy alO S := fun h => made_conv (cy := cy) hA h
  rw [hcv hch] at k1
  have hD : va_D (fun q => base ≤ q) (wl KO G cy alO SO3) := by rw [← hcv hch]; exact a_D hA 154 SO3
  obtain ⟨n, hn⟩ : RR KO (3 + 5) 2200 174 [(1, .int 16), (0, .ref 1)] [] SO3 none S4 := RR.weak [(0, .ref 1)] ⟨rfl, trivial⟩ (s_o_no_init_174 (d := 3) SO3 h4)
  refine run_ok (K := KO) (cy := cy) (D := D) (l := l) hF hT (okO_ok hT hk) (okY_ok hk) hI hk hG n (3 + 5) 2200 174 _ [] SO3 none _ hn e he p ev _ s m _ below meth c H3 locs3 ls3 (fun q => base ≤ q) _ _ _ ⟨hx, hb, hr, hml, hown, hlocks, hts, hnw, hK, fun q => by rw [hsz]; exact a_A (k := 154) hA (Nat.le_of_ble_eq_true rfl) (Nat.le_of_ble_eq_true rfl) q, hSF⟩ k1 hD k2 k3 ⟨Nat.le_refl _, Nat.le_refl _, Nat.le_refl _, Nat.le_refl _⟩ ?_
  intro H4 locs4 pc' ls' st' ins q1 q2 q3 q4
  exact ret_ok hx hb hr hlocks q1 q2 (fun t ht _ => ⟨rfl, by rw [ht]; exact q3, q4.F ht⟩) q4.2.2
set_option maxRecDepth 100000 in
theorem mx_2400 : mX 2400 = some ((⟨kN 12, "<init>", "()V"⟩, prog_15_method_1_code, 1, none, 12), cd_2400) := rfl
set_option maxRecDepth 100000 in
set_option maxHeartbeats 4000000 in
theorem c_model (hF : okF SF) (hT : okT SF G) (hA : okA KM alM G base) (hG : ∀ (M : Nat) (e : MI × List (Nat × Xi)), mX M = some e → GoodE e) {e : MI × List (Nat × Xi)} (he : mX 2400 = some e) :
    Met l e.1.1 (Cond.code e.1.1 e.1.2.1 e.1.2.2.1 e.1.2.2.2.1 :: gw) { frames := 8 + 4, cells := 67 - 1, slots := slA KM alM 67 - slA KM alM 1, locals := 64 * (8 + 4) } (va_Pc ([Value.ref 500].map (gv G)) (PA KM G cy D SF alM base 1 S00)) (QI KM G cy D alM base SM0) (67 - 1) (slA KM alM 67 - slA KM alM 1) (fun q => base ≤ q) := by
  obtain ⟨hr, hch⟩ := rM_is
  have e1 := Option.some.inj (he.symm.trans mx_2400)
  have hc : csum [Value.ref 500] ≤ e.1.2.2.1 := by rw [e1]; exact Nat.le_of_ble_eq_true rfl
  refine metA_w he (hG _ _ he) hc fun p ev s m below meth c ls C0 hP hl => ?_
  have C1 := C0
  obtain ⟨hx, hb, hr2, hml, hown, hlocks, hnm, hts, hnw, hK, hao, hSF, hsz⟩ := C0
  have key := fun hcont => runA_ok (cy := cy) (D := D) (l := l) (sM := 9999) (sp := 0) hF hT hA hG 100000 8 2400 1 0 _ [] S00 _ hr e he p ev { frames := 8 + 4, cells := 67 - 1, slots := slA KM alM 67 - slA KM alM 1, locals := 64 * (8 + 4) } s m _ below meth c s.heap [] ls 1 (MQ below (QI KM G cy D alM base SM0) (([Value.ref 500].map (gv G)).toArray) s (67 - 1) (slA KM alM 67 - slA KM alM 1) (fun q => base ≤ q)) C1 (Nat.le_refl _) (Nat.le_of_ble_eq_true rfl) hP va_S.rf hl ⟨Nat.le_refl _, Nat.le_refl _, Nat.le_refl _, Nat.le_refl _⟩ hcont
  simp only [Nat.sub_self] at key
  refine key fun H1 locs1 ls1 hend g1 g2 g3 => ?_
  rcases hend with ⟨q, -⟩ | ⟨q1, q2, q3⟩
  · exact absurd q (by decide)
  · refine W.vret hx hb (hr2.trans q3) (fun t ht _ => ⟨rfl, ?_, g2.F ht⟩) g2.2.2 q1 hlocks
    rw [ht, ← made_conv (cy := cy) hA hch]
    exact g1
end CT2
