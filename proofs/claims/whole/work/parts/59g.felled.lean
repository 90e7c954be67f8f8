section FELLED
variable {T : St} {Z : Nat → Int32}
theorem hd_tb (hn : ct T 0 ≤ 32) (c l w : Nat) {i : Nat} (hi : i < 32) : tb (hdM T Z c l w) i = (tb (whM T Z c l w) i || tb (ecM T Z c l w) i) := by
  unfold hdM whM ecM
  rw [tb_mk _ _ _ hn hi, tb_mk _ _ _ hn hi, tb_mk _ _ _ hn hi]
  unfold hdB whB ecB
  by_cases q : awy T i l ≤ w
  · rw [decide_eq_true q, decide_eq_true (show awy T i l ≤ 2 * w by omega)]
    cases decide (i < ct T 0) <;> cases mnt T Z c i <;> rfl
  · rw [decide_eq_false q]
    cases decide (i < ct T 0) <;> cases mnt T Z c i <;> cases decide (awy T i l ≤ 2 * w) <;> rfl
/-- what a call fells of a part of what hangs, as the class counts it -/
theorem felled_sub (hn : ct T 0 ≤ 32) {z h s : Int32} (hz : ∀ i, i < 32 → tb h i = true → tb z i = true) (c l w : Nat) : flC T h s (z &&& whM T Z c l w) (z &&& hdM T Z c l w) = flA T h s (whM T Z c l w) (ecM T Z c l w) := by
  have e0 : f0C T h s (z &&& whM T Z c l w) (z &&& hdM T Z c l w) = fl0 T h s (whM T Z c l w) (ecM T Z c l w) := by
    unfold f0C fl0
    apply tb_ext
    intro i hi
    have hh := hz i hi
    rw [tb_and, tb_or, tb_and, tb_and, tb_and, tb_and, tb_and, tb_or, tb_and, tb_or, tb_and, tb_not _ hi, hd_tb hn c l w hi]
    revert hh
    cases tb h i <;> cases tb z i <;> cases tb (whM T Z c l w) i <;> cases tb (ecM T Z c l w) i <;> cases tb (srt T 2) i <;> cases tb s i <;> simp
  unfold flC flA
  rw [e0]
/-- and what is loose after it -/
theorem loose_sub (hn : ct T 0 ≤ 32) {z h s : Int32} (hz : ∀ i, i < 32 → tb h i = true → tb z i = true) (c l w : Nat) : (s ||| (z &&& hdM T Z c l w)) &&& (h &&& (flA T h s (whM T Z c l w) (ecM T Z c l w) ^^^ (-1))) = lsT T h s (whM T Z c l w) (ecM T Z c l w) := by
  unfold lsT
  apply tb_ext
  intro i hi
  have hh := hz i hi
  have hf : tb (flA T h s (whM T Z c l w) (ecM T Z c l w)) i = (tb (fl0 T h s (whM T Z c l w) (ecM T Z c l w)) i || tb (h &&& mk (ct T 0) (twB T (fl0 T h s (whM T Z c l w) (ecM T Z c l w)) (ct T 0))) i) := by
    unfold flA
    rw [tb_or]
  have h0 : tb (fl0 T h s (whM T Z c l w) (ecM T Z c l w)) i = (tb h i && (tb (whM T Z c l w) i && (!tb (srt T 2) i || tb s i) || (tb (ecM T Z c l w) i && tb s i))) := by
    unfold fl0
    rw [tb_and, tb_or, tb_and, tb_or, tb_and, tb_not _ hi]
  rw [tb_and, tb_or, tb_and, tb_and, tb_not _ hi, tb_and, tb_or, tb_and, tb_or, tb_and, tb_and, tb_not _ hi, hd_tb hn c l w hi, hf, h0]
  generalize tb (h &&& mk (ct T 0) (twB T (fl0 T h s (whM T Z c l w) (ecM T Z c l w)) (ct T 0))) i = t
  revert hh
  cases tb h i <;> cases tb z i <;> cases tb (whM T Z c l w) i <;> cases tb (ecM T Z c l w) i <;> cases tb (srt T 2) i <;> cases tb s i <;> cases t <;> simp
end FELLED
