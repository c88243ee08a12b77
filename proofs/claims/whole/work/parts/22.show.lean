/-! the class's show -/
theorem wr_o {h : Mem} {r k v r' k' : Int} (hr : ¬ r' = r) : wr h r k v r' k' = h r' k' := by rw [wr_at, if_neg (fun q => hr q.1)]
theorem wr_s {h : Mem} {r k v : Int} : wr h r k v r k = v := wr_hit
theorem wr_k {h : Mem} {r k v k' : Int} (hk : ¬ k' = k) : wr h r k v r k' = h r k' := by rw [wr_at, if_neg (fun q => hk q.2)]
theorem wr_c {h h' : Mem} {r k v v' : Int} (hh : h = h') (hv : v = v') : wr h r k v = wr h' r k v' := by rw [hh, hv]
theorem some_c {v : Int} {h h' : Mem} (hh : h = h') : (some (v, h) : Res) = some (v, h') := by rw [hh]
theorem ok0_ne {r : Int} (h : okO 0 r = true) : (6 ≤ r ∧ r ≤ 25 ∨ r = 54) := by
  have := ok_0 h; omega
/-- seat: what stands at its place then -/
theorem seat_e {h : Mem} {p one cl lf B g : Int} (hp : 0 ≤ p ∧ p < 10) (ho : okO 0 one = true) (hcl : cl = if 0 < p then h 38 (p - 1) else 0) (hlf : lf = if 0 < p then h 39 (p - 1) else 0)
    (b1 : -10000 ≤ cl ∧ cl ≤ 10000) (b2 : -10000 ≤ lf ∧ lf ≤ 10000) (b3 : 0 ≤ h 34 2 ∧ h 34 2 ≤ 30) (b4 : 0 ≤ h one 2 ∧ h one 2 ≤ 30) (b5 : 0 ≤ h one 5 ∧ h one 5 ≤ 9)
    (hB : B = if 0 < h 33 12 ∧ p = h 33 12 then h 34 2 else 0) (hg : g = if h one 4 = 0 then mxI 0 (h one 5 + (lf - B)) else 0) :
    F_X6_seat p one h = some (0, wr (wr (wr (wr (wr h 35 p one) 36 p g) 37 p (cl + B + g)) 38 p (cl + B + g + h one 2)) 39 p (if h one 4 = 0 then h one 6 else lf - B - h one 2)) := by
  have hne := ok0_ne ho
  have e1 : w32 (p - 1) = p - 1 := w32_s (by omega) (by omega)
  have n35 : ¬ one = 35 := by omega
  have n36 : ¬ one = 36 := by omega
  have n37 : ¬ one = 37 := by omega
  have n38 : ¬ one = 38 := by omega
  have bB : 0 ≤ B ∧ B ≤ 30 := by rw [hB]; split <;> omega
  have bg : 0 ≤ g ∧ g ≤ 10100 := by rw [hg]; unfold mxI; split <;> (try split) <;> omega
  by_cases h0 : 0 < p
  · rw [if_pos h0] at hcl hlf
    have g2 : 0 ≤ p - 1 ∧ p - 1 < 10 := by omega
    by_cases hb : p = h 33 12
    · rw [if_pos ⟨by omega, hb⟩] at hB
      by_cases hf : h one 4 = 0
      · rw [if_pos hf] at hg
        simp only [F_X6_seat, F_X6_pausesAhead, h0, hp, e1, g2, hf, n35, n36, n37, n38, ← hb, nm, jn, bd, gd, wr_at, Int.reduceEq, Int.reduceNeg, Int.reduceLT, Int.reduceLE, Int.reduceAdd, Int.reduceSub, false_and, true_and, and_true, and_false, and_self, or_false, false_or, or_true, true_or, if_true, if_false, ite_self, not_true_eq_false, not_false_eq_true, true_implies, implies_true]
        refine some_c (wr_c (wr_c (wr_c (wr_c rfl ?_) ?_) ?_) ?_) <;> (first | rfl | (simp only [w32, mxI, mnI] at *; omega))
      · rw [if_neg hf] at hg
        simp only [F_X6_seat, F_X6_pausesAhead, h0, hp, e1, g2, hf, n35, n36, n37, n38, ← hb, nm, jn, bd, gd, wr_at, Int.reduceEq, Int.reduceNeg, Int.reduceLT, Int.reduceLE, Int.reduceAdd, Int.reduceSub, false_and, true_and, and_true, and_false, and_self, or_false, false_or, or_true, true_or, if_true, if_false, ite_self, not_true_eq_false, not_false_eq_true, true_implies, implies_true]
        refine some_c (wr_c (wr_c (wr_c (wr_c rfl ?_) ?_) ?_) ?_) <;> (first | rfl | (simp only [w32, mxI, mnI] at *; omega))
    · rw [if_neg (fun q => hb q.2)] at hB
      by_cases hf : h one 4 = 0
      · rw [if_pos hf] at hg
        simp only [F_X6_seat, F_X6_pausesAhead, h0, hp, e1, g2, hf, hb, n35, n36, n37, n38, nm, jn, bd, gd, wr_at, Int.reduceEq, Int.reduceNeg, Int.reduceLT, Int.reduceLE, Int.reduceAdd, Int.reduceSub, false_and, true_and, and_true, and_false, and_self, or_false, false_or, or_true, true_or, if_true, if_false, ite_self, not_true_eq_false, not_false_eq_true, true_implies, implies_true]
        refine some_c (wr_c (wr_c (wr_c (wr_c rfl ?_) ?_) ?_) ?_) <;> (first | rfl | (simp only [w32, mxI, mnI] at *; omega))
      · rw [if_neg hf] at hg
        simp only [F_X6_seat, F_X6_pausesAhead, h0, hp, e1, g2, hf, hb, n35, n36, n37, n38, nm, jn, bd, gd, wr_at, Int.reduceEq, Int.reduceNeg, Int.reduceLT, Int.reduceLE, Int.reduceAdd, Int.reduceSub, false_and, true_and, and_true, and_false, and_self, or_false, false_or, or_true, true_or, if_true, if_false, ite_self, not_true_eq_false, not_false_eq_true, true_implies, implies_true]
        refine some_c (wr_c (wr_c (wr_c (wr_c rfl ?_) ?_) ?_) ?_) <;> (first | rfl | (simp only [w32, mxI, mnI] at *; omega))
  · rw [if_neg h0] at hcl hlf
    rw [if_neg (by omega)] at hB
    by_cases hf : h one 4 = 0
    · rw [if_pos hf] at hg
      simp only [F_X6_seat, F_X6_pausesAhead, h0, hp, hf, n35, n36, n37, n38, nm, jn, bd, gd, wr_at, Int.reduceEq, Int.reduceNeg, Int.reduceLT, Int.reduceLE, Int.reduceAdd, Int.reduceSub, false_and, true_and, and_true, and_false, and_self, or_false, false_or, or_true, true_or, if_true, if_false, ite_self, not_true_eq_false, not_false_eq_true, true_implies, implies_true]
      refine some_c (wr_c (wr_c (wr_c (wr_c rfl ?_) ?_) ?_) ?_) <;> (first | rfl | (simp only [w32, mxI, mnI] at *; omega))
    · rw [if_neg hf] at hg
      simp only [F_X6_seat, F_X6_pausesAhead, h0, hp, hf, n35, n36, n37, n38, nm, jn, bd, gd, wr_at, Int.reduceEq, Int.reduceNeg, Int.reduceLT, Int.reduceLE, Int.reduceAdd, Int.reduceSub, false_and, true_and, and_true, and_false, and_self, or_false, false_or, or_true, true_or, if_true, if_false, ite_self, not_true_eq_false, not_false_eq_true, true_implies, implies_true]
      refine some_c (wr_c (wr_c (wr_c (wr_c rfl ?_) ?_) ?_) ?_) <;> (first | rfl | (simp only [w32, mxI, mnI] at *; omega))
