/-! the class's show -/
theorem wr_o {h : Mem} {r k v r' k' : Int} (hr : ¬ r' = r) : wr h r k v r' k' = h r' k' := by rw [wr_at, if_neg (fun q => hr q.1)]
theorem wr_s {h : Mem} {r k v : Int} : wr h r k v r k = v := wr_hit
theorem wr_k {h : Mem} {r k v k' : Int} (hk : ¬ k' = k) : wr h r k v r k' = h r k' := by rw [wr_at, if_neg (fun q => hk q.2)]
theorem wr_c {h h' : Mem} {r k v v' : Int} (hh : h = h') (hv : v = v') : wr h r k v = wr h' r k v' := by rw [hh, hv]
theorem some_c {v : Int} {h h' : Mem} (hh : h = h') : (some (v, h) : Res) = some (v, h') := by rw [hh]
theorem ok0_ne {r : Int} (h : okO 0 r = true) : (6 ≤ r ∧ r ≤ 25 ∨ r = 54) := by
  have := ok_0 h; omega
/-- seat: what stands at its place then -/
theorem seat_e {h : Mem} {p one cl lf B g : Int} (hp : 0 ≤ p ∧ p < 10) (ho : okO 0 one = true) (hcl : cl = if 0 < p then h 38 (p - 1) else 0) (hlf : lf = if 0 < p then h 39 (p - 1) else 0)
    (b1 : -10000 ≤ cl ∧ cl ≤ 10000) (b2 : -10000 ≤ lf ∧ lf ≤ 10000) (b3 : 0 ≤ h 34 2 ∧ h 34 2 ≤ 30) (b4 : 0 ≤ h one 2 ∧ h one 2 ≤ 30) (b5 : 0 ≤ h one 5 ∧ h one 5 ≤ 9)
    (hB : B = if 0 < h 33 12 ∧ p = h 33 12 then h 34 2 else 0) (hg : g = if h one 4 = 0 then mxI 0 (h one 5 + (lf - B)) else 0) :
    F_X6_seat p one h = some (0, wr (wr (wr (wr (wr h 35 p one) 36 p g) 37 p (cl + B + g)) 38 p (cl + B + g + h one 2)) 39 p (if h one 4 = 0 then h one 6 else lf - B - h one 2)) := by
  have hne := ok0_ne ho
  have e1 : w32 (p - 1) = p - 1 := w32_s (by omega) (by omega)
  have n35 : ¬ one = 35 := by omega
  have n36 : ¬ one = 36 := by omega
  have n37 : ¬ one = 37 := by omega
  have n38 : ¬ one = 38 := by omega
  have bB : 0 ≤ B ∧ B ≤ 30 := by rw [hB]; split <;> omega
  have bg : 0 ≤ g ∧ g ≤ 10100 := by rw [hg]; unfold mxI; split <;> (try split) <;> omega
  by_cases h0 : 0 < p
  · rw [if_pos h0] at hcl hlf
    have g2 : 0 ≤ p - 1 ∧ p - 1 < 10 := by omega
    by_cases hb : p = h 33 12
    · rw [if_pos ⟨by omega, hb⟩] at hB
      by_cases hf : h one 4 = 0
      · rw [if_pos hf] at hg
        simp only [F_X6_seat, F_X6_pausesAhead, h0, hp, e1, g2, hf, n35, n36, n37, n38, ← hb, nm, jn, bd, gd, wr_at, Int.reduceEq, Int.reduceNeg, Int.reduceLT, Int.reduceLE, Int.reduceAdd, Int.reduceSub, false_and, true_and, and_true, and_false, and_self, or_false, false_or, or_true, true_or, if_true, if_false, ite_self, not_true_eq_false, not_false_eq_true, true_implies, implies_true]
        refine some_c (wr_c (wr_c (wr_c (wr_c rfl ?_) ?_) ?_) ?_) <;> (first | rfl | (simp only [w32, mxI, mnI] at *; omega))
      · rw [if_neg hf] at hg
        simp only [F_X6_seat, F_X6_pausesAhead, h0, hp, e1, g2, hf, n35, n36, n37, n38, ← hb, nm, jn, bd, gd, wr_at, Int.reduceEq, Int.reduceNeg, Int.reduceLT, Int.reduceLE, Int.reduceAdd, Int.reduceSub, false_and, true_and, and_true, and_false, and_self, or_false, false_or, or_true, true_or, if_true, if_false, ite_self, not_true_eq_false, not_false_eq_true, true_implies, implies_true]
        refine some_c (wr_c (wr_c (wr_c (wr_c rfl ?_) ?_) ?_) ?_) <;> (first | rfl | (simp only [w32, mxI, mnI] at *; omega))
    · rw [if_neg (fun q => hb q.2)] at hB
      by_cases hf : h one 4 = 0
      · rw [if_pos hf] at hg
        simp only [F_X6_seat, F_X6_pausesAhead, h0, hp, e1, g2, hf, hb, n35, n36, n37, n38, nm, jn, bd, gd, wr_at, Int.reduceEq, Int.reduceNeg, Int.reduceLT, Int.reduceLE, Int.reduceAdd, Int.reduceSub, false_and, true_and, and_true, and_false, and_self, or_false, false_or, or_true, true_or, if_true, if_false, ite_self, not_true_eq_false, not_false_eq_true, true_implies, implies_true]
        refine some_c (wr_c (wr_c (wr_c (wr_c rfl ?_) ?_) ?_) ?_) <;> (first | rfl | (simp only [w32, mxI, mnI] at *; omega))
      · rw [if_neg hf] at hg
        simp only [F_X6_seat, F_X6_pausesAhead, h0, hp, e1, g2, hf, hb, n35, n36, n37, n38, nm, jn, bd, gd, wr_at, Int.reduceEq, Int.reduceNeg, Int.reduceLT, Int.reduceLE, Int.reduceAdd, Int.reduceSub, false_and, true_and, and_true, and_false, and_self, or_false, false_or, or_true, true_or, if_true, if_false, ite_self, not_true_eq_false, not_false_eq_true, true_implies, implies_true]
        refine some_c (wr_c (wr_c (wr_c (wr_c rfl ?_) ?_) ?_) ?_) <;> (first | rfl | (simp only [w32, mxI, mnI] at *; omega))
  · rw [if_neg h0] at hcl hlf
    rw [if_neg (by omega)] at hB
    by_cases hf : h one 4 = 0
    · rw [if_pos hf] at hg
      simp only [F_X6_seat, F_X6_pausesAhead, h0, hp, hf, n35, n36, n37, n38, nm, jn, bd, gd, wr_at, Int.reduceEq, Int.reduceNeg, Int.reduceLT, Int.reduceLE, Int.reduceAdd, Int.reduceSub, false_and, true_and, and_true, and_false, and_self, or_false, false_or, or_true, true_or, if_true, if_false, ite_self, not_true_eq_false, not_false_eq_true, true_implies, implies_true]
      refine some_c (wr_c (wr_c (wr_c (wr_c rfl ?_) ?_) ?_) ?_) <;> (first | rfl | (simp only [w32, mxI, mnI] at *; omega))
    · rw [if_neg hf] at hg
      simp only [F_X6_seat, F_X6_pausesAhead, h0, hp, hf, n35, n36, n37, n38, nm, jn, bd, gd, wr_at, Int.reduceEq, Int.reduceNeg, Int.reduceLT, Int.reduceLE, Int.reduceAdd, Int.reduceSub, false_and, true_and, and_true, and_false, and_self, or_false, false_or, or_true, true_or, if_true, if_false, ite_self, not_true_eq_false, not_false_eq_true, true_implies, implies_true]
      refine some_c (wr_c (wr_c (wr_c (wr_c rfl ?_) ?_) ?_) ?_) <;> (first | rfl | (simp only [w32, mxI, mnI] at *; omega))
theorem idv_e {x y : Int} (h1 : 0 ≤ x) (h2 : x < 2147483648) (hy : 0 < y) : idv x y = x / y := by
  unfold idv
  rw [Int.tdiv_eq_ediv_of_nonneg h1]
  have a : 0 ≤ x / y := Int.ediv_nonneg h1 (by omega)
  have b : x / y ≤ x := Int.ediv_le_self y h1
  exact w32_s (by omega) (by omega)
theorem mul_b {a b A B : Int} (ha : 0 ≤ a) (hA : a ≤ A) (hb : 0 ≤ b) (hB : b ≤ B) : 0 ≤ a * b ∧ a * b ≤ A * B :=
  ⟨Int.mul_nonneg ha hb, Int.le_trans (Int.mul_le_mul_of_nonneg_right hA hb) (Int.mul_le_mul_of_nonneg_left hB (by omega))⟩
theorem mxI_b {a b : Int} : a ≤ mxI a b ∧ b ≤ mxI a b ∧ (mxI a b = a ∨ mxI a b = b) := by unfold mxI; split <;> omega
theorem mxI_0 {a : Int} (h : 0 ≤ a) : mxI 0 a = a := by unfold mxI; split <;> omega
def seF (T4 p : Int) : Int := if p = 0 then T4 else if p = 1 then (T4 + 10) / 2 else 10
def tiF (T5 p : Int) : Int := if 5 < p then T5 * (p - 5) else 0
theorem clapsBy_e {h : Mem} {p ha one : Int} (hp : 0 ≤ p ∧ p < 10) (h1 : h 35 p = one) (ho : okO 0 one = true) (b1 : 0 ≤ ha ∧ ha ≤ 100) (b2 : 0 ≤ h one 3 ∧ h one 3 ≤ 30) (b3 : 0 ≤ h 34 4 ∧ h 34 4 ≤ 10) (b4 : 0 ≤ h 34 5 ∧ h 34 5 ≤ 9) :
    F_X6_clapsBy p ha h = some (mxI 0 (h one 3 * (100 + ha) / 100 * seF (h 34 4) p / 10 - tiF (h 34 5) p), h) := by
  have e1 : w32 (100 + ha) = 100 + ha := w32_s (by omega) (by omega)
  have m1 := mul_b (A := 30) (B := 200) b2.1 b2.2 (show 0 ≤ 100 + ha by omega) (by omega)
  generalize hm1 : h one 3 * (100 + ha) = M1 at m1 ⊢
  have e2 : w32 M1 = M1 := w32_s (by omega) (by omega)
  have e3 : idv M1 100 = M1 / 100 := idv_e (by omega) (by omega) (by omega)
  have e4 : w32 (h 34 4 + 10) = h 34 4 + 10 := w32_s (by omega) (by omega)
  have e5 : idv (h 34 4 + 10) 2 = (h 34 4 + 10) / 2 := idv_e (by omega) (by omega) (by omega)
  have bs : 0 ≤ seF (h 34 4) p ∧ seF (h 34 4) p ≤ 10 := by unfold seF; split <;> (try split) <;> omega
  have m2 := mul_b (A := 60) (B := 10) (show 0 ≤ M1 / 100 by omega) (by omega) bs.1 bs.2
  have e6 : w32 (M1 / 100 * seF (h 34 4) p) = M1 / 100 * seF (h 34 4) p := w32_s (by omega) (by omega)
  have e7 : idv (M1 / 100 * seF (h 34 4) p) 10 = M1 / 100 * seF (h 34 4) p / 10 := idv_e (by omega) (by omega) (by omega)
  have e8 : w32 (p - 5) = p - 5 := w32_s (by omega) (by omega)
  have bt : 0 ≤ tiF (h 34 5) p ∧ tiF (h 34 5) p ≤ 36 ∧ (5 < p → w32 (h 34 5 * (p - 5)) = tiF (h 34 5) p) := by
    unfold tiF
    split
    · have := mul_b (A := 9) (B := 4) b4.1 b4.2 (show 0 ≤ p - 5 by omega) (by omega)
      exact ⟨by omega, by omega, fun _ => w32_s (by omega) (by omega)⟩
    · exact ⟨by omega, by omega, fun q => absurd q (by assumption)⟩
  have e9 : w32 (M1 / 100 * seF (h 34 4) p / 10 - tiF (h 34 5) p) = M1 / 100 * seF (h 34 4) p / 10 - tiF (h 34 5) p := w32_s (by omega) (by omega)
  by_cases h2 : p < 2
  · have h5 : ¬ 5 < p := by omega
    have t0 : tiF (h 34 5) p = 0 := if_neg h5
    by_cases h0 : p = 0
    · have s0 : seF (h 34 4) p = h 34 4 := if_pos h0
      rw [s0] at e6 e7 e9
      rw [t0] at e9
      simp only [F_X6_clapsBy, h2, h5, hp, h1, ho, e1, hm1, e2, e3, s0, t0, nm, jn, bd, gd, wr_at, Int.reduceEq, Int.reduceNeg, Int.reduceLT, Int.reduceLE, Int.reduceAdd, Int.reduceSub, false_and, true_and, and_true, and_false, and_self, or_false, false_or, or_true, true_or, if_true, if_false, ite_self, not_true_eq_false, not_false_eq_true, true_implies, implies_true]
      simp only [h0, e6, e7, e9, nm, jn, bd, gd, wr_at, Int.reduceEq, Int.reduceNeg, Int.reduceLT, Int.reduceLE, Int.reduceAdd, Int.reduceSub, false_and, true_and, and_true, and_false, and_self, or_false, false_or, or_true, true_or, if_true, if_false, ite_self, not_true_eq_false, not_false_eq_true, true_implies, implies_true]
    · have s0 : seF (h 34 4) p = (h 34 4 + 10) / 2 := by unfold seF; rw [if_neg h0, if_pos (by omega)]
      rw [s0] at e6 e7 e9
      rw [t0] at e9
      simp only [F_X6_clapsBy, h2, h5, h0, hp, h1, ho, e1, hm1, e2, e3, e4, e5, e6, e7, e9, s0, t0, nm, jn, bd, gd, wr_at, Int.reduceEq, Int.reduceNeg, Int.reduceLT, Int.reduceLE, Int.reduceAdd, Int.reduceSub, false_and, true_and, and_true, and_false, and_self, or_false, false_or, or_true, true_or, if_true, if_false, ite_self, not_true_eq_false, not_false_eq_true, true_implies, implies_true]
  · have s0 : seF (h 34 4) p = 10 := by unfold seF; rw [if_neg (by omega), if_neg (by omega)]
    rw [s0] at e6 e7 e9
    by_cases h5 : 5 < p
    · have et := bt.2.2 h5
      simp only [F_X6_clapsBy, h2, h5, hp, h1, ho, e1, hm1, e2, e3, e6, e7, e8, et, e9, s0, nm, jn, bd, gd, wr_at, Int.reduceEq, Int.reduceNeg, Int.reduceLT, Int.reduceLE, Int.reduceAdd, Int.reduceSub, false_and, true_and, and_true, and_false, and_self, or_false, false_or, or_true, true_or, if_true, if_false, ite_self, not_true_eq_false, not_false_eq_true, true_implies, implies_true]
    · have t0 : tiF (h 34 5) p = 0 := if_neg h5
      rw [t0] at e9
      simp only [F_X6_clapsBy, h2, h5, hp, h1, ho, e1, hm1, e2, e3, e6, e7, e9, s0, t0, nm, jn, bd, gd, wr_at, Int.reduceEq, Int.reduceNeg, Int.reduceLT, Int.reduceLE, Int.reduceAdd, Int.reduceSub, false_and, true_and, and_true, and_false, and_self, or_false, false_or, or_true, true_or, if_true, if_false, ite_self, not_true_eq_false, not_false_eq_true, true_implies, implies_true]
def dmF (t t' : Int) : Int := if t = t' ∧ ¬ t = 0 then 10 else if t = 2 ∧ t' = 1 then 5 else 0
theorem damping_e (t' t : Int) (h : Mem) : F_X6_damping t' t h = some (dmF t t', h) := by
  unfold F_X6_damping dmF
  by_cases a : t = t' ∧ ¬ t = 0
  · rw [if_pos a, if_pos a]
  · rw [if_neg a, if_neg a]
    by_cases b : t = 2 ∧ t' = 1
    · rw [if_pos b, if_pos b]
    · rw [if_neg b, if_neg b]
theorem mnI_b {a b : Int} : mnI a b ≤ a ∧ mnI a b ≤ b ∧ (mnI a b = a ∨ mnI a b = b) := by unfold mnI; split <;> omega
/-- applaud at a place, no break just ahead -/
theorem applaud_e {h : Mem} {p u heat crowd sum one dm ha cl : Int} (hp : 0 ≤ p ∧ p < 10) (h1 : h 35 p = one) (ho : okO 0 one = true) (hprev : 0 < p → okO 0 (h 35 (p - 1)) = true)
    (hheat : heat = if 0 < p then h 42 (p - 1) else h 34 6) (hcrowd : crowd = if 0 < p then h 43 (p - 1) else h 34 7) (hsum : sum = if 0 < p then h 44 (p - 1) else 0)
    (hdm : dm = if 0 < p then dmF (h one 7) (h (h 35 (p - 1)) 7) else 0)
    (b1 : 0 ≤ heat ∧ heat ≤ 100) (b2 : 0 ≤ h one 3 ∧ h one 3 ≤ 30) (b3 : 0 ≤ h 34 4 ∧ h 34 4 ≤ 10) (b4 : 0 ≤ h 34 5 ∧ h 34 5 ≤ 9) (b5 : 0 ≤ crowd ∧ crowd ≤ 999) (b6 : 0 ≤ sum ∧ sum ≤ 10000) (b7 : -2 ≤ u ∧ u ≤ 2)
    (b8 : 0 ≤ h 34 3 ∧ h 34 3 ≤ 9) (b9 : 0 ≤ h 36 p ∧ h 36 p ≤ 10100) (hnb : ¬ (0 < p ∧ p = h 33 12))
    (hha : ha = mxI 0 (mxI 0 (heat - h 34 3 * h 36 p) - dm)) (hcl : cl = mxI 0 (mxI 0 (h one 3 * (100 + ha) / 100 * seF (h 34 4) p / 10 - tiF (h 34 5) p) + u)) :
    F_X6_applaud p u h = some (0, wr (wr (wr (wr (wr h 40 p ha) 41 p cl) 42 p (mxI 0 (mnI 100 (ha + cl - 12)))) 43 p (if cl < 8 then crowd - crowd * (8 - cl) / 100 else crowd)) 44 p (cl + sum)) := by
  have hne := ok0_ne ho
  have e1 : w32 (p - 1) = p - 1 := w32_s (by omega) (by omega)
  have m1 := mul_b (A := 9) (B := 10100) b8.1 b8.2 b9.1 b9.2
  generalize hm1 : h 34 3 * h 36 p = M1 at m1 hha
  have e2 : w32 M1 = M1 := w32_s (by omega) (by omega)
  have e3 : w32 (heat - M1) = heat - M1 := w32_s (by omega) (by omega)
  have bd0 : 0 ≤ dm ∧ dm ≤ 10 := by rw [hdm]; unfold dmF; split <;> (try split) <;> (try split) <;> omega
  have x1 := @mxI_b 0 (heat - M1)
  have e4 : w32 (mxI 0 (heat - M1) - dm) = mxI 0 (heat - M1) - dm := w32_s (by omega) (by omega)
  have x2 := @mxI_b 0 (mxI 0 (heat - M1) - dm)
  have bha : 0 ≤ ha ∧ ha ≤ 100 := by omega
  have ec := clapsBy_e (h := h) (ha := ha) hp h1 ho bha b2 b3 b4
  generalize hc0 : mxI 0 (h one 3 * (100 + ha) / 100 * seF (h 34 4) p / 10 - tiF (h 34 5) p) = c0 at ec hcl
  have bc0 : 0 ≤ c0 ∧ c0 ≤ 60 := by
    have m1 := mul_b (A := 30) (B := 200) b2.1 b2.2 (show 0 ≤ 100 + ha by omega) (by omega)
    have bs : 0 ≤ seF (h 34 4) p ∧ seF (h 34 4) p ≤ 10 := by unfold seF; split <;> (try split) <;> omega
    have m2 := mul_b (A := 60) (B := 10) (show 0 ≤ h one 3 * (100 + ha) / 100 by omega) (by omega) bs.1 bs.2
    have bt : 0 ≤ tiF (h 34 5) p := by
      unfold tiF
      split
      · exact Int.mul_nonneg b4.1 (by omega)
      · omega
    have := @mxI_b 0 (h one 3 * (100 + ha) / 100 * seF (h 34 4) p / 10 - tiF (h 34 5) p)
    omega
  have e5 : w32 (c0 + u) = c0 + u := w32_s (by omega) (by omega)
  have x3 := @mxI_b 0 (c0 + u)
  have bcl : 0 ≤ cl ∧ cl ≤ 62 := by omega
  have e6 : w32 (w32 (ha + cl) - 12) = ha + cl - 12 := by rw [w32_s (z := ha + cl) (by omega) (by omega)]; exact w32_s (by omega) (by omega)
  have e7 : w32 (8 - cl) = 8 - cl := w32_s (by omega) (by omega)
  have e8 : cl < 8 → w32 (crowd - idv (w32 (crowd * (8 - cl))) 100) = crowd - crowd * (8 - cl) / 100 := by
    intro q
    have m := mul_b (A := 999) (B := 8) b5.1 b5.2 (show 0 ≤ 8 - cl by omega) (by omega)
    rw [w32_s (z := crowd * (8 - cl)) (by omega) (by omega), idv_e (by omega) (by omega) (by omega)]
    exact w32_s (by omega) (by omega)
  have e9 : w32 (cl + sum) = cl + sum := w32_s (by omega) (by omega)
  by_cases h0 : 0 < p
  · rw [if_pos h0] at hheat hcrowd hsum hdm
    have g2 : 0 ≤ p - 1 ∧ p - 1 < 10 := by omega
    have hb : ¬ p = h 33 12 := fun q => hnb ⟨h0, q⟩
    have hpr := hprev h0
    by_cases c8 : cl < 8
    · have e8 := e8 c8
      simp only [F_X6_applaud, F_X6_pausesAhead, h0, hp, hb, e1, g2, h1, ho, hpr, damping_e, ← hheat, ← hcrowd, ← hsum, hm1, e2, e3, ← hdm, e4, ← hha, ec, e5, ← hcl, e6, e7, c8, e8, e9, nm, jn, bd, gd, wr_at, Int.reduceEq, Int.reduceNeg, Int.reduceLT, Int.reduceLE, Int.reduceAdd, Int.reduceSub, false_and, true_and, and_true, and_false, and_self, or_false, false_or, or_true, true_or, if_true, if_false, ite_self, not_true_eq_false, not_false_eq_true, true_implies, implies_true]
    · simp only [F_X6_applaud, F_X6_pausesAhead, h0, hp, hb, e1, g2, h1, ho, hpr, damping_e, ← hheat, ← hcrowd, ← hsum, hm1, e2, e3, ← hdm, e4, ← hha, ec, e5, ← hcl, e6, e7, c8, e9, nm, jn, bd, gd, wr_at, Int.reduceEq, Int.reduceNeg, Int.reduceLT, Int.reduceLE, Int.reduceAdd, Int.reduceSub, false_and, true_and, and_true, and_false, and_self, or_false, false_or, or_true, true_or, if_true, if_false, ite_self, not_true_eq_false, not_false_eq_true, true_implies, implies_true]
  · rw [if_neg h0] at hheat hcrowd hsum hdm
    have e4' : mxI 0 (heat - M1) = ha := by rw [hha, hdm, Int.sub_zero]; exact (mxI_0 x1.1).symm
    rw [hsum] at e9
    by_cases c8 : cl < 8
    · have e8 := e8 c8
      simp only [F_X6_applaud, F_X6_pausesAhead, h0, hp, h1, ho, ← hheat, ← hcrowd, hm1, e2, e3, e4', ec, e5, ← hcl, e6, e7, c8, e8, e9, hsum, nm, jn, bd, gd, wr_at, Int.reduceEq, Int.reduceNeg, Int.reduceLT, Int.reduceLE, Int.reduceAdd, Int.reduceSub, false_and, true_and, and_true, and_false, and_self, or_false, false_or, or_true, true_or, if_true, if_false, ite_self, not_true_eq_false, not_false_eq_true, true_implies, implies_true]
    · simp only [F_X6_applaud, F_X6_pausesAhead, h0, hp, h1, ho, ← hheat, ← hcrowd, hm1, e2, e3, e4', ec, e5, ← hcl, e6, e7, c8, e9, hsum, nm, jn, bd, gd, wr_at, Int.reduceEq, Int.reduceNeg, Int.reduceLT, Int.reduceLE, Int.reduceAdd, Int.reduceSub, false_and, true_and, and_true, and_false, and_self, or_false, false_or, or_true, true_or, if_true, if_false, ite_self, not_true_eq_false, not_false_eq_true, true_implies, implies_true]
/-- applaud at a place, the break just ahead -/
theorem applaud_b {h : Mem} {p u heat crowd sum one ha cl : Int} (hp : 0 ≤ p ∧ p < 10) (h1 : h 35 p = one) (ho : okO 0 one = true)
    (hheat : heat = h 42 (p - 1)) (hcrowd : crowd = h 43 (p - 1)) (hsum : sum = h 44 (p - 1))
    (b1 : 0 ≤ heat ∧ heat ≤ 100) (b2 : 0 ≤ h one 3 ∧ h one 3 ≤ 30) (b3 : 0 ≤ h 34 4 ∧ h 34 4 ≤ 10) (b4 : 0 ≤ h 34 5 ∧ h 34 5 ≤ 9) (b5 : 0 ≤ crowd ∧ crowd ≤ 999) (b6 : 0 ≤ sum ∧ sum ≤ 10000) (b7 : -2 ≤ u ∧ u ≤ 2)
    (b8 : 0 ≤ h 34 3 ∧ h 34 3 ≤ 9) (b9 : 0 ≤ h 36 p ∧ h 36 p ≤ 10100) (h0 : 0 < p) (hb : p = h 33 12)
    (hha : ha = mxI 0 (heat / 2 - h 34 3 * h 36 p)) (hcl : cl = mxI 0 (mxI 0 (h one 3 * (100 + ha) / 100 * seF (h 34 4) p / 10 - tiF (h 34 5) p) + u)) :
    F_X6_applaud p u h = some (0, wr (wr (wr (wr (wr (wr h 33 13 (crowd * heat / 1000)) 40 p ha) 41 p cl) 42 p (mxI 0 (mnI 100 (ha + cl - 12)))) 43 p (if cl < 8 then crowd - crowd * (8 - cl) / 100 else crowd)) 44 p (cl + sum)) := by
  have hne := ok0_ne ho
  have n33 : ¬ one = 33 := by omega
  have e1 : w32 (p - 1) = p - 1 := w32_s (by omega) (by omega)
  have m1 := mul_b (A := 9) (B := 10100) b8.1 b8.2 b9.1 b9.2
  generalize hm1 : h 34 3 * h 36 p = M1 at m1 hha
  have m2 := mul_b (A := 999) (B := 100) b5.1 b5.2 b1.1 b1.2
  have i1 : idv (w32 (crowd * heat)) 1000 = crowd * heat / 1000 := by rw [w32_s (by omega) (by omega)]; exact idv_e (by omega) (by omega) (by omega)
  have i2 : idv heat 2 = heat / 2 := idv_e (by omega) (by omega) (by omega)
  have e2 : w32 M1 = M1 := w32_s (by omega) (by omega)
  have e3 : w32 (heat / 2 - M1) = heat / 2 - M1 := w32_s (by omega) (by omega)
  have x1 := @mxI_b 0 (heat / 2 - M1)
  have bha : 0 ≤ ha ∧ ha ≤ 100 := by omega
  have ec := clapsBy_e (h := wr h 33 13 (crowd * heat / 1000)) (ha := ha) (one := one) hp (by simp only [nm, jn, bd, gd, wr_at, Int.reduceEq, Int.reduceNeg, Int.reduceLT, Int.reduceLE, Int.reduceAdd, Int.reduceSub, false_and, true_and, and_true, and_false, and_self, or_false, false_or, or_true, true_or, if_true, if_false, ite_self, not_true_eq_false, not_false_eq_true, true_implies, implies_true]; exact h1) ho bha (by simp only [n33, nm, jn, bd, gd, wr_at, Int.reduceEq, Int.reduceNeg, Int.reduceLT, Int.reduceLE, Int.reduceAdd, Int.reduceSub, false_and, true_and, and_true, and_false, and_self, or_false, false_or, or_true, true_or, if_true, if_false, ite_self, not_true_eq_false, not_false_eq_true, true_implies, implies_true]; exact b2) (by simp only [nm, jn, bd, gd, wr_at, Int.reduceEq, Int.reduceNeg, Int.reduceLT, Int.reduceLE, Int.reduceAdd, Int.reduceSub, false_and, true_and, and_true, and_false, and_self, or_false, false_or, or_true, true_or, if_true, if_false, ite_self, not_true_eq_false, not_false_eq_true, true_implies, implies_true]; exact b3) (by simp only [nm, jn, bd, gd, wr_at, Int.reduceEq, Int.reduceNeg, Int.reduceLT, Int.reduceLE, Int.reduceAdd, Int.reduceSub, false_and, true_and, and_true, and_false, and_self, or_false, false_or, or_true, true_or, if_true, if_false, ite_self, not_true_eq_false, not_false_eq_true, true_implies, implies_true]; exact b4)
  simp only [n33, nm, jn, bd, gd, wr_at, Int.reduceEq, Int.reduceNeg, Int.reduceLT, Int.reduceLE, Int.reduceAdd, Int.reduceSub, false_and, true_and, and_true, and_false, and_self, or_false, false_or, or_true, true_or, if_true, if_false, ite_self, not_true_eq_false, not_false_eq_true, true_implies, implies_true] at ec
  generalize hc0 : mxI 0 (h one 3 * (100 + ha) / 100 * seF (h 34 4) p / 10 - tiF (h 34 5) p) = c0 at ec hcl
  have bc0 : 0 ≤ c0 ∧ c0 ≤ 60 := by
    have m1 := mul_b (A := 30) (B := 200) b2.1 b2.2 (show 0 ≤ 100 + ha by omega) (by omega)
    have bs : 0 ≤ seF (h 34 4) p ∧ seF (h 34 4) p ≤ 10 := by unfold seF; split <;> (try split) <;> omega
    have m2 := mul_b (A := 60) (B := 10) (show 0 ≤ h one 3 * (100 + ha) / 100 by omega) (by omega) bs.1 bs.2
    have bt : 0 ≤ tiF (h 34 5) p := by
      unfold tiF
      split
      · exact Int.mul_nonneg b4.1 (by omega)
      · omega
    have := @mxI_b 0 (h one 3 * (100 + ha) / 100 * seF (h 34 4) p / 10 - tiF (h 34 5) p)
    omega
  have e5 : w32 (c0 + u) = c0 + u := w32_s (by omega) (by omega)
  have x3 := @mxI_b 0 (c0 + u)
  have bcl : 0 ≤ cl ∧ cl ≤ 62 := by omega
  have e6 : w32 (w32 (ha + cl) - 12) = ha + cl - 12 := by rw [w32_s (z := ha + cl) (by omega) (by omega)]; exact w32_s (by omega) (by omega)
  have e7 : w32 (8 - cl) = 8 - cl := w32_s (by omega) (by omega)
  have e8 : cl < 8 → w32 (crowd - idv (w32 (crowd * (8 - cl))) 100) = crowd - crowd * (8 - cl) / 100 := by
    intro q
    have m := mul_b (A := 999) (B := 8) b5.1 b5.2 (show 0 ≤ 8 - cl by omega) (by omega)
    rw [w32_s (z := crowd * (8 - cl)) (by omega) (by omega), idv_e (by omega) (by omega) (by omega)]
    exact w32_s (by omega) (by omega)
  have e9 : w32 (cl + sum) = cl + sum := w32_s (by omega) (by omega)
  have g2 : 0 ≤ p - 1 ∧ p - 1 < 10 := by omega
  by_cases c8 : cl < 8
  · have e8 := e8 c8
    simp only [F_X6_applaud, F_X6_pausesAhead, h0, hp, ← hb, e1, g2, h1, ho, ← hheat, ← hcrowd, ← hsum, i1, i2, hm1, e2, e3, ← hha, ec, e5, ← hcl, e6, e7, c8, e8, e9, nm, jn, bd, gd, wr_at, Int.reduceEq, Int.reduceNeg, Int.reduceLT, Int.reduceLE, Int.reduceAdd, Int.reduceSub, false_and, true_and, and_true, and_false, and_self, or_false, false_or, or_true, true_or, if_true, if_false, ite_self, not_true_eq_false, not_false_eq_true, true_implies, implies_true]
  · simp only [F_X6_applaud, F_X6_pausesAhead, h0, hp, ← hb, e1, g2, h1, ho, ← hheat, ← hcrowd, ← hsum, i1, i2, hm1, e2, e3, ← hha, ec, e5, ← hcl, e6, e7, c8, e9, nm, jn, bd, gd, wr_at, Int.reduceEq, Int.reduceNeg, Int.reduceLT, Int.reduceLE, Int.reduceAdd, Int.reduceSub, false_and, true_and, and_true, and_false, and_self, or_false, false_or, or_true, true_or, if_true, if_false, ite_self, not_true_eq_false, not_false_eq_true, true_implies, implies_true]
