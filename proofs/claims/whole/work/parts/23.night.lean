/-! a night of the class, place by place -/
def WQ (q : Nat → Int → Int) (n : Nat) : Prop := ∀ j, j < n → (0 ≤ q j 0 ∧ q j 0 ≤ 5) ∧ (1 ≤ q j 1 ∧ q j 1 ≤ 30) ∧ (0 ≤ q j 2 ∧ q j 2 ≤ 30) ∧ (q j 3 = 0 ∨ q j 3 = 1) ∧ (0 ≤ q j 4 ∧ q j 4 ≤ 9) ∧ (0 ≤ q j 5 ∧ q j 5 ≤ 9) ∧ (0 ≤ q j 6 ∧ q j 6 ≤ 2) ∧ (0 ≤ q j 7 ∧ q j 7 ≤ 250) ∧ (0 ≤ q j 8 ∧ q j 8 < 512)
def WT (T : Int → Int) : Prop := (0 ≤ T 0 ∧ T 0 ≤ 9) ∧ (10 ≤ T 1 ∧ T 1 ≤ 400) ∧ (0 ≤ T 2 ∧ T 2 ≤ 30) ∧ (0 ≤ T 3 ∧ T 3 ≤ 9) ∧ (0 ≤ T 4 ∧ T 4 ≤ 10) ∧ (0 ≤ T 5 ∧ T 5 ≤ 9) ∧ (0 ≤ T 6 ∧ T 6 ≤ 99) ∧ (0 ≤ T 7 ∧ T 7 ≤ 999)
section Bounds
variable {q : Nat → Int → Int} {T : Int → Int} {b : Int} {u : Nat → Int} {n : Nat}
theorem rs_b (hT : WT T) (p : Nat) : 0 ≤ sRs T b p ∧ sRs T b p ≤ 30 := by
  have := hT.2.2.1
  unfold sRs; split <;> omega
theorem lf_b (hq : WQ q n) (hT : WT T) : ∀ p : Nat, p ≤ n → -(60 * (p : Int)) ≤ sLf q T b p ∧ sLf q T b p ≤ 9
  | 0, _ => by unfold sLf; omega
  | p + 1, hp => by
    have ih := lf_b hq hT p (by omega)
    have h1 := hq p (by omega)
    have h2 := rs_b (b := b) hT p
    unfold sLf
    split <;> omega
theorem gp_b (hq : WQ q n) (hT : WT T) {p : Nat} (hp : p < n) : 0 ≤ sGp q T b p ∧ sGp q T b p ≤ 18 := by
  have ih := lf_b (b := b) hq hT p (by omega)
  have h1 := hq p hp
  have h2 := rs_b (b := b) hT p
  unfold sGp mxI
  split
  · split <;> omega
  · omega
theorem en_b (hq : WQ q n) (hT : WT T) : ∀ p : Nat, p ≤ n → 0 ≤ sEn q T b p ∧ sEn q T b p ≤ 78 * (p : Int)
  | 0, _ => by unfold sEn; omega
  | p + 1, hp => by
    have ih := en_b hq hT p (by omega)
    have h1 := hq p (by omega)
    have h2 := rs_b (b := b) hT p
    have h3 := gp_b (b := b) hq hT (p := p) (by omega)
    unfold sEn
    omega
theorem se_b (hT : WT T) (p : Nat) : 0 ≤ sSe T p ∧ sSe T p ≤ 10 := by
  have := hT.2.2.2.2.1
  unfold sSe; split <;> (try split) <;> omega
theorem ha_b (hT : WT T) (hg : 0 ≤ sGp q T b n) {heat : Int} (hh : 0 ≤ heat ∧ heat ≤ 100) : 0 ≤ sHa q T b n heat ∧ sHa q T b n heat ≤ 100 := by
  have m : 0 ≤ T 3 * sGp q T b n := Int.mul_nonneg hT.2.2.2.1.1 hg
  unfold sHa
  dsimp only
  have x1 := @mxI_b 0 ((if 0 < b ∧ (n : Int) = b then heat / 2 else heat) - T 3 * sGp q T b n)
  have y1 : (if 0 < b ∧ (n : Int) = b then heat / 2 else heat) ≤ 100 := by split <;> omega
  split
  · have x2 := @mxI_b 0 (mxI 0 ((if 0 < b ∧ (n : Int) = b then heat / 2 else heat) - T 3 * sGp q T b n) - (if q n 6 = q (n - 1) 6 ∧ ¬ q n 6 = 0 then 10 else if q n 6 = 2 ∧ q (n - 1) 6 = 1 then 5 else 0))
    have y2 : 0 ≤ (if q n 6 = q (n - 1) 6 ∧ ¬ q n 6 = 0 then (10 : Int) else if q n 6 = 2 ∧ q (n - 1) 6 = 1 then 5 else 0) := by split <;> (try split) <;> omega
    omega
  · omega
theorem cl_b (hT : WT T) {p : Nat} (h2 : 0 ≤ q p 2 ∧ q p 2 ≤ 30) {ha v : Int} (hh : 0 ≤ ha ∧ ha ≤ 100) (hv : -2 ≤ v ∧ v ≤ 2) : 0 ≤ sCl q T p ha v ∧ sCl q T p ha v ≤ 62 := by
  have m1 := mul_b (A := 30) (B := 200) h2.1 h2.2 (show 0 ≤ 100 + ha by omega) (by omega)
  have bs := se_b hT p
  have m2 := mul_b (A := 60) (B := 10) (show 0 ≤ q p 2 * (100 + ha) / 100 by omega) (by omega) bs.1 bs.2
  have bt : 0 ≤ (if 5 < p then T 5 * ((p : Int) - 5) else 0) := by
    split
    · exact Int.mul_nonneg hT.2.2.2.2.2.1.1 (by omega)
    · omega
  unfold sCl
  have x1 := @mxI_b 0 (q p 2 * (100 + ha) / 100 * sSe T p / 10 - (if 5 < p then T 5 * ((p : Int) - 5) else 0))
  have x2 := @mxI_b 0 (mxI 0 (q p 2 * (100 + ha) / 100 * sSe T p / 10 - (if 5 < p then T 5 * ((p : Int) - 5) else 0)) + v)
  omega
theorem hs_b (hq : WQ q n) (hT : WT T) (hu : ∀ j, -2 ≤ u j ∧ u j ≤ 2) : ∀ p : Nat, p ≤ n → (0 ≤ (sHs q T b u p).1 ∧ (sHs q T b u p).1 ≤ 100) ∧ (0 ≤ (sHs q T b u p).2.1 ∧ (sHs q T b u p).2.1 ≤ 999) ∧ (0 ≤ (sHs q T b u p).2.2.1 ∧ (sHs q T b u p).2.2.1 ≤ 62 * (p : Int)) ∧ (0 ≤ (sHs q T b u p).2.2.2 ∧ (sHs q T b u p).2.2.2 ≤ 100)
  | 0, _ => by
    have a := hT.2.2.2.2.2.2
    simp only [sHs]; omega
  | p + 1, hp => by
    have ih := hs_b hq hT hu p (by omega)
    have h1 := hq p (by omega)
    have h3 := gp_b (b := b) hq hT (p := p) (by omega)
    have h4 := ha_b (q := q) (b := b) hT h3.1 ih.1
    have h5 := cl_b hT h1.2.2.1 h4 (hu p)
    simp only [sHs]
    generalize sHa q T b p (sHs q T b u p).1 = ha at h4 h5 ⊢
    generalize sCl q T p ha (u p) = cl at h5 ⊢
    generalize sHs q T b u p = s at ih ⊢
    obtain ⟨i1, i2, i3, i4⟩ := ih
    have x1 := @mnI_b 100 (ha + cl - 12)
    have x2 := @mxI_b 0 (mnI 100 (ha + cl - 12))
    have m3 := mul_b (A := 999) (B := 100) i2.1 i2.2 i1.1 i1.2
    refine ⟨by omega, ?_, by omega, by split <;> omega⟩
    split
    · have m := mul_b (A := s.2.1) (B := 8) i2.1 (Int.le_refl _) (show 0 ≤ 8 - cl by omega) (by omega)
      omega
    · omega
end Bounds
def ShP (h : Mem) (q : Nat → Int → Int) (R : Nat → Int) (T : Int → Int) (b : Int) (j : Nat) : Prop := h 35 j = R j ∧ h 36 j = sGp q T b j ∧ h 37 j = sSt q T b j ∧ h 38 j = sEn q T b (j + 1) ∧ h 39 j = sLf q T b (j + 1)
def ShA (h : Mem) (q : Nat → Int → Int) (T : Int → Int) (b : Int) (u : Nat → Int) (j : Nat) : Prop := h 40 j = sHt q T b u j ∧ h 41 j = sCp q T b u j ∧ h 42 j = (sHs q T b u (j + 1)).1 ∧ h 43 j = (sHs q T b u (j + 1)).2.1 ∧ h 44 j = (sHs q T b u (j + 1)).2.2.1
def AQ (h : Mem) (one : Int) (f : Int → Int) : Prop := h one 1 = f 0 ∧ h one 2 = f 1 ∧ h one 3 = f 2 ∧ h one 4 = f 3 ∧ h one 5 = f 4 ∧ h one 6 = f 5 ∧ h one 7 = f 6 ∧ h one 8 = f 7 ∧ h one 10 = f 8
section Steps
variable {h : Mem} {q : Nat → Int → Int} {R : Nat → Int} {T : Int → Int} {b : Int} {u : Nat → Int} {p : Nat}
theorem seat_st (hp : p < 10) (hprev : ∀ j, j < p → h 38 j = sEn q T b (j + 1) ∧ h 39 j = sLf q T b (j + 1)) (hTu : h 34 2 = T 2) (hb : h 33 12 = b) (hq : WQ q (p + 1)) (hT : WT T) (ho : okO 0 (R p) = true) (ha : AQ h (R p) (q p)) :
    ∃ h1, F_X6_seat (p : Int) (R p) h = some (0, h1) ∧ ShP h1 q R T b p ∧ ∀ r k : Int, (r < 35 ∨ 39 < r ∨ ¬ k = (p : Int)) → h1 r k = h r k := by
  have hcl : sEn q T b p = if 0 < (p : Int) then h 38 ((p : Int) - 1) else 0 := by
    cases p with
    | zero => rfl
    | succ p =>
      rw [if_pos (by omega), show ((p + 1 : Nat) : Int) - 1 = (p : Int) by omega]
      exact (hprev p (by omega)).1.symm
  have hlf : sLf q T b p = if 0 < (p : Int) then h 39 ((p : Int) - 1) else 0 := by
    cases p with
    | zero => rfl
    | succ p =>
      rw [if_pos (by omega), show ((p + 1 : Nat) : Int) - 1 = (p : Int) by omega]
      exact (hprev p (by omega)).2.symm
  have q1 := hq p (by omega)
  have c1 := en_b (b := b) hq hT p (by omega)
  have c2 := lf_b (b := b) hq hT p (by omega)
  obtain ⟨a0, a1, a2, a3, a4, a5, -⟩ := ha
  have hB : sRs T b p = if 0 < h 33 12 ∧ (p : Int) = h 33 12 then h 34 2 else 0 := by rw [hb, hTu]; rfl
  have hg : sGp q T b p = if h (R p) 4 = 0 then mxI 0 (h (R p) 5 + (sLf q T b p - sRs T b p)) else 0 := by rw [a3, a4]; rfl
  have hT2 := hT.2.2.1
  have e := seat_e (h := h) (p := (p : Int)) (one := R p) (by omega) ho hcl hlf (by omega) (by omega) (by rw [hTu]; exact hT2) (by rw [a1]; omega) (by rw [a4]; omega) hB hg
  refine ⟨_, e, ⟨?_, ?_, ?_, ?_, ?_⟩, fun r k hr => ?_⟩
  · simp only [nm, jn, bd, gd, wr_at, Int.reduceEq, Int.reduceNeg, Int.reduceLT, Int.reduceLE, Int.reduceAdd, Int.reduceSub, false_and, true_and, and_true, and_false, and_self, or_false, false_or, or_true, true_or, if_true, if_false, ite_self, not_true_eq_false, not_false_eq_true, true_implies, implies_true]
  · simp only [nm, jn, bd, gd, wr_at, Int.reduceEq, Int.reduceNeg, Int.reduceLT, Int.reduceLE, Int.reduceAdd, Int.reduceSub, false_and, true_and, and_true, and_false, and_self, or_false, false_or, or_true, true_or, if_true, if_false, ite_self, not_true_eq_false, not_false_eq_true, true_implies, implies_true]
  · simp only [nm, jn, bd, gd, wr_at, Int.reduceEq, Int.reduceNeg, Int.reduceLT, Int.reduceLE, Int.reduceAdd, Int.reduceSub, false_and, true_and, and_true, and_false, and_self, or_false, false_or, or_true, true_or, if_true, if_false, ite_self, not_true_eq_false, not_false_eq_true, true_implies, implies_true]; rfl
  · simp only [nm, jn, bd, gd, wr_at, Int.reduceEq, Int.reduceNeg, Int.reduceLT, Int.reduceLE, Int.reduceAdd, Int.reduceSub, false_and, true_and, and_true, and_false, and_self, or_false, false_or, or_true, true_or, if_true, if_false, ite_self, not_true_eq_false, not_false_eq_true, true_implies, implies_true]; rw [a1]; rfl
  · simp only [nm, jn, bd, gd, wr_at, Int.reduceEq, Int.reduceNeg, Int.reduceLT, Int.reduceLE, Int.reduceAdd, Int.reduceSub, false_and, true_and, and_true, and_false, and_self, or_false, false_or, or_true, true_or, if_true, if_false, ite_self, not_true_eq_false, not_false_eq_true, true_implies, implies_true]; rw [a1, a3, a5]; rfl
  · have n : ∀ c : Int, 35 ≤ c → c ≤ 39 → ¬ (r = c ∧ k = (p : Int)) := fun c h1 h2 => by omega
    simp only [wr_at]
    rw [if_neg (n 39 (by omega) (by omega)), if_neg (n 38 (by omega) (by omega)), if_neg (n 37 (by omega) (by omega)), if_neg (n 36 (by omega) (by omega)), if_neg (n 35 (by omega) (by omega))]
theorem app_st (hp : p < 10) (h35 : h 35 p = R p) (h36 : h 36 p = sGp q T b p) (hprev : ∀ j, j < p → h 35 j = R j ∧ h 42 j = (sHs q T b u (j + 1)).1 ∧ h 43 j = (sHs q T b u (j + 1)).2.1 ∧ h 44 j = (sHs q T b u (j + 1)).2.2.1) (hTu : ∀ k : Int, 0 ≤ k → k < 8 → h 34 k = T k) (hb : h 33 12 = b) (hq : WQ q (p + 1)) (hT : WT T) (hu : ∀ j, -2 ≤ u j ∧ u j ≤ 2)
    (ho : ∀ j, j ≤ p → okO 0 (R j) = true) (ha : ∀ j, j ≤ p → AQ h (R j) (q j)) :
    ∃ h1, F_X6_applaud (p : Int) (u p) h = some (0, h1) ∧ ShA h1 q T b u p ∧ (∀ r k : Int, (r < 40 ∨ 44 < r ∨ ¬ k = (p : Int)) → ¬ (r = 33 ∧ k = 13) → h1 r k = h r k) ∧ h1 33 13 = if 0 < b ∧ (p : Int) = b then (sHs q T b u p).2.1 * (sHs q T b u p).1 / 1000 else h 33 13 := by
  have q1 := hq p (by omega)
  have s1 := hs_b (b := b) hq hT hu p (by omega)
  have g1 := gp_b (b := b) hq hT (p := p) (by omega)
  obtain ⟨a0, a1, a2, a3, a4, a5, a6, -⟩ := ha p (Nat.le_refl p)
  have t3 := hTu 3 (by omega) (by omega)
  have t4 := hTu 4 (by omega) (by omega)
  have t5 := hTu 5 (by omega) (by omega)
  have t6 := hTu 6 (by omega) (by omega)
  have t7 := hTu 7 (by omega) (by omega)
  obtain ⟨w0, w1, w2, w3, w4, w5, w6, w7⟩ := id hT
  have hheat : (sHs q T b u p).1 = if 0 < (p : Int) then h 42 ((p : Int) - 1) else h 34 6 := by
    cases p with
    | zero => exact t6.symm
    | succ p =>
      rw [if_pos (by omega), show ((p + 1 : Nat) : Int) - 1 = (p : Int) by omega]
      exact (hprev p (by omega)).2.1.symm
  have hcrowd : (sHs q T b u p).2.1 = if 0 < (p : Int) then h 43 ((p : Int) - 1) else h 34 7 := by
    cases p with
    | zero => exact t7.symm
    | succ p =>
      rw [if_pos (by omega), show ((p + 1 : Nat) : Int) - 1 = (p : Int) by omega]
      exact (hprev p (by omega)).2.2.1.symm
  have hsum : (sHs q T b u p).2.2.1 = if 0 < (p : Int) then h 44 ((p : Int) - 1) else 0 := by
    cases p with
    | zero => rfl
    | succ p =>
      rw [if_pos (by omega), show ((p + 1 : Nat) : Int) - 1 = (p : Int) by omega]
      exact (hprev p (by omega)).2.2.2.symm
  have hse : seF (h 34 4) (p : Int) = sSe T p := by
    unfold seF sSe
    rw [t4]
    by_cases c0 : p = 0
    · rw [if_pos (by omega), if_pos c0]
    · rw [if_neg (by omega), if_neg c0]
      by_cases c1 : p = 1
      · rw [if_pos (by omega), if_pos c1]
      · rw [if_neg (by omega), if_neg c1]
  have hti : tiF (h 34 5) (p : Int) = if 5 < p then T 5 * ((p : Int) - 5) else 0 := by
    unfold tiF
    rw [t5]
    by_cases c0 : 5 < p
    · rw [if_pos (by omega), if_pos c0]
    · rw [if_neg (by omega), if_neg c0]
  by_cases hbk : 0 < b ∧ (p : Int) = b
  · have h0 : 0 < (p : Int) := by omega
    rw [if_pos h0] at hheat hcrowd hsum
    have hha : sHt q T b u p = mxI 0 ((sHs q T b u p).1 / 2 - h 34 3 * h 36 p) := by
      rw [t3, h36]
      unfold sHt sHa
      dsimp only
      rw [if_pos hbk, if_neg (fun z => z.2 hbk)]
    have hcl : sCp q T b u p = mxI 0 (mxI 0 (h (R p) 3 * (100 + sHt q T b u p) / 100 * seF (h 34 4) p / 10 - tiF (h 34 5) p) + u p) := by
      rw [hse, hti, a2]; rfl
    have e := applaud_b (h := h) (p := (p : Int)) (u := u p) (one := R p) (by omega) h35 (ho p (Nat.le_refl p)) hheat hcrowd hsum s1.1 (by rw [a2]; omega) (by rw [t4]; exact w4) (by rw [t5]; exact w5) s1.2.1 (by omega) (hu p) (by rw [t3]; exact w3) (by rw [h36]; omega) h0 (by rw [hb]; exact hbk.2) hha hcl
    refine ⟨_, e, ⟨?_, ?_, ?_, ?_, ?_⟩, fun r k hr hn => ?_, ?_⟩
    · simp only [nm, jn, bd, gd, wr_at, Int.reduceEq, Int.reduceNeg, Int.reduceLT, Int.reduceLE, Int.reduceAdd, Int.reduceSub, false_and, true_and, and_true, and_false, and_self, or_false, false_or, or_true, true_or, if_true, if_false, ite_self, not_true_eq_false, not_false_eq_true, true_implies, implies_true]
    · simp only [nm, jn, bd, gd, wr_at, Int.reduceEq, Int.reduceNeg, Int.reduceLT, Int.reduceLE, Int.reduceAdd, Int.reduceSub, false_and, true_and, and_true, and_false, and_self, or_false, false_or, or_true, true_or, if_true, if_false, ite_self, not_true_eq_false, not_false_eq_true, true_implies, implies_true]
    · simp only [nm, jn, bd, gd, wr_at, Int.reduceEq, Int.reduceNeg, Int.reduceLT, Int.reduceLE, Int.reduceAdd, Int.reduceSub, false_and, true_and, and_true, and_false, and_self, or_false, false_or, or_true, true_or, if_true, if_false, ite_self, not_true_eq_false, not_false_eq_true, true_implies, implies_true]; rfl
    · simp only [nm, jn, bd, gd, wr_at, Int.reduceEq, Int.reduceNeg, Int.reduceLT, Int.reduceLE, Int.reduceAdd, Int.reduceSub, false_and, true_and, and_true, and_false, and_self, or_false, false_or, or_true, true_or, if_true, if_false, ite_self, not_true_eq_false, not_false_eq_true, true_implies, implies_true]; rfl
    · simp only [nm, jn, bd, gd, wr_at, Int.reduceEq, Int.reduceNeg, Int.reduceLT, Int.reduceLE, Int.reduceAdd, Int.reduceSub, false_and, true_and, and_true, and_false, and_self, or_false, false_or, or_true, true_or, if_true, if_false, ite_self, not_true_eq_false, not_false_eq_true, true_implies, implies_true]; rw [Int.add_comm]; rfl
    · have n : ∀ c : Int, 40 ≤ c → c ≤ 44 → ¬ (r = c ∧ k = (p : Int)) := fun c h1 h2 => by omega
      simp only [wr_at]
      rw [if_neg (n 44 (by omega) (by omega)), if_neg (n 43 (by omega) (by omega)), if_neg (n 42 (by omega) (by omega)), if_neg (n 41 (by omega) (by omega)), if_neg (n 40 (by omega) (by omega)), if_neg hn]
    · rw [if_pos hbk]; simp only [nm, jn, bd, gd, wr_at, Int.reduceEq, Int.reduceNeg, Int.reduceLT, Int.reduceLE, Int.reduceAdd, Int.reduceSub, false_and, true_and, and_true, and_false, and_self, or_false, false_or, or_true, true_or, if_true, if_false, ite_self, not_true_eq_false, not_false_eq_true, true_implies, implies_true]
  · have hnb : ¬ (0 < (p : Int) ∧ (p : Int) = h 33 12) := by rw [hb]; omega
    have hdm : (if 0 < (p : Int) then dmF (q p 6) (q (p - 1) 6) else 0) = if 0 < (p : Int) then dmF (h (R p) 7) (h (h 35 ((p : Int) - 1)) 7) else 0 := by
      by_cases h0 : 0 < (p : Int)
      · rw [if_pos h0, if_pos h0, a6, show (p : Int) - 1 = ((p - 1 : Nat) : Int) by omega, (hprev (p - 1) (by omega)).1, (ha (p - 1) (by omega)).2.2.2.2.2.2.1]
      · rw [if_neg h0, if_neg h0]
    have hha : sHt q T b u p = mxI 0 (mxI 0 ((sHs q T b u p).1 - h 34 3 * h 36 p) - (if 0 < (p : Int) then dmF (q p 6) (q (p - 1) 6) else 0)) := by
      rw [t3, h36]
      unfold sHt sHa
      dsimp only
      rw [if_neg hbk]
      by_cases h0 : 0 < p
      · rw [if_pos ⟨h0, hbk⟩, if_pos (show 0 < (p : Int) by omega)]; rfl
      · rw [if_neg (fun z => h0 z.1), if_neg (show ¬ 0 < (p : Int) by omega), Int.sub_zero]
        exact (mxI_0 (@mxI_b 0 _).1).symm
    have hcl : sCp q T b u p = mxI 0 (mxI 0 (h (R p) 3 * (100 + sHt q T b u p) / 100 * seF (h 34 4) p / 10 - tiF (h 34 5) p) + u p) := by
      rw [hse, hti, a2]; rfl
    have e := applaud_e (h := h) (p := (p : Int)) (u := u p) (one := R p) (by omega) h35 (ho p (Nat.le_refl p)) (fun h0 => by rw [show (p : Int) - 1 = ((p - 1 : Nat) : Int) by omega, (hprev (p - 1) (by omega)).1]; exact ho (p - 1) (by omega)) hheat hcrowd hsum hdm s1.1 (by rw [a2]; omega) (by rw [t4]; exact w4) (by rw [t5]; exact w5) s1.2.1 (by omega) (hu p) (by rw [t3]; exact w3) (by rw [h36]; omega) hnb hha hcl
    refine ⟨_, e, ⟨?_, ?_, ?_, ?_, ?_⟩, fun r k hr hn => ?_, ?_⟩
    · simp only [nm, jn, bd, gd, wr_at, Int.reduceEq, Int.reduceNeg, Int.reduceLT, Int.reduceLE, Int.reduceAdd, Int.reduceSub, false_and, true_and, and_true, and_false, and_self, or_false, false_or, or_true, true_or, if_true, if_false, ite_self, not_true_eq_false, not_false_eq_true, true_implies, implies_true]
    · simp only [nm, jn, bd, gd, wr_at, Int.reduceEq, Int.reduceNeg, Int.reduceLT, Int.reduceLE, Int.reduceAdd, Int.reduceSub, false_and, true_and, and_true, and_false, and_self, or_false, false_or, or_true, true_or, if_true, if_false, ite_self, not_true_eq_false, not_false_eq_true, true_implies, implies_true]
    · simp only [nm, jn, bd, gd, wr_at, Int.reduceEq, Int.reduceNeg, Int.reduceLT, Int.reduceLE, Int.reduceAdd, Int.reduceSub, false_and, true_and, and_true, and_false, and_self, or_false, false_or, or_true, true_or, if_true, if_false, ite_self, not_true_eq_false, not_false_eq_true, true_implies, implies_true]; rfl
    · simp only [nm, jn, bd, gd, wr_at, Int.reduceEq, Int.reduceNeg, Int.reduceLT, Int.reduceLE, Int.reduceAdd, Int.reduceSub, false_and, true_and, and_true, and_false, and_self, or_false, false_or, or_true, true_or, if_true, if_false, ite_self, not_true_eq_false, not_false_eq_true, true_implies, implies_true]; rfl
    · simp only [nm, jn, bd, gd, wr_at, Int.reduceEq, Int.reduceNeg, Int.reduceLT, Int.reduceLE, Int.reduceAdd, Int.reduceSub, false_and, true_and, and_true, and_false, and_self, or_false, false_or, or_true, true_or, if_true, if_false, ite_self, not_true_eq_false, not_false_eq_true, true_implies, implies_true]; rw [Int.add_comm]; rfl
    · have n : ∀ c : Int, 40 ≤ c → c ≤ 44 → ¬ (r = c ∧ k = (p : Int)) := fun c h1 h2 => by omega
      simp only [wr_at]
      rw [if_neg (n 44 (by omega) (by omega)), if_neg (n 43 (by omega) (by omega)), if_neg (n 42 (by omega) (by omega)), if_neg (n 41 (by omega) (by omega)), if_neg (n 40 (by omega) (by omega))]
    · rw [if_neg hbk]; simp only [nm, jn, bd, gd, wr_at, Int.reduceEq, Int.reduceNeg, Int.reduceLT, Int.reduceLE, Int.reduceAdd, Int.reduceSub, false_and, true_and, and_true, and_false, and_self, or_false, false_or, or_true, true_or, if_true, if_false, ite_self, not_true_eq_false, not_false_eq_true, true_implies, implies_true]
end Steps
