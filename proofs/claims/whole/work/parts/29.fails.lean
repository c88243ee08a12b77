/-! the class: fails, fits, firstFailing, isStaged -/
abbrev sRu (q : Nat → Int → Int) (m : Nat → Int) (T : Int → Int) (b : Int) (n : Nat) (k : Int) (p : Nat) : Prop :=
  (k = 1 ∧ T 0 < sGp q T b p) ∨ (k = 2 ∧ (0 < p ∧ ¬ (0 < b ∧ (p : Int) = b)) ∧ q p 0 = q (p - 1) 0) ∨ (k = 3 ∧ 0 < p ∧ iand (ishr (q p 8) (m (p - 1))) 1 = 1) ∨ (k = 4 ∧ 0 < q p 7 ∧ q p 7 < sEn q T b (p + 1)) ∨ (k = 5 ∧ p + 1 = n ∧ T 1 < sEn q T b (p + 1))
def ShR (h : Mem) (q : Nat → Int → Int) (m : Nat → Int) (R : Nat → Int) (T : Int → Int) (b : Int) (p : Nat) : Prop :=
  (∀ j, j ≤ p → ShP h q R T b j ∧ okO 0 (R j) = true ∧ AQ h (R j) (q j) ∧ h (R j) 0 = m j) ∧ h 34 0 = T 0 ∧ h 34 1 = T 1 ∧ h 33 12 = b
section Fails
variable {h : Mem} {q : Nat → Int → Int} {m R : Nat → Int} {T : Int → Int} {b : Int} {n p : Nat}
theorem fails1 (hS : ShR h q m R T b p) (hp : p < 10) : F_X6_fails 1 (p : Int) h = some (if T 0 < sGp q T b p then 1 else 0, h) := by
  have s := (hS.1 p (Nat.le_refl p)).1
  unfold F_X6_fails
  rw [if_pos rfl, gd_t (by omega), hS.2.1, s.2.1]
  by_cases c : T 0 < sGp q T b p
  · rw [if_pos c, if_pos c]
  · rw [if_neg c, if_neg c]
theorem fails2 (hS : ShR h q m R T b p) (hp : p < 10) : F_X6_fails 2 (p : Int) h = some (if (0 < p ∧ ¬ (0 < b ∧ (p : Int) = b)) ∧ q p 0 = q (p - 1) 0 then 1 else 0, h) := by
  unfold F_X6_fails
  rw [if_neg (by omega), if_pos rfl]
  refine jn_of.trans ?_
  cases p with
  | zero => rw [if_neg (by omega), if_neg (by omega)]
  | succ j =>
    have s := hS.1 (j + 1) (Nat.le_refl _)
    have s' := hS.1 j (by omega)
    have z4 : 0 < j + 1 := by omega
    rw [if_pos (by omega)]
    by_cases cb : 0 < b ∧ ((j + 1 : Nat) : Int) = b
    · have e : F_X6_pausesAhead ((j + 1 : Nat) : Int) h = some (1, h) := by unfold F_X6_pausesAhead; rw [if_pos (by rw [hS.2.2.2]; omega)]
      refine (bd_of e).trans ?_
      rw [if_pos (by omega), if_neg (fun z => z.1.2 cb)]
    · have e : F_X6_pausesAhead ((j + 1 : Nat) : Int) h = some (0, h) := by unfold F_X6_pausesAhead; rw [if_neg (by rw [hS.2.2.2]; omega)]
      refine (bd_of e).trans ?_
      rw [if_neg (by omega)]
      refine (gd_of (by omega)).trans ?_
      refine (nm_of s.1.1).trans ?_
      refine (gd_of s.2.1).trans ?_
      rw [w32_p (by omega)]
      refine (gd_of (by omega)).trans ?_
      refine (nm_of s'.1.1).trans ?_
      refine (gd_of s'.2.1).trans ?_
      rw [s.2.2.1.1, s'.2.2.1.1, show j + 1 - 1 = j by omega]
      by_cases c : q (j + 1) 0 = q j 0
      · rw [if_pos c, if_pos ⟨⟨z4, cb⟩, c⟩]
      · rw [if_neg c, if_neg (fun z => c z.2)]
theorem fails3 (hS : ShR h q m R T b p) (hp : p < 10) : F_X6_fails 3 (p : Int) h = some (if 0 < p ∧ iand (ishr (q p 8) (m (p - 1))) 1 = 1 then 1 else 0, h) := by
  unfold F_X6_fails
  rw [if_neg (by omega), if_neg (by omega), if_pos rfl]
  refine jn_of.trans ?_
  cases p with
  | zero => rw [if_neg (by omega), if_neg (by omega)]
  | succ j =>
    have s := hS.1 (j + 1) (Nat.le_refl _)
    have s' := hS.1 j (by omega)
    have z4 : 0 < j + 1 := by omega
    rw [if_pos (by omega)]
    refine (gd_of (by omega)).trans ?_
    refine (nm_of s.1.1).trans ?_
    refine (gd_of s.2.1).trans ?_
    rw [w32_p (by omega)]
    refine (gd_of (by omega)).trans ?_
    refine (nm_of s'.1.1).trans ?_
    refine (gd_of s'.2.1).trans ?_
    unfold F_X0_hates
    rw [s.2.2.1.2.2.2.2.2.2.2.2, s'.2.2.2, show j + 1 - 1 = j by omega]
    by_cases c : iand (ishr (q (j + 1) 8) (m j)) 1 = 1
    · rw [if_pos c, bd_s, if_pos (by omega), if_pos ⟨z4, c⟩]
    · rw [if_neg c, bd_s, if_neg (by omega), if_neg (fun z => c z.2)]
theorem fails4 (hS : ShR h q m R T b p) (hp : p < 10) : F_X6_fails 4 (p : Int) h = some (if 0 < q p 7 ∧ q p 7 < sEn q T b (p + 1) then 1 else 0, h) := by
  have s := hS.1 p (Nat.le_refl p)
  unfold F_X6_fails
  rw [if_neg (by omega), if_neg (by omega), if_neg (by omega), if_pos rfl]
  refine jn_of.trans ?_
  refine (gd_of (by omega)).trans ?_
  refine (nm_of s.1.1).trans ?_
  refine (gd_of s.2.1).trans ?_
  rw [s.2.2.1.2.2.2.2.2.2.2.1]
  by_cases c : 0 < q p 7
  · rw [if_pos c]
    refine (nm_of s.1.1).trans ?_
    refine (gd_of s.2.1).trans ?_
    rw [s.2.2.1.2.2.2.2.2.2.2.1, s.1.2.2.2.1]
    by_cases d : q p 7 < sEn q T b (p + 1)
    · rw [if_pos d, if_pos ⟨c, d⟩]
    · rw [if_neg d, if_neg (fun z => d z.2)]
  · rw [if_neg c, if_neg (fun z => c z.1)]
theorem fails5 (hS : ShR h q m R T b p) (hn : h 33 11 = n) (hp : p < 10) (hn1 : n < 100) : F_X6_fails 5 (p : Int) h = some (if p + 1 = n ∧ T 1 < sEn q T b (p + 1) then 1 else 0, h) := by
  have s := hS.1 p (Nat.le_refl p)
  unfold F_X6_fails
  rw [if_neg (by omega), if_neg (by omega), if_neg (by omega), if_neg (by omega)]
  refine jn_of.trans ?_
  rw [hn, w32_s (by omega) (by omega)]
  by_cases c : p + 1 = n
  · rw [if_pos (by omega)]
    refine (gd_of (by omega)).trans ?_
    rw [hS.2.2.1, s.1.2.2.2.1]
    by_cases d : T 1 < sEn q T b (p + 1)
    · rw [if_pos d, if_pos ⟨c, d⟩]
    · rw [if_neg d, if_neg (fun z => d z.2)]
  · rw [if_neg (by omega), if_neg (fun z => c z.1)]
theorem ifc {c d : Prop} [Decidable c] [Decidable d] (e : c ↔ d) : (if c then (1 : Int) else 0) = if d then 1 else 0 := by
  by_cases x : c
  · rw [if_pos x, if_pos (e.1 x)]
  · rw [if_neg x, if_neg (fun y => x (e.2 y))]
theorem fails_e {k : Int} (hS : ShR h q m R T b p) (hn : h 33 11 = n) (hp : p < 10) (hn1 : n < 100) (hk : 1 ≤ k ∧ k ≤ 5) : F_X6_fails k (p : Int) h = some (if sRu q m T b n k p then 1 else 0, h) := by
  have hk5 : k = 1 ∨ k = 2 ∨ k = 3 ∨ k = 4 ∨ k = 5 := by omega
  rcases hk5 with r | r | r | r | r <;> subst r
  · rw [fails1 hS hp]; refine congrArg (fun z => some (z, h)) (ifc ?_); simp only [sRu, Int.reduceEq, true_and, false_and, or_false, false_or]
  · rw [fails2 hS hp]; refine congrArg (fun z => some (z, h)) (ifc ?_); simp only [sRu, Int.reduceEq, true_and, false_and, or_false, false_or]
  · rw [fails3 hS hp]; refine congrArg (fun z => some (z, h)) (ifc ?_); simp only [sRu, Int.reduceEq, true_and, false_and, or_false, false_or]
  · rw [fails4 hS hp]; refine congrArg (fun z => some (z, h)) (ifc ?_); simp only [sRu, Int.reduceEq, true_and, false_and, or_false, false_or]
  · rw [fails5 hS hn hp hn1]; refine congrArg (fun z => some (z, h)) (ifc ?_); simp only [sRu, Int.reduceEq, true_and, false_and, or_false, false_or]
/-- fits: rules one to four, and the end not too late -/
abbrev sFi (q : Nat → Int → Int) (m : Nat → Int) (T : Int → Int) (b : Int) (p : Nat) : Prop :=
  ¬ T 0 < sGp q T b p ∧ ¬ ((0 < p ∧ ¬ (0 < b ∧ (p : Int) = b)) ∧ q p 0 = q (p - 1) 0) ∧ ¬ (0 < p ∧ iand (ishr (q p 8) (m (p - 1))) 1 = 1) ∧ ¬ (0 < q p 7 ∧ q p 7 < sEn q T b (p + 1)) ∧ sEn q T b (p + 1) ≤ T 1
theorem fits_e (hS : ShR h q m R T b p) (hp : p < 10) : F_X6_fits (p : Int) h = some (if sFi q m T b p then 1 else 0, h) := by
  have s := hS.1 p (Nat.le_refl p)
  unfold F_X6_fits
  refine jn_of.trans ?_
  refine (bd_of (fails1 hS hp)).trans ?_
  by_cases c1 : T 0 < sGp q T b p
  · rw [if_pos c1, if_pos (by omega), if_neg (fun z => z.1 c1)]
  rw [if_neg c1, if_neg (by omega)]
  refine (bd_of (fails2 hS hp)).trans ?_
  by_cases c2 : (0 < p ∧ ¬ (0 < b ∧ (p : Int) = b)) ∧ q p 0 = q (p - 1) 0
  · rw [if_pos c2, if_pos (by omega), if_neg (fun z => z.2.1 c2)]
  rw [if_neg c2, if_neg (by omega)]
  refine (bd_of (fails3 hS hp)).trans ?_
  by_cases c3 : 0 < p ∧ iand (ishr (q p 8) (m (p - 1))) 1 = 1
  · rw [if_pos c3, if_pos (by omega), if_neg (fun z => z.2.2.1 c3)]
  rw [if_neg c3, if_neg (by omega)]
  refine (bd_of (fails4 hS hp)).trans ?_
  by_cases c4 : 0 < q p 7 ∧ q p 7 < sEn q T b (p + 1)
  · rw [if_pos c4, if_pos (by omega), if_neg (fun z => z.2.2.2.1 c4)]
  rw [if_neg c4, if_neg (by omega)]
  refine (gd_of (by omega)).trans ?_
  rw [hS.2.2.1, s.1.2.2.2.1]
  by_cases c5 : sEn q T b (p + 1) ≤ T 1
  · rw [if_pos c5, if_pos (⟨c1, c2, c3, c4, c5⟩ : sFi q m T b p)]
  · rw [if_neg c5, if_neg (fun z => c5 z.2.2.2.2)]
end Fails
