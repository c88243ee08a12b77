/-! the calls that only read: count, trace, on, act, feud -/
section Ops1
theorem g_56 {h : Mem} {r k : Int} (n : ¬ (r = 56 ∧ k = 0)) : (wr h 56 0 0) r k = h r k := by rw [wr_at, if_neg n]
theorem op_trace : OP F_X7_trace F_X8_trace := by
  intro h hR
  refine ⟨h 56 1, h, wr h 56 0 0, ?_, ?_, hR.g0 Fr.rfl⟩
  · unfold F_X7_trace; rw [hR.2.2.2.2.2.2.2.2.1]
  · unfold F_X8_trace; refine (nm_of rfl).trans ?_; rw [g_56 (by omega)]
theorem op_count (what : Int) : OP (F_X7_count what) (F_X8_count what) := by
  intro h hR
  obtain ⟨n, e0, e9, e26, eb⟩ := n_B hR
  have hc : h (h 1 1) 1 = h 56 10 := hR.2.2.1.1
  have hm : h 51 2 = h 56 33 := hR.2.2.2.2.2.2.1.1
  have ht : h 2 1 = h 56 3 := hR.2.1.1
  refine ⟨if what = 0 then h 56 10 else if what = 1 then h 61 0 else if what = 2 then h 61 1 else if what = 3 then h 56 33 else if what = 4 then h 56 3 else -1, h, wr h 56 0 0, ?_, ?_, hR.g0 Fr.rfl⟩
  · unfold F_X7_count
    simp only [nm]
    rw [gd_t (c_B hR).1, hc, e26, eb, hm, ht, ← e0]
    split
    · rfl
    split
    · rfl
    split
    · rfl
    split
    · rfl
    split <;> rfl
  · unfold F_X8_count
    refine (nm_of rfl).trans ?_
    rw [g_56 (by omega), g_56 (by omega), g_56 (by omega), g_56 (by omega), g_56 (by omega)]
    split
    · rfl
    split
    · rfl
    split
    · rfl
    split
    · rfl
    split <;> rfl
theorem op_on (p : Int) : OP (F_X7_on p) (F_X8_on p) := by
  intro h hR
  obtain ⟨n, e0, e9, e26, eb⟩ := n_B hR
  by_cases c : 0 ≤ p ∧ p < n
  · obtain ⟨j, rfl⟩ : ∃ j : Nat, p = (j : Int) := ⟨p.toNat, by omega⟩
    have y : h 27 j = h 61 (0 + 3 + (j : Int)) := hR.2.2.2.2.1.2.2.2 j (by omega) (by omega)
    rw [Int.zero_add] at y
    refine ⟨h 61 (3 + (j : Int)), h, wr h 56 0 0, ?_, ?_, hR.g0 Fr.rfl⟩
    · unfold F_X7_on F_X1_hasPlace
      rw [e26, if_pos c, bd_s, if_pos (by omega), gd_t (by omega), y]
    · unfold F_X8_on
      refine (nm_of rfl).trans ?_
      refine (bd_of (place_e (n := n) (by rw [g_56 (by omega)]; exact e0) e9)).trans ?_
      rw [if_pos c, if_pos (by omega), w32_s (z := 3 + (j : Int)) (by omega) (by omega), gd_t (by omega), g_56 (by omega)]
  · refine ⟨-1, h, wr h 56 0 0, ?_, ?_, hR.g0 Fr.rfl⟩
    · unfold F_X7_on F_X1_hasPlace
      rw [e26, if_neg c, bd_s, if_neg (by omega)]
    · unfold F_X8_on
      refine (nm_of rfl).trans ?_
      refine (bd_of (place_e (n := n) (by rw [g_56 (by omega)]; exact e0) e9)).trans ?_
      rw [if_neg c, if_neg (by omega)]
theorem isAct7_e {h : Mem} {i : Int} (hR : RR h) : F_X7_isAct i h = some (if 0 ≤ i ∧ i < h 56 10 then 1 else 0, h) := by
  have hc : h (h 1 1) 1 = h 56 10 := hR.2.2.1.1
  unfold F_X7_isAct
  simp only [nm, jn]
  rw [gd_t (c_B hR).1, hc]
  by_cases a : 0 ≤ i
  · by_cases b : i < h 56 10
    · rw [if_pos a, if_pos b, if_pos ⟨a, b⟩]
    · rw [if_pos a, if_neg b, if_neg (fun z => b z.2)]
  · rw [if_neg a, if_neg (fun z => a z.1)]
theorem isAct8_e {h : Mem} {i : Int} (h0 : 0 ≤ h 56 10) (h9 : h 56 10 ≤ 9) : F_X8_isAct i h = some (if 0 ≤ i ∧ i < h 56 10 then 1 else 0, h) := by
  unfold F_X8_isAct
  rw [w32_s (by omega) (by omega), in_e, bd_s]
  refine congrArg (fun z => some (z, h)) (ifc ?_)
  omega
theorem wac_n {h : Mem} (hR : RR h) : 0 ≤ h 56 10 ∧ h 56 10 ≤ 9 := by
  have := hR.2.2.2.2.2.2.2.1.2.1
  exact ⟨this.1, this.2.1⟩
theorem isAct8_g {h : Mem} {i : Int} (hR : RR h) : F_X8_isAct i (wr h 56 0 0) = some (if 0 ≤ i ∧ i < h 56 10 then 1 else 0, wr h 56 0 0) := by
  have w := wac_n hR
  have e : (wr h 56 0 0) 56 10 = h 56 10 := g_56 (by omega)
  rw [isAct8_e (by omega) (by omega), e]
theorem op_act (i what : Int) : OP (F_X7_act i what) (F_X8_act i what) := by
  intro h hR
  have w := wac_n hR
  by_cases c : 0 ≤ i ∧ i < h 56 10
  · have a := hR.2.2.1.2 i c.1 c.2
    have wf := (hR.2.2.2.2.2.2.2.1.2.1.2.2 i c.1 c.2).1
    obtain ⟨⟨a1, a2, a3, a4, a5, a6, a7, a8, a10⟩, a9⟩ := a
    by_cases d : 0 ≤ what ∧ what ≤ 8
    · refine ⟨if what = 8 then h 60 i else h 58 (9 * i + what), h, wr h 56 0 0, ?_, ?_, hR.g0 Fr.rfl⟩
      · unfold F_X7_act
        refine (bd_of (isAct7_e hR)).trans ?_
        rw [if_pos c, if_pos (by omega)]
        refine (nm_of rfl).trans ?_
        refine (gd_of (c_B hR).1).trans ?_
        refine (gd_of (by omega)).trans ?_
        refine (nm_of rfl).trans ?_
        rw [a1, a2, a3, a4, a5, a6, a7, a8, a9]
        have k : what = 0 ∨ what = 1 ∨ what = 2 ∨ what = 3 ∨ what = 4 ∨ what = 5 ∨ what = 6 ∨ what = 7 ∨ what = 8 := by omega
        have w3 := wf.2.2.2.1
        rcases k with r | r | r | r | r | r | r | r | r <;> subst r
        · simp only [nm, jn, bd, gd, wr_at, Int.reduceEq, Int.reduceNeg, Int.reduceLT, Int.reduceLE, Int.reduceAdd, Int.reduceSub, false_and, true_and, and_true, and_false, and_self, or_false, false_or, or_true, true_or, if_true, if_false, ite_self, not_true_eq_false, not_false_eq_true, true_implies, implies_true, Int.add_zero]
        · simp only [nm, jn, bd, gd, wr_at, Int.reduceEq, Int.reduceNeg, Int.reduceLT, Int.reduceLE, Int.reduceAdd, Int.reduceSub, false_and, true_and, and_true, and_false, and_self, or_false, false_or, or_true, true_or, if_true, if_false, ite_self, not_true_eq_false, not_false_eq_true, true_implies, implies_true]
        · simp only [nm, jn, bd, gd, wr_at, Int.reduceEq, Int.reduceNeg, Int.reduceLT, Int.reduceLE, Int.reduceAdd, Int.reduceSub, false_and, true_and, and_true, and_false, and_self, or_false, false_or, or_true, true_or, if_true, if_false, ite_self, not_true_eq_false, not_false_eq_true, true_implies, implies_true]
        · simp only [nm, jn, bd, gd, wr_at, Int.reduceEq, Int.reduceNeg, Int.reduceLT, Int.reduceLE, Int.reduceAdd, Int.reduceSub, false_and, true_and, and_true, and_false, and_self, or_false, false_or, or_true, true_or, if_true, if_false, ite_self, not_true_eq_false, not_false_eq_true, true_implies, implies_true]
          rcases w3 with z | z
          · rw [z]; simp only [nm, jn, bd, gd, wr_at, Int.reduceEq, Int.reduceNeg, Int.reduceLT, Int.reduceLE, Int.reduceAdd, Int.reduceSub, false_and, true_and, and_true, and_false, and_self, or_false, false_or, or_true, true_or, if_true, if_false, ite_self, not_true_eq_false, not_false_eq_true, true_implies, implies_true]
          · rw [z]; simp only [nm, jn, bd, gd, wr_at, Int.reduceEq, Int.reduceNeg, Int.reduceLT, Int.reduceLE, Int.reduceAdd, Int.reduceSub, false_and, true_and, and_true, and_false, and_self, or_false, false_or, or_true, true_or, if_true, if_false, ite_self, not_true_eq_false, not_false_eq_true, true_implies, implies_true]
        · simp only [nm, jn, bd, gd, wr_at, Int.reduceEq, Int.reduceNeg, Int.reduceLT, Int.reduceLE, Int.reduceAdd, Int.reduceSub, false_and, true_and, and_true, and_false, and_self, or_false, false_or, or_true, true_or, if_true, if_false, ite_self, not_true_eq_false, not_false_eq_true, true_implies, implies_true]
        · simp only [nm, jn, bd, gd, wr_at, Int.reduceEq, Int.reduceNeg, Int.reduceLT, Int.reduceLE, Int.reduceAdd, Int.reduceSub, false_and, true_and, and_true, and_false, and_self, or_false, false_or, or_true, true_or, if_true, if_false, ite_self, not_true_eq_false, not_false_eq_true, true_implies, implies_true]
        · simp only [nm, jn, bd, gd, wr_at, Int.reduceEq, Int.reduceNeg, Int.reduceLT, Int.reduceLE, Int.reduceAdd, Int.reduceSub, false_and, true_and, and_true, and_false, and_self, or_false, false_or, or_true, true_or, if_true, if_false, ite_self, not_true_eq_false, not_false_eq_true, true_implies, implies_true]
        · simp only [nm, jn, bd, gd, wr_at, Int.reduceEq, Int.reduceNeg, Int.reduceLT, Int.reduceLE, Int.reduceAdd, Int.reduceSub, false_and, true_and, and_true, and_false, and_self, or_false, false_or, or_true, true_or, if_true, if_false, ite_self, not_true_eq_false, not_false_eq_true, true_implies, implies_true]
        · simp only [nm, jn, bd, gd, wr_at, Int.reduceEq, Int.reduceNeg, Int.reduceLT, Int.reduceLE, Int.reduceAdd, Int.reduceSub, false_and, true_and, and_true, and_false, and_self, or_false, false_or, or_true, true_or, if_true, if_false, ite_self, not_true_eq_false, not_false_eq_true, true_implies, implies_true]
      · unfold F_X8_act
        refine (nm_of rfl).trans ?_
        refine jn_of.trans ?_
        refine (bd_of (isAct8_g hR)).trans ?_
        rw [if_pos c, if_pos (by omega)]
        refine (bd_of (in_t (by omega) (by omega))).trans ?_
        rw [if_pos (by omega)]
        by_cases k : what = 8
        · rw [if_pos k, if_pos k, gd_t (by omega), g_56 (by omega)]
        · rw [if_neg k, if_neg k, of_e (by omega) (by omega) (by omega) (by omega), bd_s, g_56 (by omega)]
    · refine ⟨-1, h, wr h 56 0 0, ?_, ?_, hR.g0 Fr.rfl⟩
      · unfold F_X7_act
        refine (bd_of (isAct7_e hR)).trans ?_
        rw [if_pos c, if_pos (by omega)]
        refine (nm_of rfl).trans ?_
        refine (gd_of (c_B hR).1).trans ?_
        refine (gd_of (by omega)).trans ?_
        refine (nm_of rfl).trans ?_
        rw [if_neg (by omega), if_neg (by omega), if_neg (by omega), if_neg (by omega), if_neg (by omega), if_neg (by omega), if_neg (by omega), if_neg (by omega), if_neg (by omega)]
      · unfold F_X8_act
        refine (nm_of rfl).trans ?_
        refine jn_of.trans ?_
        refine (bd_of (isAct8_g hR)).trans ?_
        rw [if_pos c, if_pos (by omega)]
        refine (bd_of (in_f (by omega))).trans ?_
        rw [if_neg (by omega)]
  · refine ⟨-1, h, wr h 56 0 0, ?_, ?_, hR.g0 Fr.rfl⟩
    · unfold F_X7_act
      refine (bd_of (isAct7_e hR)).trans ?_
      rw [if_neg c, if_neg (by omega)]
    · unfold F_X8_act
      refine (nm_of rfl).trans ?_
      refine jn_of.trans ?_
      refine (bd_of (isAct8_g hR)).trans ?_
      rw [if_neg c, if_neg (by omega)]
theorem iand1 (x : Int) : iand x 1 = 0 ∨ iand x 1 = 1 := by
  unfold iand
  rw [show (Int32.ofInt 1 : Int32) = 1 from rfl, pk_and _ (m := 1) 1 (by decide +kernel), nI_toInt (by omega)]
  omega
theorem op_feud (i j : Int) : OP (F_X7_feud i j) (F_X8_feud i j) := by
  intro h hR
  have w := wac_n hR
  by_cases c : ((0 ≤ i ∧ i < h 56 10) ∧ (0 ≤ j ∧ j < h 56 10)) ∧ ¬ i = j
  · have a10 := (hR.2.2.1.2 i c.1.1.1 c.1.1.2).1.2.2.2.2.2.2.2.2
    refine ⟨iand (ishr (h 58 (9 * i + 8)) j) 1, h, wr h 56 0 0, ?_, ?_, hR.g0 Fr.rfl⟩
    · unfold F_X7_feud
      refine jn_of.trans ?_
      refine (bd_of (isAct7_e hR)).trans ?_
      rw [if_pos c.1.1, if_pos (by omega)]
      refine (bd_of (isAct7_e hR)).trans ?_
      rw [if_pos c.1.2, if_pos (by omega), if_neg c.2]
      refine (nm_of rfl).trans ?_
      refine (gd_of (c_B hR).1).trans ?_
      refine (gd_of (by omega)).trans ?_
      unfold F_X0_hates
      rw [a10]
      rcases iand1 (ishr (h 58 (9 * i + 8)) j) with z | z
      · rw [z, if_neg (by omega), bd_s, if_neg (by omega)]
      · rw [z, if_pos (by omega), bd_s, if_pos (by omega)]
    · unfold F_X8_feud
      refine (nm_of rfl).trans ?_
      refine jn_of.trans ?_
      refine (bd_of (isAct8_g hR)).trans ?_
      rw [if_pos c.1.1, if_pos (by omega)]
      refine (bd_of (isAct8_g hR)).trans ?_
      rw [if_pos c.1.2, if_pos (by omega), if_pos c.2, of_e (by omega) (by omega) (by omega) (by omega), bd_s, g_56 (by omega)]
  · refine ⟨-1, h, wr h 56 0 0, ?_, ?_, hR.g0 Fr.rfl⟩
    · unfold F_X7_feud
      refine jn_of.trans ?_
      refine (bd_of (isAct7_e hR)).trans ?_
      by_cases d : 0 ≤ i ∧ i < h 56 10
      · rw [if_pos d, if_pos (by omega)]
        refine (bd_of (isAct7_e hR)).trans ?_
        by_cases e : 0 ≤ j ∧ j < h 56 10
        · rw [if_pos e, if_pos (by omega), if_pos (by omega)]
        · rw [if_neg e, if_neg (by omega)]
      · rw [if_neg d, if_neg (by omega)]
    · unfold F_X8_feud
      refine (nm_of rfl).trans ?_
      refine jn_of.trans ?_
      refine (bd_of (isAct8_g hR)).trans ?_
      by_cases d : 0 ≤ i ∧ i < h 56 10
      · rw [if_pos d, if_pos (by omega)]
        refine (bd_of (isAct8_g hR)).trans ?_
        by_cases e : 0 ≤ j ∧ j < h 56 10
        · rw [if_pos e, if_pos (by omega), if_neg (by omega)]
        · rw [if_neg e, if_neg (by omega)]
      · rw [if_neg d, if_neg (by omega)]
end Ops1
