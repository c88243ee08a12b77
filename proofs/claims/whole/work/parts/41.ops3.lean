/-! tune, family -/
def tLo (w : Int) : Int := if w = 1 then 10 else 0
def tHi (w : Int) : Int := if w = 1 then 400 else if w = 2 then 30 else if w = 4 then 10 else if w = 6 then 99 else if w = 7 then 999 else 9
theorem tu_e {w : Int} (h : 0 ≤ w ∧ w ≤ 7) : tuLeast.getD w.toNat 0 = tLo w ∧ tuMost.getD w.toNat 0 = tHi w := by
  have k : w = 0 ∨ w = 1 ∨ w = 2 ∨ w = 3 ∨ w = 4 ∨ w = 5 ∨ w = 6 ∨ w = 7 := by omega
  rcases k with r | r | r | r | r | r | r | r <;> subst r <;> exact ⟨by decide, by decide⟩
theorem op_tune (w v : Int) : OP (F_X7_tune w v) (F_X8_tune w v) := by
  intro h hR
  have p := hR.ps
  have pt := p.2.2.2.1
  by_cases c : (0 ≤ w ∧ w ≤ 7) ∧ tLo w ≤ v ∧ v ≤ tHi w
  · have t := tu_e c.1
    have e34 : h 34 w = h 59 w := pt.1 w (by omega) (by omega)
    refine ⟨h 59 w, wr (wr h 34 w v) 1 11 0, wr (wr (wr (wr h 34 w v) 1 11 0) 56 0 0) 59 w v, ?_, ?_, ?_⟩
    · unfold F_X7_tune
      refine jn_of.trans ?_
      rw [if_neg (by omega), if_neg (by omega), gd_t (by omega), t.1, t.2, if_neg (by omega), if_neg (by omega), e34]
      rfl
    · unfold F_X8_tune
      refine (nm_of rfl).trans ?_
      refine (nm_of (e' := tLo w) rfl).trans ?_
      refine (nm_of (e' := tHi w) rfl).trans ?_
      refine jn_of.trans ?_
      refine (bd_of (in_t (by omega) (by omega))).trans ?_
      rw [if_pos (by omega)]
      refine (bd_of (in_t (by omega) (by omega))).trans ?_
      rw [if_pos (by omega)]
      refine (gd_of (by omega)).trans ?_
      refine (nm_of (e' := h 59 w) (by rw [wr_o (by omega), wr_o (by omega), wr_o (by omega)])).trans ?_
      rfl
    · refine RR.of (fCC (fun r k d => by unfold dCC at d; rw [wr_at, if_neg (by omega), wr_at, if_neg (by omega), wr_at, if_neg (by omega), wr_at, if_neg (by omega)]) p.1) (fTx (fun r k d => by unfold dTx at d; rw [wr_at, if_neg (by omega), wr_at, if_neg (by omega), wr_at, if_neg (by omega), wr_at, if_neg (by omega)]) p.2.1) (fAc (fun r k d => by unfold dAc at d; rw [wr_at, if_neg (by omega), wr_at, if_neg (by omega), wr_at, if_neg (by omega), wr_at, if_neg (by omega)]) (c_B hR).2 p.2.2.1) ?_ (fB (fun r k d => by unfold dB at d; rw [wr_at, if_neg (by omega), wr_at, if_neg (by omega), wr_at, if_neg (by omega), wr_at, if_neg (by omega)]) p.2.2.2.2.1) (fIm (fun r k d => by unfold dIm at d; rw [wr_at, if_neg (by omega), wr_at, if_neg (by omega), wr_at, if_neg (by omega), wr_at, if_neg (by omega)]) p.2.2.2.2.2.1) (fMk (fun r k d => by unfold dMk at d; rw [wr_at, if_neg (by omega), wr_at, if_neg (by omega), wr_at, if_neg (by omega), wr_at, if_neg (by omega)]) p.2.2.2.2.2.2.1) (fTr (fun r k d => by unfold dTr at d; rw [wr_at, if_neg (by omega), wr_at, if_neg (by omega), wr_at, if_neg (by omega), wr_at, if_neg (by omega)]) p.2.2.2.2.2.2.2.1) ?_
      · refine ⟨fun k x y => ?_, ?_⟩
        · by_cases z : k = w
          · subst z; rw [wr_s, wr_o (by omega), wr_o (by omega), wr_o (by omega), wr_s]
          · have x34 : (wr (wr (wr (wr h 34 w v) 1 11 0) 56 0 0) 59 w v) 34 k = h 34 k := by rw [wr_o (by omega), wr_o (by omega), wr_o (by omega), wr_k z]
            have x59 : (wr (wr (wr (wr h 34 w v) 1 11 0) 56 0 0) 59 w v) 59 k = h 59 k := by rw [wr_k z, wr_o (by omega), wr_o (by omega), wr_o (by omega)]
            rw [x34, x59]; exact pt.1 k x y
        · have q := pt.2
          have e : ∀ k : Int, (wr (wr (wr (wr h 34 w v) 1 11 0) 56 0 0) 59 w v) 59 k = if k = w then v else h 59 k := fun k => by
            by_cases z : k = w
            · rw [if_pos z, z, wr_s]
            · rw [if_neg z, wr_k z, wr_o (by omega), wr_o (by omega), wr_o (by omega)]
          unfold WTu at q ⊢
          rw [e 0, e 1, e 2, e 3, e 4, e 5, e 6, e 7]
          have l := c.2
          unfold tLo tHi at l
          have k : w = 0 ∨ w = 1 ∨ w = 2 ∨ w = 3 ∨ w = 4 ∨ w = 5 ∨ w = 6 ∨ w = 7 := by omega
          clear e p pt t e34 hR
          rcases k with r | r | r | r | r | r | r | r <;> subst r <;> simp only [nm, jn, bd, gd, wr_at, Int.reduceEq, Int.reduceNeg, Int.reduceLT, Int.reduceLE, Int.reduceAdd, Int.reduceSub, false_and, true_and, and_true, and_false, and_self, or_false, false_or, or_true, true_or, if_true, if_false, ite_self, not_true_eq_false, not_false_eq_true, true_implies, implies_true] at l ⊢ <;> omega
      · refine Or.inl ?_
        rw [wr_o (by omega), wr_o (by omega), wr_s]
  · refine ⟨-1, h, wr h 56 0 0, ?_, ?_, hR.g0 Fr.rfl⟩
    · unfold F_X7_tune
      refine jn_of.trans ?_
      by_cases a : w < 0
      · rw [if_pos a]
      · by_cases b : 8 ≤ w
        · rw [if_neg a, if_pos b]
        · have t := tu_e (w := w) (by omega)
          rw [if_neg a, if_neg b, gd_t (by omega), t.1, t.2]
          by_cases d : v < tLo w
          · rw [if_pos d]
          · rw [if_neg d, if_pos (by omega)]
    · unfold F_X8_tune
      refine (nm_of rfl).trans ?_
      refine (nm_of (e' := tLo w) rfl).trans ?_
      refine (nm_of (e' := tHi w) rfl).trans ?_
      refine jn_of.trans ?_
      by_cases a : 0 ≤ w ∧ w ≤ 7
      · refine (bd_of (in_t a.1 a.2)).trans ?_
        rw [if_pos (by omega)]
        refine (bd_of (in_f (by omega))).trans ?_
        rw [if_neg (by omega)]
      · refine (bd_of (in_f a)).trans ?_
        rw [if_neg (by omega)]
theorem op_family (i v : Int) : OP (F_X7_family i v) (F_X8_family i v) := by
  intro h hR
  have p := hR.ps
  have w := wac_n hR
  have hc := (c_B hR).2
  by_cases c : (0 ≤ i ∧ i < h 56 10) ∧ 0 ≤ v ∧ v ≤ 99
  · have a9 : h (h 1 1 + 2 + i) 9 = h 60 i := (hR.2.2.1.2 i c.1.1 c.1.2).2
    refine ⟨h 60 i, wr h (h 1 1 + 2 + i) 9 v, wr (wr (wr h (h 1 1 + 2 + i) 9 v) 56 0 0) 60 i v, ?_, ?_, ?_⟩
    · unfold F_X7_family
      refine jn_of.trans ?_
      refine (bd_of (isAct7_e hR)).trans ?_
      rw [if_pos c.1, if_pos (by omega), if_neg (by omega), if_neg (by omega)]
      refine (nm_of rfl).trans ?_
      refine (gd_of (c_B hR).1).trans ?_
      refine (gd_of (by omega)).trans ?_
      refine (nm_of a9).trans ?_
      refine (nm_of rfl).trans ?_
      refine (gd_of (c_B hR).1).trans ?_
      rfl
    · have m10 : (wr (wr h (h 1 1 + 2 + i) 9 v) 56 0 0) 56 10 = h 56 10 := by rw [wr_k (by omega), wr_o (by omega)]
      unfold F_X8_family
      refine (nm_of rfl).trans ?_
      refine jn_of.trans ?_
      refine (bd_of (isAct8_e (by omega) (by omega))).trans ?_
      rw [m10, if_pos c.1, if_pos (by omega)]
      refine (bd_of (in_t (by omega) (by omega))).trans ?_
      rw [if_pos (by omega)]
      refine (gd_of (by omega)).trans ?_
      refine (nm_of (e' := h 60 i) (by rw [wr_o (by omega), wr_o (by omega)])).trans ?_
      rfl
    · refine RR.of (fCC (fun r k d => by unfold dCC at d; rw [wr_at, if_neg (by omega), wr_at, if_neg (by omega), wr_at, if_neg (by omega)]) p.1) (fTx (fun r k d => by unfold dTx at d; rw [wr_at, if_neg (by omega), wr_at, if_neg (by omega), wr_at, if_neg (by omega)]) p.2.1) ?_ (fTu (fun r k d => by unfold dTu at d; rw [wr_at, if_neg (by omega), wr_at, if_neg (by omega), wr_at, if_neg (by omega)]) p.2.2.2.1) (fB (fun r k d => by unfold dB at d; rw [wr_at, if_neg (by omega), wr_at, if_neg (by omega), wr_at, if_neg (by omega)]) p.2.2.2.2.1) (fIm (fun r k d => by unfold dIm at d; rw [wr_at, if_neg (by omega), wr_at, if_neg (by omega), wr_at, if_neg (by omega)]) p.2.2.2.2.2.1) (fMk (fun r k d => by unfold dMk at d; rw [wr_at, if_neg (by omega), wr_at, if_neg (by omega), wr_at, if_neg (by omega)]) p.2.2.2.2.2.2.1) (fTr (fun r k d => by unfold dTr at d; rw [wr_at, if_neg (by omega), wr_at, if_neg (by omega), wr_at, if_neg (by omega)]) p.2.2.2.2.2.2.2.1) (fBs (fun r k d => by unfold dBs at d; rw [wr_at, if_neg (by omega), wr_at, if_neg (by omega), wr_at, if_neg (by omega)]) p.2.2.2.2.2.2.2.2)
      have e1 : (wr (wr (wr h (h 1 1 + 2 + i) 9 v) 56 0 0) 60 i v) 1 1 = h 1 1 := by rw [wr_o (by omega), wr_o (by omega), wr_o (by omega)]
      have m10 : (wr (wr (wr h (h 1 1 + 2 + i) 9 v) 56 0 0) 60 i v) 56 10 = h 56 10 := by rw [wr_o (by omega), wr_k (by omega), wr_o (by omega)]
      have e58 : ∀ k : Int, (wr (wr (wr h (h 1 1 + 2 + i) 9 v) 56 0 0) 60 i v) 58 k = h 58 k := fun k => by rw [wr_o (by omega), wr_o (by omega), wr_o (by omega)]
      have ea : ∀ r k : Int, r ≤ 25 → ¬ k = 9 → (wr (wr (wr h (h 1 1 + 2 + i) 9 v) 56 0 0) 60 i v) r k = h r k := fun r k a b => by rw [wr_o (by omega), wr_o (by omega), wr_at, if_neg (fun z => b z.2)]
      have e60 : ∀ k : Int, (wr (wr (wr h (h 1 1 + 2 + i) 9 v) 56 0 0) 60 i v) 60 k = if k = i then v else h 60 k := fun k => by
        by_cases z : k = i
        · rw [if_pos z, z, wr_s]
        · rw [if_neg z, wr_k z, wr_o (by omega), wr_o (by omega)]
      have e9 : ∀ k : Int, 0 ≤ k → k < 9 → (wr (wr (wr h (h 1 1 + 2 + i) 9 v) 56 0 0) 60 i v) (h 1 1 + 2 + k) 9 = if k = i then v else h (h 1 1 + 2 + k) 9 := fun k a b => by
        by_cases z : k = i
        · rw [if_pos z, z, wr_o (by omega), wr_o (by omega), wr_s]
        · rw [if_neg z, wr_o (by omega), wr_o (by omega), wr_o (by omega)]
      obtain ⟨⟨r1, r2⟩, w1, w2, w3⟩ := p.2.2.1
      refine ⟨⟨by rw [e1, m10, ea _ 1 (by omega) (by omega)]; exact r1, fun j a b => ?_⟩, by rw [m10]; exact w1, by rw [m10]; exact w2, fun j a b => ?_⟩
      · rw [m10] at b
        have x := r2 j a b
        unfold CAct at x ⊢
        simp only [e1, e58, e60]
        rw [e9 j a (by omega), ea _ 1 (by omega) (by omega), ea _ 2 (by omega) (by omega), ea _ 3 (by omega) (by omega), ea _ 4 (by omega) (by omega), ea _ 5 (by omega) (by omega), ea _ 6 (by omega) (by omega), ea _ 7 (by omega) (by omega), ea _ 8 (by omega) (by omega), ea _ 10 (by omega) (by omega)]
        refine ⟨x.1, ?_⟩
        rw [x.2]
      · rw [m10] at b
        have x := w3 j a b
        unfold WAct at x ⊢
        simp only [e58, e60]
        refine ⟨x.1, ?_⟩
        by_cases z : j = i
        · rw [if_pos z]; exact c.2
        · rw [if_neg z]; exact x.2
  · refine ⟨-1, h, wr h 56 0 0, ?_, ?_, hR.g0 Fr.rfl⟩
    · unfold F_X7_family
      refine jn_of.trans ?_
      refine (bd_of (isAct7_e hR)).trans ?_
      by_cases d : 0 ≤ i ∧ i < h 56 10
      · rw [if_pos d, if_pos (by omega)]
        by_cases e : v < 0
        · rw [if_pos e]
        · rw [if_neg e, if_pos (by omega)]
      · rw [if_neg d, if_neg (by omega)]
    · unfold F_X8_family
      refine (nm_of rfl).trans ?_
      refine jn_of.trans ?_
      refine (bd_of (isAct8_g hR)).trans ?_
      by_cases d : 0 ≤ i ∧ i < h 56 10
      · rw [if_pos d, if_pos (by omega)]
        refine (bd_of (in_f (by omega))).trans ?_
        rw [if_neg (by omega)]
      · rw [if_neg d, if_neg (by omega)]
