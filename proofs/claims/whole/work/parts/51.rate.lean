/-! rate, back -/
theorem w64_w (x y : Int) : w64 (w64 x + y) = w64 (x + y) := by unfold w64; omega
theorem wr_ov {h : Mem} {r k a b : Int} : wr (wr h r k a) r k b = wr h r k b := by
  funext x y
  rw [wr_at, wr_at, wr_at]
  by_cases c : x = r ∧ y = k
  · rw [if_pos c, if_pos c]
  · rw [if_neg c, if_neg c, if_neg c]
section Rate
variable {h : Mem} {one : Int}
theorem rPl : F_X7_ratePlace one h = some (h one 3, wr h 1 12 (w64 (h 1 12 + 1))) := by
  unfold F_X7_ratePlace
  refine (nm_of rfl).trans ?_
  rw [wr_at, if_neg (by omega)]
theorem rCl : F_X7_rateClosing one h = some (w32 (h one 3 - w32 (h one 5 + h one 6)), wr h 1 12 (w64 (h 1 12 + 100001))) := by
  unfold F_X7_rateClosing
  refine (nm_of rfl).trans ?_
  refine (bd_of rPl).trans ?_
  rw [wr_s, w64_w, wr_ov, Int.add_assoc]
  rw [wr_at, if_neg (by omega), wr_at, if_neg (by omega), wr_at, if_neg (by omega)]; rfl
theorem rDr : F_X7_rateDraw one h = some (w32 (w32 (h one 3 - w32 (h one 5 + h one 6)) + h one 9), wr h 1 12 (w64 (h 1 12 + 110001))) := by
  unfold F_X7_rateDraw
  refine (nm_of rfl).trans ?_
  refine (bd_of rCl).trans ?_
  rw [wr_s, w64_w, wr_ov, Int.add_assoc]
  rw [wr_at, if_neg (by omega), wr_at, if_neg (by omega), wr_at, if_neg (by omega), wr_at, if_neg (by omega)]; rfl
theorem rFr : F_X7_rateFrontCloth one h = some (w32 (h one 3 + h one 2), wr h 1 12 (w64 (h 1 12 + 101))) := by
  unfold F_X7_rateFrontCloth
  refine (nm_of rfl).trans ?_
  refine (bd_of rPl).trans ?_
  rw [wr_s, w64_w, wr_ov, Int.add_assoc]
  rw [wr_at, if_neg (by omega), wr_at, if_neg (by omega)]; rfl
theorem rOp : F_X7_rateOpening one h = some (w32 (h one 3 + h 34 4), wr h 1 12 (w64 (h 1 12 + 11))) := by
  unfold F_X7_rateOpening
  refine (nm_of rfl).trans ?_
  refine (bd_of rPl).trans ?_
  rw [wr_s, w64_w, wr_ov, Int.add_assoc]
  rw [wr_at, if_neg (by omega), wr_at, if_neg (by omega)]; rfl
theorem rSe : F_X7_rateSecond one h = some (w32 (2 * w32 (h one 3 + h 34 4)), wr h 1 12 (w64 (h 1 12 + 1011))) := by
  unfold F_X7_rateSecond
  refine (nm_of rfl).trans ?_
  refine (bd_of rOp).trans ?_
  rw [wr_s, w64_w, wr_ov, Int.add_assoc]
  rw [wr_at, if_neg (by omega), wr_at, if_neg (by omega)]; rfl
end Rate
def raC (k : Int) : Int := if k = 0 then 1 else if k = 1 then 11 else if k = 2 then 101 else if k = 3 then 1011 else if k = 4 then 110001 else 100001
theorem op_rate (k i : Int) : OP (F_X7_rate k i) (F_X8_rate k i) := by
  intro h hR
  have w := wac_n hR
  have p := hR.ps
  by_cases c : 0 ≤ i ∧ i < h 56 10
  · obtain ⟨⟨a1, a2, a3, a4, a5, a6, a7, a8, a10⟩, a9⟩ := hR.2.2.1.2 i c.1 c.2
    have wf := hR.2.2.2.2.2.2.2.1.2.1.2.2 i c.1 c.2
    have t4 : h 34 4 = h 59 4 := hR.2.2.2.1 4 (by omega) (by omega)
    by_cases d : 0 ≤ k ∧ k ≤ 5
    · have ec : F_X7_rate k i h = some (if k = 0 then h 58 (9 * i + 2) else if k = 1 then w32 (h 58 (9 * i + 2) + h 59 4) else if k = 2 then w32 (h 58 (9 * i + 2) + h 58 (9 * i + 1)) else if k = 3 then w32 (2 * w32 (h 58 (9 * i + 2) + h 59 4)) else if k = 4 then w32 (w32 (w32 (h 58 (9 * i + 2) - h 58 (9 * i + 4)) - h 58 (9 * i + 5)) + h 60 i) else w32 (w32 (h 58 (9 * i + 2) - h 58 (9 * i + 4)) - h 58 (9 * i + 5)), wr h 1 12 (w64 (h 1 12 + raC k))) := by
        unfold F_X7_rate
        refine (bd_of (isAct7_e hR)).trans ?_
        rw [if_pos c, if_pos (by omega)]
        refine (nm_of rfl).trans ?_
        refine (gd_of (c_B hR).1).trans ?_
        refine (gd_of (by omega)).trans ?_
        refine (nm_of rfl).trans ?_
        have cl : w32 (h 58 (9 * i + 2) - w32 (h 58 (9 * i + 4) + h 58 (9 * i + 5))) = w32 (w32 (h 58 (9 * i + 2) - h 58 (9 * i + 4)) - h 58 (9 * i + 5)) := by
          have b := wf.1
          unfold WAct at b
          rw [w32_s (z := h 58 (9 * i + 4) + h 58 (9 * i + 5)) (by omega) (by omega), w32_s (z := h 58 (9 * i + 2) - h 58 (9 * i + 4)) (by omega) (by omega)]
          congr 1
          omega
        rw [rPl, rOp, rFr, rSe, rDr, rCl, bd_s, bd_s, bd_s, bd_s, bd_s, bd_s, a2, a3, a5, a6, a9, t4, cl]
        have kk : k = 0 ∨ k = 1 ∨ k = 2 ∨ k = 3 ∨ k = 4 ∨ k = 5 := by omega
        clear c d cl
        rcases kk with r | r | r | r | r | r <;> subst r <;> simp only [raC, nm, jn, bd, gd, wr_at, Int.reduceEq, Int.reduceNeg, Int.reduceLT, Int.reduceLE, Int.reduceAdd, Int.reduceSub, false_and, true_and, and_true, and_false, and_self, or_false, false_or, or_true, true_or, if_true, if_false, ite_self, not_true_eq_false, not_false_eq_true, true_implies, implies_true]
      refine ⟨_, _, wr (wr (wr h 1 12 (w64 (h 1 12 + raC k))) 56 0 0) 56 1 (w64 (h 56 1 + raC k)), ec, ?_, ?_⟩
      · unfold F_X8_rate
        refine (nm_of rfl).trans ?_
        refine jn_of.trans ?_
        refine (bd_of (in_t d.1 d.2)).trans ?_
        rw [if_pos (by omega)]
        have g10 : (wr (wr h 1 12 (w64 (h 1 12 + raC k))) 56 0 0) 56 10 = h 56 10 := by rw [wr_k (by omega), wr_o (by omega)]
        refine (bd_of (isAct8_e (by rw [g10]; omega) (by rw [g10]; omega))).trans ?_
        rw [g10, if_pos c, if_pos (by omega)]
        refine (bd_of (of_e (by omega) (by omega) (by omega) (by omega))).trans ?_
        refine (nm_of rfl).trans ?_
        refine (bd_of (of_e (by omega) (by omega) (by omega) (by omega))).trans ?_
        refine (bd_of (of_e (by omega) (by omega) (by omega) (by omega))).trans ?_
        refine (nm_of rfl).trans ?_
        refine (nm_of (e' := raC k) rfl).trans ?_
        have g1 : (wr (wr h 1 12 (w64 (h 1 12 + raC k))) 56 0 0) 56 1 = h 56 1 := by rw [wr_k (by omega), wr_o (by omega)]
        rw [g1]
        refine (nm_of rfl).trans ?_
        rw [of_e (by omega) (by omega) (by omega) (by omega), bd_s]
        have e58 : ∀ j, (wr (wr h 1 12 (w64 (h 1 12 + raC k))) 56 0 0) 58 j = h 58 j := fun j => by rw [wr_o (by omega), wr_o (by omega)]
        have e59 : ∀ j, (wr (wr h 1 12 (w64 (h 1 12 + raC k))) 56 0 0) 59 j = h 59 j := fun j => by rw [wr_o (by omega), wr_o (by omega)]
        have e60 : ∀ j, (wr (wr h 1 12 (w64 (h 1 12 + raC k))) 56 0 0) 60 j = h 60 j := fun j => by rw [wr_o (by omega), wr_o (by omega)]
        rw [wr_o (h := wr (wr h 1 12 (w64 (h 1 12 + raC k))) 56 0 0) (r' := 58) (by omega), wr_o (h := wr (wr h 1 12 (w64 (h 1 12 + raC k))) 56 0 0) (r' := 60) (by omega), e58, e58, e58, e58, e59, e60, gd_t (by omega)]
        have kk : k = 0 ∨ k = 1 ∨ k = 2 ∨ k = 3 ∨ k = 4 ∨ k = 5 := by omega
        clear c d
        rcases kk with r | r | r | r | r | r <;> subst r <;> simp only [nm, jn, bd, gd, wr_at, Int.reduceEq, Int.reduceNeg, Int.reduceLT, Int.reduceLE, Int.reduceAdd, Int.reduceSub, false_and, true_and, and_true, and_false, and_self, or_false, false_or, or_true, true_or, if_true, if_false, ite_self, not_true_eq_false, not_false_eq_true, true_implies, implies_true]
      · have hW : ∀ r j : Int, ¬ (r = 1 ∧ j = 12) → ¬ (r = 56 ∧ (j = 0 ∨ j = 1)) → (wr (wr (wr h 1 12 (w64 (h 1 12 + raC k))) 56 0 0) 56 1 (w64 (h 56 1 + raC k))) r j = h r j := fun r j a b => by
          rw [wr_at, if_neg (by omega), wr_at, if_neg (by omega), wr_at, if_neg (by omega)]
        refine RR.of (fCC (fun r k d => hW r k (by unfold dCC at d; omega) (by unfold dCC at d; omega)) p.1) (fTx (fun r k d => hW r k (by unfold dTx at d; omega) (by unfold dTx at d; omega)) p.2.1) (fAc (fun r k d => hW r k (by unfold dAc at d; omega) (by unfold dAc at d; omega)) (c_B hR).2 p.2.2.1) (fTu (fun r k d => hW r k (by unfold dTu at d; omega) (by unfold dTu at d; omega)) p.2.2.2.1) (fB (fun r k d => hW r k (by unfold dB at d; omega) (by unfold dB at d; omega)) p.2.2.2.2.1) (fIm (fun r k d => hW r k (by unfold dIm at d; omega) (by unfold dIm at d; omega)) p.2.2.2.2.2.1) (fMk (fun r k d => hW r k (by unfold dMk at d; omega) (by unfold dMk at d; omega)) p.2.2.2.2.2.2.1) ?_ (fBs (fun r k d => hW r k (by unfold dBs at d; omega) (by unfold dBs at d; omega)) p.2.2.2.2.2.2.2.2)
        have q := p.2.2.2.2.2.2.2.1
        refine ⟨?_, ?_⟩
        · rw [wr_o (by omega), wr_o (by omega), wr_s, wr_s, q.1]
        · rw [wr_s]; exact w64_in _
    · refine ⟨-1000000, h, wr h 56 0 0, ?_, ?_, hR.g0 Fr.rfl⟩
      · unfold F_X7_rate
        refine (bd_of (isAct7_e hR)).trans ?_
        rw [if_pos c, if_pos (by omega)]
        refine (nm_of rfl).trans ?_
        refine (gd_of (c_B hR).1).trans ?_
        refine (gd_of (by omega)).trans ?_
        refine (nm_of rfl).trans ?_
        rw [if_neg (by omega), if_neg (by omega), if_neg (by omega), if_neg (by omega), if_neg (by omega), if_neg (by omega)]
      · unfold F_X8_rate
        refine (nm_of rfl).trans ?_
        refine jn_of.trans ?_
        refine (bd_of (in_f (by omega))).trans ?_
        rw [if_neg (by omega)]
  · refine ⟨-1000000, h, wr h 56 0 0, ?_, ?_, hR.g0 Fr.rfl⟩
    · unfold F_X7_rate
      refine (bd_of (isAct7_e hR)).trans ?_
      rw [if_neg c, if_neg (by omega)]
    · unfold F_X8_rate
      refine (nm_of rfl).trans ?_
      refine jn_of.trans ?_
      by_cases d : 0 ≤ k ∧ k ≤ 5
      · refine (bd_of (in_t d.1 d.2)).trans ?_
        rw [if_pos (by omega)]
        refine (bd_of (isAct8_g hR)).trans ?_
        rw [if_neg c, if_neg (by omega)]
      · refine (bd_of (in_f (by omega))).trans ?_
        rw [if_neg (by omega)]
theorem op_back (i : Int) : OP (F_X7_back i) (F_X8_back i) := by
  intro h hR
  have p := hR.ps
  have w := wac_n hR
  by_cases c : 0 ≤ i ∧ i ≤ 1
  · obtain ⟨im, rfl⟩ : ∃ j : Nat, i = (j : Int) := ⟨i.toNat, by omega⟩
    have ci := p.2.2.2.2.2.1.1 im (by omega) (by omega)
    have wi := p.2.2.2.2.2.1.2 im (by omega) (by omega)
    by_cases z : h 63 im = 0
    · refine ⟨-2, h, wr h 56 0 0, ?_, ?_, hR.g0 Fr.rfl⟩
      · unfold F_X7_back
        rw [if_neg (by omega), gd_t (by omega), if_neg (by omega)]
      · unfold F_X8_back
        refine (nm_of rfl).trans ?_
        refine (bd_of (in_t (by omega) (by omega))).trans ?_
        rw [if_pos (by omega), gd_t (by omega), if_neg (by rw [wr_o (by omega)]; omega)]
    · have z1 : h 63 im = 1 := by omega
      obtain ⟨b1, b2, b3, b4⟩ := ci.2 z1
      obtain ⟨v1, v2, v3, v4, v5, v6, v7⟩ := wi.2 z1
      obtain ⟨n, en⟩ : ∃ n : Nat, h 62 (12 * (im : Int)) = (n : Int) := ⟨(h 62 (12 * (im : Int))).toNat, by omega⟩
      obtain ⟨h1, e1, c1, c2, c3, c4, c5⟩ := copy_e (h := h) (o := 26) (q := 29 + 2 * (im : Int)) (n := n) (by rw [b1]; exact en) (by omega) (by omega) (by omega) (by omega) (by omega)
      obtain ⟨h2, e2, r2⟩ := backL (h := wr (wr h1 1 11 0) 56 0 0) (im := im) (by omega) (fun k_17 (h_16 : Mem) => some (h_16 61 0, h_16))
      have hW : ∀ r k : Int, ¬ (r = 26 ∧ 1 ≤ k ∧ k ≤ 3) → ¬ (r = 27 ∨ r = 61) → ¬ (r = 1 ∧ k = 11) → ¬ (r = 56 ∧ k = 0) → h2 r k = h r k := fun r k a b x y => by
        rw [r2, if_neg (by omega), wr_at, if_neg (by omega), wr_at, if_neg (by omega), c5 r k (by omega) (by omega)]
      have g62 : ∀ j, (wr (wr h1 1 11 0) 56 0 0) 62 j = h 62 j := fun j => by rw [wr_o (by omega), wr_o (by omega), c5 62 j (by omega) (by omega)]
      have a61 : ∀ j : Int, 0 ≤ j → j < 12 → h2 61 j = h 62 (12 * (im : Int) + j) := fun j x y => by rw [r2, if_pos ⟨rfl, x, y⟩, g62]
      have a0 : h2 61 0 = (n : Int) := by rw [a61 0 (by omega) (by omega), Int.add_zero]; exact en
      refine ⟨(n : Int), wr h1 1 11 0, h2, ?_, ?_, ?_⟩
      · unfold F_X7_back
        rw [if_neg (by omega), gd_t (by omega), if_pos (by rw [ci.1]; omega)]
        refine (bd_of e1).trans ?_
        refine (nm_of rfl).trans ?_
        rw [wr_o (by omega), c1]
      · unfold F_X8_back
        refine (nm_of rfl).trans ?_
        refine (bd_of (in_t (by omega) (by omega))).trans ?_
        rw [if_pos (by omega), gd_t (by omega), if_pos (by rw [wr_o (by omega), wr_o (by omega), c5 63 im (by omega) (by omega)]; omega)]
        refine e2.trans ?_
        rw [a0]
      · refine RR.of (fCC (fun r k d => hW r k (by unfold dCC at d; omega) (by unfold dCC at d; omega) (by unfold dCC at d; omega) (by unfold dCC at d; omega)) p.1) (fTx (fun r k d => hW r k (by unfold dTx at d; omega) (by unfold dTx at d; omega) (by unfold dTx at d; omega) (by unfold dTx at d; omega)) p.2.1) (fAc (fun r k d => hW r k (by unfold dAc at d; omega) (by unfold dAc at d; omega) (by unfold dAc at d; omega) (by unfold dAc at d; omega)) (c_B hR).2 p.2.2.1) (fTu (fun r k d => hW r k (by unfold dTu at d; omega) (by unfold dTu at d; omega) (by unfold dTu at d; omega) (by unfold dTu at d; omega)) p.2.2.2.1) ?_ (fIm (fun r k d => hW r k (by unfold dIm at d; omega) (by unfold dIm at d; omega) (by unfold dIm at d; omega) (by unfold dIm at d; omega)) p.2.2.2.2.2.1) (fMk (fun r k d => hW r k (by unfold dMk at d; omega) (by unfold dMk at d; omega) (by unfold dMk at d; omega) (by unfold dMk at d; omega)) p.2.2.2.2.2.2.1) (fTr (fun r k d => hW r k (by unfold dTr at d; omega) (by unfold dTr at d; omega) (by unfold dTr at d; omega) (by unfold dTr at d; omega)) p.2.2.2.2.2.2.2.1) ?_
        · have cc : ∀ r k : Int, (r = 26 ∨ r = 27) → h2 r k = h1 r k := fun r k x => by rw [r2, if_neg (by omega), wr_o (by omega), wr_o (by omega)]
          have m10 : h2 56 10 = h 56 10 := hW 56 10 (by omega) (by omega) (by omega) (by omega)
          have a3 : ∀ q : Int, 0 ≤ q → q < n → h2 61 (0 + 3 + q) = h 62 (12 * (im : Int) + 3 + q) := fun q x y => by
            rw [a61 (0 + 3 + q) (by omega) (by omega), show 12 * (im : Int) + (0 + 3 + q) = 12 * (im : Int) + 3 + q by omega]
          refine ⟨⟨?_, ?_, ?_, fun q x y => ?_⟩, ?_, ?_, ?_, ?_, ?_, fun q x y => ?_, fun q q' x y t => ?_⟩
          · rw [cc 26 1 (Or.inl rfl), c1, a0]
          · rw [cc 26 2 (Or.inl rfl), c2, a61 (0 + 1) (by omega) (by omega)]; exact b2
          · rw [cc 26 3 (Or.inl rfl), c3, a61 (0 + 2) (by omega) (by omega)]; exact b3
          · rw [a0] at y
            obtain ⟨j, rfl⟩ : ∃ j : Nat, q = (j : Int) := ⟨q.toNat, by omega⟩
            rw [a3 j x y, cc (26 + 1) j (Or.inr rfl), c4 j (by omega)]; exact b4 j x (by omega)
          · rw [a0]; omega
          · rw [a0, m10]; omega
          · rw [a61 (0 + 1) (by omega) (by omega)]; exact v3
          · rw [a61 (0 + 1) (by omega) (by omega), a0, ← en]; exact v4
          · rw [a61 (0 + 2) (by omega) (by omega)]; exact v5
          · rw [a0] at y
            rw [a3 q x y, m10]; exact v6 q x (by omega)
          · rw [a0] at t
            rw [a3 q x (by omega), a3 q' (by omega) t]; exact v7 q q' x y (by omega)
        · refine Or.inl ?_
          rw [r2, if_neg (by omega), wr_o (by omega), wr_s]
  · refine ⟨-1, h, wr h 56 0 0, ?_, ?_, hR.g0 Fr.rfl⟩
    · unfold F_X7_back
      rw [if_pos (by omega)]
    · unfold F_X8_back
      refine (nm_of rfl).trans ?_
      refine (bd_of (in_f (by omega))).trans ?_
      rw [if_neg (by omega)]
