/-! the calls that write a little: clear, rest, empty, tune, family -/
theorem op_clear : OP F_X7_clear F_X8_clear := by
  intro h hR
  have p := hR.ps
  have ht : h 2 1 = h 56 3 := hR.2.1.1
  refine ⟨h 56 3, wr h 2 1 0, wr (wr (wr h 2 1 0) 56 0 0) 56 3 0, ?_, ?_, ?_⟩
  · unfold F_X7_clear; rw [ht]; rfl
  · unfold F_X8_clear
    refine (nm_of rfl).trans ?_
    refine (nm_of (e' := h 56 3) (by rw [wr_at, if_neg (by omega), wr_at, if_neg (by omega)])).trans ?_
    rfl
  · refine RR.of (fCC (fun r k d => by unfold dCC at d; rw [wr_at, if_neg (by omega), wr_at, if_neg (by omega), wr_at, if_neg (by omega)]) p.1) ?_ (fAc (fun r k d => by unfold dAc at d; rw [wr_at, if_neg (by omega), wr_at, if_neg (by omega), wr_at, if_neg (by omega)]) (c_B hR).2 p.2.2.1) (fTu (fun r k d => by unfold dTu at d; rw [wr_at, if_neg (by omega), wr_at, if_neg (by omega), wr_at, if_neg (by omega)]) p.2.2.2.1) (fB (fun r k d => by unfold dB at d; rw [wr_at, if_neg (by omega), wr_at, if_neg (by omega), wr_at, if_neg (by omega)]) p.2.2.2.2.1) (fIm (fun r k d => by unfold dIm at d; rw [wr_at, if_neg (by omega), wr_at, if_neg (by omega), wr_at, if_neg (by omega)]) p.2.2.2.2.2.1) (fMk (fun r k d => by unfold dMk at d; rw [wr_at, if_neg (by omega), wr_at, if_neg (by omega), wr_at, if_neg (by omega)]) p.2.2.2.2.2.2.1) (fTr (fun r k d => by unfold dTr at d; rw [wr_at, if_neg (by omega), wr_at, if_neg (by omega), wr_at, if_neg (by omega)]) p.2.2.2.2.2.2.2.1) (fBs (fun r k d => by unfold dBs at d; rw [wr_at, if_neg (by omega), wr_at, if_neg (by omega), wr_at, if_neg (by omega)]) p.2.2.2.2.2.2.2.2)
    have a : (wr (wr (wr h 2 1 0) 56 0 0) 56 3 0) 56 3 = 0 := wr_s
    have b : (wr (wr (wr h 2 1 0) 56 0 0) 56 3 0) 2 1 = 0 := by rw [wr_o (by omega), wr_o (by omega), wr_s]
    refine ⟨⟨by rw [a, b], fun k x y => ?_⟩, by rw [a]; omega, by rw [a]; omega, fun k x y => ?_⟩
    · rw [a] at y; exact absurd y (by omega)
    · rw [a] at y; exact absurd y (by omega)
theorem op_rest (b : Int) : OP (F_X7_rest b) (F_X8_rest b) := by
  intro h hR
  obtain ⟨n, e0, e9, e26, eb⟩ := n_B hR
  have p := hR.ps
  have pb := p.2.2.2.2.1
  have g0 : (wr h 56 0 0) 61 0 = (n : Int) := by rw [g_56 (by omega)]; exact e0
  by_cases c : b < 0 ∨ (n : Int) ≤ b
  · refine ⟨-1, h, wr h 56 0 0, ?_, ?_, hR.g0 Fr.rfl⟩
    · unfold F_X7_rest; rw [e26, if_pos c]
    · unfold F_X8_rest
      refine (nm_of rfl).trans ?_
      rw [g0, w32_s (by omega) (by omega)]
      refine (bd_of (in_f (by omega))).trans ?_
      rw [if_neg (by omega)]
  · refine ⟨h 61 1, wr h 26 2 b, wr (wr (wr h 26 2 b) 56 0 0) 61 1 b, ?_, ?_, ?_⟩
    · unfold F_X7_rest; rw [e26, if_neg c, eb]; rfl
    · unfold F_X8_rest
      refine (nm_of rfl).trans ?_
      rw [show (wr (wr h 26 2 b) 56 0 0) 61 0 = (n : Int) by rw [wr_o (by omega), wr_o (by omega)]; exact e0, w32_s (by omega) (by omega)]
      refine (bd_of (in_t (by omega) (by omega))).trans ?_
      rw [if_pos (by omega)]
      refine (nm_of (e' := h 61 1) (by rw [wr_o (by omega), wr_o (by omega)])).trans ?_
      rfl
    · refine RR.of (fCC (fun r k d => by unfold dCC at d; rw [wr_at, if_neg (by omega), wr_at, if_neg (by omega), wr_at, if_neg (by omega)]) p.1) (fTx (fun r k d => by unfold dTx at d; rw [wr_at, if_neg (by omega), wr_at, if_neg (by omega), wr_at, if_neg (by omega)]) p.2.1) (fAc (fun r k d => by unfold dAc at d; rw [wr_at, if_neg (by omega), wr_at, if_neg (by omega), wr_at, if_neg (by omega)]) (c_B hR).2 p.2.2.1) (fTu (fun r k d => by unfold dTu at d; rw [wr_at, if_neg (by omega), wr_at, if_neg (by omega), wr_at, if_neg (by omega)]) p.2.2.2.1) ?_ (fIm (fun r k d => by unfold dIm at d; rw [wr_at, if_neg (by omega), wr_at, if_neg (by omega), wr_at, if_neg (by omega)]) p.2.2.2.2.2.1) (fMk (fun r k d => by unfold dMk at d; rw [wr_at, if_neg (by omega), wr_at, if_neg (by omega), wr_at, if_neg (by omega)]) p.2.2.2.2.2.2.1) (fTr (fun r k d => by unfold dTr at d; rw [wr_at, if_neg (by omega), wr_at, if_neg (by omega), wr_at, if_neg (by omega)]) p.2.2.2.2.2.2.2.1) (fBs (fun r k d => by unfold dBs at d; rw [wr_at, if_neg (by omega), wr_at, if_neg (by omega), wr_at, if_neg (by omega)]) p.2.2.2.2.2.2.2.2)
      have e61 : ∀ k : Int, ¬ k = 1 → (wr (wr (wr h 26 2 b) 56 0 0) 61 1 b) 61 k = h 61 k := fun k z => by rw [wr_k z, wr_o (by omega), wr_o (by omega)]
      have e611 : (wr (wr (wr h 26 2 b) 56 0 0) 61 1 b) 61 (0 + 1) = b := wr_s
      have e27 : ∀ k : Int, (wr (wr (wr h 26 2 b) 56 0 0) 61 1 b) (26 + 1) k = h (26 + 1) k := fun k => by rw [wr_o (by omega), wr_o (by omega), wr_o (by omega)]
      have e26' : ∀ k : Int, ¬ k = 2 → (wr (wr (wr h 26 2 b) 56 0 0) 61 1 b) 26 k = h 26 k := fun k z => by rw [wr_o (by omega), wr_o (by omega), wr_k z]
      have m10 : (wr (wr (wr h 26 2 b) 56 0 0) 61 1 b) 56 10 = h 56 10 := by rw [wr_o (by omega), wr_k (by omega), wr_o (by omega)]
      obtain ⟨⟨c1, c2, c3, c4⟩, w1, w2, w3, w4, w5, w6, w7⟩ := pb
      refine ⟨⟨?_, ?_, ?_, fun p x y => ?_⟩, ?_, ?_, ?_, ?_, ?_, fun p x y => ?_, fun p q x y z => ?_⟩
      · rw [e26' 1 (by omega), e61 0 (by omega)]; exact c1
      · rw [e611, wr_o (by omega), wr_o (by omega), wr_s]
      · rw [e26' 3 (by omega), e61 (0 + 2) (by omega)]; exact c3
      · rw [e61 0 (by omega)] at y
        rw [e27, e61 (0 + 3 + p) (by omega)]; exact c4 p x y
      · rw [e61 0 (by omega)]; exact w1
      · rw [e61 0 (by omega), m10]; exact w2
      · rw [e611]; omega
      · rw [e611, e61 0 (by omega), e0]; omega
      · rw [e61 (0 + 2) (by omega)]; exact w5
      · rw [e61 0 (by omega)] at y
        rw [e61 (0 + 3 + p) (by omega), m10]; exact w6 p x y
      · rw [e61 0 (by omega)] at z
        rw [e61 (0 + 3 + p) (by omega), e61 (0 + 3 + q) (by omega)]; exact w7 p q x y z
theorem op_empty : OP F_X7_empty F_X8_empty := by
  intro h hR
  obtain ⟨n, e0, e9, e26, eb⟩ := n_B hR
  have p := hR.ps
  have pb := p.2.2.2.2.1
  refine ⟨h 61 0, wr (wr (wr h 26 1 0) 26 2 0) 1 11 0, wr (wr (wr (wr (wr (wr h 26 1 0) 26 2 0) 1 11 0) 56 0 0) 61 0 0) 61 1 0, ?_, ?_, ?_⟩
  · unfold F_X7_empty; rw [e26, ← e0]; rfl
  · unfold F_X8_empty
    refine (nm_of rfl).trans ?_
    refine (nm_of (e' := h 61 0) (by rw [wr_o (by omega), wr_o (by omega), wr_o (by omega), wr_o (by omega)])).trans ?_
    rfl
  · refine RR.of (fCC (fun r k d => by unfold dCC at d; rw [wr_at, if_neg (by omega), wr_at, if_neg (by omega), wr_at, if_neg (by omega), wr_at, if_neg (by omega), wr_at, if_neg (by omega), wr_at, if_neg (by omega)]) p.1) (fTx (fun r k d => by unfold dTx at d; rw [wr_at, if_neg (by omega), wr_at, if_neg (by omega), wr_at, if_neg (by omega), wr_at, if_neg (by omega), wr_at, if_neg (by omega), wr_at, if_neg (by omega)]) p.2.1) (fAc (fun r k d => by unfold dAc at d; rw [wr_at, if_neg (by omega), wr_at, if_neg (by omega), wr_at, if_neg (by omega), wr_at, if_neg (by omega), wr_at, if_neg (by omega), wr_at, if_neg (by omega)]) (c_B hR).2 p.2.2.1) (fTu (fun r k d => by unfold dTu at d; rw [wr_at, if_neg (by omega), wr_at, if_neg (by omega), wr_at, if_neg (by omega), wr_at, if_neg (by omega), wr_at, if_neg (by omega), wr_at, if_neg (by omega)]) p.2.2.2.1) ?_ (fIm (fun r k d => by unfold dIm at d; rw [wr_at, if_neg (by omega), wr_at, if_neg (by omega), wr_at, if_neg (by omega), wr_at, if_neg (by omega), wr_at, if_neg (by omega), wr_at, if_neg (by omega)]) p.2.2.2.2.2.1) (fMk (fun r k d => by unfold dMk at d; rw [wr_at, if_neg (by omega), wr_at, if_neg (by omega), wr_at, if_neg (by omega), wr_at, if_neg (by omega), wr_at, if_neg (by omega), wr_at, if_neg (by omega)]) p.2.2.2.2.2.2.1) (fTr (fun r k d => by unfold dTr at d; rw [wr_at, if_neg (by omega), wr_at, if_neg (by omega), wr_at, if_neg (by omega), wr_at, if_neg (by omega), wr_at, if_neg (by omega), wr_at, if_neg (by omega)]) p.2.2.2.2.2.2.2.1) ?_
    · have a0 : (wr (wr (wr (wr (wr (wr h 26 1 0) 26 2 0) 1 11 0) 56 0 0) 61 0 0) 61 1 0) 61 0 = 0 := by rw [wr_k (by omega), wr_s]
      have a1 : (wr (wr (wr (wr (wr (wr h 26 1 0) 26 2 0) 1 11 0) 56 0 0) 61 0 0) 61 1 0) 61 (0 + 1) = 0 := wr_s
      have a2 : (wr (wr (wr (wr (wr (wr h 26 1 0) 26 2 0) 1 11 0) 56 0 0) 61 0 0) 61 1 0) 61 (0 + 2) = h 61 (0 + 2) := by rw [wr_k (by omega), wr_k (by omega), wr_o (by omega), wr_o (by omega), wr_o (by omega), wr_o (by omega)]
      have m10 : (wr (wr (wr (wr (wr (wr h 26 1 0) 26 2 0) 1 11 0) 56 0 0) 61 0 0) 61 1 0) 56 10 = h 56 10 := by rw [wr_o (by omega), wr_o (by omega), wr_k (by omega), wr_o (by omega), wr_o (by omega), wr_o (by omega)]
      have w := wac_n hR
      obtain ⟨⟨c1, c2, c3, c4⟩, w1, w2, w3, w4, w5, w6, w7⟩ := pb
      refine ⟨⟨?_, ?_, ?_, fun p x y => ?_⟩, ?_, ?_, ?_, ?_, ?_, fun p x y => ?_, fun p q x y z => ?_⟩
      · rw [a0, wr_o (by omega), wr_o (by omega), wr_o (by omega), wr_o (by omega), wr_k (by omega), wr_s]
      · rw [a1, wr_o (by omega), wr_o (by omega), wr_o (by omega), wr_o (by omega), wr_s]
      · rw [a2, wr_o (by omega), wr_o (by omega), wr_o (by omega), wr_o (by omega), wr_k (by omega), wr_k (by omega)]; exact c3
      · rw [a0] at y; exact absurd y (by omega)
      · rw [a0]; omega
      · rw [a0, m10]; omega
      · rw [a1]; omega
      · rw [a1]; omega
      · rw [a2]; exact w5
      · rw [a0] at y; exact absurd y (by omega)
      · rw [a0] at z; exact absurd z (by omega)
    · refine Or.inl ?_
      rw [wr_o (by omega), wr_o (by omega), wr_o (by omega), wr_s]
