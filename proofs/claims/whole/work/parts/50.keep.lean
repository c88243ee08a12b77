/-! keep -/
theorem op_keep (i : Int) : OP (F_X7_keep i) (F_X8_keep i) := by
  intro h hR
  obtain ⟨n, e0, e9, e26, eb⟩ := n_B hR
  have p := hR.ps
  have w := wac_n hR
  by_cases c : 0 ≤ i ∧ i ≤ 1
  · obtain ⟨im, rfl⟩ : ∃ j : Nat, i = (j : Int) := ⟨i.toNat, by omega⟩
    obtain ⟨h1, e1, c1, c2, c3, c4, c5⟩ := copy_e (h := h) (o := 29 + 2 * (im : Int)) (q := 26) e26 e9 (by omega) (by omega) (by omega) (by omega)
    obtain ⟨h2, e2, r2⟩ := keepL (h := wr (wr h1 (29 + 2 * (im : Int)) 4 1) 56 0 0) (im := im) (by omega) (fun k_15 (h_14 : Mem) => gd (0 ≤ (im : Int) ∧ (im : Int) < 2) (nm (wr h_14 63 im 1) (fun (h_17 : Mem) => some (h_17 61 0, h_17))))
    have g61 : ∀ k, (wr (wr h1 (29 + 2 * (im : Int)) 4 1) 56 0 0) 61 k = h 61 k := fun k => by rw [wr_o (by omega), wr_o (by omega), c5 61 k (by omega) (by omega)]
    have hW : ∀ r k : Int, ¬ (29 ≤ r ∧ r ≤ 32) → ¬ (r = 56 ∧ k = 0) → ¬ r = 62 → ¬ r = 63 → (wr h2 63 im 1) r k = h r k := fun r k a b x y => by
      rw [wr_o y, r2, if_neg (fun z => x z.1), wr_at, if_neg b, wr_o (by omega), c5 r k (by omega) (by omega)]
    refine ⟨(n : Int), wr h1 (29 + 2 * (im : Int)) 4 1, wr h2 63 im 1, ?_, ?_, ?_⟩
    · unfold F_X7_keep
      rw [if_neg (by omega)]
      refine (gd_of (by omega)).trans ?_
      refine (bd_of e1).trans ?_
      refine (nm_of rfl).trans ?_
      rw [wr_o (by omega), c5 26 1 (by omega) (by omega), e26]
    · unfold F_X8_keep
      refine (nm_of rfl).trans ?_
      refine (bd_of (in_t (by omega) (by omega))).trans ?_
      rw [if_pos (by omega)]
      refine e2.trans ?_
      refine (gd_of (by omega)).trans ?_
      refine (nm_of rfl).trans ?_
      rw [hW 61 0 (by omega) (by omega) (by omega) (by omega), e0]
    · refine RR.of (fCC (fun r k d => hW r k (by unfold dCC at d; omega) (by unfold dCC at d; omega) (by unfold dCC at d; omega) (by unfold dCC at d; omega)) p.1) (fTx (fun r k d => hW r k (by unfold dTx at d; omega) (by unfold dTx at d; omega) (by unfold dTx at d; omega) (by unfold dTx at d; omega)) p.2.1) (fAc (fun r k d => hW r k (by unfold dAc at d; omega) (by unfold dAc at d; omega) (by unfold dAc at d; omega) (by unfold dAc at d; omega)) (c_B hR).2 p.2.2.1) (fTu (fun r k d => hW r k (by unfold dTu at d; omega) (by unfold dTu at d; omega) (by unfold dTu at d; omega) (by unfold dTu at d; omega)) p.2.2.2.1) (fB (fun r k d => hW r k (by unfold dB at d; omega) (by unfold dB at d; omega) (by unfold dB at d; omega) (by unfold dB at d; omega)) p.2.2.2.2.1) ?_ (fMk (fun r k d => hW r k (by unfold dMk at d; omega) (by unfold dMk at d; omega) (by unfold dMk at d; omega) (by unfold dMk at d; omega)) p.2.2.2.2.2.2.1) (fTr (fun r k d => hW r k (by unfold dTr at d; omega) (by unfold dTr at d; omega) (by unfold dTr at d; omega) (by unfold dTr at d; omega)) p.2.2.2.2.2.2.2.1) (fBs (fun r k d => hW r k (by unfold dBs at d; omega) (by unfold dBs at d; omega) (by unfold dBs at d; omega) (by unfold dBs at d; omega)) p.2.2.2.2.2.2.2.2)
      sorry
  · refine ⟨-1, h, wr h 56 0 0, ?_, ?_, hR.g0 Fr.rfl⟩
    · unfold F_X7_keep
      rw [if_pos (by omega)]
    · unfold F_X8_keep
      refine (nm_of rfl).trans ?_
      refine (bd_of (in_f (by omega))).trans ?_
      rw [if_neg (by omega)]
