/-! keep -/
theorem op_keep (i : Int) : OP (F_X7_keep i) (F_X8_keep i) := by
  intro h hR
  obtain ⟨n, e0, e9, e26, eb⟩ := n_B hR
  have p := hR.ps
  have w := wac_n hR
  by_cases c : 0 ≤ i ∧ i ≤ 1
  · obtain ⟨im, rfl⟩ : ∃ j : Nat, i = (j : Int) := ⟨i.toNat, by omega⟩
    obtain ⟨h1, e1, c1, c2, c3, c4, c5⟩ := copy_e (h := h) (o := 29 + 2 * (im : Int)) (q := 26) e26 e9 (by omega) (by omega) (by omega) (by omega)
    obtain ⟨h2, e2, r2⟩ := keepL (h := wr (wr h1 (29 + 2 * (im : Int)) 4 1) 56 0 0) (im := im) (by omega) (fun k_15 (h_14 : Mem) => gd (0 ≤ (im : Int) ∧ (im : Int) < 2) (nm (wr h_14 63 im 1) (fun (h_17 : Mem) => some (h_17 61 0, h_17))))
    have g61 : ∀ k, (wr (wr h1 (29 + 2 * (im : Int)) 4 1) 56 0 0) 61 k = h 61 k := fun k => by rw [wr_o (by omega), wr_o (by omega), c5 61 k (by omega) (by omega)]
    have hW : ∀ r k : Int, ¬ (29 ≤ r ∧ r ≤ 32) → ¬ (r = 56 ∧ k = 0) → ¬ r = 62 → ¬ r = 63 → (wr h2 63 im 1) r k = h r k := fun r k a b x y => by
      rw [wr_o y, r2, if_neg (fun z => x z.1), wr_at, if_neg b, wr_o (by omega), c5 r k (by omega) (by omega)]
    refine ⟨(n : Int), wr h1 (29 + 2 * (im : Int)) 4 1, wr h2 63 im 1, ?_, ?_, ?_⟩
    · unfold F_X7_keep
      rw [if_neg (by omega)]
      refine (gd_of (by omega)).trans ?_
      refine (bd_of e1).trans ?_
      refine (nm_of rfl).trans ?_
      rw [wr_o (by omega), c5 26 1 (by omega) (by omega), e26]
    · unfold F_X8_keep
      refine (nm_of rfl).trans ?_
      refine (bd_of (in_t (by omega) (by omega))).trans ?_
      rw [if_pos (by omega)]
      refine e2.trans ?_
      refine (gd_of (by omega)).trans ?_
      refine (nm_of rfl).trans ?_
      rw [hW 61 0 (by omega) (by omega) (by omega) (by omega), e0]
    · refine RR.of (fCC (fun r k d => hW r k (by unfold dCC at d; omega) (by unfold dCC at d; omega) (by unfold dCC at d; omega) (by unfold dCC at d; omega)) p.1) (fTx (fun r k d => hW r k (by unfold dTx at d; omega) (by unfold dTx at d; omega) (by unfold dTx at d; omega) (by unfold dTx at d; omega)) p.2.1) (fAc (fun r k d => hW r k (by unfold dAc at d; omega) (by unfold dAc at d; omega) (by unfold dAc at d; omega) (by unfold dAc at d; omega)) (c_B hR).2 p.2.2.1) (fTu (fun r k d => hW r k (by unfold dTu at d; omega) (by unfold dTu at d; omega) (by unfold dTu at d; omega) (by unfold dTu at d; omega)) p.2.2.2.1) (fB (fun r k d => hW r k (by unfold dB at d; omega) (by unfold dB at d; omega) (by unfold dB at d; omega) (by unfold dB at d; omega)) p.2.2.2.2.1) ?_ (fMk (fun r k d => hW r k (by unfold dMk at d; omega) (by unfold dMk at d; omega) (by unfold dMk at d; omega) (by unfold dMk at d; omega)) p.2.2.2.2.2.2.1) (fTr (fun r k d => hW r k (by unfold dTr at d; omega) (by unfold dTr at d; omega) (by unfold dTr at d; omega) (by unfold dTr at d; omega)) p.2.2.2.2.2.2.2.1) (fBs (fun r k d => hW r k (by unfold dBs at d; omega) (by unfold dBs at d; omega) (by unfold dBs at d; omega) (by unfold dBs at d; omega)) p.2.2.2.2.2.2.2.2)
      have x63 : ∀ k : Int, (wr h2 63 im 1) 63 k = if k = (im : Int) then 1 else h 63 k := fun k => by
        by_cases z : k = (im : Int)
        · rw [if_pos z, z, wr_s]
        · rw [if_neg z, wr_k z, r2, if_neg (by omega), wr_o (by omega), wr_o (by omega), c5 63 k (by omega) (by omega)]
      have x62 : ∀ k : Int, (wr h2 63 im 1) 62 k = if 12 * (im : Int) ≤ k ∧ k < 12 * (im : Int) + 12 then h 61 (k - 12 * (im : Int)) else h 62 k := fun k => by
        rw [wr_o (by omega), r2]
        by_cases z : 12 * (im : Int) ≤ k ∧ k < 12 * (im : Int) + 12
        · rw [if_pos ⟨rfl, z⟩, if_pos z, g61]
        · rw [if_neg (fun y => z y.2), if_neg z, wr_o (by omega), wr_o (by omega), c5 62 k (by omega) (by omega)]
      have xc : ∀ r k : Int, 29 ≤ r → r ≤ 32 → (wr h2 63 im 1) r k = (wr h1 (29 + 2 * (im : Int)) 4 1) r k := fun r k a b => by
        rw [wr_o (by omega), r2, if_neg (by omega), wr_o (by omega)]
      have m10 := hW 56 10 (by omega) (by omega) (by omega) (by omega)
      generalize wr h2 63 im 1 = W at x63 x62 xc m10 ⊢
      obtain ⟨⟨b1, b2, b3, b4⟩, wb⟩ := p.2.2.2.2.1
      have at62 : ∀ j : Int, 0 ≤ j → j < 12 → W 62 (12 * (im : Int) + j) = h 61 j := fun j x y => by
        rw [x62, if_pos (by omega), show 12 * (im : Int) + j - 12 * (im : Int) = j by omega]
      have a0 : W 62 (12 * (im : Int)) = (n : Int) := by rw [← Int.add_zero (12 * (im : Int)), at62 0 (by omega) (by omega)]; exact e0
      have am : ∀ q : Int, 0 ≤ q → q < n → W 62 (12 * (im : Int) + 3 + q) = h 61 (0 + 3 + q) := fun q x y => by
        rw [show 12 * (im : Int) + 3 + q = 12 * (im : Int) + (0 + 3 + q) by omega, at62 _ (by omega) (by omega)]
      refine ⟨fun k x y => ?_, fun k x y => ?_⟩
      · by_cases z : k = (im : Int)
        · subst z
          refine ⟨by rw [x63, if_pos rfl, xc _ 4 (by omega) (by omega), wr_s], fun _ => ⟨?_, ?_, ?_, fun q u v => ?_⟩⟩
          · rw [a0, xc _ 1 (by omega) (by omega), wr_k (by omega)]; exact c1
          · rw [at62 1 (by omega) (by omega), xc _ 2 (by omega) (by omega), wr_k (by omega), c2]; exact b2
          · rw [at62 2 (by omega) (by omega), xc _ 3 (by omega) (by omega), wr_k (by omega), c3]; exact b3
          · rw [a0] at v
            obtain ⟨j, rfl⟩ : ∃ j : Nat, q = (j : Int) := ⟨q.toNat, by omega⟩
            rw [am j u v, xc _ _ (by omega) (by omega), wr_o (by omega), c4 j (by omega)]; exact b4 j u (by omega)
        · have o := p.2.2.2.2.2.1.1 k x y
          have xo : ∀ r q : Int, (r = 29 + 2 * k ∨ r = 29 + 2 * k + 1) → W r q = h r q := fun r q d => by
            rw [xc r q (by omega) (by omega), wr_o (by omega), c5 r q (by omega) (by omega)]
          have o62 : ∀ j : Int, 0 ≤ j → j < 12 → W 62 (12 * k + j) = h 62 (12 * k + j) := fun j x y => by rw [x62, if_neg (by omega)]
          have o0 : W 62 (12 * k) = h 62 (12 * k) := by rw [x62, if_neg (by omega)]
          rw [x63, if_neg z]
          refine ⟨by rw [xo _ 4 (Or.inl rfl)]; exact o.1, fun t => ?_⟩
          have t1 := o.2 t
          have wt := (p.2.2.2.2.2.1.2 k x y).2 t
          refine ⟨by rw [xo _ 1 (Or.inl rfl), o0]; exact t1.1, by rw [xo _ 2 (Or.inl rfl), o62 1 (by omega) (by omega)]; exact t1.2.1, by rw [xo _ 3 (Or.inl rfl), o62 2 (by omega) (by omega)]; exact t1.2.2.1, fun q u v => ?_⟩
          rw [o0] at v
          have l := wt.2.1
          rw [xo _ q (Or.inr rfl), show 12 * k + 3 + q = 12 * k + (3 + q) by omega, o62 (3 + q) (by omega) (by omega), show 12 * k + (3 + q) = 12 * k + 3 + q by omega]; exact t1.2.2.2 q u v
      · obtain ⟨v1, v2, v3, v4, v5, v6, v7⟩ := wb
        by_cases z : k = (im : Int)
        · subst z
          rw [x63, if_pos rfl]
          refine ⟨Or.inr rfl, fun _ => ⟨?_, ?_, ?_, ?_, ?_, fun q u v => ?_, fun q q' u v t => ?_⟩⟩
          · rw [a0]; omega
          · rw [a0, m10, ← e0]; exact v2
          · rw [at62 1 (by omega) (by omega)]; exact v3
          · rw [at62 1 (by omega) (by omega), a0, ← e0]; exact v4
          · rw [at62 2 (by omega) (by omega)]; exact v5
          · rw [a0] at v
            rw [am q u v, m10]; exact v6 q u (by omega)
          · rw [a0] at t
            rw [am q u (by omega), am q' (by omega) t]; exact v7 q q' u v (by omega)
        · have o := p.2.2.2.2.2.1.2 k x y
          have o62 : ∀ j : Int, 0 ≤ j → j < 12 → W 62 (12 * k + j) = h 62 (12 * k + j) := fun j x y => by rw [x62, if_neg (by omega)]
          have o0 : W 62 (12 * k) = h 62 (12 * k) := by rw [x62, if_neg (by omega)]
          rw [x63, if_neg z]
          refine ⟨o.1, fun t => ?_⟩
          obtain ⟨u1, u2, u3, u4, u5, u6, u7⟩ := o.2 t
          have o3 : ∀ q : Int, 0 ≤ q → q < h 62 (12 * k) → W 62 (12 * k + 3 + q) = h 62 (12 * k + 3 + q) := fun q x y => by rw [x62, if_neg (by omega)]
          refine ⟨by rw [o0]; exact u1, by rw [o0, m10]; exact u2, by rw [o62 1 (by omega) (by omega)]; exact u3, by rw [o62 1 (by omega) (by omega), o0]; exact u4, by rw [o62 2 (by omega) (by omega)]; exact u5, fun q a b => ?_, fun q q' a b d => ?_⟩
          · rw [o0] at b
            rw [o3 q a b, m10]; exact u6 q a b
          · rw [o0] at d
            rw [o3 q a (by omega), o3 q' (by omega) d]; exact u7 q q' a b d
  · refine ⟨-1, h, wr h 56 0 0, ?_, ?_, hR.g0 Fr.rfl⟩
    · unfold F_X7_keep
      rw [if_pos (by omega)]
    · unfold F_X8_keep
      refine (nm_of rfl).trans ?_
      refine (bd_of (in_f (by omega))).trans ?_
      rw [if_neg (by omega)]
