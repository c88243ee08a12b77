/-! place -/
theorem op_place (i : Int) : OP (F_X7_place i) (F_X8_place i) := by
  intro h hR
  obtain ⟨n, e0, e9, e26, eb⟩ := n_B hR
  have p := hR.ps
  have w := wac_n hR
  have pf7 := pof7_e (i := i) (r := mB h) e26 e9 (fun p hp => (mB_b hR e0 hp).2.2.2)
  have mBe : ∀ p : Nat, p < n → h 61 (3 + (p : Int)) = mB h p := fun p hp => by rw [mB, if_pos (by omega)]
  by_cases c : 0 ≤ i ∧ i < h 56 10
  · rcases pof_s (r := mB h) (i := i) n 0 with ⟨a, b⟩ | ⟨j, a, b, e, e2, e3⟩
    · have rm := room_B hR e0 c (fun p hp => b p (by omega) (by omega))
      have w3 : w32 ((n : Int) + 1) = (n : Int) + 1 := w32_s (by omega) (by omega)
      have w4 : w32 (3 + (n : Int)) = 3 + (n : Int) := w32_s (by omega) (by omega)
      refine ⟨(n : Int) + 1, wr (wr (wr h 27 n i) 26 1 ((n : Int) + 1)) 1 11 0, wr (wr (wr (wr (wr (wr h 27 n i) 26 1 ((n : Int) + 1)) 1 11 0) 56 0 0) 61 (3 + (n : Int)) i) 61 0 ((n : Int) + 1), ?_, ?_, ?_⟩
      · have ap : F_X1_append 26 i h = some (0, wr (wr h 27 n i) 26 1 ((n : Int) + 1)) := by
          unfold F_X1_append
          rw [e26, if_pos (by clear w3 w4; omega)]
          refine (gd_of (by clear w3 w4; omega)).trans ?_
          refine (nm_of (e' := wr h 27 n i) rfl).trans ?_
          rw [wr_o (by clear w3 w4; omega), e26, w3]
          rfl
        clear w3 w4
        unfold F_X7_place
        refine (bd_of (isAct7_e hR)).trans ?_
        rw [if_pos c, if_pos (by omega)]
        refine (bd_of pf7).trans ?_
        rw [a, if_neg (by omega)]
        refine (bd_of ap).trans ?_
        refine (nm_of rfl).trans ?_
        rw [wr_o (by omega), wr_s]
      · generalize hg : wr (wr (wr (wr h 27 n i) 26 1 ((n : Int) + 1)) 1 11 0) 56 0 0 = g
        have g61 : ∀ k, g 61 k = h 61 k := fun k => by rw [← hg, wr_o (by clear w3 w4; omega), wr_o (by clear w3 w4; omega), wr_o (by clear w3 w4; omega), wr_o (by clear w3 w4; omega)]
        have g10 : g 56 10 = h 56 10 := by rw [← hg, wr_k (by clear w3 w4; omega), wr_o (by clear w3 w4; omega), wr_o (by clear w3 w4; omega), wr_o (by clear w3 w4; omega)]
        have pf8 := pof8_e (h := g) (i := i) (r := mB h) (by rw [g61]; exact e0) e9 (fun p hp => by rw [g61]; exact mBe p hp)
        unfold F_X8_place
        rw [hg]
        refine (nm_of rfl).trans ?_
        refine (bd_of (isAct8_e (by clear w3 w4; omega) (by clear w3 w4; omega))).trans ?_
        rw [g10, if_pos c, if_pos (by clear w3 w4; omega)]
        refine (bd_of pf8).trans ?_
        rw [a, if_neg (by clear w3 w4; omega), g61, e0, w4]
        refine (gd_of (by clear w3 w4; omega)).trans ?_
        refine (nm_of rfl).trans ?_
        rw [wr_k (by clear w3 w4; omega), g61, e0, w3]
        refine (nm_of rfl).trans ?_
        rw [wr_s]
      · clear w3 w4
        have a61 : ∀ k : Int, ¬ k = 0 → ¬ k = 3 + (n : Int) → (wr (wr (wr (wr (wr (wr h 27 n i) 26 1 ((n : Int) + 1)) 1 11 0) 56 0 0) 61 (3 + (n : Int)) i) 61 0 ((n : Int) + 1)) 61 k = h 61 k := fun k x y => by rw [wr_k x, wr_k y, wr_o (by omega), wr_o (by omega), wr_o (by omega), wr_o (by omega)]
        have a61n : (wr (wr (wr (wr (wr (wr h 27 n i) 26 1 ((n : Int) + 1)) 1 11 0) 56 0 0) 61 (3 + (n : Int)) i) 61 0 ((n : Int) + 1)) 61 (0 + 3 + (n : Int)) = i := by rw [show (0 : Int) + 3 + (n : Int) = 3 + (n : Int) by omega, wr_k (by omega), wr_s]
        have a610 : (wr (wr (wr (wr (wr (wr h 27 n i) 26 1 ((n : Int) + 1)) 1 11 0) 56 0 0) 61 (3 + (n : Int)) i) 61 0 ((n : Int) + 1)) 61 0 = (n : Int) + 1 := wr_s
        have a26 : (wr (wr (wr (wr (wr (wr h 27 n i) 26 1 ((n : Int) + 1)) 1 11 0) 56 0 0) 61 (3 + (n : Int)) i) 61 0 ((n : Int) + 1)) 26 1 = (n : Int) + 1 := by rw [wr_o (by omega), wr_o (by omega), wr_o (by omega), wr_o (by omega), wr_s]
        have a26k : ∀ k : Int, ¬ k = 1 → (wr (wr (wr (wr (wr (wr h 27 n i) 26 1 ((n : Int) + 1)) 1 11 0) 56 0 0) 61 (3 + (n : Int)) i) 61 0 ((n : Int) + 1)) 26 k = h 26 k := fun k x => by rw [wr_o (by omega), wr_o (by omega), wr_o (by omega), wr_o (by omega), wr_k x, wr_o (by omega)]
        have a27 : ∀ k : Int, (wr (wr (wr (wr (wr (wr h 27 n i) 26 1 ((n : Int) + 1)) 1 11 0) 56 0 0) 61 (3 + (n : Int)) i) 61 0 ((n : Int) + 1)) (26 + 1) k = if k = (n : Int) then i else h (26 + 1) k := fun k => by
          rw [show (26 : Int) + 1 = 27 from rfl]
          by_cases z : k = (n : Int)
          · rw [if_pos z, z, wr_o (by omega), wr_o (by omega), wr_o (by omega), wr_o (by omega), wr_o (by omega), wr_s]
          · rw [if_neg z, wr_o (by omega), wr_o (by omega), wr_o (by omega), wr_o (by omega), wr_o (by omega), wr_k z]
        have a11 : (wr (wr (wr (wr (wr (wr h 27 n i) 26 1 ((n : Int) + 1)) 1 11 0) 56 0 0) 61 (3 + (n : Int)) i) 61 0 ((n : Int) + 1)) 1 11 = 0 := by rw [wr_o (by omega), wr_o (by omega), wr_o (by omega), wr_s]
        have m10 : (wr (wr (wr (wr (wr (wr h 27 n i) 26 1 ((n : Int) + 1)) 1 11 0) 56 0 0) 61 (3 + (n : Int)) i) 61 0 ((n : Int) + 1)) 56 10 = h 56 10 := by rw [wr_o (by omega), wr_o (by omega), wr_k (by omega), wr_o (by omega), wr_o (by omega), wr_o (by omega)]
        refine RR.of (fCC (fun r k d => by unfold dCC at d; rw [wr_at, if_neg (by omega), wr_at, if_neg (by omega), wr_at, if_neg (by omega), wr_at, if_neg (by omega), wr_at, if_neg (by omega), wr_at, if_neg (by omega)]) p.1) (fTx (fun r k d => by unfold dTx at d; rw [wr_at, if_neg (by omega), wr_at, if_neg (by omega), wr_at, if_neg (by omega), wr_at, if_neg (by omega), wr_at, if_neg (by omega), wr_at, if_neg (by omega)]) p.2.1) (fAc (fun r k d => by unfold dAc at d; rw [wr_at, if_neg (by omega), wr_at, if_neg (by omega), wr_at, if_neg (by omega), wr_at, if_neg (by omega), wr_at, if_neg (by omega), wr_at, if_neg (by omega)]) (c_B hR).2 p.2.2.1) (fTu (fun r k d => by unfold dTu at d; rw [wr_at, if_neg (by omega), wr_at, if_neg (by omega), wr_at, if_neg (by omega), wr_at, if_neg (by omega), wr_at, if_neg (by omega), wr_at, if_neg (by omega)]) p.2.2.2.1) ?_ (fIm (fun r k d => by unfold dIm at d; rw [wr_at, if_neg (by omega), wr_at, if_neg (by omega), wr_at, if_neg (by omega), wr_at, if_neg (by omega), wr_at, if_neg (by omega), wr_at, if_neg (by omega)]) p.2.2.2.2.2.1) (fMk (fun r k d => by unfold dMk at d; rw [wr_at, if_neg (by omega), wr_at, if_neg (by omega), wr_at, if_neg (by omega), wr_at, if_neg (by omega), wr_at, if_neg (by omega), wr_at, if_neg (by omega)]) p.2.2.2.2.2.2.1) (fTr (fun r k d => by unfold dTr at d; rw [wr_at, if_neg (by omega), wr_at, if_neg (by omega), wr_at, if_neg (by omega), wr_at, if_neg (by omega), wr_at, if_neg (by omega), wr_at, if_neg (by omega)]) p.2.2.2.2.2.2.2.1) ?_
        · generalize (wr (wr (wr (wr (wr (wr h 27 n i) 26 1 ((n : Int) + 1)) 1 11 0) 56 0 0) 61 (3 + (n : Int)) i) 61 0 ((n : Int) + 1)) = V at a61 a61n a610 a26 a26k a27 a11 m10 ⊢
          obtain ⟨⟨c1, c2, c3, c4⟩, w1, w2, w3, w4, w5, w6, w7⟩ := p.2.2.2.2.1
          have at3 : ∀ k : Int, 0 ≤ k → k < n → V 61 (0 + 3 + k) = h 61 (0 + 3 + k) := fun k x y => a61 _ (by omega) (by omega)
          refine ⟨⟨?_, ?_, ?_, fun p x y => ?_⟩, ?_, ?_, ?_, ?_, ?_, fun p x y => ?_, fun p q x y z => ?_⟩
          · rw [a26, a610]
          · rw [a26k 2 (by omega), a61 (0 + 1) (by omega) (by omega)]; exact c2
          · rw [a26k 3 (by omega), a61 (0 + 2) (by omega) (by omega)]; exact c3
          · rw [a610] at y
            rw [a27]
            by_cases z : p = (n : Int)
            · rw [if_pos z, z, a61n]
            · rw [if_neg z, at3 p x (by omega)]; exact c4 p x (by omega)
          · rw [a610]; omega
          · rw [a610, m10]; exact rm
          · rw [a61 (0 + 1) (by omega) (by omega)]; exact w3
          · rw [a610, a61 (0 + 1) (by omega) (by omega)]; rw [e0] at w4; omega
          · rw [a61 (0 + 2) (by omega) (by omega)]; exact w5
          · rw [a610] at y
            rw [m10]
            by_cases z : p = (n : Int)
            · rw [z, a61n]; exact c
            · rw [at3 p x (by omega)]; exact w6 p x (by omega)
          · rw [a610] at z
            by_cases u : q = (n : Int)
            · rw [u, a61n, at3 p x (by omega)]
              obtain ⟨j, rfl⟩ : ∃ j : Nat, p = (j : Int) := ⟨p.toNat, by omega⟩
              have bj := b j (by omega) (by omega)
              rw [← mBe j (by omega)] at bj
              rw [Int.zero_add]; exact bj
            · rw [at3 p x (by omega), at3 q (by omega) (by omega)]; exact w7 p q x y (by omega)
        · exact Or.inl a11
    · refine ⟨-2, h, wr h 56 0 0, ?_, ?_, hR.g0 Fr.rfl⟩
      · unfold F_X7_place
        refine (bd_of (isAct7_e hR)).trans ?_
        rw [if_pos c, if_pos (by omega)]
        refine (bd_of pf7).trans ?_
        rw [e2, if_pos (by omega)]
      · have pf8 := pof8_e (h := wr h 56 0 0) (i := i) (r := mB h) (by rw [g_56 (by omega)]; exact e0) e9 (fun p hp => by rw [g_56 (by omega)]; exact mBe p hp)
        unfold F_X8_place
        refine (nm_of rfl).trans ?_
        refine (bd_of (isAct8_g hR)).trans ?_
        rw [if_pos c, if_pos (by omega)]
        refine (bd_of pf8).trans ?_
        rw [e2, if_pos (by omega)]
  · refine ⟨-1, h, wr h 56 0 0, ?_, ?_, hR.g0 Fr.rfl⟩
    · unfold F_X7_place
      refine (bd_of (isAct7_e hR)).trans ?_
      rw [if_neg c, if_neg (by omega)]
    · unfold F_X8_place
      refine (nm_of rfl).trans ?_
      refine (bd_of (isAct8_g hR)).trans ?_
      rw [if_neg c, if_neg (by omega)]
