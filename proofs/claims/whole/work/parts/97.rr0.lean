/-! the first state stands in the relation -/
theorem wrs_no {r : Int} : ∀ (l : List (Int × Int × Int)) (h : Mem), (∀ w ∈ l, w.1 ≠ r) → wrs h l r = h r
  | [], _, _ => rfl
  | w :: l, h, hl => by
    have e : wrs h (w :: l) = wrs (wr h w.1 w.2.1 w.2.2) l := rfl
    rw [e, wrs_no l _ (fun w' hw => hl w' (List.mem_cons_of_mem _ hw)), wr_ne (fun q => hl w List.mem_cons_self q.symm)]
theorem h0_no {r : Int} (h1 : ∀ w ∈ LM1, w.1 ≠ r) (h2 : ∀ w ∈ LM2, w.1 ≠ r) (k : Int) : h0 r k = 0 := by
  unfold h0
  rw [wrs_no LM2 _ h2, wrs_no LM1 _ h1]; rfl
theorem h0_52 (k : Int) : h0 52 k = 0 := h0_no (by decide) (by decide) k
theorem h0_53 (k : Int) : h0 53 k = 0 := h0_no (by decide) (by decide) k
theorem h0_a : h0 1 1 = 4 ∧ h0 1 2 = 15 ∧ h0 54 0 = 9 ∧ h0 2 1 = 0 ∧ h0 56 3 = 0 ∧ h0 56 10 = 0 ∧ h0 4 1 = 0 ∧ h0 26 1 = 0 ∧ h0 26 2 = 0 ∧ h0 26 3 = 1 ∧ h0 61 0 = 0 ∧ h0 61 1 = 0 ∧ h0 61 2 = 1 := by decide +kernel
theorem h0_b : h0 51 2 = 0 ∧ h0 56 33 = 0 ∧ h0 1 12 = 0 ∧ h0 56 1 = 0 ∧ h0 1 11 = 0 ∧ h0 63 0 = 0 ∧ h0 63 1 = 0 ∧ h0 29 4 = 0 ∧ h0 31 4 = 0 := by decide +kernel
theorem h0_c : (h0 54 4 = 0 ∧ h0 54 5 = 0 ∧ h0 54 6 = 0 ∧ h0 54 7 = 0 ∧ h0 54 8 = 0 ∧ h0 54 9 = 0 ∧ h0 54 10 = 0) := by decide +kernel
theorem h0_d : h0 6 0 = 0 ∧ h0 7 0 = 1 ∧ h0 8 0 = 2 ∧ h0 9 0 = 3 ∧ h0 10 0 = 4 ∧ h0 11 0 = 5 ∧ h0 12 0 = 6 ∧ h0 13 0 = 7 ∧ h0 14 0 = 8 := by decide +kernel
theorem h0_e : h0 17 0 = 0 ∧ h0 18 0 = 1 ∧ h0 19 0 = 2 ∧ h0 20 0 = 3 ∧ h0 21 0 = 4 ∧ h0 22 0 = 5 ∧ h0 23 0 = 6 ∧ h0 24 0 = 7 ∧ h0 25 0 = 8 := by decide +kernel
theorem h0_f : h0 34 0 = 2 ∧ h0 34 1 = 180 ∧ h0 34 2 = 10 ∧ h0 34 3 = 2 ∧ h0 34 4 = 5 ∧ h0 34 5 = 1 ∧ h0 34 6 = 20 ∧ h0 34 7 = 400 := by decide +kernel
theorem h0_g : h0 59 0 = 2 ∧ h0 59 1 = 180 ∧ h0 59 2 = 10 ∧ h0 59 3 = 2 ∧ h0 59 4 = 5 ∧ h0 59 5 = 1 ∧ h0 59 6 = 20 ∧ h0 59 7 = 400 := by decide +kernel
theorem RR_h0 : RR h0 := by
  obtain ⟨a1, a2, a3, a4, a5, a6, a7, a8, a9, a10, a11, a12, a13⟩ := h0_a
  obtain ⟨b1, b2, b3, b4, b5, b6, b7, b8, b9⟩ := h0_b
  obtain ⟨c1, c2, c3, c4, c5, c6, c7⟩ := h0_c
  obtain ⟨d1, d2, d3, d4, d5, d6, d7, d8, d9⟩ := h0_d
  obtain ⟨e1, e2, e3, e4, e5, e6, e7, e8, e9⟩ := h0_e
  obtain ⟨f1, f2, f3, f4, f5, f6, f7, f8⟩ := h0_f
  obtain ⟨g1, g2, g3, g4, g5, g6, g7, g8⟩ := h0_g
  refine ⟨?_, ?_, ?_, ?_, ?_, ?_, ?_, ?_, by rw [b3, b4], Or.inl b5⟩
  · refine ⟨Or.inl ⟨a1, a2⟩, fun i i0 i9 => ?_, a3, fun k k4 k11 => ?_⟩
    · rcases (show i = 0 ∨ i = 1 ∨ i = 2 ∨ i = 3 ∨ i = 4 ∨ i = 5 ∨ i = 6 ∨ i = 7 ∨ i = 8 by omega) with rfl | rfl | rfl | rfl | rfl | rfl | rfl | rfl | rfl
      · exact ⟨d1, e1⟩
      · exact ⟨d2, e2⟩
      · exact ⟨d3, e3⟩
      · exact ⟨d4, e4⟩
      · exact ⟨d5, e5⟩
      · exact ⟨d6, e6⟩
      · exact ⟨d7, e7⟩
      · exact ⟨d8, e8⟩
      · exact ⟨d9, e9⟩
    · rcases (show k = 4 ∨ k = 5 ∨ k = 6 ∨ k = 7 ∨ k = 8 ∨ k = 9 ∨ k = 10 by omega) with rfl | rfl | rfl | rfl | rfl | rfl | rfl
      · exact c1
      · exact c2
      · exact c3
      · exact c4
      · exact c5
      · exact c6
      · exact c7
  · exact ⟨by rw [a4, a5], fun k k0 k1 => by rw [a5] at k1; omega⟩
  · exact ⟨by rw [a1, a7, a6], fun k k0 k1 => by rw [a6] at k1; omega⟩
  · intro k k0 k8
    rcases (show k = 0 ∨ k = 1 ∨ k = 2 ∨ k = 3 ∨ k = 4 ∨ k = 5 ∨ k = 6 ∨ k = 7 by omega) with rfl | rfl | rfl | rfl | rfl | rfl | rfl | rfl
    · rw [f1, g1]
    · rw [f2, g2]
    · rw [f3, g3]
    · rw [f4, g4]
    · rw [f5, g5]
    · rw [f6, g6]
    · rw [f7, g7]
    · rw [f8, g8]
  · exact ⟨by rw [a8, a11], by rw [a9]; exact a12.symm, by rw [a10]; exact a13.symm, fun k k0 k1 => by rw [a11] at k1; omega⟩
  · intro k k0 k2
    rcases (show k = 0 ∨ k = 1 by omega) with rfl | rfl
    · exact ⟨b8.trans b6.symm, fun q => by rw [b6] at q; cases q⟩
    · exact ⟨b9.trans b7.symm, fun q => by rw [b7] at q; cases q⟩
  · refine ⟨by rw [b1, b2], fun i p _ _ _ _ => ?_⟩
    rw [b2, h0_52, h0_53]
    exact ⟨rfl, rfl⟩
  · refine ⟨⟨by omega, by omega, fun k k0 k1 => by omega⟩, ⟨by omega, by omega, fun k k0 k1 => by omega⟩, ?_, ?_, ?_, ⟨by omega, by omega, fun k k0 k1 => by omega⟩, by rw [b4]; exact in64_0⟩
    · unfold WTu
      rw [g1, g2, g3, g4, g5, g6, g7, g8]
      omega
    · refine ⟨by omega, by omega, ?_, ?_, ?_, fun p p0 p1 => by omega, fun p q p0 pq q1 => by omega⟩
      · show 0 ≤ h0 61 1; omega
      · exact Or.inr a12
      · show in32 (h0 61 2); rw [a13]; exact ⟨by omega, by omega⟩
    · intro k k0 k2
      rcases (show k = 0 ∨ k = 1 by omega) with rfl | rfl
      · exact ⟨Or.inl b6, fun q => by rw [b6] at q; cases q⟩
      · exact ⟨Or.inl b7, fun q => by rw [b7] at q; cases q⟩
