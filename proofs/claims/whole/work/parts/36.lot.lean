/-! the frame that lets the lot change -/
def dlc (r k : Int) : Prop := rsc r k ∨ (r = 26 ∧ k = 3) ∨ (r = 61 ∧ k = 2)
theorem RR.fr3 {h h' : Mem} (hR : RR h) (hF : Fr dlc h h') (hl : h' 26 3 = h' 61 2) (hi : in32 (h' 61 2)) : RR h' := by
  have c : ∀ r : Int, (∀ k, ¬ dlc r k) → h' r = h r := fun r hn => funext (fun k => hF r k (hn k))
  have e1 := c 1 (fun k => by unfold dlc rsc; omega)
  have e3 := c 3 (fun k => by unfold dlc rsc; omega)
  have e26 : ∀ k, ¬ k = 3 → h' 26 k = h 26 k := fun k n => hF 26 k (by unfold dlc rsc; omega)
  have e27 := c 27 (fun k => by unfold dlc rsc; omega)
  have e34 := c 34 (fun k => by unfold dlc rsc; omega)
  have e45 := c 45 (fun k => by unfold dlc rsc; omega)
  have e52 := c 52 (fun k => by unfold dlc rsc; omega)
  have e53 := c 53 (fun k => by unfold dlc rsc; omega)
  have e57 := c 57 (fun k => by unfold dlc rsc; omega)
  have e58 := c 58 (fun k => by unfold dlc rsc; omega)
  have e59 := c 59 (fun k => by unfold dlc rsc; omega)
  have e60 := c 60 (fun k => by unfold dlc rsc; omega)
  have e61 : ∀ k, ¬ k = 2 → h' 61 k = h 61 k := fun k n => hF 61 k (by unfold dlc rsc; omega)
  have e62 := c 62 (fun k => by unfold dlc rsc; omega)
  have e63 := c 63 (fun k => by unfold dlc rsc; omega)
  have e71 := c 71 (fun k => by unfold dlc rsc; omega)
  have e72 := c 72 (fun k => by unfold dlc rsc; omega)
  have e73 := c 73 (fun k => by unfold dlc rsc; omega)
  have m1 := hF 56 1 (by unfold dlc rsc; omega)
  have m3 := hF 56 3 (by unfold dlc rsc; omega)
  have m10 := hF 56 10 (by unfold dlc rsc; omega)
  have m33 := hF 56 33 (by unfold dlc rsc; omega)
  have t1 := hF 2 1 (by unfold dlc rsc; omega)
  have k2 := hF 51 2 (by unfold dlc rsc; omega)
  obtain ⟨r1, r2, r3, r4, r5, r6, r7, r8, r9, r10⟩ := hR
  have ca : ∀ r : Int, 3 ≤ r → r ≤ 32 → ¬ r = 26 → h' r = h r := fun r a b n => c r (fun k => by unfold dlc rsc; omega)
  have w10 := r8.2.1
  refine ⟨?_, ?_, ?_, ?_, ?_, ?_, ?_, ?_, ?_, ?_⟩
  · refine ⟨by rw [e1]; exact r1.1, fun i a b => ?_, by rw [hF 54 0 (by unfold dlc rsc; omega)]; exact r1.2.2.1, fun k a b => by rw [hF 54 k (by unfold dlc rsc; omega)]; exact r1.2.2.2 k a b⟩
    rw [ca (6 + i) (by omega) (by omega) (by omega), ca (17 + i) (by omega) (by omega) (by omega)]; exact r1.2.1 i a b
  · unfold CTx at r2 ⊢; rw [t1, m3, e3, e57]; exact r2
  · have hc : h 1 1 = 4 ∨ h 1 1 = 15 := by have := r1.1; omega
    refine ⟨by rw [e1, m10, ca (h 1 1) (by omega) (by omega) (by omega)]; exact r3.1, fun i a b => ?_⟩
    rw [m10] at b
    have l9 := w10.2.1
    have x := r3.2 i a b
    unfold CAct at x ⊢
    rw [e1, e58, e60, ca (h 1 1 + 2 + i) (by omega) (by omega) (by omega)]; exact x
  · unfold CTu at r4 ⊢; rw [e34, e59]; exact r4
  · refine ⟨by rw [e26 1 (by omega), e61 0 (by omega)]; exact r5.1, by rw [e26 2 (by omega), e61 (0 + 1) (by omega)]; exact r5.2.1, hl, fun p a b => ?_⟩
    rw [e61 0 (by omega)] at b
    rw [show (26 : Int) + 1 = 27 from rfl, e27, e61 (0 + 3 + p) (by omega)]; exact r5.2.2.2 p a b
  · intro k a b
    have x := r6 k a b
    unfold CB1 at x ⊢
    rw [e62, e63, ca (29 + 2 * k) (by omega) (by omega) (by omega), ca (29 + 2 * k + 1) (by omega) (by omega) (by omega)]; exact x
  · refine ⟨by rw [k2, m33]; exact r7.1, fun i p a b a' b' => ?_⟩
    rw [e52, e53, m33, (mk_fr e71 e72 e73 _).1, (mk_fr e71 e72 e73 _).2]; exact r7.2 i p a b a' b'
  · obtain ⟨w1, w2, w3, w4, w5, w6, w7⟩ := r8
    refine ⟨?_, ?_, ?_, ?_, ?_, ?_, ?_⟩
    · simp only [WTx] at w1 ⊢
      simp only [m3, e57]; exact w1
    · simp only [WAc, WAct] at w2 ⊢
      simp only [m10, e58, e60]; exact w2
    · simp only [WTu] at w3 ⊢
      simp only [e59]; exact w3
    · obtain ⟨a1, a2, a3, a4, a5, a6, a7⟩ := w4
      refine ⟨?_, ?_, ?_, ?_, hi, fun p x y => ?_, fun p q x y z => ?_⟩
      · rw [e61 0 (by omega)]; exact a1
      · rw [e61 0 (by omega), m10]; exact a2
      · rw [e61 (0 + 1) (by omega)]; exact a3
      · rw [e61 0 (by omega), e61 (0 + 1) (by omega)]; exact a4
      · rw [e61 0 (by omega)] at y
        rw [e61 (0 + 3 + p) (by omega), m10]; exact a6 p x y
      · rw [e61 0 (by omega)] at z
        rw [e61 (0 + 3 + p) (by omega), e61 (0 + 3 + q) (by omega)]; exact a7 p q x y z
    · simp only [WIm, WB] at w5 ⊢
      simp only [m10, e62, e63]; exact w5
    · simp only [WMk] at w6 ⊢
      simp only [m10, m33, e71, e72, e73]; exact w6
    · rw [m1]; exact w7
  · rw [e1, m1]; exact r9
  · have a58 : A58 h' = A58 h := by funext k; unfold A58; rw [e58]
    have ro : rowL h' 61 0 = rowL h 61 0 := by
      unfold rowL
      rw [e61 0 (by omega)]
      refine List.map_congr_left (fun p _ => e61 _ (by omega))
    unfold CBs at r10 ⊢
    rw [a58, ro, e1, e45, e59]; exact r10
