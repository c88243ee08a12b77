/-! the relation by its parts, each with the cells that it reads -/
def dCC (r k : Int) : Prop := (r = 1 ∧ (k = 1 ∨ k = 2)) ∨ (6 ≤ r ∧ r ≤ 25 ∧ k = 0) ∨ (r = 54 ∧ (k = 0 ∨ 4 ≤ k))
def dTx (r k : Int) : Prop := (r = 2 ∧ k = 1) ∨ r = 3 ∨ r = 57 ∨ (r = 56 ∧ k = 3)
def dAc (r k : Int) : Prop := (r = 1 ∧ k = 1) ∨ (4 ≤ r ∧ r ≤ 25 ∧ 1 ≤ k) ∨ (r = 58 ∧ k < 81) ∨ r = 60 ∨ (r = 56 ∧ k = 10)
def dTu (r _k : Int) : Prop := r = 34 ∨ r = 59
def dB (r k : Int) : Prop := (r = 26 ∧ 1 ≤ k ∧ k ≤ 3) ∨ r = 27 ∨ r = 61 ∨ (r = 56 ∧ k = 10)
def dIm (r k : Int) : Prop := (29 ≤ r ∧ r ≤ 32) ∨ r = 62 ∨ r = 63 ∨ (r = 56 ∧ k = 10)
def dMk (r k : Int) : Prop := (r = 51 ∧ k = 2) ∨ r = 52 ∨ r = 53 ∨ r = 71 ∨ r = 72 ∨ r = 73 ∨ (r = 56 ∧ (k = 33 ∨ k = 10))
def dTr (r k : Int) : Prop := (r = 1 ∧ k = 12) ∨ (r = 56 ∧ k = 1)
def dBs (r k : Int) : Prop := (r = 1 ∧ k = 11) ∨ r = 45 ∨ (r = 58 ∧ k < 81) ∨ r = 59 ∨ (r = 61 ∧ (k = 0 ∨ 3 ≤ k))
def Eqs (D : Int → Int → Prop) (h h' : Mem) : Prop := ∀ r k : Int, D r k → h' r k = h r k
def pTx (h : Mem) : Prop := CTx h h ∧ WTx h
def pAc (h : Mem) : Prop := CAc h h ∧ WAc h
def pTu (h : Mem) : Prop := CTu h h ∧ WTu h
def pB (h : Mem) : Prop := CB1 h h 26 61 0 ∧ WB h 61 0
def pIm (h : Mem) : Prop := CIm h h ∧ WIm h
def pMk (h : Mem) : Prop := CMk h h ∧ WMk h
def pTr (h : Mem) : Prop := h 1 12 = h 56 1 ∧ in64 (h 56 1)
theorem RR.ps {h : Mem} (r : RR h) : CCs h ∧ pTx h ∧ pAc h ∧ pTu h ∧ pB h ∧ pIm h ∧ pMk h ∧ pTr h ∧ CBs h := by
  obtain ⟨r1, r2, r3, r4, r5, r6, r7, ⟨w1, w2, w3, w4, w5, w6, w7⟩, r9, r10⟩ := r
  exact ⟨r1, ⟨r2, w1⟩, ⟨r3, w2⟩, ⟨r4, w3⟩, ⟨r5, w4⟩, ⟨r6, w5⟩, ⟨r7, w6⟩, ⟨r9, w7⟩, r10⟩
theorem RR.of {h : Mem} (r1 : CCs h) (r2 : pTx h) (r3 : pAc h) (r4 : pTu h) (r5 : pB h) (r6 : pIm h) (r7 : pMk h) (r8 : pTr h) (r9 : CBs h) : RR h :=
  ⟨r1, r2.1, r3.1, r4.1, r5.1, r6.1, r7.1, ⟨r2.2, r3.2, r4.2, r5.2, r6.2, r7.2, r8.2⟩, r8.1, r9⟩
section Frs
variable {h h' : Mem}
theorem fCC (e : Eqs dCC h h') (r : CCs h) : CCs h' := by
  refine ⟨by rw [e 1 1 (by unfold dCC; omega), e 1 2 (by unfold dCC; omega)]; exact r.1, fun i a b => ?_, by rw [e 54 0 (by unfold dCC; omega)]; exact r.2.2.1, fun k a b => by rw [e 54 k (by unfold dCC; omega)]; exact r.2.2.2 k a b⟩
  rw [e (6 + i) 0 (by unfold dCC; omega), e (17 + i) 0 (by unfold dCC; omega)]; exact r.2.1 i a b
theorem fTx (e : Eqs dTx h h') (r : pTx h) : pTx h' := by
  have e3 : h' 3 = h 3 := funext (fun k => e 3 k (by unfold dTx; omega))
  have e57 : h' 57 = h 57 := funext (fun k => e 57 k (by unfold dTx; omega))
  have m3 := e 56 3 (by unfold dTx; omega)
  have t1 := e 2 1 (by unfold dTx; omega)
  simp only [pTx, CTx, WTx] at r ⊢
  simp only [t1, m3, e3, e57]; exact r
theorem fAc (e : Eqs dAc h h') (hc : h 1 1 = 4 ∨ h 1 1 = 15) (r : pAc h) : pAc h' := by
  have e60 : h' 60 = h 60 := funext (fun k => e 60 k (by unfold dAc; omega))
  have m10 := e 56 10 (by unfold dAc; omega)
  have c1 := e 1 1 (by unfold dAc; omega)
  have e58 : ∀ k : Int, k < 81 → h' 58 k = h 58 k := fun k l => e 58 k (by unfold dAc; omega)
  have ea : ∀ r k : Int, 4 ≤ r → r ≤ 25 → 1 ≤ k → h' r k = h r k := fun r k a b c => e r k (by unfold dAc; omega)
  obtain ⟨⟨r1, r2⟩, w1, w2, w3⟩ := r
  refine ⟨⟨by rw [c1, m10, ea _ 1 (by omega) (by omega) (by omega)]; exact r1, fun i a b => ?_⟩, by rw [m10]; exact w1, by rw [m10]; exact w2, fun i a b => ?_⟩
  · rw [m10] at b
    have x := r2 i a b
    unfold CAct at x ⊢
    rw [c1, e60, ea _ 1 (by omega) (by omega) (by omega), ea _ 2 (by omega) (by omega) (by omega), ea _ 3 (by omega) (by omega) (by omega), ea _ 4 (by omega) (by omega) (by omega), ea _ 5 (by omega) (by omega) (by omega), ea _ 6 (by omega) (by omega) (by omega), ea _ 7 (by omega) (by omega) (by omega), ea _ 8 (by omega) (by omega) (by omega), ea _ 9 (by omega) (by omega) (by omega), ea _ 10 (by omega) (by omega) (by omega),
      e58 (9 * i) (by omega), e58 (9 * i + 1) (by omega), e58 (9 * i + 2) (by omega), e58 (9 * i + 3) (by omega), e58 (9 * i + 4) (by omega), e58 (9 * i + 5) (by omega), e58 (9 * i + 6) (by omega), e58 (9 * i + 7) (by omega), e58 (9 * i + 8) (by omega)]
    exact x
  · rw [m10] at b
    have x := w3 i a b
    unfold WAct at x ⊢
    rw [e60, e58 (9 * i) (by omega), e58 (9 * i + 1) (by omega), e58 (9 * i + 2) (by omega), e58 (9 * i + 3) (by omega), e58 (9 * i + 4) (by omega), e58 (9 * i + 5) (by omega), e58 (9 * i + 6) (by omega), e58 (9 * i + 7) (by omega), e58 (9 * i + 8) (by omega)]
    exact x
theorem fTu (e : Eqs dTu h h') (r : pTu h) : pTu h' := by
  have e34 : h' 34 = h 34 := funext (fun k => e 34 k (by unfold dTu; omega))
  have e59 : h' 59 = h 59 := funext (fun k => e 59 k (by unfold dTu; omega))
  simp only [pTu, CTu, WTu] at r ⊢
  simp only [e34, e59]; exact r
theorem fB (e : Eqs dB h h') (r : pB h) : pB h' := by
  have e27 : h' 27 = h 27 := funext (fun k => e 27 k (by unfold dB; omega))
  have e61 : h' 61 = h 61 := funext (fun k => e 61 k (by unfold dB; omega))
  have b1 := e 26 1 (by unfold dB; omega)
  have b2 := e 26 2 (by unfold dB; omega)
  have b3 := e 26 3 (by unfold dB; omega)
  have m10 := e 56 10 (by unfold dB; omega)
  have z : (26 : Int) + 1 = 27 := rfl
  simp only [pB, CB1, WB, z] at r ⊢
  simp only [b1, b2, b3, e27, e61, m10]; exact r
theorem fIm (e : Eqs dIm h h') (r : pIm h) : pIm h' := by
  have e62 : h' 62 = h 62 := funext (fun k => e 62 k (by unfold dIm; omega))
  have e63 : h' 63 = h 63 := funext (fun k => e 63 k (by unfold dIm; omega))
  have m10 := e 56 10 (by unfold dIm; omega)
  have ca : ∀ r : Int, 29 ≤ r → r ≤ 32 → h' r = h r := fun r a b => funext (fun k => e r k (by unfold dIm; omega))
  refine ⟨fun k a b => ?_, ?_⟩
  · have x := r.1 k a b
    unfold CB1 at x ⊢
    rw [e62, e63, ca (29 + 2 * k) (by omega) (by omega), ca (29 + 2 * k + 1) (by omega) (by omega)]; exact x
  · have w := r.2
    simp only [WIm, WB] at w ⊢
    simp only [m10, e62, e63]; exact w
theorem fMk (e : Eqs dMk h h') (r : pMk h) : pMk h' := by
  have e52 : h' 52 = h 52 := funext (fun k => e 52 k (by unfold dMk; omega))
  have e53 : h' 53 = h 53 := funext (fun k => e 53 k (by unfold dMk; omega))
  have e71 : h' 71 = h 71 := funext (fun k => e 71 k (by unfold dMk; omega))
  have e72 : h' 72 = h 72 := funext (fun k => e 72 k (by unfold dMk; omega))
  have e73 : h' 73 = h 73 := funext (fun k => e 73 k (by unfold dMk; omega))
  have k2 := e 51 2 (by unfold dMk; omega)
  have m33 := e 56 33 (by unfold dMk; omega)
  have m10 := e 56 10 (by unfold dMk; omega)
  refine ⟨⟨by rw [k2, m33]; exact r.1.1, fun i p a b a' b' => ?_⟩, ?_⟩
  · rw [e52, e53, m33, (mk_fr e71 e72 e73 _).1, (mk_fr e71 e72 e73 _).2]; exact r.1.2 i p a b a' b'
  · have w := r.2
    simp only [WMk] at w ⊢
    simp only [m10, m33, e71, e72, e73]; exact w
theorem fTr (e : Eqs dTr h h') (r : pTr h) : pTr h' := by
  unfold pTr at r ⊢
  rw [e 1 12 (by unfold dTr; omega), e 56 1 (by unfold dTr; omega)]; exact r
theorem fBs (e : Eqs dBs h h') (r : CBs h) : CBs h' := by
  have e45 : h' 45 = h 45 := funext (fun k => e 45 k (by unfold dBs; omega))
  have e59 : h' 59 = h 59 := funext (fun k => e 59 k (by unfold dBs; omega))
  have e61 : ∀ k : Int, (k = 0 ∨ 3 ≤ k) → h' 61 k = h 61 k := fun k n => e 61 k (by unfold dBs; omega)
  have k11 := e 1 11 (by unfold dBs; omega)
  have a58 : A58 h' = A58 h := by
    funext k
    unfold A58
    by_cases c : k < 81
    · rw [if_pos c, if_pos c]; exact e 58 k (by unfold dBs; omega)
    · rw [if_neg c, if_neg c]
  have ro : rowL h' 61 0 = rowL h 61 0 := by
    unfold rowL
    rw [e61 0 (by omega)]
    refine List.map_congr_left (fun p _ => e61 _ (by omega))
  unfold CBs at r ⊢
  rw [a58, ro, k11, e45, e59]; exact r
end Frs
