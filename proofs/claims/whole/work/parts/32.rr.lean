/-! the relation as a whole, and its frame -/
def A58 (V : Mem) : Int → Int := fun k => if k < 81 then V 58 k else 0
/-- orders and breaks that can be staged, counted -/
def bFl (A T : Int → Int) (l : List Int) (b : Int) : Int := (sFl (fun p k => A (9 * l.getD p 0 + k)) (mL l) T b l.length 0 l.length).1
def bVa (A T : Int → Int) (l : List Int) (b : Int) : Int := sVa (fun p k => A (9 * l.getD p 0 + k)) T b (fun _ => 0) l.length
def bCn (A T : Int → Int) (L : List (List Int)) (b : Int) : Int := ((L.countP (fun l => bFl A T l b == 0) : Nat) : Int)
def bAll (A T : Int → Int) (L : List (List Int)) : Nat → Int
  | 0 => 0
  | b + 1 => bAll A T L b + bCn A T L b
/-- the best of all: f of them, and the one of the greatest worth, the least figures, the least break -/
def BestOf (A T : Int → Int) (S : List Int) (f t o b : Int) : Prop :=
  f = bAll A T (perms S.length S) S.length ∧ (¬ f = 0 → (∃ l, l ∈ perms S.length S ∧ figs l = o ∧ 0 ≤ b ∧ b < S.length ∧ bFl A T l b = 0 ∧ bVa A T l b = t) ∧
    ∀ l, l ∈ perms S.length S → ∀ c : Int, 0 ≤ c → c < S.length → bFl A T l c = 0 → bVa A T l c < t ∨ (bVa A T l c = t ∧ (o < figs l ∨ (o = figs l ∧ b ≤ c))))
def CBs (h : Mem) : Prop := h 1 11 = 0 ∨ (h 1 11 = 1 ∧ BestOf (A58 h) (h 59) (srtI (rowL h 61 0)) (h 45 3) (h 45 5) (h 45 6) (h 45 7))
def RR (h : Mem) : Prop := CCs h ∧ CTx h h ∧ CAc h h ∧ CTu h h ∧ CB1 h h 26 61 0 ∧ CIm h h ∧ CMk h h ∧ WF h ∧ h 1 12 = h 56 1 ∧ CBs h
def rsc (r k : Int) : Prop := r = 33 ∨ (35 ≤ r ∧ r ≤ 44) ∨ (46 ≤ r ∧ r ≤ 50) ∨ r = 55 ∨ (r = 54 ∧ 1 ≤ k ∧ k ≤ 3) ∨ (r = 2 ∧ 2 ≤ k) ∨ (r = 51 ∧ 3 ≤ k) ∨ (r = 56 ∧ (k = 0 ∨ (4 ≤ k ∧ k ≤ 8) ∨ (18 ≤ k ∧ k ≤ 29) ∨ (34 ≤ k ∧ k ≤ 38))) ∨ (64 ≤ r ∧ r ≤ 70) ∨ r = 74 ∨ r = 75
theorem mk_fr {V W : Mem} (h71 : W 71 = V 71) (h72 : W 72 = V 72) (h73 : W 73 = V 73) {i p : Int} : ∀ n : Nat, mkC W i p n = mkC V i p n ∧ mkS W i p n = mkS V i p n
  | 0 => ⟨rfl, rfl⟩
  | n + 1 => by
    have ih := mk_fr h71 h72 h73 (i := i) (p := p) n
    simp only [mkC, mkS, ih.1, ih.2, h71, h72, h73, and_self]
theorem RR.fr {h h' : Mem} (hR : RR h) (hF : Fr rsc h h') : RR h' := by
  have c : ∀ r : Int, (∀ k, ¬ rsc r k) → h' r = h r := fun r hn => funext (fun k => hF r k (hn k))
  have e1 := c 1 (fun k => by unfold rsc; omega)
  have e3 := c 3 (fun k => by unfold rsc; omega)
  have e26 := c 26 (fun k => by unfold rsc; omega)
  have e27 := c 27 (fun k => by unfold rsc; omega)
  have e34 := c 34 (fun k => by unfold rsc; omega)
  have e45 := c 45 (fun k => by unfold rsc; omega)
  have e52 := c 52 (fun k => by unfold rsc; omega)
  have e53 := c 53 (fun k => by unfold rsc; omega)
  have e57 := c 57 (fun k => by unfold rsc; omega)
  have e58 := c 58 (fun k => by unfold rsc; omega)
  have e59 := c 59 (fun k => by unfold rsc; omega)
  have e60 := c 60 (fun k => by unfold rsc; omega)
  have e61 := c 61 (fun k => by unfold rsc; omega)
  have e62 := c 62 (fun k => by unfold rsc; omega)
  have e63 := c 63 (fun k => by unfold rsc; omega)
  have e71 := c 71 (fun k => by unfold rsc; omega)
  have e72 := c 72 (fun k => by unfold rsc; omega)
  have e73 := c 73 (fun k => by unfold rsc; omega)
  have m1 := hF 56 1 (by unfold rsc; omega)
  have m3 := hF 56 3 (by unfold rsc; omega)
  have m10 := hF 56 10 (by unfold rsc; omega)
  have m33 := hF 56 33 (by unfold rsc; omega)
  have t1 := hF 2 1 (by unfold rsc; omega)
  have k2 := hF 51 2 (by unfold rsc; omega)
  obtain ⟨r1, r2, r3, r4, r5, r6, r7, r8, r9, r10⟩ := hR
  have ca : ∀ r : Int, 3 ≤ r → r ≤ 32 → h' r = h r := fun r a b => c r (fun k => by unfold rsc; omega)
  have w10 := r8.2.1
  refine ⟨?_, ?_, ?_, ?_, ?_, ?_, ?_, ?_, ?_, ?_⟩
  · refine ⟨by rw [e1]; exact r1.1, fun i a b => ?_, by rw [hF 54 0 (by unfold rsc; omega)]; exact r1.2.2.1, fun k a b => by rw [hF 54 k (by unfold rsc; omega)]; exact r1.2.2.2 k a b⟩
    rw [ca (6 + i) (by omega) (by omega), ca (17 + i) (by omega) (by omega)]; exact r1.2.1 i a b
  · unfold CTx at r2 ⊢; rw [t1, m3, e3, e57]; exact r2
  · have hc : h 1 1 = 4 ∨ h 1 1 = 15 := by have := r1.1; omega
    refine ⟨by rw [e1, m10, ca (h 1 1) (by omega) (by omega)]; exact r3.1, fun i a b => ?_⟩
    rw [m10] at b
    have l9 := w10.2.1
    have x := r3.2 i a b
    unfold CAct at x ⊢
    rw [e1, e58, e60, ca (h 1 1 + 2 + i) (by omega) (by omega)]; exact x
  · unfold CTu at r4 ⊢; rw [e34, e59]; exact r4
  · unfold CB1 at r5 ⊢; rw [show (26 : Int) + 1 = 27 from rfl, e26, e27, e61]; exact r5
  · intro k a b
    have x := r6 k a b
    unfold CB1 at x ⊢
    rw [e62, e63, ca (29 + 2 * k) (by omega) (by omega), ca (29 + 2 * k + 1) (by omega) (by omega)]; exact x
  · refine ⟨by rw [k2, m33]; exact r7.1, fun i p a b a' b' => ?_⟩
    rw [e52, e53, m33, (mk_fr e71 e72 e73 _).1, (mk_fr e71 e72 e73 _).2]; exact r7.2 i p a b a' b'
  · simp only [WF, WTx, WAc, WAct, WTu, WB, WIm, WMk] at r8 ⊢
    simp only [m1, m3, m10, m33, e57, e58, e59, e60, e61, e62, e63, e71, e72, e73]; exact r8
  · rw [e1, m1]; exact r9
  · have a58 : A58 h' = A58 h := by funext k; unfold A58; rw [e58]
    have ro : rowL h' 61 0 = rowL h 61 0 := by unfold rowL; rw [e61]
    unfold CBs at r10 ⊢
    rw [a58, ro, e1, e45, e59]; exact r10
