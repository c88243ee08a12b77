/-! the class's nights: play, with a guest, drawn -/
def scr (r _k : Int) : Prop := r = 33 ∨ (35 ≤ r ∧ r ≤ 44)
def Fr (P : Int → Int → Prop) (h0 h : Mem) : Prop := ∀ r k : Int, ¬ P r k → h r k = h0 r k
theorem Fr.rfl {P : Int → Int → Prop} {h : Mem} : Fr P h h := fun _ _ _ => Eq.refl _
theorem Fr.trans {P : Int → Int → Prop} {a b c : Mem} (h1 : Fr P a b) (h2 : Fr P b c) : Fr P a c := fun r k n => (h2 r k n).trans (h1 r k n)
theorem Fr.mono {P Q : Int → Int → Prop} {a b : Mem} (h1 : Fr P a b) (hPQ : ∀ r k, P r k → Q r k) : Fr Q a b := fun r k n => h1 r k (fun z => n (hPQ r k z))
/-- what may change in a night: scratch, and what else is named; never acts or tunes -/
def okP (P : Int → Int → Prop) : Prop := (∀ r k, scr r k → P r k) ∧ (∀ k, ¬ P 34 k) ∧ (∀ one k, okO 0 one = true → ¬ P one k)
theorem okP_scr : okP scr := by
  refine ⟨fun _ _ h => h, fun k h => ?_, fun one k ho h => ?_⟩
  · unfold scr at h; omega
  · have := ok0_ne ho
    unfold scr at h; omega
def ShI (P : Int → Int → Prop) (h0 h : Mem) (q : Nat → Int → Int) (R : Nat → Int) (T : Int → Int) (b N : Int) (u : Nat → Int) (p : Nat) : Prop :=
  Fr P h0 h ∧ h 33 12 = b ∧ h 33 11 = N ∧ (∀ j, j < p → ShP h q R T b j ∧ ShA h q T b u j) ∧ h 33 13 = (sHs q T b u p).2.2.2
def ShM (P : Int → Int → Prop) (h0 h : Mem) (q : Nat → Int → Int) (R : Nat → Int) (T : Int → Int) (b N : Int) (u : Nat → Int) (p : Nat) : Prop :=
  ShI P h0 h q R T b N u p ∧ ShP h q R T b p
section Play
variable {P : Int → Int → Prop} {h0 h : Mem} {q : Nat → Int → Int} {R : Nat → Int} {T : Int → Int} {b N : Int} {u : Nat → Int} {p : Nat}
theorem seatI (hP : okP P) (hI : ShI P h0 h q R T b N u p) (hp : p < 10) (hTu : ∀ k : Int, 0 ≤ k → k < 8 → h0 34 k = T k) (hq : WQ q (p + 1)) (hT : WT T) (ho : okO 0 (R p) = true) (ha : AQ h0 (R p) (q p)) :
    ∃ h1, F_X6_seat (p : Int) (R p) h = some (0, h1) ∧ ShM P h0 h1 q R T b N u p ∧ ∀ r k : Int, (r < 35 ∨ 39 < r ∨ ¬ k = (p : Int)) → h1 r k = h r k := by
  obtain ⟨i1, i2, i3, i4, i5⟩ := hI
  have hf : ∀ k, h (R p) k = h0 (R p) k := fun k => i1 _ _ (hP.2.2 _ k ho)
  have ha' : AQ h (R p) (q p) := by unfold AQ; simp only [hf]; exact ha
  obtain ⟨h1, e1, s1, f1⟩ := seat_st hp (fun j hj => ⟨(i4 j hj).1.2.2.2.1, (i4 j hj).1.2.2.2.2⟩) ((i1 34 2 (hP.2.1 2)).trans (hTu 2 (by omega) (by omega))) i2 hq hT ho ha'
  have fj : ∀ (c : Int) (j : Nat), j < p → h1 c j = h c j := fun c j hj => f1 c j (Or.inr (Or.inr (by omega)))
  refine ⟨h1, e1, ⟨⟨fun r k n => ?_, ?_, ?_, fun j hj => ?_, ?_⟩, s1⟩, f1⟩
  · by_cases hr : r < 35 ∨ 39 < r ∨ ¬ k = (p : Int)
    · rw [f1 r k hr]; exact i1 r k n
    · exact absurd (hP.1 r k (Or.inr (by omega))) n
  · rw [f1 33 12 (Or.inl (by omega))]; exact i2
  · rw [f1 33 11 (Or.inl (by omega))]; exact i3
  · unfold ShP ShA
    simp only [fj _ j hj]
    exact i4 j hj
  · rw [f1 33 13 (Or.inl (by omega))]; exact i5
theorem appI (hP : okP P) (hM : ShM P h0 h q R T b N u p) (hp : p < 10) (hTu : ∀ k : Int, 0 ≤ k → k < 8 → h0 34 k = T k) (hq : WQ q (p + 1)) (hT : WT T) (hu : ∀ j, -2 ≤ u j ∧ u j ≤ 2) (ho : ∀ j, j ≤ p → okO 0 (R j) = true) (ha : ∀ j, j ≤ p → AQ h0 (R j) (q j)) :
    ∃ h1, F_X6_applaud (p : Int) (u p) h = some (0, h1) ∧ ShI P h0 h1 q R T b N u (p + 1) ∧ ∀ r k : Int, (r < 40 ∨ 44 < r ∨ ¬ k = (p : Int)) → ¬ (r = 33 ∧ k = 13) → h1 r k = h r k := by
  obtain ⟨⟨i1, i2, i3, i4, i5⟩, m1⟩ := hM
  have ha' : ∀ j, j ≤ p → AQ h (R j) (q j) := by
    intro j hj
    have hf : ∀ k, h (R j) k = h0 (R j) k := fun k => i1 _ _ (hP.2.2 _ k (ho j hj))
    unfold AQ; simp only [hf]; exact ha j hj
  obtain ⟨h1, e1, s1, f1, ic⟩ := app_st hp m1.1 m1.2.1 (fun j hj => ⟨(i4 j hj).1.1, (i4 j hj).2.2.2.1, (i4 j hj).2.2.2.2.1, (i4 j hj).2.2.2.2.2⟩) (fun k k0 k1 => (i1 34 k (hP.2.1 k)).trans (hTu k k0 k1)) i2 hq hT hu ho ha'
  have fj : ∀ (c : Int) (j : Nat), j < p → 35 ≤ c → h1 c j = h c j := fun c j hj hc => f1 c j (Or.inr (Or.inr (by omega))) (by omega)
  have fp : ∀ (c : Int) (j : Nat), 35 ≤ c → c ≤ 39 → h1 c j = h c j := fun c j hc hd => f1 c j (Or.inl (by omega)) (by omega)
  refine ⟨h1, e1, ⟨fun r k n => ?_, ?_, ?_, fun j hj => ?_, ?_⟩, f1⟩
  · by_cases hr : r < 40 ∨ 44 < r ∨ ¬ k = (p : Int)
    · by_cases hn : r = 33 ∧ k = 13
      · exact absurd (hP.1 r k (Or.inl hn.1)) n
      · rw [f1 r k hr hn]; exact i1 r k n
    · exact absurd (hP.1 r k (Or.inr (by omega))) n
  · rw [f1 33 12 (Or.inl (by omega)) (by omega)]; exact i2
  · rw [f1 33 11 (Or.inl (by omega)) (by omega)]; exact i3
  · by_cases hjp : j = p
    · subst hjp
      refine ⟨?_, s1⟩
      unfold ShP at m1 ⊢
      rw [fp 35 j (by omega) (by omega), fp 36 j (by omega) (by omega), fp 37 j (by omega) (by omega), fp 38 j (by omega) (by omega), fp 39 j (by omega) (by omega)]
      exact m1
    · have hj : j < p := by omega
      have := i4 j hj
      unfold ShP ShA at this ⊢
      rw [fj 35 j hj (by omega), fj 36 j hj (by omega), fj 37 j hj (by omega), fj 38 j hj (by omega), fj 39 j hj (by omega), fj 40 j hj (by omega), fj 41 j hj (by omega), fj 42 j hj (by omega), fj 43 j hj (by omega), fj 44 j hj (by omega)]
      exact this
  · rw [ic, i5]
    simp only [sHs]
end Play
theorem w32_n {p : Nat} (h : p < 1000000) : w32 ((p : Int) + 1) = ((p + 1 : Nat) : Int) := by
  rw [w32_s (by omega) (by omega)]; omega
/-- play: n acts of a row, at cells c + 2 + (row's number) -/
theorem play_e {h : Mem} {row pause c : Int} {n : Nat} {q : Nat → Int → Int} {m : Nat → Int} {T : Int → Int} (hn : h 26 1 = (n : Int)) (h9 : n ≤ 9) (hrow : ∀ p : Nat, p < n → h row p = m p ∧ 0 ≤ m p ∧ m p < 9) (hr : ¬ scr row 0) (hc : h 1 1 = c) (hoc : okO 2 c = true)
    (ha : ∀ j, j < n → AQ h (c + 2 + m j) (q j)) (hTu : ∀ k : Int, 0 ≤ k → k < 8 → h 34 k = T k) (hq : WQ q n) (hT : WT T) :
    ∃ h1, F_X7_play row pause h = some (0, h1) ∧ ShI scr h h1 q (fun j => c + 2 + m j) T pause n (fun _ => 0) n := by
  have ho : ∀ j, j < n → okO 0 (c + 2 + m j) = true := fun j hj => ok_mem hoc ⟨(hrow j hj).2.1, by have := (hrow j hj).2.2; omega⟩
  have key : ∀ (d p : Nat) (h1 : Mem) (f : Nat) (Kx : Int → Mem → Res), p + d = n → d < f → ShI scr h h1 q (fun j => c + 2 + m j) T pause n (fun _ => 0) p → ∃ h2, L_X7_play_1 row pause Kx f p h1 = Kx n h2 ∧ ShI scr h h2 q (fun j => c + 2 + m j) T pause n (fun _ => 0) n := by
    intro d
    induction d with
    | zero =>
      intro p h1 f Kx hp hf hI
      obtain ⟨f, rfl⟩ : ∃ g, f = g + 1 := ⟨f - 1, by omega⟩
      have hpn : p = n := by omega
      subst hpn
      refine ⟨h1, ?_, hI⟩
      rw [L_X7_play_1, hI.1 26 1 (by unfold scr; omega), hn, if_neg (by omega)]
    | succ d ih =>
      intro p h1 f Kx hp hf hI
      obtain ⟨f, rfl⟩ : ∃ g, f = g + 1 := ⟨f - 1, by omega⟩
      have hpn : p < n := by omega
      have hq' : WQ q (p + 1) := fun j hj => hq j (by omega)
      obtain ⟨h2, e2, M2, -⟩ := seatI okP_scr hI (by omega) hTu hq' hT (ho p hpn) (ha p hpn)
      obtain ⟨h3, e3, I3, -⟩ := appI okP_scr M2 (by omega) hTu hq' hT (fun _ => by omega) (fun j hj => ho j (by omega)) (fun j hj => ha j (by omega))
      obtain ⟨h4, e4, I4⟩ := ih (p + 1) h3 f Kx (by omega) (by omega) I3
      refine ⟨h4, ?_, I4⟩
      have r1 : h1 row p = m p := by rw [hI.1 row p (by unfold scr at hr ⊢; exact hr)]; exact (hrow p hpn).1
      have r2 : h1 1 1 = c := by rw [hI.1 1 1 (by unfold scr; omega)]; exact hc
      have r3 : h1 26 1 = n := by rw [hI.1 26 1 (by unfold scr; omega)]; exact hn
      have g1 : 0 ≤ (p : Int) ∧ (p : Int) < 9 := by omega
      have g2 : 0 ≤ m p ∧ m p < 9 := (hrow p hpn).2
      have c1 : (p : Int) < (n : Int) := by omega
      have w1 : w32 ((p : Int) + 1) = ((p + 1 : Nat) : Int) := w32_n (by omega)
      rw [L_X7_play_1]
      simp only [r1, r2, r3, hoc, g1, g2, c1, w1, e2, e3, e4, nm, jn, bd, gd, wr_at, Int.reduceEq, Int.reduceNeg, Int.reduceLT, Int.reduceLE, Int.reduceAdd, Int.reduceSub, false_and, true_and, and_true, and_false, and_self, or_false, false_or, or_true, true_or, if_true, if_false, ite_self, not_true_eq_false, not_false_eq_true, true_implies, implies_true]
  have hop : F_X6_open (h 26 1) pause h = some (0, wr (wr (wr h 33 11 n) 33 12 pause) 33 13 0) := by
    rw [hn]; rfl
  obtain ⟨h2, e2, I2⟩ := key n 0 (wr (wr (wr h 33 11 n) 33 12 pause) 33 13 0) FU (fun _ h_18 => some (0, h_18)) (by omega) (by unfold FU; omega) (by
    refine ⟨fun r k hnn => ?_, by simp only [nm, jn, bd, gd, wr_at, Int.reduceEq, Int.reduceNeg, Int.reduceLT, Int.reduceLE, Int.reduceAdd, Int.reduceSub, false_and, true_and, and_true, and_false, and_self, or_false, false_or, or_true, true_or, if_true, if_false, ite_self, not_true_eq_false, not_false_eq_true, true_implies, implies_true], by simp only [nm, jn, bd, gd, wr_at, Int.reduceEq, Int.reduceNeg, Int.reduceLT, Int.reduceLE, Int.reduceAdd, Int.reduceSub, false_and, true_and, and_true, and_false, and_self, or_false, false_or, or_true, true_or, if_true, if_false, ite_self, not_true_eq_false, not_false_eq_true, true_implies, implies_true], fun j hj => absurd hj (by omega), by simp only [sHs, nm, jn, bd, gd, wr_at, Int.reduceEq, Int.reduceNeg, Int.reduceLT, Int.reduceLE, Int.reduceAdd, Int.reduceSub, false_and, true_and, and_true, and_false, and_self, or_false, false_or, or_true, true_or, if_true, if_false, ite_self, not_true_eq_false, not_false_eq_true, true_implies, implies_true]⟩
    have : ¬ r = 33 := fun z => hnn (Or.inl z)
    simp only [this, nm, jn, bd, gd, wr_at, Int.reduceEq, Int.reduceNeg, Int.reduceLT, Int.reduceLE, Int.reduceAdd, Int.reduceSub, false_and, true_and, and_true, and_false, and_self, or_false, false_or, or_true, true_or, if_true, if_false, ite_self, not_true_eq_false, not_false_eq_true, true_implies, implies_true])
  refine ⟨h2, ?_, I2⟩
  unfold F_X7_play
  rw [hop, bd_s]
  exact e2
