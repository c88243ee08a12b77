/-! the bill's night, both sides -/
def mB (h : Mem) : Nat → Int := fun p => if (p : Int) < h 61 0 then h 61 (3 + (p : Int)) else h 64 p
def qB (h : Mem) : Nat → Int → Int := fun p k => h 58 (9 * mB h p + k)
def asc (r k : Int) : Prop := r = 64 ∨ (r = 56 ∧ (k = 18 ∨ k = 19))
theorem asB_e {h : Mem} {n : Nat} (hn : h 61 0 = (n : Int)) (h9 : n ≤ 9) :
    ∃ h1, F_X8_asBilled h = some (0, h1) ∧ Fr asc h h1 ∧ h1 56 18 = (n : Int) ∧ h1 56 19 = h 61 1 ∧ ∀ p : Nat, h1 64 p = mB h p := by
  have key : ∀ (d p : Nat) (h1 : Mem) (f : Nat), p + d = n → d < f → Fr asc h h1 → h1 56 18 = (n : Int) → h1 56 19 = h 61 1 → (∀ j : Nat, h1 64 j = if j < p then mB h j else h 64 j) →
      ∃ h2, L_X8_asBilled_1 (fun p_11 (h_10 : Mem) => some (0, h_10)) f p h1 = some (0, h2) ∧ Fr asc h h2 ∧ h2 56 18 = (n : Int) ∧ h2 56 19 = h 61 1 ∧ ∀ p : Nat, h2 64 p = mB h p := by
    intro d
    induction d with
    | zero =>
      intro p h1 f hp hf hF e18 e19 hI
      obtain ⟨f, rfl⟩ : ∃ g, f = g + 1 := ⟨f - 1, by omega⟩
      have hpn : p = n := by omega
      subst hpn
      refine ⟨h1, ?_, hF, e18, e19, fun j => ?_⟩
      · rw [L_X8_asBilled_1, e18, if_neg (by omega)]
      · rw [hI j]
        by_cases c : j < p
        · rw [if_pos c]
        · rw [if_neg c, mB, if_neg (by omega)]
    | succ d ih =>
      intro p h1 f hp hf hF e18 e19 hI
      obtain ⟨f, rfl⟩ : ∃ g, f = g + 1 := ⟨f - 1, by omega⟩
      have hpn : p < n := by omega
      have f61 : ∀ k, h1 61 k = h 61 k := fun k => hF 61 k (by unfold asc; omega)
      obtain ⟨h2, e2, r2⟩ := ih (p + 1) (wr h1 64 p (mB h p)) f (by omega) (by omega) (fun r k hn => by
        rw [wr_o (fun z => hn (Or.inl z))]; exact hF r k hn) (by rw [wr_o (by omega)]; exact e18) (by rw [wr_o (by omega)]; exact e19) (fun j => by
        by_cases c : j = p
        · subst c; rw [wr_s, if_pos (by omega)]
        · rw [wr_k (by omega), hI j]
          by_cases c2 : j < p
          · rw [if_pos c2, if_pos (by omega)]
          · rw [if_neg c2, if_neg (by omega)])
      refine ⟨h2, ?_, r2⟩
      rw [L_X8_asBilled_1, e18, if_pos (by omega), w32_s (z := 3 + (p : Int)) (by omega) (by omega)]
      rw [gd_t (by omega), gd_t (by omega), f61]
      refine (nm_of (e' := wr h1 64 p (mB h p)) (by rw [mB, if_pos (by omega)])).trans ?_
      refine (nm_of (w32_n (by omega))).trans ?_
      exact e2
  unfold F_X8_asBilled
  simp only [nm]
  refine key n 0 _ FU (by omega) (by unfold FU; omega) (fun r k hn => ?_) ?_ ?_ (fun j => ?_)
  · rw [wr_at, if_neg (fun z => hn (Or.inr ⟨z.1, Or.inr z.2⟩)), wr_at, if_neg (fun z => hn (Or.inr ⟨z.1, Or.inl z.2⟩))]
  · simp only [nm, jn, bd, gd, wr_at, Int.reduceEq, Int.reduceNeg, Int.reduceLT, Int.reduceLE, Int.reduceAdd, Int.reduceSub, false_and, true_and, and_true, and_false, and_self, or_false, false_or, or_true, true_or, if_true, if_false, ite_self, not_true_eq_false, not_false_eq_true, true_implies, implies_true]; exact hn
  · simp only [nm, jn, bd, gd, wr_at, Int.reduceEq, Int.reduceNeg, Int.reduceLT, Int.reduceLE, Int.reduceAdd, Int.reduceSub, false_and, true_and, and_true, and_false, and_self, or_false, false_or, or_true, true_or, if_true, if_false, ite_self, not_true_eq_false, not_false_eq_true, true_implies, implies_true]
  · rw [if_neg (by omega), wr_o (by omega), wr_o (by omega)]
section Bill
variable {h : Mem} {n : Nat}
theorem mB_b (hR : RR h) (hn : h 61 0 = (n : Int)) {j : Nat} (hj : j < n) : 0 ≤ mB h j ∧ mB h j < h 56 10 ∧ mB h j < 9 ∧ h 27 j = mB h j := by
  have wb := hR.2.2.2.2.2.2.2.1.2.2.2.1
  have ac := hR.2.2.2.2.2.2.2.1.2.1
  have cb := hR.2.2.2.2.1
  have x := wb.2.2.2.2.2.1 j (by omega) (by omega)
  have y : h 27 j = h 61 (0 + 3 + (j : Int)) := cb.2.2.2 j (by omega) (by omega)
  have e : mB h j = h 61 (0 + 3 + (j : Int)) := by rw [mB, if_pos (by omega)]; rfl
  have l := ac.2.1
  rw [e]; omega
theorem wq_B (hR : RR h) (hn : h 61 0 = (n : Int)) : WQ (qB h) n := by
  intro j hj
  have m := mB_b hR hn hj
  have w := (hR.2.2.2.2.2.2.2.1.2.1.2.2 (mB h j) m.1 m.2.1).1
  have z : 9 * mB h j + 0 = 9 * mB h j := by omega
  simp only [qB, z]; exact w
theorem wt_B (hR : RR h) : WT (h 59) := hR.2.2.2.2.2.2.2.1.2.2.1
theorem n_B (hR : RR h) : ∃ n : Nat, h 61 0 = (n : Int) ∧ n ≤ 9 ∧ h 26 1 = (n : Int) ∧ h 26 2 = h 61 1 := by
  have wb := hR.2.2.2.2.2.2.2.1.2.2.2.1
  have ac := hR.2.2.2.2.2.2.2.1.2.1
  have cb := hR.2.2.2.2.1
  have a : h 26 1 = h 61 0 := cb.1
  have b : h 26 2 = h 61 1 := cb.2.1
  have l0 := wb.1
  have l1 := wb.2.1
  have l := ac.2.1
  exact ⟨(h 61 0).toNat, by omega, by omega, by omega, b⟩
theorem c_B (hR : RR h) : okO 2 (h 1 1) = true ∧ (h 1 1 = 4 ∨ h 1 1 = 15) := by
  rcases hR.1.1 with c | c
  · rw [c.1]; exact ⟨by decide, Or.inl rfl⟩
  · rw [c.1]; exact ⟨by decide, Or.inr rfl⟩
theorem aq_B (hR : RR h) (hn : h 61 0 = (n : Int)) {j : Nat} (hj : j < n) : AQ h (h 1 1 + 2 + mB h j) (qB h j) ∧ h (h 1 1 + 2 + mB h j) 0 = mB h j := by
  have m := mB_b hR hn hj
  have w := (hR.2.2.1.2 (mB h j) m.1 m.2.1).1
  have z : 9 * mB h j + 0 = 9 * mB h j := by omega
  refine ⟨?_, ?_⟩
  · simp only [AQ, qB, z]; exact w
  · have e := hR.1.2.1 (mB h j) m.1 m.2.2.1
    rcases (c_B hR).2 with c | c
    · rw [c, show (4 : Int) + 2 + mB h j = 6 + mB h j by omega]; exact e.1
    · rw [c, show (15 : Int) + 2 + mB h j = 17 + mB h j by omega]; exact e.2
/-- the class plays the bill -/
theorem cplay {b : Int} (hR : RR h) (hn : h 61 0 = (n : Int)) :
    ∃ h1, F_X7_play 27 b h = some (0, h1) ∧ ShI scr h h1 (qB h) (fun j => h 1 1 + 2 + mB h j) (h 59) b n (fun _ => 0) n ∧ CN h1 (qB h) (mB h) (fun j => h 1 1 + 2 + mB h j) (h 59) b n := by
  obtain ⟨n', e0, e9, e26, _⟩ := n_B hR
  have nn : n' = n := by omega
  subst nn
  obtain ⟨h1, e1, hI⟩ := play_e (h := h) (row := 27) (pause := b) (c := h 1 1) (n := n') (q := qB h) (m := mB h) (T := h 59) e26 e9 (fun p hp => by have := mB_b hR hn hp; omega) (by unfold scr; omega) rfl (c_B hR).1 (fun j hj => (aq_B hR hn hj).1) hR.2.2.2.1 (wq_B hR hn) (wt_B hR)
  refine ⟨h1, e1, hI, hI.2.2.1, hI.2.1, ?_, ?_, fun j hj => ⟨(hI.2.2.2.1 j hj).1, ?_⟩⟩
  · rw [hI.1 34 0 (by unfold scr; omega)]; exact hR.2.2.2.1 0 (by omega) (by omega)
  · rw [hI.1 34 1 (by unfold scr; omega)]; exact hR.2.2.2.1 1 (by omega) (by omega)
  · have m := mB_b hR hn hj
    have a := aq_B hR hn hj
    have ho : okO 0 (h 1 1 + 2 + mB h j) = true := ok_mem (c_B hR).1 ⟨m.1, by omega⟩
    have f : ∀ k, h1 (h 1 1 + 2 + mB h j) k = h (h 1 1 + 2 + mB h j) k := fun k => hI.1 _ k (okP_scr.2.2 _ k ho)
    refine ⟨ho, ?_, ?_⟩
    · have a1 := a.1
      unfold AQ at a1 ⊢
      simp only [f]; exact a1
    · show h1 (h 1 1 + 2 + mB h j) 0 = _
      rw [f]; exact a.2
/-- the reference lays the bill out -/
theorem mbill (hR : RR h) (hn : h 61 0 = (n : Int)) :
    ∃ h1, F_X8_asBilled h = some (0, h1) ∧ Fr asc h h1 ∧ R8 h1 n ∧ q8 h1 = qB h ∧ m8 h1 = mB h ∧ h1 56 19 = h 61 1 ∧ h1 59 = h 59 := by
  obtain ⟨n', e0, e9, e26, _⟩ := n_B hR
  have nn : n' = n := by omega
  subst nn
  obtain ⟨h1, e1, F1, e18, e19, e64⟩ := asB_e hn e9
  have f59 : h1 59 = h 59 := funext (fun k => F1 59 k (by unfold asc; omega))
  have f58 : h1 58 = h 58 := funext (fun k => F1 58 k (by unfold asc; omega))
  have qe : q8 h1 = qB h := by funext p k; unfold q8 qB; rw [e64, f58]
  refine ⟨h1, e1, F1, ⟨by omega, e18, fun p hp => ?_, by rw [qe]; exact wq_B hR hn, by rw [f59]; exact wt_B hR⟩, qe, funext e64, e19, f59⟩
  have m := mB_b hR hn hp
  rw [e64]; omega
end Bill
