/-! drawn, lot -/
def dsc (r k : Int) : Prop := scr r k ∨ (r = 26 ∧ k = 3)
theorem ok0_26 {one : Int} (h : okO 0 one = true) : ¬ one = 26 := fun e => by rw [e] at h; exact absurd h (by decide)
theorem okP_dsc : okP dsc := by
  refine ⟨fun _ _ h => Or.inl h, fun k h => ?_, fun one k ho h => ?_⟩
  · unfold dsc scr at h; omega
  · have := ok0_ne ho
    have := ok0_26 ho
    unfold dsc scr at h; omega
theorem ShM_26 {P : Int → Int → Prop} {h0 h : Mem} {q : Nat → Int → Int} {R : Nat → Int} {T : Int → Int} {b N v : Int} {u : Nat → Int} {p : Nat} (hP : P 26 3) (hM : ShM P h0 h q R T b N u p) : ShM P h0 (wr h 26 3 v) q R T b N u p := by
  have e : ∀ r : Int, ¬ r = 26 → (wr h 26 3 v) r = h r := fun r n => funext (fun k => wr_o n)
  have e33 := e 33 (by omega)
  have e35 := e 35 (by omega)
  have e36 := e 36 (by omega)
  have e37 := e 37 (by omega)
  have e38 := e 38 (by omega)
  have e39 := e 39 (by omega)
  have e40 := e 40 (by omega)
  have e41 := e 41 (by omega)
  have e42 := e 42 (by omega)
  have e43 := e 43 (by omega)
  have e44 := e 44 (by omega)
  obtain ⟨⟨i1, i2⟩, i3⟩ := hM
  refine ⟨⟨fun r k hn => ?_, ?_⟩, ?_⟩
  · by_cases c : r = 26 ∧ k = 3
    · exact absurd (by rw [c.1, c.2]; exact hP) hn
    · rw [wr_at, if_neg c]; exact i1 r k hn
  · simp only [ShP, ShA] at i2 ⊢
    simp only [e33, e35, e36, e37, e38, e39, e40, e41, e42, e43, e44]; exact i2
  · simp only [ShP] at i3 ⊢
    simp only [e35, e36, e37, e38, e39]; exact i3
theorem draw_e {h : Mem} {x : Int} (hx : h 26 3 = x) : F_X1_draw 26 h = some (drL (nxL x), wr h 26 3 (nxL x)) := by
  unfold F_X1_draw
  rw [hx]
  refine (nm_of rfl).trans ?_
  rw [wr_s]; rfl
/-- the class plays the bill with luck -/
theorem cdrawn {h : Mem} {n : Nat} {L : Int} (hR : RR h) (hn : h 61 0 = (n : Int)) (hL : h 26 3 = L) (hLi : in32 L) (Kx : Int → Mem → Res) :
    ∃ h1, (bd (F_X6_open (h 26 1) (h 26 2) h) (fun _ (h_2 : Mem) => L_X7_drawn_1 Kx FU 0 h_2)) = Kx n h1 ∧ ShI dsc h h1 (qB h) (fun j => h 1 1 + 2 + mB h j) (h 59) (h 26 2) n (fun p => drL (loS L (p + 1)) - 2) n ∧ h1 26 3 = loS L n := by
  obtain ⟨n', e0, e9, e26, _⟩ := n_B hR
  have nn : n' = n := by omega
  subst nn
  have hoc := (c_B hR).1
  have hq := wq_B hR hn
  have hT := wt_B hR
  have hTu := hR.2.2.2.1
  have ho : ∀ j, j < n' → okO 0 (h 1 1 + 2 + mB h j) = true := fun j hj => ok_mem hoc ⟨(mB_b hR hn hj).1, by have := (mB_b hR hn hj).2.2.1; omega⟩
  have ha : ∀ j, j < n' → AQ h (h 1 1 + 2 + mB h j) (qB h j) := fun j hj => (aq_B hR hn hj).1
  have hu : ∀ j : Nat, -2 ≤ drL (loS L (j + 1)) - 2 ∧ drL (loS L (j + 1)) - 2 ≤ 2 := fun j => by have := dr_b (lo_in hLi (j + 1)); omega
  have key : ∀ (d p : Nat) (h1 : Mem) (f : Nat), p + d = n' → d < f → ShI dsc h h1 (qB h) (fun j => h 1 1 + 2 + mB h j) (h 59) (h 26 2) n' (fun p => drL (loS L (p + 1)) - 2) p → h1 26 3 = loS L p →
      ∃ h2, L_X7_drawn_1 Kx f p h1 = Kx n' h2 ∧ ShI dsc h h2 (qB h) (fun j => h 1 1 + 2 + mB h j) (h 59) (h 26 2) n' (fun p => drL (loS L (p + 1)) - 2) n' ∧ h2 26 3 = loS L n' := by
    intro d
    induction d with
    | zero =>
      intro p h1 f hp hf hI hl
      obtain ⟨f, rfl⟩ : ∃ g, f = g + 1 := ⟨f - 1, by omega⟩
      have hpn : p = n' := by omega
      subst hpn
      refine ⟨h1, ?_, hI, hl⟩
      rw [L_X7_drawn_1, hI.1 26 1 (by unfold dsc scr; omega), e26, if_neg (by omega)]
    | succ d ih =>
      intro p h1 f hp hf hI hl
      obtain ⟨f, rfl⟩ : ∃ g, f = g + 1 := ⟨f - 1, by omega⟩
      have hpn : p < n' := by omega
      have hq' : WQ (qB h) (p + 1) := fun j hj => hq j (by omega)
      obtain ⟨h2, e2, M2, k2⟩ := seatI okP_dsc hI (by omega) hTu hq' hT (ho p hpn) (ha p hpn)
      have d2 := draw_e (h := h2) (x := loS L p) (by rw [k2 26 3 (by omega)]; exact hl)
      have M3 := ShM_26 (v := nxL (loS L p)) (Or.inr ⟨rfl, rfl⟩) M2
      obtain ⟨h4, e4, I4, k4⟩ := appI okP_dsc M3 (by omega) hTu hq' hT hu (fun j hj => ho j (by omega)) (fun j hj => ha j (by omega))
      obtain ⟨h5, e5, I5⟩ := ih (p + 1) h4 f (by omega) (by omega) I4 (by rw [k4 26 3 (by omega) (by omega), wr_s]; rfl)
      refine ⟨h5, ?_, I5⟩
      have m := mB_b hR hn hpn
      have r1 : h1 27 p = mB h p := by rw [hI.1 27 p (by unfold dsc scr; omega)]; exact m.2.2.2
      have r2 : h1 1 1 = h 1 1 := hI.1 1 1 (by unfold dsc scr; omega)
      have r3 : h1 26 1 = n' := by rw [hI.1 26 1 (by unfold dsc scr; omega)]; exact e26
      have u1 := hu p
      rw [L_X7_drawn_1, r3, if_pos (by omega)]
      refine (nm_of r2).trans ?_
      refine (gd_of hoc).trans ?_
      refine (gd_of (by omega)).trans ?_
      rw [r1]
      refine (gd_of (by omega)).trans ?_
      refine (bd_of e2).trans ?_
      refine (bd_of d2).trans ?_
      rw [w32_s (z := drL (nxL (loS L p)) - 2) (by show _ ≤ drL (loS L (p + 1)) - 2; omega) (by show drL (loS L (p + 1)) - 2 < _; omega)]
      refine (bd_of e4).trans ?_
      refine (nm_of (w32_n (by omega))).trans ?_
      exact e5
  have hop : F_X6_open (h 26 1) (h 26 2) h = some (0, wr (wr (wr h 33 11 n') 33 12 (h 26 2)) 33 13 0) := by
    rw [e26]; rfl
  obtain ⟨h2, e2, I2⟩ := key n' 0 (wr (wr (wr h 33 11 n') 33 12 (h 26 2)) 33 13 0) FU (by omega) (by unfold FU; omega) (by
    refine ⟨fun r k hnn => ?_, by simp only [nm, jn, bd, gd, wr_at, Int.reduceEq, Int.reduceNeg, Int.reduceLT, Int.reduceLE, Int.reduceAdd, Int.reduceSub, false_and, true_and, and_true, and_false, and_self, or_false, false_or, or_true, true_or, if_true, if_false, ite_self, not_true_eq_false, not_false_eq_true, true_implies, implies_true], by simp only [nm, jn, bd, gd, wr_at, Int.reduceEq, Int.reduceNeg, Int.reduceLT, Int.reduceLE, Int.reduceAdd, Int.reduceSub, false_and, true_and, and_true, and_false, and_self, or_false, false_or, or_true, true_or, if_true, if_false, ite_self, not_true_eq_false, not_false_eq_true, true_implies, implies_true], fun j hj => absurd hj (by omega), by simp only [nm, jn, bd, gd, wr_at, Int.reduceEq, Int.reduceNeg, Int.reduceLT, Int.reduceLE, Int.reduceAdd, Int.reduceSub, false_and, true_and, and_true, and_false, and_self, or_false, false_or, or_true, true_or, if_true, if_false, ite_self, not_true_eq_false, not_false_eq_true, true_implies, implies_true]; rfl⟩
    have : ¬ r = 33 := fun z => hnn (Or.inl (Or.inl z))
    simp only [this, nm, jn, bd, gd, wr_at, Int.reduceEq, Int.reduceNeg, Int.reduceLT, Int.reduceLE, Int.reduceAdd, Int.reduceSub, false_and, true_and, and_true, and_false, and_self, or_false, false_or, or_true, true_or, if_true, if_false, ite_self, not_true_eq_false, not_false_eq_true, true_implies, implies_true]) (by rw [wr_o (by omega), wr_o (by omega), wr_o (by omega)]; exact hL)
  exact ⟨h2, (bd_of hop).trans e2, I2⟩
theorem op_lot (v : Int) (hv : in32 v) : OP (F_X7_lot v) (F_X8_lot v) := by
  intro h hR
  have e : h 26 3 = h 61 2 := hR.2.2.2.2.1.2.2.1
  refine ⟨h 61 2, wr h 26 3 v, wr (wr (wr h 26 3 v) 56 0 0) 61 2 v, ?_, ?_, ?_⟩
  · unfold F_X7_lot; rw [e]; rfl
  · unfold F_X8_lot
    refine (nm_of rfl).trans ?_
    refine (nm_of (e' := h 61 2) (by rw [wr_o (by omega), wr_o (by omega)])).trans ?_
    rfl
  · refine hR.fr3 (fun r k hn => ?_) ?_ ?_
    · rw [wr_at, if_neg (fun z => hn (Or.inr (Or.inr z))), wr_at, if_neg (fun z => hn (Or.inl (by unfold rsc; omega))), wr_at, if_neg (fun z => hn (Or.inr (Or.inl z)))]
    · rw [wr_s, wr_o (by omega), wr_o (by omega), wr_s]
    · rw [wr_s]; exact hv
theorem op_drawn : OP F_X7_drawn F_X8_drawn := by
  intro h hR
  obtain ⟨n, e0, e9, e26, eb⟩ := n_B hR
  have el : h 26 3 = h 61 2 := hR.2.2.2.2.1.2.2.1
  have hi : in32 (h 61 2) := hR.2.2.2.2.2.2.2.1.2.2.2.1.2.2.2.2.1
  by_cases z : n = 0
  · refine ⟨-2, h, wr h 56 0 0, ?_, ?_, hR.g0 Fr.rfl⟩
    · unfold F_X7_drawn
      rw [if_pos (by omega)]
    · unfold F_X8_drawn
      refine (nm_of rfl).trans ?_
      rw [if_pos (by rw [wr_o (by omega)]; omega)]
  · obtain ⟨h1, e1, hI, hl⟩ := cdrawn (n := n) (L := h 61 2) hR e0 el hi (fun p_22 (h_21 : Mem) => bd (F_X6_total  h_21) (fun r_23 (h_24 : Mem) => some (r_23, h_24)))
    have hu : ∀ j : Nat, -2 ≤ drL (loS (h 61 2) (j + 1)) - 2 ∧ drL (loS (h 61 2) (j + 1)) - 2 ≤ 2 := fun j => by have := dr_b (lo_in hi (j + 1)); omega
    have P := hI.2.2.2.1 (n - 1) (by omega)
    have tot := total_e (h := h1) hI.2.2.1 (by omega) (by omega) P.2 hI.2.2.2.2 (wq_B hR e0) (wt_B hR) hu
    rw [eb] at tot
    have F0 : ∀ r k : Int, ¬ (dsc r k ∨ (r = 56 ∧ k = 0)) → (wr h1 56 0 0) r k = h r k := fun r k hn => by
      rw [wr_at, if_neg (fun z => hn (Or.inr z))]; exact hI.1 r k (fun z => hn (Or.inl z))
    obtain ⟨h2, e2, F2, e18, e19, e64⟩ := asB_e (h := wr h1 56 0 0) (n := n) (by rw [F0 61 0 (by unfold dsc scr; omega)]; exact e0) e9
    have g58 : (wr h1 56 0 0) 58 = h 58 := funext (fun k => F0 58 k (by unfold dsc scr; omega))
    have g59 : (wr h1 56 0 0) 59 = h 59 := funext (fun k => F0 59 k (by unfold dsc scr; omega))
    have g61 : (wr h1 56 0 0) 61 = h 61 := funext (fun k => F0 61 k (by unfold dsc scr; omega))
    have g64 : (wr h1 56 0 0) 64 = h 64 := funext (fun k => F0 64 k (by unfold dsc scr; omega))
    have em : mB (wr h1 56 0 0) = mB h := by unfold mB; rw [g61, g64]
    have f58 : h2 58 = h 58 := (funext (fun k => F2 58 k (by unfold asc; omega))).trans g58
    have f59 : h2 59 = h 59 := (funext (fun k => F2 59 k (by unfold asc; omega))).trans g59
    have q2 : q8 h2 = qB h := by funext p k; unfold q8 qB; rw [e64, em, f58]
    have b2 : h2 56 19 = h 61 1 := by rw [e19, g61]
    have R2 : R8 h2 n := ⟨by omega, e18, fun p hp => by have m := mB_b hR e0 hp; rw [e64, em]; omega, by rw [q2]; exact wq_B hR e0, by rw [f59]; exact wt_B hR⟩
    obtain ⟨h3, e3, F3, I3⟩ := lays_e R2 b2
    rw [q2, f59] at I3
    have x58 : ∀ k, h3 58 k = h2 58 k := fun k => F3 58 k (by unfold lsc; omega)
    have x59 : ∀ k, h3 59 k = h2 59 k := fun k => F3 59 k (by unfold lsc; omega)
    have x64 : ∀ k, h3 64 k = h2 64 k := fun k => F3 64 k (by unfold lsc; omega)
    have R3 : R8 h3 n := R8_fr R2 (F3 56 18 (by unfold lsc; omega)) x58 x59 x64
    have q3 : q8 h3 = qB h := (q8_fr x58 x64).trans q2
    have t3 : h3 59 = h 59 := (funext x59).trans f59
    have b3 : h3 56 19 = h 61 1 := by rw [F3 56 19 (by unfold lsc; omega)]; exact b2
    have l3 : h3 61 2 = h 61 2 := by rw [F3 61 2 (by unfold lsc; omega), F2 61 2 (by unfold asc; omega), g61]
    obtain ⟨h4, e4, N4, l4⟩ := night1 (b := h 61 1) (by omega) R3 b3 (fun p hp => by rw [q3, t3]; exact (I3 p hp).1) l3 hi
    rw [q3, t3] at e4
    refine ⟨_, h1, h4, (?_ : F_X7_drawn h = some (sVa (qB h) (h 59) (h 61 1) (fun p => drL (loS (h 61 2) (p + 1)) - 2) n, h1)), ?_, ?_⟩
    · unfold F_X7_drawn
      rw [if_neg (by omega)]
      refine e1.trans ?_
      refine (bd_of tot).trans ?_
      rfl
    · unfold F_X8_drawn
      refine (nm_of rfl).trans ?_
      rw [if_neg (by rw [g61]; omega)]
      refine (bd_of e2).trans ?_
      refine (bd_of e3).trans ?_
      refine (bd_of e4).trans ?_
      rfl
    · have F4 := N4.1
      refine hR.fr3 (fun r k hn => ?_) ?_ ?_
      · rw [F4 r k (fun z => hn (by unfold nsc at z; unfold dlc rsc; omega)), F3 r k (fun z => hn (Or.inl (lsc_r z))), F2 r k (fun z => hn (Or.inl (asc_r z)))]
        exact F0 r k (fun z => hn (by unfold dsc scr at z; unfold dlc rsc; omega))
      · rw [l4, F4 26 3 (by unfold nsc; omega), F3 26 3 (by unfold lsc; omega), F2 26 3 (by unfold asc; omega), wr_o (by omega)]; exact hl
      · rw [l4]; exact lo_in hi n
