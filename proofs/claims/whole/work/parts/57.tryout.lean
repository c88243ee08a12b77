/-! tryout -/
/-- the attributes with a guest's, as act 9 -/
def gA (kd mi st : Int) (A : Int → Int) : Int → Int := fun k => if 81 ≤ k ∧ k < 90 then (if k = 81 then kd else if k = 82 then mi else if k = 83 then st else 0) else A k
def mT (h : Mem) (pl : Nat) : Nat → Int := fun j => if j < pl then mB h j else if j = pl then 9 else mB h (j - 1)
def bT (b : Int) (pl : Nat) : Int := if (pl : Int) < b then b + 1 else b
def tL (h : Mem) (n pl : Nat) : List Int := (List.range (n + 1)).map (mT h pl)
theorem tL_l {h : Mem} {n pl : Nat} : (tL h n pl).length = n + 1 := by unfold tL; rw [List.length_map, List.length_range]
theorem tL_at {h : Mem} {n pl j : Nat} (hj : j < n + 1) : (tL h n pl).getD j 0 = mT h pl j := by
  unfold tL
  rw [List.getD_eq_getElem?_getD, List.getElem?_map, List.getElem?_range hj]; rfl
def okG (kd mi st : Int) : Prop := (0 ≤ kd ∧ kd ≤ 5) ∧ (1 ≤ mi ∧ mi ≤ 30) ∧ (0 ≤ st ∧ st ≤ 30)
section Guest
variable {g : Mem} {n pl : Nat} {kd mi st : Int}
theorem mT_b (hR : RR g) (hn : g 61 0 = (n : Int)) (hp : pl ≤ n) {j : Nat} (hj : j < n + 1) : (j = pl ∧ mT g pl j = 9) ∨ (¬ j = pl ∧ 0 ≤ mT g pl j ∧ mT g pl j < g 56 10) := by
  unfold mT
  by_cases c : j < pl
  · have := mB_b hR hn (show j < n by omega)
    rw [if_pos c]; omega
  · by_cases d : j = pl
    · rw [if_neg c, if_pos d]; exact Or.inl ⟨d, rfl⟩
    · have := mB_b hR hn (show j - 1 < n by omega)
      rw [if_neg c, if_neg d]; omega
theorem gA_lo {A : Int → Int} {k : Int} (h : k < 81) : gA kd mi st A k = A k := by unfold gA; rw [if_neg (by omega)]
theorem wq_T (hR : RR g) (hn : g 61 0 = (n : Int)) (hp : pl ≤ n) (hG : okG kd mi st) : WQ (fun j k => gA kd mi st (g 58) (9 * mT g pl j + k)) (n + 1) := by
  intro j hj
  dsimp only
  have w9 := wac_n hR
  rcases mT_b hR hn hp hj with ⟨_, e⟩ | ⟨_, e⟩
  · rw [e]
    unfold okG at hG
    simp only [gA, nm, jn, bd, gd, wr_at, Int.reduceEq, Int.reduceNeg, Int.reduceLT, Int.reduceLE, Int.reduceAdd, Int.reduceSub, false_and, true_and, and_true, and_false, and_self, or_false, false_or, or_true, true_or, if_true, if_false, ite_self, not_true_eq_false, not_false_eq_true, true_implies, implies_true, Int.reduceMul]
    omega
  · have w := (hR.2.2.2.2.2.2.2.1.2.1.2.2 _ e.1 e.2).1
    generalize mT g pl j = x at *
    have z : 9 * x + 0 = 9 * x := by omega
    simp only [z]
    rw [gA_lo (by omega), gA_lo (by omega), gA_lo (by omega), gA_lo (by omega), gA_lo (by omega), gA_lo (by omega), gA_lo (by omega), gA_lo (by omega), gA_lo (by omega)]
    exact w
theorem aq_T (hR : RR g) (hn : g 61 0 = (n : Int)) (hp : pl ≤ n) (hg : g 54 1 = kd ∧ g 54 2 = mi ∧ g 54 3 = st) {j : Nat} (hj : j < n + 1) :
    AQ g (if j = pl then 54 else g 1 1 + 2 + mT g pl j) (fun k => gA kd mi st (g 58) (9 * mT g pl j + k)) ∧ g (if j = pl then 54 else g 1 1 + 2 + mT g pl j) 0 = mT g pl j ∧ okO 0 (if j = pl then 54 else g 1 1 + 2 + mT g pl j) = true := by
  have w9 := wac_n hR
  rcases mT_b hR hn hp hj with ⟨e1, e⟩ | ⟨e1, e⟩
  · rw [if_pos e1, e]
    have c := hR.1.2.2
    refine ⟨?_, c.1, by decide⟩
    simp only [AQ, gA, nm, jn, bd, gd, wr_at, Int.reduceEq, Int.reduceNeg, Int.reduceLT, Int.reduceLE, Int.reduceAdd, Int.reduceSub, false_and, true_and, and_true, and_false, and_self, or_false, false_or, or_true, true_or, if_true, if_false, ite_self, not_true_eq_false, not_false_eq_true, true_implies, implies_true, Int.reduceMul]
    exact ⟨hg.1, hg.2.1, hg.2.2, c.2 4 (by omega) (by omega), c.2 5 (by omega) (by omega), c.2 6 (by omega) (by omega), c.2 7 (by omega) (by omega), c.2 8 (by omega) (by omega), c.2 10 (by omega) (by omega)⟩
  · rw [if_neg e1]
    obtain ⟨a1, a2, a3⟩ := aq_L hR e
    refine ⟨?_, a2, a3⟩
    generalize mT g pl j = x at *
    have z : 9 * x + 0 = 9 * x := by omega
    simp only [AQ, z] at a1 ⊢
    rw [gA_lo (by omega), gA_lo (by omega), gA_lo (by omega), gA_lo (by omega), gA_lo (by omega), gA_lo (by omega), gA_lo (by omega), gA_lo (by omega), gA_lo (by omega)]
    exact a1
/-- the class plays the bill with a guest -/
theorem guest_e (hR : RR g) (hn : g 61 0 = (n : Int)) (hp : pl ≤ n) (hg : g 54 1 = kd ∧ g 54 2 = mi ∧ g 54 3 = st) (hG : okG kd mi st) :
    ∃ h1, F_X7_playWithGuest (pl : Int) g = some (0, h1) ∧ ShI scr g h1 (fun j k => gA kd mi st (g 58) (9 * mT g pl j + k)) (fun j => if j = pl then 54 else g 1 1 + 2 + mT g pl j) (g 59) (bT (g 61 1) pl) ((n + 1 : Nat) : Int) (fun _ => 0) (n + 1)
      ∧ CN h1 (fun j k => gA kd mi st (g 58) (9 * mT g pl j + k)) (mT g pl) (fun j => if j = pl then 54 else g 1 1 + 2 + mT g pl j) (g 59) (bT (g 61 1) pl) (n + 1) := by
  obtain ⟨n', e0, e9, e26, eb⟩ := n_B hR
  have nn : n' = n := by omega
  subst nn
  have w9 := wac_n hR
  have wb := hR.2.2.2.2.2.2.2.1.2.2.2.1
  have wb3 : 0 ≤ g 61 1 := wb.2.2.1
  have wb4 : g 61 1 < g 61 0 ∨ g 61 1 = 0 := wb.2.2.2.1
  have hTu : ∀ k : Int, 0 ≤ k → k < 8 → g 34 k = g 59 k := hR.2.2.2.1
  have hq := wq_T (kd := kd) (mi := mi) (st := st) hR hn hp hG
  have hT := wt_B hR
  have ha : ∀ j, j < n' + 1 → AQ g (if j = pl then 54 else g 1 1 + 2 + mT g pl j) (fun k => gA kd mi st (g 58) (9 * mT g pl j + k)) := fun j hj => (aq_T hR hn hp hg hj).1
  have ho : ∀ j, j < n' + 1 → okO 0 (if j = pl then 54 else g 1 1 + 2 + mT g pl j) = true := fun j hj => (aq_T hR hn hp hg hj).2.2
  -- a place
  have one : ∀ (p : Nat) (h1 : Mem), p < n' + 1 → ShI scr g h1 (fun j k => gA kd mi st (g 58) (9 * mT g pl j + k)) (fun j => if j = pl then 54 else g 1 1 + 2 + mT g pl j) (g 59) (bT (g 61 1) pl) ((n' + 1 : Nat) : Int) (fun _ => 0) p → ∃ h2 h3, F_X6_seat (p : Int) (if p = pl then 54 else g 1 1 + 2 + mT g pl p) h1 = some (0, h2) ∧ F_X6_applaud (p : Int) 0 h2 = some (0, h3) ∧ ShI scr g h3 (fun j k => gA kd mi st (g 58) (9 * mT g pl j + k)) (fun j => if j = pl then 54 else g 1 1 + 2 + mT g pl j) (g 59) (bT (g 61 1) pl) ((n' + 1 : Nat) : Int) (fun _ => 0) (p + 1) := by
    intro p h1 hp1 hI
    have hq' : WQ (fun j k => gA kd mi st (g 58) (9 * mT g pl j + k)) (p + 1) := fun j hj => hq j (by omega)
    obtain ⟨h2, e2, M2, -⟩ := seatI okP_scr hI (by omega) hTu hq' hT (ho p hp1) (ha p hp1)
    obtain ⟨h3, e3, I3, -⟩ := appI okP_scr M2 (by omega) hTu hq' hT (fun _ => by omega) (fun j hj => ho j (by omega)) (fun j hj => ha j (by omega))
    exact ⟨h2, h3, e2, e3, I3⟩
  have k1 : ∀ (d p : Nat) (h1 : Mem) (f : Nat) (v : Int) (Kx : Int → Mem → Res), p + d = pl → d < f → ShI scr g h1 (fun j k => gA kd mi st (g 58) (9 * mT g pl j + k)) (fun j => if j = pl then 54 else g 1 1 + 2 + mT g pl j) (g 59) (bT (g 61 1) pl) ((n' + 1 : Nat) : Int) (fun _ => 0) p → ∃ h2, L_X7_playWithGuest_1 (pl : Int) v Kx f p h1 = Kx pl h2 ∧ ShI scr g h2 (fun j k => gA kd mi st (g 58) (9 * mT g pl j + k)) (fun j => if j = pl then 54 else g 1 1 + 2 + mT g pl j) (g 59) (bT (g 61 1) pl) ((n' + 1 : Nat) : Int) (fun _ => 0) pl := by
    intro d
    induction d with
    | zero =>
      intro p h1 f v Kx hpd hf hI
      obtain ⟨f, rfl⟩ : ∃ g, f = g + 1 := ⟨f - 1, by omega⟩
      have e : p = pl := by omega
      subst e
      exact ⟨h1, by rw [L_X7_playWithGuest_1, if_neg (by omega)], hI⟩
    | succ d ih =>
      intro p h1 f v Kx hpd hf hI
      obtain ⟨f, rfl⟩ : ∃ g, f = g + 1 := ⟨f - 1, by omega⟩
      obtain ⟨h2, h3, e2, e3, I3⟩ := one p h1 (by omega) hI
      have mb := mB_b hR hn (show p < n' by omega)
      have me : mT g pl p = mB g p := by unfold mT; rw [if_pos (by omega)]
      rw [if_neg (by omega), me] at e2
      have r27 : h1 27 p = mB g p := by rw [hI.1 27 p (by unfold scr; omega)]; exact mb.2.2.2
      rw [L_X7_playWithGuest_1, if_pos (by omega)]
      refine ex_ct (nm_of (e' := g 1 1) (hI.1 1 1 (by unfold scr; omega))) ?_
      refine ex_ct (gd_of (c_B hR).1) ?_
      refine ex_ct (gd_of (by omega)) ?_
      rw [r27]
      refine ex_ct (gd_of (by omega)) ?_
      refine ex_ct (bd_of e2) ?_
      refine ex_ct (bd_of e3) ?_
      refine ex_ct (nm_of (w32_n (by omega))) ?_
      exact ih (p + 1) h3 f v Kx (by omega) (by omega) I3
  have k2 : ∀ (d p : Nat) (h1 : Mem) (f : Nat) (v : Int) (Kx : Int → Mem → Res), p + d = n' → pl ≤ p → d < f → ShI scr g h1 (fun j k => gA kd mi st (g 58) (9 * mT g pl j + k)) (fun j => if j = pl then 54 else g 1 1 + 2 + mT g pl j) (g 59) (bT (g 61 1) pl) ((n' + 1 : Nat) : Int) (fun _ => 0) (p + 1) → ∃ h2, L_X7_playWithGuest_2 (pl : Int) v Kx f p h1 = Kx n' h2 ∧ ShI scr g h2 (fun j k => gA kd mi st (g 58) (9 * mT g pl j + k)) (fun j => if j = pl then 54 else g 1 1 + 2 + mT g pl j) (g 59) (bT (g 61 1) pl) ((n' + 1 : Nat) : Int) (fun _ => 0) (n' + 1) := by
    intro d
    induction d with
    | zero =>
      intro p h1 f v Kx hpd hpp hf hI
      obtain ⟨f, rfl⟩ : ∃ g, f = g + 1 := ⟨f - 1, by omega⟩
      have e : p = n' := by omega
      subst e
      exact ⟨h1, by rw [L_X7_playWithGuest_2, hI.1 26 1 (by unfold scr; omega), e26, if_neg (by omega)], hI⟩
    | succ d ih =>
      intro p h1 f v Kx hpd hpp hf hI
      obtain ⟨f, rfl⟩ : ∃ g, f = g + 1 := ⟨f - 1, by omega⟩
      obtain ⟨h2, h3, e2, e3, I3⟩ := one (p + 1) h1 (by omega) hI
      have mb := mB_b hR hn (show p < n' by omega)
      have me : mT g pl (p + 1) = mB g p := by unfold mT; rw [if_neg (by omega), if_neg (by omega), show p + 1 - 1 = p by omega]
      rw [if_neg (by omega), me] at e2
      have r27 : h1 27 p = mB g p := by rw [hI.1 27 p (by unfold scr; omega)]; exact mb.2.2.2
      rw [L_X7_playWithGuest_2, hI.1 26 1 (by unfold scr; omega), e26, if_pos (by omega)]
      refine ex_ct (nm_of (e' := g 1 1) (hI.1 1 1 (by unfold scr; omega))) ?_
      refine ex_ct (gd_of (c_B hR).1) ?_
      refine ex_ct (gd_of (by omega)) ?_
      rw [r27]
      refine ex_ct (gd_of (by omega)) ?_
      rw [w32_n (by omega)]
      refine ex_ct (bd_of e2) ?_
      refine ex_ct (bd_of e3) ?_
      refine ex_ct (nm_of rfl) ?_
      exact ih (p + 1) h3 f v Kx (by omega) (by omega) (by omega) I3
  obtain ⟨h2, e2, I2⟩ := k1 pl 0 (wr (wr (wr g 33 11 ((n' + 1 : Nat) : Int)) 33 12 (bT (g 61 1) pl)) 33 13 0) FU (bT (g 61 1) pl) (fun p_21 (h_20 : Mem) => bd (F_X6_seat (pl : Int) 54 h_20) (fun _ (h_23 : Mem) => bd (F_X6_applaud (pl : Int) 0 h_23) (fun _ (h_26 : Mem) => L_X7_playWithGuest_2 (pl : Int) (bT (g 61 1) pl) (fun p_43 (h_42 : Mem) => some (0, h_42)) FU (pl : Int) h_26))) (by omega) (by unfold FU; omega) (by
    refine ⟨fun r k hnn => ?_, by simp only [nm, jn, bd, gd, wr_at, Int.reduceEq, Int.reduceNeg, Int.reduceLT, Int.reduceLE, Int.reduceAdd, Int.reduceSub, false_and, true_and, and_true, and_false, and_self, or_false, false_or, or_true, true_or, if_true, if_false, ite_self, not_true_eq_false, not_false_eq_true, true_implies, implies_true], by simp only [nm, jn, bd, gd, wr_at, Int.reduceEq, Int.reduceNeg, Int.reduceLT, Int.reduceLE, Int.reduceAdd, Int.reduceSub, false_and, true_and, and_true, and_false, and_self, or_false, false_or, or_true, true_or, if_true, if_false, ite_self, not_true_eq_false, not_false_eq_true, true_implies, implies_true], fun j hj => absurd hj (by omega), by simp only [sHs, nm, jn, bd, gd, wr_at, Int.reduceEq, Int.reduceNeg, Int.reduceLT, Int.reduceLE, Int.reduceAdd, Int.reduceSub, false_and, true_and, and_true, and_false, and_self, or_false, false_or, or_true, true_or, if_true, if_false, ite_self, not_true_eq_false, not_false_eq_true, true_implies, implies_true]⟩
    have : ¬ r = 33 := fun z => hnn (Or.inl z)
    simp only [this, nm, jn, bd, gd, wr_at, Int.reduceEq, Int.reduceNeg, Int.reduceLT, Int.reduceLE, Int.reduceAdd, Int.reduceSub, false_and, true_and, and_true, and_false, and_self, or_false, false_or, or_true, true_or, if_true, if_false, ite_self, not_true_eq_false, not_false_eq_true, true_implies, implies_true])
  obtain ⟨h3, h4, e3, e4, I4⟩ := one pl h2 (by omega) I2
  rw [if_pos rfl] at e3
  obtain ⟨h5, e5, I5⟩ := k2 (n' - pl) pl h4 FU (bT (g 61 1) pl) (fun p_43 (h_42 : Mem) => some (0, h_42)) (by omega) (Nat.le_refl _) (by unfold FU; omega) I4
  refine ⟨h5, ?_, I5, I5.2.2.1, I5.2.1, ?_, ?_, fun j hj => ⟨(I5.2.2.2.1 j hj).1, ?_⟩⟩
  · unfold F_X7_playWithGuest
    refine (nm_of (e' := bT (g 61 1) pl) ?_).trans ?_
    · rw [eb]
      unfold bT
      by_cases c : (pl : Int) < g 61 1
      · rw [if_pos c, if_pos c, w32_s (by omega) (by omega)]
      · rw [if_neg c, if_neg c]
    · rw [e26, w32_n (by omega)]
      refine (bd_of (h := wr (wr (wr g 33 11 ((n' + 1 : Nat) : Int)) 33 12 (bT (g 61 1) pl)) 33 13 0) (v := 0) rfl).trans ?_
      refine e2.trans ?_
      refine (bd_of e3).trans ?_
      refine (bd_of e4).trans ?_
      exact e5
  · rw [I5.1 34 0 (by unfold scr; omega)]; exact hTu 0 (by omega) (by omega)
  · rw [I5.1 34 1 (by unfold scr; omega)]; exact hTu 1 (by omega) (by omega)
  · obtain ⟨a1, a2, a3⟩ := aq_T hR hn hp hg hj
    have f : ∀ k, h5 (if j = pl then 54 else g 1 1 + 2 + mT g pl j) k = g (if j = pl then 54 else g 1 1 + 2 + mT g pl j) k := fun k => I5.1 _ k (okP_scr.2.2 _ k a3)
    refine ⟨a3, ?_, ?_⟩
    · unfold AQ at a1 ⊢
      simp only [f]; exact a1
    · show h5 (if j = pl then 54 else g 1 1 + 2 + mT g pl j) 0 = _
      rw [f]; exact a2
end Guest
