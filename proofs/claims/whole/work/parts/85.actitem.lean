/-! the parser: an act -/
def rT (at0 : Int) (m : Mem) : Res := jn (fun (K_78 : Mem → Res) => bd (F_X8_isWord 5 m) (fun r_79 (h_80 : Mem) => if (¬ r_79 = 0) then (bd (F_X8_advances  h_80) (fun _ (h_85 : Mem) => bd (F_X8_number 1 250 h_85) (fun r_87 (h_88 : Mem) => nm (wr h_88 58 (at0 + 7) r_87) (fun (h_90 : Mem) => K_78 h_90)))) else (K_78 h_80))) (fun  (h_91 : Mem) => nm (wr h_91 56 11 (w32 ((h_91 56 11) + 1))) (fun (h_92 : Mem) => some (0, h_92)))
def rO (at0 : Int) (m : Mem) : Res := jn (fun (K_58 : Mem → Res) => jn (fun (K_59 : Mem → Res) => bd (F_X8_isWord 3 m) (fun r_67 (h_68 : Mem) => if (¬ r_67 = 0) then (K_59 h_68) else (bd (F_X8_isWord 4 h_68) (fun r_72 (h_73 : Mem) => if (¬ r_72 = 0) then (K_59 h_73) else (K_58 h_73))))) (fun (h_60 : Mem) => nm (α := Int) (if ((h_60 56 7) = 3) then 1 else 2) (fun v_61 => nm (wr h_60 58 (at0 + 6) v_61) (fun (h_63 : Mem) => bd (F_X8_advances  h_63) (fun _ (h_65 : Mem) => K_58 h_65))))) (fun h => rT at0 h)
def rS (at0 : Int) (m : Mem) : Res := jn (fun (K_29 : Mem → Res) => bd (F_X8_isWord 1 m) (fun r_30 (h_31 : Mem) => if (¬ r_30 = 0) then (nm (wr h_31 58 (at0 + 3) 1) (fun (h_35 : Mem) => bd (F_X8_advances  h_35) (fun _ (h_37 : Mem) => K_29 h_37))) else (jn (fun (K_39 : Mem → Res) => bd (F_X8_isWord 2 h_31) (fun r_40 (h_41 : Mem) => if (¬ r_40 = 0) then (bd (F_X8_advances  h_41) (fun _ (h_46 : Mem) => bd (F_X8_number 0 9 h_46) (fun r_48 (h_49 : Mem) => nm (wr h_49 58 (at0 + 4) r_48) (fun (h_51 : Mem) => bd (F_X8_number 0 9 h_51) (fun r_52 (h_53 : Mem) => nm (wr h_53 58 (at0 + 5) r_52) (fun (h_55 : Mem) => K_39 h_55)))))) else (K_39 h_41))) (fun  (h_56 : Mem) => K_29 h_56)))) (fun h => rO at0 h)
def z6 (at0 : Int) (m : Mem) : Mem := wr (wr (wr (wr (wr (wr m 58 (at0 + 3) 0) 58 (at0 + 4) 0) 58 (at0 + 5) 0) 58 (at0 + 6) 0) 58 (at0 + 7) 0) 58 (at0 + 8) 0
theorem readsAct_e {m : Mem} {n : Nat} {at0 : Int} (hn : m 56 11 = (n : Int)) (h9 : n < 9) (ha : at0 = 90 + 9 * (n : Int)) :
    F_X8_readsAct m = bd (F_X8_number 0 5 m) (fun r_2 (h_3 : Mem) => nm (wr h_3 58 (at0 + 0) r_2) (fun (h_6 : Mem) => bd (F_X8_number 1 30 h_6) (fun r_7 (h_8 : Mem) => nm (wr h_8 58 (at0 + 1) r_7) (fun (h_11 : Mem) => bd (F_X8_number 0 30 h_11) (fun r_12 (h_13 : Mem) => nm (wr h_13 58 (at0 + 2) r_12) (fun (h_16 : Mem) => rS at0 (z6 at0 h_16))))))) := by
  unfold F_X8_readsAct
  refine (nm_of (e' := at0) (by rw [hn, w32_s (z := 10 + (n : Int)) (by omega) (by omega), w32_s (by omega) (by omega)]; omega)).trans ?_
  have w : ∀ k : Int, 0 ≤ k → k ≤ 8 → w32 (at0 + k) = at0 + k := fun k h1 h2 => w32_s (by omega) (by omega)
  have g : ∀ (k : Int) (a : Res), 0 ≤ k → k ≤ 8 → gd (0 ≤ at0 + k ∧ at0 + k < 180) a = a := fun k a h1 h2 => gd_t (by omega)
  rw [w 0 (by omega) (by omega), w 1 (by omega) (by omega), w 2 (by omega) (by omega), w 3 (by omega) (by omega), w 4 (by omega) (by omega), w 5 (by omega) (by omega), w 6 (by omega) (by omega), w 7 (by omega) (by omega), w 8 (by omega) (by omega)]
  have g0 : ∀ a : Res, gd (0 ≤ at0 + 0 ∧ at0 + 0 < 180) a = a := fun a => g 0 a (by omega) (by omega)
  have g1 : ∀ a : Res, gd (0 ≤ at0 + 1 ∧ at0 + 1 < 180) a = a := fun a => g 1 a (by omega) (by omega)
  have g2 : ∀ a : Res, gd (0 ≤ at0 + 2 ∧ at0 + 2 < 180) a = a := fun a => g 2 a (by omega) (by omega)
  have g3 : ∀ a : Res, gd (0 ≤ at0 + 3 ∧ at0 + 3 < 180) a = a := fun a => g 3 a (by omega) (by omega)
  have g4 : ∀ a : Res, gd (0 ≤ at0 + 4 ∧ at0 + 4 < 180) a = a := fun a => g 4 a (by omega) (by omega)
  have g5 : ∀ a : Res, gd (0 ≤ at0 + 5 ∧ at0 + 5 < 180) a = a := fun a => g 5 a (by omega) (by omega)
  have g6 : ∀ a : Res, gd (0 ≤ at0 + 6 ∧ at0 + 6 < 180) a = a := fun a => g 6 a (by omega) (by omega)
  have g7 : ∀ a : Res, gd (0 ≤ at0 + 7 ∧ at0 + 7 < 180) a = a := fun a => g 7 a (by omega) (by omega)
  have g8 : ∀ a : Res, gd (0 ≤ at0 + 8 ∧ at0 + 8 < 180) a = a := fun a => g 8 a (by omega) (by omega)
  simp only [g0, g1, g2, g3, g4, g5, g6, g7, g8]
  rfl
section Act
variable {t : Int → Int} {N : Nat} {c m : Mem} {q e : Nat} {at0 d : Int} {n : Nat}
theorem rT_f (w : 0 ≤ m 56 8) : rT at0 m = some (0, wr m 56 11 (w32 (m 56 11 + 1))) := by
  unfold rT
  simp only [jn]
  rw [iw_f w, bd_s, if_neg (fun z => z rfl)]; rfl
theorem rO_f (w : 0 ≤ m 56 8) : rO at0 m = some (0, wr m 56 11 (w32 (m 56 11 + 1))) := by
  unfold rO
  simp only [jn]
  rw [iw_f w, bd_s, if_neg (fun z => z rfl), iw_f w, bd_s, if_neg (fun z => z rfl), rT_f w]
theorem rS_f (w : 0 ≤ m 56 8) : rS at0 m = some (0, wr m 56 11 (w32 (m 56 11 + 1))) := by
  unfold rS
  simp only [jn]
  rw [iw_f w, bd_s, if_neg (fun z => z rfl), iw_f w, bd_s, if_neg (fun z => z rfl), rO_f w]
def FCd (d : Int) (c c' : Mem) : Prop := ∀ r k : Int, ¬ (r = 2 ∧ 2 ≤ k ∧ k ≤ 5) → ¬ (r = d ∧ k = 1) → ¬ ((d + 2 ≤ r ∧ r ≤ d + 10) ∧ 1 ≤ k ∧ k ≤ 10) → c' r k = c r k
def FMd (m m' : Mem) : Prop := ∀ r k : Int, ¬ (r = 56 ∧ ((4 ≤ k ∧ k ≤ 8) ∨ k = 11)) → ¬ (r = 58 ∧ 90 ≤ k) → m' r k = m r k
def DR (d : Int) (c m : Mem) (n : Nat) : Prop := c d 1 = (n : Int) ∧ m 56 11 = (n : Int) ∧ n ≤ 9 ∧ ∀ i : Nat, i < n → CAct c m (d + 2 + i) (10 + i) ∧ WAct m (10 + i) ∧ c (d + 2 + i) 9 = 0
/-- the reference behind the word act -/
def mAct (KM : Mem → Res) (m : Mem) : Res := bd (F_X8_readsAct m) (fun _ (h_46 : Mem) => nm (α := Int) (if ((h_46 56 5) = 3) then 1 else 0) (fun v_49 => bd (F_X8_takes v_49 h_46) (fun _ (h_52 : Mem) => KM h_52)))
theorem mAct_f {m1 m2 : Mem} (KM : Mem → Res) (h : F_X8_readsAct m1 = some (0, m2)) (w : 0 ≤ m2 56 8) : mAct KM m1 = KM m2 := by
  unfold mAct
  rw [h, bd_s]
  refine (nm_of rfl).trans ?_
  rw [tk_f w, bd_s]
theorem forget_e {one : Int} : ∃ c', F_X0_forget one c = some (0, c') ∧ (∀ k : Int, 1 ≤ k → k ≤ 10 → c' one k = 0) ∧ ∀ r k : Int, ¬ (r = one ∧ 1 ≤ k ∧ k ≤ 10) → c' r k = c r k := by
  refine ⟨wr (wr (wr (wr (wr (wr (wr (wr (wr (wr c one 1 0) one 2 0) one 3 0) one 4 0) one 5 0) one 6 0) one 7 0) one 8 0) one 9 0) one 10 0, rfl, fun k h1 h2 => ?_, fun r k z => ?_⟩
  · simp only [wr_at, true_and]
    have kk : k = 1 ∨ k = 2 ∨ k = 3 ∨ k = 4 ∨ k = 5 ∨ k = 6 ∨ k = 7 ∨ k = 8 ∨ k = 9 ∨ k = 10 := by omega
    rcases kk with x | x | x | x | x | x | x | x | x | x <;> subst x <;> simp only [nm, jn, bd, gd, wr_at, Int.reduceEq, Int.reduceNeg, Int.reduceLT, Int.reduceLE, Int.reduceAdd, Int.reduceSub, false_and, true_and, and_true, and_false, and_self, or_false, false_or, or_true, true_or, if_true, if_false, ite_self, not_true_eq_false, not_false_eq_true, true_implies, implies_true]
  · rw [wr_at, if_neg (by omega), wr_at, if_neg (by omega), wr_at, if_neg (by omega), wr_at, if_neg (by omega), wr_at, if_neg (by omega), wr_at, if_neg (by omega), wr_at, if_neg (by omega), wr_at, if_neg (by omega), wr_at, if_neg (by omega), wr_at, if_neg (by omega)]
theorem act_r (T : TokR t N c m q e) (w : m 56 8 = -1) (h4 : c 2 2 = 4) (D : DR d c m n) (h9 : n < 9) (hd : d = 4 ∨ d = 15) (KM : Mem → Res) :
    ∃ v c' m1 m', F_X4_tellAct d c = some (v, c') ∧ F_X8_takes 1 m = some (0, m1) ∧ m1 56 8 = -1 ∧ mAct KM m1 = KM m' ∧ FCd d c c' ∧ FMd m m' ∧
      ((v = 1 ∧ m' 56 8 = -1 ∧ (∃ q' e', TokR t N c' m' q' e' ∧ q < q') ∧ DR d c' m' (n + 1)) ∨ (v = 0 ∧ (0 ≤ m' 56 8 ∧ m' 56 8 ≤ 400) ∧ m' 56 8 = c' 2 3)) := by
  obtain ⟨d1, d2, d3, d4⟩ := D
  have ho : 4 ≤ d + 2 + (n : Int) ∧ d + 2 + (n : Int) ≤ 25 := by omega
  have ha : 90 ≤ 90 + 9 * (n : Int) ∧ 90 + 9 * (n : Int) ≤ 162 := by omega
  obtain ⟨c0, e0, z0, f0⟩ := forget_e (c := c) (one := d + 2 + (n : Int))
  have T0 : TokR t N c0 m q e := T.fr (fun r k x => f0 r k (by omega)) (fun _ _ _ => rfl)
  obtain ⟨c1, m1, q1, e1, a1, a2, a3, a4, T1, lq1⟩ := T0.adv
  have lt := T.lt (by omega)
  have v7 : m 56 7 = 0 := by have k := T.k; unfold TKd at k; omega
  have tk : F_X8_takes 1 m = some (0, m1) := by rw [tk_1 (by omega) (by omega) a2, v7]
  have w1 : m1 56 8 = -1 := by rw [a4 56 8 (by omega)]; exact w
  have n1 : m1 56 11 = (n : Int) := by rw [a4 56 11 (by omega)]; exact d2
  have ra := readsAct_e (m := m1) (n := n) (at0 := 90 + 9 * (n : Int)) n1 h9 rfl
  -- the class, by its parts
  have head : F_X4_tellAct d c = bd (F_X4_tellFigures (d + 2 + (n : Int)) c1) (fun r_11 (h_12 : Mem) => if (¬ r_11 = 0) then (bd (F_X4_tellStage (d + 2 + (n : Int)) h_12) (fun r_16 (h_17 : Mem) => if (¬ r_16 = 0) then (bd (F_X4_tellTone (d + 2 + (n : Int)) h_17) (fun _ (h_22 : Mem) => bd (F_X4_tellTrain (d + 2 + (n : Int)) h_22) (fun r_26 (h_27 : Mem) => if (¬ r_26 = 0) then (if (¬ (h_27 2 2) = 3) then (some (0, h_27)) else (nm (wr h_27 d 1 (w32 ((h_27 d 1) + 1))) (fun (h_32 : Mem) => bd (F_X4_advance  h_32) (fun _ (h_34 : Mem) => some (1, h_34))))) else (some (0, h_27))))) else (some (0, h_17)))) else (some (0, h_12))) := by
    unfold F_X4_tellAct
    rw [d1]
    refine (gd_of (by omega)).trans ?_
    refine (nm_of rfl).trans ?_
    refine (bd_of e0).trans ?_
    refine (bd_of a1).trans ?_
    rfl
  obtain ⟨v2, c2, m2, x1, x2, fc2, fm2, r2⟩ := fig_r (one := d + 2 + (n : Int)) (at0 := 90 + 9 * (n : Int)) T1 (by omega) ho ha (fun h_16 => rS (90 + 9 * (n : Int)) (z6 (90 + 9 * (n : Int)) h_16))
  rw [← ra] at x2
  rw [head, x1, bd_s]
  have fz : ∀ (g : Mem) (r k : Int), ¬ (r = 58 ∧ 90 + 9 * (n : Int) + 3 ≤ k ∧ k ≤ 90 + 9 * (n : Int) + 8) → (z6 (90 + 9 * (n : Int)) g) r k = g r k := fun g r k z => by
    unfold z6
    rw [wr_at, if_neg (by omega), wr_at, if_neg (by omega), wr_at, if_neg (by omega), wr_at, if_neg (by omega), wr_at, if_neg (by omega), wr_at, if_neg (by omega)]
  -- frames
  have FC1 : ∀ c' : Mem, fC (d + 2 + (n : Int)) 1 10 c1 c' → FCd d c c' := fun c' hf r k x y z => by
    rw [hf r k x (by omega), a3 r k x, f0 r k (by omega)]
  have FM1 : ∀ m' : Mem, (∀ r k : Int, ¬ (r = 56 ∧ ((4 ≤ k ∧ k ≤ 8) ∨ k = 11)) → ¬ (r = 58 ∧ 90 + 9 * (n : Int) ≤ k ∧ k ≤ 90 + 9 * (n : Int) + 8) → m' r k = m1 r k) → FMd m m' := fun m' hf r k x y => by
    rw [hf r k x (by omega), a4 r k (by omega)]
  have bad : ∀ (g c' : Mem) (hr : F_X8_readsAct m1 = some (0, wr g 56 11 (w32 (g 56 11 + 1)))) (hg : 0 ≤ g 56 8 ∧ g 56 8 ≤ 400) (he : g 56 8 = c' 2 3) (hf : fM (90 + 9 * (n : Int)) (90 + 9 * (n : Int) + 8) m1 g) (hc : fC (d + 2 + (n : Int)) 1 10 c1 c'), ∃ v c'' m1' m', some ((0 : Int), c') = some (v, c'') ∧ F_X8_takes 1 m = some (0, m1') ∧ m1' 56 8 = -1 ∧ mAct KM m1' = KM m' ∧ FCd d c c'' ∧ FMd m m' ∧ ((v = 1 ∧ m' 56 8 = -1 ∧ (∃ q' e', TokR t N c'' m' q' e' ∧ q < q') ∧ DR d c'' m' (n + 1)) ∨ (v = 0 ∧ (0 ≤ m' 56 8 ∧ m' 56 8 ≤ 400) ∧ m' 56 8 = c'' 2 3)) := by
    intro g c' hr hg he hf hc
    have g8 : (wr g 56 11 (w32 (g 56 11 + 1))) 56 8 = g 56 8 := wr_k (by omega)
    exact ⟨0, c', m1, wr g 56 11 (w32 (g 56 11 + 1)), rfl, tk, w1, mAct_f KM hr (by rw [g8]; exact hg.1), FC1 c' hc, FM1 _ (fun r k x y => by rw [wr_at, if_neg (by omega)]; exact hf r k (by omega) y), Or.inr ⟨rfl, by rw [g8]; exact hg, by rw [g8]; exact he⟩⟩
  rcases r2 with ⟨v1, w2, ⟨q2, e2, T2, lq2⟩, k1, k2, k3⟩ | ⟨v0, w2, w2'⟩
  · rw [v1, if_pos (by omega)]
    have w2 : m2 56 8 = -1 := by rw [w2]; exact w1
    have T2' : TokR t N c2 (z6 (90 + 9 * (n : Int)) m2) q2 e2 := T2.fr (fun _ _ _ => rfl) (fun r k x => fz m2 r k (by omega))
    have zc : ∀ k : Int, 4 ≤ k → k ≤ 10 → c2 (d + 2 + (n : Int)) k = 0 := fun k h1 h2 => by rw [fc2 _ k (by omega) (by omega), a3 _ k (by omega)]; exact z0 k (by omega) h2
    have zm : ∀ k : Int, 3 ≤ k → k ≤ 8 → (z6 (90 + 9 * (n : Int)) m2) 58 (90 + 9 * (n : Int) + k) = 0 := fun k h1 h2 => by
      have kk : k = 3 ∨ k = 4 ∨ k = 5 ∨ k = 6 ∨ k = 7 ∨ k = 8 := by omega
      unfold z6
      rcases kk with x | x | x | x | x | x <;> subst x
      · rw [wr_k (by omega), wr_k (by omega), wr_k (by omega), wr_k (by omega), wr_k (by omega), wr_s]
      · rw [wr_k (by omega), wr_k (by omega), wr_k (by omega), wr_k (by omega), wr_s]
      · rw [wr_k (by omega), wr_k (by omega), wr_k (by omega), wr_s]
      · rw [wr_k (by omega), wr_k (by omega), wr_s]
      · rw [wr_k (by omega), wr_s]
      · rw [wr_s]
    have fmz : fM (90 + 9 * (n : Int)) (90 + 9 * (n : Int) + 8) m1 (z6 (90 + 9 * (n : Int)) m2) := fun r k x y => by rw [fz m2 r k (by omega)]; exact fm2 r k x (by omega)
    have w2z : (z6 (90 + 9 * (n : Int)) m2) 56 8 = -1 := by rw [fz m2 56 8 (by omega)]; exact w2
    obtain ⟨v3, c3, m3, y1, y2, fc3, fm3, r3⟩ := stage_r (one := d + 2 + (n : Int)) (at0 := 90 + 9 * (n : Int)) T2' (by omega) ho ha ⟨zc 4 (by omega) (by omega), zm 3 (by omega) (by omega)⟩ ⟨zc 5 (by omega) (by omega), zm 4 (by omega) (by omega)⟩ ⟨zc 6 (by omega) (by omega), zm 5 (by omega) (by omega)⟩ (rO (90 + 9 * (n : Int)))
    have y2 : rS (90 + 9 * (n : Int)) (z6 (90 + 9 * (n : Int)) m2) = rO (90 + 9 * (n : Int)) m3 := y2
    rw [y1, bd_s]
    have fm13 : fM (90 + 9 * (n : Int)) (90 + 9 * (n : Int) + 8) m1 m3 := fmz.trans fm3 (by omega) (by omega)
    have fc13 : fC (d + 2 + (n : Int)) 1 10 c1 c3 := fc2.trans fc3 (by omega) (by omega)
    rcases r3 with ⟨v1, w3, ⟨q3, e3, T3, lq3⟩, k4, k5, k6⟩ | ⟨v0, w3, w3'⟩
    · rw [v1, if_pos (by omega)]
      have w3 : m3 56 8 = -1 := by rw [w3]; exact w2z
      obtain ⟨c4, m4, u1, u2, fc4, fm4, w4, ⟨q4, e4, T4, lq4⟩, k7⟩ := tone_r (one := d + 2 + (n : Int)) (at0 := 90 + 9 * (n : Int)) T3 (by omega) ho ha ⟨by rw [fc3 _ 7 (by omega) (by omega)]; exact zc 7 (by omega) (by omega), by rw [fm3 58 _ (by omega) (by omega)]; exact zm 6 (by omega) (by omega)⟩ (rT (90 + 9 * (n : Int)))
      have u2 : rO (90 + 9 * (n : Int)) m3 = rT (90 + 9 * (n : Int)) m4 := u2
      rw [u1, bd_s]
      have w4 : m4 56 8 = -1 := by rw [w4]; exact w3
      have fm14 : fM (90 + 9 * (n : Int)) (90 + 9 * (n : Int) + 8) m1 m4 := fm13.trans fm4 (by omega) (by omega)
      have fc14 : fC (d + 2 + (n : Int)) 1 10 c1 c4 := fc13.trans fc4 (by omega) (by omega)
      obtain ⟨v5, c5, m5, s1, s2, fc5, fm5, r5⟩ := train_r (one := d + 2 + (n : Int)) (at0 := 90 + 9 * (n : Int)) T4 (by omega) ho ha ⟨by rw [fc4 _ 8 (by omega) (by omega), fc3 _ 8 (by omega) (by omega)]; exact zc 8 (by omega) (by omega), by rw [fm4 58 _ (by omega) (by omega), fm3 58 _ (by omega) (by omega)]; exact zm 7 (by omega) (by omega)⟩ (fun  (h_91 : Mem) => nm (wr h_91 56 11 (w32 ((h_91 56 11) + 1))) (fun (h_92 : Mem) => some (0, h_92)))
      have s2 : rT (90 + 9 * (n : Int)) m4 = some (0, wr m5 56 11 (w32 (m5 56 11 + 1))) := s2
      have rd : F_X8_readsAct m1 = some (0, wr m5 56 11 (w32 (m5 56 11 + 1))) := ((x2.trans y2).trans u2).trans s2
      rw [s1, bd_s]
      have fm15 : fM (90 + 9 * (n : Int)) (90 + 9 * (n : Int) + 8) m1 m5 := fm14.trans fm5 (by omega) (by omega)
      have fc15 : fC (d + 2 + (n : Int)) 1 10 c1 c5 := fc14.trans fc5 (by omega) (by omega)
      rcases r5 with ⟨v1, w5, ⟨q5, e5, T5, lq5⟩, k8⟩ | ⟨v0, w5, w5'⟩
      · rw [v1, if_pos (by omega)]
        have w5 : m5 56 8 = -1 := by rw [w5]; exact w4
        have n5 : m5 56 11 = (n : Int) := by rw [fm15 56 11 (by omega) (by omega)]; exact n1
        rw [n5, w32_n (by omega)] at rd
        have T6 : TokR t N c5 (wr m5 56 11 ((n + 1 : Nat) : Int)) q5 e5 := T5.fr (fun _ _ _ => rfl) (fun r k x => by rw [wr_at, if_neg (by omega)])
        have w6 : (wr m5 56 11 ((n + 1 : Nat) : Int)) 56 8 = -1 := by rw [wr_k (by omega)]; exact w5
        have kk := T6.k
        unfold TKd at kk
        by_cases sc : c5 2 2 = 3
        · rw [if_neg (fun y => y sc)]
          have cd1 : c5 d 1 = (n : Int) := by rw [fc15 d 1 (by omega) (by omega), a3 d 1 (by omega), f0 d 1 (by omega)]; exact d1
          rw [cd1, w32_n (by omega)]
          have T7 : TokR t N (wr c5 d 1 ((n + 1 : Nat) : Int)) (wr m5 56 11 ((n + 1 : Nat) : Int)) q5 e5 := T6.fr (fun r k x => by rw [wr_at, if_neg (by omega)]) (fun _ _ _ => rfl)
          obtain ⟨c8, m8, q8, e8, b1, b2, b3, b4, T8, lq8⟩ := T7.adv
          have lt5 := T5.lt (by omega)
          have ma : mAct KM m1 = KM m8 := by
            unfold mAct
            rw [rd, bd_s]
            refine (nm_of rfl).trans ?_
            rw [if_pos (show (wr m5 56 11 ((n + 1 : Nat) : Int)) 56 5 = 3 by omega), tk_1 (by omega) (by omega) b2, bd_s]
          refine ⟨1, c8, m1, m8, ?_, tk, w1, ma, fun r k x y z => ?_, FM1 m8 (fun r k x y => by rw [b4 r k (by omega), wr_at, if_neg (by omega)]; exact fm15 r k (by omega) y), Or.inl ⟨rfl, by rw [b4 56 8 (by omega)]; exact w6, ⟨q8, e8, T8, by omega⟩, ?_⟩⟩
          · refine (nm_of rfl).trans ?_
            refine (bd_of b1).trans ?_
            rfl
          · rw [b3 r k x, wr_at, if_neg y]; exact FC1 c5 fc15 r k x y z
          · have cf : ∀ (r k : Int), 4 ≤ r → ¬ (r = d ∧ k = 1) → c8 r k = c5 r k := fun r k x y => by rw [b3 r k (by omega), wr_at, if_neg y]
            have mf : ∀ k : Int, m8 58 k = m5 58 k := fun k => by rw [b4 58 k (by omega), wr_o (by omega)]
            refine ⟨by rw [b3 d 1 (by omega), wr_s], by rw [b4 56 11 (by omega), wr_s], by omega, fun i hi => ?_⟩
            by_cases z : i = n
            · subst z
              have E : ∀ k : Int, 9 * (10 + (i : Int)) + k = 90 + 9 * (i : Int) + k := fun k => by omega
              have E0 : 9 * (10 + (i : Int)) = 90 + 9 * (i : Int) + 0 := by omega
              have g0 : c5 (d + 2 + (i : Int)) 1 = m5 58 (90 + 9 * (i : Int) + 0) ∧ 0 ≤ m5 58 (90 + 9 * (i : Int) + 0) ∧ m5 58 (90 + 9 * (i : Int) + 0) ≤ 5 := by
                rw [fc5 _ 1 (by omega) (by omega), fc4 _ 1 (by omega) (by omega), fc3 _ 1 (by omega) (by omega), fm5 58 _ (by omega) (by omega), fm4 58 _ (by omega) (by omega), fm3 58 _ (by omega) (by omega), fz m2 58 _ (by omega)]; exact k1
              have g1 : c5 (d + 2 + (i : Int)) 2 = m5 58 (90 + 9 * (i : Int) + 1) ∧ 1 ≤ m5 58 (90 + 9 * (i : Int) + 1) ∧ m5 58 (90 + 9 * (i : Int) + 1) ≤ 30 := by
                rw [fc5 _ 2 (by omega) (by omega), fc4 _ 2 (by omega) (by omega), fc3 _ 2 (by omega) (by omega), fm5 58 _ (by omega) (by omega), fm4 58 _ (by omega) (by omega), fm3 58 _ (by omega) (by omega), fz m2 58 _ (by omega)]; exact k2
              have g2 : c5 (d + 2 + (i : Int)) 3 = m5 58 (90 + 9 * (i : Int) + 2) ∧ 0 ≤ m5 58 (90 + 9 * (i : Int) + 2) ∧ m5 58 (90 + 9 * (i : Int) + 2) ≤ 30 := by
                rw [fc5 _ 3 (by omega) (by omega), fc4 _ 3 (by omega) (by omega), fc3 _ 3 (by omega) (by omega), fm5 58 _ (by omega) (by omega), fm4 58 _ (by omega) (by omega), fm3 58 _ (by omega) (by omega), fz m2 58 _ (by omega)]; exact k3
              have g3 : c5 (d + 2 + (i : Int)) 4 = m5 58 (90 + 9 * (i : Int) + 3) ∧ (m5 58 (90 + 9 * (i : Int) + 3) = 0 ∨ m5 58 (90 + 9 * (i : Int) + 3) = 1) := by
                rw [fc5 _ 4 (by omega) (by omega), fc4 _ 4 (by omega) (by omega), fm5 58 _ (by omega) (by omega), fm4 58 _ (by omega) (by omega)]; exact k4
              have g4 : c5 (d + 2 + (i : Int)) 5 = m5 58 (90 + 9 * (i : Int) + 4) ∧ 0 ≤ m5 58 (90 + 9 * (i : Int) + 4) ∧ m5 58 (90 + 9 * (i : Int) + 4) ≤ 9 := by
                rw [fc5 _ 5 (by omega) (by omega), fc4 _ 5 (by omega) (by omega), fm5 58 _ (by omega) (by omega), fm4 58 _ (by omega) (by omega)]; exact k5
              have g5 : c5 (d + 2 + (i : Int)) 6 = m5 58 (90 + 9 * (i : Int) + 5) ∧ 0 ≤ m5 58 (90 + 9 * (i : Int) + 5) ∧ m5 58 (90 + 9 * (i : Int) + 5) ≤ 9 := by
                rw [fc5 _ 6 (by omega) (by omega), fc4 _ 6 (by omega) (by omega), fm5 58 _ (by omega) (by omega), fm4 58 _ (by omega) (by omega)]; exact k6
              have g6 : c5 (d + 2 + (i : Int)) 7 = m5 58 (90 + 9 * (i : Int) + 6) ∧ 0 ≤ m5 58 (90 + 9 * (i : Int) + 6) ∧ m5 58 (90 + 9 * (i : Int) + 6) ≤ 2 := by
                rw [fc5 _ 7 (by omega) (by omega), fm5 58 _ (by omega) (by omega)]; exact k7
              have g8 : c5 (d + 2 + (i : Int)) 10 = 0 ∧ m5 58 (90 + 9 * (i : Int) + 8) = 0 := by
                rw [fc5 _ 10 (by omega) (by omega), fc4 _ 10 (by omega) (by omega), fc3 _ 10 (by omega) (by omega), fm5 58 _ (by omega) (by omega), fm4 58 _ (by omega) (by omega), fm3 58 _ (by omega) (by omega)]
                exact ⟨zc 10 (by omega) (by omega), zm 8 (by omega) (by omega)⟩
              have g9 : c5 (d + 2 + (i : Int)) 9 = 0 := by
                rw [fc5 _ 9 (by omega) (by omega), fc4 _ 9 (by omega) (by omega), fc3 _ 9 (by omega) (by omega)]
                exact zc 9 (by omega) (by omega)
              refine ⟨?_, ?_, by rw [cf _ 9 (by omega) (by omega)]; exact g9⟩
              · unfold CAct
                rw [E 1, E 2, E 3, E 4, E 5, E 6, E 7, E 8, E0, mf, mf, mf, mf, mf, mf, mf, mf, mf, cf _ 1 (by omega) (by omega), cf _ 2 (by omega) (by omega), cf _ 3 (by omega) (by omega), cf _ 4 (by omega) (by omega), cf _ 5 (by omega) (by omega), cf _ 6 (by omega) (by omega), cf _ 7 (by omega) (by omega), cf _ 8 (by omega) (by omega), cf _ 10 (by omega) (by omega)]
                exact ⟨g0.1, g1.1, g2.1, g3.1, g4.1, g5.1, g6.1, k8.1, by rw [g8.1, g8.2]⟩
              · unfold WAct
                rw [E 1, E 2, E 3, E 4, E 5, E 6, E 7, E 8, E0, mf, mf, mf, mf, mf, mf, mf, mf, mf]
                exact ⟨g0.2, g1.2, g2.2, g3.2, g4.2, g5.2, g6.2, k8.2, by rw [g8.2]; omega⟩
            · have q4' := d4 i (by omega)
              have ca : ∀ k : Int, c8 (d + 2 + (i : Int)) k = c (d + 2 + (i : Int)) k := fun k => by
                rw [cf _ k (by omega) (by omega), fc15 _ k (by omega) (by omega), a3 _ k (by omega), f0 _ k (by omega)]
              have mb : ∀ k : Int, k < 90 + 9 * (n : Int) → m8 58 k = m 58 k := fun k hk => by
                rw [mf, fm15 58 k (by omega) (by omega), a4 58 k (by omega)]
              refine ⟨?_, ?_, by rw [ca]; exact q4'.2.2⟩
              · have x := q4'.1
                unfold CAct at x ⊢
                simp only [ca]
                rw [mb _ (by omega), mb _ (by omega), mb _ (by omega), mb _ (by omega), mb _ (by omega), mb _ (by omega), mb _ (by omega), mb _ (by omega), mb _ (by omega)]
                exact x
              · have x := q4'.2.1
                unfold WAct at x ⊢
                rw [mb _ (by omega), mb _ (by omega), mb _ (by omega), mb _ (by omega), mb _ (by omega), mb _ (by omega), mb _ (by omega), mb _ (by omega), mb _ (by omega)]
                exact x
        · rw [if_pos sc]
          have q6 := T6.2.2.2.2.2.2.1
          have p6 := T6.2.2.2.2.2.2.2.1
          have ma : mAct KM m1 = KM (wr (wr m5 56 11 ((n + 1 : Nat) : Int)) 56 8 (q5 : Int)) := by
            unfold mAct
            rw [rd, bd_s]
            refine (nm_of rfl).trans ?_
            rw [if_neg (show ¬ (wr m5 56 11 ((n + 1 : Nat) : Int)) 56 5 = 3 by omega), tk_0 (by omega), bd_s, p6]
          exact ⟨0, c5, m1, _, rfl, tk, w1, ma, FC1 c5 fc15, FM1 _ (fun r k x y => by rw [wr_at, if_neg (by omega), wr_at, if_neg (by omega)]; exact fm15 r k (by omega) y), Or.inr ⟨rfl, by rw [wr_s]; have := T6.2.2.2.2.1; have := T6.2.2.2.2.2.2.2.2.2.2.1; have := T6.2.2.2.2.2.2.2.2.2.2.2.1; omega, by rw [wr_s, q6]⟩⟩
      · rw [v0, if_neg (fun y => y rfl)]
        exact bad m5 c5 rd w5' w5 fm15 fc15
    · rw [v0, if_neg (fun y => y rfl)]
      exact bad m3 c3 ((x2.trans y2).trans (rO_f w3'.1)) w3' w3 fm13 fc13
  · rw [v0, if_neg (fun y => y rfl)]
    have wz : 0 ≤ (z6 (90 + 9 * (n : Int)) m2) 56 8 ∧ (z6 (90 + 9 * (n : Int)) m2) 56 8 ≤ 400 := by rw [fz m2 56 8 (by omega)]; exact w2'
    refine bad (z6 (90 + 9 * (n : Int)) m2) c2 (x2.trans (rS_f wz.1)) wz (by rw [fz m2 56 8 (by omega)]; exact w2) (fun r k x y => by rw [fz m2 r k (by omega)]; exact fm2 r k x (by omega)) (fun r k x y => fc2 r k x (by omega))
end Act
