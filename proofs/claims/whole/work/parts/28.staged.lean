/-! the reference's isStaged -/
/-- the first rule that fails up to a place, and where -/
def sFl (q : Nat → Int → Int) (m : Nat → Int) (T : Int → Int) (b : Int) (n : Nat) (x : Int) : Nat → Int × Int
  | 0 => (0, x)
  | p + 1 => if 0 < sIt q m T b n p ∧ ((sFl q m T b n x p).1 = 0 ∨ sIt q m T b n p < (sFl q m T b n x p).1) then (sIt q m T b n p, (p : Int)) else sFl q m T b n x p
def m8 (h : Mem) : Nat → Int := fun p => h 64 p
def ssc (r k : Int) : Prop := r = 65 ∨ r = 66 ∨ (r = 56 ∧ (k = 28 ∨ k = 29))
theorem its_e {h : Mem} {n p : Nat} {b : Int} (hR : R8 h n) (hb : h 56 19 = b) (h65 : h 65 p = sGp (q8 h) (h 59) b p) (h66 : h 66 p = sSt (q8 h) (h 59) b p) (hp : p < n) (K : Int → Mem → Res) :
    nm (α := Int) (if ((0 < (p : Int)) ∧ (¬ ((0 < (h 56 19)) ∧ ((p : Int) = (h 56 19))))) then 1 else 0) (fun v_7 => jn (fun (K_11 : Int → Mem → Res) => jn (fun (K_12 : Mem → Res) => if (0 < (p : Int)) then (gd (0 ≤ (p : Int) ∧ (p : Int) < 10) (bd (F_X8_of (h 64 (p : Int)) 8 h) (fun r_16 (h_17 : Mem) => gd (0 ≤ (w32 ((p : Int) - 1)) ∧ (w32 ((p : Int) - 1)) < 10) (if ((iand (ishr r_16 (h_17 64 (w32 ((p : Int) - 1)))) 1) = 1) then (K_11 1 h_17) else (K_12 h_17))))) else (K_12 h)) (fun (h_13 : Mem) => K_11 0 h_13)) (fun v_22 (h_21 : Mem) => gd (0 ≤ (p : Int) ∧ (p : Int) < 10) (bd (F_X8_of (h_21 64 (p : Int)) 7 h_21) (fun r_24 (h_25 : Mem) => jn (fun (K_27 : Int → Mem → Res) => if ((h_25 59 0) < (h_25 65 (p : Int))) then (K_27 1 h_25) else (jn (fun (K_29 : Int → Mem → Res) => jn (fun (K_30 : Mem → Res) => if (¬ v_7 = 0) then (bd (F_X8_of (h_25 64 (p : Int)) 0 h_25) (fun r_57 (h_58 : Mem) => gd (0 ≤ (w32 ((p : Int) - 1)) ∧ (w32 ((p : Int) - 1)) < 10) (bd (F_X8_of (h_58 64 (w32 ((p : Int) - 1))) 0 h_58) (fun r_61 (h_62 : Mem) => if (r_57 = r_61) then (K_29 2 h_62) else (K_30 h_62))))) else (K_30 h_25)) (fun (h_31 : Mem) => jn (fun (K_32 : Int → Mem → Res) => if (¬ v_22 = 0) then (K_32 3 h_31) else (jn (fun (K_33 : Int → Mem → Res) => jn (fun (K_34 : Mem → Res) => if (0 < r_24) then (bd (F_X8_end (p : Int) h_31) (fun r_47 (h_48 : Mem) => if (r_24 < r_47) then (K_33 4 h_48) else (K_34 h_48))) else (K_34 h_31)) (fun (h_35 : Mem) => jn (fun (K_36 : Int → Mem → Res) => jn (fun (K_37 : Mem → Res) => if ((p : Int) = (w32 ((h_35 56 18) - 1))) then (bd (F_X8_end (p : Int) h_35) (fun r_40 (h_41 : Mem) => if ((h_41 59 1) < r_40) then (K_36 5 h_41) else (K_37 h_41))) else (K_37 h_35)) (fun (h_38 : Mem) => K_36 0 h_38)) (fun v_45 (h_44 : Mem) => K_33 v_45 h_44))) (fun v_52 (h_51 : Mem) => K_32 v_52 h_51))) (fun v_55 (h_54 : Mem) => K_29 v_55 h_54))) (fun v_66 (h_65 : Mem) => K_27 v_66 h_65))) (fun v_68 (h_67 : Mem) => K v_68 h_67))))) = K (sIt (q8 h) (m8 h) (h 59) b n p) h := by
  have h10 := hR.1
  have rp := hR.2.2.1 p hp
  have e8 : F_X8_of (h 64 p) 8 h = some (q8 h p 8, h) := of_e rp.1 (by omega) (by omega) (by omega)
  have e7 : F_X8_of (h 64 p) 7 h = some (q8 h p 7, h) := of_e rp.1 (by omega) (by omega) (by omega)
  have e0 : F_X8_of (h 64 p) 0 h = some (q8 h p 0, h) := of_e rp.1 (by omega) (by omega) (by omega)
  have en := end_e hR rfl rfl hp h66
  have g : 0 ≤ (p : Int) ∧ (p : Int) < 10 := by omega
  have w1 : w32 ((n : Int) - 1) = (n : Int) - 1 := w32_s (by omega) (by omega)
  have n1 : (p : Int) = (n : Int) - 1 ↔ p + 1 = n := by omega
  unfold sIt
  cases p with
  | zero =>
    have z1 : ¬ ((0 < ((0 : Nat) : Int)) ∧ ¬ (0 < h 56 19 ∧ ((0 : Nat) : Int) = h 56 19)) := by omega
    have z2 : ¬ (0 < ((0 : Nat) : Int)) := by omega
    have z3 : ¬ ((0 < (0 : Nat)) ∧ ¬ (0 < b ∧ ((0 : Nat) : Int) = b)) := by omega
    have z4 : ¬ (0 < (0 : Nat)) := by omega
    simp only [nm, jn, e7, e0, en, bd, gd, g, h65, hR.2.1, w1, n1, z1, z2, z3, z4, and_self, false_and, if_true, if_false, not_true_eq_false]
    generalize sEn (q8 h) (h 59) b (0 + 1) = ee
    by_cases a1 : h 59 0 < sGp (q8 h) (h 59) b 0
    · simp only [a1, if_true]
    · by_cases a4 : 0 < q8 h 0 7
      · by_cases c4 : q8 h 0 7 < ee
        · simp only [a1, a4, c4, and_self, if_true, if_false]
        · by_cases a5 : 0 + 1 = n
          · by_cases c5 : h 59 1 < ee
            · simp only [a1, a4, c4, a5, c5, and_false, and_self, if_true, if_false]
            · simp only [a1, a4, c4, a5, c5, and_false, if_true, if_false]
          · simp only [a1, a4, c4, a5, and_false, false_and, if_true, if_false]
      · by_cases a5 : 0 + 1 = n
        · by_cases c5 : h 59 1 < ee
          · simp only [a1, a4, a5, c5, false_and, and_self, if_true, if_false]
          · simp only [a1, a4, a5, c5, false_and, and_false, if_true, if_false]
        · simp only [a1, a4, a5, false_and, if_true, if_false]
  | succ j =>
    have rj := hR.2.2.1 j (by omega)
    have e0' : F_X8_of (h 64 j) 0 h = some (q8 h j 0, h) := of_e rj.1 (by omega) (by omega) (by omega)
    have wj : w32 (((j + 1 : Nat) : Int) - 1) = (j : Int) := w32_p (by omega)
    have gj : 0 ≤ (j : Int) ∧ (j : Int) < 10 := by clear wj; omega
    have z2 : 0 < ((j + 1 : Nat) : Int) := by clear wj; omega
    have z4 : 0 < j + 1 := by clear wj; omega
    have j1 : j + 1 - 1 = j := by clear wj; omega
    simp only [nm, jn, e8, e7, e0, e0', en, bd, gd, g, gj, hb, h65, hR.2.1, w1, wj, n1, z2, z4, j1, m8, and_self, true_and, if_true]
    clear wj
    generalize q8 h (j + 1) 8 = x8
    generalize sGp (q8 h) (h 59) b (j + 1) = gp
    generalize q8 h (j + 1) 7 = x7
    generalize q8 h (j + 1) 0 = x0
    generalize q8 h j 0 = y0
    generalize sEn (q8 h) (h 59) b (j + 1 + 1) = ee
    generalize iand (ishr x8 (h 64 j)) 1 = fe
    have o1 : ¬ ((1 : Int) = 0) := by omega
    by_cases a1 : h 59 0 < gp
    · simp only [a1, if_true, ite_self]
    by_cases cb : 0 < b ∧ ((j + 1 : Nat) : Int) = b <;> by_cases c2 : x0 = y0 <;> by_cases c3 : fe = 1 <;> by_cases a4 : 0 < x7 <;> by_cases c4 : x7 < ee <;> by_cases a5 : j + 1 + 1 = n <;> by_cases c5 : h 59 1 < ee <;>
      simp only [a1, cb, c2, c3, a4, c4, a5, c5, o1, and_self, and_true, and_false, true_and, false_and, if_true, if_false, not_true_eq_false, not_false_eq_true]
def fsc (r k : Int) : Prop := r = 56 ∧ (k = 28 ∨ k = 29)
theorem staged_l {h : Mem} {n : Nat} {b x : Int} (hR : R8 h n) (hb : h 56 19 = b) (h65 : ∀ p : Nat, p < n → h 65 p = sGp (q8 h) (h 59) b p ∧ h 66 p = sSt (q8 h) (h 59) b p) :
    ∀ (d p : Nat) (h1 : Mem) (f : Nat) (Kx : Int → Mem → Res), p + d = n → d < f → Fr fsc h h1 → (h1 56 28, h1 56 29) = sFl (q8 h) (m8 h) (h 59) b n x p →
      ∃ h2, L_X8_isStaged_1 Kx f p h1 = Kx n h2 ∧ Fr fsc h h2 ∧ (h2 56 28, h2 56 29) = sFl (q8 h) (m8 h) (h 59) b n x n := by
  have h10 := hR.1
  intro d
  induction d with
  | zero =>
    intro p h1 f Kx hp hf hF hI
    obtain ⟨f, rfl⟩ : ∃ g, f = g + 1 := ⟨f - 1, by omega⟩
    have hpn : p = n := by omega
    subst hpn
    refine ⟨h1, ?_, hF, hI⟩
    rw [L_X8_isStaged_1, hF 56 18 (by unfold fsc; omega), hR.2.1, if_neg (by omega)]
  | succ d ih =>
    intro p h1 f Kx hp hf hF hI
    obtain ⟨f, rfl⟩ : ∃ g, f = g + 1 := ⟨f - 1, by omega⟩
    have hpn : p < n := by omega
    have f58 : ∀ k, h1 58 k = h 58 k := fun k => hF 58 k (by unfold fsc; omega)
    have f59 : ∀ k, h1 59 k = h 59 k := fun k => hF 59 k (by unfold fsc; omega)
    have f64 : ∀ k, h1 64 k = h 64 k := fun k => hF 64 k (by unfold fsc; omega)
    have R1 : R8 h1 n := R8_fr hR (hF 56 18 (by unfold fsc; omega)) f58 f59 f64
    have b1 : h1 56 19 = b := by rw [hF 56 19 (by unfold fsc; omega)]; exact hb
    have eq1 : q8 h1 = q8 h := q8_fr f58 f64
    have em1 : m8 h1 = m8 h := by funext p; exact f64 p
    have e59 : h1 59 = h 59 := funext f59
    have g1 : h1 65 p = sGp (q8 h1) (h1 59) b p := by rw [eq1, e59, hF 65 p (by unfold fsc; omega)]; exact (h65 p hpn).1
    have g2 : h1 66 p = sSt (q8 h1) (h1 59) b p := by rw [eq1, e59, hF 66 p (by unfold fsc; omega)]; exact (h65 p hpn).2
    have i1 : h1 56 28 = (sFl (q8 h) (m8 h) (h 59) b n x p).1 := by rw [← hI]
    have ite := fun K => its_e (n := n) R1 b1 g1 g2 hpn K
    rw [eq1, em1, e59] at ite
    by_cases c : 0 < sIt (q8 h) (m8 h) (h 59) b n p ∧ (h1 56 28 = 0 ∨ sIt (q8 h) (m8 h) (h 59) b n p < h1 56 28)
    · obtain ⟨h2, e2, F2, I2⟩ := ih (p + 1) (wr (wr h1 56 28 (sIt (q8 h) (m8 h) (h 59) b n p)) 56 29 p) f Kx (by omega) (by omega) (fun r k hn => by
        have n1 : ¬ (r = 56 ∧ k = 29) := fun z => hn ⟨z.1, Or.inr z.2⟩
        have n2 : ¬ (r = 56 ∧ k = 28) := fun z => hn ⟨z.1, Or.inl z.2⟩
        rw [wr_at, if_neg n1, wr_at, if_neg n2]; exact hF r k hn) (by
        rw [sFl, if_pos (by rw [← i1]; exact c)]
        simp only [nm, jn, bd, gd, wr_at, Int.reduceEq, Int.reduceNeg, Int.reduceLT, Int.reduceLE, Int.reduceAdd, Int.reduceSub, false_and, true_and, and_true, and_false, and_self, or_false, false_or, or_true, true_or, if_true, if_false, ite_self, not_true_eq_false, not_false_eq_true, true_implies, implies_true])
      refine ⟨h2, ?_, F2, I2⟩
      rw [L_X8_isStaged_1, hF 56 18 (by unfold fsc; omega), hR.2.1, if_pos (by omega)]
      refine (ite _).trans ?_
      simp only [nm, jn, c, and_self, if_true]
      rw [w32_n (by omega)]
      exact e2
    · obtain ⟨h2, e2, F2, I2⟩ := ih (p + 1) h1 f Kx (by omega) (by omega) hF (by
        rw [sFl, if_neg (by rw [← i1]; exact c)]; exact hI)
      refine ⟨h2, ?_, F2, I2⟩
      rw [L_X8_isStaged_1, hF 56 18 (by unfold fsc; omega), hR.2.1, if_pos (by omega)]
      refine (ite _).trans ?_
      simp only [nm, jn]
      rw [if_neg c, w32_n (by omega)]
      exact e2
/-- the reference's isStaged -/
theorem staged8_e {h : Mem} {n : Nat} {b : Int} (hR : R8 h n) (hb : h 56 19 = b) :
    ∃ h1, F_X8_isStaged h = some (if (sFl (q8 h) (m8 h) (h 59) b n (h 56 29) n).1 = 0 then 1 else 0, h1) ∧ Fr ssc h h1 ∧ (h1 56 28, h1 56 29) = sFl (q8 h) (m8 h) (h 59) b n (h 56 29) n ∧ (∀ p : Nat, p < n → h1 65 p = sGp (q8 h) (h 59) b p ∧ h1 66 p = sSt (q8 h) (h 59) b p) := by
  obtain ⟨h1, e1, F1, I1⟩ := lays_e hR hb
  have F2 : Fr ssc h (wr h1 56 28 0) := fun r k hn => by
    have n1 : ¬ (r = 56 ∧ k = 28) := fun z => hn (Or.inr (Or.inr ⟨z.1, Or.inl z.2⟩))
    rw [wr_at, if_neg n1]
    exact F1 r k (fun z => hn (z.elim Or.inl (fun y => Or.inr (Or.inl y))))
  have f58 : ∀ k, (wr h1 56 28 0) 58 k = h 58 k := fun k => F2 58 k (by unfold ssc; omega)
  have f59 : ∀ k, (wr h1 56 28 0) 59 k = h 59 k := fun k => F2 59 k (by unfold ssc; omega)
  have f64 : ∀ k, (wr h1 56 28 0) 64 k = h 64 k := fun k => F2 64 k (by unfold ssc; omega)
  have R2 : R8 (wr h1 56 28 0) n := R8_fr hR (F2 56 18 (by unfold ssc; omega)) f58 f59 f64
  have eq1 : q8 (wr h1 56 28 0) = q8 h := q8_fr f58 f64
  have em1 : m8 (wr h1 56 28 0) = m8 h := by funext p; exact f64 p
  have e59 : (wr h1 56 28 0) 59 = h 59 := funext f59
  have b2 : (wr h1 56 28 0) 56 19 = b := by rw [F2 56 19 (by unfold ssc; omega)]; exact hb
  have k := staged_l (x := h 56 29) R2 b2 (fun p hp => by
    rw [eq1, e59, wr_o (by omega), wr_o (by omega)]; exact I1 p hp)
  rw [eq1, em1, e59] at k
  obtain ⟨h2, e2, F3, I2⟩ := k n 0 (wr h1 56 28 0) FU (fun p_81 (h_80 : Mem) => if ((h_80 56 28) = 0) then (some (1, h_80)) else (some (0, h_80))) (by omega) (by have := hR.1; unfold FU; omega) Fr.rfl (by
    rw [sFl, wr_s, wr_k (by omega), F1 56 29 (by unfold lsc; omega)])
  have i1 : h2 56 28 = (sFl (q8 h) (m8 h) (h 59) b n (h 56 29) n).1 := by rw [← I2]
  refine ⟨h2, ?_, F2.trans (F3.mono (fun r k z => Or.inr (Or.inr z))), I2, fun p hp => ?_⟩
  · unfold F_X8_isStaged
    refine (bd_of e1).trans ?_
    refine Eq.trans e2 ?_
    rw [← i1]
    by_cases c : h2 56 28 = 0
    · rw [if_pos c, if_pos c]
    · rw [if_neg c, if_neg c]
  · rw [F3 65 p (by unfold fsc; omega), F3 66 p (by unfold fsc; omega), wr_o (by omega), wr_o (by omega)]
    exact I1 p hp
