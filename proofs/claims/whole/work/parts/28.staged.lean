/-! the reference's isStaged -/
/-- the first rule that fails up to a place, and where -/
def sFl (q : Nat → Int → Int) (m : Nat → Int) (T : Int → Int) (b : Int) (n : Nat) (x : Int) : Nat → Int × Int
  | 0 => (0, x)
  | p + 1 => if 0 < sIt q m T b n p ∧ ((sFl q m T b n x p).1 = 0 ∨ sIt q m T b n p < (sFl q m T b n x p).1) then (sIt q m T b n p, (p : Int)) else sFl q m T b n x p
def m8 (h : Mem) : Nat → Int := fun p => h 64 p
def ssc (r k : Int) : Prop := r = 65 ∨ r = 66 ∨ (r = 56 ∧ (k = 28 ∨ k = 29))
theorem its_e {h : Mem} {n p : Nat} {b : Int} (hR : R8 h n) (hb : h 56 19 = b) (h65 : h 65 p = sGp (q8 h) (h 59) b p) (h66 : h 66 p = sSt (q8 h) (h 59) b p) (hp : p < n) (K : Int → Mem → Res) :
    nm (α := Int) (if ((0 < (p : Int)) ∧ (¬ ((0 < (h 56 19)) ∧ ((p : Int) = (h 56 19))))) then 1 else 0) (fun v_7 => jn (fun (K_11 : Int → Mem → Res) => jn (fun (K_12 : Mem → Res) => if (0 < (p : Int)) then (gd (0 ≤ (p : Int) ∧ (p : Int) < 10) (bd (F_X8_of (h 64 (p : Int)) 8 h) (fun r_16 (h_17 : Mem) => gd (0 ≤ (w32 ((p : Int) - 1)) ∧ (w32 ((p : Int) - 1)) < 10) (if ((iand (ishr r_16 (h_17 64 (w32 ((p : Int) - 1)))) 1) = 1) then (K_11 1 h_17) else (K_12 h_17))))) else (K_12 h)) (fun (h_13 : Mem) => K_11 0 h_13)) (fun v_22 (h_21 : Mem) => gd (0 ≤ (p : Int) ∧ (p : Int) < 10) (bd (F_X8_of (h_21 64 (p : Int)) 7 h_21) (fun r_24 (h_25 : Mem) => jn (fun (K_27 : Int → Mem → Res) => if ((h_25 59 0) < (h_25 65 (p : Int))) then (K_27 1 h_25) else (jn (fun (K_29 : Int → Mem → Res) => jn (fun (K_30 : Mem → Res) => if (¬ v_7 = 0) then (bd (F_X8_of (h_25 64 (p : Int)) 0 h_25) (fun r_57 (h_58 : Mem) => gd (0 ≤ (w32 ((p : Int) - 1)) ∧ (w32 ((p : Int) - 1)) < 10) (bd (F_X8_of (h_58 64 (w32 ((p : Int) - 1))) 0 h_58) (fun r_61 (h_62 : Mem) => if (r_57 = r_61) then (K_29 2 h_62) else (K_30 h_62))))) else (K_30 h_25)) (fun (h_31 : Mem) => jn (fun (K_32 : Int → Mem → Res) => if (¬ v_22 = 0) then (K_32 3 h_31) else (jn (fun (K_33 : Int → Mem → Res) => jn (fun (K_34 : Mem → Res) => if (0 < r_24) then (bd (F_X8_end (p : Int) h_31) (fun r_47 (h_48 : Mem) => if (r_24 < r_47) then (K_33 4 h_48) else (K_34 h_48))) else (K_34 h_31)) (fun (h_35 : Mem) => jn (fun (K_36 : Int → Mem → Res) => jn (fun (K_37 : Mem → Res) => if ((p : Int) = (w32 ((h_35 56 18) - 1))) then (bd (F_X8_end (p : Int) h_35) (fun r_40 (h_41 : Mem) => if ((h_41 59 1) < r_40) then (K_36 5 h_41) else (K_37 h_41))) else (K_37 h_35)) (fun (h_38 : Mem) => K_36 0 h_38)) (fun v_45 (h_44 : Mem) => K_33 v_45 h_44))) (fun v_52 (h_51 : Mem) => K_32 v_52 h_51))) (fun v_55 (h_54 : Mem) => K_29 v_55 h_54))) (fun v_66 (h_65 : Mem) => K_27 v_66 h_65))) (fun v_68 (h_67 : Mem) => K v_68 h_67))))) = K (sIt (q8 h) (m8 h) (h 59) b n p) h := by
  have h10 := hR.1
  have rp := hR.2.2.1 p hp
  have e8 : F_X8_of (h 64 p) 8 h = some (q8 h p 8, h) := of_e rp.1 (by omega) (by omega) (by omega)
  have e7 : F_X8_of (h 64 p) 7 h = some (q8 h p 7, h) := of_e rp.1 (by omega) (by omega) (by omega)
  have e0 : F_X8_of (h 64 p) 0 h = some (q8 h p 0, h) := of_e rp.1 (by omega) (by omega) (by omega)
  have en := end_e hR rfl rfl hp h66
  have g : 0 ≤ (p : Int) ∧ (p : Int) < 10 := by omega
  have w1 : w32 ((n : Int) - 1) = (n : Int) - 1 := w32_s (by omega) (by omega)
  have n1 : (p : Int) = (n : Int) - 1 ↔ p + 1 = n := by omega
  -- the tail: rules 4 and 5
  have e5 : ∀ (K36 : Int → Mem → Res), (if p + 1 = n then (if h 59 1 < sEn (q8 h) (h 59) b (p + 1) then K36 5 h else K36 0 h) else K36 0 h) = K36 (if p + 1 = n ∧ h 59 1 < sEn (q8 h) (h 59) b (p + 1) then 5 else 0) h := by
    intro K36
    by_cases a : p + 1 = n
    · by_cases c : h 59 1 < sEn (q8 h) (h 59) b (p + 1)
      · rw [if_pos a, if_pos c, if_pos ⟨a, c⟩]
      · rw [if_pos a, if_neg c, if_neg (fun z => c z.2)]
    · rw [if_neg a, if_neg (fun z => a z.1)]
  unfold sIt
  cases p with
  | zero =>
    simp only [nm, jn, e7, e0, en, bd, gd, g, hb, h65, hR.2.1, w1, n1, e5, Int.reduceEq, and_self, false_and, Int.lt_irrefl, Nat.lt_irrefl, Int.natCast_zero, Int.ofNat_zero, if_true, if_false, not_true_eq_false, not_false_eq_true, Nat.cast_ofNat_Int]
    sorry
  | succ j => sorry
