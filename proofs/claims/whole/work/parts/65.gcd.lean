/-! parted: fractions -/
theorem lrm_n {x y : Nat} (hx : x < 9223372036854775808) (hy : 0 < y) : lrm (x : Int) (y : Int) = ((x % y : Nat) : Int) := by
  unfold lrm
  rw [Int.tmod_eq_emod_of_nonneg (by omega), ← Int.natCast_emod]
  have := Nat.mod_le x y
  rw [w64_eq (by omega) (by omega)]
theorem half_mod {x y : Nat} (hx : 0 < x) (hy : x % y > 0) (h0 : 0 < y) : 2 * (y % (x % y)) < y := by
  have h1 := Nat.mod_lt x h0
  generalize x % y = r at *
  have h2 := Nat.mod_lt y hy
  have h3 := Nat.div_add_mod y r
  have h4 : 1 ≤ y / r := Nat.div_pos (by omega) hy
  have h5 : r * 1 ≤ r * (y / r) := Nat.mul_le_mul_left r h4
  omega
theorem red_l (h : Mem) (Kx : Int → Int → Int → Mem → Res) : ∀ (j : Nat) (x y k f : Nat), x < 9223372036854775808 → y < 9223372036854775808 → y < 2 ^ j → k + 2 * j ≤ 100 → 2 * j < f → ∃ k', L_X3_reduce_1 Kx f (x : Int) (y : Int) (k : Int) h = Kx ((Nat.gcd x y : Nat) : Int) 0 k' h
  | 0, x, y, k, f, hx, hy, hj, hk, hf => by
    obtain ⟨f, rfl⟩ : ∃ g, f = g + 1 := ⟨f - 1, by omega⟩
    have : y = 0 := by simp at hj; exact hj
    subst this
    exact ⟨k, by rw [L_X3_reduce_1, if_neg (by omega), Nat.gcd_zero_right]; rfl⟩
  | j + 1, x, y, k, f, hx, hy, hj, hk, hf => by
    obtain ⟨f, rfl⟩ : ∃ g, f = g + 1 := ⟨f - 1, by omega⟩
    by_cases c : y = 0
    · subst c
      exact ⟨k, by rw [L_X3_reduce_1, if_neg (by omega), Nat.gcd_zero_right]; rfl⟩
    · have g1 : Nat.gcd x y = Nat.gcd y (x % y) := by rw [Nat.gcd_comm, Nat.gcd_rec, Nat.gcd_comm]
      have m1 := Nat.mod_lt x (show 0 < y by omega)
      obtain ⟨f, rfl⟩ : ∃ g, f = g + 1 := ⟨f - 1, by omega⟩
      by_cases d : x % y = 0
      · refine ⟨((k + 1 : Nat) : Int), ?_⟩
        rw [L_X3_reduce_1, if_pos (by omega)]
        refine (gd_of (by omega)).trans ?_
        refine (nm_of (lrm_n hx (by omega))).trans ?_
        refine (nm_of (w32_n (by omega))).trans ?_
        rw [d, L_X3_reduce_1, if_neg (by omega), g1, d, Nat.gcd_zero_right]; rfl
      · have xp : 0 < x := by
          cases x with
          | zero => exact absurd (Nat.zero_mod y) d
          | succ x => omega
        have g2 : Nat.gcd y (x % y) = Nat.gcd (x % y) (y % (x % y)) := by rw [Nat.gcd_comm, Nat.gcd_rec, Nat.gcd_comm]
        have hm := half_mod xp (show x % y > 0 by omega) (by omega)
        have m2 := Nat.mod_lt y (show 0 < x % y by omega)
        obtain ⟨k', e⟩ := red_l h Kx j (x % y) (y % (x % y)) (k + 1 + 1) f (by omega) (by omega) (by rw [Nat.pow_succ] at hj; omega) (by omega) (by omega)
        refine ⟨k', ?_⟩
        rw [L_X3_reduce_1, if_pos (by omega)]
        refine (gd_of (by omega)).trans ?_
        refine (nm_of (lrm_n hx (by omega))).trans ?_
        refine (nm_of (w32_n (by omega))).trans ?_
        rw [L_X3_reduce_1, if_pos (by omega)]
        refine (gd_of (by omega)).trans ?_
        refine (nm_of (lrm_n hy (by omega))).trans ?_
        refine (nm_of (w32_n (by omega))).trans ?_
        rw [g1, g2]; exact e
theorem gcd_l (h : Mem) (a0 b0 : Int) (Kx : Int → Int → Mem → Res) : ∀ (j : Nat) (x y f : Nat), x < 9223372036854775808 → y < 9223372036854775808 → y < 2 ^ j → 2 * j < f → L_X8_gcd_1 a0 b0 Kx f (x : Int) (y : Int) h = Kx ((Nat.gcd x y : Nat) : Int) 0 h
  | 0, x, y, f, hx, hy, hj, hf => by
    obtain ⟨f, rfl⟩ : ∃ g, f = g + 1 := ⟨f - 1, by omega⟩
    have : y = 0 := by simp at hj; exact hj
    subst this
    rw [L_X8_gcd_1, if_neg (by omega), Nat.gcd_zero_right]; rfl
  | j + 1, x, y, f, hx, hy, hj, hf => by
    obtain ⟨f, rfl⟩ : ∃ g, f = g + 1 := ⟨f - 1, by omega⟩
    by_cases c : y = 0
    · subst c
      rw [L_X8_gcd_1, if_neg (by omega), Nat.gcd_zero_right]; rfl
    · have g1 : Nat.gcd x y = Nat.gcd y (x % y) := by rw [Nat.gcd_comm, Nat.gcd_rec, Nat.gcd_comm]
      have m1 := Nat.mod_lt x (show 0 < y by omega)
      obtain ⟨f, rfl⟩ : ∃ g, f = g + 1 := ⟨f - 1, by omega⟩
      by_cases d : x % y = 0
      · rw [L_X8_gcd_1, if_pos (by omega)]
        refine (gd_of (by omega)).trans ?_
        refine (nm_of (lrm_n hx (by omega))).trans ?_
        rw [d, L_X8_gcd_1, if_neg (by omega), g1, d, Nat.gcd_zero_right]; rfl
      · have xp : 0 < x := by
          cases x with
          | zero => exact absurd (Nat.zero_mod y) d
          | succ x => omega
        have g2 : Nat.gcd y (x % y) = Nat.gcd (x % y) (y % (x % y)) := by rw [Nat.gcd_comm, Nat.gcd_rec, Nat.gcd_comm]
        have hm := half_mod xp (show x % y > 0 by omega) (by omega)
        have m2 := Nat.mod_lt y (show 0 < x % y by omega)
        have e := gcd_l h a0 b0 Kx j (x % y) (y % (x % y)) f (by omega) (by omega) (by rw [Nat.pow_succ] at hj; omega) (by omega)
        rw [L_X8_gcd_1, if_pos (by omega)]
        refine (gd_of (by omega)).trans ?_
        refine (nm_of (lrm_n hx (by omega))).trans ?_
        rw [L_X8_gcd_1, if_pos (by omega)]
        refine (gd_of (by omega)).trans ?_
        refine (nm_of (lrm_n hy (by omega))).trans ?_
        rw [g1, g2]; exact e
theorem ldv_m {q a : Int} (ha : 0 < a) (h1 : -9223372036854775808 ≤ q) (h2 : q < 9223372036854775808) : ldv (q * a) a = q := by
  unfold ldv
  rw [Int.mul_tdiv_cancel _ (by omega), w64_eq h1 h2]
/-- the class reduces its fraction -/
theorem red_e {h : Mem} {u l : Int} (hu : h 51 3 = u) (hl : h 51 4 = l) (u1 : -9000000000000000000 ≤ u) (u2 : u ≤ 9000000000000000000) (l1 : 0 < l) (l2 : l < 2 ^ 50) :
    ∃ u' l' a, F_X3_reduce h = some (0, wr (wr h 51 3 u') 51 4 l') ∧ 0 < a ∧ u = u' * a ∧ l = l' * a ∧ 0 < l' ∧ Int.gcd u' l' = 1 := by
  have ab : abL u = ((u.natAbs : Nat) : Int) := by
    unfold abL
    by_cases c : 0 < u
    · rw [if_pos c]; omega
    · rw [if_neg c, w64_eq (by omega) (by omega)]; omega
  have le : l = ((l.natAbs : Nat) : Int) := by omega
  have p50 : (2 : Int) ^ 50 = 1125899906842624 := by decide
  rw [p50] at l2
  obtain ⟨k', e⟩ := red_l h (fun a_14 b_15 k_16 (h_13 : Mem) => if (1 < a_14) then (gd (¬ a_14 = 0) (nm (wr h_13 51 3 (ldv (h_13 51 3) a_14)) (fun (h_18 : Mem) => gd (¬ a_14 = 0) (nm (wr h_18 51 4 (ldv (h_18 51 4) a_14)) (fun (h_20 : Mem) => some (0, h_20)))))) else (some (0, h_13))) 50 u.natAbs l.natAbs 0 FU (by omega) (by omega) (by omega) (by omega) (by unfold FU; omega)
  have g1 : 0 < Nat.gcd u.natAbs l.natAbs := Nat.gcd_pos_of_pos_right _ (by omega)
  have e' : F_X3_reduce h = (if (1 < ((Nat.gcd u.natAbs l.natAbs : Nat) : Int)) then (gd (¬ ((Nat.gcd u.natAbs l.natAbs : Nat) : Int) = 0) (nm (wr h 51 3 (ldv (h 51 3) ((Nat.gcd u.natAbs l.natAbs : Nat) : Int))) (fun (h_18 : Mem) => gd (¬ ((Nat.gcd u.natAbs l.natAbs : Nat) : Int) = 0) (nm (wr h_18 51 4 (ldv (h_18 51 4) ((Nat.gcd u.natAbs l.natAbs : Nat) : Int))) (fun (h_20 : Mem) => some (0, h_20)))))) else (some (0, h))) := by
    unfold F_X3_reduce
    refine (nm_of (e' := ((u.natAbs : Nat) : Int)) (by rw [hu, ab])).trans ?_
    refine (nm_of (e' := ((l.natAbs : Nat) : Int)) (by rw [hl]; exact le)).trans ?_
    exact e
  rw [e']
  have gi : Int.gcd u l = Nat.gcd u.natAbs l.natAbs := rfl
  rw [← gi]
  have du : ((Int.gcd u l : Nat) : Int) ∣ u := Int.gcd_dvd_left ..
  have dl : ((Int.gcd u l : Nat) : Int) ∣ l := Int.gcd_dvd_right ..
  rw [← gi] at g1
  obtain ⟨qu, eu⟩ := du
  obtain ⟨ql, el⟩ := dl
  generalize hG : Int.gcd u l = G at *
  have eu' : u = qu * (G : Int) := by rw [Int.mul_comm]; exact eu
  have el' : l = ql * (G : Int) := by rw [Int.mul_comm]; exact el
  have q1 : Int.gcd qu ql = 1 := by
    have x := hG
    rw [eu', el', Int.gcd_mul_right, Int.natAbs_natCast] at x
    have : Int.gcd qu ql * G = 1 * G := by rw [Nat.one_mul]; exact x
    exact Nat.eq_of_mul_eq_mul_right g1 this
  have ql0 : 0 < ql := by
    by_cases c : 0 < ql
    · exact c
    · have m : ql * (G : Int) ≤ 0 * (G : Int) := Int.mul_le_mul_of_nonneg_right (by omega) (by omega)
      rw [Int.zero_mul] at m
      omega
  have bu : -9223372036854775808 ≤ qu ∧ qu < 9223372036854775808 := by
    have : qu.natAbs * G = u.natAbs := by rw [eu', Int.natAbs_mul, Int.natAbs_natCast]
    have h2 : qu.natAbs * 1 ≤ qu.natAbs * G := Nat.mul_le_mul_left _ g1
    omega
  have bl : -9223372036854775808 ≤ ql ∧ ql < 9223372036854775808 := by
    have : ql.natAbs * G = l.natAbs := by rw [el', Int.natAbs_mul, Int.natAbs_natCast]
    have h2 : ql.natAbs * 1 ≤ ql.natAbs * G := Nat.mul_le_mul_left _ g1
    omega
  refine ⟨qu, ql, (G : Int), ?_, by omega, eu', el', ql0, q1⟩
  by_cases c : 1 < (G : Int)
  · rw [if_pos c]
    refine (gd_of (by omega)).trans ?_
    refine (nm_of (e' := wr h 51 3 qu) (by rw [hu, eu', ldv_m (by omega) bu.1 bu.2])).trans ?_
    refine (gd_of (by omega)).trans ?_
    refine (nm_of (e' := wr (wr h 51 3 qu) 51 4 ql) (by rw [wr_k (by omega), hl, el', ldv_m (by omega) bl.1 bl.2])).trans ?_
    rfl
  · have G1 : (G : Int) = 1 := by omega
    rw [if_neg c]
    rw [G1, Int.mul_one] at eu' el'
    have w : wr (wr h 51 3 qu) 51 4 ql = h := by
      funext r k
      rw [wr_at]
      by_cases x : r = 51 ∧ k = 4
      · rw [if_pos x, x.1, x.2, hl, el']
      · rw [if_neg x, wr_at]
        by_cases y : r = 51 ∧ k = 3
        · rw [if_pos y, y.1, y.2, hu, eu']
        · rw [if_neg y]
    rw [w]
