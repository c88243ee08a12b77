/-! the makers, walked (printed by gen/ctor.py) -/
abbrev MX0_init : MD := (RX0, cX0_init, 2)
theorem okT_0 : ∀ j, j < 11 → okT (fty 0 j) = true := by decide
abbrev MX1_init : MD := (RX1, cX1_init, 1)
theorem okT_1 : ∀ j, j < 5 → okT (fty 1 j) = true := by decide
abbrev MX2_init : MD := (RX2, cX2_init, 2)
theorem okT_2 : ∀ j, j < 2 → okT (fty 2 j) = true := by decide
abbrev MX3_init : MD := (RX3, cX3_init, 1)
theorem okT_3 : ∀ j, j < 5 → okT (fty 3 j) = true := by decide
abbrev MX4_init : MD := (RX4, cX4_init, 1)
theorem okT_4 : ∀ j, j < 6 → okT (fty 4 j) = true := by decide
abbrev MX5_init : MD := (RX5, cX5_init, 3)
theorem okT_5 : ∀ j, j < 8 → okT (fty 5 j) = true := by decide
abbrev MX6_init : MD := (RX6, cX6_init, 3)
theorem okT_6 : ∀ j, j < 14 → okT (fty 6 j) = true := by decide
abbrev MX7_init : MD := (RX7, cX7_init, 2)
theorem okT_7 : ∀ j, j < 13 → okT (fty 7 j) = true := by decide
abbrev MX8_init : MD := (RX8, cX8_init, 1)
theorem okT_8 : ∀ j, j < 41 → okT (fty 8 j) = true := by decide
theorem G_X0 (X : XS) (b i : Int) (n : Nat) (h : Mem) (ho : okM 0 b = true) (hn : mpos b < n) (hi : 0 ≤ i ∧ i < 1000) : GM X yX0_init MX0_init 1 [(2, b), (0, i)] n n h (wrs h [(b, 0, i)]) := by
  have hb : ¬ b = 0 := fun q => by rw [q] at ho; exact absurd ho (by decide)
  refine GM.of (pcE := 9) (lsE := [(2, b), (0, i)]) (by decide) rfl rfl (Nat.le_of_ble_eq_true rfl) (Nat.le_refl _) dX0_init_9 ?_
  refine r_aload_n dX0_init_0 rfl rfl hb ?_
  refine r_obj dX0_init_1 rfl (gt_of 131 (by decide +kernel) (by decide +kernel)) (gt_of 90 (by decide +kernel) (by decide +kernel)) (gt_of 91 (by decide +kernel) (by decide +kernel)) hb ⟨Nat.le_of_ble_eq_true rfl, Nat.le_of_ble_eq_true rfl⟩ ?_
  refine r_aload_n dX0_init_4 rfl rfl hb ?_
  refine r_iload_n dX0_init_5 rfl rfl ?_
  refine r_put (ci := 0) (k := 0) dX0_init_6 rfl rfl (by decide) (gt_of 132 (by decide +kernel) (by decide +kernel)) rfl (Or.inr ⟨rfl, rfl, rfl⟩) (Or.inl rfl) ⟨by omega, by omega⟩ ho hn ?_
  exact GG.done
theorem G_X4_2 (X : XS) (h : Mem) (hz : Zr 2 h) : GM X yX4_init MX4_init 1 [(2, 2)] 2 3 h (wrs h [(2, 0, 3)]) := by
  refine GM.of (pcE := 13) (lsE := [(2, 2)]) (by decide) rfl rfl (by decide) (by decide) dX4_init_13 ?_
  refine r_aload_n dX4_init_0 rfl rfl (by decide) ?_
  refine r_obj dX4_init_1 rfl (gt_of 97 (by decide +kernel) (by decide +kernel)) (gt_of 90 (by decide +kernel) (by decide +kernel)) (gt_of 91 (by decide +kernel) (by decide +kernel)) (by decide) ⟨Nat.le_of_ble_eq_true rfl, Nat.le_of_ble_eq_true rfl⟩ ?_
  refine r_aload_n dX4_init_4 rfl rfl (by decide) ?_
  refine r_sipush dX4_init_5 rfl (by decide) ?_
  refine r_newa (k := 101) (N := 400) (z := 3) dX4_init_8 rfl rfl ⟨by decide, by decide⟩ rfl (gt_of 118 (by decide +kernel) (by decide +kernel)) (by decide) rfl rfl (hz.at (by decide)) (Nat.le_of_ble_eq_true rfl) ?_
  have hz := hz.up (show (2 : Nat) ≤ 3 by decide)
  refine r_put (ci := 4) (k := 0) dX4_init_10 rfl rfl (by decide) (gt_of 98 (by decide +kernel) (by decide +kernel)) rfl (Or.inr ⟨rfl, rfl, rfl⟩) (Or.inr (Or.inr (Or.inr (Or.inr ⟨_, rfl⟩)))) trivial rfl (by decide) ?_
  have hz := Zr.w (r := 2) (k := 0) (v := 3) hz (by decide)
  exact GG.done
theorem G_X2_4 (X : XS) (h : Mem) (hz : Zr 4 h) : GM X yX2_init MX2_init 2 [(2, 4)] 4 14 h (wrs h [(4, 0, 5), (6, 0, 0), (5, 0, 6), (7, 0, 1), (5, 1, 7), (8, 0, 2), (5, 2, 8), (9, 0, 3), (5, 3, 9), (10, 0, 4), (5, 4, 10), (11, 0, 5), (5, 5, 11), (12, 0, 6), (5, 6, 12), (13, 0, 7), (5, 7, 13), (14, 0, 8), (5, 8, 14), (4, 1, 0)]) := by
  refine GM.of (pcE := 46) (lsE := [(2, 4), (0, 9)]) (by decide) rfl rfl (by decide) (by decide) dX2_init_46 ?_
  refine r_aload_n dX2_init_0 rfl rfl (by decide) ?_
  refine r_obj dX2_init_1 rfl (gt_of 124 (by decide +kernel) (by decide +kernel)) (gt_of 90 (by decide +kernel) (by decide +kernel)) (gt_of 91 (by decide +kernel) (by decide +kernel)) (by decide) ⟨Nat.le_of_ble_eq_true rfl, Nat.le_of_ble_eq_true rfl⟩ ?_
  refine r_aload_n dX2_init_4 rfl rfl (by decide) ?_
  refine r_bipush dX2_init_5 rfl (by decide) ?_
  refine r_anew (k := 105) (N := 9) (z := 5) dX2_init_7 rfl rfl ⟨by decide, by decide⟩ rfl (gt_of 125 (by decide +kernel) (by decide +kernel)) (fun _ q => q.1) (by decide) rfl rfl (hz.at (by decide)) (Nat.le_of_ble_eq_true rfl) ?_
  have hz := hz.up (show (4 : Nat) ≤ 5 by decide)
  refine r_put (ci := 2) (k := 0) dX2_init_10 rfl rfl (by decide) (gt_of 195 (by decide +kernel) (by decide +kernel)) rfl (Or.inr ⟨rfl, rfl, rfl⟩) (Or.inr (Or.inr (Or.inr (Or.inr ⟨_, rfl⟩)))) trivial rfl (by decide) ?_
  have hz := Zr.w (r := 4) (k := 0) (v := 5) hz (by decide)
  refine r_iconst dX2_init_13 rfl ?_
  refine r_istore_n (i := 1) dX2_init_14 rfl rfl (by decide) rfl ?_
  refine r_iload_n dX2_init_15 rfl rfl ?_
  refine r_bipush dX2_init_16 rfl (by decide) ?_
  refine r_ge_f (tgt := 41) dX2_init_18 rfl (by decide) ⟨by decide, by decide⟩ ⟨by decide, by decide⟩ (by decide) ?_
  refine r_aload_n dX2_init_21 rfl rfl (by decide) ?_
  refine r_get (ci := 2) (k := 0) (z := 5) dX2_init_22 rfl rfl (by decide) (gt_of 195 (by decide +kernel) (by decide +kernel)) rfl rfl (by decide) rfl ?_
  refine r_iload_n dX2_init_25 rfl rfl ?_
  refine r_new (ci := 0) (z := 6) dX2_init_26 rfl rfl rfl (by decide) okT_0 (gt_of 125 (by decide +kernel) (by decide +kernel)) (gt_of 127 (by decide +kernel) (by decide +kernel)) (gt_of 72 (by decide +kernel) (by decide +kernel)) rfl (hz.at (by decide)) (Nat.le_of_ble_eq_true rfl) ?_
  have hz := hz.up (show (5 : Nat) ≤ 6 by decide)
  refine r_dup dX2_init_29 rfl ?_
  refine r_iload_n dX2_init_30 rfl rfl ?_
  refine r_call (n' := 6) (vs := [(0, 0)]) (r0 := 6) (st := [(2, 6), (0, 0), (2, 5)]) dX2_init_31 rfl (G_X0 X 6 0 6 _ rfl (by decide) (by decide)) rfl (gt_of 128 (by decide +kernel) (by decide +kernel)) (gt_of 129 (by decide +kernel) (by decide +kernel)) (gt_of 72 (by decide +kernel) (by decide +kernel)) (gt_of 130 (by decide +kernel) (by decide +kernel)) (by decide) (by decide) ⟨Nat.le_of_ble_eq_true rfl, Nat.le_of_ble_eq_true rfl⟩ (by decide) rfl (by decide) (Nat.le_of_ble_eq_true rfl) ?_
  have hz := Zr.ws [(6, 0, 0)] hz (by decide)
  refine r_aast (k := 105) (N := 9) (ci := 0) dX2_init_34 rfl rfl ⟨by decide, by decide⟩ rfl (by decide) ⟨by decide, by decide⟩ (by decide) rfl rfl (by decide) ?_
  have hz := Zr.w (r := 5) (k := 0) (v := 6) hz (by decide)
  refine r_iinc (ls' := [(2, 4), (0, 1)]) dX2_init_35 rfl rfl rfl ?_
  refine r_goto (tgt := 15) dX2_init_38 rfl (by decide) ?_
  refine r_iload_n dX2_init_15 rfl rfl ?_
  refine r_bipush dX2_init_16 rfl (by decide) ?_
  refine r_ge_f (tgt := 41) dX2_init_18 rfl (by decide) ⟨by decide, by decide⟩ ⟨by decide, by decide⟩ (by decide) ?_
  refine r_aload_n dX2_init_21 rfl rfl (by decide) ?_
  refine r_get (ci := 2) (k := 0) (z := 5) dX2_init_22 rfl rfl (by decide) (gt_of 195 (by decide +kernel) (by decide +kernel)) rfl rfl (by decide) rfl ?_
  refine r_iload_n dX2_init_25 rfl rfl ?_
  refine r_new (ci := 0) (z := 7) dX2_init_26 rfl rfl rfl (by decide) okT_0 (gt_of 125 (by decide +kernel) (by decide +kernel)) (gt_of 127 (by decide +kernel) (by decide +kernel)) (gt_of 72 (by decide +kernel) (by decide +kernel)) rfl (hz.at (by decide)) (Nat.le_of_ble_eq_true rfl) ?_
  have hz := hz.up (show (6 : Nat) ≤ 7 by decide)
  refine r_dup dX2_init_29 rfl ?_
  refine r_iload_n dX2_init_30 rfl rfl ?_
  refine r_call (n' := 7) (vs := [(0, 1)]) (r0 := 7) (st := [(2, 7), (0, 1), (2, 5)]) dX2_init_31 rfl (G_X0 X 7 1 7 _ rfl (by decide) (by decide)) rfl (gt_of 128 (by decide +kernel) (by decide +kernel)) (gt_of 129 (by decide +kernel) (by decide +kernel)) (gt_of 72 (by decide +kernel) (by decide +kernel)) (gt_of 130 (by decide +kernel) (by decide +kernel)) (by decide) (by decide) ⟨Nat.le_of_ble_eq_true rfl, Nat.le_of_ble_eq_true rfl⟩ (by decide) rfl (by decide) (Nat.le_of_ble_eq_true rfl) ?_
  have hz := Zr.ws [(7, 0, 1)] hz (by decide)
  refine r_aast (k := 105) (N := 9) (ci := 0) dX2_init_34 rfl rfl ⟨by decide, by decide⟩ rfl (by decide) ⟨by decide, by decide⟩ (by decide) rfl rfl (by decide) ?_
  have hz := Zr.w (r := 5) (k := 1) (v := 7) hz (by decide)
  refine r_iinc (ls' := [(2, 4), (0, 2)]) dX2_init_35 rfl rfl rfl ?_
  refine r_goto (tgt := 15) dX2_init_38 rfl (by decide) ?_
  refine r_iload_n dX2_init_15 rfl rfl ?_
  refine r_bipush dX2_init_16 rfl (by decide) ?_
  refine r_ge_f (tgt := 41) dX2_init_18 rfl (by decide) ⟨by decide, by decide⟩ ⟨by decide, by decide⟩ (by decide) ?_
  refine r_aload_n dX2_init_21 rfl rfl (by decide) ?_
  refine r_get (ci := 2) (k := 0) (z := 5) dX2_init_22 rfl rfl (by decide) (gt_of 195 (by decide +kernel) (by decide +kernel)) rfl rfl (by decide) rfl ?_
  refine r_iload_n dX2_init_25 rfl rfl ?_
  refine r_new (ci := 0) (z := 8) dX2_init_26 rfl rfl rfl (by decide) okT_0 (gt_of 125 (by decide +kernel) (by decide +kernel)) (gt_of 127 (by decide +kernel) (by decide +kernel)) (gt_of 72 (by decide +kernel) (by decide +kernel)) rfl (hz.at (by decide)) (Nat.le_of_ble_eq_true rfl) ?_
  have hz := hz.up (show (7 : Nat) ≤ 8 by decide)
  refine r_dup dX2_init_29 rfl ?_
  refine r_iload_n dX2_init_30 rfl rfl ?_
  refine r_call (n' := 8) (vs := [(0, 2)]) (r0 := 8) (st := [(2, 8), (0, 2), (2, 5)]) dX2_init_31 rfl (G_X0 X 8 2 8 _ rfl (by decide) (by decide)) rfl (gt_of 128 (by decide +kernel) (by decide +kernel)) (gt_of 129 (by decide +kernel) (by decide +kernel)) (gt_of 72 (by decide +kernel) (by decide +kernel)) (gt_of 130 (by decide +kernel) (by decide +kernel)) (by decide) (by decide) ⟨Nat.le_of_ble_eq_true rfl, Nat.le_of_ble_eq_true rfl⟩ (by decide) rfl (by decide) (Nat.le_of_ble_eq_true rfl) ?_
  have hz := Zr.ws [(8, 0, 2)] hz (by decide)
  refine r_aast (k := 105) (N := 9) (ci := 0) dX2_init_34 rfl rfl ⟨by decide, by decide⟩ rfl (by decide) ⟨by decide, by decide⟩ (by decide) rfl rfl (by decide) ?_
  have hz := Zr.w (r := 5) (k := 2) (v := 8) hz (by decide)
  refine r_iinc (ls' := [(2, 4), (0, 3)]) dX2_init_35 rfl rfl rfl ?_
  refine r_goto (tgt := 15) dX2_init_38 rfl (by decide) ?_
  refine r_iload_n dX2_init_15 rfl rfl ?_
  refine r_bipush dX2_init_16 rfl (by decide) ?_
  refine r_ge_f (tgt := 41) dX2_init_18 rfl (by decide) ⟨by decide, by decide⟩ ⟨by decide, by decide⟩ (by decide) ?_
  refine r_aload_n dX2_init_21 rfl rfl (by decide) ?_
  refine r_get (ci := 2) (k := 0) (z := 5) dX2_init_22 rfl rfl (by decide) (gt_of 195 (by decide +kernel) (by decide +kernel)) rfl rfl (by decide) rfl ?_
  refine r_iload_n dX2_init_25 rfl rfl ?_
  refine r_new (ci := 0) (z := 9) dX2_init_26 rfl rfl rfl (by decide) okT_0 (gt_of 125 (by decide +kernel) (by decide +kernel)) (gt_of 127 (by decide +kernel) (by decide +kernel)) (gt_of 72 (by decide +kernel) (by decide +kernel)) rfl (hz.at (by decide)) (Nat.le_of_ble_eq_true rfl) ?_
  have hz := hz.up (show (8 : Nat) ≤ 9 by decide)
  refine r_dup dX2_init_29 rfl ?_
  refine r_iload_n dX2_init_30 rfl rfl ?_
  refine r_call (n' := 9) (vs := [(0, 3)]) (r0 := 9) (st := [(2, 9), (0, 3), (2, 5)]) dX2_init_31 rfl (G_X0 X 9 3 9 _ rfl (by decide) (by decide)) rfl (gt_of 128 (by decide +kernel) (by decide +kernel)) (gt_of 129 (by decide +kernel) (by decide +kernel)) (gt_of 72 (by decide +kernel) (by decide +kernel)) (gt_of 130 (by decide +kernel) (by decide +kernel)) (by decide) (by decide) ⟨Nat.le_of_ble_eq_true rfl, Nat.le_of_ble_eq_true rfl⟩ (by decide) rfl (by decide) (Nat.le_of_ble_eq_true rfl) ?_
  have hz := Zr.ws [(9, 0, 3)] hz (by decide)
  refine r_aast (k := 105) (N := 9) (ci := 0) dX2_init_34 rfl rfl ⟨by decide, by decide⟩ rfl (by decide) ⟨by decide, by decide⟩ (by decide) rfl rfl (by decide) ?_
  have hz := Zr.w (r := 5) (k := 3) (v := 9) hz (by decide)
  refine r_iinc (ls' := [(2, 4), (0, 4)]) dX2_init_35 rfl rfl rfl ?_
  refine r_goto (tgt := 15) dX2_init_38 rfl (by decide) ?_
  refine r_iload_n dX2_init_15 rfl rfl ?_
  refine r_bipush dX2_init_16 rfl (by decide) ?_
  refine r_ge_f (tgt := 41) dX2_init_18 rfl (by decide) ⟨by decide, by decide⟩ ⟨by decide, by decide⟩ (by decide) ?_
  refine r_aload_n dX2_init_21 rfl rfl (by decide) ?_
  refine r_get (ci := 2) (k := 0) (z := 5) dX2_init_22 rfl rfl (by decide) (gt_of 195 (by decide +kernel) (by decide +kernel)) rfl rfl (by decide) rfl ?_
  refine r_iload_n dX2_init_25 rfl rfl ?_
  refine r_new (ci := 0) (z := 10) dX2_init_26 rfl rfl rfl (by decide) okT_0 (gt_of 125 (by decide +kernel) (by decide +kernel)) (gt_of 127 (by decide +kernel) (by decide +kernel)) (gt_of 72 (by decide +kernel) (by decide +kernel)) rfl (hz.at (by decide)) (Nat.le_of_ble_eq_true rfl) ?_
  have hz := hz.up (show (9 : Nat) ≤ 10 by decide)
  refine r_dup dX2_init_29 rfl ?_
  refine r_iload_n dX2_init_30 rfl rfl ?_
  refine r_call (n' := 10) (vs := [(0, 4)]) (r0 := 10) (st := [(2, 10), (0, 4), (2, 5)]) dX2_init_31 rfl (G_X0 X 10 4 10 _ rfl (by decide) (by decide)) rfl (gt_of 128 (by decide +kernel) (by decide +kernel)) (gt_of 129 (by decide +kernel) (by decide +kernel)) (gt_of 72 (by decide +kernel) (by decide +kernel)) (gt_of 130 (by decide +kernel) (by decide +kernel)) (by decide) (by decide) ⟨Nat.le_of_ble_eq_true rfl, Nat.le_of_ble_eq_true rfl⟩ (by decide) rfl (by decide) (Nat.le_of_ble_eq_true rfl) ?_
  have hz := Zr.ws [(10, 0, 4)] hz (by decide)
  refine r_aast (k := 105) (N := 9) (ci := 0) dX2_init_34 rfl rfl ⟨by decide, by decide⟩ rfl (by decide) ⟨by decide, by decide⟩ (by decide) rfl rfl (by decide) ?_
  have hz := Zr.w (r := 5) (k := 4) (v := 10) hz (by decide)
  refine r_iinc (ls' := [(2, 4), (0, 5)]) dX2_init_35 rfl rfl rfl ?_
  refine r_goto (tgt := 15) dX2_init_38 rfl (by decide) ?_
  refine r_iload_n dX2_init_15 rfl rfl ?_
  refine r_bipush dX2_init_16 rfl (by decide) ?_
  refine r_ge_f (tgt := 41) dX2_init_18 rfl (by decide) ⟨by decide, by decide⟩ ⟨by decide, by decide⟩ (by decide) ?_
  refine r_aload_n dX2_init_21 rfl rfl (by decide) ?_
  refine r_get (ci := 2) (k := 0) (z := 5) dX2_init_22 rfl rfl (by decide) (gt_of 195 (by decide +kernel) (by decide +kernel)) rfl rfl (by decide) rfl ?_
  refine r_iload_n dX2_init_25 rfl rfl ?_
  refine r_new (ci := 0) (z := 11) dX2_init_26 rfl rfl rfl (by decide) okT_0 (gt_of 125 (by decide +kernel) (by decide +kernel)) (gt_of 127 (by decide +kernel) (by decide +kernel)) (gt_of 72 (by decide +kernel) (by decide +kernel)) rfl (hz.at (by decide)) (Nat.le_of_ble_eq_true rfl) ?_
  have hz := hz.up (show (10 : Nat) ≤ 11 by decide)
  refine r_dup dX2_init_29 rfl ?_
  refine r_iload_n dX2_init_30 rfl rfl ?_
  refine r_call (n' := 11) (vs := [(0, 5)]) (r0 := 11) (st := [(2, 11), (0, 5), (2, 5)]) dX2_init_31 rfl (G_X0 X 11 5 11 _ rfl (by decide) (by decide)) rfl (gt_of 128 (by decide +kernel) (by decide +kernel)) (gt_of 129 (by decide +kernel) (by decide +kernel)) (gt_of 72 (by decide +kernel) (by decide +kernel)) (gt_of 130 (by decide +kernel) (by decide +kernel)) (by decide) (by decide) ⟨Nat.le_of_ble_eq_true rfl, Nat.le_of_ble_eq_true rfl⟩ (by decide) rfl (by decide) (Nat.le_of_ble_eq_true rfl) ?_
  have hz := Zr.ws [(11, 0, 5)] hz (by decide)
  refine r_aast (k := 105) (N := 9) (ci := 0) dX2_init_34 rfl rfl ⟨by decide, by decide⟩ rfl (by decide) ⟨by decide, by decide⟩ (by decide) rfl rfl (by decide) ?_
  have hz := Zr.w (r := 5) (k := 5) (v := 11) hz (by decide)
  refine r_iinc (ls' := [(2, 4), (0, 6)]) dX2_init_35 rfl rfl rfl ?_
  refine r_goto (tgt := 15) dX2_init_38 rfl (by decide) ?_
  refine r_iload_n dX2_init_15 rfl rfl ?_
  refine r_bipush dX2_init_16 rfl (by decide) ?_
  refine r_ge_f (tgt := 41) dX2_init_18 rfl (by decide) ⟨by decide, by decide⟩ ⟨by decide, by decide⟩ (by decide) ?_
  refine r_aload_n dX2_init_21 rfl rfl (by decide) ?_
  refine r_get (ci := 2) (k := 0) (z := 5) dX2_init_22 rfl rfl (by decide) (gt_of 195 (by decide +kernel) (by decide +kernel)) rfl rfl (by decide) rfl ?_
  refine r_iload_n dX2_init_25 rfl rfl ?_
  refine r_new (ci := 0) (z := 12) dX2_init_26 rfl rfl rfl (by decide) okT_0 (gt_of 125 (by decide +kernel) (by decide +kernel)) (gt_of 127 (by decide +kernel) (by decide +kernel)) (gt_of 72 (by decide +kernel) (by decide +kernel)) rfl (hz.at (by decide)) (Nat.le_of_ble_eq_true rfl) ?_
  have hz := hz.up (show (11 : Nat) ≤ 12 by decide)
  refine r_dup dX2_init_29 rfl ?_
  refine r_iload_n dX2_init_30 rfl rfl ?_
  refine r_call (n' := 12) (vs := [(0, 6)]) (r0 := 12) (st := [(2, 12), (0, 6), (2, 5)]) dX2_init_31 rfl (G_X0 X 12 6 12 _ rfl (by decide) (by decide)) rfl (gt_of 128 (by decide +kernel) (by decide +kernel)) (gt_of 129 (by decide +kernel) (by decide +kernel)) (gt_of 72 (by decide +kernel) (by decide +kernel)) (gt_of 130 (by decide +kernel) (by decide +kernel)) (by decide) (by decide) ⟨Nat.le_of_ble_eq_true rfl, Nat.le_of_ble_eq_true rfl⟩ (by decide) rfl (by decide) (Nat.le_of_ble_eq_true rfl) ?_
  have hz := Zr.ws [(12, 0, 6)] hz (by decide)
  refine r_aast (k := 105) (N := 9) (ci := 0) dX2_init_34 rfl rfl ⟨by decide, by decide⟩ rfl (by decide) ⟨by decide, by decide⟩ (by decide) rfl rfl (by decide) ?_
  have hz := Zr.w (r := 5) (k := 6) (v := 12) hz (by decide)
  refine r_iinc (ls' := [(2, 4), (0, 7)]) dX2_init_35 rfl rfl rfl ?_
  refine r_goto (tgt := 15) dX2_init_38 rfl (by decide) ?_
  refine r_iload_n dX2_init_15 rfl rfl ?_
  refine r_bipush dX2_init_16 rfl (by decide) ?_
  refine r_ge_f (tgt := 41) dX2_init_18 rfl (by decide) ⟨by decide, by decide⟩ ⟨by decide, by decide⟩ (by decide) ?_
  refine r_aload_n dX2_init_21 rfl rfl (by decide) ?_
  refine r_get (ci := 2) (k := 0) (z := 5) dX2_init_22 rfl rfl (by decide) (gt_of 195 (by decide +kernel) (by decide +kernel)) rfl rfl (by decide) rfl ?_
  refine r_iload_n dX2_init_25 rfl rfl ?_
  refine r_new (ci := 0) (z := 13) dX2_init_26 rfl rfl rfl (by decide) okT_0 (gt_of 125 (by decide +kernel) (by decide +kernel)) (gt_of 127 (by decide +kernel) (by decide +kernel)) (gt_of 72 (by decide +kernel) (by decide +kernel)) rfl (hz.at (by decide)) (Nat.le_of_ble_eq_true rfl) ?_
  have hz := hz.up (show (12 : Nat) ≤ 13 by decide)
  refine r_dup dX2_init_29 rfl ?_
  refine r_iload_n dX2_init_30 rfl rfl ?_
  refine r_call (n' := 13) (vs := [(0, 7)]) (r0 := 13) (st := [(2, 13), (0, 7), (2, 5)]) dX2_init_31 rfl (G_X0 X 13 7 13 _ rfl (by decide) (by decide)) rfl (gt_of 128 (by decide +kernel) (by decide +kernel)) (gt_of 129 (by decide +kernel) (by decide +kernel)) (gt_of 72 (by decide +kernel) (by decide +kernel)) (gt_of 130 (by decide +kernel) (by decide +kernel)) (by decide) (by decide) ⟨Nat.le_of_ble_eq_true rfl, Nat.le_of_ble_eq_true rfl⟩ (by decide) rfl (by decide) (Nat.le_of_ble_eq_true rfl) ?_
  have hz := Zr.ws [(13, 0, 7)] hz (by decide)
  refine r_aast (k := 105) (N := 9) (ci := 0) dX2_init_34 rfl rfl ⟨by decide, by decide⟩ rfl (by decide) ⟨by decide, by decide⟩ (by decide) rfl rfl (by decide) ?_
  have hz := Zr.w (r := 5) (k := 7) (v := 13) hz (by decide)
  refine r_iinc (ls' := [(2, 4), (0, 8)]) dX2_init_35 rfl rfl rfl ?_
  refine r_goto (tgt := 15) dX2_init_38 rfl (by decide) ?_
  refine r_iload_n dX2_init_15 rfl rfl ?_
  refine r_bipush dX2_init_16 rfl (by decide) ?_
  refine r_ge_f (tgt := 41) dX2_init_18 rfl (by decide) ⟨by decide, by decide⟩ ⟨by decide, by decide⟩ (by decide) ?_
  refine r_aload_n dX2_init_21 rfl rfl (by decide) ?_
  refine r_get (ci := 2) (k := 0) (z := 5) dX2_init_22 rfl rfl (by decide) (gt_of 195 (by decide +kernel) (by decide +kernel)) rfl rfl (by decide) rfl ?_
  refine r_iload_n dX2_init_25 rfl rfl ?_
  refine r_new (ci := 0) (z := 14) dX2_init_26 rfl rfl rfl (by decide) okT_0 (gt_of 125 (by decide +kernel) (by decide +kernel)) (gt_of 127 (by decide +kernel) (by decide +kernel)) (gt_of 72 (by decide +kernel) (by decide +kernel)) rfl (hz.at (by decide)) (Nat.le_of_ble_eq_true rfl) ?_
  have hz := hz.up (show (13 : Nat) ≤ 14 by decide)
  refine r_dup dX2_init_29 rfl ?_
  refine r_iload_n dX2_init_30 rfl rfl ?_
  refine r_call (n' := 14) (vs := [(0, 8)]) (r0 := 14) (st := [(2, 14), (0, 8), (2, 5)]) dX2_init_31 rfl (G_X0 X 14 8 14 _ rfl (by decide) (by decide)) rfl (gt_of 128 (by decide +kernel) (by decide +kernel)) (gt_of 129 (by decide +kernel) (by decide +kernel)) (gt_of 72 (by decide +kernel) (by decide +kernel)) (gt_of 130 (by decide +kernel) (by decide +kernel)) (by decide) (by decide) ⟨Nat.le_of_ble_eq_true rfl, Nat.le_of_ble_eq_true rfl⟩ (by decide) rfl (by decide) (Nat.le_of_ble_eq_true rfl) ?_
  have hz := Zr.ws [(14, 0, 8)] hz (by decide)
  refine r_aast (k := 105) (N := 9) (ci := 0) dX2_init_34 rfl rfl ⟨by decide, by decide⟩ rfl (by decide) ⟨by decide, by decide⟩ (by decide) rfl rfl (by decide) ?_
  have hz := Zr.w (r := 5) (k := 8) (v := 14) hz (by decide)
  refine r_iinc (ls' := [(2, 4), (0, 9)]) dX2_init_35 rfl rfl rfl ?_
  refine r_goto (tgt := 15) dX2_init_38 rfl (by decide) ?_
  refine r_iload_n dX2_init_15 rfl rfl ?_
  refine r_bipush dX2_init_16 rfl (by decide) ?_
  refine r_ge_t (tgt := 41) dX2_init_18 rfl (by decide) ⟨by decide, by decide⟩ ⟨by decide, by decide⟩ (by decide) ?_
  refine r_aload_n dX2_init_41 rfl rfl (by decide) ?_
  refine r_iconst dX2_init_42 rfl ?_
  refine r_put (ci := 2) (k := 1) dX2_init_43 rfl rfl (by decide) (gt_of 198 (by decide +kernel) (by decide +kernel)) rfl (Or.inl rfl) (Or.inl rfl) ⟨by decide, by decide⟩ rfl (by decide) ?_
  have hz := Zr.w (r := 4) (k := 1) (v := 0) hz (by decide)
  exact GG.done
theorem G_X2_15 (X : XS) (h : Mem) (hz : Zr 15 h) : GM X yX2_init MX2_init 2 [(2, 15)] 15 25 h (wrs h [(15, 0, 16), (17, 0, 0), (16, 0, 17), (18, 0, 1), (16, 1, 18), (19, 0, 2), (16, 2, 19), (20, 0, 3), (16, 3, 20), (21, 0, 4), (16, 4, 21), (22, 0, 5), (16, 5, 22), (23, 0, 6), (16, 6, 23), (24, 0, 7), (16, 7, 24), (25, 0, 8), (16, 8, 25), (15, 1, 0)]) := by
  refine GM.of (pcE := 46) (lsE := [(2, 15), (0, 9)]) (by decide) rfl rfl (by decide) (by decide) dX2_init_46 ?_
  refine r_aload_n dX2_init_0 rfl rfl (by decide) ?_
  refine r_obj dX2_init_1 rfl (gt_of 124 (by decide +kernel) (by decide +kernel)) (gt_of 90 (by decide +kernel) (by decide +kernel)) (gt_of 91 (by decide +kernel) (by decide +kernel)) (by decide) ⟨Nat.le_of_ble_eq_true rfl, Nat.le_of_ble_eq_true rfl⟩ ?_
  refine r_aload_n dX2_init_4 rfl rfl (by decide) ?_
  refine r_bipush dX2_init_5 rfl (by decide) ?_
  refine r_anew (k := 105) (N := 9) (z := 16) dX2_init_7 rfl rfl ⟨by decide, by decide⟩ rfl (gt_of 125 (by decide +kernel) (by decide +kernel)) (fun _ q => q.1) (by decide) rfl rfl (hz.at (by decide)) (Nat.le_of_ble_eq_true rfl) ?_
  have hz := hz.up (show (15 : Nat) ≤ 16 by decide)
  refine r_put (ci := 2) (k := 0) dX2_init_10 rfl rfl (by decide) (gt_of 195 (by decide +kernel) (by decide +kernel)) rfl (Or.inr ⟨rfl, rfl, rfl⟩) (Or.inr (Or.inr (Or.inr (Or.inr ⟨_, rfl⟩)))) trivial rfl (by decide) ?_
  have hz := Zr.w (r := 15) (k := 0) (v := 16) hz (by decide)
  refine r_iconst dX2_init_13 rfl ?_
  refine r_istore_n (i := 1) dX2_init_14 rfl rfl (by decide) rfl ?_
  refine r_iload_n dX2_init_15 rfl rfl ?_
  refine r_bipush dX2_init_16 rfl (by decide) ?_
  refine r_ge_f (tgt := 41) dX2_init_18 rfl (by decide) ⟨by decide, by decide⟩ ⟨by decide, by decide⟩ (by decide) ?_
  refine r_aload_n dX2_init_21 rfl rfl (by decide) ?_
  refine r_get (ci := 2) (k := 0) (z := 16) dX2_init_22 rfl rfl (by decide) (gt_of 195 (by decide +kernel) (by decide +kernel)) rfl rfl (by decide) rfl ?_
  refine r_iload_n dX2_init_25 rfl rfl ?_
  refine r_new (ci := 0) (z := 17) dX2_init_26 rfl rfl rfl (by decide) okT_0 (gt_of 125 (by decide +kernel) (by decide +kernel)) (gt_of 127 (by decide +kernel) (by decide +kernel)) (gt_of 72 (by decide +kernel) (by decide +kernel)) rfl (hz.at (by decide)) (Nat.le_of_ble_eq_true rfl) ?_
  have hz := hz.up (show (16 : Nat) ≤ 17 by decide)
  refine r_dup dX2_init_29 rfl ?_
  refine r_iload_n dX2_init_30 rfl rfl ?_
  refine r_call (n' := 17) (vs := [(0, 0)]) (r0 := 17) (st := [(2, 17), (0, 0), (2, 16)]) dX2_init_31 rfl (G_X0 X 17 0 17 _ rfl (by decide) (by decide)) rfl (gt_of 128 (by decide +kernel) (by decide +kernel)) (gt_of 129 (by decide +kernel) (by decide +kernel)) (gt_of 72 (by decide +kernel) (by decide +kernel)) (gt_of 130 (by decide +kernel) (by decide +kernel)) (by decide) (by decide) ⟨Nat.le_of_ble_eq_true rfl, Nat.le_of_ble_eq_true rfl⟩ (by decide) rfl (by decide) (Nat.le_of_ble_eq_true rfl) ?_
  have hz := Zr.ws [(17, 0, 0)] hz (by decide)
  refine r_aast (k := 105) (N := 9) (ci := 0) dX2_init_34 rfl rfl ⟨by decide, by decide⟩ rfl (by decide) ⟨by decide, by decide⟩ (by decide) rfl rfl (by decide) ?_
  have hz := Zr.w (r := 16) (k := 0) (v := 17) hz (by decide)
  refine r_iinc (ls' := [(2, 15), (0, 1)]) dX2_init_35 rfl rfl rfl ?_
  refine r_goto (tgt := 15) dX2_init_38 rfl (by decide) ?_
  refine r_iload_n dX2_init_15 rfl rfl ?_
  refine r_bipush dX2_init_16 rfl (by decide) ?_
  refine r_ge_f (tgt := 41) dX2_init_18 rfl (by decide) ⟨by decide, by decide⟩ ⟨by decide, by decide⟩ (by decide) ?_
  refine r_aload_n dX2_init_21 rfl rfl (by decide) ?_
  refine r_get (ci := 2) (k := 0) (z := 16) dX2_init_22 rfl rfl (by decide) (gt_of 195 (by decide +kernel) (by decide +kernel)) rfl rfl (by decide) rfl ?_
  refine r_iload_n dX2_init_25 rfl rfl ?_
  refine r_new (ci := 0) (z := 18) dX2_init_26 rfl rfl rfl (by decide) okT_0 (gt_of 125 (by decide +kernel) (by decide +kernel)) (gt_of 127 (by decide +kernel) (by decide +kernel)) (gt_of 72 (by decide +kernel) (by decide +kernel)) rfl (hz.at (by decide)) (Nat.le_of_ble_eq_true rfl) ?_
  have hz := hz.up (show (17 : Nat) ≤ 18 by decide)
  refine r_dup dX2_init_29 rfl ?_
  refine r_iload_n dX2_init_30 rfl rfl ?_
  refine r_call (n' := 18) (vs := [(0, 1)]) (r0 := 18) (st := [(2, 18), (0, 1), (2, 16)]) dX2_init_31 rfl (G_X0 X 18 1 18 _ rfl (by decide) (by decide)) rfl (gt_of 128 (by decide +kernel) (by decide +kernel)) (gt_of 129 (by decide +kernel) (by decide +kernel)) (gt_of 72 (by decide +kernel) (by decide +kernel)) (gt_of 130 (by decide +kernel) (by decide +kernel)) (by decide) (by decide) ⟨Nat.le_of_ble_eq_true rfl, Nat.le_of_ble_eq_true rfl⟩ (by decide) rfl (by decide) (Nat.le_of_ble_eq_true rfl) ?_
  have hz := Zr.ws [(18, 0, 1)] hz (by decide)
  refine r_aast (k := 105) (N := 9) (ci := 0) dX2_init_34 rfl rfl ⟨by decide, by decide⟩ rfl (by decide) ⟨by decide, by decide⟩ (by decide) rfl rfl (by decide) ?_
  have hz := Zr.w (r := 16) (k := 1) (v := 18) hz (by decide)
  refine r_iinc (ls' := [(2, 15), (0, 2)]) dX2_init_35 rfl rfl rfl ?_
  refine r_goto (tgt := 15) dX2_init_38 rfl (by decide) ?_
  refine r_iload_n dX2_init_15 rfl rfl ?_
  refine r_bipush dX2_init_16 rfl (by decide) ?_
  refine r_ge_f (tgt := 41) dX2_init_18 rfl (by decide) ⟨by decide, by decide⟩ ⟨by decide, by decide⟩ (by decide) ?_
  refine r_aload_n dX2_init_21 rfl rfl (by decide) ?_
  refine r_get (ci := 2) (k := 0) (z := 16) dX2_init_22 rfl rfl (by decide) (gt_of 195 (by decide +kernel) (by decide +kernel)) rfl rfl (by decide) rfl ?_
  refine r_iload_n dX2_init_25 rfl rfl ?_
  refine r_new (ci := 0) (z := 19) dX2_init_26 rfl rfl rfl (by decide) okT_0 (gt_of 125 (by decide +kernel) (by decide +kernel)) (gt_of 127 (by decide +kernel) (by decide +kernel)) (gt_of 72 (by decide +kernel) (by decide +kernel)) rfl (hz.at (by decide)) (Nat.le_of_ble_eq_true rfl) ?_
  have hz := hz.up (show (18 : Nat) ≤ 19 by decide)
  refine r_dup dX2_init_29 rfl ?_
  refine r_iload_n dX2_init_30 rfl rfl ?_
  refine r_call (n' := 19) (vs := [(0, 2)]) (r0 := 19) (st := [(2, 19), (0, 2), (2, 16)]) dX2_init_31 rfl (G_X0 X 19 2 19 _ rfl (by decide) (by decide)) rfl (gt_of 128 (by decide +kernel) (by decide +kernel)) (gt_of 129 (by decide +kernel) (by decide +kernel)) (gt_of 72 (by decide +kernel) (by decide +kernel)) (gt_of 130 (by decide +kernel) (by decide +kernel)) (by decide) (by decide) ⟨Nat.le_of_ble_eq_true rfl, Nat.le_of_ble_eq_true rfl⟩ (by decide) rfl (by decide) (Nat.le_of_ble_eq_true rfl) ?_
  have hz := Zr.ws [(19, 0, 2)] hz (by decide)
  refine r_aast (k := 105) (N := 9) (ci := 0) dX2_init_34 rfl rfl ⟨by decide, by decide⟩ rfl (by decide) ⟨by decide, by decide⟩ (by decide) rfl rfl (by decide) ?_
  have hz := Zr.w (r := 16) (k := 2) (v := 19) hz (by decide)
  refine r_iinc (ls' := [(2, 15), (0, 3)]) dX2_init_35 rfl rfl rfl ?_
  refine r_goto (tgt := 15) dX2_init_38 rfl (by decide) ?_
  refine r_iload_n dX2_init_15 rfl rfl ?_
  refine r_bipush dX2_init_16 rfl (by decide) ?_
  refine r_ge_f (tgt := 41) dX2_init_18 rfl (by decide) ⟨by decide, by decide⟩ ⟨by decide, by decide⟩ (by decide) ?_
  refine r_aload_n dX2_init_21 rfl rfl (by decide) ?_
  refine r_get (ci := 2) (k := 0) (z := 16) dX2_init_22 rfl rfl (by decide) (gt_of 195 (by decide +kernel) (by decide +kernel)) rfl rfl (by decide) rfl ?_
  refine r_iload_n dX2_init_25 rfl rfl ?_
  refine r_new (ci := 0) (z := 20) dX2_init_26 rfl rfl rfl (by decide) okT_0 (gt_of 125 (by decide +kernel) (by decide +kernel)) (gt_of 127 (by decide +kernel) (by decide +kernel)) (gt_of 72 (by decide +kernel) (by decide +kernel)) rfl (hz.at (by decide)) (Nat.le_of_ble_eq_true rfl) ?_
  have hz := hz.up (show (19 : Nat) ≤ 20 by decide)
  refine r_dup dX2_init_29 rfl ?_
  refine r_iload_n dX2_init_30 rfl rfl ?_
  refine r_call (n' := 20) (vs := [(0, 3)]) (r0 := 20) (st := [(2, 20), (0, 3), (2, 16)]) dX2_init_31 rfl (G_X0 X 20 3 20 _ rfl (by decide) (by decide)) rfl (gt_of 128 (by decide +kernel) (by decide +kernel)) (gt_of 129 (by decide +kernel) (by decide +kernel)) (gt_of 72 (by decide +kernel) (by decide +kernel)) (gt_of 130 (by decide +kernel) (by decide +kernel)) (by decide) (by decide) ⟨Nat.le_of_ble_eq_true rfl, Nat.le_of_ble_eq_true rfl⟩ (by decide) rfl (by decide) (Nat.le_of_ble_eq_true rfl) ?_
  have hz := Zr.ws [(20, 0, 3)] hz (by decide)
  refine r_aast (k := 105) (N := 9) (ci := 0) dX2_init_34 rfl rfl ⟨by decide, by decide⟩ rfl (by decide) ⟨by decide, by decide⟩ (by decide) rfl rfl (by decide) ?_
  have hz := Zr.w (r := 16) (k := 3) (v := 20) hz (by decide)
  refine r_iinc (ls' := [(2, 15), (0, 4)]) dX2_init_35 rfl rfl rfl ?_
  refine r_goto (tgt := 15) dX2_init_38 rfl (by decide) ?_
  refine r_iload_n dX2_init_15 rfl rfl ?_
  refine r_bipush dX2_init_16 rfl (by decide) ?_
  refine r_ge_f (tgt := 41) dX2_init_18 rfl (by decide) ⟨by decide, by decide⟩ ⟨by decide, by decide⟩ (by decide) ?_
  refine r_aload_n dX2_init_21 rfl rfl (by decide) ?_
  refine r_get (ci := 2) (k := 0) (z := 16) dX2_init_22 rfl rfl (by decide) (gt_of 195 (by decide +kernel) (by decide +kernel)) rfl rfl (by decide) rfl ?_
  refine r_iload_n dX2_init_25 rfl rfl ?_
  refine r_new (ci := 0) (z := 21) dX2_init_26 rfl rfl rfl (by decide) okT_0 (gt_of 125 (by decide +kernel) (by decide +kernel)) (gt_of 127 (by decide +kernel) (by decide +kernel)) (gt_of 72 (by decide +kernel) (by decide +kernel)) rfl (hz.at (by decide)) (Nat.le_of_ble_eq_true rfl) ?_
  have hz := hz.up (show (20 : Nat) ≤ 21 by decide)
  refine r_dup dX2_init_29 rfl ?_
  refine r_iload_n dX2_init_30 rfl rfl ?_
  refine r_call (n' := 21) (vs := [(0, 4)]) (r0 := 21) (st := [(2, 21), (0, 4), (2, 16)]) dX2_init_31 rfl (G_X0 X 21 4 21 _ rfl (by decide) (by decide)) rfl (gt_of 128 (by decide +kernel) (by decide +kernel)) (gt_of 129 (by decide +kernel) (by decide +kernel)) (gt_of 72 (by decide +kernel) (by decide +kernel)) (gt_of 130 (by decide +kernel) (by decide +kernel)) (by decide) (by decide) ⟨Nat.le_of_ble_eq_true rfl, Nat.le_of_ble_eq_true rfl⟩ (by decide) rfl (by decide) (Nat.le_of_ble_eq_true rfl) ?_
  have hz := Zr.ws [(21, 0, 4)] hz (by decide)
  refine r_aast (k := 105) (N := 9) (ci := 0) dX2_init_34 rfl rfl ⟨by decide, by decide⟩ rfl (by decide) ⟨by decide, by decide⟩ (by decide) rfl rfl (by decide) ?_
  have hz := Zr.w (r := 16) (k := 4) (v := 21) hz (by decide)
  refine r_iinc (ls' := [(2, 15), (0, 5)]) dX2_init_35 rfl rfl rfl ?_
  refine r_goto (tgt := 15) dX2_init_38 rfl (by decide) ?_
  refine r_iload_n dX2_init_15 rfl rfl ?_
  refine r_bipush dX2_init_16 rfl (by decide) ?_
  refine r_ge_f (tgt := 41) dX2_init_18 rfl (by decide) ⟨by decide, by decide⟩ ⟨by decide, by decide⟩ (by decide) ?_
  refine r_aload_n dX2_init_21 rfl rfl (by decide) ?_
  refine r_get (ci := 2) (k := 0) (z := 16) dX2_init_22 rfl rfl (by decide) (gt_of 195 (by decide +kernel) (by decide +kernel)) rfl rfl (by decide) rfl ?_
  refine r_iload_n dX2_init_25 rfl rfl ?_
  refine r_new (ci := 0) (z := 22) dX2_init_26 rfl rfl rfl (by decide) okT_0 (gt_of 125 (by decide +kernel) (by decide +kernel)) (gt_of 127 (by decide +kernel) (by decide +kernel)) (gt_of 72 (by decide +kernel) (by decide +kernel)) rfl (hz.at (by decide)) (Nat.le_of_ble_eq_true rfl) ?_
  have hz := hz.up (show (21 : Nat) ≤ 22 by decide)
  refine r_dup dX2_init_29 rfl ?_
  refine r_iload_n dX2_init_30 rfl rfl ?_
  refine r_call (n' := 22) (vs := [(0, 5)]) (r0 := 22) (st := [(2, 22), (0, 5), (2, 16)]) dX2_init_31 rfl (G_X0 X 22 5 22 _ rfl (by decide) (by decide)) rfl (gt_of 128 (by decide +kernel) (by decide +kernel)) (gt_of 129 (by decide +kernel) (by decide +kernel)) (gt_of 72 (by decide +kernel) (by decide +kernel)) (gt_of 130 (by decide +kernel) (by decide +kernel)) (by decide) (by decide) ⟨Nat.le_of_ble_eq_true rfl, Nat.le_of_ble_eq_true rfl⟩ (by decide) rfl (by decide) (Nat.le_of_ble_eq_true rfl) ?_
  have hz := Zr.ws [(22, 0, 5)] hz (by decide)
  refine r_aast (k := 105) (N := 9) (ci := 0) dX2_init_34 rfl rfl ⟨by decide, by decide⟩ rfl (by decide) ⟨by decide, by decide⟩ (by decide) rfl rfl (by decide) ?_
  have hz := Zr.w (r := 16) (k := 5) (v := 22) hz (by decide)
  refine r_iinc (ls' := [(2, 15), (0, 6)]) dX2_init_35 rfl rfl rfl ?_
  refine r_goto (tgt := 15) dX2_init_38 rfl (by decide) ?_
  refine r_iload_n dX2_init_15 rfl rfl ?_
  refine r_bipush dX2_init_16 rfl (by decide) ?_
  refine r_ge_f (tgt := 41) dX2_init_18 rfl (by decide) ⟨by decide, by decide⟩ ⟨by decide, by decide⟩ (by decide) ?_
  refine r_aload_n dX2_init_21 rfl rfl (by decide) ?_
  refine r_get (ci := 2) (k := 0) (z := 16) dX2_init_22 rfl rfl (by decide) (gt_of 195 (by decide +kernel) (by decide +kernel)) rfl rfl (by decide) rfl ?_
  refine r_iload_n dX2_init_25 rfl rfl ?_
  refine r_new (ci := 0) (z := 23) dX2_init_26 rfl rfl rfl (by decide) okT_0 (gt_of 125 (by decide +kernel) (by decide +kernel)) (gt_of 127 (by decide +kernel) (by decide +kernel)) (gt_of 72 (by decide +kernel) (by decide +kernel)) rfl (hz.at (by decide)) (Nat.le_of_ble_eq_true rfl) ?_
  have hz := hz.up (show (22 : Nat) ≤ 23 by decide)
  refine r_dup dX2_init_29 rfl ?_
  refine r_iload_n dX2_init_30 rfl rfl ?_
  refine r_call (n' := 23) (vs := [(0, 6)]) (r0 := 23) (st := [(2, 23), (0, 6), (2, 16)]) dX2_init_31 rfl (G_X0 X 23 6 23 _ rfl (by decide) (by decide)) rfl (gt_of 128 (by decide +kernel) (by decide +kernel)) (gt_of 129 (by decide +kernel) (by decide +kernel)) (gt_of 72 (by decide +kernel) (by decide +kernel)) (gt_of 130 (by decide +kernel) (by decide +kernel)) (by decide) (by decide) ⟨Nat.le_of_ble_eq_true rfl, Nat.le_of_ble_eq_true rfl⟩ (by decide) rfl (by decide) (Nat.le_of_ble_eq_true rfl) ?_
  have hz := Zr.ws [(23, 0, 6)] hz (by decide)
  refine r_aast (k := 105) (N := 9) (ci := 0) dX2_init_34 rfl rfl ⟨by decide, by decide⟩ rfl (by decide) ⟨by decide, by decide⟩ (by decide) rfl rfl (by decide) ?_
  have hz := Zr.w (r := 16) (k := 6) (v := 23) hz (by decide)
  refine r_iinc (ls' := [(2, 15), (0, 7)]) dX2_init_35 rfl rfl rfl ?_
  refine r_goto (tgt := 15) dX2_init_38 rfl (by decide) ?_
  refine r_iload_n dX2_init_15 rfl rfl ?_
  refine r_bipush dX2_init_16 rfl (by decide) ?_
  refine r_ge_f (tgt := 41) dX2_init_18 rfl (by decide) ⟨by decide, by decide⟩ ⟨by decide, by decide⟩ (by decide) ?_
  refine r_aload_n dX2_init_21 rfl rfl (by decide) ?_
  refine r_get (ci := 2) (k := 0) (z := 16) dX2_init_22 rfl rfl (by decide) (gt_of 195 (by decide +kernel) (by decide +kernel)) rfl rfl (by decide) rfl ?_
  refine r_iload_n dX2_init_25 rfl rfl ?_
  refine r_new (ci := 0) (z := 24) dX2_init_26 rfl rfl rfl (by decide) okT_0 (gt_of 125 (by decide +kernel) (by decide +kernel)) (gt_of 127 (by decide +kernel) (by decide +kernel)) (gt_of 72 (by decide +kernel) (by decide +kernel)) rfl (hz.at (by decide)) (Nat.le_of_ble_eq_true rfl) ?_
  have hz := hz.up (show (23 : Nat) ≤ 24 by decide)
  refine r_dup dX2_init_29 rfl ?_
  refine r_iload_n dX2_init_30 rfl rfl ?_
  refine r_call (n' := 24) (vs := [(0, 7)]) (r0 := 24) (st := [(2, 24), (0, 7), (2, 16)]) dX2_init_31 rfl (G_X0 X 24 7 24 _ rfl (by decide) (by decide)) rfl (gt_of 128 (by decide +kernel) (by decide +kernel)) (gt_of 129 (by decide +kernel) (by decide +kernel)) (gt_of 72 (by decide +kernel) (by decide +kernel)) (gt_of 130 (by decide +kernel) (by decide +kernel)) (by decide) (by decide) ⟨Nat.le_of_ble_eq_true rfl, Nat.le_of_ble_eq_true rfl⟩ (by decide) rfl (by decide) (Nat.le_of_ble_eq_true rfl) ?_
  have hz := Zr.ws [(24, 0, 7)] hz (by decide)
  refine r_aast (k := 105) (N := 9) (ci := 0) dX2_init_34 rfl rfl ⟨by decide, by decide⟩ rfl (by decide) ⟨by decide, by decide⟩ (by decide) rfl rfl (by decide) ?_
  have hz := Zr.w (r := 16) (k := 7) (v := 24) hz (by decide)
  refine r_iinc (ls' := [(2, 15), (0, 8)]) dX2_init_35 rfl rfl rfl ?_
  refine r_goto (tgt := 15) dX2_init_38 rfl (by decide) ?_
  refine r_iload_n dX2_init_15 rfl rfl ?_
  refine r_bipush dX2_init_16 rfl (by decide) ?_
  refine r_ge_f (tgt := 41) dX2_init_18 rfl (by decide) ⟨by decide, by decide⟩ ⟨by decide, by decide⟩ (by decide) ?_
  refine r_aload_n dX2_init_21 rfl rfl (by decide) ?_
  refine r_get (ci := 2) (k := 0) (z := 16) dX2_init_22 rfl rfl (by decide) (gt_of 195 (by decide +kernel) (by decide +kernel)) rfl rfl (by decide) rfl ?_
  refine r_iload_n dX2_init_25 rfl rfl ?_
  refine r_new (ci := 0) (z := 25) dX2_init_26 rfl rfl rfl (by decide) okT_0 (gt_of 125 (by decide +kernel) (by decide +kernel)) (gt_of 127 (by decide +kernel) (by decide +kernel)) (gt_of 72 (by decide +kernel) (by decide +kernel)) rfl (hz.at (by decide)) (Nat.le_of_ble_eq_true rfl) ?_
  have hz := hz.up (show (24 : Nat) ≤ 25 by decide)
  refine r_dup dX2_init_29 rfl ?_
  refine r_iload_n dX2_init_30 rfl rfl ?_
  refine r_call (n' := 25) (vs := [(0, 8)]) (r0 := 25) (st := [(2, 25), (0, 8), (2, 16)]) dX2_init_31 rfl (G_X0 X 25 8 25 _ rfl (by decide) (by decide)) rfl (gt_of 128 (by decide +kernel) (by decide +kernel)) (gt_of 129 (by decide +kernel) (by decide +kernel)) (gt_of 72 (by decide +kernel) (by decide +kernel)) (gt_of 130 (by decide +kernel) (by decide +kernel)) (by decide) (by decide) ⟨Nat.le_of_ble_eq_true rfl, Nat.le_of_ble_eq_true rfl⟩ (by decide) rfl (by decide) (Nat.le_of_ble_eq_true rfl) ?_
  have hz := Zr.ws [(25, 0, 8)] hz (by decide)
  refine r_aast (k := 105) (N := 9) (ci := 0) dX2_init_34 rfl rfl ⟨by decide, by decide⟩ rfl (by decide) ⟨by decide, by decide⟩ (by decide) rfl rfl (by decide) ?_
  have hz := Zr.w (r := 16) (k := 8) (v := 25) hz (by decide)
  refine r_iinc (ls' := [(2, 15), (0, 9)]) dX2_init_35 rfl rfl rfl ?_
  refine r_goto (tgt := 15) dX2_init_38 rfl (by decide) ?_
  refine r_iload_n dX2_init_15 rfl rfl ?_
  refine r_bipush dX2_init_16 rfl (by decide) ?_
  refine r_ge_t (tgt := 41) dX2_init_18 rfl (by decide) ⟨by decide, by decide⟩ ⟨by decide, by decide⟩ (by decide) ?_
  refine r_aload_n dX2_init_41 rfl rfl (by decide) ?_
  refine r_iconst dX2_init_42 rfl ?_
  refine r_put (ci := 2) (k := 1) dX2_init_43 rfl rfl (by decide) (gt_of 198 (by decide +kernel) (by decide +kernel)) rfl (Or.inl rfl) (Or.inl rfl) ⟨by decide, by decide⟩ rfl (by decide) ?_
  have hz := Zr.w (r := 15) (k := 1) (v := 0) hz (by decide)
  exact GG.done
theorem G_X1_26 (X : XS) (h : Mem) (hz : Zr 26 h) : GM X yX1_init MX1_init 1 [(2, 26)] 26 27 h (wrs h [(26, 0, 27)]) := by
  refine GM.of (pcE := 12) (lsE := [(2, 26)]) (by decide) rfl rfl (by decide) (by decide) dX1_init_12 ?_
  refine r_aload_n dX1_init_0 rfl rfl (by decide) ?_
  refine r_obj dX1_init_1 rfl (gt_of 211 (by decide +kernel) (by decide +kernel)) (gt_of 90 (by decide +kernel) (by decide +kernel)) (gt_of 91 (by decide +kernel) (by decide +kernel)) (by decide) ⟨Nat.le_of_ble_eq_true rfl, Nat.le_of_ble_eq_true rfl⟩ ?_
  refine r_aload_n dX1_init_4 rfl rfl (by decide) ?_
  refine r_bipush dX1_init_5 rfl (by decide) ?_
  refine r_newa (k := 100) (N := 9) (z := 27) dX1_init_7 rfl rfl ⟨by decide, by decide⟩ rfl (gt_of 232 (by decide +kernel) (by decide +kernel)) (by decide) rfl rfl (hz.at (by decide)) (Nat.le_of_ble_eq_true rfl) ?_
  have hz := hz.up (show (26 : Nat) ≤ 27 by decide)
  refine r_put (ci := 1) (k := 0) dX1_init_9 rfl rfl (by decide) (gt_of 212 (by decide +kernel) (by decide +kernel)) rfl (Or.inr ⟨rfl, rfl, rfl⟩) (Or.inr (Or.inr (Or.inr (Or.inr ⟨_, rfl⟩)))) trivial rfl (by decide) ?_
  have hz := Zr.w (r := 26) (k := 0) (v := 27) hz (by decide)
  exact GG.done
theorem G_X1_29 (X : XS) (h : Mem) (hz : Zr 29 h) : GM X yX1_init MX1_init 1 [(2, 29)] 29 30 h (wrs h [(29, 0, 30)]) := by
  refine GM.of (pcE := 12) (lsE := [(2, 29)]) (by decide) rfl rfl (by decide) (by decide) dX1_init_12 ?_
  refine r_aload_n dX1_init_0 rfl rfl (by decide) ?_
  refine r_obj dX1_init_1 rfl (gt_of 211 (by decide +kernel) (by decide +kernel)) (gt_of 90 (by decide +kernel) (by decide +kernel)) (gt_of 91 (by decide +kernel) (by decide +kernel)) (by decide) ⟨Nat.le_of_ble_eq_true rfl, Nat.le_of_ble_eq_true rfl⟩ ?_
  refine r_aload_n dX1_init_4 rfl rfl (by decide) ?_
  refine r_bipush dX1_init_5 rfl (by decide) ?_
  refine r_newa (k := 100) (N := 9) (z := 30) dX1_init_7 rfl rfl ⟨by decide, by decide⟩ rfl (gt_of 232 (by decide +kernel) (by decide +kernel)) (by decide) rfl rfl (hz.at (by decide)) (Nat.le_of_ble_eq_true rfl) ?_
  have hz := hz.up (show (29 : Nat) ≤ 30 by decide)
  refine r_put (ci := 1) (k := 0) dX1_init_9 rfl rfl (by decide) (gt_of 212 (by decide +kernel) (by decide +kernel)) rfl (Or.inr ⟨rfl, rfl, rfl⟩) (Or.inr (Or.inr (Or.inr (Or.inr ⟨_, rfl⟩)))) trivial rfl (by decide) ?_
  have hz := Zr.w (r := 29) (k := 0) (v := 30) hz (by decide)
  exact GG.done
theorem G_X1_31 (X : XS) (h : Mem) (hz : Zr 31 h) : GM X yX1_init MX1_init 1 [(2, 31)] 31 32 h (wrs h [(31, 0, 32)]) := by
  refine GM.of (pcE := 12) (lsE := [(2, 31)]) (by decide) rfl rfl (by decide) (by decide) dX1_init_12 ?_
  refine r_aload_n dX1_init_0 rfl rfl (by decide) ?_
  refine r_obj dX1_init_1 rfl (gt_of 211 (by decide +kernel) (by decide +kernel)) (gt_of 90 (by decide +kernel) (by decide +kernel)) (gt_of 91 (by decide +kernel) (by decide +kernel)) (by decide) ⟨Nat.le_of_ble_eq_true rfl, Nat.le_of_ble_eq_true rfl⟩ ?_
  refine r_aload_n dX1_init_4 rfl rfl (by decide) ?_
  refine r_bipush dX1_init_5 rfl (by decide) ?_
  refine r_newa (k := 100) (N := 9) (z := 32) dX1_init_7 rfl rfl ⟨by decide, by decide⟩ rfl (gt_of 232 (by decide +kernel) (by decide +kernel)) (by decide) rfl rfl (hz.at (by decide)) (Nat.le_of_ble_eq_true rfl) ?_
  have hz := hz.up (show (31 : Nat) ≤ 32 by decide)
  refine r_put (ci := 1) (k := 0) dX1_init_9 rfl rfl (by decide) (gt_of 212 (by decide +kernel) (by decide +kernel)) rfl (Or.inr ⟨rfl, rfl, rfl⟩) (Or.inr (Or.inr (Or.inr (Or.inr ⟨_, rfl⟩)))) trivial rfl (by decide) ?_
  have hz := Zr.w (r := 31) (k := 0) (v := 32) hz (by decide)
  exact GG.done
theorem G_X6_33 (X : XS) (h : Mem) (hz : Zr 33 h) : GM X yX6_init MX6_init 2 [(2, 33)] 33 45 h (wrs h [(34, 0, 2), (34, 1, 180), (34, 2, 10), (34, 3, 2), (34, 4, 5), (34, 5, 1), (34, 6, 20), (34, 7, 400), (33, 0, 34), (33, 1, 35), (76, 0, 9), (35, 0, 76), (35, 1, 76), (35, 2, 76), (35, 3, 76), (35, 4, 76), (35, 5, 76), (35, 6, 76), (35, 7, 76), (35, 8, 76), (35, 9, 76), (33, 2, 36), (33, 3, 37), (33, 4, 38), (33, 5, 39), (33, 6, 40), (33, 7, 41), (33, 8, 42), (33, 9, 43), (33, 10, 44)]) := by
  refine GM.of (pcE := 129) (lsE := [(2, 33), (2, 76), (0, 10)]) (by decide) rfl rfl (by decide) (by decide) dX6_init_129 ?_
  refine r_aload_n dX6_init_0 rfl rfl (by decide) ?_
  refine r_obj dX6_init_1 rfl (gt_of 239 (by decide +kernel) (by decide +kernel)) (gt_of 90 (by decide +kernel) (by decide +kernel)) (gt_of 91 (by decide +kernel) (by decide +kernel)) (by decide) ⟨Nat.le_of_ble_eq_true rfl, Nat.le_of_ble_eq_true rfl⟩ ?_
  refine r_aload_n dX6_init_4 rfl rfl (by decide) ?_
  refine r_gets dX6_init_5 rfl rfl ?_
  refine r_clone (z := 34) dX6_init_8 rfl rfl (gt_of 242 (by decide +kernel) (by decide +kernel)) (gt_of 243 (by decide +kernel) (by decide +kernel)) (gt_of 244 (by decide +kernel) (by decide +kernel)) (gt_of 245 (by decide +kernel) (by decide +kernel)) (gt_of 246 (by decide +kernel) (by decide +kernel)) rfl (hz.at (by decide)) (by decide) ⟨Nat.le_of_ble_eq_true rfl, Nat.le_of_ble_eq_true rfl⟩ (Nat.le_of_ble_eq_true rfl) ?_
  have hz := hz.up (show (33 : Nat) ≤ 34 by decide)
  have hz := Zr.ws (tuW 34) hz (by decide)
  refine r_cast (N := 8) dX6_init_11 rfl (gt_of 248 (by decide +kernel) (by decide +kernel)) rfl (by decide) ?_
  refine r_put (ci := 6) (k := 0) dX6_init_14 rfl rfl (by decide) (gt_of 251 (by decide +kernel) (by decide +kernel)) rfl (Or.inr ⟨rfl, rfl, rfl⟩) (Or.inr (Or.inr (Or.inr (Or.inr ⟨_, rfl⟩)))) trivial rfl (by decide) ?_
  have hz := Zr.w (r := 33) (k := 0) (v := 34) hz (by decide)
  refine r_aload_n dX6_init_17 rfl rfl (by decide) ?_
  refine r_bipush dX6_init_18 rfl (by decide) ?_
  refine r_anew (k := 103) (N := 10) (z := 35) dX6_init_20 rfl rfl ⟨by decide, by decide⟩ rfl (gt_of 249 (by decide +kernel) (by decide +kernel)) (fun _ q => q.1) (by decide) rfl rfl (hz.at (by decide)) (Nat.le_of_ble_eq_true rfl) ?_
  have hz := hz.up (show (34 : Nat) ≤ 35 by decide)
  refine r_put (ci := 6) (k := 1) dX6_init_23 rfl rfl (by decide) (gt_of 253 (by decide +kernel) (by decide +kernel)) rfl (Or.inr ⟨rfl, rfl, rfl⟩) (Or.inr (Or.inr (Or.inr (Or.inr ⟨_, rfl⟩)))) trivial rfl (by decide) ?_
  have hz := Zr.w (r := 33) (k := 1) (v := 35) hz (by decide)
  refine r_new (ci := 0) (z := 76) dX6_init_26 rfl rfl rfl (by decide) okT_0 (gt_of 249 (by decide +kernel) (by decide +kernel)) (gt_of 127 (by decide +kernel) (by decide +kernel)) (gt_of 72 (by decide +kernel) (by decide +kernel)) rfl (hz.at (by decide)) (Nat.le_of_ble_eq_true rfl) ?_
  have hz := hz.up (show (35 : Nat) ≤ 36 by decide)
  refine r_dup dX6_init_29 rfl ?_
  refine r_bipush dX6_init_30 rfl (by decide) ?_
  refine r_call (n' := 36) (vs := [(0, 9)]) (r0 := 76) (st := [(2, 76)]) dX6_init_32 rfl (G_X0 X 76 9 36 _ rfl (by decide) (by decide)) rfl (gt_of 250 (by decide +kernel) (by decide +kernel)) (gt_of 129 (by decide +kernel) (by decide +kernel)) (gt_of 72 (by decide +kernel) (by decide +kernel)) (gt_of 130 (by decide +kernel) (by decide +kernel)) (by decide) (by decide) ⟨Nat.le_of_ble_eq_true rfl, Nat.le_of_ble_eq_true rfl⟩ (by decide) rfl (by decide) (Nat.le_of_ble_eq_true rfl) ?_
  have hz := Zr.ws [(76, 0, 9)] hz (by decide)
  refine r_astore_n (i := 1) dX6_init_35 rfl rfl (by decide) (by decide) rfl ?_
  refine r_iconst dX6_init_36 rfl ?_
  refine r_istore_n (i := 2) dX6_init_37 rfl rfl (by decide) rfl ?_
  refine r_iload_n dX6_init_38 rfl rfl ?_
  refine r_bipush dX6_init_39 rfl (by decide) ?_
  refine r_ge_f (tgt := 57) dX6_init_41 rfl (by decide) ⟨by decide, by decide⟩ ⟨by decide, by decide⟩ (by decide) ?_
  refine r_aload_n dX6_init_44 rfl rfl (by decide) ?_
  refine r_get (ci := 6) (k := 1) (z := 35) dX6_init_45 rfl rfl (by decide) (gt_of 253 (by decide +kernel) (by decide +kernel)) rfl rfl (by decide) rfl ?_
  refine r_iload_n dX6_init_48 rfl rfl ?_
  refine r_aload_n dX6_init_49 rfl rfl (by decide) ?_
  refine r_aast (k := 103) (N := 10) (ci := 0) dX6_init_50 rfl rfl ⟨by decide, by decide⟩ rfl (by decide) ⟨by decide, by decide⟩ (by decide) rfl rfl (by decide) ?_
  have hz := Zr.w (r := 35) (k := 0) (v := 76) hz (by decide)
  refine r_iinc (ls' := [(2, 33), (2, 76), (0, 1)]) dX6_init_51 rfl rfl rfl ?_
  refine r_goto (tgt := 38) dX6_init_54 rfl (by decide) ?_
  refine r_iload_n dX6_init_38 rfl rfl ?_
  refine r_bipush dX6_init_39 rfl (by decide) ?_
  refine r_ge_f (tgt := 57) dX6_init_41 rfl (by decide) ⟨by decide, by decide⟩ ⟨by decide, by decide⟩ (by decide) ?_
  refine r_aload_n dX6_init_44 rfl rfl (by decide) ?_
  refine r_get (ci := 6) (k := 1) (z := 35) dX6_init_45 rfl rfl (by decide) (gt_of 253 (by decide +kernel) (by decide +kernel)) rfl rfl (by decide) rfl ?_
  refine r_iload_n dX6_init_48 rfl rfl ?_
  refine r_aload_n dX6_init_49 rfl rfl (by decide) ?_
  refine r_aast (k := 103) (N := 10) (ci := 0) dX6_init_50 rfl rfl ⟨by decide, by decide⟩ rfl (by decide) ⟨by decide, by decide⟩ (by decide) rfl rfl (by decide) ?_
  have hz := Zr.w (r := 35) (k := 1) (v := 76) hz (by decide)
  refine r_iinc (ls' := [(2, 33), (2, 76), (0, 2)]) dX6_init_51 rfl rfl rfl ?_
  refine r_goto (tgt := 38) dX6_init_54 rfl (by decide) ?_
  refine r_iload_n dX6_init_38 rfl rfl ?_
  refine r_bipush dX6_init_39 rfl (by decide) ?_
  refine r_ge_f (tgt := 57) dX6_init_41 rfl (by decide) ⟨by decide, by decide⟩ ⟨by decide, by decide⟩ (by decide) ?_
  refine r_aload_n dX6_init_44 rfl rfl (by decide) ?_
  refine r_get (ci := 6) (k := 1) (z := 35) dX6_init_45 rfl rfl (by decide) (gt_of 253 (by decide +kernel) (by decide +kernel)) rfl rfl (by decide) rfl ?_
  refine r_iload_n dX6_init_48 rfl rfl ?_
  refine r_aload_n dX6_init_49 rfl rfl (by decide) ?_
  refine r_aast (k := 103) (N := 10) (ci := 0) dX6_init_50 rfl rfl ⟨by decide, by decide⟩ rfl (by decide) ⟨by decide, by decide⟩ (by decide) rfl rfl (by decide) ?_
  have hz := Zr.w (r := 35) (k := 2) (v := 76) hz (by decide)
  refine r_iinc (ls' := [(2, 33), (2, 76), (0, 3)]) dX6_init_51 rfl rfl rfl ?_
  refine r_goto (tgt := 38) dX6_init_54 rfl (by decide) ?_
  refine r_iload_n dX6_init_38 rfl rfl ?_
  refine r_bipush dX6_init_39 rfl (by decide) ?_
  refine r_ge_f (tgt := 57) dX6_init_41 rfl (by decide) ⟨by decide, by decide⟩ ⟨by decide, by decide⟩ (by decide) ?_
  refine r_aload_n dX6_init_44 rfl rfl (by decide) ?_
  refine r_get (ci := 6) (k := 1) (z := 35) dX6_init_45 rfl rfl (by decide) (gt_of 253 (by decide +kernel) (by decide +kernel)) rfl rfl (by decide) rfl ?_
  refine r_iload_n dX6_init_48 rfl rfl ?_
  refine r_aload_n dX6_init_49 rfl rfl (by decide) ?_
  refine r_aast (k := 103) (N := 10) (ci := 0) dX6_init_50 rfl rfl ⟨by decide, by decide⟩ rfl (by decide) ⟨by decide, by decide⟩ (by decide) rfl rfl (by decide) ?_
  have hz := Zr.w (r := 35) (k := 3) (v := 76) hz (by decide)
  refine r_iinc (ls' := [(2, 33), (2, 76), (0, 4)]) dX6_init_51 rfl rfl rfl ?_
  refine r_goto (tgt := 38) dX6_init_54 rfl (by decide) ?_
  refine r_iload_n dX6_init_38 rfl rfl ?_
  refine r_bipush dX6_init_39 rfl (by decide) ?_
  refine r_ge_f (tgt := 57) dX6_init_41 rfl (by decide) ⟨by decide, by decide⟩ ⟨by decide, by decide⟩ (by decide) ?_
  refine r_aload_n dX6_init_44 rfl rfl (by decide) ?_
  refine r_get (ci := 6) (k := 1) (z := 35) dX6_init_45 rfl rfl (by decide) (gt_of 253 (by decide +kernel) (by decide +kernel)) rfl rfl (by decide) rfl ?_
  refine r_iload_n dX6_init_48 rfl rfl ?_
  refine r_aload_n dX6_init_49 rfl rfl (by decide) ?_
  refine r_aast (k := 103) (N := 10) (ci := 0) dX6_init_50 rfl rfl ⟨by decide, by decide⟩ rfl (by decide) ⟨by decide, by decide⟩ (by decide) rfl rfl (by decide) ?_
  have hz := Zr.w (r := 35) (k := 4) (v := 76) hz (by decide)
  refine r_iinc (ls' := [(2, 33), (2, 76), (0, 5)]) dX6_init_51 rfl rfl rfl ?_
  refine r_goto (tgt := 38) dX6_init_54 rfl (by decide) ?_
  refine r_iload_n dX6_init_38 rfl rfl ?_
  refine r_bipush dX6_init_39 rfl (by decide) ?_
  refine r_ge_f (tgt := 57) dX6_init_41 rfl (by decide) ⟨by decide, by decide⟩ ⟨by decide, by decide⟩ (by decide) ?_
  refine r_aload_n dX6_init_44 rfl rfl (by decide) ?_
  refine r_get (ci := 6) (k := 1) (z := 35) dX6_init_45 rfl rfl (by decide) (gt_of 253 (by decide +kernel) (by decide +kernel)) rfl rfl (by decide) rfl ?_
  refine r_iload_n dX6_init_48 rfl rfl ?_
  refine r_aload_n dX6_init_49 rfl rfl (by decide) ?_
  refine r_aast (k := 103) (N := 10) (ci := 0) dX6_init_50 rfl rfl ⟨by decide, by decide⟩ rfl (by decide) ⟨by decide, by decide⟩ (by decide) rfl rfl (by decide) ?_
  have hz := Zr.w (r := 35) (k := 5) (v := 76) hz (by decide)
  refine r_iinc (ls' := [(2, 33), (2, 76), (0, 6)]) dX6_init_51 rfl rfl rfl ?_
  refine r_goto (tgt := 38) dX6_init_54 rfl (by decide) ?_
  refine r_iload_n dX6_init_38 rfl rfl ?_
  refine r_bipush dX6_init_39 rfl (by decide) ?_
  refine r_ge_f (tgt := 57) dX6_init_41 rfl (by decide) ⟨by decide, by decide⟩ ⟨by decide, by decide⟩ (by decide) ?_
  refine r_aload_n dX6_init_44 rfl rfl (by decide) ?_
  refine r_get (ci := 6) (k := 1) (z := 35) dX6_init_45 rfl rfl (by decide) (gt_of 253 (by decide +kernel) (by decide +kernel)) rfl rfl (by decide) rfl ?_
  refine r_iload_n dX6_init_48 rfl rfl ?_
  refine r_aload_n dX6_init_49 rfl rfl (by decide) ?_
  refine r_aast (k := 103) (N := 10) (ci := 0) dX6_init_50 rfl rfl ⟨by decide, by decide⟩ rfl (by decide) ⟨by decide, by decide⟩ (by decide) rfl rfl (by decide) ?_
  have hz := Zr.w (r := 35) (k := 6) (v := 76) hz (by decide)
  refine r_iinc (ls' := [(2, 33), (2, 76), (0, 7)]) dX6_init_51 rfl rfl rfl ?_
  refine r_goto (tgt := 38) dX6_init_54 rfl (by decide) ?_
  refine r_iload_n dX6_init_38 rfl rfl ?_
  refine r_bipush dX6_init_39 rfl (by decide) ?_
  refine r_ge_f (tgt := 57) dX6_init_41 rfl (by decide) ⟨by decide, by decide⟩ ⟨by decide, by decide⟩ (by decide) ?_
  refine r_aload_n dX6_init_44 rfl rfl (by decide) ?_
  refine r_get (ci := 6) (k := 1) (z := 35) dX6_init_45 rfl rfl (by decide) (gt_of 253 (by decide +kernel) (by decide +kernel)) rfl rfl (by decide) rfl ?_
  refine r_iload_n dX6_init_48 rfl rfl ?_
  refine r_aload_n dX6_init_49 rfl rfl (by decide) ?_
  refine r_aast (k := 103) (N := 10) (ci := 0) dX6_init_50 rfl rfl ⟨by decide, by decide⟩ rfl (by decide) ⟨by decide, by decide⟩ (by decide) rfl rfl (by decide) ?_
  have hz := Zr.w (r := 35) (k := 7) (v := 76) hz (by decide)
  refine r_iinc (ls' := [(2, 33), (2, 76), (0, 8)]) dX6_init_51 rfl rfl rfl ?_
  refine r_goto (tgt := 38) dX6_init_54 rfl (by decide) ?_
  refine r_iload_n dX6_init_38 rfl rfl ?_
  refine r_bipush dX6_init_39 rfl (by decide) ?_
  refine r_ge_f (tgt := 57) dX6_init_41 rfl (by decide) ⟨by decide, by decide⟩ ⟨by decide, by decide⟩ (by decide) ?_
  refine r_aload_n dX6_init_44 rfl rfl (by decide) ?_
  refine r_get (ci := 6) (k := 1) (z := 35) dX6_init_45 rfl rfl (by decide) (gt_of 253 (by decide +kernel) (by decide +kernel)) rfl rfl (by decide) rfl ?_
  refine r_iload_n dX6_init_48 rfl rfl ?_
  refine r_aload_n dX6_init_49 rfl rfl (by decide) ?_
  refine r_aast (k := 103) (N := 10) (ci := 0) dX6_init_50 rfl rfl ⟨by decide, by decide⟩ rfl (by decide) ⟨by decide, by decide⟩ (by decide) rfl rfl (by decide) ?_
  have hz := Zr.w (r := 35) (k := 8) (v := 76) hz (by decide)
  refine r_iinc (ls' := [(2, 33), (2, 76), (0, 9)]) dX6_init_51 rfl rfl rfl ?_
  refine r_goto (tgt := 38) dX6_init_54 rfl (by decide) ?_
  refine r_iload_n dX6_init_38 rfl rfl ?_
  refine r_bipush dX6_init_39 rfl (by decide) ?_
  refine r_ge_f (tgt := 57) dX6_init_41 rfl (by decide) ⟨by decide, by decide⟩ ⟨by decide, by decide⟩ (by decide) ?_
  refine r_aload_n dX6_init_44 rfl rfl (by decide) ?_
  refine r_get (ci := 6) (k := 1) (z := 35) dX6_init_45 rfl rfl (by decide) (gt_of 253 (by decide +kernel) (by decide +kernel)) rfl rfl (by decide) rfl ?_
  refine r_iload_n dX6_init_48 rfl rfl ?_
  refine r_aload_n dX6_init_49 rfl rfl (by decide) ?_
  refine r_aast (k := 103) (N := 10) (ci := 0) dX6_init_50 rfl rfl ⟨by decide, by decide⟩ rfl (by decide) ⟨by decide, by decide⟩ (by decide) rfl rfl (by decide) ?_
  have hz := Zr.w (r := 35) (k := 9) (v := 76) hz (by decide)
  refine r_iinc (ls' := [(2, 33), (2, 76), (0, 10)]) dX6_init_51 rfl rfl rfl ?_
  refine r_goto (tgt := 38) dX6_init_54 rfl (by decide) ?_
  refine r_iload_n dX6_init_38 rfl rfl ?_
  refine r_bipush dX6_init_39 rfl (by decide) ?_
  refine r_ge_t (tgt := 57) dX6_init_41 rfl (by decide) ⟨by decide, by decide⟩ ⟨by decide, by decide⟩ (by decide) ?_
  refine r_aload_n dX6_init_57 rfl rfl (by decide) ?_
  refine r_bipush dX6_init_58 rfl (by decide) ?_
  refine r_newa (k := 100) (N := 10) (z := 36) dX6_init_60 rfl rfl ⟨by decide, by decide⟩ rfl (gt_of 232 (by decide +kernel) (by decide +kernel)) (by decide) rfl rfl (hz.at (by decide)) (Nat.le_of_ble_eq_true rfl) ?_
  have hz := hz.up (show (36 : Nat) ≤ 37 by decide)
  refine r_put (ci := 6) (k := 2) dX6_init_62 rfl rfl (by decide) (gt_of 254 (by decide +kernel) (by decide +kernel)) rfl (Or.inr ⟨rfl, rfl, rfl⟩) (Or.inr (Or.inr (Or.inr (Or.inr ⟨_, rfl⟩)))) trivial rfl (by decide) ?_
  have hz := Zr.w (r := 33) (k := 2) (v := 36) hz (by decide)
  refine r_aload_n dX6_init_65 rfl rfl (by decide) ?_
  refine r_bipush dX6_init_66 rfl (by decide) ?_
  refine r_newa (k := 100) (N := 10) (z := 37) dX6_init_68 rfl rfl ⟨by decide, by decide⟩ rfl (gt_of 232 (by decide +kernel) (by decide +kernel)) (by decide) rfl rfl (hz.at (by decide)) (Nat.le_of_ble_eq_true rfl) ?_
  have hz := hz.up (show (37 : Nat) ≤ 38 by decide)
  refine r_put (ci := 6) (k := 3) dX6_init_70 rfl rfl (by decide) (gt_of 256 (by decide +kernel) (by decide +kernel)) rfl (Or.inr ⟨rfl, rfl, rfl⟩) (Or.inr (Or.inr (Or.inr (Or.inr ⟨_, rfl⟩)))) trivial rfl (by decide) ?_
  have hz := Zr.w (r := 33) (k := 3) (v := 37) hz (by decide)
  refine r_aload_n dX6_init_73 rfl rfl (by decide) ?_
  refine r_bipush dX6_init_74 rfl (by decide) ?_
  refine r_newa (k := 100) (N := 10) (z := 38) dX6_init_76 rfl rfl ⟨by decide, by decide⟩ rfl (gt_of 232 (by decide +kernel) (by decide +kernel)) (by decide) rfl rfl (hz.at (by decide)) (Nat.le_of_ble_eq_true rfl) ?_
  have hz := hz.up (show (38 : Nat) ≤ 39 by decide)
  refine r_put (ci := 6) (k := 4) dX6_init_78 rfl rfl (by decide) (gt_of 258 (by decide +kernel) (by decide +kernel)) rfl (Or.inr ⟨rfl, rfl, rfl⟩) (Or.inr (Or.inr (Or.inr (Or.inr ⟨_, rfl⟩)))) trivial rfl (by decide) ?_
  have hz := Zr.w (r := 33) (k := 4) (v := 38) hz (by decide)
  refine r_aload_n dX6_init_81 rfl rfl (by decide) ?_
  refine r_bipush dX6_init_82 rfl (by decide) ?_
  refine r_newa (k := 100) (N := 10) (z := 39) dX6_init_84 rfl rfl ⟨by decide, by decide⟩ rfl (gt_of 232 (by decide +kernel) (by decide +kernel)) (by decide) rfl rfl (hz.at (by decide)) (Nat.le_of_ble_eq_true rfl) ?_
  have hz := hz.up (show (39 : Nat) ≤ 40 by decide)
  refine r_put (ci := 6) (k := 5) dX6_init_86 rfl rfl (by decide) (gt_of 260 (by decide +kernel) (by decide +kernel)) rfl (Or.inr ⟨rfl, rfl, rfl⟩) (Or.inr (Or.inr (Or.inr (Or.inr ⟨_, rfl⟩)))) trivial rfl (by decide) ?_
  have hz := Zr.w (r := 33) (k := 5) (v := 39) hz (by decide)
  refine r_aload_n dX6_init_89 rfl rfl (by decide) ?_
  refine r_bipush dX6_init_90 rfl (by decide) ?_
  refine r_newa (k := 100) (N := 10) (z := 40) dX6_init_92 rfl rfl ⟨by decide, by decide⟩ rfl (gt_of 232 (by decide +kernel) (by decide +kernel)) (by decide) rfl rfl (hz.at (by decide)) (Nat.le_of_ble_eq_true rfl) ?_
  have hz := hz.up (show (40 : Nat) ≤ 41 by decide)
  refine r_put (ci := 6) (k := 6) dX6_init_94 rfl rfl (by decide) (gt_of 261 (by decide +kernel) (by decide +kernel)) rfl (Or.inr ⟨rfl, rfl, rfl⟩) (Or.inr (Or.inr (Or.inr (Or.inr ⟨_, rfl⟩)))) trivial rfl (by decide) ?_
  have hz := Zr.w (r := 33) (k := 6) (v := 40) hz (by decide)
  refine r_aload_n dX6_init_97 rfl rfl (by decide) ?_
  refine r_bipush dX6_init_98 rfl (by decide) ?_
  refine r_newa (k := 100) (N := 10) (z := 41) dX6_init_100 rfl rfl ⟨by decide, by decide⟩ rfl (gt_of 232 (by decide +kernel) (by decide +kernel)) (by decide) rfl rfl (hz.at (by decide)) (Nat.le_of_ble_eq_true rfl) ?_
  have hz := hz.up (show (41 : Nat) ≤ 42 by decide)
  refine r_put (ci := 6) (k := 7) dX6_init_102 rfl rfl (by decide) (gt_of 263 (by decide +kernel) (by decide +kernel)) rfl (Or.inr ⟨rfl, rfl, rfl⟩) (Or.inr (Or.inr (Or.inr (Or.inr ⟨_, rfl⟩)))) trivial rfl (by decide) ?_
  have hz := Zr.w (r := 33) (k := 7) (v := 41) hz (by decide)
  refine r_aload_n dX6_init_105 rfl rfl (by decide) ?_
  refine r_bipush dX6_init_106 rfl (by decide) ?_
  refine r_newa (k := 100) (N := 10) (z := 42) dX6_init_108 rfl rfl ⟨by decide, by decide⟩ rfl (gt_of 232 (by decide +kernel) (by decide +kernel)) (by decide) rfl rfl (hz.at (by decide)) (Nat.le_of_ble_eq_true rfl) ?_
  have hz := hz.up (show (42 : Nat) ≤ 43 by decide)
  refine r_put (ci := 6) (k := 8) dX6_init_110 rfl rfl (by decide) (gt_of 265 (by decide +kernel) (by decide +kernel)) rfl (Or.inr ⟨rfl, rfl, rfl⟩) (Or.inr (Or.inr (Or.inr (Or.inr ⟨_, rfl⟩)))) trivial rfl (by decide) ?_
  have hz := Zr.w (r := 33) (k := 8) (v := 42) hz (by decide)
  refine r_aload_n dX6_init_113 rfl rfl (by decide) ?_
  refine r_bipush dX6_init_114 rfl (by decide) ?_
  refine r_newa (k := 100) (N := 10) (z := 43) dX6_init_116 rfl rfl ⟨by decide, by decide⟩ rfl (gt_of 232 (by decide +kernel) (by decide +kernel)) (by decide) rfl rfl (hz.at (by decide)) (Nat.le_of_ble_eq_true rfl) ?_
  have hz := hz.up (show (43 : Nat) ≤ 44 by decide)
  refine r_put (ci := 6) (k := 9) dX6_init_118 rfl rfl (by decide) (gt_of 267 (by decide +kernel) (by decide +kernel)) rfl (Or.inr ⟨rfl, rfl, rfl⟩) (Or.inr (Or.inr (Or.inr (Or.inr ⟨_, rfl⟩)))) trivial rfl (by decide) ?_
  have hz := Zr.w (r := 33) (k := 9) (v := 43) hz (by decide)
  refine r_aload_n dX6_init_121 rfl rfl (by decide) ?_
  refine r_bipush dX6_init_122 rfl (by decide) ?_
  refine r_newa (k := 100) (N := 10) (z := 44) dX6_init_124 rfl rfl ⟨by decide, by decide⟩ rfl (gt_of 232 (by decide +kernel) (by decide +kernel)) (by decide) rfl rfl (hz.at (by decide)) (Nat.le_of_ble_eq_true rfl) ?_
  have hz := hz.up (show (44 : Nat) ≤ 45 by decide)
  refine r_put (ci := 6) (k := 10) dX6_init_126 rfl rfl (by decide) (gt_of 269 (by decide +kernel) (by decide +kernel)) rfl (Or.inr ⟨rfl, rfl, rfl⟩) (Or.inr (Or.inr (Or.inr (Or.inr ⟨_, rfl⟩)))) trivial rfl (by decide) ?_
  have hz := Zr.w (r := 33) (k := 10) (v := 44) hz (by decide)
  exact GG.done
theorem G_X5_45 (X : XS) (h : Mem) (hz : Zr 46 h) : GM X yX5_init MX5_init 2 [(2, 45)] 46 49 h (wrs h [(45, 0, 46), (77, 0, 9), (46, 0, 77), (46, 1, 77), (46, 2, 77), (46, 3, 77), (46, 4, 77), (46, 5, 77), (46, 6, 77), (45, 1, 47)]) := by
  refine GM.of (pcE := 52) (lsE := [(2, 45), (2, 77), (0, 7)]) (by decide) rfl rfl (by decide) (by decide) dX5_init_52 ?_
  refine r_aload_n dX5_init_0 rfl rfl (by decide) ?_
  refine r_obj dX5_init_1 rfl (gt_of 309 (by decide +kernel) (by decide +kernel)) (gt_of 90 (by decide +kernel) (by decide +kernel)) (gt_of 91 (by decide +kernel) (by decide +kernel)) (by decide) ⟨Nat.le_of_ble_eq_true rfl, Nat.le_of_ble_eq_true rfl⟩ ?_
  refine r_aload_n dX5_init_4 rfl rfl (by decide) ?_
  refine r_bipush dX5_init_5 rfl (by decide) ?_
  refine r_anew (k := 103) (N := 7) (z := 46) dX5_init_7 rfl rfl ⟨by decide, by decide⟩ rfl (gt_of 310 (by decide +kernel) (by decide +kernel)) (fun _ q => q.1) (by decide) rfl rfl (hz.at (by decide)) (Nat.le_of_ble_eq_true rfl) ?_
  have hz := hz.up (show (46 : Nat) ≤ 47 by decide)
  refine r_put (ci := 5) (k := 0) dX5_init_10 rfl rfl (by decide) (gt_of 312 (by decide +kernel) (by decide +kernel)) rfl (Or.inr ⟨rfl, rfl, rfl⟩) (Or.inr (Or.inr (Or.inr (Or.inr ⟨_, rfl⟩)))) trivial rfl (by decide) ?_
  have hz := Zr.w (r := 45) (k := 0) (v := 46) hz (by decide)
  refine r_new (ci := 0) (z := 77) dX5_init_13 rfl rfl rfl (by decide) okT_0 (gt_of 310 (by decide +kernel) (by decide +kernel)) (gt_of 127 (by decide +kernel) (by decide +kernel)) (gt_of 72 (by decide +kernel) (by decide +kernel)) rfl (hz.at (by decide)) (Nat.le_of_ble_eq_true rfl) ?_
  have hz := hz.up (show (47 : Nat) ≤ 48 by decide)
  refine r_dup dX5_init_16 rfl ?_
  refine r_bipush dX5_init_17 rfl (by decide) ?_
  refine r_call (n' := 48) (vs := [(0, 9)]) (r0 := 77) (st := [(2, 77)]) dX5_init_19 rfl (G_X0 X 77 9 48 _ rfl (by decide) (by decide)) rfl (gt_of 311 (by decide +kernel) (by decide +kernel)) (gt_of 129 (by decide +kernel) (by decide +kernel)) (gt_of 72 (by decide +kernel) (by decide +kernel)) (gt_of 130 (by decide +kernel) (by decide +kernel)) (by decide) (by decide) ⟨Nat.le_of_ble_eq_true rfl, Nat.le_of_ble_eq_true rfl⟩ (by decide) rfl (by decide) (Nat.le_of_ble_eq_true rfl) ?_
  have hz := Zr.ws [(77, 0, 9)] hz (by decide)
  refine r_astore_n (i := 1) dX5_init_22 rfl rfl (by decide) (by decide) rfl ?_
  refine r_iconst dX5_init_23 rfl ?_
  refine r_istore_n (i := 2) dX5_init_24 rfl rfl (by decide) rfl ?_
  refine r_iload_n dX5_init_25 rfl rfl ?_
  refine r_bipush dX5_init_26 rfl (by decide) ?_
  refine r_ge_f (tgt := 44) dX5_init_28 rfl (by decide) ⟨by decide, by decide⟩ ⟨by decide, by decide⟩ (by decide) ?_
  refine r_aload_n dX5_init_31 rfl rfl (by decide) ?_
  refine r_get (ci := 5) (k := 0) (z := 46) dX5_init_32 rfl rfl (by decide) (gt_of 312 (by decide +kernel) (by decide +kernel)) rfl rfl (by decide) rfl ?_
  refine r_iload_n dX5_init_35 rfl rfl ?_
  refine r_aload_n dX5_init_36 rfl rfl (by decide) ?_
  refine r_aast (k := 103) (N := 7) (ci := 0) dX5_init_37 rfl rfl ⟨by decide, by decide⟩ rfl (by decide) ⟨by decide, by decide⟩ (by decide) rfl rfl (by decide) ?_
  have hz := Zr.w (r := 46) (k := 0) (v := 77) hz (by decide)
  refine r_iinc (ls' := [(2, 45), (2, 77), (0, 1)]) dX5_init_38 rfl rfl rfl ?_
  refine r_goto (tgt := 25) dX5_init_41 rfl (by decide) ?_
  refine r_iload_n dX5_init_25 rfl rfl ?_
  refine r_bipush dX5_init_26 rfl (by decide) ?_
  refine r_ge_f (tgt := 44) dX5_init_28 rfl (by decide) ⟨by decide, by decide⟩ ⟨by decide, by decide⟩ (by decide) ?_
  refine r_aload_n dX5_init_31 rfl rfl (by decide) ?_
  refine r_get (ci := 5) (k := 0) (z := 46) dX5_init_32 rfl rfl (by decide) (gt_of 312 (by decide +kernel) (by decide +kernel)) rfl rfl (by decide) rfl ?_
  refine r_iload_n dX5_init_35 rfl rfl ?_
  refine r_aload_n dX5_init_36 rfl rfl (by decide) ?_
  refine r_aast (k := 103) (N := 7) (ci := 0) dX5_init_37 rfl rfl ⟨by decide, by decide⟩ rfl (by decide) ⟨by decide, by decide⟩ (by decide) rfl rfl (by decide) ?_
  have hz := Zr.w (r := 46) (k := 1) (v := 77) hz (by decide)
  refine r_iinc (ls' := [(2, 45), (2, 77), (0, 2)]) dX5_init_38 rfl rfl rfl ?_
  refine r_goto (tgt := 25) dX5_init_41 rfl (by decide) ?_
  refine r_iload_n dX5_init_25 rfl rfl ?_
  refine r_bipush dX5_init_26 rfl (by decide) ?_
  refine r_ge_f (tgt := 44) dX5_init_28 rfl (by decide) ⟨by decide, by decide⟩ ⟨by decide, by decide⟩ (by decide) ?_
  refine r_aload_n dX5_init_31 rfl rfl (by decide) ?_
  refine r_get (ci := 5) (k := 0) (z := 46) dX5_init_32 rfl rfl (by decide) (gt_of 312 (by decide +kernel) (by decide +kernel)) rfl rfl (by decide) rfl ?_
  refine r_iload_n dX5_init_35 rfl rfl ?_
  refine r_aload_n dX5_init_36 rfl rfl (by decide) ?_
  refine r_aast (k := 103) (N := 7) (ci := 0) dX5_init_37 rfl rfl ⟨by decide, by decide⟩ rfl (by decide) ⟨by decide, by decide⟩ (by decide) rfl rfl (by decide) ?_
  have hz := Zr.w (r := 46) (k := 2) (v := 77) hz (by decide)
  refine r_iinc (ls' := [(2, 45), (2, 77), (0, 3)]) dX5_init_38 rfl rfl rfl ?_
  refine r_goto (tgt := 25) dX5_init_41 rfl (by decide) ?_
  refine r_iload_n dX5_init_25 rfl rfl ?_
  refine r_bipush dX5_init_26 rfl (by decide) ?_
  refine r_ge_f (tgt := 44) dX5_init_28 rfl (by decide) ⟨by decide, by decide⟩ ⟨by decide, by decide⟩ (by decide) ?_
  refine r_aload_n dX5_init_31 rfl rfl (by decide) ?_
  refine r_get (ci := 5) (k := 0) (z := 46) dX5_init_32 rfl rfl (by decide) (gt_of 312 (by decide +kernel) (by decide +kernel)) rfl rfl (by decide) rfl ?_
  refine r_iload_n dX5_init_35 rfl rfl ?_
  refine r_aload_n dX5_init_36 rfl rfl (by decide) ?_
  refine r_aast (k := 103) (N := 7) (ci := 0) dX5_init_37 rfl rfl ⟨by decide, by decide⟩ rfl (by decide) ⟨by decide, by decide⟩ (by decide) rfl rfl (by decide) ?_
  have hz := Zr.w (r := 46) (k := 3) (v := 77) hz (by decide)
  refine r_iinc (ls' := [(2, 45), (2, 77), (0, 4)]) dX5_init_38 rfl rfl rfl ?_
  refine r_goto (tgt := 25) dX5_init_41 rfl (by decide) ?_
  refine r_iload_n dX5_init_25 rfl rfl ?_
  refine r_bipush dX5_init_26 rfl (by decide) ?_
  refine r_ge_f (tgt := 44) dX5_init_28 rfl (by decide) ⟨by decide, by decide⟩ ⟨by decide, by decide⟩ (by decide) ?_
  refine r_aload_n dX5_init_31 rfl rfl (by decide) ?_
  refine r_get (ci := 5) (k := 0) (z := 46) dX5_init_32 rfl rfl (by decide) (gt_of 312 (by decide +kernel) (by decide +kernel)) rfl rfl (by decide) rfl ?_
  refine r_iload_n dX5_init_35 rfl rfl ?_
  refine r_aload_n dX5_init_36 rfl rfl (by decide) ?_
  refine r_aast (k := 103) (N := 7) (ci := 0) dX5_init_37 rfl rfl ⟨by decide, by decide⟩ rfl (by decide) ⟨by decide, by decide⟩ (by decide) rfl rfl (by decide) ?_
  have hz := Zr.w (r := 46) (k := 4) (v := 77) hz (by decide)
  refine r_iinc (ls' := [(2, 45), (2, 77), (0, 5)]) dX5_init_38 rfl rfl rfl ?_
  refine r_goto (tgt := 25) dX5_init_41 rfl (by decide) ?_
  refine r_iload_n dX5_init_25 rfl rfl ?_
  refine r_bipush dX5_init_26 rfl (by decide) ?_
  refine r_ge_f (tgt := 44) dX5_init_28 rfl (by decide) ⟨by decide, by decide⟩ ⟨by decide, by decide⟩ (by decide) ?_
  refine r_aload_n dX5_init_31 rfl rfl (by decide) ?_
  refine r_get (ci := 5) (k := 0) (z := 46) dX5_init_32 rfl rfl (by decide) (gt_of 312 (by decide +kernel) (by decide +kernel)) rfl rfl (by decide) rfl ?_
  refine r_iload_n dX5_init_35 rfl rfl ?_
  refine r_aload_n dX5_init_36 rfl rfl (by decide) ?_
  refine r_aast (k := 103) (N := 7) (ci := 0) dX5_init_37 rfl rfl ⟨by decide, by decide⟩ rfl (by decide) ⟨by decide, by decide⟩ (by decide) rfl rfl (by decide) ?_
  have hz := Zr.w (r := 46) (k := 5) (v := 77) hz (by decide)
  refine r_iinc (ls' := [(2, 45), (2, 77), (0, 6)]) dX5_init_38 rfl rfl rfl ?_
  refine r_goto (tgt := 25) dX5_init_41 rfl (by decide) ?_
  refine r_iload_n dX5_init_25 rfl rfl ?_
  refine r_bipush dX5_init_26 rfl (by decide) ?_
  refine r_ge_f (tgt := 44) dX5_init_28 rfl (by decide) ⟨by decide, by decide⟩ ⟨by decide, by decide⟩ (by decide) ?_
  refine r_aload_n dX5_init_31 rfl rfl (by decide) ?_
  refine r_get (ci := 5) (k := 0) (z := 46) dX5_init_32 rfl rfl (by decide) (gt_of 312 (by decide +kernel) (by decide +kernel)) rfl rfl (by decide) rfl ?_
  refine r_iload_n dX5_init_35 rfl rfl ?_
  refine r_aload_n dX5_init_36 rfl rfl (by decide) ?_
  refine r_aast (k := 103) (N := 7) (ci := 0) dX5_init_37 rfl rfl ⟨by decide, by decide⟩ rfl (by decide) ⟨by decide, by decide⟩ (by decide) rfl rfl (by decide) ?_
  have hz := Zr.w (r := 46) (k := 6) (v := 77) hz (by decide)
  refine r_iinc (ls' := [(2, 45), (2, 77), (0, 7)]) dX5_init_38 rfl rfl rfl ?_
  refine r_goto (tgt := 25) dX5_init_41 rfl (by decide) ?_
  refine r_iload_n dX5_init_25 rfl rfl ?_
  refine r_bipush dX5_init_26 rfl (by decide) ?_
  refine r_ge_t (tgt := 44) dX5_init_28 rfl (by decide) ⟨by decide, by decide⟩ ⟨by decide, by decide⟩ (by decide) ?_
  refine r_aload_n dX5_init_44 rfl rfl (by decide) ?_
  refine r_bipush dX5_init_45 rfl (by decide) ?_
  refine r_newa (k := 100) (N := 7) (z := 47) dX5_init_47 rfl rfl ⟨by decide, by decide⟩ rfl (gt_of 232 (by decide +kernel) (by decide +kernel)) (by decide) rfl rfl (hz.at (by decide)) (Nat.le_of_ble_eq_true rfl) ?_
  have hz := hz.up (show (48 : Nat) ≤ 49 by decide)
  refine r_put (ci := 5) (k := 1) dX5_init_49 rfl rfl (by decide) (gt_of 314 (by decide +kernel) (by decide +kernel)) rfl (Or.inr ⟨rfl, rfl, rfl⟩) (Or.inr (Or.inr (Or.inr (Or.inr ⟨_, rfl⟩)))) trivial rfl (by decide) ?_
  have hz := Zr.w (r := 45) (k := 1) (v := 47) hz (by decide)
  exact GG.done
theorem G_X5_48 (X : XS) (h : Mem) (hz : Zr 50 h) : GM X yX5_init MX5_init 2 [(2, 48)] 50 53 h (wrs h [(48, 0, 49), (78, 0, 9), (49, 0, 78), (49, 1, 78), (49, 2, 78), (49, 3, 78), (49, 4, 78), (49, 5, 78), (49, 6, 78), (48, 1, 50)]) := by
  refine GM.of (pcE := 52) (lsE := [(2, 48), (2, 78), (0, 7)]) (by decide) rfl rfl (by decide) (by decide) dX5_init_52 ?_
  refine r_aload_n dX5_init_0 rfl rfl (by decide) ?_
  refine r_obj dX5_init_1 rfl (gt_of 309 (by decide +kernel) (by decide +kernel)) (gt_of 90 (by decide +kernel) (by decide +kernel)) (gt_of 91 (by decide +kernel) (by decide +kernel)) (by decide) ⟨Nat.le_of_ble_eq_true rfl, Nat.le_of_ble_eq_true rfl⟩ ?_
  refine r_aload_n dX5_init_4 rfl rfl (by decide) ?_
  refine r_bipush dX5_init_5 rfl (by decide) ?_
  refine r_anew (k := 103) (N := 7) (z := 49) dX5_init_7 rfl rfl ⟨by decide, by decide⟩ rfl (gt_of 310 (by decide +kernel) (by decide +kernel)) (fun _ q => q.1) (by decide) rfl rfl (hz.at (by decide)) (Nat.le_of_ble_eq_true rfl) ?_
  have hz := hz.up (show (50 : Nat) ≤ 51 by decide)
  refine r_put (ci := 5) (k := 0) dX5_init_10 rfl rfl (by decide) (gt_of 312 (by decide +kernel) (by decide +kernel)) rfl (Or.inr ⟨rfl, rfl, rfl⟩) (Or.inr (Or.inr (Or.inr (Or.inr ⟨_, rfl⟩)))) trivial rfl (by decide) ?_
  have hz := Zr.w (r := 48) (k := 0) (v := 49) hz (by decide)
  refine r_new (ci := 0) (z := 78) dX5_init_13 rfl rfl rfl (by decide) okT_0 (gt_of 310 (by decide +kernel) (by decide +kernel)) (gt_of 127 (by decide +kernel) (by decide +kernel)) (gt_of 72 (by decide +kernel) (by decide +kernel)) rfl (hz.at (by decide)) (Nat.le_of_ble_eq_true rfl) ?_
  have hz := hz.up (show (51 : Nat) ≤ 52 by decide)
  refine r_dup dX5_init_16 rfl ?_
  refine r_bipush dX5_init_17 rfl (by decide) ?_
  refine r_call (n' := 52) (vs := [(0, 9)]) (r0 := 78) (st := [(2, 78)]) dX5_init_19 rfl (G_X0 X 78 9 52 _ rfl (by decide) (by decide)) rfl (gt_of 311 (by decide +kernel) (by decide +kernel)) (gt_of 129 (by decide +kernel) (by decide +kernel)) (gt_of 72 (by decide +kernel) (by decide +kernel)) (gt_of 130 (by decide +kernel) (by decide +kernel)) (by decide) (by decide) ⟨Nat.le_of_ble_eq_true rfl, Nat.le_of_ble_eq_true rfl⟩ (by decide) rfl (by decide) (Nat.le_of_ble_eq_true rfl) ?_
  have hz := Zr.ws [(78, 0, 9)] hz (by decide)
  refine r_astore_n (i := 1) dX5_init_22 rfl rfl (by decide) (by decide) rfl ?_
  refine r_iconst dX5_init_23 rfl ?_
  refine r_istore_n (i := 2) dX5_init_24 rfl rfl (by decide) rfl ?_
  refine r_iload_n dX5_init_25 rfl rfl ?_
  refine r_bipush dX5_init_26 rfl (by decide) ?_
  refine r_ge_f (tgt := 44) dX5_init_28 rfl (by decide) ⟨by decide, by decide⟩ ⟨by decide, by decide⟩ (by decide) ?_
  refine r_aload_n dX5_init_31 rfl rfl (by decide) ?_
  refine r_get (ci := 5) (k := 0) (z := 49) dX5_init_32 rfl rfl (by decide) (gt_of 312 (by decide +kernel) (by decide +kernel)) rfl rfl (by decide) rfl ?_
  refine r_iload_n dX5_init_35 rfl rfl ?_
  refine r_aload_n dX5_init_36 rfl rfl (by decide) ?_
  refine r_aast (k := 103) (N := 7) (ci := 0) dX5_init_37 rfl rfl ⟨by decide, by decide⟩ rfl (by decide) ⟨by decide, by decide⟩ (by decide) rfl rfl (by decide) ?_
  have hz := Zr.w (r := 49) (k := 0) (v := 78) hz (by decide)
  refine r_iinc (ls' := [(2, 48), (2, 78), (0, 1)]) dX5_init_38 rfl rfl rfl ?_
  refine r_goto (tgt := 25) dX5_init_41 rfl (by decide) ?_
  refine r_iload_n dX5_init_25 rfl rfl ?_
  refine r_bipush dX5_init_26 rfl (by decide) ?_
  refine r_ge_f (tgt := 44) dX5_init_28 rfl (by decide) ⟨by decide, by decide⟩ ⟨by decide, by decide⟩ (by decide) ?_
  refine r_aload_n dX5_init_31 rfl rfl (by decide) ?_
  refine r_get (ci := 5) (k := 0) (z := 49) dX5_init_32 rfl rfl (by decide) (gt_of 312 (by decide +kernel) (by decide +kernel)) rfl rfl (by decide) rfl ?_
  refine r_iload_n dX5_init_35 rfl rfl ?_
  refine r_aload_n dX5_init_36 rfl rfl (by decide) ?_
  refine r_aast (k := 103) (N := 7) (ci := 0) dX5_init_37 rfl rfl ⟨by decide, by decide⟩ rfl (by decide) ⟨by decide, by decide⟩ (by decide) rfl rfl (by decide) ?_
  have hz := Zr.w (r := 49) (k := 1) (v := 78) hz (by decide)
  refine r_iinc (ls' := [(2, 48), (2, 78), (0, 2)]) dX5_init_38 rfl rfl rfl ?_
  refine r_goto (tgt := 25) dX5_init_41 rfl (by decide) ?_
  refine r_iload_n dX5_init_25 rfl rfl ?_
  refine r_bipush dX5_init_26 rfl (by decide) ?_
  refine r_ge_f (tgt := 44) dX5_init_28 rfl (by decide) ⟨by decide, by decide⟩ ⟨by decide, by decide⟩ (by decide) ?_
  refine r_aload_n dX5_init_31 rfl rfl (by decide) ?_
  refine r_get (ci := 5) (k := 0) (z := 49) dX5_init_32 rfl rfl (by decide) (gt_of 312 (by decide +kernel) (by decide +kernel)) rfl rfl (by decide) rfl ?_
  refine r_iload_n dX5_init_35 rfl rfl ?_
  refine r_aload_n dX5_init_36 rfl rfl (by decide) ?_
  refine r_aast (k := 103) (N := 7) (ci := 0) dX5_init_37 rfl rfl ⟨by decide, by decide⟩ rfl (by decide) ⟨by decide, by decide⟩ (by decide) rfl rfl (by decide) ?_
  have hz := Zr.w (r := 49) (k := 2) (v := 78) hz (by decide)
  refine r_iinc (ls' := [(2, 48), (2, 78), (0, 3)]) dX5_init_38 rfl rfl rfl ?_
  refine r_goto (tgt := 25) dX5_init_41 rfl (by decide) ?_
  refine r_iload_n dX5_init_25 rfl rfl ?_
  refine r_bipush dX5_init_26 rfl (by decide) ?_
  refine r_ge_f (tgt := 44) dX5_init_28 rfl (by decide) ⟨by decide, by decide⟩ ⟨by decide, by decide⟩ (by decide) ?_
  refine r_aload_n dX5_init_31 rfl rfl (by decide) ?_
  refine r_get (ci := 5) (k := 0) (z := 49) dX5_init_32 rfl rfl (by decide) (gt_of 312 (by decide +kernel) (by decide +kernel)) rfl rfl (by decide) rfl ?_
  refine r_iload_n dX5_init_35 rfl rfl ?_
  refine r_aload_n dX5_init_36 rfl rfl (by decide) ?_
  refine r_aast (k := 103) (N := 7) (ci := 0) dX5_init_37 rfl rfl ⟨by decide, by decide⟩ rfl (by decide) ⟨by decide, by decide⟩ (by decide) rfl rfl (by decide) ?_
  have hz := Zr.w (r := 49) (k := 3) (v := 78) hz (by decide)
  refine r_iinc (ls' := [(2, 48), (2, 78), (0, 4)]) dX5_init_38 rfl rfl rfl ?_
  refine r_goto (tgt := 25) dX5_init_41 rfl (by decide) ?_
  refine r_iload_n dX5_init_25 rfl rfl ?_
  refine r_bipush dX5_init_26 rfl (by decide) ?_
  refine r_ge_f (tgt := 44) dX5_init_28 rfl (by decide) ⟨by decide, by decide⟩ ⟨by decide, by decide⟩ (by decide) ?_
  refine r_aload_n dX5_init_31 rfl rfl (by decide) ?_
  refine r_get (ci := 5) (k := 0) (z := 49) dX5_init_32 rfl rfl (by decide) (gt_of 312 (by decide +kernel) (by decide +kernel)) rfl rfl (by decide) rfl ?_
  refine r_iload_n dX5_init_35 rfl rfl ?_
  refine r_aload_n dX5_init_36 rfl rfl (by decide) ?_
  refine r_aast (k := 103) (N := 7) (ci := 0) dX5_init_37 rfl rfl ⟨by decide, by decide⟩ rfl (by decide) ⟨by decide, by decide⟩ (by decide) rfl rfl (by decide) ?_
  have hz := Zr.w (r := 49) (k := 4) (v := 78) hz (by decide)
  refine r_iinc (ls' := [(2, 48), (2, 78), (0, 5)]) dX5_init_38 rfl rfl rfl ?_
  refine r_goto (tgt := 25) dX5_init_41 rfl (by decide) ?_
  refine r_iload_n dX5_init_25 rfl rfl ?_
  refine r_bipush dX5_init_26 rfl (by decide) ?_
  refine r_ge_f (tgt := 44) dX5_init_28 rfl (by decide) ⟨by decide, by decide⟩ ⟨by decide, by decide⟩ (by decide) ?_
  refine r_aload_n dX5_init_31 rfl rfl (by decide) ?_
  refine r_get (ci := 5) (k := 0) (z := 49) dX5_init_32 rfl rfl (by decide) (gt_of 312 (by decide +kernel) (by decide +kernel)) rfl rfl (by decide) rfl ?_
  refine r_iload_n dX5_init_35 rfl rfl ?_
  refine r_aload_n dX5_init_36 rfl rfl (by decide) ?_
  refine r_aast (k := 103) (N := 7) (ci := 0) dX5_init_37 rfl rfl ⟨by decide, by decide⟩ rfl (by decide) ⟨by decide, by decide⟩ (by decide) rfl rfl (by decide) ?_
  have hz := Zr.w (r := 49) (k := 5) (v := 78) hz (by decide)
  refine r_iinc (ls' := [(2, 48), (2, 78), (0, 6)]) dX5_init_38 rfl rfl rfl ?_
  refine r_goto (tgt := 25) dX5_init_41 rfl (by decide) ?_
  refine r_iload_n dX5_init_25 rfl rfl ?_
  refine r_bipush dX5_init_26 rfl (by decide) ?_
  refine r_ge_f (tgt := 44) dX5_init_28 rfl (by decide) ⟨by decide, by decide⟩ ⟨by decide, by decide⟩ (by decide) ?_
  refine r_aload_n dX5_init_31 rfl rfl (by decide) ?_
  refine r_get (ci := 5) (k := 0) (z := 49) dX5_init_32 rfl rfl (by decide) (gt_of 312 (by decide +kernel) (by decide +kernel)) rfl rfl (by decide) rfl ?_
  refine r_iload_n dX5_init_35 rfl rfl ?_
  refine r_aload_n dX5_init_36 rfl rfl (by decide) ?_
  refine r_aast (k := 103) (N := 7) (ci := 0) dX5_init_37 rfl rfl ⟨by decide, by decide⟩ rfl (by decide) ⟨by decide, by decide⟩ (by decide) rfl rfl (by decide) ?_
  have hz := Zr.w (r := 49) (k := 6) (v := 78) hz (by decide)
  refine r_iinc (ls' := [(2, 48), (2, 78), (0, 7)]) dX5_init_38 rfl rfl rfl ?_
  refine r_goto (tgt := 25) dX5_init_41 rfl (by decide) ?_
  refine r_iload_n dX5_init_25 rfl rfl ?_
  refine r_bipush dX5_init_26 rfl (by decide) ?_
  refine r_ge_t (tgt := 44) dX5_init_28 rfl (by decide) ⟨by decide, by decide⟩ ⟨by decide, by decide⟩ (by decide) ?_
  refine r_aload_n dX5_init_44 rfl rfl (by decide) ?_
  refine r_bipush dX5_init_45 rfl (by decide) ?_
  refine r_newa (k := 100) (N := 7) (z := 50) dX5_init_47 rfl rfl ⟨by decide, by decide⟩ rfl (gt_of 232 (by decide +kernel) (by decide +kernel)) (by decide) rfl rfl (hz.at (by decide)) (Nat.le_of_ble_eq_true rfl) ?_
  have hz := hz.up (show (52 : Nat) ≤ 53 by decide)
  refine r_put (ci := 5) (k := 1) dX5_init_49 rfl rfl (by decide) (gt_of 314 (by decide +kernel) (by decide +kernel)) rfl (Or.inr ⟨rfl, rfl, rfl⟩) (Or.inr (Or.inr (Or.inr (Or.inr ⟨_, rfl⟩)))) trivial rfl (by decide) ?_
  have hz := Zr.w (r := 48) (k := 1) (v := 50) hz (by decide)
  exact GG.done
theorem G_X3_51 (X : XS) (h : Mem) (hz : Zr 54 h) : GM X yX3_init MX3_init 1 [(2, 51)] 54 56 h (wrs h [(51, 0, 52), (51, 1, 53), (51, 4, 1)]) := by
  refine GM.of (pcE := 25) (lsE := [(2, 51)]) (by decide) rfl rfl (by decide) (by decide) dX3_init_25 ?_
  refine r_aload_n dX3_init_0 rfl rfl (by decide) ?_
  refine r_obj dX3_init_1 rfl (gt_of 349 (by decide +kernel) (by decide +kernel)) (gt_of 90 (by decide +kernel) (by decide +kernel)) (gt_of 91 (by decide +kernel) (by decide +kernel)) (by decide) ⟨Nat.le_of_ble_eq_true rfl, Nat.le_of_ble_eq_true rfl⟩ ?_
  refine r_aload_n dX3_init_4 rfl rfl (by decide) ?_
  refine r_bipush dX3_init_5 rfl (by decide) ?_
  refine r_newa (k := 100) (N := 81) (z := 52) dX3_init_7 rfl rfl ⟨by decide, by decide⟩ rfl (gt_of 232 (by decide +kernel) (by decide +kernel)) (by decide) rfl rfl (hz.at (by decide)) (Nat.le_of_ble_eq_true rfl) ?_
  have hz := hz.up (show (54 : Nat) ≤ 55 by decide)
  refine r_put (ci := 3) (k := 0) dX3_init_9 rfl rfl (by decide) (gt_of 350 (by decide +kernel) (by decide +kernel)) rfl (Or.inr ⟨rfl, rfl, rfl⟩) (Or.inr (Or.inr (Or.inr (Or.inr ⟨_, rfl⟩)))) trivial rfl (by decide) ?_
  have hz := Zr.w (r := 51) (k := 0) (v := 52) hz (by decide)
  refine r_aload_n dX3_init_12 rfl rfl (by decide) ?_
  refine r_bipush dX3_init_13 rfl (by decide) ?_
  refine r_newa (k := 100) (N := 81) (z := 53) dX3_init_15 rfl rfl ⟨by decide, by decide⟩ rfl (gt_of 232 (by decide +kernel) (by decide +kernel)) (by decide) rfl rfl (hz.at (by decide)) (Nat.le_of_ble_eq_true rfl) ?_
  have hz := hz.up (show (55 : Nat) ≤ 56 by decide)
  refine r_put (ci := 3) (k := 1) dX3_init_17 rfl rfl (by decide) (gt_of 352 (by decide +kernel) (by decide +kernel)) rfl (Or.inr ⟨rfl, rfl, rfl⟩) (Or.inr (Or.inr (Or.inr (Or.inr ⟨_, rfl⟩)))) trivial rfl (by decide) ?_
  have hz := Zr.w (r := 51) (k := 1) (v := 53) hz (by decide)
  refine r_aload_n dX3_init_20 rfl rfl (by decide) ?_
  refine r_lconst (z := 1) dX3_init_21 rfl (by decide) ?_
  refine r_put (ci := 3) (k := 4) dX3_init_22 rfl rfl (by decide) (gt_of 357 (by decide +kernel) (by decide +kernel)) rfl (Or.inl rfl) (Or.inr (Or.inl rfl)) ⟨by decide, by decide⟩ rfl (by decide) ?_
  have hz := Zr.w (r := 51) (k := 4) (v := 1) hz (by decide)
  exact GG.done
set_option maxRecDepth 100000 in
set_option maxHeartbeats 4000000 in
theorem G_X7_1 (X : XS) (h : Mem) (hz : Zr 1 h) : GM X yX7_init MX7_init 3 [(2, 1)] 1 58 h (wrs h [(2, 0, 3), (1, 0, 2), (4, 0, 5), (6, 0, 0), (5, 0, 6), (7, 0, 1), (5, 1, 7), (8, 0, 2), (5, 2, 8), (9, 0, 3), (5, 3, 9), (10, 0, 4), (5, 4, 10), (11, 0, 5), (5, 5, 11), (12, 0, 6), (5, 6, 12), (13, 0, 7), (5, 7, 13), (14, 0, 8), (5, 8, 14), (4, 1, 0), (1, 1, 4), (15, 0, 16), (17, 0, 0), (16, 0, 17), (18, 0, 1), (16, 1, 18), (19, 0, 2), (16, 2, 19), (20, 0, 3), (16, 3, 20), (21, 0, 4), (16, 4, 21), (22, 0, 5), (16, 5, 22), (23, 0, 6), (16, 6, 23), (24, 0, 7), (16, 7, 24), (25, 0, 8), (16, 8, 25), (15, 1, 0), (1, 2, 15), (26, 0, 27), (1, 3, 26), (1, 4, 28), (29, 0, 30), (28, 0, 29), (31, 0, 32), (28, 1, 31), (34, 0, 2), (34, 1, 180), (34, 2, 10), (34, 3, 2), (34, 4, 5), (34, 5, 1), (34, 6, 20), (34, 7, 400), (33, 0, 34), (33, 1, 35), (76, 0, 9), (35, 0, 76), (35, 1, 76), (35, 2, 76), (35, 3, 76), (35, 4, 76), (35, 5, 76), (35, 6, 76), (35, 7, 76), (35, 8, 76), (35, 9, 76), (33, 2, 36), (33, 3, 37), (33, 4, 38), (33, 5, 39), (33, 6, 40), (33, 7, 41), (33, 8, 42), (33, 9, 43), (33, 10, 44), (1, 5, 33), (45, 0, 46), (77, 0, 9), (46, 0, 77), (46, 1, 77), (46, 2, 77), (46, 3, 77), (46, 4, 77), (46, 5, 77), (46, 6, 77), (45, 1, 47), (1, 6, 45), (48, 0, 49), (78, 0, 9), (49, 0, 78), (49, 1, 78), (49, 2, 78), (49, 3, 78), (49, 4, 78), (49, 5, 78), (49, 6, 78), (48, 1, 50), (1, 7, 48), (51, 0, 52), (51, 1, 53), (51, 4, 1), (1, 8, 51), (54, 0, 9), (1, 9, 54), (1, 10, 55), (1, 11, 0), (1, 12, 0), (26, 3, 1)]) := by
  refine GM.of (pcE := 165) (lsE := [(2, 1), (0, 2)]) (by decide) rfl rfl (by decide) (by decide) dX7_init_165 ?_
  refine r_aload_n dX7_init_0 rfl rfl (by decide) ?_
  refine r_obj dX7_init_1 rfl (gt_of 89 (by decide +kernel) (by decide +kernel)) (gt_of 90 (by decide +kernel) (by decide +kernel)) (gt_of 91 (by decide +kernel) (by decide +kernel)) (by decide) ⟨Nat.le_of_ble_eq_true rfl, Nat.le_of_ble_eq_true rfl⟩ ?_
  refine r_aload_n dX7_init_4 rfl rfl (by decide) ?_
  refine r_new (ci := 4) (z := 2) dX7_init_5 rfl rfl rfl (by decide) okT_4 (gt_of 92 (by decide +kernel) (by decide +kernel)) (gt_of 93 (by decide +kernel) (by decide +kernel)) (gt_of 70 (by decide +kernel) (by decide +kernel)) rfl (hz.at (by decide)) (Nat.le_of_ble_eq_true rfl) ?_
  have hz := hz.up (show (1 : Nat) ≤ 2 by decide)
  refine r_dup dX7_init_8 rfl ?_
  refine r_call (n' := 3) (vs := []) (r0 := 2) (st := [(2, 2), (2, 1)]) dX7_init_9 rfl (G_X4_2 X _ hz) rfl (gt_of 94 (by decide +kernel) (by decide +kernel)) (gt_of 95 (by decide +kernel) (by decide +kernel)) (gt_of 70 (by decide +kernel) (by decide +kernel)) (gt_of 96 (by decide +kernel) (by decide +kernel)) (by decide) (by decide) ⟨Nat.le_of_ble_eq_true rfl, Nat.le_of_ble_eq_true rfl⟩ (by decide) rfl (by decide) (Nat.le_of_ble_eq_true rfl) ?_
  have hz := hz.up (show (2 : Nat) ≤ 3 by decide)
  have hz := Zr.ws [(2, 0, 3)] hz (by decide)
  refine r_put (ci := 7) (k := 0) dX7_init_12 rfl rfl (by decide) (gt_of 372 (by decide +kernel) (by decide +kernel)) rfl (Or.inr ⟨rfl, rfl, rfl⟩) (Or.inr (Or.inr (Or.inr (Or.inl ⟨_, rfl⟩)))) trivial rfl (by decide) ?_
  have hz := Zr.w (r := 1) (k := 0) (v := 2) hz (by decide)
  refine r_aload_n dX7_init_15 rfl rfl (by decide) ?_
  refine r_new (ci := 2) (z := 4) dX7_init_16 rfl rfl rfl (by decide) okT_2 (gt_of 119 (by decide +kernel) (by decide +kernel)) (gt_of 120 (by decide +kernel) (by decide +kernel)) (gt_of 71 (by decide +kernel) (by decide +kernel)) rfl (hz.at (by decide)) (Nat.le_of_ble_eq_true rfl) ?_
  have hz := hz.up (show (3 : Nat) ≤ 4 by decide)
  refine r_dup dX7_init_19 rfl ?_
  refine r_call (n' := 14) (vs := []) (r0 := 4) (st := [(2, 4), (2, 1)]) dX7_init_20 rfl (G_X2_4 X _ hz) rfl (gt_of 121 (by decide +kernel) (by decide +kernel)) (gt_of 122 (by decide +kernel) (by decide +kernel)) (gt_of 71 (by decide +kernel) (by decide +kernel)) (gt_of 123 (by decide +kernel) (by decide +kernel)) (by decide) (by decide) ⟨Nat.le_of_ble_eq_true rfl, Nat.le_of_ble_eq_true rfl⟩ (by decide) rfl (by decide) (Nat.le_of_ble_eq_true rfl) ?_
  have hz := hz.up (show (4 : Nat) ≤ 14 by decide)
  have hz := Zr.ws [(4, 0, 5), (6, 0, 0), (5, 0, 6), (7, 0, 1), (5, 1, 7), (8, 0, 2), (5, 2, 8), (9, 0, 3), (5, 3, 9), (10, 0, 4), (5, 4, 10), (11, 0, 5), (5, 5, 11), (12, 0, 6), (5, 6, 12), (13, 0, 7), (5, 7, 13), (14, 0, 8), (5, 8, 14), (4, 1, 0)] hz (by decide)
  refine r_put (ci := 7) (k := 1) dX7_init_23 rfl rfl (by decide) (gt_of 373 (by decide +kernel) (by decide +kernel)) rfl (Or.inl rfl) (Or.inr (Or.inr (Or.inr (Or.inl ⟨_, rfl⟩)))) trivial rfl (by decide) ?_
  have hz := Zr.w (r := 1) (k := 1) (v := 4) hz (by decide)
  refine r_aload_n dX7_init_26 rfl rfl (by decide) ?_
  refine r_new (ci := 2) (z := 15) dX7_init_27 rfl rfl rfl (by decide) okT_2 (gt_of 119 (by decide +kernel) (by decide +kernel)) (gt_of 120 (by decide +kernel) (by decide +kernel)) (gt_of 71 (by decide +kernel) (by decide +kernel)) rfl (hz.at (by decide)) (Nat.le_of_ble_eq_true rfl) ?_
  have hz := hz.up (show (14 : Nat) ≤ 15 by decide)
  refine r_dup dX7_init_30 rfl ?_
  refine r_call (n' := 25) (vs := []) (r0 := 15) (st := [(2, 15), (2, 1)]) dX7_init_31 rfl (G_X2_15 X _ hz) rfl (gt_of 121 (by decide +kernel) (by decide +kernel)) (gt_of 122 (by decide +kernel) (by decide +kernel)) (gt_of 71 (by decide +kernel) (by decide +kernel)) (gt_of 123 (by decide +kernel) (by decide +kernel)) (by decide) (by decide) ⟨Nat.le_of_ble_eq_true rfl, Nat.le_of_ble_eq_true rfl⟩ (by decide) rfl (by decide) (Nat.le_of_ble_eq_true rfl) ?_
  have hz := hz.up (show (15 : Nat) ≤ 25 by decide)
  have hz := Zr.ws [(15, 0, 16), (17, 0, 0), (16, 0, 17), (18, 0, 1), (16, 1, 18), (19, 0, 2), (16, 2, 19), (20, 0, 3), (16, 3, 20), (21, 0, 4), (16, 4, 21), (22, 0, 5), (16, 5, 22), (23, 0, 6), (16, 6, 23), (24, 0, 7), (16, 7, 24), (25, 0, 8), (16, 8, 25), (15, 1, 0)] hz (by decide)
  refine r_put (ci := 7) (k := 2) dX7_init_34 rfl rfl (by decide) (gt_of 374 (by decide +kernel) (by decide +kernel)) rfl (Or.inl rfl) (Or.inr (Or.inr (Or.inr (Or.inl ⟨_, rfl⟩)))) trivial rfl (by decide) ?_
  have hz := Zr.w (r := 1) (k := 2) (v := 15) hz (by decide)
  refine r_aload_n dX7_init_37 rfl rfl (by decide) ?_
  refine r_new (ci := 1) (z := 26) dX7_init_38 rfl rfl rfl (by decide) okT_1 (gt_of 206 (by decide +kernel) (by decide +kernel)) (gt_of 207 (by decide +kernel) (by decide +kernel)) (gt_of 73 (by decide +kernel) (by decide +kernel)) rfl (hz.at (by decide)) (Nat.le_of_ble_eq_true rfl) ?_
  have hz := hz.up (show (25 : Nat) ≤ 26 by decide)
  refine r_dup dX7_init_41 rfl ?_
  refine r_call (n' := 27) (vs := []) (r0 := 26) (st := [(2, 26), (2, 1)]) dX7_init_42 rfl (G_X1_26 X _ hz) rfl (gt_of 208 (by decide +kernel) (by decide +kernel)) (gt_of 209 (by decide +kernel) (by decide +kernel)) (gt_of 73 (by decide +kernel) (by decide +kernel)) (gt_of 210 (by decide +kernel) (by decide +kernel)) (by decide) (by decide) ⟨Nat.le_of_ble_eq_true rfl, Nat.le_of_ble_eq_true rfl⟩ (by decide) rfl (by decide) (Nat.le_of_ble_eq_true rfl) ?_
  have hz := hz.up (show (26 : Nat) ≤ 27 by decide)
  have hz := Zr.ws [(26, 0, 27)] hz (by decide)
  refine r_put (ci := 7) (k := 3) dX7_init_45 rfl rfl (by decide) (gt_of 375 (by decide +kernel) (by decide +kernel)) rfl (Or.inr ⟨rfl, rfl, rfl⟩) (Or.inr (Or.inr (Or.inr (Or.inl ⟨_, rfl⟩)))) trivial rfl (by decide) ?_
  have hz := Zr.w (r := 1) (k := 3) (v := 26) hz (by decide)
  refine r_aload_n dX7_init_48 rfl rfl (by decide) ?_
  refine r_iconst dX7_init_49 rfl ?_
  refine r_anew (k := 104) (N := 2) (z := 28) dX7_init_50 rfl rfl ⟨by decide, by decide⟩ rfl (gt_of 206 (by decide +kernel) (by decide +kernel)) (fun _ q => q.2.1) (by decide) rfl rfl (hz.at (by decide)) (Nat.le_of_ble_eq_true rfl) ?_
  have hz := hz.up (show (27 : Nat) ≤ 28 by decide)
  refine r_put (ci := 7) (k := 4) dX7_init_53 rfl rfl (by decide) (gt_of 376 (by decide +kernel) (by decide +kernel)) rfl (Or.inr ⟨rfl, rfl, rfl⟩) (Or.inr (Or.inr (Or.inr (Or.inr ⟨_, rfl⟩)))) trivial rfl (by decide) ?_
  have hz := Zr.w (r := 1) (k := 4) (v := 28) hz (by decide)
  refine r_iconst dX7_init_56 rfl ?_
  refine r_istore_n (i := 1) dX7_init_57 rfl rfl (by decide) rfl ?_
  refine r_iload_n dX7_init_58 rfl rfl ?_
  refine r_iconst dX7_init_59 rfl ?_
  refine r_ge_f (tgt := 82) dX7_init_60 rfl (by decide) ⟨by decide, by decide⟩ ⟨by decide, by decide⟩ (by decide) ?_
  refine r_aload_n dX7_init_63 rfl rfl (by decide) ?_
  refine r_get (ci := 7) (k := 4) (z := 28) dX7_init_64 rfl rfl (by decide) (gt_of 376 (by decide +kernel) (by decide +kernel)) rfl rfl (by decide) rfl ?_
  refine r_iload_n dX7_init_67 rfl rfl ?_
  refine r_new (ci := 1) (z := 29) dX7_init_68 rfl rfl rfl (by decide) okT_1 (gt_of 206 (by decide +kernel) (by decide +kernel)) (gt_of 207 (by decide +kernel) (by decide +kernel)) (gt_of 73 (by decide +kernel) (by decide +kernel)) rfl (hz.at (by decide)) (Nat.le_of_ble_eq_true rfl) ?_
  have hz := hz.up (show (28 : Nat) ≤ 29 by decide)
  refine r_dup dX7_init_71 rfl ?_
  refine r_call (n' := 30) (vs := []) (r0 := 29) (st := [(2, 29), (0, 0), (2, 28)]) dX7_init_72 rfl (G_X1_29 X _ hz) rfl (gt_of 208 (by decide +kernel) (by decide +kernel)) (gt_of 209 (by decide +kernel) (by decide +kernel)) (gt_of 73 (by decide +kernel) (by decide +kernel)) (gt_of 210 (by decide +kernel) (by decide +kernel)) (by decide) (by decide) ⟨Nat.le_of_ble_eq_true rfl, Nat.le_of_ble_eq_true rfl⟩ (by decide) rfl (by decide) (Nat.le_of_ble_eq_true rfl) ?_
  have hz := hz.up (show (29 : Nat) ≤ 30 by decide)
  have hz := Zr.ws [(29, 0, 30)] hz (by decide)
  refine r_aast (k := 104) (N := 2) (ci := 1) dX7_init_75 rfl rfl ⟨by decide, by decide⟩ rfl (by decide) ⟨by decide, by decide⟩ (by decide) rfl rfl (by decide) ?_
  have hz := Zr.w (r := 28) (k := 0) (v := 29) hz (by decide)
  refine r_iinc (ls' := [(2, 1), (0, 1)]) dX7_init_76 rfl rfl rfl ?_
  refine r_goto (tgt := 58) dX7_init_79 rfl (by decide) ?_
  refine r_iload_n dX7_init_58 rfl rfl ?_
  refine r_iconst dX7_init_59 rfl ?_
  refine r_ge_f (tgt := 82) dX7_init_60 rfl (by decide) ⟨by decide, by decide⟩ ⟨by decide, by decide⟩ (by decide) ?_
  refine r_aload_n dX7_init_63 rfl rfl (by decide) ?_
  refine r_get (ci := 7) (k := 4) (z := 28) dX7_init_64 rfl rfl (by decide) (gt_of 376 (by decide +kernel) (by decide +kernel)) rfl rfl (by decide) rfl ?_
  refine r_iload_n dX7_init_67 rfl rfl ?_
  refine r_new (ci := 1) (z := 31) dX7_init_68 rfl rfl rfl (by decide) okT_1 (gt_of 206 (by decide +kernel) (by decide +kernel)) (gt_of 207 (by decide +kernel) (by decide +kernel)) (gt_of 73 (by decide +kernel) (by decide +kernel)) rfl (hz.at (by decide)) (Nat.le_of_ble_eq_true rfl) ?_
  have hz := hz.up (show (30 : Nat) ≤ 31 by decide)
  refine r_dup dX7_init_71 rfl ?_
  refine r_call (n' := 32) (vs := []) (r0 := 31) (st := [(2, 31), (0, 1), (2, 28)]) dX7_init_72 rfl (G_X1_31 X _ hz) rfl (gt_of 208 (by decide +kernel) (by decide +kernel)) (gt_of 209 (by decide +kernel) (by decide +kernel)) (gt_of 73 (by decide +kernel) (by decide +kernel)) (gt_of 210 (by decide +kernel) (by decide +kernel)) (by decide) (by decide) ⟨Nat.le_of_ble_eq_true rfl, Nat.le_of_ble_eq_true rfl⟩ (by decide) rfl (by decide) (Nat.le_of_ble_eq_true rfl) ?_
  have hz := hz.up (show (31 : Nat) ≤ 32 by decide)
  have hz := Zr.ws [(31, 0, 32)] hz (by decide)
  refine r_aast (k := 104) (N := 2) (ci := 1) dX7_init_75 rfl rfl ⟨by decide, by decide⟩ rfl (by decide) ⟨by decide, by decide⟩ (by decide) rfl rfl (by decide) ?_
  have hz := Zr.w (r := 28) (k := 1) (v := 31) hz (by decide)
  refine r_iinc (ls' := [(2, 1), (0, 2)]) dX7_init_76 rfl rfl rfl ?_
  refine r_goto (tgt := 58) dX7_init_79 rfl (by decide) ?_
  refine r_iload_n dX7_init_58 rfl rfl ?_
  refine r_iconst dX7_init_59 rfl ?_
  refine r_ge_t (tgt := 82) dX7_init_60 rfl (by decide) ⟨by decide, by decide⟩ ⟨by decide, by decide⟩ (by decide) ?_
  refine r_aload_n dX7_init_82 rfl rfl (by decide) ?_
  refine r_new (ci := 6) (z := 33) dX7_init_83 rfl rfl rfl (by decide) okT_6 (gt_of 234 (by decide +kernel) (by decide +kernel)) (gt_of 235 (by decide +kernel) (by decide +kernel)) (gt_of 74 (by decide +kernel) (by decide +kernel)) rfl (hz.at (by decide)) (Nat.le_of_ble_eq_true rfl) ?_
  have hz := hz.up (show (32 : Nat) ≤ 33 by decide)
  refine r_dup dX7_init_86 rfl ?_
  refine r_call (n' := 45) (vs := []) (r0 := 33) (st := [(2, 33), (2, 1)]) dX7_init_87 rfl (G_X6_33 X _ hz) rfl (gt_of 236 (by decide +kernel) (by decide +kernel)) (gt_of 237 (by decide +kernel) (by decide +kernel)) (gt_of 74 (by decide +kernel) (by decide +kernel)) (gt_of 238 (by decide +kernel) (by decide +kernel)) (by decide) (by decide) ⟨Nat.le_of_ble_eq_true rfl, Nat.le_of_ble_eq_true rfl⟩ (by decide) rfl (by decide) (Nat.le_of_ble_eq_true rfl) ?_
  have hz := hz.up (show (33 : Nat) ≤ 45 by decide)
  have hz := Zr.ws [(34, 0, 2), (34, 1, 180), (34, 2, 10), (34, 3, 2), (34, 4, 5), (34, 5, 1), (34, 6, 20), (34, 7, 400), (33, 0, 34), (33, 1, 35), (76, 0, 9), (35, 0, 76), (35, 1, 76), (35, 2, 76), (35, 3, 76), (35, 4, 76), (35, 5, 76), (35, 6, 76), (35, 7, 76), (35, 8, 76), (35, 9, 76), (33, 2, 36), (33, 3, 37), (33, 4, 38), (33, 5, 39), (33, 6, 40), (33, 7, 41), (33, 8, 42), (33, 9, 43), (33, 10, 44)] hz (by decide)
  refine r_put (ci := 7) (k := 5) dX7_init_90 rfl rfl (by decide) (gt_of 377 (by decide +kernel) (by decide +kernel)) rfl (Or.inr ⟨rfl, rfl, rfl⟩) (Or.inr (Or.inr (Or.inr (Or.inl ⟨_, rfl⟩)))) trivial rfl (by decide) ?_
  have hz := Zr.w (r := 1) (k := 5) (v := 33) hz (by decide)
  refine r_aload_n dX7_init_93 rfl rfl (by decide) ?_
  refine r_new (ci := 5) (z := 45) dX7_init_94 rfl rfl rfl (by decide) okT_5 (gt_of 304 (by decide +kernel) (by decide +kernel)) (gt_of 305 (by decide +kernel) (by decide +kernel)) (gt_of 75 (by decide +kernel) (by decide +kernel)) rfl (hz.at (by decide)) (Nat.le_of_ble_eq_true rfl) ?_
  have hz := hz.up (show (45 : Nat) ≤ 46 by decide)
  refine r_dup dX7_init_97 rfl ?_
  refine r_call (n' := 49) (vs := []) (r0 := 45) (st := [(2, 45), (2, 1)]) dX7_init_98 rfl (G_X5_45 X _ hz) rfl (gt_of 306 (by decide +kernel) (by decide +kernel)) (gt_of 307 (by decide +kernel) (by decide +kernel)) (gt_of 75 (by decide +kernel) (by decide +kernel)) (gt_of 308 (by decide +kernel) (by decide +kernel)) (by decide) (by decide) ⟨Nat.le_of_ble_eq_true rfl, Nat.le_of_ble_eq_true rfl⟩ (by decide) rfl (by decide) (Nat.le_of_ble_eq_true rfl) ?_
  have hz := hz.up (show (46 : Nat) ≤ 49 by decide)
  have hz := Zr.ws [(45, 0, 46), (77, 0, 9), (46, 0, 77), (46, 1, 77), (46, 2, 77), (46, 3, 77), (46, 4, 77), (46, 5, 77), (46, 6, 77), (45, 1, 47)] hz (by decide)
  refine r_put (ci := 7) (k := 6) dX7_init_101 rfl rfl (by decide) (gt_of 378 (by decide +kernel) (by decide +kernel)) rfl (Or.inr ⟨rfl, rfl, rfl⟩) (Or.inr (Or.inr (Or.inr (Or.inl ⟨_, rfl⟩)))) trivial rfl (by decide) ?_
  have hz := Zr.w (r := 1) (k := 6) (v := 45) hz (by decide)
  refine r_aload_n dX7_init_104 rfl rfl (by decide) ?_
  refine r_new (ci := 5) (z := 48) dX7_init_105 rfl rfl rfl (by decide) okT_5 (gt_of 304 (by decide +kernel) (by decide +kernel)) (gt_of 305 (by decide +kernel) (by decide +kernel)) (gt_of 75 (by decide +kernel) (by decide +kernel)) rfl (hz.at (by decide)) (Nat.le_of_ble_eq_true rfl) ?_
  have hz := hz.up (show (49 : Nat) ≤ 50 by decide)
  refine r_dup dX7_init_108 rfl ?_
  refine r_call (n' := 53) (vs := []) (r0 := 48) (st := [(2, 48), (2, 1)]) dX7_init_109 rfl (G_X5_48 X _ hz) rfl (gt_of 306 (by decide +kernel) (by decide +kernel)) (gt_of 307 (by decide +kernel) (by decide +kernel)) (gt_of 75 (by decide +kernel) (by decide +kernel)) (gt_of 308 (by decide +kernel) (by decide +kernel)) (by decide) (by decide) ⟨Nat.le_of_ble_eq_true rfl, Nat.le_of_ble_eq_true rfl⟩ (by decide) rfl (by decide) (Nat.le_of_ble_eq_true rfl) ?_
  have hz := hz.up (show (50 : Nat) ≤ 53 by decide)
  have hz := Zr.ws [(48, 0, 49), (78, 0, 9), (49, 0, 78), (49, 1, 78), (49, 2, 78), (49, 3, 78), (49, 4, 78), (49, 5, 78), (49, 6, 78), (48, 1, 50)] hz (by decide)
  refine r_put (ci := 7) (k := 7) dX7_init_112 rfl rfl (by decide) (gt_of 379 (by decide +kernel) (by decide +kernel)) rfl (Or.inr ⟨rfl, rfl, rfl⟩) (Or.inr (Or.inr (Or.inr (Or.inl ⟨_, rfl⟩)))) trivial rfl (by decide) ?_
  have hz := Zr.w (r := 1) (k := 7) (v := 48) hz (by decide)
  refine r_aload_n dX7_init_115 rfl rfl (by decide) ?_
  refine r_new (ci := 3) (z := 51) dX7_init_116 rfl rfl rfl (by decide) okT_3 (gt_of 344 (by decide +kernel) (by decide +kernel)) (gt_of 345 (by decide +kernel) (by decide +kernel)) (gt_of 76 (by decide +kernel) (by decide +kernel)) rfl (hz.at (by decide)) (Nat.le_of_ble_eq_true rfl) ?_
  have hz := hz.up (show (53 : Nat) ≤ 54 by decide)
  refine r_dup dX7_init_119 rfl ?_
  refine r_call (n' := 56) (vs := []) (r0 := 51) (st := [(2, 51), (2, 1)]) dX7_init_120 rfl (G_X3_51 X _ hz) rfl (gt_of 346 (by decide +kernel) (by decide +kernel)) (gt_of 347 (by decide +kernel) (by decide +kernel)) (gt_of 76 (by decide +kernel) (by decide +kernel)) (gt_of 348 (by decide +kernel) (by decide +kernel)) (by decide) (by decide) ⟨Nat.le_of_ble_eq_true rfl, Nat.le_of_ble_eq_true rfl⟩ (by decide) rfl (by decide) (Nat.le_of_ble_eq_true rfl) ?_
  have hz := hz.up (show (54 : Nat) ≤ 56 by decide)
  have hz := Zr.ws [(51, 0, 52), (51, 1, 53), (51, 4, 1)] hz (by decide)
  refine r_put (ci := 7) (k := 8) dX7_init_123 rfl rfl (by decide) (gt_of 380 (by decide +kernel) (by decide +kernel)) rfl (Or.inr ⟨rfl, rfl, rfl⟩) (Or.inr (Or.inr (Or.inr (Or.inl ⟨_, rfl⟩)))) trivial rfl (by decide) ?_
  have hz := Zr.w (r := 1) (k := 8) (v := 51) hz (by decide)
  refine r_aload_n dX7_init_126 rfl rfl (by decide) ?_
  refine r_new (ci := 0) (z := 54) dX7_init_127 rfl rfl rfl (by decide) okT_0 (gt_of 370 (by decide +kernel) (by decide +kernel)) (gt_of 127 (by decide +kernel) (by decide +kernel)) (gt_of 72 (by decide +kernel) (by decide +kernel)) rfl (hz.at (by decide)) (Nat.le_of_ble_eq_true rfl) ?_
  have hz := hz.up (show (56 : Nat) ≤ 57 by decide)
  refine r_dup dX7_init_130 rfl ?_
  refine r_bipush dX7_init_131 rfl (by decide) ?_
  refine r_call (n' := 57) (vs := [(0, 9)]) (r0 := 54) (st := [(2, 54), (2, 1)]) dX7_init_133 rfl (G_X0 X 54 9 57 _ rfl (by decide) (by decide)) rfl (gt_of 371 (by decide +kernel) (by decide +kernel)) (gt_of 129 (by decide +kernel) (by decide +kernel)) (gt_of 72 (by decide +kernel) (by decide +kernel)) (gt_of 130 (by decide +kernel) (by decide +kernel)) (by decide) (by decide) ⟨Nat.le_of_ble_eq_true rfl, Nat.le_of_ble_eq_true rfl⟩ (by decide) rfl (by decide) (Nat.le_of_ble_eq_true rfl) ?_
  have hz := Zr.ws [(54, 0, 9)] hz (by decide)
  refine r_put (ci := 7) (k := 9) dX7_init_136 rfl rfl (by decide) (gt_of 381 (by decide +kernel) (by decide +kernel)) rfl (Or.inr ⟨rfl, rfl, rfl⟩) (Or.inr (Or.inr (Or.inr (Or.inl ⟨_, rfl⟩)))) trivial rfl (by decide) ?_
  have hz := Zr.w (r := 1) (k := 9) (v := 54) hz (by decide)
  refine r_aload_n dX7_init_139 rfl rfl (by decide) ?_
  refine r_bipush dX7_init_140 rfl (by decide) ?_
  refine r_newa (k := 100) (N := 9) (z := 55) dX7_init_142 rfl rfl ⟨by decide, by decide⟩ rfl (gt_of 232 (by decide +kernel) (by decide +kernel)) (by decide) rfl rfl (hz.at (by decide)) (Nat.le_of_ble_eq_true rfl) ?_
  have hz := hz.up (show (57 : Nat) ≤ 58 by decide)
  refine r_put (ci := 7) (k := 10) dX7_init_144 rfl rfl (by decide) (gt_of 382 (by decide +kernel) (by decide +kernel)) rfl (Or.inr ⟨rfl, rfl, rfl⟩) (Or.inr (Or.inr (Or.inr (Or.inr ⟨_, rfl⟩)))) trivial rfl (by decide) ?_
  have hz := Zr.w (r := 1) (k := 10) (v := 55) hz (by decide)
  refine r_aload_n dX7_init_147 rfl rfl (by decide) ?_
  refine r_iconst dX7_init_148 rfl ?_
  refine r_put (ci := 7) (k := 11) dX7_init_149 rfl rfl (by decide) (gt_of 383 (by decide +kernel) (by decide +kernel)) rfl (Or.inl rfl) (Or.inr (Or.inr (Or.inl rfl))) (Or.inl rfl) rfl (by decide) ?_
  have hz := Zr.w (r := 1) (k := 11) (v := 0) hz (by decide)
  refine r_aload_n dX7_init_152 rfl rfl (by decide) ?_
  refine r_lconst (z := 0) dX7_init_153 rfl (by decide) ?_
  refine r_put (ci := 7) (k := 12) dX7_init_154 rfl rfl (by decide) (gt_of 384 (by decide +kernel) (by decide +kernel)) rfl (Or.inl rfl) (Or.inr (Or.inl rfl)) ⟨by decide, by decide⟩ rfl (by decide) ?_
  have hz := Zr.w (r := 1) (k := 12) (v := 0) hz (by decide)
  refine r_aload_n dX7_init_157 rfl rfl (by decide) ?_
  refine r_get (ci := 7) (k := 3) (z := 26) dX7_init_158 rfl rfl (by decide) (gt_of 375 (by decide +kernel) (by decide +kernel)) rfl rfl (by decide) rfl ?_
  refine r_iconst dX7_init_161 rfl ?_
  refine r_put (ci := 1) (k := 3) dX7_init_162 rfl rfl (by decide) (gt_of 218 (by decide +kernel) (by decide +kernel)) rfl (Or.inl rfl) (Or.inl rfl) ⟨by decide, by decide⟩ rfl (by decide) ?_
  have hz := Zr.w (r := 26) (k := 3) (v := 1) hz (by decide)
  exact GG.done
set_option maxRecDepth 100000 in
set_option maxHeartbeats 4000000 in
theorem G_X8_56 (X : XS) (h : Mem) (hz : Zr 59 h) : GM X yX8_init MX8_init 1 [(2, 56)] 59 78 h (wrs h [(56, 2, 57), (56, 9, 58), (56, 12, 59), (56, 13, 60), (56, 14, 61), (56, 15, 62), (56, 16, 63), (56, 17, 64), (56, 20, 65), (56, 21, 66), (56, 22, 67), (56, 23, 68), (56, 24, 69), (56, 25, 70), (56, 30, 71), (56, 31, 72), (56, 32, 73), (56, 39, 74), (56, 40, 75), (59, 0, 2), (59, 1, 180), (59, 2, 10), (59, 3, 2), (59, 4, 5), (59, 5, 1), (59, 6, 20), (59, 7, 400), (61, 2, 1)]) := by
  refine GM.of (pcE := 229) (lsE := [(2, 56)]) (by decide) rfl rfl (by decide) (by decide) dX8_init_229 ?_
  refine r_aload_n dX8_init_0 rfl rfl (by decide) ?_
  refine r_obj dX8_init_1 rfl (gt_of 913 (by decide +kernel) (by decide +kernel)) (gt_of 90 (by decide +kernel) (by decide +kernel)) (gt_of 91 (by decide +kernel) (by decide +kernel)) (by decide) ⟨Nat.le_of_ble_eq_true rfl, Nat.le_of_ble_eq_true rfl⟩ ?_
  refine r_aload_n dX8_init_4 rfl rfl (by decide) ?_
  refine r_sipush dX8_init_5 rfl (by decide) ?_
  refine r_newa (k := 100) (N := 400) (z := 57) dX8_init_8 rfl rfl ⟨by decide, by decide⟩ rfl (gt_of 232 (by decide +kernel) (by decide +kernel)) (by decide) rfl rfl (hz.at (by decide)) (Nat.le_of_ble_eq_true rfl) ?_
  have hz := hz.up (show (59 : Nat) ≤ 60 by decide)
  refine r_put (ci := 8) (k := 2) dX8_init_10 rfl rfl (by decide) (gt_of 916 (by decide +kernel) (by decide +kernel)) rfl (Or.inr ⟨rfl, rfl, rfl⟩) (Or.inr (Or.inr (Or.inr (Or.inr ⟨_, rfl⟩)))) trivial rfl (by decide) ?_
  have hz := Zr.w (r := 56) (k := 2) (v := 57) hz (by decide)
  refine r_aload_n dX8_init_13 rfl rfl (by decide) ?_
  refine r_sipush dX8_init_14 rfl (by decide) ?_
  refine r_newa (k := 100) (N := 180) (z := 58) dX8_init_17 rfl rfl ⟨by decide, by decide⟩ rfl (gt_of 232 (by decide +kernel) (by decide +kernel)) (by decide) rfl rfl (hz.at (by decide)) (Nat.le_of_ble_eq_true rfl) ?_
  have hz := hz.up (show (60 : Nat) ≤ 61 by decide)
  refine r_put (ci := 8) (k := 9) dX8_init_19 rfl rfl (by decide) (gt_of 923 (by decide +kernel) (by decide +kernel)) rfl (Or.inr ⟨rfl, rfl, rfl⟩) (Or.inr (Or.inr (Or.inr (Or.inr ⟨_, rfl⟩)))) trivial rfl (by decide) ?_
  have hz := Zr.w (r := 56) (k := 9) (v := 58) hz (by decide)
  refine r_aload_n dX8_init_22 rfl rfl (by decide) ?_
  refine r_bipush dX8_init_23 rfl (by decide) ?_
  refine r_newa (k := 100) (N := 8) (z := 59) dX8_init_25 rfl rfl ⟨by decide, by decide⟩ rfl (gt_of 232 (by decide +kernel) (by decide +kernel)) (by decide) rfl rfl (hz.at (by decide)) (Nat.le_of_ble_eq_true rfl) ?_
  have hz := hz.up (show (61 : Nat) ≤ 62 by decide)
  refine r_put (ci := 8) (k := 12) dX8_init_27 rfl rfl (by decide) (gt_of 926 (by decide +kernel) (by decide +kernel)) rfl (Or.inr ⟨rfl, rfl, rfl⟩) (Or.inr (Or.inr (Or.inr (Or.inr ⟨_, rfl⟩)))) trivial rfl (by decide) ?_
  have hz := Zr.w (r := 56) (k := 12) (v := 59) hz (by decide)
  refine r_aload_n dX8_init_30 rfl rfl (by decide) ?_
  refine r_bipush dX8_init_31 rfl (by decide) ?_
  refine r_newa (k := 100) (N := 9) (z := 60) dX8_init_33 rfl rfl ⟨by decide, by decide⟩ rfl (gt_of 232 (by decide +kernel) (by decide +kernel)) (by decide) rfl rfl (hz.at (by decide)) (Nat.le_of_ble_eq_true rfl) ?_
  have hz := hz.up (show (62 : Nat) ≤ 63 by decide)
  refine r_put (ci := 8) (k := 13) dX8_init_35 rfl rfl (by decide) (gt_of 927 (by decide +kernel) (by decide +kernel)) rfl (Or.inr ⟨rfl, rfl, rfl⟩) (Or.inr (Or.inr (Or.inr (Or.inr ⟨_, rfl⟩)))) trivial rfl (by decide) ?_
  have hz := Zr.w (r := 56) (k := 13) (v := 60) hz (by decide)
  refine r_aload_n dX8_init_38 rfl rfl (by decide) ?_
  refine r_bipush dX8_init_39 rfl (by decide) ?_
  refine r_newa (k := 100) (N := 12) (z := 61) dX8_init_41 rfl rfl ⟨by decide, by decide⟩ rfl (gt_of 232 (by decide +kernel) (by decide +kernel)) (by decide) rfl rfl (hz.at (by decide)) (Nat.le_of_ble_eq_true rfl) ?_
  have hz := hz.up (show (63 : Nat) ≤ 64 by decide)
  refine r_put (ci := 8) (k := 14) dX8_init_43 rfl rfl (by decide) (gt_of 928 (by decide +kernel) (by decide +kernel)) rfl (Or.inr ⟨rfl, rfl, rfl⟩) (Or.inr (Or.inr (Or.inr (Or.inr ⟨_, rfl⟩)))) trivial rfl (by decide) ?_
  have hz := Zr.w (r := 56) (k := 14) (v := 61) hz (by decide)
  refine r_aload_n dX8_init_46 rfl rfl (by decide) ?_
  refine r_bipush dX8_init_47 rfl (by decide) ?_
  refine r_newa (k := 100) (N := 24) (z := 62) dX8_init_49 rfl rfl ⟨by decide, by decide⟩ rfl (gt_of 232 (by decide +kernel) (by decide +kernel)) (by decide) rfl rfl (hz.at (by decide)) (Nat.le_of_ble_eq_true rfl) ?_
  have hz := hz.up (show (64 : Nat) ≤ 65 by decide)
  refine r_put (ci := 8) (k := 15) dX8_init_51 rfl rfl (by decide) (gt_of 929 (by decide +kernel) (by decide +kernel)) rfl (Or.inr ⟨rfl, rfl, rfl⟩) (Or.inr (Or.inr (Or.inr (Or.inr ⟨_, rfl⟩)))) trivial rfl (by decide) ?_
  have hz := Zr.w (r := 56) (k := 15) (v := 62) hz (by decide)
  refine r_aload_n dX8_init_54 rfl rfl (by decide) ?_
  refine r_iconst dX8_init_55 rfl ?_
  refine r_newa (k := 102) (N := 2) (z := 63) dX8_init_56 rfl rfl ⟨by decide, by decide⟩ rfl (gt_of 1038 (by decide +kernel) (by decide +kernel)) (by decide) rfl rfl (hz.at (by decide)) (Nat.le_of_ble_eq_true rfl) ?_
  have hz := hz.up (show (65 : Nat) ≤ 66 by decide)
  refine r_put (ci := 8) (k := 16) dX8_init_58 rfl rfl (by decide) (gt_of 930 (by decide +kernel) (by decide +kernel)) rfl (Or.inr ⟨rfl, rfl, rfl⟩) (Or.inr (Or.inr (Or.inr (Or.inr ⟨_, rfl⟩)))) trivial rfl (by decide) ?_
  have hz := Zr.w (r := 56) (k := 16) (v := 63) hz (by decide)
  refine r_aload_n dX8_init_61 rfl rfl (by decide) ?_
  refine r_bipush dX8_init_62 rfl (by decide) ?_
  refine r_newa (k := 100) (N := 10) (z := 64) dX8_init_64 rfl rfl ⟨by decide, by decide⟩ rfl (gt_of 232 (by decide +kernel) (by decide +kernel)) (by decide) rfl rfl (hz.at (by decide)) (Nat.le_of_ble_eq_true rfl) ?_
  have hz := hz.up (show (66 : Nat) ≤ 67 by decide)
  refine r_put (ci := 8) (k := 17) dX8_init_66 rfl rfl (by decide) (gt_of 931 (by decide +kernel) (by decide +kernel)) rfl (Or.inr ⟨rfl, rfl, rfl⟩) (Or.inr (Or.inr (Or.inr (Or.inr ⟨_, rfl⟩)))) trivial rfl (by decide) ?_
  have hz := Zr.w (r := 56) (k := 17) (v := 64) hz (by decide)
  refine r_aload_n dX8_init_69 rfl rfl (by decide) ?_
  refine r_bipush dX8_init_70 rfl (by decide) ?_
  refine r_newa (k := 100) (N := 10) (z := 65) dX8_init_72 rfl rfl ⟨by decide, by decide⟩ rfl (gt_of 232 (by decide +kernel) (by decide +kernel)) (by decide) rfl rfl (hz.at (by decide)) (Nat.le_of_ble_eq_true rfl) ?_
  have hz := hz.up (show (67 : Nat) ≤ 68 by decide)
  refine r_put (ci := 8) (k := 20) dX8_init_74 rfl rfl (by decide) (gt_of 934 (by decide +kernel) (by decide +kernel)) rfl (Or.inr ⟨rfl, rfl, rfl⟩) (Or.inr (Or.inr (Or.inr (Or.inr ⟨_, rfl⟩)))) trivial rfl (by decide) ?_
  have hz := Zr.w (r := 56) (k := 20) (v := 65) hz (by decide)
  refine r_aload_n dX8_init_77 rfl rfl (by decide) ?_
  refine r_bipush dX8_init_78 rfl (by decide) ?_
  refine r_newa (k := 100) (N := 10) (z := 66) dX8_init_80 rfl rfl ⟨by decide, by decide⟩ rfl (gt_of 232 (by decide +kernel) (by decide +kernel)) (by decide) rfl rfl (hz.at (by decide)) (Nat.le_of_ble_eq_true rfl) ?_
  have hz := hz.up (show (68 : Nat) ≤ 69 by decide)
  refine r_put (ci := 8) (k := 21) dX8_init_82 rfl rfl (by decide) (gt_of 935 (by decide +kernel) (by decide +kernel)) rfl (Or.inr ⟨rfl, rfl, rfl⟩) (Or.inr (Or.inr (Or.inr (Or.inr ⟨_, rfl⟩)))) trivial rfl (by decide) ?_
  have hz := Zr.w (r := 56) (k := 21) (v := 66) hz (by decide)
  refine r_aload_n dX8_init_85 rfl rfl (by decide) ?_
  refine r_bipush dX8_init_86 rfl (by decide) ?_
  refine r_newa (k := 100) (N := 10) (z := 67) dX8_init_88 rfl rfl ⟨by decide, by decide⟩ rfl (gt_of 232 (by decide +kernel) (by decide +kernel)) (by decide) rfl rfl (hz.at (by decide)) (Nat.le_of_ble_eq_true rfl) ?_
  have hz := hz.up (show (69 : Nat) ≤ 70 by decide)
  refine r_put (ci := 8) (k := 22) dX8_init_90 rfl rfl (by decide) (gt_of 936 (by decide +kernel) (by decide +kernel)) rfl (Or.inr ⟨rfl, rfl, rfl⟩) (Or.inr (Or.inr (Or.inr (Or.inr ⟨_, rfl⟩)))) trivial rfl (by decide) ?_
  have hz := Zr.w (r := 56) (k := 22) (v := 67) hz (by decide)
  refine r_aload_n dX8_init_93 rfl rfl (by decide) ?_
  refine r_bipush dX8_init_94 rfl (by decide) ?_
  refine r_newa (k := 100) (N := 10) (z := 68) dX8_init_96 rfl rfl ⟨by decide, by decide⟩ rfl (gt_of 232 (by decide +kernel) (by decide +kernel)) (by decide) rfl rfl (hz.at (by decide)) (Nat.le_of_ble_eq_true rfl) ?_
  have hz := hz.up (show (70 : Nat) ≤ 71 by decide)
  refine r_put (ci := 8) (k := 23) dX8_init_98 rfl rfl (by decide) (gt_of 937 (by decide +kernel) (by decide +kernel)) rfl (Or.inr ⟨rfl, rfl, rfl⟩) (Or.inr (Or.inr (Or.inr (Or.inr ⟨_, rfl⟩)))) trivial rfl (by decide) ?_
  have hz := Zr.w (r := 56) (k := 23) (v := 68) hz (by decide)
  refine r_aload_n dX8_init_101 rfl rfl (by decide) ?_
  refine r_bipush dX8_init_102 rfl (by decide) ?_
  refine r_newa (k := 100) (N := 10) (z := 69) dX8_init_104 rfl rfl ⟨by decide, by decide⟩ rfl (gt_of 232 (by decide +kernel) (by decide +kernel)) (by decide) rfl rfl (hz.at (by decide)) (Nat.le_of_ble_eq_true rfl) ?_
  have hz := hz.up (show (71 : Nat) ≤ 72 by decide)
  refine r_put (ci := 8) (k := 24) dX8_init_106 rfl rfl (by decide) (gt_of 938 (by decide +kernel) (by decide +kernel)) rfl (Or.inr ⟨rfl, rfl, rfl⟩) (Or.inr (Or.inr (Or.inr (Or.inr ⟨_, rfl⟩)))) trivial rfl (by decide) ?_
  have hz := Zr.w (r := 56) (k := 24) (v := 69) hz (by decide)
  refine r_aload_n dX8_init_109 rfl rfl (by decide) ?_
  refine r_bipush dX8_init_110 rfl (by decide) ?_
  refine r_newa (k := 100) (N := 10) (z := 70) dX8_init_112 rfl rfl ⟨by decide, by decide⟩ rfl (gt_of 232 (by decide +kernel) (by decide +kernel)) (by decide) rfl rfl (hz.at (by decide)) (Nat.le_of_ble_eq_true rfl) ?_
  have hz := hz.up (show (72 : Nat) ≤ 73 by decide)
  refine r_put (ci := 8) (k := 25) dX8_init_114 rfl rfl (by decide) (gt_of 939 (by decide +kernel) (by decide +kernel)) rfl (Or.inr ⟨rfl, rfl, rfl⟩) (Or.inr (Or.inr (Or.inr (Or.inr ⟨_, rfl⟩)))) trivial rfl (by decide) ?_
  have hz := Zr.w (r := 56) (k := 25) (v := 70) hz (by decide)
  refine r_aload_n dX8_init_117 rfl rfl (by decide) ?_
  refine r_bipush dX8_init_118 rfl (by decide) ?_
  refine r_newa (k := 100) (N := 60) (z := 71) dX8_init_120 rfl rfl ⟨by decide, by decide⟩ rfl (gt_of 232 (by decide +kernel) (by decide +kernel)) (by decide) rfl rfl (hz.at (by decide)) (Nat.le_of_ble_eq_true rfl) ?_
  have hz := hz.up (show (73 : Nat) ≤ 74 by decide)
  refine r_put (ci := 8) (k := 30) dX8_init_122 rfl rfl (by decide) (gt_of 944 (by decide +kernel) (by decide +kernel)) rfl (Or.inr ⟨rfl, rfl, rfl⟩) (Or.inr (Or.inr (Or.inr (Or.inr ⟨_, rfl⟩)))) trivial rfl (by decide) ?_
  have hz := Zr.w (r := 56) (k := 30) (v := 71) hz (by decide)
  refine r_aload_n dX8_init_125 rfl rfl (by decide) ?_
  refine r_bipush dX8_init_126 rfl (by decide) ?_
  refine r_newa (k := 100) (N := 60) (z := 72) dX8_init_128 rfl rfl ⟨by decide, by decide⟩ rfl (gt_of 232 (by decide +kernel) (by decide +kernel)) (by decide) rfl rfl (hz.at (by decide)) (Nat.le_of_ble_eq_true rfl) ?_
  have hz := hz.up (show (74 : Nat) ≤ 75 by decide)
  refine r_put (ci := 8) (k := 31) dX8_init_130 rfl rfl (by decide) (gt_of 945 (by decide +kernel) (by decide +kernel)) rfl (Or.inr ⟨rfl, rfl, rfl⟩) (Or.inr (Or.inr (Or.inr (Or.inr ⟨_, rfl⟩)))) trivial rfl (by decide) ?_
  have hz := Zr.w (r := 56) (k := 31) (v := 72) hz (by decide)
  refine r_aload_n dX8_init_133 rfl rfl (by decide) ?_
  refine r_bipush dX8_init_134 rfl (by decide) ?_
  refine r_newa (k := 100) (N := 60) (z := 73) dX8_init_136 rfl rfl ⟨by decide, by decide⟩ rfl (gt_of 232 (by decide +kernel) (by decide +kernel)) (by decide) rfl rfl (hz.at (by decide)) (Nat.le_of_ble_eq_true rfl) ?_
  have hz := hz.up (show (75 : Nat) ≤ 76 by decide)
  refine r_put (ci := 8) (k := 32) dX8_init_138 rfl rfl (by decide) (gt_of 946 (by decide +kernel) (by decide +kernel)) rfl (Or.inr ⟨rfl, rfl, rfl⟩) (Or.inr (Or.inr (Or.inr (Or.inr ⟨_, rfl⟩)))) trivial rfl (by decide) ?_
  have hz := Zr.w (r := 56) (k := 32) (v := 73) hz (by decide)
  refine r_aload_n dX8_init_141 rfl rfl (by decide) ?_
  refine r_bipush dX8_init_142 rfl (by decide) ?_
  refine r_newa (k := 100) (N := 10) (z := 74) dX8_init_144 rfl rfl ⟨by decide, by decide⟩ rfl (gt_of 232 (by decide +kernel) (by decide +kernel)) (by decide) rfl rfl (hz.at (by decide)) (Nat.le_of_ble_eq_true rfl) ?_
  have hz := hz.up (show (76 : Nat) ≤ 77 by decide)
  refine r_put (ci := 8) (k := 39) dX8_init_146 rfl rfl (by decide) (gt_of 953 (by decide +kernel) (by decide +kernel)) rfl (Or.inr ⟨rfl, rfl, rfl⟩) (Or.inr (Or.inr (Or.inr (Or.inr ⟨_, rfl⟩)))) trivial rfl (by decide) ?_
  have hz := Zr.w (r := 56) (k := 39) (v := 74) hz (by decide)
  refine r_aload_n dX8_init_149 rfl rfl (by decide) ?_
  refine r_sipush dX8_init_150 rfl (by decide) ?_
  refine r_newa (k := 100) (N := 512) (z := 75) dX8_init_153 rfl rfl ⟨by decide, by decide⟩ rfl (gt_of 232 (by decide +kernel) (by decide +kernel)) (by decide) rfl rfl (hz.at (by decide)) (Nat.le_of_ble_eq_true rfl) ?_
  have hz := hz.up (show (77 : Nat) ≤ 78 by decide)
  refine r_put (ci := 8) (k := 40) dX8_init_155 rfl rfl (by decide) (gt_of 954 (by decide +kernel) (by decide +kernel)) rfl (Or.inr ⟨rfl, rfl, rfl⟩) (Or.inr (Or.inr (Or.inr (Or.inr ⟨_, rfl⟩)))) trivial rfl (by decide) ?_
  have hz := Zr.w (r := 56) (k := 40) (v := 75) hz (by decide)
  refine r_aload_n dX8_init_158 rfl rfl (by decide) ?_
  refine r_get (ci := 8) (k := 12) (z := 59) dX8_init_159 rfl rfl (by decide) (gt_of 926 (by decide +kernel) (by decide +kernel)) rfl rfl (by decide) rfl ?_
  refine r_iconst dX8_init_162 rfl ?_
  refine r_iconst dX8_init_163 rfl ?_
  refine r_iast (N := 8) dX8_init_164 rfl rfl (by decide) ⟨by decide, by decide⟩ (by decide) ?_
  have hz := Zr.w (r := 59) (k := 0) (v := 2) hz (by decide)
  refine r_aload_n dX8_init_165 rfl rfl (by decide) ?_
  refine r_get (ci := 8) (k := 12) (z := 59) dX8_init_166 rfl rfl (by decide) (gt_of 926 (by decide +kernel) (by decide +kernel)) rfl rfl (by decide) rfl ?_
  refine r_iconst dX8_init_169 rfl ?_
  refine r_sipush dX8_init_170 rfl (by decide) ?_
  refine r_iast (N := 8) dX8_init_173 rfl rfl (by decide) ⟨by decide, by decide⟩ (by decide) ?_
  have hz := Zr.w (r := 59) (k := 1) (v := 180) hz (by decide)
  refine r_aload_n dX8_init_174 rfl rfl (by decide) ?_
  refine r_get (ci := 8) (k := 12) (z := 59) dX8_init_175 rfl rfl (by decide) (gt_of 926 (by decide +kernel) (by decide +kernel)) rfl rfl (by decide) rfl ?_
  refine r_iconst dX8_init_178 rfl ?_
  refine r_bipush dX8_init_179 rfl (by decide) ?_
  refine r_iast (N := 8) dX8_init_181 rfl rfl (by decide) ⟨by decide, by decide⟩ (by decide) ?_
  have hz := Zr.w (r := 59) (k := 2) (v := 10) hz (by decide)
  refine r_aload_n dX8_init_182 rfl rfl (by decide) ?_
  refine r_get (ci := 8) (k := 12) (z := 59) dX8_init_183 rfl rfl (by decide) (gt_of 926 (by decide +kernel) (by decide +kernel)) rfl rfl (by decide) rfl ?_
  refine r_iconst dX8_init_186 rfl ?_
  refine r_iconst dX8_init_187 rfl ?_
  refine r_iast (N := 8) dX8_init_188 rfl rfl (by decide) ⟨by decide, by decide⟩ (by decide) ?_
  have hz := Zr.w (r := 59) (k := 3) (v := 2) hz (by decide)
  refine r_aload_n dX8_init_189 rfl rfl (by decide) ?_
  refine r_get (ci := 8) (k := 12) (z := 59) dX8_init_190 rfl rfl (by decide) (gt_of 926 (by decide +kernel) (by decide +kernel)) rfl rfl (by decide) rfl ?_
  refine r_iconst dX8_init_193 rfl ?_
  refine r_iconst dX8_init_194 rfl ?_
  refine r_iast (N := 8) dX8_init_195 rfl rfl (by decide) ⟨by decide, by decide⟩ (by decide) ?_
  have hz := Zr.w (r := 59) (k := 4) (v := 5) hz (by decide)
  refine r_aload_n dX8_init_196 rfl rfl (by decide) ?_
  refine r_get (ci := 8) (k := 12) (z := 59) dX8_init_197 rfl rfl (by decide) (gt_of 926 (by decide +kernel) (by decide +kernel)) rfl rfl (by decide) rfl ?_
  refine r_iconst dX8_init_200 rfl ?_
  refine r_iconst dX8_init_201 rfl ?_
  refine r_iast (N := 8) dX8_init_202 rfl rfl (by decide) ⟨by decide, by decide⟩ (by decide) ?_
  have hz := Zr.w (r := 59) (k := 5) (v := 1) hz (by decide)
  refine r_aload_n dX8_init_203 rfl rfl (by decide) ?_
  refine r_get (ci := 8) (k := 12) (z := 59) dX8_init_204 rfl rfl (by decide) (gt_of 926 (by decide +kernel) (by decide +kernel)) rfl rfl (by decide) rfl ?_
  refine r_bipush dX8_init_207 rfl (by decide) ?_
  refine r_bipush dX8_init_209 rfl (by decide) ?_
  refine r_iast (N := 8) dX8_init_211 rfl rfl (by decide) ⟨by decide, by decide⟩ (by decide) ?_
  have hz := Zr.w (r := 59) (k := 6) (v := 20) hz (by decide)
  refine r_aload_n dX8_init_212 rfl rfl (by decide) ?_
  refine r_get (ci := 8) (k := 12) (z := 59) dX8_init_213 rfl rfl (by decide) (gt_of 926 (by decide +kernel) (by decide +kernel)) rfl rfl (by decide) rfl ?_
  refine r_bipush dX8_init_216 rfl (by decide) ?_
  refine r_sipush dX8_init_218 rfl (by decide) ?_
  refine r_iast (N := 8) dX8_init_221 rfl rfl (by decide) ⟨by decide, by decide⟩ (by decide) ?_
  have hz := Zr.w (r := 59) (k := 7) (v := 400) hz (by decide)
  refine r_aload_n dX8_init_222 rfl rfl (by decide) ?_
  refine r_get (ci := 8) (k := 14) (z := 61) dX8_init_223 rfl rfl (by decide) (gt_of 928 (by decide +kernel) (by decide +kernel)) rfl rfl (by decide) rfl ?_
  refine r_iconst dX8_init_226 rfl ?_
  refine r_iconst dX8_init_227 rfl ?_
  refine r_iast (N := 12) dX8_init_228 rfl rfl (by decide) ⟨by decide, by decide⟩ (by decide) ?_
  have hz := Zr.w (r := 61) (k := 2) (v := 1) hz (by decide)
  exact GG.done
