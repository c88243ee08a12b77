def F_X1_strip (o0 : Int) (h : Mem) : Res := nm (wr h o0 1 0) (fun (h_1 : Mem) => nm (wr h_1 o0 2 0) (fun (h_2 : Mem) => some (0, h_2)))
theorem S_X1_strip (X : XS) (o0 : Int) (o_o0 : okO 1 o0 = true) (h : Mem) : CT X yX1_strip MX1_strip none 9 0 [(2, o0)] h (F_X1_strip o0 h) := by
  refine CT.ofV (by decide) rfl (Nat.le_of_ble_eq_true rfl) (fun r hf => ?_)
  unfold F_X1_strip at hf
  show AJ X MX1_strip (rmD 0) 0 [(2, o0)] [] h (PH 9 r)
  refine q_aload_n dX1_strip_0 rfl rfl ?_
  refine q_iconst dX1_strip_1 rfl rfl ?_
  refine g_put (k := 1) (kz := 1) dX1_strip_2 rfl fp_X1_15 rfl (fun q => q.1 rfl) o_o0 ?_
  obtain ⟨h_1, e_h_1, hf⟩ := nm_ex hf
  rw [← e_h_1]
  refine q_aload_n dX1_strip_5 rfl rfl ?_
  refine q_iconst dX1_strip_6 rfl rfl ?_
  refine g_put (k := 2) (kz := 2) dX1_strip_7 rfl fp_X1_19 rfl (fun q => q.1 rfl) o_o0 ?_
  obtain ⟨h_2, e_h_2, hf⟩ := nm_ex hf
  rw [← e_h_2]
  exact g_return dX1_strip_10 rfl hf
def L_X3_forget_1 (Kx : Int → Mem → Res) : Nat → Int → Mem → Res
  | 0, _, _ => none
  | n + 1, k_2, h_1 => if (k_2 < 81) then (gd (0 ≤ k_2 ∧ k_2 < 81) (nm (wr h_1 52 k_2 0) (fun (h_4 : Mem) => nm (wr h_4 53 k_2 0) (fun (h_5 : Mem) => nm (w32 (k_2 + 1)) (fun k_6 => L_X3_forget_1 Kx n k_6 h_5))))) else (Kx k_2 h_1)
def F_X3_forget (h : Mem) : Res := L_X3_forget_1 (fun k_9 (h_8 : Mem) => nm (wr h_8 51 2 0) (fun (h_10 : Mem) => some (0, h_10))) FU 0 h
theorem SL_X3_forget_1 (X : XS) (Kx : Int → Mem → Res) {r : Int × Mem} (hK : ∀ (k_2 : Int) (h_1 : Mem), Kx k_2 h_1 = some r → AJ X MX3_forget (rmD 0) 28 [(2, 51), (0, k_2)] [] h_1 (PH 9 r)) :
    ∀ (n : Nat) (k_2 : Int) (h_1 : Mem), L_X3_forget_1 Kx n k_2 h_1 = some r → AJ X MX3_forget (rmD 0) 2 [(2, 51), (0, k_2)] [] h_1 (PH 9 r) := by
  intro n
  induction n with
  | zero => intro k_2 h_1 hf; cases hf
  | succ n ih =>
    intro k_2 h_1 hf
    rw [L_X3_forget_1] at hf
    refine q_iload_n dX3_forget_2 rfl rfl ?_
    refine q_bipush dX3_forget_3 rfl (by decide) ?_
    refine q_icmp_ge (tgt := 28) dX3_forget_5 rfl (by decide) (fun c_7 => ?_) (fun c_7 => ?_)
    · replace hf := it_f hf (by omega)
      exact hK _ _ hf
    · replace hf := it_t hf (by omega)
      refine q_aload_n dX3_forget_8 rfl rfl ?_
      refine g_getF (k := 0) (o := 1) (z := 52) dX3_forget_9 rfl fg_X3_9 rfl rfl rfl ?_
      refine q_iload_n dX3_forget_12 rfl rfl ?_
      refine q_iconst dX3_forget_13 rfl rfl ?_
      obtain ⟨g_3, hf⟩ := gd_ex hf
      refine q_iastore dX3_forget_14 rfl rfl g_3 ?_
      obtain ⟨h_4, e_h_4, hf⟩ := nm_ex hf
      rw [← e_h_4]
      refine q_aload_n dX3_forget_15 rfl rfl ?_
      refine g_getF (k := 1) (o := 2) (z := 53) dX3_forget_16 rfl fg_X3_15 rfl rfl rfl ?_
      refine q_iload_n dX3_forget_19 rfl rfl ?_
      refine q_iconst dX3_forget_20 rfl rfl ?_
      refine q_iastore dX3_forget_21 rfl rfl g_3 ?_
      obtain ⟨h_5, e_h_5, hf⟩ := nm_ex hf
      rw [← e_h_5]
      refine q_iinc (ls' := [(2, 51), (0, w32 (k_2 + 1))]) dX3_forget_22 rfl rfl rfl ?_
      obtain ⟨k_6, e_k_6, hf⟩ := nm_ex hf
      rw [← e_k_6]
      refine q_goto (tgt := 2) dX3_forget_25 rfl (by decide) ?_
      exact ih _ _ hf
theorem S_X3_forget (X : XS) (h : Mem) : CT X yX3_forget MX3_forget none 9 0 [(2, 51)] h (F_X3_forget h) := by
  refine CT.ofV (by decide) rfl (Nat.le_of_ble_eq_true rfl) (fun r hf => ?_)
  unfold F_X3_forget at hf
  show AJ X MX3_forget (rmD 0) 0 [(2, 51), (3, 0)] [] h (PH 9 r)
  refine q_iconst dX3_forget_0 rfl rfl ?_
  refine q_istore_n (ls' := [(2, 51), (0, 0)]) dX3_forget_1 rfl rfl (Nat.le_of_ble_eq_true rfl) rfl ?_
  refine SL_X3_forget_1 X   _ (fun k_9 h_8 hf => ?_) FU _ _ hf
  refine q_aload_n dX3_forget_28 rfl rfl ?_
  refine q_iconst dX3_forget_29 rfl rfl ?_
  refine g_put (k := 2) (kz := 2) dX3_forget_30 rfl fp_X3_22 rfl (fun q => q.1 rfl) rfl ?_
  obtain ⟨h_10, e_h_10, hf⟩ := nm_ex hf
  rw [← e_h_10]
  exact g_return dX3_forget_33 rfl hf
def F_X0_forget (o0 : Int) (h : Mem) : Res := nm (wr h o0 1 0) (fun (h_1 : Mem) => nm (wr h_1 o0 2 0) (fun (h_2 : Mem) => nm (wr h_2 o0 3 0) (fun (h_3 : Mem) => nm (wr h_3 o0 4 0) (fun (h_4 : Mem) => nm (wr h_4 o0 5 0) (fun (h_5 : Mem) => nm (wr h_5 o0 6 0) (fun (h_6 : Mem) => nm (wr h_6 o0 7 0) (fun (h_7 : Mem) => nm (wr h_7 o0 8 0) (fun (h_8 : Mem) => nm (wr h_8 o0 9 0) (fun (h_9 : Mem) => nm (wr h_9 o0 10 0) (fun (h_10 : Mem) => some (0, h_10)))))))))))
theorem S_X0_forget (X : XS) (o0 : Int) (o_o0 : okO 0 o0 = true) (h : Mem) : CT X yX0_forget MX0_forget none 9 0 [(2, o0)] h (F_X0_forget o0 h) := by
  refine CT.ofV (by decide) rfl (Nat.le_of_ble_eq_true rfl) (fun r hf => ?_)
  unfold F_X0_forget at hf
  show AJ X MX0_forget (rmD 0) 0 [(2, o0)] [] h (PH 9 r)
  refine q_aload_n dX0_forget_0 rfl rfl ?_
  refine q_iconst dX0_forget_1 rfl rfl ?_
  refine g_put (k := 1) (kz := 1) dX0_forget_2 rfl fp_X0_15 rfl (fun q => q.1 rfl) o_o0 ?_
  obtain ⟨h_1, e_h_1, hf⟩ := nm_ex hf
  rw [← e_h_1]
  refine q_aload_n dX0_forget_5 rfl rfl ?_
  refine q_iconst dX0_forget_6 rfl rfl ?_
  refine g_put (k := 2) (kz := 2) dX0_forget_7 rfl fp_X0_18 rfl (fun q => q.1 rfl) o_o0 ?_
  obtain ⟨h_2, e_h_2, hf⟩ := nm_ex hf
  rw [← e_h_2]
  refine q_aload_n dX0_forget_10 rfl rfl ?_
  refine q_iconst dX0_forget_11 rfl rfl ?_
  refine g_put (k := 3) (kz := 3) dX0_forget_12 rfl fp_X0_21 rfl (fun q => q.1 rfl) o_o0 ?_
  obtain ⟨h_3, e_h_3, hf⟩ := nm_ex hf
  rw [← e_h_3]
  refine q_aload_n dX0_forget_15 rfl rfl ?_
  refine q_iconst dX0_forget_16 rfl rfl ?_
  refine g_put (k := 4) (kz := 4) dX0_forget_17 rfl fp_X0_24 rfl (fun _ => Or.inl rfl) o_o0 ?_
  obtain ⟨h_4, e_h_4, hf⟩ := nm_ex hf
  rw [← e_h_4]
  refine q_aload_n dX0_forget_20 rfl rfl ?_
  refine q_iconst dX0_forget_21 rfl rfl ?_
  refine g_put (k := 5) (kz := 5) dX0_forget_22 rfl fp_X0_28 rfl (fun q => q.1 rfl) o_o0 ?_
  obtain ⟨h_5, e_h_5, hf⟩ := nm_ex hf
  rw [← e_h_5]
  refine q_aload_n dX0_forget_25 rfl rfl ?_
  refine q_iconst dX0_forget_26 rfl rfl ?_
  refine g_put (k := 6) (kz := 6) dX0_forget_27 rfl fp_X0_31 rfl (fun q => q.1 rfl) o_o0 ?_
  obtain ⟨h_6, e_h_6, hf⟩ := nm_ex hf
  rw [← e_h_6]
  refine q_aload_n dX0_forget_30 rfl rfl ?_
  refine q_iconst dX0_forget_31 rfl rfl ?_
  refine g_put (k := 7) (kz := 7) dX0_forget_32 rfl fp_X0_34 rfl (fun q => q.1 rfl) o_o0 ?_
  obtain ⟨h_7, e_h_7, hf⟩ := nm_ex hf
  rw [← e_h_7]
  refine q_aload_n dX0_forget_35 rfl rfl ?_
  refine q_iconst dX0_forget_36 rfl rfl ?_
  refine g_put (k := 8) (kz := 8) dX0_forget_37 rfl fp_X0_37 rfl (fun q => q.1 rfl) o_o0 ?_
  obtain ⟨h_8, e_h_8, hf⟩ := nm_ex hf
  rw [← e_h_8]
  refine q_aload_n dX0_forget_40 rfl rfl ?_
  refine q_iconst dX0_forget_41 rfl rfl ?_
  refine g_put (k := 9) (kz := 9) dX0_forget_42 rfl fp_X0_40 rfl (fun q => q.1 rfl) o_o0 ?_
  obtain ⟨h_9, e_h_9, hf⟩ := nm_ex hf
  rw [← e_h_9]
  refine q_aload_n dX0_forget_45 rfl rfl ?_
  refine q_iconst dX0_forget_46 rfl rfl ?_
  refine g_put (k := 10) (kz := 10) dX0_forget_47 rfl fp_X0_43 rfl (fun q => q.1 rfl) o_o0 ?_
  obtain ⟨h_10, e_h_10, hf⟩ := nm_ex hf
  rw [← e_h_10]
  exact g_return dX0_forget_50 rfl hf
def F_X2_fallOut (o0 i_0 j_0 : Int) (h : Mem) : Res := gd (0 ≤ i_0 ∧ i_0 < 9) (nm (wr h (o0 + 2 + i_0) 10 (ior (h (o0 + 2 + i_0) 10) (ishl 1 j_0))) (fun (h_2 : Mem) => gd (0 ≤ j_0 ∧ j_0 < 9) (nm (wr h_2 (o0 + 2 + j_0) 10 (ior (h_2 (o0 + 2 + j_0) 10) (ishl 1 i_0))) (fun (h_4 : Mem) => some (0, h_4)))))
theorem S_X2_fallOut (X : XS) (o0 : Int) (o_o0 : okO 2 o0 = true) (i_0 : Int) (j_0 : Int) (h : Mem) : CT X yX2_fallOut MX2_fallOut none 9 0 [(2, o0), (0, i_0), (0, j_0)] h (F_X2_fallOut o0 i_0 j_0 h) := by
  refine CT.ofV (by decide) rfl (Nat.le_of_ble_eq_true rfl) (fun r hf => ?_)
  unfold F_X2_fallOut at hf
  show AJ X MX2_fallOut (rmD 0) 0 [(2, o0), (0, i_0), (0, j_0)] [] h (PH 9 r)
  refine q_aload_n dX2_fallOut_0 rfl rfl ?_
  refine g_getF (k := 0) (o := 1) (z := (o0 + 1)) dX2_fallOut_1 rfl fg_X2_11 rfl o_o0 rfl ?_
  refine q_iload_n dX2_fallOut_4 rfl rfl ?_
  obtain ⟨g_1, hf⟩ := gd_ex hf
  refine q_aaloadF (z := (o0 + 2 + i_0)) dX2_fallOut_5 rfl (sf_2_0 o_o0) (by decide) g_1 rfl (by omega) ?_
  refine q_dup dX2_fallOut_6 rfl (by decide) ?_
  refine g_get (k := 10) (kz := 10) dX2_fallOut_7 rfl fg_X2_24 rfl (ok_mem o_o0 g_1) ?_
  refine q_iconst dX2_fallOut_10 rfl rfl ?_
  refine q_iload_n dX2_fallOut_11 rfl rfl ?_
  refine q_ishl dX2_fallOut_12 rfl ?_
  refine q_ior dX2_fallOut_13 rfl ?_
  refine g_put (k := 10) (kz := 10) dX2_fallOut_14 rfl fp_X2_24 rfl (fun q => q.1 rfl) (ok_mem o_o0 g_1) ?_
  obtain ⟨h_2, e_h_2, hf⟩ := nm_ex hf
  rw [← e_h_2]
  refine q_aload_n dX2_fallOut_17 rfl rfl ?_
  refine g_getF (k := 0) (o := 1) (z := (o0 + 1)) dX2_fallOut_18 rfl fg_X2_11 rfl o_o0 rfl ?_
  refine q_iload_n dX2_fallOut_21 rfl rfl ?_
  obtain ⟨g_3, hf⟩ := gd_ex hf
  refine q_aaloadF (z := (o0 + 2 + j_0)) dX2_fallOut_22 rfl (sf_2_0 o_o0) (by decide) g_3 rfl (by omega) ?_
  refine q_dup dX2_fallOut_23 rfl (by decide) ?_
  refine g_get (k := 10) (kz := 10) dX2_fallOut_24 rfl fg_X2_24 rfl (ok_mem o_o0 g_3) ?_
  refine q_iconst dX2_fallOut_27 rfl rfl ?_
  refine q_iload_n dX2_fallOut_28 rfl rfl ?_
  refine q_ishl dX2_fallOut_29 rfl ?_
  refine q_ior dX2_fallOut_30 rfl ?_
  refine g_put (k := 10) (kz := 10) dX2_fallOut_31 rfl fp_X2_24 rfl (fun q => q.1 rfl) (ok_mem o_o0 g_3) ?_
  obtain ⟨h_4, e_h_4, hf⟩ := nm_ex hf
  rw [← e_h_4]
  exact g_return dX2_fallOut_34 rfl hf
def F_X0_hates (o0 other_0 : Int) (h : Mem) : Res := if ((iand (ishr (h o0 10) other_0) 1) = 1) then (some (1, h)) else (some (0, h))
theorem S_X0_hates (X : XS) (o0 : Int) (o_o0 : okO 0 o0 = true) (other_0 : Int) (h : Mem) : CB X yX0_hates MX0_hates 0 [(2, o0), (0, other_0)] h (F_X0_hates o0 other_0 h) := by
  refine CB.of (by decide) rfl (Nat.le_of_ble_eq_true rfl) (fun r hf => ?_)
  unfold F_X0_hates at hf
  show AJ X MX0_hates (rmD 0) 0 [(2, o0), (0, other_0)] [] h (PB r)
  refine q_aload_n dX0_hates_0 rfl rfl ?_
  refine g_get (k := 10) (kz := 10) dX0_hates_1 rfl fg_X0_43 rfl o_o0 ?_
  refine q_iload_n dX0_hates_4 rfl rfl ?_
  refine q_ishr dX0_hates_5 rfl ?_
  refine q_iconst dX0_hates_6 rfl rfl ?_
  refine q_iand dX0_hates_7 rfl ?_
  refine q_iconst dX0_hates_8 rfl rfl ?_
  refine q_icmp_ne (tgt := 16) dX0_hates_9 rfl (by decide) (fun c_1 => ?_) (fun c_1 => ?_)
  · replace hf := it_f hf (by omega)
    refine q_iconst dX0_hates_16 rfl rfl ?_
    exact g_breturn dX0_hates_17 rfl (Or.inl rfl) hf
  · replace hf := it_t hf (by omega)
    refine q_iconst dX0_hates_12 rfl rfl ?_
    refine q_goto (tgt := 17) dX0_hates_13 rfl (by decide) ?_
    exact g_breturn dX0_hates_17 rfl (Or.inr rfl) hf
def F_X1_append (o0 i_0 : Int) (h : Mem) : Res := if ((h o0 1) < 9) then (gd (0 ≤ (h o0 1) ∧ (h o0 1) < 9) (nm (wr h (o0 + 1) (h o0 1) i_0) (fun (h_2 : Mem) => nm (wr h_2 o0 1 (w32 ((h_2 o0 1) + 1))) (fun (h_3 : Mem) => some (0, h_3))))) else (some (0, h))
theorem S_X1_append (X : XS) (o0 : Int) (o_o0 : okO 1 o0 = true) (i_0 : Int) (h : Mem) : CT X yX1_append MX1_append none 9 0 [(2, o0), (0, i_0)] h (F_X1_append o0 i_0 h) := by
  refine CT.ofV (by decide) rfl (Nat.le_of_ble_eq_true rfl) (fun r hf => ?_)
  unfold F_X1_append at hf
  show AJ X MX1_append (rmD 0) 0 [(2, o0), (0, i_0)] [] h (PH 9 r)
  refine q_aload_n dX1_append_0 rfl rfl ?_
  refine g_get (k := 1) (kz := 1) dX1_append_1 rfl fg_X1_15 rfl o_o0 ?_
  refine q_bipush dX1_append_4 rfl (by decide) ?_
  refine q_icmp_ge (tgt := 29) dX1_append_6 rfl (by decide) (fun c_4 => ?_) (fun c_4 => ?_)
  · replace hf := it_f hf (by omega)
    exact g_return dX1_append_29 rfl hf
  · replace hf := it_t hf (by omega)
    refine q_aload_n dX1_append_9 rfl rfl ?_
    refine g_getF (k := 0) (o := 1) (z := (o0 + 1)) dX1_append_10 rfl fg_X1_9 rfl o_o0 rfl ?_
    refine q_aload_n dX1_append_13 rfl rfl ?_
    refine g_get (k := 1) (kz := 1) dX1_append_14 rfl fg_X1_15 rfl o_o0 ?_
    refine q_iload_n dX1_append_17 rfl rfl ?_
    obtain ⟨g_1, hf⟩ := gd_ex hf
    refine q_iastore dX1_append_18 rfl (sf_1_0 o_o0) g_1 ?_
    obtain ⟨h_2, e_h_2, hf⟩ := nm_ex hf
    rw [← e_h_2]
    refine q_aload_n dX1_append_19 rfl rfl ?_
    refine q_dup dX1_append_20 rfl (by decide) ?_
    refine g_get (k := 1) (kz := 1) dX1_append_21 rfl fg_X1_15 rfl o_o0 ?_
    refine q_iconst dX1_append_24 rfl rfl ?_
    refine q_iadd dX1_append_25 rfl ?_
    refine g_put (k := 1) (kz := 1) dX1_append_26 rfl fp_X1_15 rfl (fun q => q.1 rfl) o_o0 ?_
    obtain ⟨h_3, e_h_3, hf⟩ := nm_ex hf
    rw [← e_h_3]
    exact g_return dX1_append_29 rfl hf
def L_X1_placeOf_1 (i_0 o0 : Int) (Kx : Int → Mem → Res) : Nat → Int → Mem → Res
  | 0, _, _ => none
  | n + 1, p_2, h_1 => if (p_2 < (h_1 o0 1)) then (gd (0 ≤ p_2 ∧ p_2 < 9) (if ((h_1 (o0 + 1) p_2) = i_0) then (some (p_2, h_1)) else (nm (w32 (p_2 + 1)) (fun p_5 => L_X1_placeOf_1 i_0 o0 Kx n p_5 h_1)))) else (Kx p_2 h_1)
def F_X1_placeOf (o0 i_0 : Int) (h : Mem) : Res := L_X1_placeOf_1 i_0 o0 (fun p_8 (h_7 : Mem) => some ((-9), h_7)) FU 0 h
theorem SL_X1_placeOf_1 (X : XS) (i_0 o0 : Int) (o_o0 : okO 1 o0 = true) (Kx : Int → Mem → Res) {r : Int × Mem} (hK : ∀ (p_2 : Int) (h_1 : Mem), Kx p_2 h_1 = some r → AJ X MX1_placeOf (rmD 0) 28 [(2, o0), (0, i_0), (0, p_2)] [] h_1 (PH 0 r)) :
    ∀ (n : Nat) (p_2 : Int) (h_1 : Mem), L_X1_placeOf_1 i_0 o0 Kx n p_2 h_1 = some r → AJ X MX1_placeOf (rmD 0) 2 [(2, o0), (0, i_0), (0, p_2)] [] h_1 (PH 0 r) := by
  intro n
  induction n with
  | zero => intro p_2 h_1 hf; cases hf
  | succ n ih =>
    intro p_2 h_1 hf
    rw [L_X1_placeOf_1] at hf
    refine q_iload_n dX1_placeOf_2 rfl rfl ?_
    refine q_aload_n dX1_placeOf_3 rfl rfl ?_
    refine g_get (k := 1) (kz := 1) dX1_placeOf_4 rfl fg_X1_15 rfl o_o0 ?_
    refine q_icmp_ge (tgt := 28) dX1_placeOf_7 rfl (by decide) (fun c_6 => ?_) (fun c_6 => ?_)
    · replace hf := it_f hf (by omega)
      exact hK _ _ hf
    · replace hf := it_t hf (by omega)
      refine q_aload_n dX1_placeOf_10 rfl rfl ?_
      refine g_getF (k := 0) (o := 1) (z := (o0 + 1)) dX1_placeOf_11 rfl fg_X1_9 rfl o_o0 rfl ?_
      refine q_iload_n dX1_placeOf_14 rfl rfl ?_
      obtain ⟨g_3, hf⟩ := gd_ex hf
      refine q_iaload dX1_placeOf_15 rfl (sf_1_0 o_o0) g_3 ?_
      refine q_iload_n dX1_placeOf_16 rfl rfl ?_
      refine q_icmp_ne (tgt := 22) dX1_placeOf_17 rfl (by decide) (fun c_4 => ?_) (fun c_4 => ?_)
      · replace hf := it_f hf (by omega)
        refine q_iinc (ls' := [(2, o0), (0, i_0), (0, w32 (p_2 + 1))]) dX1_placeOf_22 rfl rfl rfl ?_
        obtain ⟨p_5, e_p_5, hf⟩ := nm_ex hf
        rw [← e_p_5]
        refine q_goto (tgt := 2) dX1_placeOf_25 rfl (by decide) ?_
        exact ih _ _ hf
      · replace hf := it_t hf (by omega)
        refine q_iload_n dX1_placeOf_20 rfl rfl ?_
        exact g_ireturn dX1_placeOf_21 rfl hf
theorem S_X1_placeOf (X : XS) (o0 : Int) (o_o0 : okO 1 o0 = true) (i_0 : Int) (h : Mem) : CT X yX1_placeOf MX1_placeOf (some .int) 0 0 [(2, o0), (0, i_0)] h (F_X1_placeOf o0 i_0 h) := by
  refine CT.ofI (by decide) rfl (Nat.le_of_ble_eq_true rfl) (fun r hf => ?_)
  unfold F_X1_placeOf at hf
  show AJ X MX1_placeOf (rmD 0) 0 [(2, o0), (0, i_0), (3, 0)] [] h (PH 0 r)
  refine q_iconst dX1_placeOf_0 rfl rfl ?_
  refine q_istore_n (ls' := [(2, o0), (0, i_0), (0, 0)]) dX1_placeOf_1 rfl rfl (Nat.le_of_ble_eq_true rfl) rfl ?_
  refine SL_X1_placeOf_1 X i_0 o0 o_o0 _ (fun p_8 h_7 hf => ?_) FU _ _ hf
  refine q_bipush dX1_placeOf_28 rfl (by decide) ?_
  exact g_ireturn dX1_placeOf_30 rfl hf
def F_X1_hasPlace (o0 p_0 : Int) (h : Mem) : Res := if ((0 ≤ p_0) ∧ (p_0 < (h o0 1))) then (some (1, h)) else (some (0, h))
theorem S_X1_hasPlace (X : XS) (o0 : Int) (o_o0 : okO 1 o0 = true) (p_0 : Int) (h : Mem) : CB X yX1_hasPlace MX1_hasPlace 0 [(2, o0), (0, p_0)] h (F_X1_hasPlace o0 p_0 h) := by
  refine CB.of (by decide) rfl (Nat.le_of_ble_eq_true rfl) (fun r hf => ?_)
  unfold F_X1_hasPlace at hf
  show AJ X MX1_hasPlace (rmD 0) 0 [(2, o0), (0, p_0)] [] h (PB r)
  have HF_1 : ¬ ((0 ≤ p_0) ∧ (p_0 < (h o0 1))) → AJ X MX1_hasPlace (rmD 0) 16 [(2, o0), (0, p_0)] [] h (PB r) := by
    intro hc
    replace hf := it_f hf hc
    refine q_iconst dX1_hasPlace_16 rfl rfl ?_
    exact g_breturn dX1_hasPlace_17 rfl (Or.inl rfl) hf
  refine q_iload_n dX1_hasPlace_0 rfl rfl ?_
  refine q_if_lt (tgt := 16) dX1_hasPlace_1 rfl (by decide) (fun c_2 => ?_) (fun c_2 => ?_)
  · exact HF_1 (by omega)
  · refine q_iload_n dX1_hasPlace_4 rfl rfl ?_
    refine q_aload_n dX1_hasPlace_5 rfl rfl ?_
    refine g_get (k := 1) (kz := 1) dX1_hasPlace_6 rfl fg_X1_15 rfl o_o0 ?_
    refine q_icmp_ge (tgt := 16) dX1_hasPlace_9 rfl (by decide) (fun c_3 => ?_) (fun c_3 => ?_)
    · exact HF_1 (by omega)
    · replace hf := it_t hf (by omega)
      refine q_iconst dX1_hasPlace_12 rfl rfl ?_
      refine q_goto (tgt := 17) dX1_hasPlace_13 rfl (by decide) ?_
      exact g_breturn dX1_hasPlace_17 rfl (Or.inr rfl) hf
def L_X1_bits_1 (o0 : Int) (Kx : Int → Int → Mem → Res) : Nat → Int → Int → Mem → Res
  | 0, _, _, _ => none
  | n + 1, bits_2, p_3, h_1 => if (p_3 < (h_1 o0 1)) then (gd (0 ≤ p_3 ∧ p_3 < 9) (nm (ior bits_2 (ishl 1 (h_1 (o0 + 1) p_3))) (fun bits_5 => nm (w32 (p_3 + 1)) (fun p_6 => L_X1_bits_1 o0 Kx n bits_5 p_6 h_1)))) else (Kx bits_2 p_3 h_1)
def F_X1_bits (o0 : Int) (h : Mem) : Res := L_X1_bits_1 o0 (fun bits_9 p_10 (h_8 : Mem) => some (bits_9, h_8)) FU 0 0 h
theorem SL_X1_bits_1 (X : XS) (o0 : Int) (o_o0 : okO 1 o0 = true) (Kx : Int → Int → Mem → Res) {r : Int × Mem} (hK : ∀ (bits_2 p_3 : Int) (h_1 : Mem), Kx bits_2 p_3 h_1 = some r → AJ X MX1_bits (rmD 0) 29 [(2, o0), (0, bits_2), (0, p_3)] [] h_1 (PH 0 r)) :
    ∀ (n : Nat) (bits_2 p_3 : Int) (h_1 : Mem), L_X1_bits_1 o0 Kx n bits_2 p_3 h_1 = some r → AJ X MX1_bits (rmD 0) 4 [(2, o0), (0, bits_2), (0, p_3)] [] h_1 (PH 0 r) := by
  intro n
  induction n with
  | zero => intro bits_2 p_3 h_1 hf; cases hf
  | succ n ih =>
    intro bits_2 p_3 h_1 hf
    rw [L_X1_bits_1] at hf
    refine q_iload_n dX1_bits_4 rfl rfl ?_
    refine q_aload_n dX1_bits_5 rfl rfl ?_
    refine g_get (k := 1) (kz := 1) dX1_bits_6 rfl fg_X1_15 rfl o_o0 ?_
    refine q_icmp_ge (tgt := 29) dX1_bits_9 rfl (by decide) (fun c_7 => ?_) (fun c_7 => ?_)
    · replace hf := it_f hf (by omega)
      exact hK _ _ _ hf
    · replace hf := it_t hf (by omega)
      refine q_iload_n dX1_bits_12 rfl rfl ?_
      refine q_iconst dX1_bits_13 rfl rfl ?_
      refine q_aload_n dX1_bits_14 rfl rfl ?_
      refine g_getF (k := 0) (o := 1) (z := (o0 + 1)) dX1_bits_15 rfl fg_X1_9 rfl o_o0 rfl ?_
      refine q_iload_n dX1_bits_18 rfl rfl ?_
      obtain ⟨g_4, hf⟩ := gd_ex hf
      refine q_iaload dX1_bits_19 rfl (sf_1_0 o_o0) g_4 ?_
      refine q_ishl dX1_bits_20 rfl ?_
      refine q_ior dX1_bits_21 rfl ?_
      obtain ⟨bits_5, e_bits_5, hf⟩ := nm_ex hf
      rw [← e_bits_5]
      refine q_istore_n (ls' := [(2, o0), (0, bits_5), (0, p_3)]) dX1_bits_22 rfl rfl (Nat.le_of_ble_eq_true rfl) rfl ?_
      refine q_iinc (ls' := [(2, o0), (0, bits_5), (0, w32 (p_3 + 1))]) dX1_bits_23 rfl rfl rfl ?_
      obtain ⟨p_6, e_p_6, hf⟩ := nm_ex hf
      rw [← e_p_6]
      refine q_goto (tgt := 4) dX1_bits_26 rfl (by decide) ?_
      exact ih _ _ _ hf
theorem S_X1_bits (X : XS) (o0 : Int) (o_o0 : okO 1 o0 = true) (h : Mem) : CT X yX1_bits MX1_bits (some .int) 0 0 [(2, o0)] h (F_X1_bits o0 h) := by
  refine CT.ofI (by decide) rfl (Nat.le_of_ble_eq_true rfl) (fun r hf => ?_)
  unfold F_X1_bits at hf
  show AJ X MX1_bits (rmD 0) 0 [(2, o0), (3, 0), (3, 0)] [] h (PH 0 r)
  refine q_iconst dX1_bits_0 rfl rfl ?_
  refine q_istore_n (ls' := [(2, o0), (0, 0), (3, 0)]) dX1_bits_1 rfl rfl (Nat.le_of_ble_eq_true rfl) rfl ?_
  refine q_iconst dX1_bits_2 rfl rfl ?_
  refine q_istore_n (ls' := [(2, o0), (0, 0), (0, 0)]) dX1_bits_3 rfl rfl (Nat.le_of_ble_eq_true rfl) rfl ?_
  refine SL_X1_bits_1 X o0 o_o0 _ (fun bits_9 p_10 h_8 hf => ?_) FU _ _ _ hf
  refine q_iload_n dX1_bits_29 rfl rfl ?_
  exact g_ireturn dX1_bits_30 rfl hf
def F_X10_bitCount (i_0 : Int) (h : Mem) : Res := nm (w32 (i_0 - (iand (iushr i_0 1) 1431655765))) (fun i_1 => nm (w32 ((iand i_1 858993459) + (iand (iushr i_1 2) 858993459))) (fun i_2 => nm (iand (w32 (i_2 + (iushr i_2 4))) 252645135) (fun i_3 => nm (w32 (i_3 + (iushr i_3 8))) (fun i_4 => nm (w32 (i_4 + (iushr i_4 16))) (fun i_5 => some (iand i_5 63, h))))))
theorem S_X10_bitCount (X : XS) (i_0 : Int) (h : Mem) : CT X yX10_bitCount MX10_bitCount (some .int) 0 0 [(0, i_0)] h (F_X10_bitCount i_0 h) := by
  refine CT.ofI (by decide) rfl (Nat.le_of_ble_eq_true rfl) (fun r hf => ?_)
  unfold F_X10_bitCount at hf
  show AJ X MX10_bitCount (rmD 0) 0 [(0, i_0)] [] h (PH 0 r)
  refine q_iload_n dJ6_bitCount_0f7a4_0 rfl rfl ?_
  refine q_iload_n dJ6_bitCount_0f7a4_1 rfl rfl ?_
  refine q_iconst dJ6_bitCount_0f7a4_2 rfl rfl ?_
  refine q_iushr dJ6_bitCount_0f7a4_3 rfl ?_
  refine q_ldcw (z := 1431655765) dJ6_bitCount_0f7a4_4 rfl kc_X10_265 (by decide +kernel) ?_
  refine q_iand dJ6_bitCount_0f7a4_7 rfl ?_
  refine q_isub dJ6_bitCount_0f7a4_8 rfl ?_
  obtain ⟨i_1, e_i_1, hf⟩ := nm_ex hf
  rw [← e_i_1]
  refine q_istore_n (ls' := [(0, i_1)]) dJ6_bitCount_0f7a4_9 rfl rfl (Nat.le_of_ble_eq_true rfl) rfl ?_
  refine q_iload_n dJ6_bitCount_0f7a4_10 rfl rfl ?_
  refine q_ldcw (z := 858993459) dJ6_bitCount_0f7a4_11 rfl kc_X10_266 (by decide +kernel) ?_
  refine q_iand dJ6_bitCount_0f7a4_14 rfl ?_
  refine q_iload_n dJ6_bitCount_0f7a4_15 rfl rfl ?_
  refine q_iconst dJ6_bitCount_0f7a4_16 rfl rfl ?_
  refine q_iushr dJ6_bitCount_0f7a4_17 rfl ?_
  refine q_ldcw (z := 858993459) dJ6_bitCount_0f7a4_18 rfl kc_X10_266 (by decide +kernel) ?_
  refine q_iand dJ6_bitCount_0f7a4_21 rfl ?_
  refine q_iadd dJ6_bitCount_0f7a4_22 rfl ?_
  obtain ⟨i_2, e_i_2, hf⟩ := nm_ex hf
  rw [← e_i_2]
  refine q_istore_n (ls' := [(0, i_2)]) dJ6_bitCount_0f7a4_23 rfl rfl (Nat.le_of_ble_eq_true rfl) rfl ?_
  refine q_iload_n dJ6_bitCount_0f7a4_24 rfl rfl ?_
  refine q_iload_n dJ6_bitCount_0f7a4_25 rfl rfl ?_
  refine q_iconst dJ6_bitCount_0f7a4_26 rfl rfl ?_
  refine q_iushr dJ6_bitCount_0f7a4_27 rfl ?_
  refine q_iadd dJ6_bitCount_0f7a4_28 rfl ?_
  refine q_ldcw (z := 252645135) dJ6_bitCount_0f7a4_29 rfl kc_X10_267 (by decide +kernel) ?_
  refine q_iand dJ6_bitCount_0f7a4_32 rfl ?_
  obtain ⟨i_3, e_i_3, hf⟩ := nm_ex hf
  rw [← e_i_3]
  refine q_istore_n (ls' := [(0, i_3)]) dJ6_bitCount_0f7a4_33 rfl rfl (Nat.le_of_ble_eq_true rfl) rfl ?_
  refine q_iload_n dJ6_bitCount_0f7a4_34 rfl rfl ?_
  refine q_iload_n dJ6_bitCount_0f7a4_35 rfl rfl ?_
  refine q_bipush dJ6_bitCount_0f7a4_36 rfl (by decide) ?_
  refine q_iushr dJ6_bitCount_0f7a4_38 rfl ?_
  refine q_iadd dJ6_bitCount_0f7a4_39 rfl ?_
  obtain ⟨i_4, e_i_4, hf⟩ := nm_ex hf
  rw [← e_i_4]
  refine q_istore_n (ls' := [(0, i_4)]) dJ6_bitCount_0f7a4_40 rfl rfl (Nat.le_of_ble_eq_true rfl) rfl ?_
  refine q_iload_n dJ6_bitCount_0f7a4_41 rfl rfl ?_
  refine q_iload_n dJ6_bitCount_0f7a4_42 rfl rfl ?_
  refine q_bipush dJ6_bitCount_0f7a4_43 rfl (by decide) ?_
  refine q_iushr dJ6_bitCount_0f7a4_45 rfl ?_
  refine q_iadd dJ6_bitCount_0f7a4_46 rfl ?_
  obtain ⟨i_5, e_i_5, hf⟩ := nm_ex hf
  rw [← e_i_5]
  refine q_istore_n (ls' := [(0, i_5)]) dJ6_bitCount_0f7a4_47 rfl rfl (Nat.le_of_ble_eq_true rfl) rfl ?_
  refine q_iload_n dJ6_bitCount_0f7a4_48 rfl rfl ?_
  refine q_bipush dJ6_bitCount_0f7a4_49 rfl (by decide) ?_
  refine q_iand dJ6_bitCount_0f7a4_51 rfl ?_
  exact g_ireturn dJ6_bitCount_0f7a4_52 rfl hf
def F_X3_append (i_0 p_0 heard_0 : Int) (h : Mem) : Res := gd (0 ≤ (w32 ((w32 (i_0 * 9)) + p_0)) ∧ (w32 ((w32 (i_0 * 9)) + p_0)) < 81) (nm (wr h 52 (w32 ((w32 (i_0 * 9)) + p_0)) (w32 ((h 52 (w32 ((w32 (i_0 * 9)) + p_0))) + 1))) (fun (h_2 : Mem) => nm (wr h_2 53 (w32 ((w32 (i_0 * 9)) + p_0)) (w32 ((h_2 53 (w32 ((w32 (i_0 * 9)) + p_0))) + heard_0))) (fun (h_3 : Mem) => nm (wr h_3 51 2 (w32 ((h_3 51 2) + 1))) (fun (h_4 : Mem) => some (0, h_4)))))
theorem S_X3_append (X : XS) (i_0 : Int) (p_0 : Int) (heard_0 : Int) (h : Mem) : CT X yX3_append MX3_append none 9 0 [(2, 51), (0, i_0), (0, p_0), (0, heard_0)] h (F_X3_append i_0 p_0 heard_0 h) := by
  refine CT.ofV (by decide) rfl (Nat.le_of_ble_eq_true rfl) (fun r hf => ?_)
  unfold F_X3_append at hf
  show AJ X MX3_append (rmD 0) 0 [(2, 51), (0, i_0), (0, p_0), (0, heard_0)] [] h (PH 9 r)
  refine q_aload_n dX3_append_0 rfl rfl ?_
  refine g_getF (k := 0) (o := 1) (z := 52) dX3_append_1 rfl fg_X3_9 rfl rfl rfl ?_
  refine q_iload_n dX3_append_4 rfl rfl ?_
  refine q_bipush dX3_append_5 rfl (by decide) ?_
  refine q_imul dX3_append_7 rfl ?_
  refine q_iload_n dX3_append_8 rfl rfl ?_
  refine q_iadd dX3_append_9 rfl ?_
  refine q_dup2 dX3_append_10 rfl (by decide) (by decide) ?_
  obtain ⟨g_1, hf⟩ := gd_ex hf
  refine q_iaload dX3_append_11 rfl rfl g_1 ?_
  refine q_iconst dX3_append_12 rfl rfl ?_
  refine q_iadd dX3_append_13 rfl ?_
  refine q_iastore dX3_append_14 rfl rfl g_1 ?_
  obtain ⟨h_2, e_h_2, hf⟩ := nm_ex hf
  rw [← e_h_2]
  refine q_aload_n dX3_append_15 rfl rfl ?_
  refine g_getF (k := 1) (o := 2) (z := 53) dX3_append_16 rfl fg_X3_15 rfl rfl rfl ?_
  refine q_iload_n dX3_append_19 rfl rfl ?_
  refine q_bipush dX3_append_20 rfl (by decide) ?_
  refine q_imul dX3_append_22 rfl ?_
  refine q_iload_n dX3_append_23 rfl rfl ?_
  refine q_iadd dX3_append_24 rfl ?_
  refine q_dup2 dX3_append_25 rfl (by decide) (by decide) ?_
  refine q_iaload dX3_append_26 rfl rfl g_1 ?_
  refine q_iload_n dX3_append_27 rfl rfl ?_
  refine q_iadd dX3_append_28 rfl ?_
  refine q_iastore dX3_append_29 rfl rfl g_1 ?_
  obtain ⟨h_3, e_h_3, hf⟩ := nm_ex hf
  rw [← e_h_3]
  refine q_aload_n dX3_append_30 rfl rfl ?_
  refine q_dup dX3_append_31 rfl (by decide) ?_
  refine g_get (k := 2) (kz := 2) dX3_append_32 rfl fg_X3_22 rfl rfl ?_
  refine q_iconst dX3_append_35 rfl rfl ?_
  refine q_iadd dX3_append_36 rfl ?_
  refine g_put (k := 2) (kz := 2) dX3_append_37 rfl fp_X3_22 rfl (fun q => q.1 rfl) rfl ?_
  obtain ⟨h_4, e_h_4, hf⟩ := nm_ex hf
  rw [← e_h_4]
  exact g_return dX3_append_40 rfl hf
def L_X3_reduce_1 (Kx : Int → Int → Int → Mem → Res) : Nat → Int → Int → Int → Mem → Res
  | 0, _, _, _, _ => none
  | n + 1, a_4, b_5, k_6, h_3 => if ((k_6 < 100) ∧ (¬ b_5 = 0)) then (gd (¬ b_5 = 0) (nm (lrm a_4 b_5) (fun left_8 => nm (w32 (k_6 + 1)) (fun k_9 => L_X3_reduce_1 Kx n b_5 left_8 k_9 h_3)))) else (Kx a_4 b_5 k_6 h_3)
def F_X3_reduce (h : Mem) : Res := nm (abL (h 51 3)) (fun a_1 => nm (h 51 4) (fun b_2 => L_X3_reduce_1 (fun a_14 b_15 k_16 (h_13 : Mem) => if (1 < a_14) then (gd (¬ a_14 = 0) (nm (wr h_13 51 3 (ldv (h_13 51 3) a_14)) (fun (h_18 : Mem) => gd (¬ a_14 = 0) (nm (wr h_18 51 4 (ldv (h_18 51 4) a_14)) (fun (h_20 : Mem) => some (0, h_20)))))) else (some (0, h_13))) FU a_1 b_2 0 h))
theorem SL_X3_reduce_1 (X : XS) (Kx : Int → Int → Int → Mem → Res) {r : Int × Mem} (hK : ∀ (a_4 b_5 k_6 : Int) (h_3 : Mem), Kx a_4 b_5 k_6 h_3 = some r → AJ X MX3_reduce (rmD 1) 45 [(2, 51), (1, a_4), (3, 0), (1, b_5), (3, 0), (0, k_6), (3, 0), (3, 0)] [] h_3 (PH 9 r)) :
    ∀ (n : Nat) (a_4 b_5 k_6 : Int) (h_3 : Mem), L_X3_reduce_1 Kx n a_4 b_5 k_6 h_3 = some r → AJ X MX3_reduce (rmD 1) 16 [(2, 51), (1, a_4), (3, 0), (1, b_5), (3, 0), (0, k_6), (3, 0), (3, 0)] [] h_3 (PH 9 r) := by
  intro n
  induction n with
  | zero => intro a_4 b_5 k_6 h_3 hf; cases hf
  | succ n ih =>
    intro a_4 b_5 k_6 h_3 hf
    rw [L_X3_reduce_1] at hf
    have HF_10 : ¬ ((k_6 < 100) ∧ (¬ b_5 = 0)) → AJ X MX3_reduce (rmD 1) 45 [(2, 51), (1, a_4), (3, 0), (1, b_5), (3, 0), (0, k_6), (3, 0), (3, 0)] [] h_3 (PH 9 r) := by
      intro hc
      replace hf := it_f hf hc
      exact hK _ _ _ _ hf
    refine q_iload dX3_reduce_16 rfl rfl ?_
    refine q_bipush dX3_reduce_18 rfl (by decide) ?_
    refine q_icmp_ge (tgt := 45) dX3_reduce_20 rfl (by decide) (fun c_11 => ?_) (fun c_11 => ?_)
    · exact HF_10 (by omega)
    · refine q_lload_n dX3_reduce_23 rfl rfl ?_
      refine q_lconst0 dX3_reduce_24 rfl ?_
      refine q_lcmp dX3_reduce_25 rfl ?_
      have lc := lcmp_iff b_5 0
      refine q_if_eq (tgt := 45) dX3_reduce_26 rfl (by decide) (fun c_12 => ?_) (fun c_12 => ?_)
      · exact HF_10 (by omega)
      · replace hf := it_t hf (by omega)
        refine q_lload_n dX3_reduce_29 rfl rfl ?_
        refine q_lload_n dX3_reduce_30 rfl rfl ?_
        obtain ⟨g_7, hf⟩ := gd_ex hf
        refine q_lrem dX3_reduce_31 rfl g_7 ?_
        obtain ⟨left_8, e_left_8, hf⟩ := nm_ex hf
        rw [← e_left_8]
        refine q_lstore (ls' := [(2, 51), (1, a_4), (3, 0), (1, b_5), (3, 0), (0, k_6), (1, left_8), (3, 0)]) dX3_reduce_32 rfl (Nat.le_of_ble_eq_true rfl) rfl ?_
        refine q_lload_n dX3_reduce_34 rfl rfl ?_
        refine q_lstore_n (ls' := [(2, 51), (1, b_5), (3, 0), (1, b_5), (3, 0), (0, k_6), (1, left_8), (3, 0)]) dX3_reduce_35 rfl rfl (Nat.le_of_ble_eq_true rfl) rfl ?_
        refine q_lload dX3_reduce_36 rfl rfl ?_
        refine q_lstore_n (ls' := [(2, 51), (1, b_5), (3, 0), (1, left_8), (3, 0), (0, k_6), (1, left_8), (3, 0)]) dX3_reduce_38 rfl rfl (Nat.le_of_ble_eq_true rfl) rfl ?_
        refine q_iinc (ls' := [(2, 51), (1, b_5), (3, 0), (1, left_8), (3, 0), (0, w32 (k_6 + 1)), (1, left_8), (3, 0)]) dX3_reduce_39 rfl rfl rfl ?_
        obtain ⟨k_9, e_k_9, hf⟩ := nm_ex hf
        rw [← e_k_9]
        refine q_goto (tgt := 16) dX3_reduce_42 rfl (by decide) ?_
        refine g_frg (ls' := [(2, 51), (1, b_5), (3, 0), (1, left_8), (3, 0), (0, k_9), (3, 0), (3, 0)]) [6] rfl ?_
        exact ih _ _ _ _ hf
theorem S_X3_reduce (X : XS) (h : Mem) : CT X yX3_reduce MX3_reduce none 9 1 [(2, 51)] h (F_X3_reduce h) := by
  refine CT.ofV (by decide) rfl (Nat.le_of_ble_eq_true rfl) (fun r hf => ?_)
  unfold F_X3_reduce at hf
  show AJ X MX3_reduce (rmD 1) 0 [(2, 51), (3, 0), (3, 0), (3, 0), (3, 0), (3, 0), (3, 0), (3, 0)] [] h (PH 9 r)
  refine q_aload_n dX3_reduce_0 rfl rfl ?_
  refine g_get (k := 3) (kz := 3) dX3_reduce_1 rfl fg_X3_26 rfl rfl ?_
  refine g_absL dX3_reduce_4 rfl ml_X3_46 mw_absL rfl rfl ?_
  obtain ⟨a_1, e_a_1, hf⟩ := nm_ex hf
  rw [← e_a_1]
  refine q_lstore_n (ls' := [(2, 51), (1, a_1), (3, 0), (3, 0), (3, 0), (3, 0), (3, 0), (3, 0)]) dX3_reduce_7 rfl rfl (Nat.le_of_ble_eq_true rfl) rfl ?_
  refine q_aload_n dX3_reduce_8 rfl rfl ?_
  refine g_get (k := 4) (kz := 4) dX3_reduce_9 rfl fg_X3_18 rfl rfl ?_
  obtain ⟨b_2, e_b_2, hf⟩ := nm_ex hf
  rw [← e_b_2]
  refine q_lstore_n (ls' := [(2, 51), (1, a_1), (3, 0), (1, b_2), (3, 0), (3, 0), (3, 0), (3, 0)]) dX3_reduce_12 rfl rfl (Nat.le_of_ble_eq_true rfl) rfl ?_
  refine q_iconst dX3_reduce_13 rfl rfl ?_
  refine q_istore (ls' := [(2, 51), (1, a_1), (3, 0), (1, b_2), (3, 0), (0, 0), (3, 0), (3, 0)]) dX3_reduce_14 rfl (Nat.le_of_ble_eq_true rfl) rfl ?_
  refine SL_X3_reduce_1 X   _ (fun a_14 b_15 k_16 h_13 hf => ?_) FU _ _ _ _ hf
  refine q_lload_n dX3_reduce_45 rfl rfl ?_
  refine q_lconst1 dX3_reduce_46 rfl ?_
  refine q_lcmp dX3_reduce_47 rfl ?_
  have lc := lcmp_iff a_14 1
  refine q_if_le (tgt := 71) dX3_reduce_48 rfl (by decide) (fun c_21 => ?_) (fun c_21 => ?_)
  · replace hf := it_f hf (by omega)
    refine g_frg (ls' := [(2, 51), (1, a_14), (3, 0), (1, b_15), (3, 0), (3, 0), (3, 0), (3, 0)]) [5] rfl ?_
    exact g_return dX3_reduce_71 rfl hf
  · replace hf := it_t hf (by omega)
    refine q_aload_n dX3_reduce_51 rfl rfl ?_
    refine q_dup dX3_reduce_52 rfl (by decide) ?_
    refine g_get (k := 3) (kz := 3) dX3_reduce_53 rfl fg_X3_26 rfl rfl ?_
    refine q_lload_n dX3_reduce_56 rfl rfl ?_
    obtain ⟨g_17, hf⟩ := gd_ex hf
    refine q_ldiv dX3_reduce_57 rfl g_17 ?_
    refine g_put (k := 3) (kz := 3) dX3_reduce_58 rfl fp_X3_26 rfl (fun q => q.2 rfl) rfl ?_
    obtain ⟨h_18, e_h_18, hf⟩ := nm_ex hf
    rw [← e_h_18]
    refine q_aload_n dX3_reduce_61 rfl rfl ?_
    refine q_dup dX3_reduce_62 rfl (by decide) ?_
    refine g_get (k := 4) (kz := 4) dX3_reduce_63 rfl fg_X3_18 rfl rfl ?_
    refine q_lload_n dX3_reduce_66 rfl rfl ?_
    obtain ⟨g_19, hf⟩ := gd_ex hf
    refine q_ldiv dX3_reduce_67 rfl g_19 ?_
    refine g_put (k := 4) (kz := 4) dX3_reduce_68 rfl fp_X3_18 rfl (fun q => q.2 rfl) rfl ?_
    obtain ⟨h_20, e_h_20, hf⟩ := nm_ex hf
    rw [← e_h_20]
    refine g_frg (ls' := [(2, 51), (1, a_14), (3, 0), (1, b_15), (3, 0), (3, 0), (3, 0), (3, 0)]) [5] rfl ?_
    exact g_return dX3_reduce_71 rfl hf
def L_X3_addPlace_1 (i_0 p_0 : Int) (Kx : Int → Int → Int → Mem → Res) : Nat → Int → Int → Int → Mem → Res
  | 0, _, _, _, _ => none
  | n + 1, allTimes_2, allClaps_3, k_4, h_1 => if (k_4 < 9) then (gd (0 ≤ (w32 ((w32 (k_4 * 9)) + p_0)) ∧ (w32 ((w32 (k_4 * 9)) + p_0)) < 81) (nm (w32 (allTimes_2 + (h_1 52 (w32 ((w32 (k_4 * 9)) + p_0))))) (fun allTimes_6 => nm (w32 (allClaps_3 + (h_1 53 (w32 ((w32 (k_4 * 9)) + p_0))))) (fun allClaps_7 => nm (w32 (k_4 + 1)) (fun k_8 => L_X3_addPlace_1 i_0 p_0 Kx n allTimes_6 allClaps_7 k_8 h_1))))) else (Kx allTimes_2 allClaps_3 k_4 h_1)
def F_X3_addPlace (i_0 p_0 : Int) (h : Mem) : Res := L_X3_addPlace_1 i_0 p_0 (fun allTimes_11 allClaps_12 k_13 (h_10 : Mem) => nm (w32 ((w32 (i_0 * 9)) + p_0)) (fun own_14 => gd (0 ≤ own_14 ∧ own_14 < 81) (nm (w64 ((w64 ((h_10 53 own_14) * allTimes_11)) - (w64 ((h_10 52 own_14) * allClaps_12)))) (fun more_16 => nm (wr h_10 51 3 (w64 ((w64 ((h_10 51 3) * allTimes_11)) + (w64 (more_16 * (h_10 51 4)))))) (fun (h_17 : Mem) => nm (wr h_17 51 4 (w64 ((h_17 51 4) * allTimes_11))) (fun (h_18 : Mem) => bd (F_X3_reduce  h_18) (fun _ (h_20 : Mem) => some (0, h_20)))))))) FU 0 0 0 h
theorem SL_X3_addPlace_1 (X : XS) (i_0 p_0 : Int) (Kx : Int → Int → Int → Mem → Res) {r : Int × Mem} (hK : ∀ (allTimes_2 allClaps_3 k_4 : Int) (h_1 : Mem), Kx allTimes_2 allClaps_3 k_4 h_1 = some r → AJ X MX3_addPlace (rmD 2) 53 [(2, 51), (0, i_0), (0, p_0), (0, allTimes_2), (0, allClaps_3), (0, k_4), (3, 0), (3, 0)] [] h_1 (PH 9 r)) :
    ∀ (n : Nat) (allTimes_2 allClaps_3 k_4 : Int) (h_1 : Mem), L_X3_addPlace_1 i_0 p_0 Kx n allTimes_2 allClaps_3 k_4 h_1 = some r → AJ X MX3_addPlace (rmD 2) 8 [(2, 51), (0, i_0), (0, p_0), (0, allTimes_2), (0, allClaps_3), (0, k_4), (3, 0), (3, 0)] [] h_1 (PH 9 r) := by
  intro n
  induction n with
  | zero => intro allTimes_2 allClaps_3 k_4 h_1 hf; cases hf
  | succ n ih =>
    intro allTimes_2 allClaps_3 k_4 h_1 hf
    rw [L_X3_addPlace_1] at hf
    refine q_iload dX3_addPlace_8 rfl rfl ?_
    refine q_bipush dX3_addPlace_10 rfl (by decide) ?_
    refine q_icmp_ge (tgt := 53) dX3_addPlace_12 rfl (by decide) (fun c_9 => ?_) (fun c_9 => ?_)
    · replace hf := it_f hf (by omega)
      exact hK _ _ _ _ hf
    · replace hf := it_t hf (by omega)
      refine q_iload_n dX3_addPlace_15 rfl rfl ?_
      refine q_aload_n dX3_addPlace_16 rfl rfl ?_
      refine g_getF (k := 0) (o := 1) (z := 52) dX3_addPlace_17 rfl fg_X3_9 rfl rfl rfl ?_
      refine q_iload dX3_addPlace_20 rfl rfl ?_
      refine q_bipush dX3_addPlace_22 rfl (by decide) ?_
      refine q_imul dX3_addPlace_24 rfl ?_
      refine q_iload_n dX3_addPlace_25 rfl rfl ?_
      refine q_iadd dX3_addPlace_26 rfl ?_
      obtain ⟨g_5, hf⟩ := gd_ex hf
      refine q_iaload dX3_addPlace_27 rfl rfl g_5 ?_
      refine q_iadd dX3_addPlace_28 rfl ?_
      obtain ⟨allTimes_6, e_allTimes_6, hf⟩ := nm_ex hf
      rw [← e_allTimes_6]
      refine q_istore_n (ls' := [(2, 51), (0, i_0), (0, p_0), (0, allTimes_6), (0, allClaps_3), (0, k_4), (3, 0), (3, 0)]) dX3_addPlace_29 rfl rfl (Nat.le_of_ble_eq_true rfl) rfl ?_
      refine q_iload dX3_addPlace_30 rfl rfl ?_
      refine q_aload_n dX3_addPlace_32 rfl rfl ?_
      refine g_getF (k := 1) (o := 2) (z := 53) dX3_addPlace_33 rfl fg_X3_15 rfl rfl rfl ?_
      refine q_iload dX3_addPlace_36 rfl rfl ?_
      refine q_bipush dX3_addPlace_38 rfl (by decide) ?_
      refine q_imul dX3_addPlace_40 rfl ?_
      refine q_iload_n dX3_addPlace_41 rfl rfl ?_
      refine q_iadd dX3_addPlace_42 rfl ?_
      refine q_iaload dX3_addPlace_43 rfl rfl g_5 ?_
      refine q_iadd dX3_addPlace_44 rfl ?_
      obtain ⟨allClaps_7, e_allClaps_7, hf⟩ := nm_ex hf
      rw [← e_allClaps_7]
      refine q_istore (ls' := [(2, 51), (0, i_0), (0, p_0), (0, allTimes_6), (0, allClaps_7), (0, k_4), (3, 0), (3, 0)]) dX3_addPlace_45 rfl (Nat.le_of_ble_eq_true rfl) rfl ?_
      refine q_iinc (ls' := [(2, 51), (0, i_0), (0, p_0), (0, allTimes_6), (0, allClaps_7), (0, w32 (k_4 + 1)), (3, 0), (3, 0)]) dX3_addPlace_47 rfl rfl rfl ?_
      obtain ⟨k_8, e_k_8, hf⟩ := nm_ex hf
      rw [← e_k_8]
      refine q_goto (tgt := 8) dX3_addPlace_50 rfl (by decide) ?_
      exact ih _ _ _ _ hf
theorem S_X3_addPlace (X : XS) (i_0 : Int) (p_0 : Int) (h : Mem) : CT X yX3_addPlace MX3_addPlace none 9 2 [(2, 51), (0, i_0), (0, p_0)] h (F_X3_addPlace i_0 p_0 h) := by
  refine CT.ofV (by decide) rfl (Nat.le_of_ble_eq_true rfl) (fun r hf => ?_)
  unfold F_X3_addPlace at hf
  show AJ X MX3_addPlace (rmD 2) 0 [(2, 51), (0, i_0), (0, p_0), (3, 0), (3, 0), (3, 0), (3, 0), (3, 0)] [] h (PH 9 r)
  refine q_iconst dX3_addPlace_0 rfl rfl ?_
  refine q_istore_n (ls' := [(2, 51), (0, i_0), (0, p_0), (0, 0), (3, 0), (3, 0), (3, 0), (3, 0)]) dX3_addPlace_1 rfl rfl (Nat.le_of_ble_eq_true rfl) rfl ?_
  refine q_iconst dX3_addPlace_2 rfl rfl ?_
  refine q_istore (ls' := [(2, 51), (0, i_0), (0, p_0), (0, 0), (0, 0), (3, 0), (3, 0), (3, 0)]) dX3_addPlace_3 rfl (Nat.le_of_ble_eq_true rfl) rfl ?_
  refine q_iconst dX3_addPlace_5 rfl rfl ?_
  refine q_istore (ls' := [(2, 51), (0, i_0), (0, p_0), (0, 0), (0, 0), (0, 0), (3, 0), (3, 0)]) dX3_addPlace_6 rfl (Nat.le_of_ble_eq_true rfl) rfl ?_
  refine SL_X3_addPlace_1 X i_0 p_0  _ (fun allTimes_11 allClaps_12 k_13 h_10 hf => ?_) FU _ _ _ _ hf
  refine q_iload_n dX3_addPlace_53 rfl rfl ?_
  refine q_bipush dX3_addPlace_54 rfl (by decide) ?_
  refine q_imul dX3_addPlace_56 rfl ?_
  refine q_iload_n dX3_addPlace_57 rfl rfl ?_
  refine q_iadd dX3_addPlace_58 rfl ?_
  obtain ⟨own_14, e_own_14, hf⟩ := nm_ex hf
  rw [← e_own_14]
  refine q_istore (ls' := [(2, 51), (0, i_0), (0, p_0), (0, allTimes_11), (0, allClaps_12), (0, own_14), (3, 0), (3, 0)]) dX3_addPlace_59 rfl (Nat.le_of_ble_eq_true rfl) rfl ?_
  refine q_aload_n dX3_addPlace_61 rfl rfl ?_
  refine g_getF (k := 1) (o := 2) (z := 53) dX3_addPlace_62 rfl fg_X3_15 rfl rfl rfl ?_
  refine q_iload dX3_addPlace_65 rfl rfl ?_
  obtain ⟨g_15, hf⟩ := gd_ex hf
  refine q_iaload dX3_addPlace_67 rfl rfl g_15 ?_
  refine q_i2l dX3_addPlace_68 rfl ?_
  refine q_iload_n dX3_addPlace_69 rfl rfl ?_
  refine q_i2l dX3_addPlace_70 rfl ?_
  refine q_lmul dX3_addPlace_71 rfl ?_
  refine q_aload_n dX3_addPlace_72 rfl rfl ?_
  refine g_getF (k := 0) (o := 1) (z := 52) dX3_addPlace_73 rfl fg_X3_9 rfl rfl rfl ?_
  refine q_iload dX3_addPlace_76 rfl rfl ?_
  refine q_iaload dX3_addPlace_78 rfl rfl g_15 ?_
  refine q_i2l dX3_addPlace_79 rfl ?_
  refine q_iload dX3_addPlace_80 rfl rfl ?_
  refine q_i2l dX3_addPlace_82 rfl ?_
  refine q_lmul dX3_addPlace_83 rfl ?_
  refine q_lsub dX3_addPlace_84 rfl ?_
  obtain ⟨more_16, e_more_16, hf⟩ := nm_ex hf
  rw [← e_more_16]
  refine q_lstore (ls' := [(2, 51), (0, i_0), (0, p_0), (0, allTimes_11), (0, allClaps_12), (0, own_14), (1, more_16), (3, 0)]) dX3_addPlace_85 rfl (Nat.le_of_ble_eq_true rfl) rfl ?_
  refine q_aload_n dX3_addPlace_87 rfl rfl ?_
  refine q_aload_n dX3_addPlace_88 rfl rfl ?_
  refine g_get (k := 3) (kz := 3) dX3_addPlace_89 rfl fg_X3_26 rfl rfl ?_
  refine q_iload_n dX3_addPlace_92 rfl rfl ?_
  refine q_i2l dX3_addPlace_93 rfl ?_
  refine q_lmul dX3_addPlace_94 rfl ?_
  refine q_lload dX3_addPlace_95 rfl rfl ?_
  refine q_aload_n dX3_addPlace_97 rfl rfl ?_
  refine g_get (k := 4) (kz := 4) dX3_addPlace_98 rfl fg_X3_18 rfl rfl ?_
  refine q_lmul dX3_addPlace_101 rfl ?_
  refine q_ladd dX3_addPlace_102 rfl ?_
  refine g_put (k := 3) (kz := 3) dX3_addPlace_103 rfl fp_X3_26 rfl (fun q => q.2 rfl) rfl ?_
  obtain ⟨h_17, e_h_17, hf⟩ := nm_ex hf
  rw [← e_h_17]
  refine q_aload_n dX3_addPlace_106 rfl rfl ?_
  refine q_aload_n dX3_addPlace_107 rfl rfl ?_
  refine g_get (k := 4) (kz := 4) dX3_addPlace_108 rfl fg_X3_18 rfl rfl ?_
  refine q_iload_n dX3_addPlace_111 rfl rfl ?_
  refine q_i2l dX3_addPlace_112 rfl ?_
  refine q_lmul dX3_addPlace_113 rfl ?_
  refine g_put (k := 4) (kz := 4) dX3_addPlace_114 rfl fp_X3_18 rfl (fun q => q.2 rfl) rfl ?_
  obtain ⟨h_18, e_h_18, hf⟩ := nm_ex hf
  rw [← e_h_18]
  refine q_aload_n dX3_addPlace_117 rfl rfl ?_
  obtain ⟨r_19, h_20, e_21, hf⟩ := bd_ex hf
  refine g_Vv (vs := []) (st := []) dX3_addPlace_118 rfl (S_X3_reduce X  h_18) e_21 mf_X3_reduce ml_X3_43 rfl rfl rfl rfl ?_
  exact g_return dX3_addPlace_121 rfl hf
def L_X3_timesOf_1 (i_0 : Int) (Kx : Int → Int → Mem → Res) : Nat → Int → Int → Mem → Res
  | 0, _, _, _ => none
  | n + 1, all_2, p_3, h_1 => if (p_3 < 9) then (gd (0 ≤ (w32 ((w32 (i_0 * 9)) + p_3)) ∧ (w32 ((w32 (i_0 * 9)) + p_3)) < 81) (nm (w32 (all_2 + (h_1 52 (w32 ((w32 (i_0 * 9)) + p_3))))) (fun all_5 => nm (w32 (p_3 + 1)) (fun p_6 => L_X3_timesOf_1 i_0 Kx n all_5 p_6 h_1)))) else (Kx all_2 p_3 h_1)
def F_X3_timesOf (i_0 : Int) (h : Mem) : Res := L_X3_timesOf_1 i_0 (fun all_9 p_10 (h_8 : Mem) => some (all_9, h_8)) FU 0 0 h
theorem SL_X3_timesOf_1 (X : XS) (i_0 : Int) (Kx : Int → Int → Mem → Res) {r : Int × Mem} (hK : ∀ (all_2 p_3 : Int) (h_1 : Mem), Kx all_2 p_3 h_1 = some r → AJ X MX3_timesOf (rmD 0) 30 [(2, 51), (0, i_0), (0, all_2), (0, p_3)] [] h_1 (PH 0 r)) :
    ∀ (n : Nat) (all_2 p_3 : Int) (h_1 : Mem), L_X3_timesOf_1 i_0 Kx n all_2 p_3 h_1 = some r → AJ X MX3_timesOf (rmD 0) 4 [(2, 51), (0, i_0), (0, all_2), (0, p_3)] [] h_1 (PH 0 r) := by
  intro n
  induction n with
  | zero => intro all_2 p_3 h_1 hf; cases hf
  | succ n ih =>
    intro all_2 p_3 h_1 hf
    rw [L_X3_timesOf_1] at hf
    refine q_iload_n dX3_timesOf_4 rfl rfl ?_
    refine q_bipush dX3_timesOf_5 rfl (by decide) ?_
    refine q_icmp_ge (tgt := 30) dX3_timesOf_7 rfl (by decide) (fun c_7 => ?_) (fun c_7 => ?_)
    · replace hf := it_f hf (by omega)
      exact hK _ _ _ hf
    · replace hf := it_t hf (by omega)
      refine q_iload_n dX3_timesOf_10 rfl rfl ?_
      refine q_aload_n dX3_timesOf_11 rfl rfl ?_
      refine g_getF (k := 0) (o := 1) (z := 52) dX3_timesOf_12 rfl fg_X3_9 rfl rfl rfl ?_
      refine q_iload_n dX3_timesOf_15 rfl rfl ?_
      refine q_bipush dX3_timesOf_16 rfl (by decide) ?_
      refine q_imul dX3_timesOf_18 rfl ?_
      refine q_iload_n dX3_timesOf_19 rfl rfl ?_
      refine q_iadd dX3_timesOf_20 rfl ?_
      obtain ⟨g_4, hf⟩ := gd_ex hf
      refine q_iaload dX3_timesOf_21 rfl rfl g_4 ?_
      refine q_iadd dX3_timesOf_22 rfl ?_
      obtain ⟨all_5, e_all_5, hf⟩ := nm_ex hf
      rw [← e_all_5]
      refine q_istore_n (ls' := [(2, 51), (0, i_0), (0, all_5), (0, p_3)]) dX3_timesOf_23 rfl rfl (Nat.le_of_ble_eq_true rfl) rfl ?_
      refine q_iinc (ls' := [(2, 51), (0, i_0), (0, all_5), (0, w32 (p_3 + 1))]) dX3_timesOf_24 rfl rfl rfl ?_
      obtain ⟨p_6, e_p_6, hf⟩ := nm_ex hf
      rw [← e_p_6]
      refine q_goto (tgt := 4) dX3_timesOf_27 rfl (by decide) ?_
      exact ih _ _ _ hf
theorem S_X3_timesOf (X : XS) (i_0 : Int) (h : Mem) : CT X yX3_timesOf MX3_timesOf (some .int) 0 0 [(2, 51), (0, i_0)] h (F_X3_timesOf i_0 h) := by
  refine CT.ofI (by decide) rfl (Nat.le_of_ble_eq_true rfl) (fun r hf => ?_)
  unfold F_X3_timesOf at hf
  show AJ X MX3_timesOf (rmD 0) 0 [(2, 51), (0, i_0), (3, 0), (3, 0)] [] h (PH 0 r)
  refine q_iconst dX3_timesOf_0 rfl rfl ?_
  refine q_istore_n (ls' := [(2, 51), (0, i_0), (0, 0), (3, 0)]) dX3_timesOf_1 rfl rfl (Nat.le_of_ble_eq_true rfl) rfl ?_
  refine q_iconst dX3_timesOf_2 rfl rfl ?_
  refine q_istore_n (ls' := [(2, 51), (0, i_0), (0, 0), (0, 0)]) dX3_timesOf_3 rfl rfl (Nat.le_of_ble_eq_true rfl) rfl ?_
  refine SL_X3_timesOf_1 X i_0  _ (fun all_9 p_10 h_8 hf => ?_) FU _ _ _ hf
  refine q_iload_n dX3_timesOf_30 rfl rfl ?_
  exact g_ireturn dX3_timesOf_31 rfl hf
def L_X3_part_1 (i_0 : Int) (Kx : Int → Mem → Res) : Nat → Int → Mem → Res
  | 0, _, _ => none
  | n + 1, p_4, h_3 => if (p_4 < 9) then (jn (fun (K_5 : Mem → Res) => gd (0 ≤ (w32 ((w32 (i_0 * 9)) + p_4)) ∧ (w32 ((w32 (i_0 * 9)) + p_4)) < 81) (if (0 < (h_3 52 (w32 ((w32 (i_0 * 9)) + p_4)))) then (bd (F_X3_addPlace i_0 p_4 h_3) (fun _ (h_9 : Mem) => K_5 h_9)) else (K_5 h_3))) (fun  (h_11 : Mem) => nm (w32 (p_4 + 1)) (fun p_12 => L_X3_part_1 i_0 Kx n p_12 h_11))) else (Kx p_4 h_3)
def F_X3_part (i_0 : Int) (h : Mem) : Res := nm (wr h 51 3 0) (fun (h_1 : Mem) => nm (wr h_1 51 4 1) (fun (h_2 : Mem) => L_X3_part_1 i_0 (fun p_15 (h_14 : Mem) => bd (F_X3_timesOf i_0 h_14) (fun r_16 (h_17 : Mem) => nm (wr h_17 51 4 (w64 ((h_14 51 4) * (mxI 1 r_16)))) (fun (h_19 : Mem) => bd (F_X3_reduce  h_19) (fun _ (h_21 : Mem) => some (0, h_21))))) FU 0 h_2))
theorem SL_X3_part_1 (X : XS) (i_0 : Int) (Kx : Int → Mem → Res) {r : Int × Mem} (hK : ∀ (p_4 : Int) (h_3 : Mem), Kx p_4 h_3 = some r → AJ X MX3_part (rmD 3) 44 [(2, 51), (0, i_0), (0, p_4)] [] h_3 (PH 9 r)) :
    ∀ (n : Nat) (p_4 : Int) (h_3 : Mem), L_X3_part_1 i_0 Kx n p_4 h_3 = some r → AJ X MX3_part (rmD 3) 12 [(2, 51), (0, i_0), (0, p_4)] [] h_3 (PH 9 r) := by
  intro n
  induction n with
  | zero => intro p_4 h_3 hf; cases hf
  | succ n ih =>
    intro p_4 h_3 hf
    rw [L_X3_part_1] at hf
    refine q_iload_n dX3_part_12 rfl rfl ?_
    refine q_bipush dX3_part_13 rfl (by decide) ?_
    refine q_icmp_ge (tgt := 44) dX3_part_15 rfl (by decide) (fun c_13 => ?_) (fun c_13 => ?_)
    · replace hf := it_f hf (by omega)
      exact hK _ _ hf
    · replace hf := it_t hf (by omega)
      obtain ⟨K_5, J_K_5, hf⟩ := jn_ex (P := fun K => ∀ (h_11 : Mem), K  h_11 = some r → AJ X MX3_part (rmD 3) 38 [(2, 51), (0, i_0), (0, p_4)] [] h_11 (PH 9 r)) hf (by
          intro  h_11 hf
          refine q_iinc (ls' := [(2, 51), (0, i_0), (0, w32 (p_4 + 1))]) dX3_part_38 rfl rfl rfl ?_
          obtain ⟨p_12, e_p_12, hf⟩ := nm_ex hf
          rw [← e_p_12]
          refine q_goto (tgt := 12) dX3_part_41 rfl (by decide) ?_
          exact ih _ _ hf)
      refine q_aload_n dX3_part_18 rfl rfl ?_
      refine g_getF (k := 0) (o := 1) (z := 52) dX3_part_19 rfl fg_X3_9 rfl rfl rfl ?_
      refine q_iload_n dX3_part_22 rfl rfl ?_
      refine q_bipush dX3_part_23 rfl (by decide) ?_
      refine q_imul dX3_part_25 rfl ?_
      refine q_iload_n dX3_part_26 rfl rfl ?_
      refine q_iadd dX3_part_27 rfl ?_
      obtain ⟨g_6, hf⟩ := gd_ex hf
      refine q_iaload dX3_part_28 rfl rfl g_6 ?_
      refine q_if_le (tgt := 38) dX3_part_29 rfl (by decide) (fun c_7 => ?_) (fun c_7 => ?_)
      · replace hf := it_f hf (by omega)
        exact J_K_5 _ hf
      · replace hf := it_t hf (by omega)
        refine q_aload_n dX3_part_32 rfl rfl ?_
        refine q_iload_n dX3_part_33 rfl rfl ?_
        refine q_iload_n dX3_part_34 rfl rfl ?_
        obtain ⟨r_8, h_9, e_10, hf⟩ := bd_ex hf
        refine g_Vv (vs := [(0, i_0), (0, p_4)]) (st := []) dX3_part_35 rfl (S_X3_addPlace X i_0 p_4 h_3) e_10 mf_X3_addPlace ml_X3_29 rfl rfl rfl rfl ?_
        exact J_K_5 _ hf
theorem S_X3_part (X : XS) (i_0 : Int) (h : Mem) : CT X yX3_part MX3_part none 9 3 [(2, 51), (0, i_0)] h (F_X3_part i_0 h) := by
  refine CT.ofV (by decide) rfl (Nat.le_of_ble_eq_true rfl) (fun r hf => ?_)
  unfold F_X3_part at hf
  show AJ X MX3_part (rmD 3) 0 [(2, 51), (0, i_0), (3, 0)] [] h (PH 9 r)
  refine q_aload_n dX3_part_0 rfl rfl ?_
  refine q_lconst0 dX3_part_1 rfl ?_
  refine g_put (k := 3) (kz := 3) dX3_part_2 rfl fp_X3_26 rfl (fun q => q.2 rfl) rfl ?_
  obtain ⟨h_1, e_h_1, hf⟩ := nm_ex hf
  rw [← e_h_1]
  refine q_aload_n dX3_part_5 rfl rfl ?_
  refine q_lconst1 dX3_part_6 rfl ?_
  refine g_put (k := 4) (kz := 4) dX3_part_7 rfl fp_X3_18 rfl (fun q => q.2 rfl) rfl ?_
  obtain ⟨h_2, e_h_2, hf⟩ := nm_ex hf
  rw [← e_h_2]
  refine q_iconst dX3_part_10 rfl rfl ?_
  refine q_istore_n (ls' := [(2, 51), (0, i_0), (0, 0)]) dX3_part_11 rfl rfl (Nat.le_of_ble_eq_true rfl) rfl ?_
  refine SL_X3_part_1 X i_0  _ (fun p_15 h_14 hf => ?_) FU _ _ hf
  refine q_aload_n dX3_part_44 rfl rfl ?_
  refine q_dup dX3_part_45 rfl (by decide) ?_
  refine g_get (k := 4) (kz := 4) dX3_part_46 rfl fg_X3_18 rfl rfl ?_
  refine q_iconst dX3_part_49 rfl rfl ?_
  refine q_aload_n dX3_part_50 rfl rfl ?_
  refine q_iload_n dX3_part_51 rfl rfl ?_
  obtain ⟨r_16, h_17, e_18, hf⟩ := bd_ex hf
  refine g_Vi (vs := [(0, i_0)]) (st := [(0, 1), (1, h_14 51 4), (2, 51)]) dX3_part_52 rfl (S_X3_timesOf X i_0 h_14) e_18 mf_X3_timesOf ml_X3_33 rfl rfl rfl rfl ?_
  refine g_max dX3_part_55 rfl ml_X3_37 mw_max rfl rfl ?_
  refine q_i2l dX3_part_58 rfl ?_
  refine q_lmul dX3_part_59 rfl ?_
  refine g_put (k := 4) (kz := 4) dX3_part_60 rfl fp_X3_18 rfl (fun q => q.2 rfl) rfl ?_
  obtain ⟨h_19, e_h_19, hf⟩ := nm_ex hf
  rw [← e_h_19]
  refine q_aload_n dX3_part_63 rfl rfl ?_
  obtain ⟨r_20, h_21, e_22, hf⟩ := bd_ex hf
  refine g_Vv (vs := []) (st := []) dX3_part_64 rfl (S_X3_reduce X  h_19) e_22 mf_X3_reduce ml_X3_43 rfl rfl rfl rfl ?_
  exact g_return dX3_part_67 rfl hf
def F_X1_draw (o0 : Int) (h : Mem) : Res := nm (wr h o0 3 (w32 ((w32 ((h o0 3) * 1103515245)) + 12345))) (fun (h_1 : Mem) => some (irm (iushr (h_1 o0 3) 16) 5, h_1))
theorem S_X1_draw (X : XS) (o0 : Int) (o_o0 : okO 1 o0 = true) (h : Mem) : CT X yX1_draw MX1_draw (some .int) 0 0 [(2, o0)] h (F_X1_draw o0 h) := by
  refine CT.ofI (by decide) rfl (Nat.le_of_ble_eq_true rfl) (fun r hf => ?_)
  unfold F_X1_draw at hf
  show AJ X MX1_draw (rmD 0) 0 [(2, o0)] [] h (PH 0 r)
  refine q_aload_n dX1_draw_0 rfl rfl ?_
  refine q_aload_n dX1_draw_1 rfl rfl ?_
  refine g_get (k := 3) (kz := 3) dX1_draw_2 rfl fg_X1_22 rfl o_o0 ?_
  refine q_ldc (z := 1103515245) dX1_draw_5 rfl kc_X1_25 (by decide +kernel) ?_
  refine q_imul dX1_draw_7 rfl ?_
  refine q_sipush dX1_draw_8 rfl (by decide) ?_
  refine q_iadd dX1_draw_11 rfl ?_
  refine g_put (k := 3) (kz := 3) dX1_draw_12 rfl fp_X1_22 rfl (fun q => q.1 rfl) o_o0 ?_
  obtain ⟨h_1, e_h_1, hf⟩ := nm_ex hf
  rw [← e_h_1]
  refine q_aload_n dX1_draw_15 rfl rfl ?_
  refine g_get (k := 3) (kz := 3) dX1_draw_16 rfl fg_X1_22 rfl o_o0 ?_
  refine q_bipush dX1_draw_19 rfl (by decide) ?_
  refine q_iushr dX1_draw_21 rfl ?_
  refine q_iconst dX1_draw_22 rfl rfl ?_
  refine q_irem dX1_draw_23 rfl (by decide) ?_
  exact g_ireturn dX1_draw_24 rfl hf
def L_X1_copy_1 (other_0 o0 : Int) (Kx : Int → Mem → Res) : Nat → Int → Mem → Res
  | 0, _, _ => none
  | n + 1, p_2, h_1 => if (p_2 < (h_1 other_0 1)) then (gd (0 ≤ p_2 ∧ p_2 < 9) (nm (wr h_1 (o0 + 1) p_2 (h_1 (other_0 + 1) p_2)) (fun (h_4 : Mem) => nm (w32 (p_2 + 1)) (fun p_5 => L_X1_copy_1 other_0 o0 Kx n p_5 h_4)))) else (Kx p_2 h_1)
def F_X1_copy (o0 other_0 : Int) (h : Mem) : Res := L_X1_copy_1 other_0 o0 (fun p_8 (h_7 : Mem) => nm (wr h_7 o0 1 (h_7 other_0 1)) (fun (h_9 : Mem) => nm (wr h_9 o0 2 (h_9 other_0 2)) (fun (h_10 : Mem) => nm (wr h_10 o0 3 (h_10 other_0 3)) (fun (h_11 : Mem) => some (0, h_11))))) FU 0 h
theorem SL_X1_copy_1 (X : XS) (other_0 o0 : Int) (o_other_0 : okO 1 other_0 = true) (o_o0 : okO 1 o0 = true) (Kx : Int → Mem → Res) {r : Int × Mem} (hK : ∀ (p_2 : Int) (h_1 : Mem), Kx p_2 h_1 = some r → AJ X MX1_copy (rmD 0) 28 [(2, o0), (2, other_0), (0, p_2)] [] h_1 (PH 9 r)) :
    ∀ (n : Nat) (p_2 : Int) (h_1 : Mem), L_X1_copy_1 other_0 o0 Kx n p_2 h_1 = some r → AJ X MX1_copy (rmD 0) 2 [(2, o0), (2, other_0), (0, p_2)] [] h_1 (PH 9 r) := by
  intro n
  induction n with
  | zero => intro p_2 h_1 hf; cases hf
  | succ n ih =>
    intro p_2 h_1 hf
    rw [L_X1_copy_1] at hf
    refine q_iload_n dX1_copy_2 rfl rfl ?_
    refine q_aload_n dX1_copy_3 rfl rfl ?_
    refine g_get (k := 1) (kz := 1) dX1_copy_4 rfl fg_X1_15 rfl o_other_0 ?_
    refine q_icmp_ge (tgt := 28) dX1_copy_7 rfl (by decide) (fun c_6 => ?_) (fun c_6 => ?_)
    · replace hf := it_f hf (by omega)
      exact hK _ _ hf
    · replace hf := it_t hf (by omega)
      refine q_aload_n dX1_copy_10 rfl rfl ?_
      refine g_getF (k := 0) (o := 1) (z := (o0 + 1)) dX1_copy_11 rfl fg_X1_9 rfl o_o0 rfl ?_
      refine q_iload_n dX1_copy_14 rfl rfl ?_
      refine q_aload_n dX1_copy_15 rfl rfl ?_
      refine g_getF (k := 0) (o := 1) (z := (other_0 + 1)) dX1_copy_16 rfl fg_X1_9 rfl o_other_0 rfl ?_
      refine q_iload_n dX1_copy_19 rfl rfl ?_
      obtain ⟨g_3, hf⟩ := gd_ex hf
      refine q_iaload dX1_copy_20 rfl (sf_1_0 o_other_0) g_3 ?_
      refine q_iastore dX1_copy_21 rfl (sf_1_0 o_o0) g_3 ?_
      obtain ⟨h_4, e_h_4, hf⟩ := nm_ex hf
      rw [← e_h_4]
      refine q_iinc (ls' := [(2, o0), (2, other_0), (0, w32 (p_2 + 1))]) dX1_copy_22 rfl rfl rfl ?_
      obtain ⟨p_5, e_p_5, hf⟩ := nm_ex hf
      rw [← e_p_5]
      refine q_goto (tgt := 2) dX1_copy_25 rfl (by decide) ?_
      exact ih _ _ hf
theorem S_X1_copy (X : XS) (o0 : Int) (o_o0 : okO 1 o0 = true) (other_0 : Int) (o_other_0 : okO 1 other_0 = true) (h : Mem) : CT X yX1_copy MX1_copy none 9 0 [(2, o0), (2, other_0)] h (F_X1_copy o0 other_0 h) := by
  refine CT.ofV (by decide) rfl (Nat.le_of_ble_eq_true rfl) (fun r hf => ?_)
  unfold F_X1_copy at hf
  show AJ X MX1_copy (rmD 0) 0 [(2, o0), (2, other_0), (3, 0)] [] h (PH 9 r)
  refine q_iconst dX1_copy_0 rfl rfl ?_
  refine q_istore_n (ls' := [(2, o0), (2, other_0), (0, 0)]) dX1_copy_1 rfl rfl (Nat.le_of_ble_eq_true rfl) rfl ?_
  refine SL_X1_copy_1 X other_0 o0 o_other_0 o_o0 _ (fun p_8 h_7 hf => ?_) FU _ _ hf
  refine q_aload_n dX1_copy_28 rfl rfl ?_
  refine q_aload_n dX1_copy_29 rfl rfl ?_
  refine g_get (k := 1) (kz := 1) dX1_copy_30 rfl fg_X1_15 rfl o_other_0 ?_
  refine g_put (k := 1) (kz := 1) dX1_copy_33 rfl fp_X1_15 rfl (fun q => q.1 rfl) o_o0 ?_
  obtain ⟨h_9, e_h_9, hf⟩ := nm_ex hf
  rw [← e_h_9]
  refine q_aload_n dX1_copy_36 rfl rfl ?_
  refine q_aload_n dX1_copy_37 rfl rfl ?_
  refine g_get (k := 2) (kz := 2) dX1_copy_38 rfl fg_X1_19 rfl o_other_0 ?_
  refine g_put (k := 2) (kz := 2) dX1_copy_41 rfl fp_X1_19 rfl (fun q => q.1 rfl) o_o0 ?_
  obtain ⟨h_10, e_h_10, hf⟩ := nm_ex hf
  rw [← e_h_10]
  refine q_aload_n dX1_copy_44 rfl rfl ?_
  refine q_aload_n dX1_copy_45 rfl rfl ?_
  refine g_get (k := 3) (kz := 3) dX1_copy_46 rfl fg_X1_22 rfl o_other_0 ?_
  refine g_put (k := 3) (kz := 3) dX1_copy_49 rfl fp_X1_22 rfl (fun q => q.1 rfl) o_o0 ?_
  obtain ⟨h_11, e_h_11, hf⟩ := nm_ex hf
  rw [← e_h_11]
  exact g_return dX1_copy_52 rfl hf
