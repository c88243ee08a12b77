abbrev MX0_forget : MD := (RX0, cX0_forget, 1)
theorem mf_X0_forget : MfV 0 yX0_forget MX0_forget none 0 := ⟨⟨_, _, rfl⟩, gt_of 516 (by decide +kernel) (by decide +kernel), gt_of 517 (by decide +kernel) (by decide +kernel), gt_of 72 (by decide +kernel) (by decide +kernel), gt_of 518 (by decide +kernel) (by decide +kernel), by decide +kernel, by decide⟩
abbrev MX0_hates : MD := (RX0, cX0_hates, 2)
theorem mf_X0_hates : MfV 0 yX0_hates MX0_hates (some .boolean) 1 := ⟨⟨_, _, rfl⟩, gt_of 569 (by decide +kernel) (by decide +kernel), gt_of 570 (by decide +kernel) (by decide +kernel), gt_of 72 (by decide +kernel) (by decide +kernel), gt_of 571 (by decide +kernel) (by decide +kernel), by decide +kernel, by decide⟩
abbrev MX1_hasPlace : MD := (RX1, cX1_hasPlace, 2)
theorem mf_X1_hasPlace : MfV 1 yX1_hasPlace MX1_hasPlace (some .boolean) 1 := ⟨⟨_, _, rfl⟩, gt_of 609 (by decide +kernel) (by decide +kernel), gt_of 610 (by decide +kernel) (by decide +kernel), gt_of 73 (by decide +kernel) (by decide +kernel), gt_of 611 (by decide +kernel) (by decide +kernel), by decide +kernel, by decide⟩
abbrev MX1_placeOf : MD := (RX1, cX1_placeOf, 3)
theorem mf_X1_placeOf : MfV 1 yX1_placeOf MX1_placeOf (some .int) 1 := ⟨⟨_, _, rfl⟩, gt_of 589 (by decide +kernel) (by decide +kernel), gt_of 590 (by decide +kernel) (by decide +kernel), gt_of 73 (by decide +kernel) (by decide +kernel), gt_of 591 (by decide +kernel) (by decide +kernel), by decide +kernel, by decide⟩
abbrev MX1_append : MD := (RX1, cX1_append, 2)
theorem mf_X1_append : MfV 1 yX1_append MX1_append none 1 := ⟨⟨_, _, rfl⟩, gt_of 593 (by decide +kernel) (by decide +kernel), gt_of 594 (by decide +kernel) (by decide +kernel), gt_of 73 (by decide +kernel) (by decide +kernel), gt_of 595 (by decide +kernel) (by decide +kernel), by decide +kernel, by decide⟩
abbrev MX1_strip : MD := (RX1, cX1_strip, 1)
theorem mf_X1_strip : MfV 1 yX1_strip MX1_strip none 0 := ⟨⟨_, _, rfl⟩, gt_of 548 (by decide +kernel) (by decide +kernel), gt_of 549 (by decide +kernel) (by decide +kernel), gt_of 73 (by decide +kernel) (by decide +kernel), gt_of 550 (by decide +kernel) (by decide +kernel), by decide +kernel, by decide⟩
abbrev MX1_bits : MD := (RX1, cX1_bits, 3)
theorem mf_X1_bits : MfV 1 yX1_bits MX1_bits (some .int) 0 := ⟨⟨_, _, rfl⟩, gt_of 754 (by decide +kernel) (by decide +kernel), gt_of 755 (by decide +kernel) (by decide +kernel), gt_of 73 (by decide +kernel) (by decide +kernel), gt_of 756 (by decide +kernel) (by decide +kernel), by decide +kernel, by decide⟩
abbrev MX1_draw : MD := (RX1, cX1_draw, 1)
theorem mf_X1_draw : MfV 1 yX1_draw MX1_draw (some .int) 0 := ⟨⟨_, _, rfl⟩, gt_of 845 (by decide +kernel) (by decide +kernel), gt_of 846 (by decide +kernel) (by decide +kernel), gt_of 73 (by decide +kernel) (by decide +kernel), gt_of 847 (by decide +kernel) (by decide +kernel), by decide +kernel, by decide⟩
abbrev MX1_copy : MD := (RX1, cX1_copy, 3)
theorem mf_X1_copy : MfV 1 yX1_copy MX1_copy none 1 := ⟨⟨_, _, rfl⟩, gt_of 891 (by decide +kernel) (by decide +kernel), gt_of 892 (by decide +kernel) (by decide +kernel), gt_of 73 (by decide +kernel) (by decide +kernel), gt_of 893 (by decide +kernel) (by decide +kernel), by decide +kernel, by decide⟩
theorem fp_X0_43 : FldP RX0 43 0 10 0 := ⟨_, _, _, rfl, by decide, gt_of 171 (by decide +kernel) (by decide +kernel), rfl, rfl, rfl, Or.inl rfl⟩
theorem fp_X0_40 : FldP RX0 40 0 9 0 := ⟨_, _, _, rfl, by decide, gt_of 168 (by decide +kernel) (by decide +kernel), rfl, rfl, rfl, Or.inl rfl⟩
theorem fp_X0_37 : FldP RX0 37 0 8 0 := ⟨_, _, _, rfl, by decide, gt_of 164 (by decide +kernel) (by decide +kernel), rfl, rfl, rfl, Or.inl rfl⟩
theorem fp_X0_34 : FldP RX0 34 0 7 0 := ⟨_, _, _, rfl, by decide, gt_of 160 (by decide +kernel) (by decide +kernel), rfl, rfl, rfl, Or.inl rfl⟩
theorem fp_X0_31 : FldP RX0 31 0 6 0 := ⟨_, _, _, rfl, by decide, gt_of 156 (by decide +kernel) (by decide +kernel), rfl, rfl, rfl, Or.inl rfl⟩
theorem fp_X0_28 : FldP RX0 28 0 5 0 := ⟨_, _, _, rfl, by decide, gt_of 152 (by decide +kernel) (by decide +kernel), rfl, rfl, rfl, Or.inl rfl⟩
theorem fp_X0_24 : FldP RX0 24 0 4 0 := ⟨_, _, _, rfl, by decide, gt_of 148 (by decide +kernel) (by decide +kernel), rfl, rfl, rfl, Or.inr (Or.inr (Or.inl rfl))⟩
theorem fp_X0_21 : FldP RX0 21 0 3 0 := ⟨_, _, _, rfl, by decide, gt_of 144 (by decide +kernel) (by decide +kernel), rfl, rfl, rfl, Or.inl rfl⟩
theorem fp_X0_18 : FldP RX0 18 0 2 0 := ⟨_, _, _, rfl, by decide, gt_of 140 (by decide +kernel) (by decide +kernel), rfl, rfl, rfl, Or.inl rfl⟩
theorem fp_X0_15 : FldP RX0 15 0 1 0 := ⟨_, _, _, rfl, by decide, gt_of 136 (by decide +kernel) (by decide +kernel), rfl, rfl, rfl, Or.inl rfl⟩
theorem fg_X0_43 : Fld RX0 43 0 10 0 := ⟨_, _, _, rfl, by decide, gt_of 171 (by decide +kernel) (by decide +kernel), rfl⟩
theorem fg_X1_15 : Fld RX1 15 1 1 0 := ⟨_, _, _, rfl, by decide, gt_of 214 (by decide +kernel) (by decide +kernel), rfl⟩
theorem fg_X1_9 : Fld RX1 9 1 0 2 := ⟨_, _, _, rfl, by decide, gt_of 212 (by decide +kernel) (by decide +kernel), rfl⟩
theorem fp_X1_15 : FldP RX1 15 1 1 0 := ⟨_, _, _, rfl, by decide, gt_of 214 (by decide +kernel) (by decide +kernel), rfl, rfl, rfl, Or.inl rfl⟩
theorem fp_X1_19 : FldP RX1 19 1 2 0 := ⟨_, _, _, rfl, by decide, gt_of 216 (by decide +kernel) (by decide +kernel), rfl, rfl, rfl, Or.inl rfl⟩
theorem fg_X1_22 : Fld RX1 22 1 3 0 := ⟨_, _, _, rfl, by decide, gt_of 219 (by decide +kernel) (by decide +kernel), rfl⟩
theorem kc_X1_25 : Cond.constant RX1 25 (1103515245) ∈ gtb := gt_of 848 (by decide +kernel) (by decide +kernel)
theorem fp_X1_22 : FldP RX1 22 1 3 0 := ⟨_, _, _, rfl, by decide, gt_of 219 (by decide +kernel) (by decide +kernel), rfl, rfl, rfl, Or.inl rfl⟩
theorem fg_X1_19 : Fld RX1 19 1 2 0 := ⟨_, _, _, rfl, by decide, gt_of 216 (by decide +kernel) (by decide +kernel), rfl⟩
def F_X0_forget (o0 : Int) (h : Mem) : Res := nm (wr h o0 1 0) (fun (h_1 : Mem) => nm (wr h_1 o0 2 0) (fun (h_2 : Mem) => nm (wr h_2 o0 3 0) (fun (h_3 : Mem) => nm (wr h_3 o0 4 0) (fun (h_4 : Mem) => nm (wr h_4 o0 5 0) (fun (h_5 : Mem) => nm (wr h_5 o0 6 0) (fun (h_6 : Mem) => nm (wr h_6 o0 7 0) (fun (h_7 : Mem) => nm (wr h_7 o0 8 0) (fun (h_8 : Mem) => nm (wr h_8 o0 9 0) (fun (h_9 : Mem) => nm (wr h_9 o0 10 0) (fun (h_10 : Mem) => some (0, h_10)))))))))))
def F_X0_hates (o0 other_0 : Int) (h : Mem) : Res := if ((iand (ishr (h o0 10) other_0) 1) = 1) then (some (1, h)) else (some (0, h))
def F_X1_hasPlace (o0 p_0 : Int) (h : Mem) : Res := if ((0 ≤ p_0) ∧ (p_0 < (h o0 1))) then (some (1, h)) else (some (0, h))
def L_X1_placeOf_1 (i_0 o0 : Int) (Kx : Int → Mem → Res) : Nat → Int → Mem → Res
  | 0, _, _ => none
  | n + 1, p_2, h_1 => if (p_2 < (h_1 o0 1)) then (gd (0 ≤ p_2 ∧ p_2 < 9) (if ((h_1 (o0 + 1) p_2) = i_0) then (some (p_2, h_1)) else (nm (w32 (p_2 + 1)) (fun p_5 => L_X1_placeOf_1 i_0 o0 Kx n p_5 h_1)))) else (Kx p_2 h_1)
def F_X1_placeOf (o0 i_0 : Int) (h : Mem) : Res := L_X1_placeOf_1 i_0 o0 (fun p_8 (h_7 : Mem) => some ((-9), h_7)) FU 0 h
def F_X1_append (o0 i_0 : Int) (h : Mem) : Res := if ((h o0 1) < 9) then (gd (0 ≤ (h o0 1) ∧ (h o0 1) < 9) (nm (wr h (o0 + 1) (h o0 1) i_0) (fun (h_2 : Mem) => nm (wr h_2 o0 1 (w32 ((h_2 o0 1) + 1))) (fun (h_3 : Mem) => some (0, h_3))))) else (some (0, h))
def F_X1_strip (o0 : Int) (h : Mem) : Res := nm (wr h o0 1 0) (fun (h_1 : Mem) => nm (wr h_1 o0 2 0) (fun (h_2 : Mem) => some (0, h_2)))
def L_X1_bits_1 (o0 : Int) (Kx : Int → Int → Mem → Res) : Nat → Int → Int → Mem → Res
  | 0, _, _, _ => none
  | n + 1, bits_2, p_3, h_1 => if (p_3 < (h_1 o0 1)) then (gd (0 ≤ p_3 ∧ p_3 < 9) (nm (ior bits_2 (ishl 1 (h_1 (o0 + 1) p_3))) (fun bits_5 => nm (w32 (p_3 + 1)) (fun p_6 => L_X1_bits_1 o0 Kx n bits_5 p_6 h_1)))) else (Kx bits_2 p_3 h_1)
def F_X1_bits (o0 : Int) (h : Mem) : Res := L_X1_bits_1 o0 (fun bits_9 p_10 (h_8 : Mem) => some (bits_9, h_8)) FU 0 0 h
def F_X1_draw (o0 : Int) (h : Mem) : Res := nm (wr h o0 3 (w32 ((w32 ((h o0 3) * 1103515245)) + 12345))) (fun (h_1 : Mem) => some (irm (iushr (h_1 o0 3) 16) 5, h_1))
def L_X1_copy_1 (other_0 o0 : Int) (Kx : Int → Mem → Res) : Nat → Int → Mem → Res
  | 0, _, _ => none
  | n + 1, p_2, h_1 => if (p_2 < (h_1 other_0 1)) then (gd (0 ≤ p_2 ∧ p_2 < 9) (nm (wr h_1 (o0 + 1) p_2 (h_1 (other_0 + 1) p_2)) (fun (h_4 : Mem) => nm (w32 (p_2 + 1)) (fun p_5 => L_X1_copy_1 other_0 o0 Kx n p_5 h_4)))) else (Kx p_2 h_1)
def F_X1_copy (o0 other_0 : Int) (h : Mem) : Res := L_X1_copy_1 other_0 o0 (fun p_8 (h_7 : Mem) => nm (wr h_7 o0 1 (h_7 other_0 1)) (fun (h_9 : Mem) => nm (wr h_9 o0 2 (h_9 other_0 2)) (fun (h_10 : Mem) => nm (wr h_10 o0 3 (h_10 other_0 3)) (fun (h_11 : Mem) => some (0, h_11))))) FU 0 h
theorem S_X0_forget (X : XS) (o0 : Int) (o_o0 : okO 0 o0 = true) (h : Mem) : CT X yX0_forget MX0_forget none 9 0 [(2, o0)] h (F_X0_forget o0 h) := by
  refine CT.ofV (by decide) rfl (Nat.le_of_ble_eq_true rfl) (fun r hf => ?_)
  unfold F_X0_forget at hf
  show AJ X MX0_forget (rmD 0) 0 [(2, o0)] [] h (PH 9 r)
  refine q_aload_n dX0_forget_0 rfl rfl ?_
  refine q_iconst dX0_forget_1 rfl rfl ?_
  refine g_put (k := 1) (kz := 1) dX0_forget_2 rfl fp_X0_15 rfl (fun q => q.1 rfl) o_o0 ?_
  obtain ⟨h_1, e_h_1, hf⟩ := nm_ex hf
  rw [← e_h_1]
  refine q_aload_n dX0_forget_5 rfl rfl ?_
  refine q_iconst dX0_forget_6 rfl rfl ?_
  refine g_put (k := 2) (kz := 2) dX0_forget_7 rfl fp_X0_18 rfl (fun q => q.1 rfl) o_o0 ?_
  obtain ⟨h_2, e_h_2, hf⟩ := nm_ex hf
  rw [← e_h_2]
  refine q_aload_n dX0_forget_10 rfl rfl ?_
  refine q_iconst dX0_forget_11 rfl rfl ?_
  refine g_put (k := 3) (kz := 3) dX0_forget_12 rfl fp_X0_21 rfl (fun q => q.1 rfl) o_o0 ?_
  obtain ⟨h_3, e_h_3, hf⟩ := nm_ex hf
  rw [← e_h_3]
  refine q_aload_n dX0_forget_15 rfl rfl ?_
  refine q_iconst dX0_forget_16 rfl rfl ?_
  refine g_put (k := 4) (kz := 4) dX0_forget_17 rfl fp_X0_24 rfl (fun _ => Or.inl rfl) o_o0 ?_
  obtain ⟨h_4, e_h_4, hf⟩ := nm_ex hf
  rw [← e_h_4]
  refine q_aload_n dX0_forget_20 rfl rfl ?_
  refine q_iconst dX0_forget_21 rfl rfl ?_
  refine g_put (k := 5) (kz := 5) dX0_forget_22 rfl fp_X0_28 rfl (fun q => q.1 rfl) o_o0 ?_
  obtain ⟨h_5, e_h_5, hf⟩ := nm_ex hf
  rw [← e_h_5]
  refine q_aload_n dX0_forget_25 rfl rfl ?_
  refine q_iconst dX0_forget_26 rfl rfl ?_
  refine g_put (k := 6) (kz := 6) dX0_forget_27 rfl fp_X0_31 rfl (fun q => q.1 rfl) o_o0 ?_
  obtain ⟨h_6, e_h_6, hf⟩ := nm_ex hf
  rw [← e_h_6]
  refine q_aload_n dX0_forget_30 rfl rfl ?_
  refine q_iconst dX0_forget_31 rfl rfl ?_
  refine g_put (k := 7) (kz := 7) dX0_forget_32 rfl fp_X0_34 rfl (fun q => q.1 rfl) o_o0 ?_
  obtain ⟨h_7, e_h_7, hf⟩ := nm_ex hf
  rw [← e_h_7]
  refine q_aload_n dX0_forget_35 rfl rfl ?_
  refine q_iconst dX0_forget_36 rfl rfl ?_
  refine g_put (k := 8) (kz := 8) dX0_forget_37 rfl fp_X0_37 rfl (fun q => q.1 rfl) o_o0 ?_
  obtain ⟨h_8, e_h_8, hf⟩ := nm_ex hf
  rw [← e_h_8]
  refine q_aload_n dX0_forget_40 rfl rfl ?_
  refine q_iconst dX0_forget_41 rfl rfl ?_
  refine g_put (k := 9) (kz := 9) dX0_forget_42 rfl fp_X0_40 rfl (fun q => q.1 rfl) o_o0 ?_
  obtain ⟨h_9, e_h_9, hf⟩ := nm_ex hf
  rw [← e_h_9]
  refine q_aload_n dX0_forget_45 rfl rfl ?_
  refine q_iconst dX0_forget_46 rfl rfl ?_
  refine g_put (k := 10) (kz := 10) dX0_forget_47 rfl fp_X0_43 rfl (fun q => q.1 rfl) o_o0 ?_
  obtain ⟨h_10, e_h_10, hf⟩ := nm_ex hf
  rw [← e_h_10]
  exact g_return dX0_forget_50 rfl hf
theorem S_X0_hates (X : XS) (o0 : Int) (o_o0 : okO 0 o0 = true) (other_0 : Int) (h : Mem) : CB X yX0_hates MX0_hates 0 [(2, o0), (0, other_0)] h (F_X0_hates o0 other_0 h) := by
  refine CB.of (by decide) rfl (Nat.le_of_ble_eq_true rfl) (fun r hf => ?_)
  unfold F_X0_hates at hf
  show AJ X MX0_hates (rmD 0) 0 [(2, o0), (0, other_0)] [] h (PB r)
  refine q_aload_n dX0_hates_0 rfl rfl ?_
  refine g_get (k := 10) (kz := 10) dX0_hates_1 rfl fg_X0_43 rfl o_o0 ?_
  refine q_iload_n dX0_hates_4 rfl rfl ?_
  refine q_ishr dX0_hates_5 rfl ?_
  refine q_iconst dX0_hates_6 rfl rfl ?_
  refine q_iand dX0_hates_7 rfl ?_
  refine q_iconst dX0_hates_8 rfl rfl ?_
  refine q_icmp_ne (tgt := 16) dX0_hates_9 rfl (by decide) (fun c_1 => ?_) (fun c_1 => ?_)
  · replace hf := it_f hf (by omega)
    refine q_iconst dX0_hates_16 rfl rfl ?_
    exact g_breturn dX0_hates_17 rfl (Or.inl rfl) hf
  · replace hf := it_t hf (by omega)
    refine q_iconst dX0_hates_12 rfl rfl ?_
    refine q_goto (tgt := 17) dX0_hates_13 rfl (by decide) ?_
    exact g_breturn dX0_hates_17 rfl (Or.inr rfl) hf
theorem S_X1_hasPlace (X : XS) (o0 : Int) (o_o0 : okO 1 o0 = true) (p_0 : Int) (h : Mem) : CB X yX1_hasPlace MX1_hasPlace 0 [(2, o0), (0, p_0)] h (F_X1_hasPlace o0 p_0 h) := by
  refine CB.of (by decide) rfl (Nat.le_of_ble_eq_true rfl) (fun r hf => ?_)
  unfold F_X1_hasPlace at hf
  show AJ X MX1_hasPlace (rmD 0) 0 [(2, o0), (0, p_0)] [] h (PB r)
  have HF_1 : ¬ ((0 ≤ p_0) ∧ (p_0 < (h o0 1))) → AJ X MX1_hasPlace (rmD 0) 16 [(2, o0), (0, p_0)] [] h (PB r) := by
    intro hc
    replace hf := it_f hf hc
    refine q_iconst dX1_hasPlace_16 rfl rfl ?_
    exact g_breturn dX1_hasPlace_17 rfl (Or.inl rfl) hf
  refine q_iload_n dX1_hasPlace_0 rfl rfl ?_
  refine q_if_lt (tgt := 16) dX1_hasPlace_1 rfl (by decide) (fun c_2 => ?_) (fun c_2 => ?_)
  · exact HF_1 (by omega)
  · refine q_iload_n dX1_hasPlace_4 rfl rfl ?_
    refine q_aload_n dX1_hasPlace_5 rfl rfl ?_
    refine g_get (k := 1) (kz := 1) dX1_hasPlace_6 rfl fg_X1_15 rfl o_o0 ?_
    refine q_icmp_ge (tgt := 16) dX1_hasPlace_9 rfl (by decide) (fun c_3 => ?_) (fun c_3 => ?_)
    · exact HF_1 (by omega)
    · replace hf := it_t hf (by omega)
      refine q_iconst dX1_hasPlace_12 rfl rfl ?_
      refine q_goto (tgt := 17) dX1_hasPlace_13 rfl (by decide) ?_
      exact g_breturn dX1_hasPlace_17 rfl (Or.inr rfl) hf
theorem SL_X1_placeOf_1 (X : XS) (i_0 o0 : Int) (o_o0 : okO 1 o0 = true) (Kx : Int → Mem → Res) {r : Int × Mem} (hK : ∀ (p_2 : Int) (h_1 : Mem), Kx p_2 h_1 = some r → AJ X MX1_placeOf (rmD 0) 28 [(2, o0), (0, i_0), (0, p_2)] [] h_1 (PH 0 r)) :
    ∀ (n : Nat) (p_2 : Int) (h_1 : Mem), L_X1_placeOf_1 i_0 o0 Kx n p_2 h_1 = some r → AJ X MX1_placeOf (rmD 0) 2 [(2, o0), (0, i_0), (0, p_2)] [] h_1 (PH 0 r) := by
  intro n
  induction n with
  | zero => intro p_2 h_1 hf; cases hf
  | succ n ih =>
    intro p_2 h_1 hf
    rw [L_X1_placeOf_1] at hf
    refine q_iload_n dX1_placeOf_2 rfl rfl ?_
    refine q_aload_n dX1_placeOf_3 rfl rfl ?_
    refine g_get (k := 1) (kz := 1) dX1_placeOf_4 rfl fg_X1_15 rfl o_o0 ?_
    refine q_icmp_ge (tgt := 28) dX1_placeOf_7 rfl (by decide) (fun c_6 => ?_) (fun c_6 => ?_)
    · replace hf := it_f hf (by omega)
      exact hK _ _ hf
    · replace hf := it_t hf (by omega)
      refine q_aload_n dX1_placeOf_10 rfl rfl ?_
      refine g_getF (k := 0) (o := 1) dX1_placeOf_11 rfl fg_X1_9 rfl o_o0 rfl ?_
      refine q_iload_n dX1_placeOf_14 rfl rfl ?_
      obtain ⟨g_3, hf⟩ := gd_ex hf
      refine q_iaload dX1_placeOf_15 rfl (sf_1_0 o_o0) g_3 ?_
      refine q_iload_n dX1_placeOf_16 rfl rfl ?_
      refine q_icmp_ne (tgt := 22) dX1_placeOf_17 rfl (by decide) (fun c_4 => ?_) (fun c_4 => ?_)
      · replace hf := it_f hf (by omega)
        refine q_iinc (ls' := [(2, o0), (0, i_0), (0, w32 (p_2 + 1))]) dX1_placeOf_22 rfl rfl rfl ?_
        obtain ⟨p_5, e_p_5, hf⟩ := nm_ex hf
        rw [← e_p_5]
        refine q_goto (tgt := 2) dX1_placeOf_25 rfl (by decide) ?_
        exact ih _ _ hf
      · replace hf := it_t hf (by omega)
        refine q_iload_n dX1_placeOf_20 rfl rfl ?_
        exact g_ireturn dX1_placeOf_21 rfl hf
theorem S_X1_placeOf (X : XS) (o0 : Int) (o_o0 : okO 1 o0 = true) (i_0 : Int) (h : Mem) : CT X yX1_placeOf MX1_placeOf (some .int) 0 0 [(2, o0), (0, i_0)] h (F_X1_placeOf o0 i_0 h) := by
  refine CT.ofI (by decide) rfl (Nat.le_of_ble_eq_true rfl) (fun r hf => ?_)
  unfold F_X1_placeOf at hf
  show AJ X MX1_placeOf (rmD 0) 0 [(2, o0), (0, i_0), (3, 0)] [] h (PH 0 r)
  refine q_iconst dX1_placeOf_0 rfl rfl ?_
  refine q_istore_n (ls' := [(2, o0), (0, i_0), (0, 0)]) dX1_placeOf_1 rfl rfl (Nat.le_of_ble_eq_true rfl) rfl ?_
  refine SL_X1_placeOf_1 X i_0 o0 o_o0 _ (fun p_8 h_7 hf => ?_) FU _ _ hf
  refine q_bipush dX1_placeOf_28 rfl (by decide) ?_
  exact g_ireturn dX1_placeOf_30 rfl hf
theorem S_X1_append (X : XS) (o0 : Int) (o_o0 : okO 1 o0 = true) (i_0 : Int) (h : Mem) : CT X yX1_append MX1_append none 9 0 [(2, o0), (0, i_0)] h (F_X1_append o0 i_0 h) := by
  refine CT.ofV (by decide) rfl (Nat.le_of_ble_eq_true rfl) (fun r hf => ?_)
  unfold F_X1_append at hf
  show AJ X MX1_append (rmD 0) 0 [(2, o0), (0, i_0)] [] h (PH 9 r)
  refine q_aload_n dX1_append_0 rfl rfl ?_
  refine g_get (k := 1) (kz := 1) dX1_append_1 rfl fg_X1_15 rfl o_o0 ?_
  refine q_bipush dX1_append_4 rfl (by decide) ?_
  refine q_icmp_ge (tgt := 29) dX1_append_6 rfl (by decide) (fun c_4 => ?_) (fun c_4 => ?_)
  · replace hf := it_f hf (by omega)
    exact g_return dX1_append_29 rfl hf
  · replace hf := it_t hf (by omega)
    refine q_aload_n dX1_append_9 rfl rfl ?_
    refine g_getF (k := 0) (o := 1) dX1_append_10 rfl fg_X1_9 rfl o_o0 rfl ?_
    refine q_aload_n dX1_append_13 rfl rfl ?_
    refine g_get (k := 1) (kz := 1) dX1_append_14 rfl fg_X1_15 rfl o_o0 ?_
    refine q_iload_n dX1_append_17 rfl rfl ?_
    obtain ⟨g_1, hf⟩ := gd_ex hf
    refine q_iastore dX1_append_18 rfl (sf_1_0 o_o0) g_1 ?_
    obtain ⟨h_2, e_h_2, hf⟩ := nm_ex hf
    rw [← e_h_2]
    refine q_aload_n dX1_append_19 rfl rfl ?_
    refine q_dup dX1_append_20 rfl (by decide) ?_
    refine g_get (k := 1) (kz := 1) dX1_append_21 rfl fg_X1_15 rfl o_o0 ?_
    refine q_iconst dX1_append_24 rfl rfl ?_
    refine q_iadd dX1_append_25 rfl ?_
    refine g_put (k := 1) (kz := 1) dX1_append_26 rfl fp_X1_15 rfl (fun q => q.1 rfl) o_o0 ?_
    obtain ⟨h_3, e_h_3, hf⟩ := nm_ex hf
    rw [← e_h_3]
    exact g_return dX1_append_29 rfl hf
theorem S_X1_strip (X : XS) (o0 : Int) (o_o0 : okO 1 o0 = true) (h : Mem) : CT X yX1_strip MX1_strip none 9 0 [(2, o0)] h (F_X1_strip o0 h) := by
  refine CT.ofV (by decide) rfl (Nat.le_of_ble_eq_true rfl) (fun r hf => ?_)
  unfold F_X1_strip at hf
  show AJ X MX1_strip (rmD 0) 0 [(2, o0)] [] h (PH 9 r)
  refine q_aload_n dX1_strip_0 rfl rfl ?_
  refine q_iconst dX1_strip_1 rfl rfl ?_
  refine g_put (k := 1) (kz := 1) dX1_strip_2 rfl fp_X1_15 rfl (fun q => q.1 rfl) o_o0 ?_
  obtain ⟨h_1, e_h_1, hf⟩ := nm_ex hf
  rw [← e_h_1]
  refine q_aload_n dX1_strip_5 rfl rfl ?_
  refine q_iconst dX1_strip_6 rfl rfl ?_
  refine g_put (k := 2) (kz := 2) dX1_strip_7 rfl fp_X1_19 rfl (fun q => q.1 rfl) o_o0 ?_
  obtain ⟨h_2, e_h_2, hf⟩ := nm_ex hf
  rw [← e_h_2]
  exact g_return dX1_strip_10 rfl hf
theorem SL_X1_bits_1 (X : XS) (o0 : Int) (o_o0 : okO 1 o0 = true) (Kx : Int → Int → Mem → Res) {r : Int × Mem} (hK : ∀ (bits_2 p_3 : Int) (h_1 : Mem), Kx bits_2 p_3 h_1 = some r → AJ X MX1_bits (rmD 0) 29 [(2, o0), (0, bits_2), (0, p_3)] [] h_1 (PH 0 r)) :
    ∀ (n : Nat) (bits_2 p_3 : Int) (h_1 : Mem), L_X1_bits_1 o0 Kx n bits_2 p_3 h_1 = some r → AJ X MX1_bits (rmD 0) 4 [(2, o0), (0, bits_2), (0, p_3)] [] h_1 (PH 0 r) := by
  intro n
  induction n with
  | zero => intro bits_2 p_3 h_1 hf; cases hf
  | succ n ih =>
    intro bits_2 p_3 h_1 hf
    rw [L_X1_bits_1] at hf
    refine q_iload_n dX1_bits_4 rfl rfl ?_
    refine q_aload_n dX1_bits_5 rfl rfl ?_
    refine g_get (k := 1) (kz := 1) dX1_bits_6 rfl fg_X1_15 rfl o_o0 ?_
    refine q_icmp_ge (tgt := 29) dX1_bits_9 rfl (by decide) (fun c_7 => ?_) (fun c_7 => ?_)
    · replace hf := it_f hf (by omega)
      exact hK _ _ _ hf
    · replace hf := it_t hf (by omega)
      refine q_iload_n dX1_bits_12 rfl rfl ?_
      refine q_iconst dX1_bits_13 rfl rfl ?_
      refine q_aload_n dX1_bits_14 rfl rfl ?_
      refine g_getF (k := 0) (o := 1) dX1_bits_15 rfl fg_X1_9 rfl o_o0 rfl ?_
      refine q_iload_n dX1_bits_18 rfl rfl ?_
      obtain ⟨g_4, hf⟩ := gd_ex hf
      refine q_iaload dX1_bits_19 rfl (sf_1_0 o_o0) g_4 ?_
      refine q_ishl dX1_bits_20 rfl ?_
      refine q_ior dX1_bits_21 rfl ?_
      obtain ⟨bits_5, e_bits_5, hf⟩ := nm_ex hf
      rw [← e_bits_5]
      refine q_istore_n (ls' := [(2, o0), (0, bits_5), (0, p_3)]) dX1_bits_22 rfl rfl (Nat.le_of_ble_eq_true rfl) rfl ?_
      refine q_iinc (ls' := [(2, o0), (0, bits_5), (0, w32 (p_3 + 1))]) dX1_bits_23 rfl rfl rfl ?_
      obtain ⟨p_6, e_p_6, hf⟩ := nm_ex hf
      rw [← e_p_6]
      refine q_goto (tgt := 4) dX1_bits_26 rfl (by decide) ?_
      exact ih _ _ _ hf
theorem S_X1_bits (X : XS) (o0 : Int) (o_o0 : okO 1 o0 = true) (h : Mem) : CT X yX1_bits MX1_bits (some .int) 0 0 [(2, o0)] h (F_X1_bits o0 h) := by
  refine CT.ofI (by decide) rfl (Nat.le_of_ble_eq_true rfl) (fun r hf => ?_)
  unfold F_X1_bits at hf
  show AJ X MX1_bits (rmD 0) 0 [(2, o0), (3, 0), (3, 0)] [] h (PH 0 r)
  refine q_iconst dX1_bits_0 rfl rfl ?_
  refine q_istore_n (ls' := [(2, o0), (0, 0), (3, 0)]) dX1_bits_1 rfl rfl (Nat.le_of_ble_eq_true rfl) rfl ?_
  refine q_iconst dX1_bits_2 rfl rfl ?_
  refine q_istore_n (ls' := [(2, o0), (0, 0), (0, 0)]) dX1_bits_3 rfl rfl (Nat.le_of_ble_eq_true rfl) rfl ?_
  refine SL_X1_bits_1 X o0 o_o0 _ (fun bits_9 p_10 h_8 hf => ?_) FU _ _ _ hf
  refine q_iload_n dX1_bits_29 rfl rfl ?_
  exact g_ireturn dX1_bits_30 rfl hf
theorem S_X1_draw (X : XS) (o0 : Int) (o_o0 : okO 1 o0 = true) (h : Mem) : CT X yX1_draw MX1_draw (some .int) 0 0 [(2, o0)] h (F_X1_draw o0 h) := by
  refine CT.ofI (by decide) rfl (Nat.le_of_ble_eq_true rfl) (fun r hf => ?_)
  unfold F_X1_draw at hf
  show AJ X MX1_draw (rmD 0) 0 [(2, o0)] [] h (PH 0 r)
  refine q_aload_n dX1_draw_0 rfl rfl ?_
  refine q_aload_n dX1_draw_1 rfl rfl ?_
  refine g_get (k := 3) (kz := 3) dX1_draw_2 rfl fg_X1_22 rfl o_o0 ?_
  refine q_ldc (z := 1103515245) dX1_draw_5 rfl kc_X1_25 (by decide +kernel) ?_
  refine q_imul dX1_draw_7 rfl ?_
  refine q_sipush dX1_draw_8 rfl (by decide) ?_
  refine q_iadd dX1_draw_11 rfl ?_
  refine g_put (k := 3) (kz := 3) dX1_draw_12 rfl fp_X1_22 rfl (fun q => q.1 rfl) o_o0 ?_
  obtain ⟨h_1, e_h_1, hf⟩ := nm_ex hf
  rw [← e_h_1]
  refine q_aload_n dX1_draw_15 rfl rfl ?_
  refine g_get (k := 3) (kz := 3) dX1_draw_16 rfl fg_X1_22 rfl o_o0 ?_
  refine q_bipush dX1_draw_19 rfl (by decide) ?_
  refine q_iushr dX1_draw_21 rfl ?_
  refine q_iconst dX1_draw_22 rfl rfl ?_
  refine q_irem dX1_draw_23 rfl (by decide) ?_
  exact g_ireturn dX1_draw_24 rfl hf
theorem SL_X1_copy_1 (X : XS) (other_0 o0 : Int) (o_other_0 : okO 1 other_0 = true) (o_o0 : okO 1 o0 = true) (Kx : Int → Mem → Res) {r : Int × Mem} (hK : ∀ (p_2 : Int) (h_1 : Mem), Kx p_2 h_1 = some r → AJ X MX1_copy (rmD 0) 28 [(2, o0), (2, other_0), (0, p_2)] [] h_1 (PH 9 r)) :
    ∀ (n : Nat) (p_2 : Int) (h_1 : Mem), L_X1_copy_1 other_0 o0 Kx n p_2 h_1 = some r → AJ X MX1_copy (rmD 0) 2 [(2, o0), (2, other_0), (0, p_2)] [] h_1 (PH 9 r) := by
  intro n
  induction n with
  | zero => intro p_2 h_1 hf; cases hf
  | succ n ih =>
    intro p_2 h_1 hf
    rw [L_X1_copy_1] at hf
    refine q_iload_n dX1_copy_2 rfl rfl ?_
    refine q_aload_n dX1_copy_3 rfl rfl ?_
    refine g_get (k := 1) (kz := 1) dX1_copy_4 rfl fg_X1_15 rfl o_other_0 ?_
    refine q_icmp_ge (tgt := 28) dX1_copy_7 rfl (by decide) (fun c_6 => ?_) (fun c_6 => ?_)
    · replace hf := it_f hf (by omega)
      exact hK _ _ hf
    · replace hf := it_t hf (by omega)
      refine q_aload_n dX1_copy_10 rfl rfl ?_
      refine g_getF (k := 0) (o := 1) dX1_copy_11 rfl fg_X1_9 rfl o_o0 rfl ?_
      refine q_iload_n dX1_copy_14 rfl rfl ?_
      refine q_aload_n dX1_copy_15 rfl rfl ?_
      refine g_getF (k := 0) (o := 1) dX1_copy_16 rfl fg_X1_9 rfl o_other_0 rfl ?_
      refine q_iload_n dX1_copy_19 rfl rfl ?_
      obtain ⟨g_3, hf⟩ := gd_ex hf
      refine q_iaload dX1_copy_20 rfl (sf_1_0 o_other_0) g_3 ?_
      refine q_iastore dX1_copy_21 rfl (sf_1_0 o_o0) g_3 ?_
      obtain ⟨h_4, e_h_4, hf⟩ := nm_ex hf
      rw [← e_h_4]
      refine q_iinc (ls' := [(2, o0), (2, other_0), (0, w32 (p_2 + 1))]) dX1_copy_22 rfl rfl rfl ?_
      obtain ⟨p_5, e_p_5, hf⟩ := nm_ex hf
      rw [← e_p_5]
      refine q_goto (tgt := 2) dX1_copy_25 rfl (by decide) ?_
      exact ih _ _ hf
theorem S_X1_copy (X : XS) (o0 : Int) (o_o0 : okO 1 o0 = true) (other_0 : Int) (o_other_0 : okO 1 other_0 = true) (h : Mem) : CT X yX1_copy MX1_copy none 9 0 [(2, o0), (2, other_0)] h (F_X1_copy o0 other_0 h) := by
  refine CT.ofV (by decide) rfl (Nat.le_of_ble_eq_true rfl) (fun r hf => ?_)
  unfold F_X1_copy at hf
  show AJ X MX1_copy (rmD 0) 0 [(2, o0), (2, other_0), (3, 0)] [] h (PH 9 r)
  refine q_iconst dX1_copy_0 rfl rfl ?_
  refine q_istore_n (ls' := [(2, o0), (2, other_0), (0, 0)]) dX1_copy_1 rfl rfl (Nat.le_of_ble_eq_true rfl) rfl ?_
  refine SL_X1_copy_1 X other_0 o0 o_other_0 o_o0 _ (fun p_8 h_7 hf => ?_) FU _ _ hf
  refine q_aload_n dX1_copy_28 rfl rfl ?_
  refine q_aload_n dX1_copy_29 rfl rfl ?_
  refine g_get (k := 1) (kz := 1) dX1_copy_30 rfl fg_X1_15 rfl o_other_0 ?_
  refine g_put (k := 1) (kz := 1) dX1_copy_33 rfl fp_X1_15 rfl (fun q => q.1 rfl) o_o0 ?_
  obtain ⟨h_9, e_h_9, hf⟩ := nm_ex hf
  rw [← e_h_9]
  refine q_aload_n dX1_copy_36 rfl rfl ?_
  refine q_aload_n dX1_copy_37 rfl rfl ?_
  refine g_get (k := 2) (kz := 2) dX1_copy_38 rfl fg_X1_19 rfl o_other_0 ?_
  refine g_put (k := 2) (kz := 2) dX1_copy_41 rfl fp_X1_19 rfl (fun q => q.1 rfl) o_o0 ?_
  obtain ⟨h_10, e_h_10, hf⟩ := nm_ex hf
  rw [← e_h_10]
  refine q_aload_n dX1_copy_44 rfl rfl ?_
  refine q_aload_n dX1_copy_45 rfl rfl ?_
  refine g_get (k := 3) (kz := 3) dX1_copy_46 rfl fg_X1_22 rfl o_other_0 ?_
  refine g_put (k := 3) (kz := 3) dX1_copy_49 rfl fp_X1_22 rfl (fun q => q.1 rfl) o_o0 ?_
  obtain ⟨h_11, e_h_11, hf⟩ := nm_ex hf
  rw [← e_h_11]
  exact g_return dX1_copy_52 rfl hf
