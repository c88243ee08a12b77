def F_X8_in (v_0 least_0 most_0 : Int) (h : Mem) : Res := if ((least_0 ≤ v_0) ∧ (v_0 ≤ most_0)) then (some (1, h)) else (some (0, h))
theorem S_X8_in (X : XS) (v_0 : Int) (least_0 : Int) (most_0 : Int) (h : Mem) : CB X yX8_in MX8_in 0 [(0, v_0), (0, least_0), (0, most_0)] h (F_X8_in v_0 least_0 most_0 h) := by
  refine CB.of (by decide) rfl (Nat.le_of_ble_eq_true rfl) (fun r hf => ?_)
  unfold F_X8_in at hf
  show AJ X MX8_in (rmD 0) 0 [(0, v_0), (0, least_0), (0, most_0)] [] h (PB r)
  have HF_1 : ¬ ((least_0 ≤ v_0) ∧ (v_0 ≤ most_0)) → AJ X MX8_in (rmD 0) 14 [(0, v_0), (0, least_0), (0, most_0)] [] h (PB r) := by
    intro hc
    replace hf := it_f hf hc
    refine q_iconst dX8_in_14 rfl rfl ?_
    exact g_breturn dX8_in_15 rfl (Or.inl rfl) hf
  refine q_iload_n dX8_in_0 rfl rfl ?_
  refine q_iload_n dX8_in_1 rfl rfl ?_
  refine q_icmp_lt (tgt := 14) dX8_in_2 rfl (by decide) (fun c_2 => ?_) (fun c_2 => ?_)
  · exact HF_1 (by omega)
  · refine q_iload_n dX8_in_5 rfl rfl ?_
    refine q_iload_n dX8_in_6 rfl rfl ?_
    refine q_icmp_gt (tgt := 14) dX8_in_7 rfl (by decide) (fun c_3 => ?_) (fun c_3 => ?_)
    · exact HF_1 (by omega)
    · replace hf := it_t hf (by omega)
      refine q_iconst dX8_in_10 rfl rfl ?_
      refine q_goto (tgt := 15) dX8_in_11 rfl (by decide) ?_
      exact g_breturn dX8_in_15 rfl (Or.inr rfl) hf
def F_X8_of (i_0 what_0 : Int) (h : Mem) : Res := gd (0 ≤ (w32 ((w32 (9 * i_0)) + what_0)) ∧ (w32 ((w32 (9 * i_0)) + what_0)) < 180) (some (h 58 (w32 ((w32 (9 * i_0)) + what_0)), h))
theorem S_X8_of (X : XS) (i_0 : Int) (what_0 : Int) (h : Mem) : CT X yX8_of MX8_of (some .int) 0 0 [(2, 56), (0, i_0), (0, what_0)] h (F_X8_of i_0 what_0 h) := by
  refine CT.ofI (by decide) rfl (Nat.le_of_ble_eq_true rfl) (fun r hf => ?_)
  unfold F_X8_of at hf
  show AJ X MX8_of (rmD 0) 0 [(2, 56), (0, i_0), (0, what_0)] [] h (PH 0 r)
  refine q_aload_n dX8_of_0 rfl rfl ?_
  refine g_getF (k := 9) (o := 2) (z := 58) dX8_of_1 rfl fg_X8_13 rfl rfl rfl ?_
  refine q_bipush dX8_of_4 rfl (by decide) ?_
  refine q_iload_n dX8_of_6 rfl rfl ?_
  refine q_imul dX8_of_7 rfl ?_
  refine q_iload_n dX8_of_8 rfl rfl ?_
  refine q_iadd dX8_of_9 rfl ?_
  obtain ⟨g_1, hf⟩ := gd_ex hf
  refine q_iaload dX8_of_10 rfl rfl g_1 ?_
  exact g_ireturn dX8_of_11 rfl hf
def L_X8_type_1 (v_0 n_0 : Int) (Kx : Int → Mem → Res) : Nat → Int → Mem → Res
  | 0, _, _ => none
  | n + 1, k_9, h_8 => if (0 ≤ k_9) then (gd (0 ≤ (h_8 56 3) ∧ (h_8 56 3) < 400) (nm (wr h_8 57 (h_8 56 3) (w32 (land (lshr v_0 (w32 (8 * k_9))) 255))) (fun (h_11 : Mem) => nm (wr h_11 56 3 (w32 ((h_11 56 3) + 1))) (fun (h_12 : Mem) => nm (w32 (k_9 + (-1))) (fun k_13 => L_X8_type_1 v_0 n_0 Kx n k_13 h_12))))) else (Kx k_9 h_8)
def F_X8_type (v_0 n_0 : Int) (h : Mem) : Res := nm (wr h 56 0 0) (fun (h_1 : Mem) => bd (F_X8_in n_0 1 8 h_1) (fun r_2 (h_3 : Mem) => if (¬ r_2 = 0) then (if (400 < (w32 ((h_3 56 3) + n_0))) then (some ((-3), h_3)) else (nm (w32 (n_0 - 1)) (fun k_7 => L_X8_type_1 v_0 n_0 (fun k_16 (h_15 : Mem) => some (h_15 56 3, h_15)) FU k_7 h_3))) else (some ((-1), h_3))))
theorem SL_X8_type_1 (X : XS) (v_0 n_0 : Int) (Kx : Int → Mem → Res) {r : Int × Mem} (hK : ∀ (k_9 : Int) (h_8 : Mem), Kx k_9 h_8 = some r → AJ X MX8_type (rmD 1) 79 [(2, 56), (1, v_0), (3, 0), (0, n_0), (0, k_9)] [] h_8 (PH 0 r)) :
    ∀ (n : Nat) (k_9 : Int) (h_8 : Mem), L_X8_type_1 v_0 n_0 Kx n k_9 h_8 = some r → AJ X MX8_type (rmD 1) 37 [(2, 56), (1, v_0), (3, 0), (0, n_0), (0, k_9)] [] h_8 (PH 0 r) := by
  intro n
  induction n with
  | zero => intro k_9 h_8 hf; cases hf
  | succ n ih =>
    intro k_9 h_8 hf
    rw [L_X8_type_1] at hf
    refine q_iload dX8_type_37 rfl rfl ?_
    refine q_if_lt (tgt := 79) dX8_type_39 rfl (by decide) (fun c_14 => ?_) (fun c_14 => ?_)
    · replace hf := it_f hf (by omega)
      exact hK _ _ hf
    · replace hf := it_t hf (by omega)
      refine q_aload_n dX8_type_42 rfl rfl ?_
      refine g_getF (k := 2) (o := 1) (z := 57) dX8_type_43 rfl fg_X8_7 rfl rfl rfl ?_
      refine q_aload_n dX8_type_46 rfl rfl ?_
      refine g_get (k := 3) (kz := 3) dX8_type_47 rfl fg_X8_76 rfl rfl ?_
      refine q_lload_n dX8_type_50 rfl rfl ?_
      refine q_bipush dX8_type_51 rfl (by decide) ?_
      refine q_iload dX8_type_53 rfl rfl ?_
      refine q_imul dX8_type_55 rfl ?_
      refine q_lshr dX8_type_56 rfl ?_
      refine q_ldc2 (z := 255) dX8_type_57 rfl kl_X8_79 (by decide +kernel) ?_
      refine q_land dX8_type_60 rfl ?_
      refine q_l2i dX8_type_61 rfl ?_
      obtain ⟨g_10, hf⟩ := gd_ex hf
      refine q_iastore dX8_type_62 rfl rfl g_10 ?_
      obtain ⟨h_11, e_h_11, hf⟩ := nm_ex hf
      rw [← e_h_11]
      refine q_aload_n dX8_type_63 rfl rfl ?_
      refine q_dup dX8_type_64 rfl (by decide) ?_
      refine g_get (k := 3) (kz := 3) dX8_type_65 rfl fg_X8_76 rfl rfl ?_
      refine q_iconst dX8_type_68 rfl rfl ?_
      refine q_iadd dX8_type_69 rfl ?_
      refine g_put (k := 3) (kz := 3) dX8_type_70 rfl fp_X8_76 rfl (fun q => q.1 rfl) rfl ?_
      obtain ⟨h_12, e_h_12, hf⟩ := nm_ex hf
      rw [← e_h_12]
      refine q_iinc (ls' := [(2, 56), (1, v_0), (3, 0), (0, n_0), (0, w32 (k_9 + (-1)))]) dX8_type_73 rfl rfl rfl ?_
      obtain ⟨k_13, e_k_13, hf⟩ := nm_ex hf
      rw [← e_k_13]
      refine q_goto (tgt := 37) dX8_type_76 rfl (by decide) ?_
      exact ih _ _ hf
theorem S_X8_type (X : XS) (v_0 : Int) (n_0 : Int) (h : Mem) : CT X yX8_type MX8_type (some .int) 0 1 [(2, 56), (1, v_0), (0, n_0)] h (F_X8_type v_0 n_0 h) := by
  refine CT.ofI (by decide) rfl (Nat.le_of_ble_eq_true rfl) (fun r hf => ?_)
  unfold F_X8_type at hf
  show AJ X MX8_type (rmD 1) 0 [(2, 56), (1, v_0), (3, 0), (0, n_0), (3, 0)] [] h (PH 0 r)
  refine q_aload_n dX8_type_0 rfl rfl ?_
  refine q_iconst dX8_type_1 rfl rfl ?_
  refine g_put (k := 0) (kz := 0) dX8_type_2 rfl fp_X8_68 rfl (fun q => q.1 rfl) rfl ?_
  obtain ⟨h_1, e_h_1, hf⟩ := nm_ex hf
  rw [← e_h_1]
  refine q_iload_n dX8_type_5 rfl rfl ?_
  refine q_iconst dX8_type_6 rfl rfl ?_
  refine q_bipush dX8_type_7 rfl (by decide) ?_
  obtain ⟨r_2, h_3, e_4, hf⟩ := bd_ex hf
  refine g_Sb (vs := [(0, n_0), (0, 1), (0, 8)]) (st := []) dX8_type_9 rfl (S_X8_in X n_0 1 8 h_1) e_4 mf_X8_in ml_X8_72 rfl rfl rfl (fun b_5 => ?_)
  refine q_if_ne (tgt := 17) dX8_type_12 rfl (by decide) (fun c_6 => ?_) (fun c_6 => ?_)
  · replace hf := it_t hf (by omega)
    refine q_aload_n dX8_type_17 rfl rfl ?_
    refine g_get (k := 3) (kz := 3) dX8_type_18 rfl fg_X8_76 rfl rfl ?_
    refine q_iload_n dX8_type_21 rfl rfl ?_
    refine q_iadd dX8_type_22 rfl ?_
    refine q_sipush dX8_type_23 rfl (by decide) ?_
    refine q_icmp_le (tgt := 32) dX8_type_26 rfl (by decide) (fun c_17 => ?_) (fun c_17 => ?_)
    · replace hf := it_f hf (by omega)
      refine q_iload_n dX8_type_32 rfl rfl ?_
      refine q_iconst dX8_type_33 rfl rfl ?_
      refine q_isub dX8_type_34 rfl ?_
      obtain ⟨k_7, e_k_7, hf⟩ := nm_ex hf
      rw [← e_k_7]
      refine q_istore (ls' := [(2, 56), (1, v_0), (3, 0), (0, n_0), (0, k_7)]) dX8_type_35 rfl (Nat.le_of_ble_eq_true rfl) rfl ?_
      refine SL_X8_type_1 X v_0 n_0  _ (fun k_16 h_15 hf => ?_) FU _ _ hf
      refine q_aload_n dX8_type_79 rfl rfl ?_
      refine g_get (k := 3) (kz := 3) dX8_type_80 rfl fg_X8_76 rfl rfl ?_
      exact g_ireturn dX8_type_83 rfl hf
    · replace hf := it_t hf (by omega)
      refine q_bipush dX8_type_29 rfl (by decide) ?_
      exact g_ireturn dX8_type_31 rfl hf
  · replace hf := it_f hf (by omega)
    refine q_iconst dX8_type_15 rfl rfl ?_
    exact g_ireturn dX8_type_16 rfl hf
def F_X8_clear (h : Mem) : Res := nm (wr h 56 0 0) (fun (h_1 : Mem) => nm (h_1 56 3) (fun was_2 => nm (wr h_1 56 3 0) (fun (h_3 : Mem) => some (was_2, h_3))))
theorem S_X8_clear (X : XS) (h : Mem) : CT X yX8_clear MX8_clear (some .int) 0 0 [(2, 56)] h (F_X8_clear h) := by
  refine CT.ofI (by decide) rfl (Nat.le_of_ble_eq_true rfl) (fun r hf => ?_)
  unfold F_X8_clear at hf
  show AJ X MX8_clear (rmD 0) 0 [(2, 56), (3, 0)] [] h (PH 0 r)
  refine q_aload_n dX8_clear_0 rfl rfl ?_
  refine q_iconst dX8_clear_1 rfl rfl ?_
  refine g_put (k := 0) (kz := 0) dX8_clear_2 rfl fp_X8_68 rfl (fun q => q.1 rfl) rfl ?_
  obtain ⟨h_1, e_h_1, hf⟩ := nm_ex hf
  rw [← e_h_1]
  refine q_aload_n dX8_clear_5 rfl rfl ?_
  refine g_get (k := 3) (kz := 3) dX8_clear_6 rfl fg_X8_76 rfl rfl ?_
  obtain ⟨was_2, e_was_2, hf⟩ := nm_ex hf
  rw [← e_was_2]
  refine q_istore_n (ls' := [(2, 56), (0, was_2)]) dX8_clear_9 rfl rfl (Nat.le_of_ble_eq_true rfl) rfl ?_
  refine q_aload_n dX8_clear_10 rfl rfl ?_
  refine q_iconst dX8_clear_11 rfl rfl ?_
  refine g_put (k := 3) (kz := 3) dX8_clear_12 rfl fp_X8_76 rfl (fun q => q.1 rfl) rfl ?_
  obtain ⟨h_3, e_h_3, hf⟩ := nm_ex hf
  rw [← e_h_3]
  refine q_iload_n dX8_clear_15 rfl rfl ?_
  exact g_ireturn dX8_clear_16 rfl hf
def F_X8_byteAt (k_0 : Int) (h : Mem) : Res := if (k_0 < (h 56 3)) then (gd (0 ≤ k_0 ∧ k_0 < 400) (some (h 57 k_0, h))) else (some ((-1), h))
theorem S_X8_byteAt (X : XS) (k_0 : Int) (h : Mem) : CT X yX8_byteAt MX8_byteAt (some .int) 0 0 [(2, 56), (0, k_0)] h (F_X8_byteAt k_0 h) := by
  refine CT.ofI (by decide) rfl (Nat.le_of_ble_eq_true rfl) (fun r hf => ?_)
  unfold F_X8_byteAt at hf
  show AJ X MX8_byteAt (rmD 0) 0 [(2, 56), (0, k_0)] [] h (PH 0 r)
  refine q_iload_n dX8_byteAt_0 rfl rfl ?_
  refine q_aload_n dX8_byteAt_1 rfl rfl ?_
  refine g_get (k := 3) (kz := 3) dX8_byteAt_2 rfl fg_X8_76 rfl rfl ?_
  refine q_icmp_ge (tgt := 17) dX8_byteAt_5 rfl (by decide) (fun c_2 => ?_) (fun c_2 => ?_)
  · replace hf := it_f hf (by omega)
    refine q_iconst dX8_byteAt_17 rfl rfl ?_
    exact g_ireturn dX8_byteAt_18 rfl hf
  · replace hf := it_t hf (by omega)
    refine q_aload_n dX8_byteAt_8 rfl rfl ?_
    refine g_getF (k := 2) (o := 1) (z := 57) dX8_byteAt_9 rfl fg_X8_7 rfl rfl rfl ?_
    refine q_iload_n dX8_byteAt_12 rfl rfl ?_
    obtain ⟨g_1, hf⟩ := gd_ex hf
    refine q_iaload dX8_byteAt_13 rfl rfl g_1 ?_
    refine q_goto (tgt := 18) dX8_byteAt_14 rfl (by decide) ?_
    exact g_ireturn dX8_byteAt_18 rfl hf
def F_X8_add (name_0 c_0 : Int) (h : Mem) : Res := if (c_0 = 0) then (some (name_0, h)) else (some (w64 ((w64 (256 * name_0)) + c_0), h))
theorem S_X8_add (X : XS) (name_0 : Int) (c_0 : Int) (h : Mem) : CT X yX8_add MX8_add (some .long) 1 0 [(1, name_0), (0, c_0)] h (F_X8_add name_0 c_0 h) := by
  refine CT.ofL (by decide) rfl (Nat.le_of_ble_eq_true rfl) (fun r hf => ?_)
  unfold F_X8_add at hf
  show AJ X MX8_add (rmD 0) 0 [(1, name_0), (3, 0), (0, c_0)] [] h (PH 1 r)
  refine q_iload_n dX8_add_0 rfl rfl ?_
  refine q_if_ne (tgt := 8) dX8_add_1 rfl (by decide) (fun c_1 => ?_) (fun c_1 => ?_)
  · replace hf := it_f hf (by omega)
    refine q_ldc2 (z := 256) dX8_add_8 rfl kl_X8_81 (by decide +kernel) ?_
    refine q_lload_n dX8_add_11 rfl rfl ?_
    refine q_lmul dX8_add_12 rfl ?_
    refine q_iload_n dX8_add_13 rfl rfl ?_
    refine q_i2l dX8_add_14 rfl ?_
    refine q_ladd dX8_add_15 rfl ?_
    exact g_lreturn dX8_add_16 rfl hf
  · replace hf := it_t hf (by omega)
    refine q_lload_n dX8_add_4 rfl rfl ?_
    refine q_goto (tgt := 16) dX8_add_5 rfl (by decide) ?_
    exact g_lreturn dX8_add_16 rfl hf
def F_X8_word (a_0 b_0 c_0 d_0 e_0 : Int) (h : Mem) : Res := bd (F_X8_add 0 a_0 h) (fun r_1 (h_2 : Mem) => bd (F_X8_add r_1 b_0 h_2) (fun r_4 (h_5 : Mem) => bd (F_X8_add r_4 c_0 h_5) (fun r_7 (h_8 : Mem) => bd (F_X8_add r_7 d_0 h_8) (fun r_10 (h_11 : Mem) => bd (F_X8_add r_10 e_0 h_11) (fun r_13 (h_14 : Mem) => some (r_13, h_14))))))
theorem S_X8_word (X : XS) (a_0 : Int) (b_0 : Int) (c_0 : Int) (d_0 : Int) (e_0 : Int) (h : Mem) : CT X yX8_word MX8_word (some .long) 1 1 [(0, a_0), (0, b_0), (0, c_0), (0, d_0), (0, e_0)] h (F_X8_word a_0 b_0 c_0 d_0 e_0 h) := by
  refine CT.ofL (by decide) rfl (Nat.le_of_ble_eq_true rfl) (fun r hf => ?_)
  unfold F_X8_word at hf
  show AJ X MX8_word (rmD 1) 0 [(0, a_0), (0, b_0), (0, c_0), (0, d_0), (0, e_0)] [] h (PH 1 r)
  refine q_lconst0 dX8_word_0 rfl ?_
  refine q_iload_n dX8_word_1 rfl rfl ?_
  obtain ⟨r_1, h_2, e_3, hf⟩ := bd_ex hf
  refine g_Sl (vs := [(1, 0), (0, a_0)]) (st := []) dX8_word_2 rfl (S_X8_add X 0 a_0 h) e_3 mf_X8_add ml_X8_83 rfl rfl rfl ?_
  refine q_iload_n dX8_word_5 rfl rfl ?_
  obtain ⟨r_4, h_5, e_6, hf⟩ := bd_ex hf
  refine g_Sl (vs := [(1, r_1), (0, b_0)]) (st := []) dX8_word_6 rfl (S_X8_add X r_1 b_0 h_2) e_6 mf_X8_add ml_X8_83 rfl rfl rfl ?_
  refine q_iload_n dX8_word_9 rfl rfl ?_
  obtain ⟨r_7, h_8, e_9, hf⟩ := bd_ex hf
  refine g_Sl (vs := [(1, r_4), (0, c_0)]) (st := []) dX8_word_10 rfl (S_X8_add X r_4 c_0 h_5) e_9 mf_X8_add ml_X8_83 rfl rfl rfl ?_
  refine q_iload_n dX8_word_13 rfl rfl ?_
  obtain ⟨r_10, h_11, e_12, hf⟩ := bd_ex hf
  refine g_Sl (vs := [(1, r_7), (0, d_0)]) (st := []) dX8_word_14 rfl (S_X8_add X r_7 d_0 h_8) e_12 mf_X8_add ml_X8_83 rfl rfl rfl ?_
  refine q_iload dX8_word_17 rfl rfl ?_
  obtain ⟨r_13, h_14, e_15, hf⟩ := bd_ex hf
  refine g_Sl (vs := [(1, r_10), (0, e_0)]) (st := []) dX8_word_19 rfl (S_X8_add X r_10 e_0 h_11) e_15 mf_X8_add ml_X8_83 rfl rfl rfl ?_
  exact g_lreturn dX8_word_22 rfl hf
def F_X8_wordOf (v_0 : Int) (h : Mem) : Res := jn (fun (K_1 : Int → Mem → Res) => bd (F_X8_word 97 99 116 0 0 h) (fun r_2 (h_3 : Mem) => if (v_0 = r_2) then (K_1 0 h_3) else (jn (fun (K_6 : Int → Mem → Res) => bd (F_X8_word 102 114 111 110 116 h_3) (fun r_7 (h_8 : Mem) => if (v_0 = r_7) then (K_6 1 h_8) else (jn (fun (K_11 : Int → Mem → Res) => bd (F_X8_word 115 101 116 0 0 h_8) (fun r_12 (h_13 : Mem) => if (v_0 = r_12) then (K_11 2 h_13) else (jn (fun (K_16 : Int → Mem → Res) => bd (F_X8_word 115 97 100 0 0 h_13) (fun r_17 (h_18 : Mem) => if (v_0 = r_17) then (K_16 3 h_18) else (K_16 (-9) h_18))) (fun v_22 (h_21 : Mem) => K_11 v_22 h_21)))) (fun v_24 (h_23 : Mem) => K_6 v_24 h_23)))) (fun v_26 (h_25 : Mem) => K_1 v_26 h_25)))) (fun v_28 (h_27 : Mem) => if (¬ v_28 = (-9)) then (some (v_28, h_27)) else (bd (F_X8_word 108 111 117 100 0 h_27) (fun r_29 (h_30 : Mem) => if (v_0 = r_29) then (some (4, h_30)) else (bd (F_X8_word 116 114 97 105 110 h_30) (fun r_33 (h_34 : Mem) => if (v_0 = r_33) then (some (5, h_34)) else (bd (F_X8_word 102 101 117 100 0 h_34) (fun r_37 (h_38 : Mem) => if (v_0 = r_37) then (some (6, h_38)) else (some ((-9), h_38)))))))))
theorem S_X8_wordOf (X : XS) (v_0 : Int) (h : Mem) : CT X yX8_wordOf MX8_wordOf (some .int) 0 2 [(1, v_0)] h (F_X8_wordOf v_0 h) := by
  refine CT.ofI (by decide) rfl (Nat.le_of_ble_eq_true rfl) (fun r hf => ?_)
  unfold F_X8_wordOf at hf
  show AJ X MX8_wordOf (rmD 2) 0 [(1, v_0), (3, 0), (3, 0)] [] h (PH 0 r)
  obtain ⟨K_1, J_K_1, hf⟩ := jn_ex (P := fun K => ∀ (v_28 : Int) (h_27 : Mem), K v_28 h_27 = some r → AJ X MX8_wordOf (rmD 2) 84 [(1, v_0), (3, 0), (3, 0)] [(0, v_28)] h_27 (PH 0 r)) hf (by
      intro v_28 h_27 hf
      refine q_istore_n (ls' := [(1, v_0), (3, 0), (0, v_28)]) dX8_wordOf_84 rfl rfl (Nat.le_of_ble_eq_true rfl) rfl ?_
      refine q_iload_n dX8_wordOf_85 rfl rfl ?_
      refine q_bipush dX8_wordOf_86 rfl (by decide) ?_
      refine q_icmp_eq (tgt := 95) dX8_wordOf_88 rfl (by decide) (fun c_41 => ?_) (fun c_41 => ?_)
      · replace hf := it_f hf (by omega)
        refine q_lload_n dX8_wordOf_95 rfl rfl ?_
        refine q_bipush dX8_wordOf_96 rfl (by decide) ?_
        refine q_bipush dX8_wordOf_98 rfl (by decide) ?_
        refine q_bipush dX8_wordOf_100 rfl (by decide) ?_
        refine q_bipush dX8_wordOf_102 rfl (by decide) ?_
        refine q_iconst dX8_wordOf_104 rfl rfl ?_
        obtain ⟨r_29, h_30, e_31, hf⟩ := bd_ex hf
        refine g_Sl (vs := [(0, 108), (0, 111), (0, 117), (0, 100), (0, 0)]) (st := [(1, v_0)]) dX8_wordOf_105 rfl (S_X8_word X 108 111 117 100 0 h_27) e_31 mf_X8_word ml_X8_87 rfl rfl rfl ?_
        refine q_lcmp dX8_wordOf_108 rfl ?_
        have lc := lcmp_iff v_0 r_29
        refine q_if_ne (tgt := 116) dX8_wordOf_109 rfl (by decide) (fun c_32 => ?_) (fun c_32 => ?_)
        · replace hf := it_f hf (by omega)
          refine q_lload_n dX8_wordOf_116 rfl rfl ?_
          refine q_bipush dX8_wordOf_117 rfl (by decide) ?_
          refine q_bipush dX8_wordOf_119 rfl (by decide) ?_
          refine q_bipush dX8_wordOf_121 rfl (by decide) ?_
          refine q_bipush dX8_wordOf_123 rfl (by decide) ?_
          refine q_bipush dX8_wordOf_125 rfl (by decide) ?_
          obtain ⟨r_33, h_34, e_35, hf⟩ := bd_ex hf
          refine g_Sl (vs := [(0, 116), (0, 114), (0, 97), (0, 105), (0, 110)]) (st := [(1, v_0)]) dX8_wordOf_127 rfl (S_X8_word X 116 114 97 105 110 h_30) e_35 mf_X8_word ml_X8_87 rfl rfl rfl ?_
          refine q_lcmp dX8_wordOf_130 rfl ?_
          have lc := lcmp_iff v_0 r_33
          refine q_if_ne (tgt := 138) dX8_wordOf_131 rfl (by decide) (fun c_36 => ?_) (fun c_36 => ?_)
          · replace hf := it_f hf (by omega)
            refine q_lload_n dX8_wordOf_138 rfl rfl ?_
            refine q_bipush dX8_wordOf_139 rfl (by decide) ?_
            refine q_bipush dX8_wordOf_141 rfl (by decide) ?_
            refine q_bipush dX8_wordOf_143 rfl (by decide) ?_
            refine q_bipush dX8_wordOf_145 rfl (by decide) ?_
            refine q_iconst dX8_wordOf_147 rfl rfl ?_
            obtain ⟨r_37, h_38, e_39, hf⟩ := bd_ex hf
            refine g_Sl (vs := [(0, 102), (0, 101), (0, 117), (0, 100), (0, 0)]) (st := [(1, v_0)]) dX8_wordOf_148 rfl (S_X8_word X 102 101 117 100 0 h_34) e_39 mf_X8_word ml_X8_87 rfl rfl rfl ?_
            refine q_lcmp dX8_wordOf_151 rfl ?_
            have lc := lcmp_iff v_0 r_37
            refine q_if_ne (tgt := 160) dX8_wordOf_152 rfl (by decide) (fun c_40 => ?_) (fun c_40 => ?_)
            · replace hf := it_f hf (by omega)
              refine q_bipush dX8_wordOf_160 rfl (by decide) ?_
              exact g_ireturn dX8_wordOf_162 rfl hf
            · replace hf := it_t hf (by omega)
              refine q_bipush dX8_wordOf_155 rfl (by decide) ?_
              refine q_goto (tgt := 162) dX8_wordOf_157 rfl (by decide) ?_
              exact g_ireturn dX8_wordOf_162 rfl hf
          · replace hf := it_t hf (by omega)
            refine q_iconst dX8_wordOf_134 rfl rfl ?_
            refine q_goto (tgt := 162) dX8_wordOf_135 rfl (by decide) ?_
            exact g_ireturn dX8_wordOf_162 rfl hf
        · replace hf := it_t hf (by omega)
          refine q_iconst dX8_wordOf_112 rfl rfl ?_
          refine q_goto (tgt := 162) dX8_wordOf_113 rfl (by decide) ?_
          exact g_ireturn dX8_wordOf_162 rfl hf
      · replace hf := it_t hf (by omega)
        refine q_iload_n dX8_wordOf_91 rfl rfl ?_
        refine q_goto (tgt := 162) dX8_wordOf_92 rfl (by decide) ?_
        exact g_ireturn dX8_wordOf_162 rfl hf)
  refine q_lload_n dX8_wordOf_0 rfl rfl ?_
  refine q_bipush dX8_wordOf_1 rfl (by decide) ?_
  refine q_bipush dX8_wordOf_3 rfl (by decide) ?_
  refine q_bipush dX8_wordOf_5 rfl (by decide) ?_
  refine q_iconst dX8_wordOf_7 rfl rfl ?_
  refine q_iconst dX8_wordOf_8 rfl rfl ?_
  obtain ⟨r_2, h_3, e_4, hf⟩ := bd_ex hf
  refine g_Sl (vs := [(0, 97), (0, 99), (0, 116), (0, 0), (0, 0)]) (st := [(1, v_0)]) dX8_wordOf_9 rfl (S_X8_word X 97 99 116 0 0 h) e_4 mf_X8_word ml_X8_87 rfl rfl rfl ?_
  refine q_lcmp dX8_wordOf_12 rfl ?_
  have lc := lcmp_iff v_0 r_2
  refine q_if_ne (tgt := 20) dX8_wordOf_13 rfl (by decide) (fun c_5 => ?_) (fun c_5 => ?_)
  · replace hf := it_f hf (by omega)
    obtain ⟨K_6, J_K_6, hf⟩ := jn_ex (P := fun K => ∀ (v_26 : Int) (h_25 : Mem), K v_26 h_25 = some r → AJ X MX8_wordOf (rmD 2) 84 [(1, v_0), (3, 0), (3, 0)] [(0, v_26)] h_25 (PH 0 r)) hf (by
        intro v_26 h_25 hf
        exact J_K_1 _ _ hf)
    refine q_lload_n dX8_wordOf_20 rfl rfl ?_
    refine q_bipush dX8_wordOf_21 rfl (by decide) ?_
    refine q_bipush dX8_wordOf_23 rfl (by decide) ?_
    refine q_bipush dX8_wordOf_25 rfl (by decide) ?_
    refine q_bipush dX8_wordOf_27 rfl (by decide) ?_
    refine q_bipush dX8_wordOf_29 rfl (by decide) ?_
    obtain ⟨r_7, h_8, e_9, hf⟩ := bd_ex hf
    refine g_Sl (vs := [(0, 102), (0, 114), (0, 111), (0, 110), (0, 116)]) (st := [(1, v_0)]) dX8_wordOf_31 rfl (S_X8_word X 102 114 111 110 116 h_3) e_9 mf_X8_word ml_X8_87 rfl rfl rfl ?_
    refine q_lcmp dX8_wordOf_34 rfl ?_
    have lc := lcmp_iff v_0 r_7
    refine q_if_ne (tgt := 42) dX8_wordOf_35 rfl (by decide) (fun c_10 => ?_) (fun c_10 => ?_)
    · replace hf := it_f hf (by omega)
      obtain ⟨K_11, J_K_11, hf⟩ := jn_ex (P := fun K => ∀ (v_24 : Int) (h_23 : Mem), K v_24 h_23 = some r → AJ X MX8_wordOf (rmD 2) 84 [(1, v_0), (3, 0), (3, 0)] [(0, v_24)] h_23 (PH 0 r)) hf (by
          intro v_24 h_23 hf
          exact J_K_6 _ _ hf)
      refine q_lload_n dX8_wordOf_42 rfl rfl ?_
      refine q_bipush dX8_wordOf_43 rfl (by decide) ?_
      refine q_bipush dX8_wordOf_45 rfl (by decide) ?_
      refine q_bipush dX8_wordOf_47 rfl (by decide) ?_
      refine q_iconst dX8_wordOf_49 rfl rfl ?_
      refine q_iconst dX8_wordOf_50 rfl rfl ?_
      obtain ⟨r_12, h_13, e_14, hf⟩ := bd_ex hf
      refine g_Sl (vs := [(0, 115), (0, 101), (0, 116), (0, 0), (0, 0)]) (st := [(1, v_0)]) dX8_wordOf_51 rfl (S_X8_word X 115 101 116 0 0 h_8) e_14 mf_X8_word ml_X8_87 rfl rfl rfl ?_
      refine q_lcmp dX8_wordOf_54 rfl ?_
      have lc := lcmp_iff v_0 r_12
      refine q_if_ne (tgt := 62) dX8_wordOf_55 rfl (by decide) (fun c_15 => ?_) (fun c_15 => ?_)
      · replace hf := it_f hf (by omega)
        obtain ⟨K_16, J_K_16, hf⟩ := jn_ex (P := fun K => ∀ (v_22 : Int) (h_21 : Mem), K v_22 h_21 = some r → AJ X MX8_wordOf (rmD 2) 84 [(1, v_0), (3, 0), (3, 0)] [(0, v_22)] h_21 (PH 0 r)) hf (by
            intro v_22 h_21 hf
            exact J_K_11 _ _ hf)
        refine q_lload_n dX8_wordOf_62 rfl rfl ?_
        refine q_bipush dX8_wordOf_63 rfl (by decide) ?_
        refine q_bipush dX8_wordOf_65 rfl (by decide) ?_
        refine q_bipush dX8_wordOf_67 rfl (by decide) ?_
        refine q_iconst dX8_wordOf_69 rfl rfl ?_
        refine q_iconst dX8_wordOf_70 rfl rfl ?_
        obtain ⟨r_17, h_18, e_19, hf⟩ := bd_ex hf
        refine g_Sl (vs := [(0, 115), (0, 97), (0, 100), (0, 0), (0, 0)]) (st := [(1, v_0)]) dX8_wordOf_71 rfl (S_X8_word X 115 97 100 0 0 h_13) e_19 mf_X8_word ml_X8_87 rfl rfl rfl ?_
        refine q_lcmp dX8_wordOf_74 rfl ?_
        have lc := lcmp_iff v_0 r_17
        refine q_if_ne (tgt := 82) dX8_wordOf_75 rfl (by decide) (fun c_20 => ?_) (fun c_20 => ?_)
        · replace hf := it_f hf (by omega)
          refine q_bipush dX8_wordOf_82 rfl (by decide) ?_
          exact J_K_16 _ _ hf
        · replace hf := it_t hf (by omega)
          refine q_iconst dX8_wordOf_78 rfl rfl ?_
          refine q_goto (tgt := 84) dX8_wordOf_79 rfl (by decide) ?_
          exact J_K_16 _ _ hf
      · replace hf := it_t hf (by omega)
        refine q_iconst dX8_wordOf_58 rfl rfl ?_
        refine q_goto (tgt := 84) dX8_wordOf_59 rfl (by decide) ?_
        exact J_K_11 _ _ hf
    · replace hf := it_t hf (by omega)
      refine q_iconst dX8_wordOf_38 rfl rfl ?_
      refine q_goto (tgt := 84) dX8_wordOf_39 rfl (by decide) ?_
      exact J_K_6 _ _ hf
  · replace hf := it_t hf (by omega)
    refine q_iconst dX8_wordOf_16 rfl rfl ?_
    refine q_goto (tgt := 84) dX8_wordOf_17 rfl (by decide) ?_
    exact J_K_1 _ _ hf
def L_X8_advances_2 (r_9 : Int) (Kx : Int → Mem → Res) : Nat → Int → Mem → Res
  | 0, _, _ => none
  | n + 1, v_20, h_19 => bd (F_X8_byteAt (h_19 56 4) h_19) (fun r_21 (h_22 : Mem) => bd (F_X8_in r_21 97 122 h_22) (fun r_24 (h_25 : Mem) => if (¬ r_24 = 0) then (jn (fun (K_29 : Int → Mem → Res) => if ((w32 ((h_25 56 4) - (h_25 56 6))) < 6) then (bd (F_X8_byteAt (h_25 56 4) h_25) (fun r_30 (h_31 : Mem) => bd (F_X8_add v_20 r_30 h_31) (fun r_33 (h_34 : Mem) => K_29 r_33 h_34))) else (K_29 v_20 h_25)) (fun v_38 (h_37 : Mem) => nm (wr h_37 56 4 (w32 ((h_37 56 4) + 1))) (fun (h_39 : Mem) => L_X8_advances_2 r_9 Kx n v_38 h_39))) else (Kx v_20 h_25)))
def L_X8_advances_3 (r_9 : Int) (Kx : Mem → Res) : Nat → Mem → Res
  | 0, _ => none
  | n + 1, h_56 => bd (F_X8_byteAt (h_56 56 4) h_56) (fun r_57 (h_58 : Mem) => bd (F_X8_in r_57 48 57 h_58) (fun r_60 (h_61 : Mem) => if (¬ r_60 = 0) then (jn (fun (K_65 : Int → Mem → Res) => if (250 < (h_61 56 7)) then (K_65 (h_61 56 7) h_61) else (bd (F_X8_byteAt (h_61 56 4) h_61) (fun r_66 (h_67 : Mem) => K_65 (w32 ((w32 ((w32 (10 * (h_61 56 7))) + r_66)) - 48)) h_67))) (fun v_71 (h_70 : Mem) => nm (wr h_70 56 7 v_71) (fun (h_72 : Mem) => nm (wr h_72 56 4 (w32 ((h_72 56 4) + 1))) (fun (h_73 : Mem) => L_X8_advances_3 r_9 Kx n h_73)))) else (Kx h_61)))
def L_X8_advances_1 (Kx : Mem → Res) : Nat → Mem → Res
  | 0, _ => none
  | n + 1, h_1 => bd (F_X8_byteAt (h_1 56 4) h_1) (fun r_2 (h_3 : Mem) => if (r_2 = 32) then (nm (wr h_3 56 4 (w32 ((h_3 56 4) + 1))) (fun (h_6 : Mem) => L_X8_advances_1 Kx n h_6)) else (Kx h_3))
def F_X8_advances (h : Mem) : Res := L_X8_advances_1 (fun  (h_7 : Mem) => nm (wr h_7 56 6 (h_7 56 4)) (fun (h_8 : Mem) => bd (F_X8_byteAt (h_8 56 4) h_8) (fun r_9 (h_10 : Mem) => if (r_9 < 0) then (nm (wr h_10 56 5 0) (fun (h_12 : Mem) => some (0, h_12))) else (jn (fun (K_13 : Mem → Res) => bd (F_X8_in r_9 97 122 h_10) (fun r_14 (h_15 : Mem) => if (¬ r_14 = 0) then (L_X8_advances_2 r_9 (fun v_41 (h_40 : Mem) => bd (F_X8_wordOf v_41 h_40) (fun r_42 (h_43 : Mem) => nm (wr h_43 56 7 r_42) (fun (h_45 : Mem) => nm (α := Int) (if ((h_45 56 7) = (-9)) then 4 else 1) (fun v_46 => nm (wr h_45 56 5 v_46) (fun (h_48 : Mem) => K_13 h_48))))) FU 0 h_15) else (jn (fun (K_49 : Mem → Res) => bd (F_X8_in r_9 48 57 h_15) (fun r_50 (h_51 : Mem) => if (¬ r_50 = 0) then (nm (wr h_51 56 7 0) (fun (h_55 : Mem) => L_X8_advances_3 r_9 (fun  (h_74 : Mem) => nm (α := Int) (if ((250 < (h_74 56 7)) ∨ ((r_9 = 48) ∧ (1 < (w32 ((h_74 56 4) - (h_74 56 6)))))) then 4 else 2) (fun v_75 => nm (wr h_74 56 5 v_75) (fun (h_79 : Mem) => K_49 h_79))) FU h_55)) else (nm (wr h_51 56 4 (w32 ((h_51 56 4) + 1))) (fun (h_80 : Mem) => nm (α := Int) (if (r_9 = 59) then 3 else 4) (fun v_81 => nm (wr h_80 56 5 v_81) (fun (h_83 : Mem) => K_49 h_83)))))) (fun  (h_84 : Mem) => K_13 h_84)))) (fun  (h_85 : Mem) => some (0, h_85)))))) FU h
theorem SL_X8_advances_2 (X : XS) (r_9 : Int) (Kx : Int → Mem → Res) {r : Int × Mem} (hK : ∀ (v_20 : Int) (h_19 : Mem), Kx v_20 h_19 = some r → AJ X MX8_advances (rmD 3) 130 [(2, 56), (0, r_9), (1, v_20), (3, 0)] [] h_19 (PH 9 r)) :
    ∀ (n : Nat) (v_20 : Int) (h_19 : Mem), L_X8_advances_2 r_9 Kx n v_20 h_19 = some r → AJ X MX8_advances (rmD 3) 68 [(2, 56), (0, r_9), (1, v_20), (3, 0)] [] h_19 (PH 9 r) := by
  intro n
  induction n with
  | zero => intro v_20 h_19 hf; cases hf
  | succ n ih =>
    intro v_20 h_19 hf
    rw [L_X8_advances_2] at hf
    refine q_aload_n dX8_advances_68 rfl rfl ?_
    refine q_aload_n dX8_advances_69 rfl rfl ?_
    refine g_get (k := 4) (kz := 4) dX8_advances_70 rfl fg_X8_91 rfl rfl ?_
    obtain ⟨r_21, h_22, e_23, hf⟩ := bd_ex hf
    refine g_Vi (vs := [(0, h_19 56 4)]) (st := []) dX8_advances_73 rfl (S_X8_byteAt X (h_19 56 4) h_19) e_23 mf_X8_byteAt ml_X8_94 rfl rfl rfl rfl ?_
    refine q_bipush dX8_advances_76 rfl (by decide) ?_
    refine q_bipush dX8_advances_78 rfl (by decide) ?_
    obtain ⟨r_24, h_25, e_26, hf⟩ := bd_ex hf
    refine g_Sb (vs := [(0, r_21), (0, 97), (0, 122)]) (st := []) dX8_advances_80 rfl (S_X8_in X r_21 97 122 h_22) e_26 mf_X8_in ml_X8_72 rfl rfl rfl (fun b_27 => ?_)
    refine q_if_eq (tgt := 130) dX8_advances_83 rfl (by decide) (fun c_28 => ?_) (fun c_28 => ?_)
    · replace hf := it_f hf (by omega)
      exact hK _ _ hf
    · replace hf := it_t hf (by omega)
      obtain ⟨K_29, J_K_29, hf⟩ := jn_ex (P := fun K => ∀ (v_38 : Int) (h_37 : Mem), K v_38 h_37 = some r → AJ X MX8_advances (rmD 3) 116 [(2, 56), (0, r_9), (1, v_20), (3, 0)] [(1, v_38)] h_37 (PH 9 r)) hf (by
          intro v_38 h_37 hf
          refine q_lstore_n (ls' := [(2, 56), (0, r_9), (1, v_38), (3, 0)]) dX8_advances_116 rfl rfl (Nat.le_of_ble_eq_true rfl) rfl ?_
          refine q_aload_n dX8_advances_117 rfl rfl ?_
          refine q_dup dX8_advances_118 rfl (by decide) ?_
          refine g_get (k := 4) (kz := 4) dX8_advances_119 rfl fg_X8_91 rfl rfl ?_
          refine q_iconst dX8_advances_122 rfl rfl ?_
          refine q_iadd dX8_advances_123 rfl ?_
          refine g_put (k := 4) (kz := 4) dX8_advances_124 rfl fp_X8_91 rfl (fun q => q.1 rfl) rfl ?_
          obtain ⟨h_39, e_h_39, hf⟩ := nm_ex hf
          rw [← e_h_39]
          refine q_goto (tgt := 68) dX8_advances_127 rfl (by decide) ?_
          exact ih _ _ hf)
      refine q_aload_n dX8_advances_86 rfl rfl ?_
      refine g_get (k := 4) (kz := 4) dX8_advances_87 rfl fg_X8_91 rfl rfl ?_
      refine q_aload_n dX8_advances_90 rfl rfl ?_
      refine g_get (k := 6) (kz := 6) dX8_advances_91 rfl fg_X8_98 rfl rfl ?_
      refine q_isub dX8_advances_94 rfl ?_
      refine q_bipush dX8_advances_95 rfl (by decide) ?_
      refine q_icmp_ge (tgt := 115) dX8_advances_97 rfl (by decide) (fun c_36 => ?_) (fun c_36 => ?_)
      · replace hf := it_f hf (by omega)
        refine q_lload_n dX8_advances_115 rfl rfl ?_
        exact J_K_29 _ _ hf
      · replace hf := it_t hf (by omega)
        refine q_lload_n dX8_advances_100 rfl rfl ?_
        refine q_aload_n dX8_advances_101 rfl rfl ?_
        refine q_aload_n dX8_advances_102 rfl rfl ?_
        refine g_get (k := 4) (kz := 4) dX8_advances_103 rfl fg_X8_91 rfl rfl ?_
        obtain ⟨r_30, h_31, e_32, hf⟩ := bd_ex hf
        refine g_Vi (vs := [(0, h_25 56 4)]) (st := [(1, v_20)]) dX8_advances_106 rfl (S_X8_byteAt X (h_25 56 4) h_25) e_32 mf_X8_byteAt ml_X8_94 rfl rfl rfl rfl ?_
        obtain ⟨r_33, h_34, e_35, hf⟩ := bd_ex hf
        refine g_Sl (vs := [(1, v_20), (0, r_30)]) (st := []) dX8_advances_109 rfl (S_X8_add X v_20 r_30 h_31) e_35 mf_X8_add ml_X8_83 rfl rfl rfl ?_
        refine q_goto (tgt := 116) dX8_advances_112 rfl (by decide) ?_
        exact J_K_29 _ _ hf
theorem SL_X8_advances_3 (X : XS) (r_9 : Int) (Kx : Mem → Res) {r : Int × Mem} (hK : ∀ (h_56 : Mem), Kx  h_56 = some r → AJ X MX8_advances (rmD 3) 246 [(2, 56), (0, r_9), (3, 0), (3, 0)] [] h_56 (PH 9 r)) :
    ∀ (n : Nat) (h_56 : Mem), L_X8_advances_3 r_9 Kx n h_56 = some r → AJ X MX8_advances (rmD 3) 175 [(2, 56), (0, r_9), (3, 0), (3, 0)] [] h_56 (PH 9 r) := by
  intro n
  induction n with
  | zero => intro  h_56 hf; cases hf
  | succ n ih =>
    intro  h_56 hf
    rw [L_X8_advances_3] at hf
    refine q_aload_n dX8_advances_175 rfl rfl ?_
    refine q_aload_n dX8_advances_176 rfl rfl ?_
    refine g_get (k := 4) (kz := 4) dX8_advances_177 rfl fg_X8_91 rfl rfl ?_
    obtain ⟨r_57, h_58, e_59, hf⟩ := bd_ex hf
    refine g_Vi (vs := [(0, h_56 56 4)]) (st := []) dX8_advances_180 rfl (S_X8_byteAt X (h_56 56 4) h_56) e_59 mf_X8_byteAt ml_X8_94 rfl rfl rfl rfl ?_
    refine q_bipush dX8_advances_183 rfl (by decide) ?_
    refine q_bipush dX8_advances_185 rfl (by decide) ?_
    obtain ⟨r_60, h_61, e_62, hf⟩ := bd_ex hf
    refine g_Sb (vs := [(0, r_57), (0, 48), (0, 57)]) (st := []) dX8_advances_187 rfl (S_X8_in X r_57 48 57 h_58) e_62 mf_X8_in ml_X8_72 rfl rfl rfl (fun b_63 => ?_)
    refine q_if_eq (tgt := 246) dX8_advances_190 rfl (by decide) (fun c_64 => ?_) (fun c_64 => ?_)
    · replace hf := it_f hf (by omega)
      exact hK  _ hf
    · replace hf := it_t hf (by omega)
      refine q_aload_n dX8_advances_193 rfl rfl ?_
      obtain ⟨K_65, J_K_65, hf⟩ := jn_ex (P := fun K => ∀ (v_71 : Int) (h_70 : Mem), K v_71 h_70 = some r → AJ X MX8_advances (rmD 3) 230 [(2, 56), (0, r_9), (3, 0), (3, 0)] [(0, v_71), (2, 56)] h_70 (PH 9 r)) hf (by
          intro v_71 h_70 hf
          refine g_put (k := 7) (kz := 7) dX8_advances_230 rfl fp_X8_108 rfl (fun q => q.1 rfl) rfl ?_
          obtain ⟨h_72, e_h_72, hf⟩ := nm_ex hf
          rw [← e_h_72]
          refine q_aload_n dX8_advances_233 rfl rfl ?_
          refine q_dup dX8_advances_234 rfl (by decide) ?_
          refine g_get (k := 4) (kz := 4) dX8_advances_235 rfl fg_X8_91 rfl rfl ?_
          refine q_iconst dX8_advances_238 rfl rfl ?_
          refine q_iadd dX8_advances_239 rfl ?_
          refine g_put (k := 4) (kz := 4) dX8_advances_240 rfl fp_X8_91 rfl (fun q => q.1 rfl) rfl ?_
          obtain ⟨h_73, e_h_73, hf⟩ := nm_ex hf
          rw [← e_h_73]
          refine q_goto (tgt := 175) dX8_advances_243 rfl (by decide) ?_
          exact ih  _ hf)
      refine q_aload_n dX8_advances_194 rfl rfl ?_
      refine g_get (k := 7) (kz := 7) dX8_advances_195 rfl fg_X8_108 rfl rfl ?_
      refine q_sipush dX8_advances_198 rfl (by decide) ?_
      refine q_icmp_le (tgt := 211) dX8_advances_201 rfl (by decide) (fun c_69 => ?_) (fun c_69 => ?_)
      · replace hf := it_f hf (by omega)
        refine q_bipush dX8_advances_211 rfl (by decide) ?_
        refine q_aload_n dX8_advances_213 rfl rfl ?_
        refine g_get (k := 7) (kz := 7) dX8_advances_214 rfl fg_X8_108 rfl rfl ?_
        refine q_imul dX8_advances_217 rfl ?_
        refine q_aload_n dX8_advances_218 rfl rfl ?_
        refine q_aload_n dX8_advances_219 rfl rfl ?_
        refine g_get (k := 4) (kz := 4) dX8_advances_220 rfl fg_X8_91 rfl rfl ?_
        obtain ⟨r_66, h_67, e_68, hf⟩ := bd_ex hf
        refine g_Vi (vs := [(0, h_61 56 4)]) (st := [(0, w32 (10 * (h_61 56 7))), (2, 56)]) dX8_advances_223 rfl (S_X8_byteAt X (h_61 56 4) h_61) e_68 mf_X8_byteAt ml_X8_94 rfl rfl rfl rfl ?_
        refine q_iadd dX8_advances_226 rfl ?_
        refine q_bipush dX8_advances_227 rfl (by decide) ?_
        refine q_isub dX8_advances_229 rfl ?_
        exact J_K_65 _ _ hf
      · replace hf := it_t hf (by omega)
        refine q_aload_n dX8_advances_204 rfl rfl ?_
        refine g_get (k := 7) (kz := 7) dX8_advances_205 rfl fg_X8_108 rfl rfl ?_
        refine q_goto (tgt := 230) dX8_advances_208 rfl (by decide) ?_
        exact J_K_65 _ _ hf
theorem SL_X8_advances_1 (X : XS) (Kx : Mem → Res) {r : Int × Mem} (hK : ∀ (h_1 : Mem), Kx  h_1 = some r → AJ X MX8_advances (rmD 3) 26 [(2, 56), (3, 0), (3, 0), (3, 0)] [] h_1 (PH 9 r)) :
    ∀ (n : Nat) (h_1 : Mem), L_X8_advances_1 Kx n h_1 = some r → AJ X MX8_advances (rmD 3) 0 [(2, 56), (3, 0), (3, 0), (3, 0)] [] h_1 (PH 9 r) := by
  intro n
  induction n with
  | zero => intro  h_1 hf; cases hf
  | succ n ih =>
    intro  h_1 hf
    rw [L_X8_advances_1] at hf
    refine q_aload_n dX8_advances_0 rfl rfl ?_
    refine q_aload_n dX8_advances_1 rfl rfl ?_
    refine g_get (k := 4) (kz := 4) dX8_advances_2 rfl fg_X8_91 rfl rfl ?_
    obtain ⟨r_2, h_3, e_4, hf⟩ := bd_ex hf
    refine g_Vi (vs := [(0, h_1 56 4)]) (st := []) dX8_advances_5 rfl (S_X8_byteAt X (h_1 56 4) h_1) e_4 mf_X8_byteAt ml_X8_94 rfl rfl rfl rfl ?_
    refine q_bipush dX8_advances_8 rfl (by decide) ?_
    refine q_icmp_ne (tgt := 26) dX8_advances_10 rfl (by decide) (fun c_5 => ?_) (fun c_5 => ?_)
    · replace hf := it_f hf (by omega)
      exact hK  _ hf
    · replace hf := it_t hf (by omega)
      refine q_aload_n dX8_advances_13 rfl rfl ?_
      refine q_dup dX8_advances_14 rfl (by decide) ?_
      refine g_get (k := 4) (kz := 4) dX8_advances_15 rfl fg_X8_91 rfl rfl ?_
      refine q_iconst dX8_advances_18 rfl rfl ?_
      refine q_iadd dX8_advances_19 rfl ?_
      refine g_put (k := 4) (kz := 4) dX8_advances_20 rfl fp_X8_91 rfl (fun q => q.1 rfl) rfl ?_
      obtain ⟨h_6, e_h_6, hf⟩ := nm_ex hf
      rw [← e_h_6]
      refine q_goto (tgt := 0) dX8_advances_23 rfl (by decide) ?_
      exact ih  _ hf
theorem S_X8_advances (X : XS) (h : Mem) : CT X yX8_advances MX8_advances none 9 3 [(2, 56)] h (F_X8_advances h) := by
  refine CT.ofV (by decide) rfl (Nat.le_of_ble_eq_true rfl) (fun r hf => ?_)
  unfold F_X8_advances at hf
  show AJ X MX8_advances (rmD 3) 0 [(2, 56), (3, 0), (3, 0), (3, 0)] [] h (PH 9 r)
  refine SL_X8_advances_1 X   _ (fun  h_7 hf => ?_) FU  _ hf
  refine q_aload_n dX8_advances_26 rfl rfl ?_
  refine q_aload_n dX8_advances_27 rfl rfl ?_
  refine g_get (k := 4) (kz := 4) dX8_advances_28 rfl fg_X8_91 rfl rfl ?_
  refine g_put (k := 6) (kz := 6) dX8_advances_31 rfl fp_X8_98 rfl (fun q => q.1 rfl) rfl ?_
  obtain ⟨h_8, e_h_8, hf⟩ := nm_ex hf
  rw [← e_h_8]
  refine q_aload_n dX8_advances_34 rfl rfl ?_
  refine q_aload_n dX8_advances_35 rfl rfl ?_
  refine g_get (k := 4) (kz := 4) dX8_advances_36 rfl fg_X8_91 rfl rfl ?_
  obtain ⟨r_9, h_10, e_11, hf⟩ := bd_ex hf
  refine g_Vi (vs := [(0, h_8 56 4)]) (st := []) dX8_advances_39 rfl (S_X8_byteAt X (h_8 56 4) h_8) e_11 mf_X8_byteAt ml_X8_94 rfl rfl rfl rfl ?_
  refine q_istore_n (ls' := [(2, 56), (0, r_9), (3, 0), (3, 0)]) dX8_advances_42 rfl rfl (Nat.le_of_ble_eq_true rfl) rfl ?_
  refine q_iload_n dX8_advances_43 rfl rfl ?_
  refine q_if_ge (tgt := 55) dX8_advances_44 rfl (by decide) (fun c_86 => ?_) (fun c_86 => ?_)
  · replace hf := it_f hf (by omega)
    obtain ⟨K_13, J_K_13, hf⟩ := jn_ex (P := fun K => ∀ (h_85 : Mem), K  h_85 = some r → AJ X MX8_advances (rmD 3) 312 [(2, 56), (0, r_9), (3, 0), (3, 0)] [] h_85 (PH 9 r)) hf (by
        intro  h_85 hf
        exact g_return dX8_advances_312 rfl hf)
    refine q_iload_n dX8_advances_55 rfl rfl ?_
    refine q_bipush dX8_advances_56 rfl (by decide) ?_
    refine q_bipush dX8_advances_58 rfl (by decide) ?_
    obtain ⟨r_14, h_15, e_16, hf⟩ := bd_ex hf
    refine g_Sb (vs := [(0, r_9), (0, 97), (0, 122)]) (st := []) dX8_advances_60 rfl (S_X8_in X r_9 97 122 h_10) e_16 mf_X8_in ml_X8_72 rfl rfl rfl (fun b_17 => ?_)
    refine q_if_eq (tgt := 159) dX8_advances_63 rfl (by decide) (fun c_18 => ?_) (fun c_18 => ?_)
    · replace hf := it_f hf (by omega)
      obtain ⟨K_49, J_K_49, hf⟩ := jn_ex (P := fun K => ∀ (h_84 : Mem), K  h_84 = some r → AJ X MX8_advances (rmD 3) 312 [(2, 56), (0, r_9), (3, 0), (3, 0)] [] h_84 (PH 9 r)) hf (by
          intro  h_84 hf
          exact J_K_13 _ hf)
      refine q_iload_n dX8_advances_159 rfl rfl ?_
      refine q_bipush dX8_advances_160 rfl (by decide) ?_
      refine q_bipush dX8_advances_162 rfl (by decide) ?_
      obtain ⟨r_50, h_51, e_52, hf⟩ := bd_ex hf
      refine g_Sb (vs := [(0, r_9), (0, 48), (0, 57)]) (st := []) dX8_advances_164 rfl (S_X8_in X r_9 48 57 h_15) e_52 mf_X8_in ml_X8_72 rfl rfl rfl (fun b_53 => ?_)
      refine q_if_eq (tgt := 287) dX8_advances_167 rfl (by decide) (fun c_54 => ?_) (fun c_54 => ?_)
      · replace hf := it_f hf (by omega)
        refine q_aload_n dX8_advances_287 rfl rfl ?_
        refine q_dup dX8_advances_288 rfl (by decide) ?_
        refine g_get (k := 4) (kz := 4) dX8_advances_289 rfl fg_X8_91 rfl rfl ?_
        refine q_iconst dX8_advances_292 rfl rfl ?_
        refine q_iadd dX8_advances_293 rfl ?_
        refine g_put (k := 4) (kz := 4) dX8_advances_294 rfl fp_X8_91 rfl (fun q => q.1 rfl) rfl ?_
        obtain ⟨h_80, e_h_80, hf⟩ := nm_ex hf
        rw [← e_h_80]
        refine q_aload_n dX8_advances_297 rfl rfl ?_
        obtain ⟨v_81, e_v_81, hf⟩ := nm_ex hf
        have J_v_81 : AJ X MX8_advances (rmD 3) 309 [(2, 56), (0, r_9), (3, 0), (3, 0)] [(0, v_81), (2, 56)] h_80 (PH 9 r) := by
          refine g_put (k := 5) (kz := 5) dX8_advances_309 rfl fp_X8_101 rfl (fun q => q.1 rfl) rfl ?_
          obtain ⟨h_83, e_h_83, hf⟩ := nm_ex hf
          rw [← e_h_83]
          exact J_K_49 _ hf
        clear hf
        refine q_iload_n dX8_advances_298 rfl rfl ?_
        refine q_bipush dX8_advances_299 rfl (by decide) ?_
        refine q_icmp_ne (tgt := 308) dX8_advances_301 rfl (by decide) (fun c_82 => ?_) (fun c_82 => ?_)
        · refine q_iconst dX8_advances_308 rfl rfl ?_
          have e1 : v_81 = 4 := by omega
          subst e1
          exact J_v_81
        · refine q_iconst dX8_advances_304 rfl rfl ?_
          refine q_goto (tgt := 309) dX8_advances_305 rfl (by decide) ?_
          have e1 : v_81 = 3 := by omega
          subst e1
          exact J_v_81
      · replace hf := it_t hf (by omega)
        refine q_aload_n dX8_advances_170 rfl rfl ?_
        refine q_iconst dX8_advances_171 rfl rfl ?_
        refine g_put (k := 7) (kz := 7) dX8_advances_172 rfl fp_X8_108 rfl (fun q => q.1 rfl) rfl ?_
        obtain ⟨h_55, e_h_55, hf⟩ := nm_ex hf
        rw [← e_h_55]
        refine SL_X8_advances_3 X r_9  _ (fun  h_74 hf => ?_) FU  _ hf
        refine q_aload_n dX8_advances_246 rfl rfl ?_
        obtain ⟨v_75, e_v_75, hf⟩ := nm_ex hf
        have J_v_75 : AJ X MX8_advances (rmD 3) 281 [(2, 56), (0, r_9), (3, 0), (3, 0)] [(0, v_75), (2, 56)] h_74 (PH 9 r) := by
          refine g_put (k := 5) (kz := 5) dX8_advances_281 rfl fp_X8_101 rfl (fun q => q.1 rfl) rfl ?_
          obtain ⟨h_79, e_h_79, hf⟩ := nm_ex hf
          rw [← e_h_79]
          refine q_goto (tgt := 312) dX8_advances_284 rfl (by decide) ?_
          exact J_K_49 _ hf
        clear hf
        refine q_aload_n dX8_advances_247 rfl rfl ?_
        refine g_get (k := 7) (kz := 7) dX8_advances_248 rfl fg_X8_108 rfl rfl ?_
        refine q_sipush dX8_advances_251 rfl (by decide) ?_
        refine q_icmp_gt (tgt := 276) dX8_advances_254 rfl (by decide) (fun c_76 => ?_) (fun c_76 => ?_)
        · refine q_iconst dX8_advances_276 rfl rfl ?_
          refine q_goto (tgt := 281) dX8_advances_277 rfl (by decide) ?_
          have e1 : v_75 = 4 := by omega
          subst e1
          exact J_v_75
        · refine q_iload_n dX8_advances_257 rfl rfl ?_
          refine q_bipush dX8_advances_258 rfl (by decide) ?_
          refine q_icmp_ne (tgt := 280) dX8_advances_260 rfl (by decide) (fun c_77 => ?_) (fun c_77 => ?_)
          · refine q_iconst dX8_advances_280 rfl rfl ?_
            have e1 : v_75 = 2 := by omega
            subst e1
            exact J_v_75
          · refine q_aload_n dX8_advances_263 rfl rfl ?_
            refine g_get (k := 4) (kz := 4) dX8_advances_264 rfl fg_X8_91 rfl rfl ?_
            refine q_aload_n dX8_advances_267 rfl rfl ?_
            refine g_get (k := 6) (kz := 6) dX8_advances_268 rfl fg_X8_98 rfl rfl ?_
            refine q_isub dX8_advances_271 rfl ?_
            refine q_iconst dX8_advances_272 rfl rfl ?_
            refine q_icmp_le (tgt := 280) dX8_advances_273 rfl (by decide) (fun c_78 => ?_) (fun c_78 => ?_)
            · refine q_iconst dX8_advances_280 rfl rfl ?_
              have e1 : v_75 = 2 := by omega
              subst e1
              exact J_v_75
            · refine q_iconst dX8_advances_276 rfl rfl ?_
              refine q_goto (tgt := 281) dX8_advances_277 rfl (by decide) ?_
              have e1 : v_75 = 4 := by omega
              subst e1
              exact J_v_75
    · replace hf := it_t hf (by omega)
      refine q_lconst0 dX8_advances_66 rfl ?_
      refine q_lstore_n (ls' := [(2, 56), (0, r_9), (1, 0), (3, 0)]) dX8_advances_67 rfl rfl (Nat.le_of_ble_eq_true rfl) rfl ?_
      refine SL_X8_advances_2 X r_9  _ (fun v_41 h_40 hf => ?_) FU _ _ hf
      refine q_aload_n dX8_advances_130 rfl rfl ?_
      refine q_lload_n dX8_advances_131 rfl rfl ?_
      obtain ⟨r_42, h_43, e_44, hf⟩ := bd_ex hf
      refine g_Si (vs := [(1, v_41)]) (st := [(2, 56)]) dX8_advances_132 rfl (S_X8_wordOf X v_41 h_40) e_44 mf_X8_wordOf ml_X8_104 rfl rfl rfl ?_
      refine g_put (k := 7) (kz := 7) dX8_advances_135 rfl fp_X8_108 rfl (fun q => q.1 rfl) rfl ?_
      obtain ⟨h_45, e_h_45, hf⟩ := nm_ex hf
      rw [← e_h_45]
      refine q_aload_n dX8_advances_138 rfl rfl ?_
      obtain ⟨v_46, e_v_46, hf⟩ := nm_ex hf
      have J_v_46 : AJ X MX8_advances (rmD 3) 153 [(2, 56), (0, r_9), (1, v_41), (3, 0)] [(0, v_46), (2, 56)] h_45 (PH 9 r) := by
        refine g_put (k := 5) (kz := 5) dX8_advances_153 rfl fp_X8_101 rfl (fun q => q.1 rfl) rfl ?_
        obtain ⟨h_48, e_h_48, hf⟩ := nm_ex hf
        rw [← e_h_48]
        refine q_goto (tgt := 312) dX8_advances_156 rfl (by decide) ?_
        refine g_frg (ls' := [(2, 56), (0, r_9), (3, 0), (3, 0)]) [2] rfl ?_
        exact J_K_13 _ hf
      clear hf
      refine q_aload_n dX8_advances_139 rfl rfl ?_
      refine g_get (k := 7) (kz := 7) dX8_advances_140 rfl fg_X8_108 rfl rfl ?_
      refine q_bipush dX8_advances_143 rfl (by decide) ?_
      refine q_icmp_ne (tgt := 152) dX8_advances_145 rfl (by decide) (fun c_47 => ?_) (fun c_47 => ?_)
      · refine q_iconst dX8_advances_152 rfl rfl ?_
        have e1 : v_46 = 1 := by omega
        subst e1
        exact J_v_46
      · refine q_iconst dX8_advances_148 rfl rfl ?_
        refine q_goto (tgt := 153) dX8_advances_149 rfl (by decide) ?_
        have e1 : v_46 = 4 := by omega
        subst e1
        exact J_v_46
  · replace hf := it_t hf (by omega)
    refine q_aload_n dX8_advances_47 rfl rfl ?_
    refine q_iconst dX8_advances_48 rfl rfl ?_
    refine g_put (k := 5) (kz := 5) dX8_advances_49 rfl fp_X8_101 rfl (fun q => q.1 rfl) rfl ?_
    obtain ⟨h_12, e_h_12, hf⟩ := nm_ex hf
    rw [← e_h_12]
    refine q_goto (tgt := 312) dX8_advances_52 rfl (by decide) ?_
    exact g_return dX8_advances_312 rfl hf
def F_X8_isWell (h : Mem) : Res := if ((h 56 8) < 0) then (some (1, h)) else (some (0, h))
theorem S_X8_isWell (X : XS) (h : Mem) : CB X yX8_isWell MX8_isWell 0 [(2, 56)] h (F_X8_isWell h) := by
  refine CB.of (by decide) rfl (Nat.le_of_ble_eq_true rfl) (fun r hf => ?_)
  unfold F_X8_isWell at hf
  show AJ X MX8_isWell (rmD 0) 0 [(2, 56)] [] h (PB r)
  refine q_aload_n dX8_isWell_0 rfl rfl ?_
  refine g_get (k := 8) (kz := 8) dX8_isWell_1 rfl fg_X8_111 rfl rfl ?_
  refine q_if_ge (tgt := 11) dX8_isWell_4 rfl (by decide) (fun c_1 => ?_) (fun c_1 => ?_)
  · replace hf := it_f hf (by omega)
    refine q_iconst dX8_isWell_11 rfl rfl ?_
    exact g_breturn dX8_isWell_12 rfl (Or.inl rfl) hf
  · replace hf := it_t hf (by omega)
    refine q_iconst dX8_isWell_7 rfl rfl ?_
    refine q_goto (tgt := 12) dX8_isWell_8 rfl (by decide) ?_
    exact g_breturn dX8_isWell_12 rfl (Or.inr rfl) hf
def F_X8_takes (is_0 : Int) (h : Mem) : Res := bd (F_X8_isWell  h) (fun r_1 (h_2 : Mem) => if (¬ r_1 = 0) then (if (¬ (¬ is_0 = 0)) then (nm (wr h_2 56 8 (h_2 56 6)) (fun (h_6 : Mem) => some (0, h_6))) else (nm (h_2 56 7) (fun v_7 => bd (F_X8_advances  h_2) (fun _ (h_9 : Mem) => some (v_7, h_9))))) else (some (0, h_2)))
theorem S_X8_takes (X : XS) (is_0 : Int) (h : Mem) : CT X yX8_takes MX8_takes (some .int) 0 4 [(2, 56), (0, is_0)] h (F_X8_takes is_0 h) := by
  refine CT.ofI (by decide) rfl (Nat.le_of_ble_eq_true rfl) (fun r hf => ?_)
  unfold F_X8_takes at hf
  show AJ X MX8_takes (rmD 4) 0 [(2, 56), (0, is_0), (3, 0)] [] h (PH 0 r)
  refine q_aload_n dX8_takes_0 rfl rfl ?_
  obtain ⟨r_1, h_2, e_3, hf⟩ := bd_ex hf
  refine g_Vb (vs := []) (st := []) dX8_takes_1 rfl (S_X8_isWell X  h) e_3 mf_X8_isWell ml_X8_114 rfl rfl rfl rfl (fun b_4 => ?_)
  refine q_if_ne (tgt := 9) dX8_takes_4 rfl (by decide) (fun c_5 => ?_) (fun c_5 => ?_)
  · replace hf := it_t hf (by omega)
    refine q_iload_n dX8_takes_9 rfl rfl ?_
    refine q_if_ne (tgt := 23) dX8_takes_10 rfl (by decide) (fun c_11 => ?_) (fun c_11 => ?_)
    · replace hf := it_f hf (by omega)
      refine q_aload_n dX8_takes_23 rfl rfl ?_
      refine g_get (k := 7) (kz := 7) dX8_takes_24 rfl fg_X8_108 rfl rfl ?_
      obtain ⟨v_7, e_v_7, hf⟩ := nm_ex hf
      rw [← e_v_7]
      refine q_istore_n (ls' := [(2, 56), (0, is_0), (0, v_7)]) dX8_takes_27 rfl rfl (Nat.le_of_ble_eq_true rfl) rfl ?_
      refine q_aload_n dX8_takes_28 rfl rfl ?_
      obtain ⟨r_8, h_9, e_10, hf⟩ := bd_ex hf
      refine g_Vv (vs := []) (st := []) dX8_takes_29 rfl (S_X8_advances X  h_2) e_10 mf_X8_advances ml_X8_118 rfl rfl rfl rfl ?_
      refine q_iload_n dX8_takes_32 rfl rfl ?_
      exact g_ireturn dX8_takes_33 rfl hf
    · replace hf := it_t hf (by omega)
      refine q_aload_n dX8_takes_13 rfl rfl ?_
      refine q_aload_n dX8_takes_14 rfl rfl ?_
      refine g_get (k := 6) (kz := 6) dX8_takes_15 rfl fg_X8_98 rfl rfl ?_
      refine g_put (k := 8) (kz := 8) dX8_takes_18 rfl fp_X8_111 rfl (fun q => q.1 rfl) rfl ?_
      obtain ⟨h_6, e_h_6, hf⟩ := nm_ex hf
      rw [← e_h_6]
      refine q_iconst dX8_takes_21 rfl rfl ?_
      exact g_ireturn dX8_takes_22 rfl hf
  · replace hf := it_f hf (by omega)
    refine q_iconst dX8_takes_7 rfl rfl ?_
    exact g_ireturn dX8_takes_8 rfl hf
def F_X8_number (least_0 most_0 : Int) (h : Mem) : Res := jn (fun (K_1 : Int → Mem → Res) => jn (fun (K_2 : Mem → Res) => if ((h 56 5) = 2) then (bd (F_X8_in (h 56 7) least_0 most_0 h) (fun r_5 (h_6 : Mem) => if (¬ r_5 = 0) then (K_1 1 h_6) else (K_2 h_6))) else (K_2 h)) (fun (h_3 : Mem) => K_1 0 h_3)) (fun v_11 (h_10 : Mem) => bd (F_X8_takes v_11 h_10) (fun r_12 (h_13 : Mem) => some (r_12, h_13)))
theorem S_X8_number (X : XS) (least_0 : Int) (most_0 : Int) (h : Mem) : CT X yX8_number MX8_number (some .int) 0 5 [(2, 56), (0, least_0), (0, most_0)] h (F_X8_number least_0 most_0 h) := by
  refine CT.ofI (by decide) rfl (Nat.le_of_ble_eq_true rfl) (fun r hf => ?_)
  unfold F_X8_number at hf
  show AJ X MX8_number (rmD 5) 0 [(2, 56), (0, least_0), (0, most_0)] [] h (PH 0 r)
  refine q_aload_n dX8_number_0 rfl rfl ?_
  obtain ⟨K_1, J_K_1, hf⟩ := jn_ex (P := fun K => ∀ (v_11 : Int) (h_10 : Mem), K v_11 h_10 = some r → AJ X MX8_number (rmD 5) 26 [(2, 56), (0, least_0), (0, most_0)] [(0, v_11), (2, 56)] h_10 (PH 0 r)) hf (by
      intro v_11 h_10 hf
      obtain ⟨r_12, h_13, e_14, hf⟩ := bd_ex hf
      refine g_Vi (vs := [(0, v_11)]) (st := []) dX8_number_26 rfl (S_X8_takes X v_11 h_10) e_14 mf_X8_takes ml_X8_121 rfl rfl rfl rfl ?_
      exact g_ireturn dX8_number_29 rfl hf)
  obtain ⟨K_2, J_K_2, hf⟩ := jn_ex (P := fun K => ∀ (h_3 : Mem), K h_3 = some r → AJ X MX8_number (rmD 5) 25 [(2, 56), (0, least_0), (0, most_0)] [(2, 56)] h_3 (PH 0 r)) hf (by
      intro h_3 hf
      refine q_iconst dX8_number_25 rfl rfl ?_
      exact J_K_1 _ _ hf)
  refine q_aload_n dX8_number_1 rfl rfl ?_
  refine g_get (k := 5) (kz := 5) dX8_number_2 rfl fg_X8_101 rfl rfl ?_
  refine q_iconst dX8_number_5 rfl rfl ?_
  refine q_icmp_ne (tgt := 25) dX8_number_6 rfl (by decide) (fun c_4 => ?_) (fun c_4 => ?_)
  · replace hf := it_f hf (by omega)
    exact J_K_2 _ hf
  · replace hf := it_t hf (by omega)
    refine q_aload_n dX8_number_9 rfl rfl ?_
    refine g_get (k := 7) (kz := 7) dX8_number_10 rfl fg_X8_108 rfl rfl ?_
    refine q_iload_n dX8_number_13 rfl rfl ?_
    refine q_iload_n dX8_number_14 rfl rfl ?_
    obtain ⟨r_5, h_6, e_7, hf⟩ := bd_ex hf
    refine g_Sb (vs := [(0, h 56 7), (0, least_0), (0, most_0)]) (st := [(2, 56)]) dX8_number_15 rfl (S_X8_in X (h 56 7) least_0 most_0 h) e_7 mf_X8_in ml_X8_72 rfl rfl rfl (fun b_8 => ?_)
    refine q_if_eq (tgt := 25) dX8_number_18 rfl (by decide) (fun c_9 => ?_) (fun c_9 => ?_)
    · replace hf := it_f hf (by omega)
      exact J_K_2 _ hf
    · replace hf := it_t hf (by omega)
      refine q_iconst dX8_number_21 rfl rfl ?_
      refine q_goto (tgt := 26) dX8_number_22 rfl (by decide) ?_
      exact J_K_1 _ _ hf
def F_X8_isWord (which_0 : Int) (h : Mem) : Res := jn (fun (K_1 : Mem → Res) => bd (F_X8_isWell  h) (fun r_3 (h_4 : Mem) => if (¬ r_3 = 0) then (if ((h_4 56 5) = 1) then (if ((h_4 56 7) = which_0) then (some (1, h_4)) else (K_1 h_4)) else (K_1 h_4)) else (K_1 h_4))) (fun (h_2 : Mem) => some (0, h_2))
theorem S_X8_isWord (X : XS) (which_0 : Int) (h : Mem) : CB X yX8_isWord MX8_isWord 1 [(2, 56), (0, which_0)] h (F_X8_isWord which_0 h) := by
  refine CB.of (by decide) rfl (Nat.le_of_ble_eq_true rfl) (fun r hf => ?_)
  unfold F_X8_isWord at hf
  show AJ X MX8_isWord (rmD 1) 0 [(2, 56), (0, which_0)] [] h (PB r)
  obtain ⟨K_1, J_K_1, hf⟩ := jn_ex (P := fun K => ∀ (h_2 : Mem), K h_2 = some r → AJ X MX8_isWord (rmD 1) 27 [(2, 56), (0, which_0)] [] h_2 (PB r)) hf (by
      intro h_2 hf
      refine q_iconst dX8_isWord_27 rfl rfl ?_
      exact g_breturn dX8_isWord_28 rfl (Or.inl rfl) hf)
  refine q_aload_n dX8_isWord_0 rfl rfl ?_
  obtain ⟨r_3, h_4, e_5, hf⟩ := bd_ex hf
  refine g_Vb (vs := []) (st := []) dX8_isWord_1 rfl (S_X8_isWell X  h) e_5 mf_X8_isWell ml_X8_114 rfl rfl rfl rfl (fun b_6 => ?_)
  refine q_if_eq (tgt := 27) dX8_isWord_4 rfl (by decide) (fun c_7 => ?_) (fun c_7 => ?_)
  · replace hf := it_f hf (by omega)
    exact J_K_1 _ hf
  · replace hf := it_t hf (by omega)
    refine q_aload_n dX8_isWord_7 rfl rfl ?_
    refine g_get (k := 5) (kz := 5) dX8_isWord_8 rfl fg_X8_101 rfl rfl ?_
    refine q_iconst dX8_isWord_11 rfl rfl ?_
    refine q_icmp_ne (tgt := 27) dX8_isWord_12 rfl (by decide) (fun c_8 => ?_) (fun c_8 => ?_)
    · replace hf := it_f hf (by omega)
      exact J_K_1 _ hf
    · replace hf := it_t hf (by omega)
      refine q_aload_n dX8_isWord_15 rfl rfl ?_
      refine g_get (k := 7) (kz := 7) dX8_isWord_16 rfl fg_X8_108 rfl rfl ?_
      refine q_iload_n dX8_isWord_19 rfl rfl ?_
      refine q_icmp_ne (tgt := 27) dX8_isWord_20 rfl (by decide) (fun c_9 => ?_) (fun c_9 => ?_)
      · replace hf := it_f hf (by omega)
        exact J_K_1 _ hf
      · replace hf := it_t hf (by omega)
        refine q_iconst dX8_isWord_23 rfl rfl ?_
        refine q_goto (tgt := 28) dX8_isWord_24 rfl (by decide) ?_
        exact g_breturn dX8_isWord_28 rfl (Or.inr rfl) hf
def F_X8_readsAct (h : Mem) : Res := nm (w32 (9 * (w32 (10 + (h 56 11))))) (fun at_1 => bd (F_X8_number 0 5 h) (fun r_2 (h_3 : Mem) => gd (0 ≤ (w32 (at_1 + 0)) ∧ (w32 (at_1 + 0)) < 180) (nm (wr h_3 58 (w32 (at_1 + 0)) r_2) (fun (h_6 : Mem) => bd (F_X8_number 1 30 h_6) (fun r_7 (h_8 : Mem) => gd (0 ≤ (w32 (at_1 + 1)) ∧ (w32 (at_1 + 1)) < 180) (nm (wr h_8 58 (w32 (at_1 + 1)) r_7) (fun (h_11 : Mem) => bd (F_X8_number 0 30 h_11) (fun r_12 (h_13 : Mem) => gd (0 ≤ (w32 (at_1 + 2)) ∧ (w32 (at_1 + 2)) < 180) (nm (wr h_13 58 (w32 (at_1 + 2)) r_12) (fun (h_16 : Mem) => gd (0 ≤ (w32 (at_1 + 3)) ∧ (w32 (at_1 + 3)) < 180) (nm (wr h_16 58 (w32 (at_1 + 3)) 0) (fun (h_18 : Mem) => gd (0 ≤ (w32 (at_1 + 4)) ∧ (w32 (at_1 + 4)) < 180) (nm (wr h_18 58 (w32 (at_1 + 4)) 0) (fun (h_20 : Mem) => gd (0 ≤ (w32 (at_1 + 5)) ∧ (w32 (at_1 + 5)) < 180) (nm (wr h_20 58 (w32 (at_1 + 5)) 0) (fun (h_22 : Mem) => gd (0 ≤ (w32 (at_1 + 6)) ∧ (w32 (at_1 + 6)) < 180) (nm (wr h_22 58 (w32 (at_1 + 6)) 0) (fun (h_24 : Mem) => gd (0 ≤ (w32 (at_1 + 7)) ∧ (w32 (at_1 + 7)) < 180) (nm (wr h_24 58 (w32 (at_1 + 7)) 0) (fun (h_26 : Mem) => gd (0 ≤ (w32 (at_1 + 8)) ∧ (w32 (at_1 + 8)) < 180) (nm (wr h_26 58 (w32 (at_1 + 8)) 0) (fun (h_28 : Mem) => jn (fun (K_29 : Mem → Res) => bd (F_X8_isWord 1 h_28) (fun r_30 (h_31 : Mem) => if (¬ r_30 = 0) then (nm (wr h_31 58 (w32 (at_1 + 3)) 1) (fun (h_35 : Mem) => bd (F_X8_advances  h_35) (fun _ (h_37 : Mem) => K_29 h_37))) else (jn (fun (K_39 : Mem → Res) => bd (F_X8_isWord 2 h_31) (fun r_40 (h_41 : Mem) => if (¬ r_40 = 0) then (bd (F_X8_advances  h_41) (fun _ (h_46 : Mem) => bd (F_X8_number 0 9 h_46) (fun r_48 (h_49 : Mem) => nm (wr h_49 58 (w32 (at_1 + 4)) r_48) (fun (h_51 : Mem) => bd (F_X8_number 0 9 h_51) (fun r_52 (h_53 : Mem) => nm (wr h_53 58 (w32 (at_1 + 5)) r_52) (fun (h_55 : Mem) => K_39 h_55)))))) else (K_39 h_41))) (fun  (h_56 : Mem) => K_29 h_56)))) (fun  (h_57 : Mem) => jn (fun (K_58 : Mem → Res) => jn (fun (K_59 : Mem → Res) => bd (F_X8_isWord 3 h_57) (fun r_67 (h_68 : Mem) => if (¬ r_67 = 0) then (K_59 h_68) else (bd (F_X8_isWord 4 h_68) (fun r_72 (h_73 : Mem) => if (¬ r_72 = 0) then (K_59 h_73) else (K_58 h_73))))) (fun (h_60 : Mem) => nm (α := Int) (if ((h_60 56 7) = 3) then 1 else 2) (fun v_61 => nm (wr h_60 58 (w32 (at_1 + 6)) v_61) (fun (h_63 : Mem) => bd (F_X8_advances  h_63) (fun _ (h_65 : Mem) => K_58 h_65))))) (fun  (h_77 : Mem) => jn (fun (K_78 : Mem → Res) => bd (F_X8_isWord 5 h_77) (fun r_79 (h_80 : Mem) => if (¬ r_79 = 0) then (bd (F_X8_advances  h_80) (fun _ (h_85 : Mem) => bd (F_X8_number 1 250 h_85) (fun r_87 (h_88 : Mem) => nm (wr h_88 58 (w32 (at_1 + 7)) r_87) (fun (h_90 : Mem) => K_78 h_90)))) else (K_78 h_80))) (fun  (h_91 : Mem) => nm (wr h_91 56 11 (w32 ((h_91 56 11) + 1))) (fun (h_92 : Mem) => some (0, h_92)))))))))))))))))))))))))))
theorem S_X8_readsAct (X : XS) (h : Mem) : CT X yX8_readsAct MX8_readsAct none 9 6 [(2, 56)] h (F_X8_readsAct h) := by
  refine CT.ofV (by decide) rfl (Nat.le_of_ble_eq_true rfl) (fun r hf => ?_)
  unfold F_X8_readsAct at hf
  show AJ X MX8_readsAct (rmD 6) 0 [(2, 56), (3, 0)] [] h (PH 9 r)
  refine q_bipush dX8_readsAct_0 rfl (by decide) ?_
  refine q_bipush dX8_readsAct_2 rfl (by decide) ?_
  refine q_aload_n dX8_readsAct_4 rfl rfl ?_
  refine g_get (k := 11) (kz := 11) dX8_readsAct_5 rfl fg_X8_125 rfl rfl ?_
  refine q_iadd dX8_readsAct_8 rfl ?_
  refine q_imul dX8_readsAct_9 rfl ?_
  obtain ⟨at_1, e_at_1, hf⟩ := nm_ex hf
  rw [← e_at_1]
  refine q_istore_n (ls' := [(2, 56), (0, at_1)]) dX8_readsAct_10 rfl rfl (Nat.le_of_ble_eq_true rfl) rfl ?_
  refine q_aload_n dX8_readsAct_11 rfl rfl ?_
  refine g_getF (k := 9) (o := 2) (z := 58) dX8_readsAct_12 rfl fg_X8_13 rfl rfl rfl ?_
  refine q_iload_n dX8_readsAct_15 rfl rfl ?_
  refine q_iconst dX8_readsAct_16 rfl rfl ?_
  refine q_iadd dX8_readsAct_17 rfl ?_
  refine q_aload_n dX8_readsAct_18 rfl rfl ?_
  refine q_iconst dX8_readsAct_19 rfl rfl ?_
  refine q_iconst dX8_readsAct_20 rfl rfl ?_
  obtain ⟨r_2, h_3, e_4, hf⟩ := bd_ex hf
  refine g_Vi (vs := [(0, 0), (0, 5)]) (st := [(0, w32 (at_1 + 0)), (2, 58)]) dX8_readsAct_21 rfl (S_X8_number X 0 5 h) e_4 mf_X8_number ml_X8_128 rfl rfl rfl rfl ?_
  obtain ⟨g_5, hf⟩ := gd_ex hf
  refine q_iastore dX8_readsAct_24 rfl rfl g_5 ?_
  obtain ⟨h_6, e_h_6, hf⟩ := nm_ex hf
  rw [← e_h_6]
  refine q_aload_n dX8_readsAct_25 rfl rfl ?_
  refine g_getF (k := 9) (o := 2) (z := 58) dX8_readsAct_26 rfl fg_X8_13 rfl rfl rfl ?_
  refine q_iload_n dX8_readsAct_29 rfl rfl ?_
  refine q_iconst dX8_readsAct_30 rfl rfl ?_
  refine q_iadd dX8_readsAct_31 rfl ?_
  refine q_aload_n dX8_readsAct_32 rfl rfl ?_
  refine q_iconst dX8_readsAct_33 rfl rfl ?_
  refine q_bipush dX8_readsAct_34 rfl (by decide) ?_
  obtain ⟨r_7, h_8, e_9, hf⟩ := bd_ex hf
  refine g_Vi (vs := [(0, 1), (0, 30)]) (st := [(0, w32 (at_1 + 1)), (2, 58)]) dX8_readsAct_36 rfl (S_X8_number X 1 30 h_6) e_9 mf_X8_number ml_X8_128 rfl rfl rfl rfl ?_
  obtain ⟨g_10, hf⟩ := gd_ex hf
  refine q_iastore dX8_readsAct_39 rfl rfl g_10 ?_
  obtain ⟨h_11, e_h_11, hf⟩ := nm_ex hf
  rw [← e_h_11]
  refine q_aload_n dX8_readsAct_40 rfl rfl ?_
  refine g_getF (k := 9) (o := 2) (z := 58) dX8_readsAct_41 rfl fg_X8_13 rfl rfl rfl ?_
  refine q_iload_n dX8_readsAct_44 rfl rfl ?_
  refine q_iconst dX8_readsAct_45 rfl rfl ?_
  refine q_iadd dX8_readsAct_46 rfl ?_
  refine q_aload_n dX8_readsAct_47 rfl rfl ?_
  refine q_iconst dX8_readsAct_48 rfl rfl ?_
  refine q_bipush dX8_readsAct_49 rfl (by decide) ?_
  obtain ⟨r_12, h_13, e_14, hf⟩ := bd_ex hf
  refine g_Vi (vs := [(0, 0), (0, 30)]) (st := [(0, w32 (at_1 + 2)), (2, 58)]) dX8_readsAct_51 rfl (S_X8_number X 0 30 h_11) e_14 mf_X8_number ml_X8_128 rfl rfl rfl rfl ?_
  obtain ⟨g_15, hf⟩ := gd_ex hf
  refine q_iastore dX8_readsAct_54 rfl rfl g_15 ?_
  obtain ⟨h_16, e_h_16, hf⟩ := nm_ex hf
  rw [← e_h_16]
  refine q_aload_n dX8_readsAct_55 rfl rfl ?_
  refine g_getF (k := 9) (o := 2) (z := 58) dX8_readsAct_56 rfl fg_X8_13 rfl rfl rfl ?_
  refine q_iload_n dX8_readsAct_59 rfl rfl ?_
  refine q_iconst dX8_readsAct_60 rfl rfl ?_
  refine q_iadd dX8_readsAct_61 rfl ?_
  refine q_iconst dX8_readsAct_62 rfl rfl ?_
  obtain ⟨g_17, hf⟩ := gd_ex hf
  refine q_iastore dX8_readsAct_63 rfl rfl g_17 ?_
  obtain ⟨h_18, e_h_18, hf⟩ := nm_ex hf
  rw [← e_h_18]
  refine q_aload_n dX8_readsAct_64 rfl rfl ?_
  refine g_getF (k := 9) (o := 2) (z := 58) dX8_readsAct_65 rfl fg_X8_13 rfl rfl rfl ?_
  refine q_iload_n dX8_readsAct_68 rfl rfl ?_
  refine q_iconst dX8_readsAct_69 rfl rfl ?_
  refine q_iadd dX8_readsAct_70 rfl ?_
  refine q_iconst dX8_readsAct_71 rfl rfl ?_
  obtain ⟨g_19, hf⟩ := gd_ex hf
  refine q_iastore dX8_readsAct_72 rfl rfl g_19 ?_
  obtain ⟨h_20, e_h_20, hf⟩ := nm_ex hf
  rw [← e_h_20]
  refine q_aload_n dX8_readsAct_73 rfl rfl ?_
  refine g_getF (k := 9) (o := 2) (z := 58) dX8_readsAct_74 rfl fg_X8_13 rfl rfl rfl ?_
  refine q_iload_n dX8_readsAct_77 rfl rfl ?_
  refine q_iconst dX8_readsAct_78 rfl rfl ?_
  refine q_iadd dX8_readsAct_79 rfl ?_
  refine q_iconst dX8_readsAct_80 rfl rfl ?_
  obtain ⟨g_21, hf⟩ := gd_ex hf
  refine q_iastore dX8_readsAct_81 rfl rfl g_21 ?_
  obtain ⟨h_22, e_h_22, hf⟩ := nm_ex hf
  rw [← e_h_22]
  refine q_aload_n dX8_readsAct_82 rfl rfl ?_
  refine g_getF (k := 9) (o := 2) (z := 58) dX8_readsAct_83 rfl fg_X8_13 rfl rfl rfl ?_
  refine q_iload_n dX8_readsAct_86 rfl rfl ?_
  refine q_bipush dX8_readsAct_87 rfl (by decide) ?_
  refine q_iadd dX8_readsAct_89 rfl ?_
  refine q_iconst dX8_readsAct_90 rfl rfl ?_
  obtain ⟨g_23, hf⟩ := gd_ex hf
  refine q_iastore dX8_readsAct_91 rfl rfl g_23 ?_
  obtain ⟨h_24, e_h_24, hf⟩ := nm_ex hf
  rw [← e_h_24]
  refine q_aload_n dX8_readsAct_92 rfl rfl ?_
  refine g_getF (k := 9) (o := 2) (z := 58) dX8_readsAct_93 rfl fg_X8_13 rfl rfl rfl ?_
  refine q_iload_n dX8_readsAct_96 rfl rfl ?_
  refine q_bipush dX8_readsAct_97 rfl (by decide) ?_
  refine q_iadd dX8_readsAct_99 rfl ?_
  refine q_iconst dX8_readsAct_100 rfl rfl ?_
  obtain ⟨g_25, hf⟩ := gd_ex hf
  refine q_iastore dX8_readsAct_101 rfl rfl g_25 ?_
  obtain ⟨h_26, e_h_26, hf⟩ := nm_ex hf
  rw [← e_h_26]
  refine q_aload_n dX8_readsAct_102 rfl rfl ?_
  refine g_getF (k := 9) (o := 2) (z := 58) dX8_readsAct_103 rfl fg_X8_13 rfl rfl rfl ?_
  refine q_iload_n dX8_readsAct_106 rfl rfl ?_
  refine q_bipush dX8_readsAct_107 rfl (by decide) ?_
  refine q_iadd dX8_readsAct_109 rfl ?_
  refine q_iconst dX8_readsAct_110 rfl rfl ?_
  obtain ⟨g_27, hf⟩ := gd_ex hf
  refine q_iastore dX8_readsAct_111 rfl rfl g_27 ?_
  obtain ⟨h_28, e_h_28, hf⟩ := nm_ex hf
  rw [← e_h_28]
  obtain ⟨K_29, J_K_29, hf⟩ := jn_ex (P := fun K => ∀ (h_57 : Mem), K  h_57 = some r → AJ X MX8_readsAct (rmD 6) 178 [(2, 56), (0, at_1)] [] h_57 (PH 9 r)) hf (by
      intro  h_57 hf
      obtain ⟨K_58, J_K_58, hf⟩ := jn_ex (P := fun K => ∀ (h_77 : Mem), K  h_77 = some r → AJ X MX8_readsAct (rmD 6) 220 [(2, 56), (0, at_1)] [] h_77 (PH 9 r)) hf (by
          intro  h_77 hf
          obtain ⟨K_78, J_K_78, hf⟩ := jn_ex (P := fun K => ∀ (h_91 : Mem), K  h_91 = some r → AJ X MX8_readsAct (rmD 6) 249 [(2, 56), (0, at_1)] [] h_91 (PH 9 r)) hf (by
              intro  h_91 hf
              refine q_aload_n dX8_readsAct_249 rfl rfl ?_
              refine q_dup dX8_readsAct_250 rfl (by decide) ?_
              refine g_get (k := 11) (kz := 11) dX8_readsAct_251 rfl fg_X8_125 rfl rfl ?_
              refine q_iconst dX8_readsAct_254 rfl rfl ?_
              refine q_iadd dX8_readsAct_255 rfl ?_
              refine g_put (k := 11) (kz := 11) dX8_readsAct_256 rfl fp_X8_125 rfl (fun q => q.1 rfl) rfl ?_
              obtain ⟨h_92, e_h_92, hf⟩ := nm_ex hf
              rw [← e_h_92]
              exact g_return dX8_readsAct_259 rfl hf)
          refine q_aload_n dX8_readsAct_220 rfl rfl ?_
          refine q_iconst dX8_readsAct_221 rfl rfl ?_
          obtain ⟨r_79, h_80, e_81, hf⟩ := bd_ex hf
          refine g_Vb (vs := [(0, 5)]) (st := []) dX8_readsAct_222 rfl (S_X8_isWord X 5 h_77) e_81 mf_X8_isWord ml_X8_132 rfl rfl rfl rfl (fun b_82 => ?_)
          refine q_if_eq (tgt := 249) dX8_readsAct_225 rfl (by decide) (fun c_83 => ?_) (fun c_83 => ?_)
          · replace hf := it_f hf (by omega)
            exact J_K_78 _ hf
          · replace hf := it_t hf (by omega)
            refine q_aload_n dX8_readsAct_228 rfl rfl ?_
            obtain ⟨r_84, h_85, e_86, hf⟩ := bd_ex hf
            refine g_Vv (vs := []) (st := []) dX8_readsAct_229 rfl (S_X8_advances X  h_80) e_86 mf_X8_advances ml_X8_118 rfl rfl rfl rfl ?_
            refine q_aload_n dX8_readsAct_232 rfl rfl ?_
            refine g_getF (k := 9) (o := 2) (z := 58) dX8_readsAct_233 rfl fg_X8_13 rfl rfl rfl ?_
            refine q_iload_n dX8_readsAct_236 rfl rfl ?_
            refine q_bipush dX8_readsAct_237 rfl (by decide) ?_
            refine q_iadd dX8_readsAct_239 rfl ?_
            refine q_aload_n dX8_readsAct_240 rfl rfl ?_
            refine q_iconst dX8_readsAct_241 rfl rfl ?_
            refine q_sipush dX8_readsAct_242 rfl (by decide) ?_
            obtain ⟨r_87, h_88, e_89, hf⟩ := bd_ex hf
            refine g_Vi (vs := [(0, 1), (0, 250)]) (st := [(0, w32 (at_1 + 7)), (2, 58)]) dX8_readsAct_245 rfl (S_X8_number X 1 250 h_85) e_89 mf_X8_number ml_X8_128 rfl rfl rfl rfl ?_
            refine q_iastore dX8_readsAct_248 rfl rfl g_25 ?_
            obtain ⟨h_90, e_h_90, hf⟩ := nm_ex hf
            rw [← e_h_90]
            exact J_K_78 _ hf)
      obtain ⟨K_59, J_K_59, hf⟩ := jn_ex (P := fun K => ∀ (h_60 : Mem), K h_60 = some r → AJ X MX8_readsAct (rmD 6) 194 [(2, 56), (0, at_1)] [] h_60 (PH 9 r)) hf (by
          intro h_60 hf
          refine q_aload_n dX8_readsAct_194 rfl rfl ?_
          refine g_getF (k := 9) (o := 2) (z := 58) dX8_readsAct_195 rfl fg_X8_13 rfl rfl rfl ?_
          refine q_iload_n dX8_readsAct_198 rfl rfl ?_
          refine q_bipush dX8_readsAct_199 rfl (by decide) ?_
          refine q_iadd dX8_readsAct_201 rfl ?_
          obtain ⟨v_61, e_v_61, hf⟩ := nm_ex hf
          have J_v_61 : AJ X MX8_readsAct (rmD 6) 215 [(2, 56), (0, at_1)] [(0, v_61), (0, w32 (at_1 + 6)), (2, 58)] h_60 (PH 9 r) := by
            refine q_iastore dX8_readsAct_215 rfl rfl g_23 ?_
            obtain ⟨h_63, e_h_63, hf⟩ := nm_ex hf
            rw [← e_h_63]
            refine q_aload_n dX8_readsAct_216 rfl rfl ?_
            obtain ⟨r_64, h_65, e_66, hf⟩ := bd_ex hf
            refine g_Vv (vs := []) (st := []) dX8_readsAct_217 rfl (S_X8_advances X  h_63) e_66 mf_X8_advances ml_X8_118 rfl rfl rfl rfl ?_
            exact J_K_58 _ hf
          clear hf
          refine q_aload_n dX8_readsAct_202 rfl rfl ?_
          refine g_get (k := 7) (kz := 7) dX8_readsAct_203 rfl fg_X8_108 rfl rfl ?_
          refine q_iconst dX8_readsAct_206 rfl rfl ?_
          refine q_icmp_ne (tgt := 214) dX8_readsAct_207 rfl (by decide) (fun c_62 => ?_) (fun c_62 => ?_)
          · refine q_iconst dX8_readsAct_214 rfl rfl ?_
            have e1 : v_61 = 2 := by omega
            subst e1
            exact J_v_61
          · refine q_iconst dX8_readsAct_210 rfl rfl ?_
            refine q_goto (tgt := 215) dX8_readsAct_211 rfl (by decide) ?_
            have e1 : v_61 = 1 := by omega
            subst e1
            exact J_v_61)
      refine q_aload_n dX8_readsAct_178 rfl rfl ?_
      refine q_iconst dX8_readsAct_179 rfl rfl ?_
      obtain ⟨r_67, h_68, e_69, hf⟩ := bd_ex hf
      refine g_Vb (vs := [(0, 3)]) (st := []) dX8_readsAct_180 rfl (S_X8_isWord X 3 h_57) e_69 mf_X8_isWord ml_X8_132 rfl rfl rfl rfl (fun b_70 => ?_)
      refine q_if_ne (tgt := 194) dX8_readsAct_183 rfl (by decide) (fun c_71 => ?_) (fun c_71 => ?_)
      · replace hf := it_t hf (by omega)
        exact J_K_59 _ hf
      · replace hf := it_f hf (by omega)
        refine q_aload_n dX8_readsAct_186 rfl rfl ?_
        refine q_iconst dX8_readsAct_187 rfl rfl ?_
        obtain ⟨r_72, h_73, e_74, hf⟩ := bd_ex hf
        refine g_Vb (vs := [(0, 4)]) (st := []) dX8_readsAct_188 rfl (S_X8_isWord X 4 h_68) e_74 mf_X8_isWord ml_X8_132 rfl rfl rfl rfl (fun b_75 => ?_)
        refine q_if_eq (tgt := 220) dX8_readsAct_191 rfl (by decide) (fun c_76 => ?_) (fun c_76 => ?_)
        · replace hf := it_f hf (by omega)
          exact J_K_58 _ hf
        · replace hf := it_t hf (by omega)
          exact J_K_59 _ hf)
  refine q_aload_n dX8_readsAct_112 rfl rfl ?_
  refine q_iconst dX8_readsAct_113 rfl rfl ?_
  obtain ⟨r_30, h_31, e_32, hf⟩ := bd_ex hf
  refine g_Vb (vs := [(0, 1)]) (st := []) dX8_readsAct_114 rfl (S_X8_isWord X 1 h_28) e_32 mf_X8_isWord ml_X8_132 rfl rfl rfl rfl (fun b_33 => ?_)
  refine q_if_eq (tgt := 136) dX8_readsAct_117 rfl (by decide) (fun c_34 => ?_) (fun c_34 => ?_)
  · replace hf := it_f hf (by omega)
    obtain ⟨K_39, J_K_39, hf⟩ := jn_ex (P := fun K => ∀ (h_56 : Mem), K  h_56 = some r → AJ X MX8_readsAct (rmD 6) 178 [(2, 56), (0, at_1)] [] h_56 (PH 9 r)) hf (by
        intro  h_56 hf
        exact J_K_29 _ hf)
    refine q_aload_n dX8_readsAct_136 rfl rfl ?_
    refine q_iconst dX8_readsAct_137 rfl rfl ?_
    obtain ⟨r_40, h_41, e_42, hf⟩ := bd_ex hf
    refine g_Vb (vs := [(0, 2)]) (st := []) dX8_readsAct_138 rfl (S_X8_isWord X 2 h_31) e_42 mf_X8_isWord ml_X8_132 rfl rfl rfl rfl (fun b_43 => ?_)
    refine q_if_eq (tgt := 178) dX8_readsAct_141 rfl (by decide) (fun c_44 => ?_) (fun c_44 => ?_)
    · replace hf := it_f hf (by omega)
      exact J_K_39 _ hf
    · replace hf := it_t hf (by omega)
      refine q_aload_n dX8_readsAct_144 rfl rfl ?_
      obtain ⟨r_45, h_46, e_47, hf⟩ := bd_ex hf
      refine g_Vv (vs := []) (st := []) dX8_readsAct_145 rfl (S_X8_advances X  h_41) e_47 mf_X8_advances ml_X8_118 rfl rfl rfl rfl ?_
      refine q_aload_n dX8_readsAct_148 rfl rfl ?_
      refine g_getF (k := 9) (o := 2) (z := 58) dX8_readsAct_149 rfl fg_X8_13 rfl rfl rfl ?_
      refine q_iload_n dX8_readsAct_152 rfl rfl ?_
      refine q_iconst dX8_readsAct_153 rfl rfl ?_
      refine q_iadd dX8_readsAct_154 rfl ?_
      refine q_aload_n dX8_readsAct_155 rfl rfl ?_
      refine q_iconst dX8_readsAct_156 rfl rfl ?_
      refine q_bipush dX8_readsAct_157 rfl (by decide) ?_
      obtain ⟨r_48, h_49, e_50, hf⟩ := bd_ex hf
      refine g_Vi (vs := [(0, 0), (0, 9)]) (st := [(0, w32 (at_1 + 4)), (2, 58)]) dX8_readsAct_159 rfl (S_X8_number X 0 9 h_46) e_50 mf_X8_number ml_X8_128 rfl rfl rfl rfl ?_
      refine q_iastore dX8_readsAct_162 rfl rfl g_19 ?_
      obtain ⟨h_51, e_h_51, hf⟩ := nm_ex hf
      rw [← e_h_51]
      refine q_aload_n dX8_readsAct_163 rfl rfl ?_
      refine g_getF (k := 9) (o := 2) (z := 58) dX8_readsAct_164 rfl fg_X8_13 rfl rfl rfl ?_
      refine q_iload_n dX8_readsAct_167 rfl rfl ?_
      refine q_iconst dX8_readsAct_168 rfl rfl ?_
      refine q_iadd dX8_readsAct_169 rfl ?_
      refine q_aload_n dX8_readsAct_170 rfl rfl ?_
      refine q_iconst dX8_readsAct_171 rfl rfl ?_
      refine q_bipush dX8_readsAct_172 rfl (by decide) ?_
      obtain ⟨r_52, h_53, e_54, hf⟩ := bd_ex hf
      refine g_Vi (vs := [(0, 0), (0, 9)]) (st := [(0, w32 (at_1 + 5)), (2, 58)]) dX8_readsAct_174 rfl (S_X8_number X 0 9 h_51) e_54 mf_X8_number ml_X8_128 rfl rfl rfl rfl ?_
      refine q_iastore dX8_readsAct_177 rfl rfl g_21 ?_
      obtain ⟨h_55, e_h_55, hf⟩ := nm_ex hf
      rw [← e_h_55]
      exact J_K_39 _ hf
  · replace hf := it_t hf (by omega)
    refine q_aload_n dX8_readsAct_120 rfl rfl ?_
    refine g_getF (k := 9) (o := 2) (z := 58) dX8_readsAct_121 rfl fg_X8_13 rfl rfl rfl ?_
    refine q_iload_n dX8_readsAct_124 rfl rfl ?_
    refine q_iconst dX8_readsAct_125 rfl rfl ?_
    refine q_iadd dX8_readsAct_126 rfl ?_
    refine q_iconst dX8_readsAct_127 rfl rfl ?_
    refine q_iastore dX8_readsAct_128 rfl rfl g_17 ?_
    obtain ⟨h_35, e_h_35, hf⟩ := nm_ex hf
    rw [← e_h_35]
    refine q_aload_n dX8_readsAct_129 rfl rfl ?_
    obtain ⟨r_36, h_37, e_38, hf⟩ := bd_ex hf
    refine g_Vv (vs := []) (st := []) dX8_readsAct_130 rfl (S_X8_advances X  h_35) e_38 mf_X8_advances ml_X8_118 rfl rfl rfl rfl ?_
    refine q_goto (tgt := 178) dX8_readsAct_133 rfl (by decide) ?_
    exact J_K_29 _ hf
def F_X8_readsFeud (h : Mem) : Res := bd (F_X8_number 0 (w32 ((h 56 11) - 1)) h) (fun r_1 (h_2 : Mem) => jn (fun (K_4 : Int → Mem → Res) => jn (fun (K_5 : Mem → Res) => if ((h_2 56 5) = 2) then (bd (F_X8_in (h_2 56 7) 0 (w32 ((h_2 56 11) - 1)) h_2) (fun r_8 (h_9 : Mem) => if (¬ r_8 = 0) then (if (¬ (h_9 56 7) = r_1) then (K_4 1 h_9) else (K_5 h_9)) else (K_5 h_9))) else (K_5 h_2)) (fun (h_6 : Mem) => K_4 0 h_6)) (fun v_15 (h_14 : Mem) => bd (F_X8_takes v_15 h_14) (fun r_16 (h_17 : Mem) => bd (F_X8_isWell  h_17) (fun r_19 (h_20 : Mem) => if (¬ r_19 = 0) then (gd (0 ≤ (w32 ((w32 (9 * (w32 (10 + r_1)))) + 8)) ∧ (w32 ((w32 (9 * (w32 (10 + r_1)))) + 8)) < 180) (nm (wr h_20 58 (w32 ((w32 (9 * (w32 (10 + r_1)))) + 8)) (ior (h_20 58 (w32 ((w32 (9 * (w32 (10 + r_1)))) + 8))) (ishl 1 r_16))) (fun (h_25 : Mem) => gd (0 ≤ (w32 ((w32 (9 * (w32 (10 + r_16)))) + 8)) ∧ (w32 ((w32 (9 * (w32 (10 + r_16)))) + 8)) < 180) (nm (wr h_25 58 (w32 ((w32 (9 * (w32 (10 + r_16)))) + 8)) (ior (h_25 58 (w32 ((w32 (9 * (w32 (10 + r_16)))) + 8))) (ishl 1 r_1))) (fun (h_27 : Mem) => some (0, h_27)))))) else (some (0, h_20))))))
theorem S_X8_readsFeud (X : XS) (h : Mem) : CT X yX8_readsFeud MX8_readsFeud none 9 6 [(2, 56)] h (F_X8_readsFeud h) := by
  refine CT.ofV (by decide) rfl (Nat.le_of_ble_eq_true rfl) (fun r hf => ?_)
  unfold F_X8_readsFeud at hf
  show AJ X MX8_readsFeud (rmD 6) 0 [(2, 56), (3, 0), (3, 0)] [] h (PH 9 r)
  refine q_aload_n dX8_readsFeud_0 rfl rfl ?_
  refine q_iconst dX8_readsFeud_1 rfl rfl ?_
  refine q_aload_n dX8_readsFeud_2 rfl rfl ?_
  refine g_get (k := 11) (kz := 11) dX8_readsFeud_3 rfl fg_X8_125 rfl rfl ?_
  refine q_iconst dX8_readsFeud_6 rfl rfl ?_
  refine q_isub dX8_readsFeud_7 rfl ?_
  obtain ⟨r_1, h_2, e_3, hf⟩ := bd_ex hf
  refine g_Vi (vs := [(0, 0), (0, w32 ((h 56 11) - 1))]) (st := []) dX8_readsFeud_8 rfl (S_X8_number X 0 (w32 ((h 56 11) - 1)) h) e_3 mf_X8_number ml_X8_128 rfl rfl rfl rfl ?_
  refine q_istore_n (ls' := [(2, 56), (0, r_1), (3, 0)]) dX8_readsFeud_11 rfl rfl (Nat.le_of_ble_eq_true rfl) rfl ?_
  refine q_aload_n dX8_readsFeud_12 rfl rfl ?_
  obtain ⟨K_4, J_K_4, hf⟩ := jn_ex (P := fun K => ∀ (v_15 : Int) (h_14 : Mem), K v_15 h_14 = some r → AJ X MX8_readsFeud (rmD 6) 51 [(2, 56), (0, r_1), (3, 0)] [(0, v_15), (2, 56)] h_14 (PH 9 r)) hf (by
      intro v_15 h_14 hf
      obtain ⟨r_16, h_17, e_18, hf⟩ := bd_ex hf
      refine g_Vi (vs := [(0, v_15)]) (st := []) dX8_readsFeud_51 rfl (S_X8_takes X v_15 h_14) e_18 mf_X8_takes ml_X8_121 rfl rfl rfl rfl ?_
      refine q_istore_n (ls' := [(2, 56), (0, r_1), (0, r_16)]) dX8_readsFeud_54 rfl rfl (Nat.le_of_ble_eq_true rfl) rfl ?_
      refine q_aload_n dX8_readsFeud_55 rfl rfl ?_
      obtain ⟨r_19, h_20, e_21, hf⟩ := bd_ex hf
      refine g_Vb (vs := []) (st := []) dX8_readsFeud_56 rfl (S_X8_isWell X  h_17) e_21 mf_X8_isWell ml_X8_114 rfl rfl rfl rfl (fun b_22 => ?_)
      refine q_if_eq (tgt := 104) dX8_readsFeud_59 rfl (by decide) (fun c_23 => ?_) (fun c_23 => ?_)
      · replace hf := it_f hf (by omega)
        exact g_return dX8_readsFeud_104 rfl hf
      · replace hf := it_t hf (by omega)
        refine q_aload_n dX8_readsFeud_62 rfl rfl ?_
        refine g_getF (k := 9) (o := 2) (z := 58) dX8_readsFeud_63 rfl fg_X8_13 rfl rfl rfl ?_
        refine q_bipush dX8_readsFeud_66 rfl (by decide) ?_
        refine q_bipush dX8_readsFeud_68 rfl (by decide) ?_
        refine q_iload_n dX8_readsFeud_70 rfl rfl ?_
        refine q_iadd dX8_readsFeud_71 rfl ?_
        refine q_imul dX8_readsFeud_72 rfl ?_
        refine q_bipush dX8_readsFeud_73 rfl (by decide) ?_
        refine q_iadd dX8_readsFeud_75 rfl ?_
        refine q_dup2 dX8_readsFeud_76 rfl (by decide) (by decide) ?_
        obtain ⟨g_24, hf⟩ := gd_ex hf
        refine q_iaload dX8_readsFeud_77 rfl rfl g_24 ?_
        refine q_iconst dX8_readsFeud_78 rfl rfl ?_
        refine q_iload_n dX8_readsFeud_79 rfl rfl ?_
        refine q_ishl dX8_readsFeud_80 rfl ?_
        refine q_ior dX8_readsFeud_81 rfl ?_
        refine q_iastore dX8_readsFeud_82 rfl rfl g_24 ?_
        obtain ⟨h_25, e_h_25, hf⟩ := nm_ex hf
        rw [← e_h_25]
        refine q_aload_n dX8_readsFeud_83 rfl rfl ?_
        refine g_getF (k := 9) (o := 2) (z := 58) dX8_readsFeud_84 rfl fg_X8_13 rfl rfl rfl ?_
        refine q_bipush dX8_readsFeud_87 rfl (by decide) ?_
        refine q_bipush dX8_readsFeud_89 rfl (by decide) ?_
        refine q_iload_n dX8_readsFeud_91 rfl rfl ?_
        refine q_iadd dX8_readsFeud_92 rfl ?_
        refine q_imul dX8_readsFeud_93 rfl ?_
        refine q_bipush dX8_readsFeud_94 rfl (by decide) ?_
        refine q_iadd dX8_readsFeud_96 rfl ?_
        refine q_dup2 dX8_readsFeud_97 rfl (by decide) (by decide) ?_
        obtain ⟨g_26, hf⟩ := gd_ex hf
        refine q_iaload dX8_readsFeud_98 rfl rfl g_26 ?_
        refine q_iconst dX8_readsFeud_99 rfl rfl ?_
        refine q_iload_n dX8_readsFeud_100 rfl rfl ?_
        refine q_ishl dX8_readsFeud_101 rfl ?_
        refine q_ior dX8_readsFeud_102 rfl ?_
        refine q_iastore dX8_readsFeud_103 rfl rfl g_26 ?_
        obtain ⟨h_27, e_h_27, hf⟩ := nm_ex hf
        rw [← e_h_27]
        exact g_return dX8_readsFeud_104 rfl hf)
  obtain ⟨K_5, J_K_5, hf⟩ := jn_ex (P := fun K => ∀ (h_6 : Mem), K h_6 = some r → AJ X MX8_readsFeud (rmD 6) 50 [(2, 56), (0, r_1), (3, 0)] [(2, 56)] h_6 (PH 9 r)) hf (by
      intro h_6 hf
      refine q_iconst dX8_readsFeud_50 rfl rfl ?_
      exact J_K_4 _ _ hf)
  refine q_aload_n dX8_readsFeud_13 rfl rfl ?_
  refine g_get (k := 5) (kz := 5) dX8_readsFeud_14 rfl fg_X8_101 rfl rfl ?_
  refine q_iconst dX8_readsFeud_17 rfl rfl ?_
  refine q_icmp_ne (tgt := 50) dX8_readsFeud_18 rfl (by decide) (fun c_7 => ?_) (fun c_7 => ?_)
  · replace hf := it_f hf (by omega)
    exact J_K_5 _ hf
  · replace hf := it_t hf (by omega)
    refine q_aload_n dX8_readsFeud_21 rfl rfl ?_
    refine g_get (k := 7) (kz := 7) dX8_readsFeud_22 rfl fg_X8_108 rfl rfl ?_
    refine q_iconst dX8_readsFeud_25 rfl rfl ?_
    refine q_aload_n dX8_readsFeud_26 rfl rfl ?_
    refine g_get (k := 11) (kz := 11) dX8_readsFeud_27 rfl fg_X8_125 rfl rfl ?_
    refine q_iconst dX8_readsFeud_30 rfl rfl ?_
    refine q_isub dX8_readsFeud_31 rfl ?_
    obtain ⟨r_8, h_9, e_10, hf⟩ := bd_ex hf
    refine g_Sb (vs := [(0, h_2 56 7), (0, 0), (0, w32 ((h_2 56 11) - 1))]) (st := [(2, 56)]) dX8_readsFeud_32 rfl (S_X8_in X (h_2 56 7) 0 (w32 ((h_2 56 11) - 1)) h_2) e_10 mf_X8_in ml_X8_72 rfl rfl rfl (fun b_11 => ?_)
    refine q_if_eq (tgt := 50) dX8_readsFeud_35 rfl (by decide) (fun c_12 => ?_) (fun c_12 => ?_)
    · replace hf := it_f hf (by omega)
      exact J_K_5 _ hf
    · replace hf := it_t hf (by omega)
      refine q_aload_n dX8_readsFeud_38 rfl rfl ?_
      refine g_get (k := 7) (kz := 7) dX8_readsFeud_39 rfl fg_X8_108 rfl rfl ?_
      refine q_iload_n dX8_readsFeud_42 rfl rfl ?_
      refine q_icmp_eq (tgt := 50) dX8_readsFeud_43 rfl (by decide) (fun c_13 => ?_) (fun c_13 => ?_)
      · replace hf := it_f hf (by omega)
        exact J_K_5 _ hf
      · replace hf := it_t hf (by omega)
        refine q_iconst dX8_readsFeud_46 rfl rfl ?_
        refine q_goto (tgt := 51) dX8_readsFeud_47 rfl (by decide) ?_
        exact J_K_4 _ _ hf
def L_X8_acts_3 (items_56 : Int) (Kx : Int → Mem → Res) : Nat → Int → Mem → Res
  | 0, _, _ => none
  | n + 1, i_73, h_72 => if (i_73 < 9) then (gd (0 ≤ i_73 ∧ i_73 < 9) (nm (wr h_72 60 i_73 0) (fun (h_75 : Mem) => nm (w32 (i_73 + 1)) (fun i_76 => L_X8_acts_3 items_56 Kx n i_76 h_75)))) else (Kx i_73 h_72)
def L_X8_acts_2 (items_56 : Int) (Kx : Int → Mem → Res) : Nat → Int → Mem → Res
  | 0, _, _ => none
  | n + 1, k_63, h_62 => if (k_63 < 81) then (gd (0 ≤ (w32 (90 + k_63)) ∧ (w32 (90 + k_63)) < 180) (gd (0 ≤ k_63 ∧ k_63 < 180) (nm (wr h_62 58 k_63 (h_62 58 (w32 (90 + k_63)))) (fun (h_66 : Mem) => nm (w32 (k_63 + 1)) (fun k_67 => L_X8_acts_2 items_56 Kx n k_67 h_66))))) else (Kx k_63 h_62)
def L_X8_acts_1 (Kx : Int → Mem → Res) : Nat → Int → Mem → Res
  | 0, _, _ => none
  | n + 1, items_9, h_8 => jn (fun (K_10 : Mem → Res) => bd (F_X8_isWell  h_8) (fun r_12 (h_13 : Mem) => if (¬ r_12 = 0) then (if (¬ (h_13 56 5) = 0) then (nm (α := Int) (if (((h_13 56 5) = 1) ∧ ((((h_13 56 7) = 0) ∧ ((h_13 56 11) < 9)) ∨ (¬ ((h_13 56 7) = 0) ∧ ((h_13 56 7) = 6)))) then 1 else 0) (fun v_18 => bd (F_X8_takes v_18 h_13) (fun r_23 (h_24 : Mem) => jn (fun (K_26 : Mem → Res) => jn (fun (K_27 : Mem → Res) => bd (F_X8_isWell  h_24) (fun r_39 (h_40 : Mem) => if (¬ r_39 = 0) then (if (r_23 = 0) then (bd (F_X8_readsAct  h_40) (fun _ (h_46 : Mem) => K_26 h_46)) else (K_27 h_40)) else (K_27 h_40))) (fun (h_28 : Mem) => jn (fun (K_29 : Mem → Res) => bd (F_X8_isWell  h_28) (fun r_30 (h_31 : Mem) => if (¬ r_30 = 0) then (bd (F_X8_readsFeud  h_31) (fun _ (h_36 : Mem) => K_29 h_36)) else (K_29 h_31))) (fun  (h_38 : Mem) => K_26 h_38))) (fun  (h_48 : Mem) => nm (α := Int) (if ((h_48 56 5) = 3) then 1 else 0) (fun v_49 => bd (F_X8_takes v_49 h_48) (fun r_51 (h_52 : Mem) => nm (w32 (items_9 + 1)) (fun items_54 => L_X8_acts_1 Kx n items_54 h_52))))))) else (K_10 h_13)) else (K_10 h_13))) (fun (h_11 : Mem) => Kx items_9 h_11)
def F_X8_acts (h : Mem) : Res := nm (wr h 56 0 0) (fun (h_1 : Mem) => nm (wr h_1 56 8 (-1)) (fun (h_2 : Mem) => nm (wr h_2 56 4 0) (fun (h_3 : Mem) => nm (wr h_3 56 11 0) (fun (h_4 : Mem) => bd (F_X8_advances  h_4) (fun _ (h_6 : Mem) => L_X8_acts_1 (fun items_56 (h_55 : Mem) => bd (F_X8_isWell  h_55) (fun r_57 (h_58 : Mem) => if (¬ r_57 = 0) then (L_X8_acts_2 items_56 (fun k_70 (h_69 : Mem) => nm (wr h_69 56 10 (h_69 56 11)) (fun (h_71 : Mem) => L_X8_acts_3 items_56 (fun i_79 (h_78 : Mem) => nm (wr h_78 61 0 0) (fun (h_80 : Mem) => nm (wr h_80 61 1 0) (fun (h_81 : Mem) => nm (wr h_81 56 33 0) (fun (h_82 : Mem) => nm (wr h_82 63 0 0) (fun (h_83 : Mem) => nm (wr h_83 63 1 0) (fun (h_84 : Mem) => nm (wr h_84 56 3 0) (fun (h_85 : Mem) => some (items_56, h_85)))))))) FU 0 h_71)) FU 0 h_58) else (some (w32 ((-10) - (h_58 56 8)), h_58)))) FU 0 h_6)))))
theorem SL_X8_acts_3 (X : XS) (items_56 : Int) (Kx : Int → Mem → Res) {r : Int × Mem} (hK : ∀ (i_73 : Int) (h_72 : Mem), Kx i_73 h_72 = some r → AJ X MX8_acts (rmD 7) 212 [(2, 56), (0, items_56), (0, i_73)] [] h_72 (PH 0 r)) :
    ∀ (n : Nat) (i_73 : Int) (h_72 : Mem), L_X8_acts_3 items_56 Kx n i_73 h_72 = some r → AJ X MX8_acts (rmD 7) 193 [(2, 56), (0, items_56), (0, i_73)] [] h_72 (PH 0 r) := by
  intro n
  induction n with
  | zero => intro i_73 h_72 hf; cases hf
  | succ n ih =>
    intro i_73 h_72 hf
    rw [L_X8_acts_3] at hf
    refine q_iload_n dX8_acts_193 rfl rfl ?_
    refine q_bipush dX8_acts_194 rfl (by decide) ?_
    refine q_icmp_ge (tgt := 212) dX8_acts_196 rfl (by decide) (fun c_77 => ?_) (fun c_77 => ?_)
    · replace hf := it_f hf (by omega)
      exact hK _ _ hf
    · replace hf := it_t hf (by omega)
      refine q_aload_n dX8_acts_199 rfl rfl ?_
      refine g_getF (k := 13) (o := 4) (z := 60) dX8_acts_200 rfl fg_X8_19 rfl rfl rfl ?_
      refine q_iload_n dX8_acts_203 rfl rfl ?_
      refine q_iconst dX8_acts_204 rfl rfl ?_
      obtain ⟨g_74, hf⟩ := gd_ex hf
      refine q_iastore dX8_acts_205 rfl rfl g_74 ?_
      obtain ⟨h_75, e_h_75, hf⟩ := nm_ex hf
      rw [← e_h_75]
      refine q_iinc (ls' := [(2, 56), (0, items_56), (0, w32 (i_73 + 1))]) dX8_acts_206 rfl rfl rfl ?_
      obtain ⟨i_76, e_i_76, hf⟩ := nm_ex hf
      rw [← e_i_76]
      refine q_goto (tgt := 193) dX8_acts_209 rfl (by decide) ?_
      exact ih _ _ hf
theorem SL_X8_acts_2 (X : XS) (items_56 : Int) (Kx : Int → Mem → Res) {r : Int × Mem} (hK : ∀ (k_63 : Int) (h_62 : Mem), Kx k_63 h_62 = some r → AJ X MX8_acts (rmD 7) 183 [(2, 56), (0, items_56), (0, k_63)] [] h_62 (PH 0 r)) :
    ∀ (n : Nat) (k_63 : Int) (h_62 : Mem), L_X8_acts_2 items_56 Kx n k_63 h_62 = some r → AJ X MX8_acts (rmD 7) 156 [(2, 56), (0, items_56), (0, k_63)] [] h_62 (PH 0 r) := by
  intro n
  induction n with
  | zero => intro k_63 h_62 hf; cases hf
  | succ n ih =>
    intro k_63 h_62 hf
    rw [L_X8_acts_2] at hf
    refine q_iload_n dX8_acts_156 rfl rfl ?_
    refine q_bipush dX8_acts_157 rfl (by decide) ?_
    refine q_icmp_ge (tgt := 183) dX8_acts_159 rfl (by decide) (fun c_68 => ?_) (fun c_68 => ?_)
    · replace hf := it_f hf (by omega)
      exact hK _ _ hf
    · replace hf := it_t hf (by omega)
      refine q_aload_n dX8_acts_162 rfl rfl ?_
      refine g_getF (k := 9) (o := 2) (z := 58) dX8_acts_163 rfl fg_X8_13 rfl rfl rfl ?_
      refine q_iload_n dX8_acts_166 rfl rfl ?_
      refine q_aload_n dX8_acts_167 rfl rfl ?_
      refine g_getF (k := 9) (o := 2) (z := 58) dX8_acts_168 rfl fg_X8_13 rfl rfl rfl ?_
      refine q_bipush dX8_acts_171 rfl (by decide) ?_
      refine q_iload_n dX8_acts_173 rfl rfl ?_
      refine q_iadd dX8_acts_174 rfl ?_
      obtain ⟨g_64, hf⟩ := gd_ex hf
      refine q_iaload dX8_acts_175 rfl rfl g_64 ?_
      obtain ⟨g_65, hf⟩ := gd_ex hf
      refine q_iastore dX8_acts_176 rfl rfl g_65 ?_
      obtain ⟨h_66, e_h_66, hf⟩ := nm_ex hf
      rw [← e_h_66]
      refine q_iinc (ls' := [(2, 56), (0, items_56), (0, w32 (k_63 + 1))]) dX8_acts_177 rfl rfl rfl ?_
      obtain ⟨k_67, e_k_67, hf⟩ := nm_ex hf
      rw [← e_k_67]
      refine q_goto (tgt := 156) dX8_acts_180 rfl (by decide) ?_
      exact ih _ _ hf
theorem SL_X8_acts_1 (X : XS) (Kx : Int → Mem → Res) {r : Int × Mem} (hK : ∀ (items_9 : Int) (h_8 : Mem), Kx items_9 h_8 = some r → AJ X MX8_acts (rmD 7) 139 [(2, 56), (0, items_9), (3, 0)] [] h_8 (PH 0 r)) :
    ∀ (n : Nat) (items_9 : Int) (h_8 : Mem), L_X8_acts_1 Kx n items_9 h_8 = some r → AJ X MX8_acts (rmD 7) 26 [(2, 56), (0, items_9), (3, 0)] [] h_8 (PH 0 r) := by
  intro n
  induction n with
  | zero => intro items_9 h_8 hf; cases hf
  | succ n ih =>
    intro items_9 h_8 hf
    rw [L_X8_acts_1] at hf
    obtain ⟨K_10, J_K_10, hf⟩ := jn_ex (P := fun K => ∀ (h_11 : Mem), K h_11 = some r → AJ X MX8_acts (rmD 7) 139 [(2, 56), (0, items_9), (3, 0)] [] h_11 (PH 0 r)) hf (by
        intro h_11 hf
        exact hK _ _ hf)
    refine q_aload_n dX8_acts_26 rfl rfl ?_
    obtain ⟨r_12, h_13, e_14, hf⟩ := bd_ex hf
    refine g_Vb (vs := []) (st := []) dX8_acts_27 rfl (S_X8_isWell X  h_8) e_14 mf_X8_isWell ml_X8_114 rfl rfl rfl rfl (fun b_15 => ?_)
    refine q_if_eq (tgt := 139) dX8_acts_30 rfl (by decide) (fun c_16 => ?_) (fun c_16 => ?_)
    · replace hf := it_f hf (by omega)
      exact J_K_10 _ hf
    · replace hf := it_t hf (by omega)
      refine q_aload_n dX8_acts_33 rfl rfl ?_
      refine g_get (k := 5) (kz := 5) dX8_acts_34 rfl fg_X8_101 rfl rfl ?_
      refine q_if_eq (tgt := 139) dX8_acts_37 rfl (by decide) (fun c_17 => ?_) (fun c_17 => ?_)
      · replace hf := it_f hf (by omega)
        exact J_K_10 _ hf
      · replace hf := it_t hf (by omega)
        refine q_aload_n dX8_acts_40 rfl rfl ?_
        obtain ⟨v_18, e_v_18, hf⟩ := nm_ex hf
        have J_v_18 : AJ X MX8_acts (rmD 7) 82 [(2, 56), (0, items_9), (3, 0)] [(0, v_18), (2, 56)] h_13 (PH 0 r) := by
          obtain ⟨r_23, h_24, e_25, hf⟩ := bd_ex hf
          refine g_Vi (vs := [(0, v_18)]) (st := []) dX8_acts_82 rfl (S_X8_takes X v_18 h_13) e_25 mf_X8_takes ml_X8_121 rfl rfl rfl rfl ?_
          refine q_istore_n (ls' := [(2, 56), (0, items_9), (0, r_23)]) dX8_acts_85 rfl rfl (Nat.le_of_ble_eq_true rfl) rfl ?_
          obtain ⟨K_26, J_K_26, hf⟩ := jn_ex (P := fun K => ∀ (h_48 : Mem), K  h_48 = some r → AJ X MX8_acts (rmD 7) 115 [(2, 56), (0, items_9), (0, r_23)] [] h_48 (PH 0 r)) hf (by
              intro  h_48 hf
              refine q_aload_n dX8_acts_115 rfl rfl ?_
              obtain ⟨v_49, e_v_49, hf⟩ := nm_ex hf
              have J_v_49 : AJ X MX8_acts (rmD 7) 129 [(2, 56), (0, items_9), (0, r_23)] [(0, v_49), (2, 56)] h_48 (PH 0 r) := by
                obtain ⟨r_51, h_52, e_53, hf⟩ := bd_ex hf
                refine g_Vi (vs := [(0, v_49)]) (st := []) dX8_acts_129 rfl (S_X8_takes X v_49 h_48) e_53 mf_X8_takes ml_X8_121 rfl rfl rfl rfl ?_
                refine q_pop dX8_acts_132 rfl (by decide) ?_
                refine q_iinc (ls' := [(2, 56), (0, w32 (items_9 + 1)), (0, r_23)]) dX8_acts_133 rfl rfl rfl ?_
                obtain ⟨items_54, e_items_54, hf⟩ := nm_ex hf
                rw [← e_items_54]
                refine q_goto (tgt := 26) dX8_acts_136 rfl (by decide) ?_
                refine g_frg (ls' := [(2, 56), (0, items_54), (3, 0)]) [2] rfl ?_
                exact ih _ _ hf
              clear hf
              refine q_aload_n dX8_acts_116 rfl rfl ?_
              refine g_get (k := 5) (kz := 5) dX8_acts_117 rfl fg_X8_101 rfl rfl ?_
              refine q_iconst dX8_acts_120 rfl rfl ?_
              refine q_icmp_ne (tgt := 128) dX8_acts_121 rfl (by decide) (fun c_50 => ?_) (fun c_50 => ?_)
              · refine q_iconst dX8_acts_128 rfl rfl ?_
                have e1 : v_49 = 0 := by omega
                subst e1
                exact J_v_49
              · refine q_iconst dX8_acts_124 rfl rfl ?_
                refine q_goto (tgt := 129) dX8_acts_125 rfl (by decide) ?_
                have e1 : v_49 = 1 := by omega
                subst e1
                exact J_v_49)
          obtain ⟨K_27, J_K_27, hf⟩ := jn_ex (P := fun K => ∀ (h_28 : Mem), K h_28 = some r → AJ X MX8_acts (rmD 7) 104 [(2, 56), (0, items_9), (0, r_23)] [] h_28 (PH 0 r)) hf (by
              intro h_28 hf
              obtain ⟨K_29, J_K_29, hf⟩ := jn_ex (P := fun K => ∀ (h_38 : Mem), K  h_38 = some r → AJ X MX8_acts (rmD 7) 115 [(2, 56), (0, items_9), (0, r_23)] [] h_38 (PH 0 r)) hf (by
                  intro  h_38 hf
                  exact J_K_26 _ hf)
              refine q_aload_n dX8_acts_104 rfl rfl ?_
              obtain ⟨r_30, h_31, e_32, hf⟩ := bd_ex hf
              refine g_Vb (vs := []) (st := []) dX8_acts_105 rfl (S_X8_isWell X  h_28) e_32 mf_X8_isWell ml_X8_114 rfl rfl rfl rfl (fun b_33 => ?_)
              refine q_if_eq (tgt := 115) dX8_acts_108 rfl (by decide) (fun c_34 => ?_) (fun c_34 => ?_)
              · replace hf := it_f hf (by omega)
                exact J_K_29 _ hf
              · replace hf := it_t hf (by omega)
                refine q_aload_n dX8_acts_111 rfl rfl ?_
                obtain ⟨r_35, h_36, e_37, hf⟩ := bd_ex hf
                refine g_Vv (vs := []) (st := []) dX8_acts_112 rfl (S_X8_readsFeud X  h_31) e_37 mf_X8_readsFeud ml_X8_139 rfl rfl rfl rfl ?_
                exact J_K_29 _ hf)
          refine q_aload_n dX8_acts_86 rfl rfl ?_
          obtain ⟨r_39, h_40, e_41, hf⟩ := bd_ex hf
          refine g_Vb (vs := []) (st := []) dX8_acts_87 rfl (S_X8_isWell X  h_24) e_41 mf_X8_isWell ml_X8_114 rfl rfl rfl rfl (fun b_42 => ?_)
          refine q_if_eq (tgt := 104) dX8_acts_90 rfl (by decide) (fun c_43 => ?_) (fun c_43 => ?_)
          · replace hf := it_f hf (by omega)
            exact J_K_27 _ hf
          · replace hf := it_t hf (by omega)
            refine q_iload_n dX8_acts_93 rfl rfl ?_
            refine q_if_ne (tgt := 104) dX8_acts_94 rfl (by decide) (fun c_44 => ?_) (fun c_44 => ?_)
            · replace hf := it_f hf (by omega)
              exact J_K_27 _ hf
            · replace hf := it_t hf (by omega)
              refine q_aload_n dX8_acts_97 rfl rfl ?_
              obtain ⟨r_45, h_46, e_47, hf⟩ := bd_ex hf
              refine g_Vv (vs := []) (st := []) dX8_acts_98 rfl (S_X8_readsAct X  h_40) e_47 mf_X8_readsAct ml_X8_136 rfl rfl rfl rfl ?_
              refine q_goto (tgt := 115) dX8_acts_101 rfl (by decide) ?_
              exact J_K_26 _ hf
        clear hf
        refine q_aload_n dX8_acts_41 rfl rfl ?_
        refine g_get (k := 5) (kz := 5) dX8_acts_42 rfl fg_X8_101 rfl rfl ?_
        refine q_iconst dX8_acts_45 rfl rfl ?_
        refine q_icmp_ne (tgt := 81) dX8_acts_46 rfl (by decide) (fun c_19 => ?_) (fun c_19 => ?_)
        · refine q_iconst dX8_acts_81 rfl rfl ?_
          have e1 : v_18 = 0 := by omega
          subst e1
          exact J_v_18
        · refine q_aload_n dX8_acts_49 rfl rfl ?_
          refine g_get (k := 7) (kz := 7) dX8_acts_50 rfl fg_X8_108 rfl rfl ?_
          refine q_if_ne (tgt := 68) dX8_acts_53 rfl (by decide) (fun c_20 => ?_) (fun c_20 => ?_)
          · refine q_aload_n dX8_acts_68 rfl rfl ?_
            refine g_get (k := 7) (kz := 7) dX8_acts_69 rfl fg_X8_108 rfl rfl ?_
            refine q_bipush dX8_acts_72 rfl (by decide) ?_
            refine q_icmp_ne (tgt := 81) dX8_acts_74 rfl (by decide) (fun c_22 => ?_) (fun c_22 => ?_)
            · refine q_iconst dX8_acts_81 rfl rfl ?_
              have e1 : v_18 = 0 := by omega
              subst e1
              exact J_v_18
            · refine q_iconst dX8_acts_77 rfl rfl ?_
              refine q_goto (tgt := 82) dX8_acts_78 rfl (by decide) ?_
              have e1 : v_18 = 1 := by omega
              subst e1
              exact J_v_18
          · refine q_aload_n dX8_acts_56 rfl rfl ?_
            refine g_get (k := 11) (kz := 11) dX8_acts_57 rfl fg_X8_125 rfl rfl ?_
            refine q_bipush dX8_acts_60 rfl (by decide) ?_
            refine q_icmp_ge (tgt := 81) dX8_acts_62 rfl (by decide) (fun c_21 => ?_) (fun c_21 => ?_)
            · refine q_iconst dX8_acts_81 rfl rfl ?_
              have e1 : v_18 = 0 := by omega
              subst e1
              exact J_v_18
            · refine q_goto (tgt := 77) dX8_acts_65 rfl (by decide) ?_
              refine q_iconst dX8_acts_77 rfl rfl ?_
              refine q_goto (tgt := 82) dX8_acts_78 rfl (by decide) ?_
              have e1 : v_18 = 1 := by omega
              subst e1
              exact J_v_18
theorem S_X8_acts (X : XS) (h : Mem) : CT X yX8_acts MX8_acts (some .int) 0 7 [(2, 56)] h (F_X8_acts h) := by
  refine CT.ofI (by decide) rfl (Nat.le_of_ble_eq_true rfl) (fun r hf => ?_)
  unfold F_X8_acts at hf
  show AJ X MX8_acts (rmD 7) 0 [(2, 56), (3, 0), (3, 0)] [] h (PH 0 r)
  refine q_aload_n dX8_acts_0 rfl rfl ?_
  refine q_iconst dX8_acts_1 rfl rfl ?_
  refine g_put (k := 0) (kz := 0) dX8_acts_2 rfl fp_X8_68 rfl (fun q => q.1 rfl) rfl ?_
  obtain ⟨h_1, e_h_1, hf⟩ := nm_ex hf
  rw [← e_h_1]
  refine q_aload_n dX8_acts_5 rfl rfl ?_
  refine q_iconst dX8_acts_6 rfl rfl ?_
  refine g_put (k := 8) (kz := 8) dX8_acts_7 rfl fp_X8_111 rfl (fun q => q.1 rfl) rfl ?_
  obtain ⟨h_2, e_h_2, hf⟩ := nm_ex hf
  rw [← e_h_2]
  refine q_aload_n dX8_acts_10 rfl rfl ?_
  refine q_iconst dX8_acts_11 rfl rfl ?_
  refine g_put (k := 4) (kz := 4) dX8_acts_12 rfl fp_X8_91 rfl (fun q => q.1 rfl) rfl ?_
  obtain ⟨h_3, e_h_3, hf⟩ := nm_ex hf
  rw [← e_h_3]
  refine q_iconst dX8_acts_15 rfl rfl ?_
  refine q_istore_n (ls' := [(2, 56), (0, 0), (3, 0)]) dX8_acts_16 rfl rfl (Nat.le_of_ble_eq_true rfl) rfl ?_
  refine q_aload_n dX8_acts_17 rfl rfl ?_
  refine q_iconst dX8_acts_18 rfl rfl ?_
  refine g_put (k := 11) (kz := 11) dX8_acts_19 rfl fp_X8_125 rfl (fun q => q.1 rfl) rfl ?_
  obtain ⟨h_4, e_h_4, hf⟩ := nm_ex hf
  rw [← e_h_4]
  refine q_aload_n dX8_acts_22 rfl rfl ?_
  obtain ⟨r_5, h_6, e_7, hf⟩ := bd_ex hf
  refine g_Vv (vs := []) (st := []) dX8_acts_23 rfl (S_X8_advances X  h_4) e_7 mf_X8_advances ml_X8_118 rfl rfl rfl rfl ?_
  refine SL_X8_acts_1 X   _ (fun items_56 h_55 hf => ?_) FU _ _ hf
  refine q_aload_n dX8_acts_139 rfl rfl ?_
  obtain ⟨r_57, h_58, e_59, hf⟩ := bd_ex hf
  refine g_Vb (vs := []) (st := []) dX8_acts_140 rfl (S_X8_isWell X  h_55) e_59 mf_X8_isWell ml_X8_114 rfl rfl rfl rfl (fun b_60 => ?_)
  refine q_if_ne (tgt := 154) dX8_acts_143 rfl (by decide) (fun c_61 => ?_) (fun c_61 => ?_)
  · replace hf := it_t hf (by omega)
    refine q_iconst dX8_acts_154 rfl rfl ?_
    refine q_istore_n (ls' := [(2, 56), (0, items_56), (0, 0)]) dX8_acts_155 rfl rfl (Nat.le_of_ble_eq_true rfl) rfl ?_
    refine SL_X8_acts_2 X items_56  _ (fun k_70 h_69 hf => ?_) FU _ _ hf
    refine q_aload_n dX8_acts_183 rfl rfl ?_
    refine q_aload_n dX8_acts_184 rfl rfl ?_
    refine g_get (k := 11) (kz := 11) dX8_acts_185 rfl fg_X8_125 rfl rfl ?_
    refine g_put (k := 10) (kz := 10) dX8_acts_188 rfl fp_X8_142 rfl (fun q => q.1 rfl) rfl ?_
    obtain ⟨h_71, e_h_71, hf⟩ := nm_ex hf
    rw [← e_h_71]
    refine q_iconst dX8_acts_191 rfl rfl ?_
    refine q_istore_n (ls' := [(2, 56), (0, items_56), (0, 0)]) dX8_acts_192 rfl rfl (Nat.le_of_ble_eq_true rfl) rfl ?_
    refine SL_X8_acts_3 X items_56  _ (fun i_79 h_78 hf => ?_) FU _ _ hf
    refine q_aload_n dX8_acts_212 rfl rfl ?_
    refine g_getF (k := 14) (o := 5) (z := 61) dX8_acts_213 rfl fg_X8_22 rfl rfl rfl ?_
    refine q_iconst dX8_acts_216 rfl rfl ?_
    refine q_iconst dX8_acts_217 rfl rfl ?_
    refine q_iastore dX8_acts_218 rfl rfl (by decide) ?_
    obtain ⟨h_80, e_h_80, hf⟩ := nm_ex hf
    rw [← e_h_80]
    refine q_aload_n dX8_acts_219 rfl rfl ?_
    refine g_getF (k := 14) (o := 5) (z := 61) dX8_acts_220 rfl fg_X8_22 rfl rfl rfl ?_
    refine q_iconst dX8_acts_223 rfl rfl ?_
    refine q_iconst dX8_acts_224 rfl rfl ?_
    refine q_iastore dX8_acts_225 rfl rfl (by decide) ?_
    obtain ⟨h_81, e_h_81, hf⟩ := nm_ex hf
    rw [← e_h_81]
    refine q_aload_n dX8_acts_226 rfl rfl ?_
    refine q_iconst dX8_acts_227 rfl rfl ?_
    refine g_put (k := 33) (kz := 33) dX8_acts_228 rfl fp_X8_145 rfl (fun q => q.1 rfl) rfl ?_
    obtain ⟨h_82, e_h_82, hf⟩ := nm_ex hf
    rw [← e_h_82]
    refine q_aload_n dX8_acts_231 rfl rfl ?_
    refine g_getF (k := 16) (o := 7) (z := 63) dX8_acts_232 rfl fg_X8_28 rfl rfl rfl ?_
    refine q_iconst dX8_acts_235 rfl rfl ?_
    refine q_iconst dX8_acts_236 rfl rfl ?_
    refine q_bastore dX8_acts_237 rfl rfl (by decide) (Or.inl rfl) ?_
    obtain ⟨h_83, e_h_83, hf⟩ := nm_ex hf
    rw [← e_h_83]
    refine q_aload_n dX8_acts_238 rfl rfl ?_
    refine g_getF (k := 16) (o := 7) (z := 63) dX8_acts_239 rfl fg_X8_28 rfl rfl rfl ?_
    refine q_iconst dX8_acts_242 rfl rfl ?_
    refine q_iconst dX8_acts_243 rfl rfl ?_
    refine q_bastore dX8_acts_244 rfl rfl (by decide) (Or.inl rfl) ?_
    obtain ⟨h_84, e_h_84, hf⟩ := nm_ex hf
    rw [← e_h_84]
    refine q_aload_n dX8_acts_245 rfl rfl ?_
    refine q_iconst dX8_acts_246 rfl rfl ?_
    refine g_put (k := 3) (kz := 3) dX8_acts_247 rfl fp_X8_76 rfl (fun q => q.1 rfl) rfl ?_
    obtain ⟨h_85, e_h_85, hf⟩ := nm_ex hf
    rw [← e_h_85]
    refine q_iload_n dX8_acts_250 rfl rfl ?_
    exact g_ireturn dX8_acts_251 rfl hf
  · replace hf := it_f hf (by omega)
    refine q_bipush dX8_acts_146 rfl (by decide) ?_
    refine q_aload_n dX8_acts_148 rfl rfl ?_
    refine g_get (k := 8) (kz := 8) dX8_acts_149 rfl fg_X8_111 rfl rfl ?_
    refine q_isub dX8_acts_152 rfl ?_
    exact g_ireturn dX8_acts_153 rfl hf
def F_X8_isAct (i_0 : Int) (h : Mem) : Res := bd (F_X8_in i_0 0 (w32 ((h 56 10) - 1)) h) (fun r_1 (h_2 : Mem) => some (r_1, h_2))
theorem S_X8_isAct (X : XS) (i_0 : Int) (h : Mem) : CB X yX8_isAct MX8_isAct 1 [(2, 56), (0, i_0)] h (F_X8_isAct i_0 h) := by
  refine CB.of (by decide) rfl (Nat.le_of_ble_eq_true rfl) (fun r hf => ?_)
  unfold F_X8_isAct at hf
  show AJ X MX8_isAct (rmD 1) 0 [(2, 56), (0, i_0)] [] h (PB r)
  refine q_iload_n dX8_isAct_0 rfl rfl ?_
  refine q_iconst dX8_isAct_1 rfl rfl ?_
  refine q_aload_n dX8_isAct_2 rfl rfl ?_
  refine g_get (k := 10) (kz := 10) dX8_isAct_3 rfl fg_X8_142 rfl rfl ?_
  refine q_iconst dX8_isAct_6 rfl rfl ?_
  refine q_isub dX8_isAct_7 rfl ?_
  obtain ⟨r_1, h_2, e_3, hf⟩ := bd_ex hf
  refine g_Sb (vs := [(0, i_0), (0, 0), (0, w32 ((h 56 10) - 1))]) (st := []) dX8_isAct_8 rfl (S_X8_in X i_0 0 (w32 ((h 56 10) - 1)) h) e_3 mf_X8_in ml_X8_72 rfl rfl rfl (fun b_4 => ?_)
  exact g_breturn dX8_isAct_11 rfl b_4 hf
def F_X8_act (i_0 what_0 : Int) (h : Mem) : Res := nm (wr h 56 0 0) (fun (h_1 : Mem) => jn (fun (K_2 : Mem → Res) => bd (F_X8_isAct i_0 h_1) (fun r_4 (h_5 : Mem) => if (¬ r_4 = 0) then (bd (F_X8_in what_0 0 8 h_5) (fun r_9 (h_10 : Mem) => if (¬ r_9 = 0) then (if (what_0 = 8) then (gd (0 ≤ i_0 ∧ i_0 < 9) (some (h_10 60 i_0, h_10))) else (bd (F_X8_of i_0 what_0 h_10) (fun r_15 (h_16 : Mem) => some (r_15, h_16)))) else (K_2 h_10))) else (K_2 h_5))) (fun (h_3 : Mem) => some ((-1), h_3)))
theorem S_X8_act (X : XS) (i_0 : Int) (what_0 : Int) (h : Mem) : CT X yX8_act MX8_act (some .int) 0 2 [(2, 56), (0, i_0), (0, what_0)] h (F_X8_act i_0 what_0 h) := by
  refine CT.ofI (by decide) rfl (Nat.le_of_ble_eq_true rfl) (fun r hf => ?_)
  unfold F_X8_act at hf
  show AJ X MX8_act (rmD 2) 0 [(2, 56), (0, i_0), (0, what_0)] [] h (PH 0 r)
  refine q_aload_n dX8_act_0 rfl rfl ?_
  refine q_iconst dX8_act_1 rfl rfl ?_
  refine g_put (k := 0) (kz := 0) dX8_act_2 rfl fp_X8_68 rfl (fun q => q.1 rfl) rfl ?_
  obtain ⟨h_1, e_h_1, hf⟩ := nm_ex hf
  rw [← e_h_1]
  obtain ⟨K_2, J_K_2, hf⟩ := jn_ex (P := fun K => ∀ (h_3 : Mem), K h_3 = some r → AJ X MX8_act (rmD 2) 23 [(2, 56), (0, i_0), (0, what_0)] [] h_3 (PH 0 r)) hf (by
      intro h_3 hf
      refine q_iconst dX8_act_23 rfl rfl ?_
      refine q_goto (tgt := 48) dX8_act_24 rfl (by decide) ?_
      exact g_ireturn dX8_act_48 rfl hf)
  refine q_aload_n dX8_act_5 rfl rfl ?_
  refine q_iload_n dX8_act_6 rfl rfl ?_
  obtain ⟨r_4, h_5, e_6, hf⟩ := bd_ex hf
  refine g_Vb (vs := [(0, i_0)]) (st := []) dX8_act_7 rfl (S_X8_isAct X i_0 h_1) e_6 mf_X8_isAct ml_X8_148 rfl rfl rfl rfl (fun b_7 => ?_)
  refine q_if_eq (tgt := 23) dX8_act_10 rfl (by decide) (fun c_8 => ?_) (fun c_8 => ?_)
  · replace hf := it_f hf (by omega)
    exact J_K_2 _ hf
  · replace hf := it_t hf (by omega)
    refine q_iload_n dX8_act_13 rfl rfl ?_
    refine q_iconst dX8_act_14 rfl rfl ?_
    refine q_bipush dX8_act_15 rfl (by decide) ?_
    obtain ⟨r_9, h_10, e_11, hf⟩ := bd_ex hf
    refine g_Sb (vs := [(0, what_0), (0, 0), (0, 8)]) (st := []) dX8_act_17 rfl (S_X8_in X what_0 0 8 h_5) e_11 mf_X8_in ml_X8_72 rfl rfl rfl (fun b_12 => ?_)
    refine q_if_ne (tgt := 27) dX8_act_20 rfl (by decide) (fun c_13 => ?_) (fun c_13 => ?_)
    · replace hf := it_t hf (by omega)
      refine q_iload_n dX8_act_27 rfl rfl ?_
      refine q_bipush dX8_act_28 rfl (by decide) ?_
      refine q_icmp_ne (tgt := 42) dX8_act_30 rfl (by decide) (fun c_18 => ?_) (fun c_18 => ?_)
      · replace hf := it_f hf (by omega)
        refine q_aload_n dX8_act_42 rfl rfl ?_
        refine q_iload_n dX8_act_43 rfl rfl ?_
        refine q_iload_n dX8_act_44 rfl rfl ?_
        obtain ⟨r_15, h_16, e_17, hf⟩ := bd_ex hf
        refine g_Vi (vs := [(0, i_0), (0, what_0)]) (st := []) dX8_act_45 rfl (S_X8_of X i_0 what_0 h_10) e_17 mf_X8_of ml_X8_151 rfl rfl rfl rfl ?_
        exact g_ireturn dX8_act_48 rfl hf
      · replace hf := it_t hf (by omega)
        refine q_aload_n dX8_act_33 rfl rfl ?_
        refine g_getF (k := 13) (o := 4) (z := 60) dX8_act_34 rfl fg_X8_19 rfl rfl rfl ?_
        refine q_iload_n dX8_act_37 rfl rfl ?_
        obtain ⟨g_14, hf⟩ := gd_ex hf
        refine q_iaload dX8_act_38 rfl rfl g_14 ?_
        refine q_goto (tgt := 48) dX8_act_39 rfl (by decide) ?_
        exact g_ireturn dX8_act_48 rfl hf
    · replace hf := it_f hf (by omega)
      exact J_K_2 _ hf
def F_X8_feud (i_0 j_0 : Int) (h : Mem) : Res := nm (wr h 56 0 0) (fun (h_1 : Mem) => jn (fun (K_2 : Mem → Res) => bd (F_X8_isAct i_0 h_1) (fun r_4 (h_5 : Mem) => if (¬ r_4 = 0) then (bd (F_X8_isAct j_0 h_5) (fun r_9 (h_10 : Mem) => if (¬ r_9 = 0) then (if (¬ i_0 = j_0) then (bd (F_X8_of i_0 8 h_10) (fun r_15 (h_16 : Mem) => some (iand (ishr r_15 j_0) 1, h_16))) else (K_2 h_10)) else (K_2 h_10))) else (K_2 h_5))) (fun (h_3 : Mem) => some ((-1), h_3)))
theorem S_X8_feud (X : XS) (i_0 : Int) (j_0 : Int) (h : Mem) : CT X yX8_feud MX8_feud (some .int) 0 2 [(2, 56), (0, i_0), (0, j_0)] h (F_X8_feud i_0 j_0 h) := by
  refine CT.ofI (by decide) rfl (Nat.le_of_ble_eq_true rfl) (fun r hf => ?_)
  unfold F_X8_feud at hf
  show AJ X MX8_feud (rmD 2) 0 [(2, 56), (0, i_0), (0, j_0)] [] h (PH 0 r)
  refine q_aload_n dX8_feud_0 rfl rfl ?_
  refine q_iconst dX8_feud_1 rfl rfl ?_
  refine g_put (k := 0) (kz := 0) dX8_feud_2 rfl fp_X8_68 rfl (fun q => q.1 rfl) rfl ?_
  obtain ⟨h_1, e_h_1, hf⟩ := nm_ex hf
  rw [← e_h_1]
  obtain ⟨K_2, J_K_2, hf⟩ := jn_ex (P := fun K => ∀ (h_3 : Mem), K h_3 = some r → AJ X MX8_feud (rmD 2) 40 [(2, 56), (0, i_0), (0, j_0)] [] h_3 (PH 0 r)) hf (by
      intro h_3 hf
      refine q_iconst dX8_feud_40 rfl rfl ?_
      exact g_ireturn dX8_feud_41 rfl hf)
  refine q_aload_n dX8_feud_5 rfl rfl ?_
  refine q_iload_n dX8_feud_6 rfl rfl ?_
  obtain ⟨r_4, h_5, e_6, hf⟩ := bd_ex hf
  refine g_Vb (vs := [(0, i_0)]) (st := []) dX8_feud_7 rfl (S_X8_isAct X i_0 h_1) e_6 mf_X8_isAct ml_X8_148 rfl rfl rfl rfl (fun b_7 => ?_)
  refine q_if_eq (tgt := 40) dX8_feud_10 rfl (by decide) (fun c_8 => ?_) (fun c_8 => ?_)
  · replace hf := it_f hf (by omega)
    exact J_K_2 _ hf
  · replace hf := it_t hf (by omega)
    refine q_aload_n dX8_feud_13 rfl rfl ?_
    refine q_iload_n dX8_feud_14 rfl rfl ?_
    obtain ⟨r_9, h_10, e_11, hf⟩ := bd_ex hf
    refine g_Vb (vs := [(0, j_0)]) (st := []) dX8_feud_15 rfl (S_X8_isAct X j_0 h_5) e_11 mf_X8_isAct ml_X8_148 rfl rfl rfl rfl (fun b_12 => ?_)
    refine q_if_eq (tgt := 40) dX8_feud_18 rfl (by decide) (fun c_13 => ?_) (fun c_13 => ?_)
    · replace hf := it_f hf (by omega)
      exact J_K_2 _ hf
    · replace hf := it_t hf (by omega)
      refine q_iload_n dX8_feud_21 rfl rfl ?_
      refine q_iload_n dX8_feud_22 rfl rfl ?_
      refine q_icmp_eq (tgt := 40) dX8_feud_23 rfl (by decide) (fun c_14 => ?_) (fun c_14 => ?_)
      · replace hf := it_f hf (by omega)
        exact J_K_2 _ hf
      · replace hf := it_t hf (by omega)
        refine q_aload_n dX8_feud_26 rfl rfl ?_
        refine q_iload_n dX8_feud_27 rfl rfl ?_
        refine q_bipush dX8_feud_28 rfl (by decide) ?_
        obtain ⟨r_15, h_16, e_17, hf⟩ := bd_ex hf
        refine g_Vi (vs := [(0, i_0), (0, 8)]) (st := []) dX8_feud_30 rfl (S_X8_of X i_0 8 h_10) e_17 mf_X8_of ml_X8_151 rfl rfl rfl rfl ?_
        refine q_iload_n dX8_feud_33 rfl rfl ?_
        refine q_ishr dX8_feud_34 rfl ?_
        refine q_iconst dX8_feud_35 rfl rfl ?_
        refine q_iand dX8_feud_36 rfl ?_
        refine q_goto (tgt := 41) dX8_feud_37 rfl (by decide) ?_
        exact g_ireturn dX8_feud_41 rfl hf
def F_X8_tune (what_0 v_0 : Int) (h : Mem) : Res := nm (wr h 56 0 0) (fun (h_1 : Mem) => nm (α := Int) (if (what_0 = 1) then 10 else 0) (fun v_2 => nm (α := Int) (if (what_0 = 1) then 400 else (if (what_0 = 2) then 30 else (if (what_0 = 4) then 10 else (if (what_0 = 6) then 99 else (if (what_0 = 7) then 999 else 9))))) (fun v_4 => jn (fun (K_10 : Mem → Res) => bd (F_X8_in what_0 0 7 h_1) (fun r_12 (h_13 : Mem) => if (¬ r_12 = 0) then (bd (F_X8_in v_0 v_2 v_4 h_13) (fun r_17 (h_18 : Mem) => if (¬ r_17 = 0) then (gd (0 ≤ what_0 ∧ what_0 < 8) (nm (h_18 59 what_0) (fun was_23 => nm (wr h_18 59 what_0 v_0) (fun (h_24 : Mem) => some (was_23, h_24))))) else (K_10 h_18))) else (K_10 h_13))) (fun (h_11 : Mem) => some ((-1), h_11)))))
theorem S_X8_tune (X : XS) (what_0 : Int) (v_0 : Int) (h : Mem) : CT X yX8_tune MX8_tune (some .int) 0 1 [(2, 56), (0, what_0), (0, v_0)] h (F_X8_tune what_0 v_0 h) := by
  refine CT.ofI (by decide) rfl (Nat.le_of_ble_eq_true rfl) (fun r hf => ?_)
  unfold F_X8_tune at hf
  show AJ X MX8_tune (rmD 1) 0 [(2, 56), (0, what_0), (0, v_0), (3, 0), (3, 0), (3, 0)] [] h (PH 0 r)
  refine q_aload_n dX8_tune_0 rfl rfl ?_
  refine q_iconst dX8_tune_1 rfl rfl ?_
  refine g_put (k := 0) (kz := 0) dX8_tune_2 rfl fp_X8_68 rfl (fun q => q.1 rfl) rfl ?_
  obtain ⟨h_1, e_h_1, hf⟩ := nm_ex hf
  rw [← e_h_1]
  obtain ⟨v_2, e_v_2, hf⟩ := nm_ex hf
  have J_v_2 : AJ X MX8_tune (rmD 1) 16 [(2, 56), (0, what_0), (0, v_0), (3, 0), (3, 0), (3, 0)] [(0, v_2)] h_1 (PH 0 r) := by
    refine q_istore_n (ls' := [(2, 56), (0, what_0), (0, v_0), (0, v_2), (3, 0), (3, 0)]) dX8_tune_16 rfl rfl (Nat.le_of_ble_eq_true rfl) rfl ?_
    obtain ⟨v_4, e_v_4, hf⟩ := nm_ex hf
    have J_v_4 : AJ X MX8_tune (rmD 1) 73 [(2, 56), (0, what_0), (0, v_0), (0, v_2), (3, 0), (3, 0)] [(0, v_4)] h_1 (PH 0 r) := by
      refine q_istore (ls' := [(2, 56), (0, what_0), (0, v_0), (0, v_2), (0, v_4), (3, 0)]) dX8_tune_73 rfl (Nat.le_of_ble_eq_true rfl) rfl ?_
      obtain ⟨K_10, J_K_10, hf⟩ := jn_ex (P := fun K => ∀ (h_11 : Mem), K h_11 = some r → AJ X MX8_tune (rmD 1) 95 [(2, 56), (0, what_0), (0, v_0), (0, v_2), (0, v_4), (3, 0)] [] h_11 (PH 0 r)) hf (by
          intro h_11 hf
          refine q_iconst dX8_tune_95 rfl rfl ?_
          exact g_ireturn dX8_tune_96 rfl hf)
      refine q_iload_n dX8_tune_75 rfl rfl ?_
      refine q_iconst dX8_tune_76 rfl rfl ?_
      refine q_bipush dX8_tune_77 rfl (by decide) ?_
      obtain ⟨r_12, h_13, e_14, hf⟩ := bd_ex hf
      refine g_Sb (vs := [(0, what_0), (0, 0), (0, 7)]) (st := []) dX8_tune_79 rfl (S_X8_in X what_0 0 7 h_1) e_14 mf_X8_in ml_X8_72 rfl rfl rfl (fun b_15 => ?_)
      refine q_if_eq (tgt := 95) dX8_tune_82 rfl (by decide) (fun c_16 => ?_) (fun c_16 => ?_)
      · replace hf := it_f hf (by omega)
        exact J_K_10 _ hf
      · replace hf := it_t hf (by omega)
        refine q_iload_n dX8_tune_85 rfl rfl ?_
        refine q_iload_n dX8_tune_86 rfl rfl ?_
        refine q_iload dX8_tune_87 rfl rfl ?_
        obtain ⟨r_17, h_18, e_19, hf⟩ := bd_ex hf
        refine g_Sb (vs := [(0, v_0), (0, v_2), (0, v_4)]) (st := []) dX8_tune_89 rfl (S_X8_in X v_0 v_2 v_4 h_13) e_19 mf_X8_in ml_X8_72 rfl rfl rfl (fun b_20 => ?_)
        refine q_if_ne (tgt := 97) dX8_tune_92 rfl (by decide) (fun c_21 => ?_) (fun c_21 => ?_)
        · replace hf := it_t hf (by omega)
          refine q_aload_n dX8_tune_97 rfl rfl ?_
          refine g_getF (k := 12) (o := 3) (z := 59) dX8_tune_98 rfl fg_X8_16 rfl rfl rfl ?_
          refine q_iload_n dX8_tune_101 rfl rfl ?_
          obtain ⟨g_22, hf⟩ := gd_ex hf
          refine q_iaload dX8_tune_102 rfl rfl g_22 ?_
          obtain ⟨was_23, e_was_23, hf⟩ := nm_ex hf
          rw [← e_was_23]
          refine q_istore (ls' := [(2, 56), (0, what_0), (0, v_0), (0, v_2), (0, v_4), (0, was_23)]) dX8_tune_103 rfl (Nat.le_of_ble_eq_true rfl) rfl ?_
          refine q_aload_n dX8_tune_105 rfl rfl ?_
          refine g_getF (k := 12) (o := 3) (z := 59) dX8_tune_106 rfl fg_X8_16 rfl rfl rfl ?_
          refine q_iload_n dX8_tune_109 rfl rfl ?_
          refine q_iload_n dX8_tune_110 rfl rfl ?_
          refine q_iastore dX8_tune_111 rfl rfl g_22 ?_
          obtain ⟨h_24, e_h_24, hf⟩ := nm_ex hf
          rw [← e_h_24]
          refine q_iload dX8_tune_112 rfl rfl ?_
          exact g_ireturn dX8_tune_114 rfl hf
        · replace hf := it_f hf (by omega)
          exact J_K_10 _ hf
    clear hf
    refine q_iload_n dX8_tune_17 rfl rfl ?_
    refine q_iconst dX8_tune_18 rfl rfl ?_
    refine q_icmp_ne (tgt := 28) dX8_tune_19 rfl (by decide) (fun c_5 => ?_) (fun c_5 => ?_)
    · refine q_iload_n dX8_tune_28 rfl rfl ?_
      refine q_iconst dX8_tune_29 rfl rfl ?_
      refine q_icmp_ne (tgt := 38) dX8_tune_30 rfl (by decide) (fun c_6 => ?_) (fun c_6 => ?_)
      · refine q_iload_n dX8_tune_38 rfl rfl ?_
        refine q_iconst dX8_tune_39 rfl rfl ?_
        refine q_icmp_ne (tgt := 48) dX8_tune_40 rfl (by decide) (fun c_7 => ?_) (fun c_7 => ?_)
        · refine q_iload_n dX8_tune_48 rfl rfl ?_
          refine q_bipush dX8_tune_49 rfl (by decide) ?_
          refine q_icmp_ne (tgt := 59) dX8_tune_51 rfl (by decide) (fun c_8 => ?_) (fun c_8 => ?_)
          · refine q_iload_n dX8_tune_59 rfl rfl ?_
            refine q_bipush dX8_tune_60 rfl (by decide) ?_
            refine q_icmp_ne (tgt := 71) dX8_tune_62 rfl (by decide) (fun c_9 => ?_) (fun c_9 => ?_)
            · refine q_bipush dX8_tune_71 rfl (by decide) ?_
              have e1 : v_4 = 9 := by omega
              subst e1
              exact J_v_4
            · refine q_sipush dX8_tune_65 rfl (by decide) ?_
              refine q_goto (tgt := 73) dX8_tune_68 rfl (by decide) ?_
              have e1 : v_4 = 999 := by omega
              subst e1
              exact J_v_4
          · refine q_bipush dX8_tune_54 rfl (by decide) ?_
            refine q_goto (tgt := 73) dX8_tune_56 rfl (by decide) ?_
            have e1 : v_4 = 99 := by omega
            subst e1
            exact J_v_4
        · refine q_bipush dX8_tune_43 rfl (by decide) ?_
          refine q_goto (tgt := 73) dX8_tune_45 rfl (by decide) ?_
          have e1 : v_4 = 10 := by omega
          subst e1
          exact J_v_4
      · refine q_bipush dX8_tune_33 rfl (by decide) ?_
        refine q_goto (tgt := 73) dX8_tune_35 rfl (by decide) ?_
        have e1 : v_4 = 30 := by omega
        subst e1
        exact J_v_4
    · refine q_sipush dX8_tune_22 rfl (by decide) ?_
      refine q_goto (tgt := 73) dX8_tune_25 rfl (by decide) ?_
      have e1 : v_4 = 400 := by omega
      subst e1
      exact J_v_4
  clear hf
  refine q_iload_n dX8_tune_5 rfl rfl ?_
  refine q_iconst dX8_tune_6 rfl rfl ?_
  refine q_icmp_ne (tgt := 15) dX8_tune_7 rfl (by decide) (fun c_3 => ?_) (fun c_3 => ?_)
  · refine q_iconst dX8_tune_15 rfl rfl ?_
    have e1 : v_2 = 0 := by omega
    subst e1
    exact J_v_2
  · refine q_bipush dX8_tune_10 rfl (by decide) ?_
    refine q_goto (tgt := 16) dX8_tune_12 rfl (by decide) ?_
    have e1 : v_2 = 10 := by omega
    subst e1
    exact J_v_2
def F_X8_family (i_0 v_0 : Int) (h : Mem) : Res := nm (wr h 56 0 0) (fun (h_1 : Mem) => jn (fun (K_2 : Mem → Res) => bd (F_X8_isAct i_0 h_1) (fun r_4 (h_5 : Mem) => if (¬ r_4 = 0) then (bd (F_X8_in v_0 0 99 h_5) (fun r_9 (h_10 : Mem) => if (¬ r_9 = 0) then (gd (0 ≤ i_0 ∧ i_0 < 9) (nm (h_10 60 i_0) (fun was_15 => nm (wr h_10 60 i_0 v_0) (fun (h_16 : Mem) => some (was_15, h_16))))) else (K_2 h_10))) else (K_2 h_5))) (fun (h_3 : Mem) => some ((-1), h_3)))
theorem S_X8_family (X : XS) (i_0 : Int) (v_0 : Int) (h : Mem) : CT X yX8_family MX8_family (some .int) 0 2 [(2, 56), (0, i_0), (0, v_0)] h (F_X8_family i_0 v_0 h) := by
  refine CT.ofI (by decide) rfl (Nat.le_of_ble_eq_true rfl) (fun r hf => ?_)
  unfold F_X8_family at hf
  show AJ X MX8_family (rmD 2) 0 [(2, 56), (0, i_0), (0, v_0), (3, 0)] [] h (PH 0 r)
  refine q_aload_n dX8_family_0 rfl rfl ?_
  refine q_iconst dX8_family_1 rfl rfl ?_
  refine g_put (k := 0) (kz := 0) dX8_family_2 rfl fp_X8_68 rfl (fun q => q.1 rfl) rfl ?_
  obtain ⟨h_1, e_h_1, hf⟩ := nm_ex hf
  rw [← e_h_1]
  obtain ⟨K_2, J_K_2, hf⟩ := jn_ex (P := fun K => ∀ (h_3 : Mem), K h_3 = some r → AJ X MX8_family (rmD 2) 23 [(2, 56), (0, i_0), (0, v_0), (3, 0)] [] h_3 (PH 0 r)) hf (by
      intro h_3 hf
      refine q_iconst dX8_family_23 rfl rfl ?_
      exact g_ireturn dX8_family_24 rfl hf)
  refine q_aload_n dX8_family_5 rfl rfl ?_
  refine q_iload_n dX8_family_6 rfl rfl ?_
  obtain ⟨r_4, h_5, e_6, hf⟩ := bd_ex hf
  refine g_Vb (vs := [(0, i_0)]) (st := []) dX8_family_7 rfl (S_X8_isAct X i_0 h_1) e_6 mf_X8_isAct ml_X8_148 rfl rfl rfl rfl (fun b_7 => ?_)
  refine q_if_eq (tgt := 23) dX8_family_10 rfl (by decide) (fun c_8 => ?_) (fun c_8 => ?_)
  · replace hf := it_f hf (by omega)
    exact J_K_2 _ hf
  · replace hf := it_t hf (by omega)
    refine q_iload_n dX8_family_13 rfl rfl ?_
    refine q_iconst dX8_family_14 rfl rfl ?_
    refine q_bipush dX8_family_15 rfl (by decide) ?_
    obtain ⟨r_9, h_10, e_11, hf⟩ := bd_ex hf
    refine g_Sb (vs := [(0, v_0), (0, 0), (0, 99)]) (st := []) dX8_family_17 rfl (S_X8_in X v_0 0 99 h_5) e_11 mf_X8_in ml_X8_72 rfl rfl rfl (fun b_12 => ?_)
    refine q_if_ne (tgt := 25) dX8_family_20 rfl (by decide) (fun c_13 => ?_) (fun c_13 => ?_)
    · replace hf := it_t hf (by omega)
      refine q_aload_n dX8_family_25 rfl rfl ?_
      refine g_getF (k := 13) (o := 4) (z := 60) dX8_family_26 rfl fg_X8_19 rfl rfl rfl ?_
      refine q_iload_n dX8_family_29 rfl rfl ?_
      obtain ⟨g_14, hf⟩ := gd_ex hf
      refine q_iaload dX8_family_30 rfl rfl g_14 ?_
      obtain ⟨was_15, e_was_15, hf⟩ := nm_ex hf
      rw [← e_was_15]
      refine q_istore_n (ls' := [(2, 56), (0, i_0), (0, v_0), (0, was_15)]) dX8_family_31 rfl rfl (Nat.le_of_ble_eq_true rfl) rfl ?_
      refine q_aload_n dX8_family_32 rfl rfl ?_
      refine g_getF (k := 13) (o := 4) (z := 60) dX8_family_33 rfl fg_X8_19 rfl rfl rfl ?_
      refine q_iload_n dX8_family_36 rfl rfl ?_
      refine q_iload_n dX8_family_37 rfl rfl ?_
      refine q_iastore dX8_family_38 rfl rfl g_14 ?_
      obtain ⟨h_16, e_h_16, hf⟩ := nm_ex hf
      rw [← e_h_16]
      refine q_iload_n dX8_family_39 rfl rfl ?_
      exact g_ireturn dX8_family_40 rfl hf
    · replace hf := it_f hf (by omega)
      exact J_K_2 _ hf
def L_X8_placeOf_1 (i_0 : Int) (Kx : Int → Mem → Res) : Nat → Int → Mem → Res
  | 0, _, _ => none
  | n + 1, p_2, h_1 => if (p_2 < (h_1 61 0)) then (gd (0 ≤ (w32 (3 + p_2)) ∧ (w32 (3 + p_2)) < 12) (if ((h_1 61 (w32 (3 + p_2))) = i_0) then (some (p_2, h_1)) else (nm (w32 (p_2 + 1)) (fun p_5 => L_X8_placeOf_1 i_0 Kx n p_5 h_1)))) else (Kx p_2 h_1)
def F_X8_placeOf (i_0 : Int) (h : Mem) : Res := L_X8_placeOf_1 i_0 (fun p_8 (h_7 : Mem) => some ((-9), h_7)) FU 0 h
theorem SL_X8_placeOf_1 (X : XS) (i_0 : Int) (Kx : Int → Mem → Res) {r : Int × Mem} (hK : ∀ (p_2 : Int) (h_1 : Mem), Kx p_2 h_1 = some r → AJ X MX8_placeOf (rmD 0) 32 [(2, 56), (0, i_0), (0, p_2)] [] h_1 (PH 0 r)) :
    ∀ (n : Nat) (p_2 : Int) (h_1 : Mem), L_X8_placeOf_1 i_0 Kx n p_2 h_1 = some r → AJ X MX8_placeOf (rmD 0) 2 [(2, 56), (0, i_0), (0, p_2)] [] h_1 (PH 0 r) := by
  intro n
  induction n with
  | zero => intro p_2 h_1 hf; cases hf
  | succ n ih =>
    intro p_2 h_1 hf
    rw [L_X8_placeOf_1] at hf
    refine q_iload_n dX8_placeOf_2 rfl rfl ?_
    refine q_aload_n dX8_placeOf_3 rfl rfl ?_
    refine g_getF (k := 14) (o := 5) (z := 61) dX8_placeOf_4 rfl fg_X8_22 rfl rfl rfl ?_
    refine q_iconst dX8_placeOf_7 rfl rfl ?_
    refine q_iaload dX8_placeOf_8 rfl rfl (by decide) ?_
    refine q_icmp_ge (tgt := 32) dX8_placeOf_9 rfl (by decide) (fun c_6 => ?_) (fun c_6 => ?_)
    · replace hf := it_f hf (by omega)
      exact hK _ _ hf
    · replace hf := it_t hf (by omega)
      refine q_aload_n dX8_placeOf_12 rfl rfl ?_
      refine g_getF (k := 14) (o := 5) (z := 61) dX8_placeOf_13 rfl fg_X8_22 rfl rfl rfl ?_
      refine q_iconst dX8_placeOf_16 rfl rfl ?_
      refine q_iload_n dX8_placeOf_17 rfl rfl ?_
      refine q_iadd dX8_placeOf_18 rfl ?_
      obtain ⟨g_3, hf⟩ := gd_ex hf
      refine q_iaload dX8_placeOf_19 rfl rfl g_3 ?_
      refine q_iload_n dX8_placeOf_20 rfl rfl ?_
      refine q_icmp_ne (tgt := 26) dX8_placeOf_21 rfl (by decide) (fun c_4 => ?_) (fun c_4 => ?_)
      · replace hf := it_f hf (by omega)
        refine q_iinc (ls' := [(2, 56), (0, i_0), (0, w32 (p_2 + 1))]) dX8_placeOf_26 rfl rfl rfl ?_
        obtain ⟨p_5, e_p_5, hf⟩ := nm_ex hf
        rw [← e_p_5]
        refine q_goto (tgt := 2) dX8_placeOf_29 rfl (by decide) ?_
        exact ih _ _ hf
      · replace hf := it_t hf (by omega)
        refine q_iload_n dX8_placeOf_24 rfl rfl ?_
        exact g_ireturn dX8_placeOf_25 rfl hf
theorem S_X8_placeOf (X : XS) (i_0 : Int) (h : Mem) : CT X yX8_placeOf MX8_placeOf (some .int) 0 0 [(2, 56), (0, i_0)] h (F_X8_placeOf i_0 h) := by
  refine CT.ofI (by decide) rfl (Nat.le_of_ble_eq_true rfl) (fun r hf => ?_)
  unfold F_X8_placeOf at hf
  show AJ X MX8_placeOf (rmD 0) 0 [(2, 56), (0, i_0), (3, 0)] [] h (PH 0 r)
  refine q_iconst dX8_placeOf_0 rfl rfl ?_
  refine q_istore_n (ls' := [(2, 56), (0, i_0), (0, 0)]) dX8_placeOf_1 rfl rfl (Nat.le_of_ble_eq_true rfl) rfl ?_
  refine SL_X8_placeOf_1 X i_0  _ (fun p_8 h_7 hf => ?_) FU _ _ hf
  refine q_bipush dX8_placeOf_32 rfl (by decide) ?_
  exact g_ireturn dX8_placeOf_34 rfl hf
def F_X8_place (i_0 : Int) (h : Mem) : Res := nm (wr h 56 0 0) (fun (h_1 : Mem) => bd (F_X8_isAct i_0 h_1) (fun r_2 (h_3 : Mem) => if (¬ r_2 = 0) then (bd (F_X8_placeOf i_0 h_3) (fun r_7 (h_8 : Mem) => if (¬ r_7 = (-9)) then (some ((-2), h_8)) else (gd (0 ≤ (w32 (3 + (h_8 61 0))) ∧ (w32 (3 + (h_8 61 0))) < 12) (nm (wr h_8 61 (w32 (3 + (h_8 61 0))) i_0) (fun (h_12 : Mem) => nm (wr h_12 61 0 (w32 ((h_12 61 0) + 1))) (fun (h_13 : Mem) => some (h_13 61 0, h_13))))))) else (some ((-1), h_3))))
theorem S_X8_place (X : XS) (i_0 : Int) (h : Mem) : CT X yX8_place MX8_place (some .int) 0 2 [(2, 56), (0, i_0)] h (F_X8_place i_0 h) := by
  refine CT.ofI (by decide) rfl (Nat.le_of_ble_eq_true rfl) (fun r hf => ?_)
  unfold F_X8_place at hf
  show AJ X MX8_place (rmD 2) 0 [(2, 56), (0, i_0)] [] h (PH 0 r)
  refine q_aload_n dX8_place_0 rfl rfl ?_
  refine q_iconst dX8_place_1 rfl rfl ?_
  refine g_put (k := 0) (kz := 0) dX8_place_2 rfl fp_X8_68 rfl (fun q => q.1 rfl) rfl ?_
  obtain ⟨h_1, e_h_1, hf⟩ := nm_ex hf
  rw [← e_h_1]
  refine q_aload_n dX8_place_5 rfl rfl ?_
  refine q_iload_n dX8_place_6 rfl rfl ?_
  obtain ⟨r_2, h_3, e_4, hf⟩ := bd_ex hf
  refine g_Vb (vs := [(0, i_0)]) (st := []) dX8_place_7 rfl (S_X8_isAct X i_0 h_1) e_4 mf_X8_isAct ml_X8_148 rfl rfl rfl rfl (fun b_5 => ?_)
  refine q_if_ne (tgt := 15) dX8_place_10 rfl (by decide) (fun c_6 => ?_) (fun c_6 => ?_)
  · replace hf := it_t hf (by omega)
    refine q_aload_n dX8_place_15 rfl rfl ?_
    refine q_iload_n dX8_place_16 rfl rfl ?_
    obtain ⟨r_7, h_8, e_9, hf⟩ := bd_ex hf
    refine g_Vi (vs := [(0, i_0)]) (st := []) dX8_place_17 rfl (S_X8_placeOf X i_0 h_3) e_9 mf_X8_placeOf ml_X8_154 rfl rfl rfl rfl ?_
    refine q_bipush dX8_place_20 rfl (by decide) ?_
    refine q_icmp_eq (tgt := 28) dX8_place_22 rfl (by decide) (fun c_10 => ?_) (fun c_10 => ?_)
    · replace hf := it_f hf (by omega)
      refine q_aload_n dX8_place_28 rfl rfl ?_
      refine g_getF (k := 14) (o := 5) (z := 61) dX8_place_29 rfl fg_X8_22 rfl rfl rfl ?_
      refine q_iconst dX8_place_32 rfl rfl ?_
      refine q_aload_n dX8_place_33 rfl rfl ?_
      refine g_getF (k := 14) (o := 5) (z := 61) dX8_place_34 rfl fg_X8_22 rfl rfl rfl ?_
      refine q_iconst dX8_place_37 rfl rfl ?_
      refine q_iaload dX8_place_38 rfl rfl (by decide) ?_
      refine q_iadd dX8_place_39 rfl ?_
      refine q_iload_n dX8_place_40 rfl rfl ?_
      obtain ⟨g_11, hf⟩ := gd_ex hf
      refine q_iastore dX8_place_41 rfl rfl g_11 ?_
      obtain ⟨h_12, e_h_12, hf⟩ := nm_ex hf
      rw [← e_h_12]
      refine q_aload_n dX8_place_42 rfl rfl ?_
      refine g_getF (k := 14) (o := 5) (z := 61) dX8_place_43 rfl fg_X8_22 rfl rfl rfl ?_
      refine q_iconst dX8_place_46 rfl rfl ?_
      refine q_dup2 dX8_place_47 rfl (by decide) (by decide) ?_
      refine q_iaload dX8_place_48 rfl rfl (by decide) ?_
      refine q_iconst dX8_place_49 rfl rfl ?_
      refine q_iadd dX8_place_50 rfl ?_
      refine q_iastore dX8_place_51 rfl rfl (by decide) ?_
      obtain ⟨h_13, e_h_13, hf⟩ := nm_ex hf
      rw [← e_h_13]
      refine q_aload_n dX8_place_52 rfl rfl ?_
      refine g_getF (k := 14) (o := 5) (z := 61) dX8_place_53 rfl fg_X8_22 rfl rfl rfl ?_
      refine q_iconst dX8_place_56 rfl rfl ?_
      refine q_iaload dX8_place_57 rfl rfl (by decide) ?_
      exact g_ireturn dX8_place_58 rfl hf
    · replace hf := it_t hf (by omega)
      refine q_bipush dX8_place_25 rfl (by decide) ?_
      exact g_ireturn dX8_place_27 rfl hf
  · replace hf := it_f hf (by omega)
    refine q_iconst dX8_place_13 rfl rfl ?_
    exact g_ireturn dX8_place_14 rfl hf
def F_X8_empty (h : Mem) : Res := nm (wr h 56 0 0) (fun (h_1 : Mem) => nm (h_1 61 0) (fun was_2 => nm (wr h_1 61 0 0) (fun (h_3 : Mem) => nm (wr h_3 61 1 0) (fun (h_4 : Mem) => some (was_2, h_4)))))
theorem S_X8_empty (X : XS) (h : Mem) : CT X yX8_empty MX8_empty (some .int) 0 0 [(2, 56)] h (F_X8_empty h) := by
  refine CT.ofI (by decide) rfl (Nat.le_of_ble_eq_true rfl) (fun r hf => ?_)
  unfold F_X8_empty at hf
  show AJ X MX8_empty (rmD 0) 0 [(2, 56), (3, 0)] [] h (PH 0 r)
  refine q_aload_n dX8_empty_0 rfl rfl ?_
  refine q_iconst dX8_empty_1 rfl rfl ?_
  refine g_put (k := 0) (kz := 0) dX8_empty_2 rfl fp_X8_68 rfl (fun q => q.1 rfl) rfl ?_
  obtain ⟨h_1, e_h_1, hf⟩ := nm_ex hf
  rw [← e_h_1]
  refine q_aload_n dX8_empty_5 rfl rfl ?_
  refine g_getF (k := 14) (o := 5) (z := 61) dX8_empty_6 rfl fg_X8_22 rfl rfl rfl ?_
  refine q_iconst dX8_empty_9 rfl rfl ?_
  refine q_iaload dX8_empty_10 rfl rfl (by decide) ?_
  obtain ⟨was_2, e_was_2, hf⟩ := nm_ex hf
  rw [← e_was_2]
  refine q_istore_n (ls' := [(2, 56), (0, was_2)]) dX8_empty_11 rfl rfl (Nat.le_of_ble_eq_true rfl) rfl ?_
  refine q_aload_n dX8_empty_12 rfl rfl ?_
  refine g_getF (k := 14) (o := 5) (z := 61) dX8_empty_13 rfl fg_X8_22 rfl rfl rfl ?_
  refine q_iconst dX8_empty_16 rfl rfl ?_
  refine q_iconst dX8_empty_17 rfl rfl ?_
  refine q_iastore dX8_empty_18 rfl rfl (by decide) ?_
  obtain ⟨h_3, e_h_3, hf⟩ := nm_ex hf
  rw [← e_h_3]
  refine q_aload_n dX8_empty_19 rfl rfl ?_
  refine g_getF (k := 14) (o := 5) (z := 61) dX8_empty_20 rfl fg_X8_22 rfl rfl rfl ?_
  refine q_iconst dX8_empty_23 rfl rfl ?_
  refine q_iconst dX8_empty_24 rfl rfl ?_
  refine q_iastore dX8_empty_25 rfl rfl (by decide) ?_
  obtain ⟨h_4, e_h_4, hf⟩ := nm_ex hf
  rw [← e_h_4]
  refine q_iload_n dX8_empty_26 rfl rfl ?_
  exact g_ireturn dX8_empty_27 rfl hf
def F_X8_rest (b_0 : Int) (h : Mem) : Res := nm (wr h 56 0 0) (fun (h_1 : Mem) => bd (F_X8_in b_0 0 (w32 ((h_1 61 0) - 1)) h_1) (fun r_2 (h_3 : Mem) => if (¬ r_2 = 0) then (nm (h_3 61 1) (fun was_7 => nm (wr h_3 61 1 b_0) (fun (h_8 : Mem) => some (was_7, h_8)))) else (some ((-1), h_3))))
theorem S_X8_rest (X : XS) (b_0 : Int) (h : Mem) : CT X yX8_rest MX8_rest (some .int) 0 1 [(2, 56), (0, b_0)] h (F_X8_rest b_0 h) := by
  refine CT.ofI (by decide) rfl (Nat.le_of_ble_eq_true rfl) (fun r hf => ?_)
  unfold F_X8_rest at hf
  show AJ X MX8_rest (rmD 1) 0 [(2, 56), (0, b_0), (3, 0)] [] h (PH 0 r)
  refine q_aload_n dX8_rest_0 rfl rfl ?_
  refine q_iconst dX8_rest_1 rfl rfl ?_
  refine g_put (k := 0) (kz := 0) dX8_rest_2 rfl fp_X8_68 rfl (fun q => q.1 rfl) rfl ?_
  obtain ⟨h_1, e_h_1, hf⟩ := nm_ex hf
  rw [← e_h_1]
  refine q_iload_n dX8_rest_5 rfl rfl ?_
  refine q_iconst dX8_rest_6 rfl rfl ?_
  refine q_aload_n dX8_rest_7 rfl rfl ?_
  refine g_getF (k := 14) (o := 5) (z := 61) dX8_rest_8 rfl fg_X8_22 rfl rfl rfl ?_
  refine q_iconst dX8_rest_11 rfl rfl ?_
  refine q_iaload dX8_rest_12 rfl rfl (by decide) ?_
  refine q_iconst dX8_rest_13 rfl rfl ?_
  refine q_isub dX8_rest_14 rfl ?_
  obtain ⟨r_2, h_3, e_4, hf⟩ := bd_ex hf
  refine g_Sb (vs := [(0, b_0), (0, 0), (0, w32 ((h_1 61 0) - 1))]) (st := []) dX8_rest_15 rfl (S_X8_in X b_0 0 (w32 ((h_1 61 0) - 1)) h_1) e_4 mf_X8_in ml_X8_72 rfl rfl rfl (fun b_5 => ?_)
  refine q_if_ne (tgt := 23) dX8_rest_18 rfl (by decide) (fun c_6 => ?_) (fun c_6 => ?_)
  · replace hf := it_t hf (by omega)
    refine q_aload_n dX8_rest_23 rfl rfl ?_
    refine g_getF (k := 14) (o := 5) (z := 61) dX8_rest_24 rfl fg_X8_22 rfl rfl rfl ?_
    refine q_iconst dX8_rest_27 rfl rfl ?_
    refine q_iaload dX8_rest_28 rfl rfl (by decide) ?_
    obtain ⟨was_7, e_was_7, hf⟩ := nm_ex hf
    rw [← e_was_7]
    refine q_istore_n (ls' := [(2, 56), (0, b_0), (0, was_7)]) dX8_rest_29 rfl rfl (Nat.le_of_ble_eq_true rfl) rfl ?_
    refine q_aload_n dX8_rest_30 rfl rfl ?_
    refine g_getF (k := 14) (o := 5) (z := 61) dX8_rest_31 rfl fg_X8_22 rfl rfl rfl ?_
    refine q_iconst dX8_rest_34 rfl rfl ?_
    refine q_iload_n dX8_rest_35 rfl rfl ?_
    refine q_iastore dX8_rest_36 rfl rfl (by decide) ?_
    obtain ⟨h_8, e_h_8, hf⟩ := nm_ex hf
    rw [← e_h_8]
    refine q_iload_n dX8_rest_37 rfl rfl ?_
    exact g_ireturn dX8_rest_38 rfl hf
  · replace hf := it_f hf (by omega)
    refine q_iconst dX8_rest_21 rfl rfl ?_
    exact g_ireturn dX8_rest_22 rfl hf
def F_X8_isPlace (p_0 : Int) (h : Mem) : Res := bd (F_X8_in p_0 0 (w32 ((h 61 0) - 1)) h) (fun r_1 (h_2 : Mem) => some (r_1, h_2))
theorem S_X8_isPlace (X : XS) (p_0 : Int) (h : Mem) : CB X yX8_isPlace MX8_isPlace 1 [(2, 56), (0, p_0)] h (F_X8_isPlace p_0 h) := by
  refine CB.of (by decide) rfl (Nat.le_of_ble_eq_true rfl) (fun r hf => ?_)
  unfold F_X8_isPlace at hf
  show AJ X MX8_isPlace (rmD 1) 0 [(2, 56), (0, p_0)] [] h (PB r)
  refine q_iload_n dX8_isPlace_0 rfl rfl ?_
  refine q_iconst dX8_isPlace_1 rfl rfl ?_
  refine q_aload_n dX8_isPlace_2 rfl rfl ?_
  refine g_getF (k := 14) (o := 5) (z := 61) dX8_isPlace_3 rfl fg_X8_22 rfl rfl rfl ?_
  refine q_iconst dX8_isPlace_6 rfl rfl ?_
  refine q_iaload dX8_isPlace_7 rfl rfl (by decide) ?_
  refine q_iconst dX8_isPlace_8 rfl rfl ?_
  refine q_isub dX8_isPlace_9 rfl ?_
  obtain ⟨r_1, h_2, e_3, hf⟩ := bd_ex hf
  refine g_Sb (vs := [(0, p_0), (0, 0), (0, w32 ((h 61 0) - 1))]) (st := []) dX8_isPlace_10 rfl (S_X8_in X p_0 0 (w32 ((h 61 0) - 1)) h) e_3 mf_X8_in ml_X8_72 rfl rfl rfl (fun b_4 => ?_)
  exact g_breturn dX8_isPlace_13 rfl b_4 hf
def F_X8_on (p_0 : Int) (h : Mem) : Res := nm (wr h 56 0 0) (fun (h_1 : Mem) => bd (F_X8_isPlace p_0 h_1) (fun r_2 (h_3 : Mem) => if (¬ r_2 = 0) then (gd (0 ≤ (w32 (3 + p_0)) ∧ (w32 (3 + p_0)) < 12) (some (h_3 61 (w32 (3 + p_0)), h_3))) else (some ((-1), h_3))))
theorem S_X8_on (X : XS) (p_0 : Int) (h : Mem) : CT X yX8_on MX8_on (some .int) 0 2 [(2, 56), (0, p_0)] h (F_X8_on p_0 h) := by
  refine CT.ofI (by decide) rfl (Nat.le_of_ble_eq_true rfl) (fun r hf => ?_)
  unfold F_X8_on at hf
  show AJ X MX8_on (rmD 2) 0 [(2, 56), (0, p_0)] [] h (PH 0 r)
  refine q_aload_n dX8_on_0 rfl rfl ?_
  refine q_iconst dX8_on_1 rfl rfl ?_
  refine g_put (k := 0) (kz := 0) dX8_on_2 rfl fp_X8_68 rfl (fun q => q.1 rfl) rfl ?_
  obtain ⟨h_1, e_h_1, hf⟩ := nm_ex hf
  rw [← e_h_1]
  refine q_aload_n dX8_on_5 rfl rfl ?_
  refine q_iload_n dX8_on_6 rfl rfl ?_
  obtain ⟨r_2, h_3, e_4, hf⟩ := bd_ex hf
  refine g_Vb (vs := [(0, p_0)]) (st := []) dX8_on_7 rfl (S_X8_isPlace X p_0 h_1) e_4 mf_X8_isPlace ml_X8_157 rfl rfl rfl rfl (fun b_5 => ?_)
  refine q_if_eq (tgt := 24) dX8_on_10 rfl (by decide) (fun c_6 => ?_) (fun c_6 => ?_)
  · replace hf := it_f hf (by omega)
    refine q_iconst dX8_on_24 rfl rfl ?_
    exact g_ireturn dX8_on_25 rfl hf
  · replace hf := it_t hf (by omega)
    refine q_aload_n dX8_on_13 rfl rfl ?_
    refine g_getF (k := 14) (o := 5) (z := 61) dX8_on_14 rfl fg_X8_22 rfl rfl rfl ?_
    refine q_iconst dX8_on_17 rfl rfl ?_
    refine q_iload_n dX8_on_18 rfl rfl ?_
    refine q_iadd dX8_on_19 rfl ?_
    obtain ⟨g_7, hf⟩ := gd_ex hf
    refine q_iaload dX8_on_20 rfl rfl g_7 ?_
    refine q_goto (tgt := 25) dX8_on_21 rfl (by decide) ?_
    exact g_ireturn dX8_on_25 rfl hf
def L_X8_asBilled_1 (Kx : Int → Mem → Res) : Nat → Int → Mem → Res
  | 0, _, _ => none
  | n + 1, p_4, h_3 => if (p_4 < (h_3 56 18)) then (gd (0 ≤ (w32 (3 + p_4)) ∧ (w32 (3 + p_4)) < 12) (gd (0 ≤ p_4 ∧ p_4 < 10) (nm (wr h_3 64 p_4 (h_3 61 (w32 (3 + p_4)))) (fun (h_7 : Mem) => nm (w32 (p_4 + 1)) (fun p_8 => L_X8_asBilled_1 Kx n p_8 h_7))))) else (Kx p_4 h_3)
def F_X8_asBilled (h : Mem) : Res := nm (wr h 56 18 (h 61 0)) (fun (h_1 : Mem) => nm (wr h_1 56 19 (h_1 61 1)) (fun (h_2 : Mem) => L_X8_asBilled_1 (fun p_11 (h_10 : Mem) => some (0, h_10)) FU 0 h_2))
theorem SL_X8_asBilled_1 (X : XS) (Kx : Int → Mem → Res) {r : Int × Mem} (hK : ∀ (p_4 : Int) (h_3 : Mem), Kx p_4 h_3 = some r → AJ X MX8_asBilled (rmD 0) 50 [(2, 56), (0, p_4)] [] h_3 (PH 9 r)) :
    ∀ (n : Nat) (p_4 : Int) (h_3 : Mem), L_X8_asBilled_1 Kx n p_4 h_3 = some r → AJ X MX8_asBilled (rmD 0) 22 [(2, 56), (0, p_4)] [] h_3 (PH 9 r) := by
  intro n
  induction n with
  | zero => intro p_4 h_3 hf; cases hf
  | succ n ih =>
    intro p_4 h_3 hf
    rw [L_X8_asBilled_1] at hf
    refine q_iload_n dX8_asBilled_22 rfl rfl ?_
    refine q_aload_n dX8_asBilled_23 rfl rfl ?_
    refine g_get (k := 18) (kz := 18) dX8_asBilled_24 rfl fg_X8_160 rfl rfl ?_
    refine q_icmp_ge (tgt := 50) dX8_asBilled_27 rfl (by decide) (fun c_9 => ?_) (fun c_9 => ?_)
    · replace hf := it_f hf (by omega)
      exact hK _ _ hf
    · replace hf := it_t hf (by omega)
      refine q_aload_n dX8_asBilled_30 rfl rfl ?_
      refine g_getF (k := 17) (o := 8) (z := 64) dX8_asBilled_31 rfl fg_X8_32 rfl rfl rfl ?_
      refine q_iload_n dX8_asBilled_34 rfl rfl ?_
      refine q_aload_n dX8_asBilled_35 rfl rfl ?_
      refine g_getF (k := 14) (o := 5) (z := 61) dX8_asBilled_36 rfl fg_X8_22 rfl rfl rfl ?_
      refine q_iconst dX8_asBilled_39 rfl rfl ?_
      refine q_iload_n dX8_asBilled_40 rfl rfl ?_
      refine q_iadd dX8_asBilled_41 rfl ?_
      obtain ⟨g_5, hf⟩ := gd_ex hf
      refine q_iaload dX8_asBilled_42 rfl rfl g_5 ?_
      obtain ⟨g_6, hf⟩ := gd_ex hf
      refine q_iastore dX8_asBilled_43 rfl rfl g_6 ?_
      obtain ⟨h_7, e_h_7, hf⟩ := nm_ex hf
      rw [← e_h_7]
      refine q_iinc (ls' := [(2, 56), (0, w32 (p_4 + 1))]) dX8_asBilled_44 rfl rfl rfl ?_
      obtain ⟨p_8, e_p_8, hf⟩ := nm_ex hf
      rw [← e_p_8]
      refine q_goto (tgt := 22) dX8_asBilled_47 rfl (by decide) ?_
      exact ih _ _ hf
theorem S_X8_asBilled (X : XS) (h : Mem) : CT X yX8_asBilled MX8_asBilled none 9 0 [(2, 56)] h (F_X8_asBilled h) := by
  refine CT.ofV (by decide) rfl (Nat.le_of_ble_eq_true rfl) (fun r hf => ?_)
  unfold F_X8_asBilled at hf
  show AJ X MX8_asBilled (rmD 0) 0 [(2, 56), (3, 0)] [] h (PH 9 r)
  refine q_aload_n dX8_asBilled_0 rfl rfl ?_
  refine q_aload_n dX8_asBilled_1 rfl rfl ?_
  refine g_getF (k := 14) (o := 5) (z := 61) dX8_asBilled_2 rfl fg_X8_22 rfl rfl rfl ?_
  refine q_iconst dX8_asBilled_5 rfl rfl ?_
  refine q_iaload dX8_asBilled_6 rfl rfl (by decide) ?_
  refine g_put (k := 18) (kz := 18) dX8_asBilled_7 rfl fp_X8_160 rfl (fun q => q.1 rfl) rfl ?_
  obtain ⟨h_1, e_h_1, hf⟩ := nm_ex hf
  rw [← e_h_1]
  refine q_aload_n dX8_asBilled_10 rfl rfl ?_
  refine q_aload_n dX8_asBilled_11 rfl rfl ?_
  refine g_getF (k := 14) (o := 5) (z := 61) dX8_asBilled_12 rfl fg_X8_22 rfl rfl rfl ?_
  refine q_iconst dX8_asBilled_15 rfl rfl ?_
  refine q_iaload dX8_asBilled_16 rfl rfl (by decide) ?_
  refine g_put (k := 19) (kz := 19) dX8_asBilled_17 rfl fp_X8_163 rfl (fun q => q.1 rfl) rfl ?_
  obtain ⟨h_2, e_h_2, hf⟩ := nm_ex hf
  rw [← e_h_2]
  refine q_iconst dX8_asBilled_20 rfl rfl ?_
  refine q_istore_n (ls' := [(2, 56), (0, 0)]) dX8_asBilled_21 rfl rfl (Nat.le_of_ble_eq_true rfl) rfl ?_
  refine SL_X8_asBilled_1 X   _ (fun p_11 h_10 hf => ?_) FU _ _ hf
  exact g_return dX8_asBilled_50 rfl hf
def F_X8_end (p_0 : Int) (h : Mem) : Res := gd (0 ≤ p_0 ∧ p_0 < 10) (bd (F_X8_of (h 64 p_0) 1 h) (fun r_2 (h_3 : Mem) => some (w32 ((h 66 p_0) + r_2), h_3)))
theorem S_X8_end (X : XS) (p_0 : Int) (h : Mem) : CT X yX8_end MX8_end (some .int) 0 1 [(2, 56), (0, p_0)] h (F_X8_end p_0 h) := by
  refine CT.ofI (by decide) rfl (Nat.le_of_ble_eq_true rfl) (fun r hf => ?_)
  unfold F_X8_end at hf
  show AJ X MX8_end (rmD 1) 0 [(2, 56), (0, p_0)] [] h (PH 0 r)
  refine q_aload_n dX8_end_0 rfl rfl ?_
  refine g_getF (k := 21) (o := 10) (z := 66) dX8_end_1 rfl fg_X8_38 rfl rfl rfl ?_
  refine q_iload_n dX8_end_4 rfl rfl ?_
  obtain ⟨g_1, hf⟩ := gd_ex hf
  refine q_iaload dX8_end_5 rfl rfl g_1 ?_
  refine q_aload_n dX8_end_6 rfl rfl ?_
  refine q_aload_n dX8_end_7 rfl rfl ?_
  refine g_getF (k := 17) (o := 8) (z := 64) dX8_end_8 rfl fg_X8_32 rfl rfl rfl ?_
  refine q_iload_n dX8_end_11 rfl rfl ?_
  refine q_iaload dX8_end_12 rfl rfl g_1 ?_
  refine q_iconst dX8_end_13 rfl rfl ?_
  obtain ⟨r_2, h_3, e_4, hf⟩ := bd_ex hf
  refine g_Vi (vs := [(0, h 64 p_0), (0, 1)]) (st := [(0, h 66 p_0)]) dX8_end_14 rfl (S_X8_of X (h 64 p_0) 1 h) e_4 mf_X8_of ml_X8_151 rfl rfl rfl rfl ?_
  refine q_iadd dX8_end_17 rfl ?_
  exact g_ireturn dX8_end_18 rfl hf
def F_X8_isFront (p_0 : Int) (h : Mem) : Res := gd (0 ≤ p_0 ∧ p_0 < 10) (bd (F_X8_of (h 64 p_0) 3 h) (fun r_2 (h_3 : Mem) => if (r_2 = 1) then (some (1, h_3)) else (some (0, h_3))))
theorem S_X8_isFront (X : XS) (p_0 : Int) (h : Mem) : CB X yX8_isFront MX8_isFront 1 [(2, 56), (0, p_0)] h (F_X8_isFront p_0 h) := by
  refine CB.of (by decide) rfl (Nat.le_of_ble_eq_true rfl) (fun r hf => ?_)
  unfold F_X8_isFront at hf
  show AJ X MX8_isFront (rmD 1) 0 [(2, 56), (0, p_0)] [] h (PB r)
  refine q_aload_n dX8_isFront_0 rfl rfl ?_
  refine q_aload_n dX8_isFront_1 rfl rfl ?_
  refine g_getF (k := 17) (o := 8) (z := 64) dX8_isFront_2 rfl fg_X8_32 rfl rfl rfl ?_
  refine q_iload_n dX8_isFront_5 rfl rfl ?_
  obtain ⟨g_1, hf⟩ := gd_ex hf
  refine q_iaload dX8_isFront_6 rfl rfl g_1 ?_
  refine q_iconst dX8_isFront_7 rfl rfl ?_
  obtain ⟨r_2, h_3, e_4, hf⟩ := bd_ex hf
  refine g_Vi (vs := [(0, h 64 p_0), (0, 3)]) (st := []) dX8_isFront_8 rfl (S_X8_of X (h 64 p_0) 3 h) e_4 mf_X8_of ml_X8_151 rfl rfl rfl rfl ?_
  refine q_iconst dX8_isFront_11 rfl rfl ?_
  refine q_icmp_ne (tgt := 19) dX8_isFront_12 rfl (by decide) (fun c_5 => ?_) (fun c_5 => ?_)
  · replace hf := it_f hf (by omega)
    refine q_iconst dX8_isFront_19 rfl rfl ?_
    exact g_breturn dX8_isFront_20 rfl (Or.inl rfl) hf
  · replace hf := it_t hf (by omega)
    refine q_iconst dX8_isFront_15 rfl rfl ?_
    refine q_goto (tgt := 20) dX8_isFront_16 rfl (by decide) ?_
    exact g_breturn dX8_isFront_20 rfl (Or.inr rfl) hf
def L_X8_gapOf_1 (p_0 : Int) (Kx : Int → Int → Mem → Res) : Nat → Int → Int → Mem → Res
  | 0, _, _, _ => none
  | n + 1, v_12, q_13, h_11 => jn (fun (K_14 : Mem → Res) => if (0 ≤ q_13) then (bd (F_X8_isFront q_13 h_11) (fun r_17 (h_18 : Mem) => if (¬ r_17 = 0) then (gd (0 ≤ q_13 ∧ q_13 < 10) (bd (F_X8_of (h_18 64 q_13) 1 h_18) (fun r_23 (h_24 : Mem) => nm (w32 (v_12 - r_23)) (fun v_26 => nm (w32 (q_13 + (-1))) (fun q_27 => L_X8_gapOf_1 p_0 Kx n v_26 q_27 h_24))))) else (K_14 h_18))) else (K_14 h_11)) (fun (h_15 : Mem) => Kx v_12 q_13 h_15)
def F_X8_gapOf (p_0 : Int) (h : Mem) : Res := bd (F_X8_isFront p_0 h) (fun r_1 (h_2 : Mem) => if (¬ r_1 = 0) then (some (0, h_2)) else (gd (0 ≤ p_0 ∧ p_0 < 10) (bd (F_X8_of (h_2 64 p_0) 4 h_2) (fun r_7 (h_8 : Mem) => nm (w32 (p_0 - 1)) (fun q_10 => L_X8_gapOf_1 p_0 (fun v_29 q_30 (h_28 : Mem) => jn (fun (K_31 : Int → Mem → Res) => if (0 ≤ q_30) then (gd (0 ≤ q_30 ∧ q_30 < 10) (bd (F_X8_of (h_28 64 q_30) 5 h_28) (fun r_33 (h_34 : Mem) => K_31 r_33 h_34))) else (K_31 0 h_28)) (fun v_38 (h_37 : Mem) => nm (w32 (v_29 + v_38)) (fun v_39 => nm (α := Int) (if (((0 < (h_37 56 19)) ∧ (q_30 < (h_37 56 19))) ∧ ((h_37 56 19) ≤ p_0)) then (h_37 59 2) else 0) (fun v_40 => nm (w32 (v_39 - v_40)) (fun v_44 => if (v_44 < 0) then (some (0, h_37)) else (some (v_44, h_37))))))) FU r_7 q_10 h_8)))))
theorem SL_X8_gapOf_1 (X : XS) (p_0 : Int) (Kx : Int → Int → Mem → Res) {r : Int × Mem} (hK : ∀ (v_12 q_13 : Int) (h_11 : Mem), Kx v_12 q_13 h_11 = some r → AJ X MX8_gapOf (rmD 2) 58 [(2, 56), (0, p_0), (0, v_12), (0, q_13)] [] h_11 (PH 0 r)) :
    ∀ (n : Nat) (v_12 q_13 : Int) (h_11 : Mem), L_X8_gapOf_1 p_0 Kx n v_12 q_13 h_11 = some r → AJ X MX8_gapOf (rmD 2) 26 [(2, 56), (0, p_0), (0, v_12), (0, q_13)] [] h_11 (PH 0 r) := by
  intro n
  induction n with
  | zero => intro v_12 q_13 h_11 hf; cases hf
  | succ n ih =>
    intro v_12 q_13 h_11 hf
    rw [L_X8_gapOf_1] at hf
    obtain ⟨K_14, J_K_14, hf⟩ := jn_ex (P := fun K => ∀ (h_15 : Mem), K h_15 = some r → AJ X MX8_gapOf (rmD 2) 58 [(2, 56), (0, p_0), (0, v_12), (0, q_13)] [] h_15 (PH 0 r)) hf (by
        intro h_15 hf
        exact hK _ _ _ hf)
    refine q_iload_n dX8_gapOf_26 rfl rfl ?_
    refine q_if_lt (tgt := 58) dX8_gapOf_27 rfl (by decide) (fun c_16 => ?_) (fun c_16 => ?_)
    · replace hf := it_f hf (by omega)
      exact J_K_14 _ hf
    · replace hf := it_t hf (by omega)
      refine q_aload_n dX8_gapOf_30 rfl rfl ?_
      refine q_iload_n dX8_gapOf_31 rfl rfl ?_
      obtain ⟨r_17, h_18, e_19, hf⟩ := bd_ex hf
      refine g_Vb (vs := [(0, q_13)]) (st := []) dX8_gapOf_32 rfl (S_X8_isFront X q_13 h_11) e_19 mf_X8_isFront ml_X8_166 rfl rfl rfl rfl (fun b_20 => ?_)
      refine q_if_eq (tgt := 58) dX8_gapOf_35 rfl (by decide) (fun c_21 => ?_) (fun c_21 => ?_)
      · replace hf := it_f hf (by omega)
        exact J_K_14 _ hf
      · replace hf := it_t hf (by omega)
        refine q_iload_n dX8_gapOf_38 rfl rfl ?_
        refine q_aload_n dX8_gapOf_39 rfl rfl ?_
        refine q_aload_n dX8_gapOf_40 rfl rfl ?_
        refine g_getF (k := 17) (o := 8) (z := 64) dX8_gapOf_41 rfl fg_X8_32 rfl rfl rfl ?_
        refine q_iload_n dX8_gapOf_44 rfl rfl ?_
        obtain ⟨g_22, hf⟩ := gd_ex hf
        refine q_iaload dX8_gapOf_45 rfl rfl g_22 ?_
        refine q_iconst dX8_gapOf_46 rfl rfl ?_
        obtain ⟨r_23, h_24, e_25, hf⟩ := bd_ex hf
        refine g_Vi (vs := [(0, h_18 64 q_13), (0, 1)]) (st := [(0, v_12)]) dX8_gapOf_47 rfl (S_X8_of X (h_18 64 q_13) 1 h_18) e_25 mf_X8_of ml_X8_151 rfl rfl rfl rfl ?_
        refine q_isub dX8_gapOf_50 rfl ?_
        obtain ⟨v_26, e_v_26, hf⟩ := nm_ex hf
        rw [← e_v_26]
        refine q_istore_n (ls' := [(2, 56), (0, p_0), (0, v_26), (0, q_13)]) dX8_gapOf_51 rfl rfl (Nat.le_of_ble_eq_true rfl) rfl ?_
        refine q_iinc (ls' := [(2, 56), (0, p_0), (0, v_26), (0, w32 (q_13 + (-1)))]) dX8_gapOf_52 rfl rfl rfl ?_
        obtain ⟨q_27, e_q_27, hf⟩ := nm_ex hf
        rw [← e_q_27]
        refine q_goto (tgt := 26) dX8_gapOf_55 rfl (by decide) ?_
        exact ih _ _ _ hf
theorem S_X8_gapOf (X : XS) (p_0 : Int) (h : Mem) : CT X yX8_gapOf MX8_gapOf (some .int) 0 2 [(2, 56), (0, p_0)] h (F_X8_gapOf p_0 h) := by
  refine CT.ofI (by decide) rfl (Nat.le_of_ble_eq_true rfl) (fun r hf => ?_)
  unfold F_X8_gapOf at hf
  show AJ X MX8_gapOf (rmD 2) 0 [(2, 56), (0, p_0), (3, 0), (3, 0)] [] h (PH 0 r)
  refine q_aload_n dX8_gapOf_0 rfl rfl ?_
  refine q_iload_n dX8_gapOf_1 rfl rfl ?_
  obtain ⟨r_1, h_2, e_3, hf⟩ := bd_ex hf
  refine g_Vb (vs := [(0, p_0)]) (st := []) dX8_gapOf_2 rfl (S_X8_isFront X p_0 h) e_3 mf_X8_isFront ml_X8_166 rfl rfl rfl rfl (fun b_4 => ?_)
  refine q_if_eq (tgt := 10) dX8_gapOf_5 rfl (by decide) (fun c_5 => ?_) (fun c_5 => ?_)
  · replace hf := it_f hf (by omega)
    refine q_aload_n dX8_gapOf_10 rfl rfl ?_
    refine q_aload_n dX8_gapOf_11 rfl rfl ?_
    refine g_getF (k := 17) (o := 8) (z := 64) dX8_gapOf_12 rfl fg_X8_32 rfl rfl rfl ?_
    refine q_iload_n dX8_gapOf_15 rfl rfl ?_
    obtain ⟨g_6, hf⟩ := gd_ex hf
    refine q_iaload dX8_gapOf_16 rfl rfl g_6 ?_
    refine q_iconst dX8_gapOf_17 rfl rfl ?_
    obtain ⟨r_7, h_8, e_9, hf⟩ := bd_ex hf
    refine g_Vi (vs := [(0, h_2 64 p_0), (0, 4)]) (st := []) dX8_gapOf_18 rfl (S_X8_of X (h_2 64 p_0) 4 h_2) e_9 mf_X8_of ml_X8_151 rfl rfl rfl rfl ?_
    refine q_istore_n (ls' := [(2, 56), (0, p_0), (0, r_7), (3, 0)]) dX8_gapOf_21 rfl rfl (Nat.le_of_ble_eq_true rfl) rfl ?_
    refine q_iload_n dX8_gapOf_22 rfl rfl ?_
    refine q_iconst dX8_gapOf_23 rfl rfl ?_
    refine q_isub dX8_gapOf_24 rfl ?_
    obtain ⟨q_10, e_q_10, hf⟩ := nm_ex hf
    rw [← e_q_10]
    refine q_istore_n (ls' := [(2, 56), (0, p_0), (0, r_7), (0, q_10)]) dX8_gapOf_25 rfl rfl (Nat.le_of_ble_eq_true rfl) rfl ?_
    refine SL_X8_gapOf_1 X p_0  _ (fun v_29 q_30 h_28 hf => ?_) FU _ _ _ hf
    refine q_iload_n dX8_gapOf_58 rfl rfl ?_
    obtain ⟨K_31, J_K_31, hf⟩ := jn_ex (P := fun K => ∀ (v_38 : Int) (h_37 : Mem), K v_38 h_37 = some r → AJ X MX8_gapOf (rmD 2) 78 [(2, 56), (0, p_0), (0, v_29), (0, q_30)] [(0, v_38), (0, v_29)] h_37 (PH 0 r)) hf (by
        intro v_38 h_37 hf
        refine q_iadd dX8_gapOf_78 rfl ?_
        obtain ⟨v_39, e_v_39, hf⟩ := nm_ex hf
        rw [← e_v_39]
        refine q_istore_n (ls' := [(2, 56), (0, p_0), (0, v_39), (0, q_30)]) dX8_gapOf_79 rfl rfl (Nat.le_of_ble_eq_true rfl) rfl ?_
        refine q_iload_n dX8_gapOf_80 rfl rfl ?_
        obtain ⟨v_40, e_v_40, hf⟩ := nm_ex hf
        have J_v_40 : AJ X MX8_gapOf (rmD 2) 114 [(2, 56), (0, p_0), (0, v_39), (0, q_30)] [(0, v_40), (0, v_39)] h_37 (PH 0 r) := by
          refine q_isub dX8_gapOf_114 rfl ?_
          obtain ⟨v_44, e_v_44, hf⟩ := nm_ex hf
          rw [← e_v_44]
          refine q_istore_n (ls' := [(2, 56), (0, p_0), (0, v_44), (0, q_30)]) dX8_gapOf_115 rfl rfl (Nat.le_of_ble_eq_true rfl) rfl ?_
          refine q_iload_n dX8_gapOf_116 rfl rfl ?_
          refine q_if_ge (tgt := 124) dX8_gapOf_117 rfl (by decide) (fun c_45 => ?_) (fun c_45 => ?_)
          · replace hf := it_f hf (by omega)
            refine q_iload_n dX8_gapOf_124 rfl rfl ?_
            exact g_ireturn dX8_gapOf_125 rfl hf
          · replace hf := it_t hf (by omega)
            refine q_iconst dX8_gapOf_120 rfl rfl ?_
            refine q_goto (tgt := 125) dX8_gapOf_121 rfl (by decide) ?_
            exact g_ireturn dX8_gapOf_125 rfl hf
        clear hf
        refine q_aload_n dX8_gapOf_81 rfl rfl ?_
        refine g_get (k := 19) (kz := 19) dX8_gapOf_82 rfl fg_X8_163 rfl rfl ?_
        refine q_if_le (tgt := 113) dX8_gapOf_85 rfl (by decide) (fun c_41 => ?_) (fun c_41 => ?_)
        · refine q_iconst dX8_gapOf_113 rfl rfl ?_
          have e1 : v_40 = 0 := by omega
          subst e1
          exact J_v_40
        · refine q_aload_n dX8_gapOf_88 rfl rfl ?_
          refine g_get (k := 19) (kz := 19) dX8_gapOf_89 rfl fg_X8_163 rfl rfl ?_
          refine q_iload_n dX8_gapOf_92 rfl rfl ?_
          refine q_icmp_le (tgt := 113) dX8_gapOf_93 rfl (by decide) (fun c_42 => ?_) (fun c_42 => ?_)
          · refine q_iconst dX8_gapOf_113 rfl rfl ?_
            have e1 : v_40 = 0 := by omega
            subst e1
            exact J_v_40
          · refine q_aload_n dX8_gapOf_96 rfl rfl ?_
            refine g_get (k := 19) (kz := 19) dX8_gapOf_97 rfl fg_X8_163 rfl rfl ?_
            refine q_iload_n dX8_gapOf_100 rfl rfl ?_
            refine q_icmp_gt (tgt := 113) dX8_gapOf_101 rfl (by decide) (fun c_43 => ?_) (fun c_43 => ?_)
            · refine q_iconst dX8_gapOf_113 rfl rfl ?_
              have e1 : v_40 = 0 := by omega
              subst e1
              exact J_v_40
            · refine q_aload_n dX8_gapOf_104 rfl rfl ?_
              refine g_getF (k := 12) (o := 3) (z := 59) dX8_gapOf_105 rfl fg_X8_16 rfl rfl rfl ?_
              refine q_iconst dX8_gapOf_108 rfl rfl ?_
              refine q_iaload dX8_gapOf_109 rfl rfl (by decide) ?_
              refine q_goto (tgt := 114) dX8_gapOf_110 rfl (by decide) ?_
              have e1 : v_40 = h_37 59 2 := by omega
              subst e1
              exact J_v_40)
    refine q_iload_n dX8_gapOf_59 rfl rfl ?_
    refine q_if_lt (tgt := 77) dX8_gapOf_60 rfl (by decide) (fun c_36 => ?_) (fun c_36 => ?_)
    · replace hf := it_f hf (by omega)
      refine q_iconst dX8_gapOf_77 rfl rfl ?_
      exact J_K_31 _ _ hf
    · replace hf := it_t hf (by omega)
      refine q_aload_n dX8_gapOf_63 rfl rfl ?_
      refine q_aload_n dX8_gapOf_64 rfl rfl ?_
      refine g_getF (k := 17) (o := 8) (z := 64) dX8_gapOf_65 rfl fg_X8_32 rfl rfl rfl ?_
      refine q_iload_n dX8_gapOf_68 rfl rfl ?_
      obtain ⟨g_32, hf⟩ := gd_ex hf
      refine q_iaload dX8_gapOf_69 rfl rfl g_32 ?_
      refine q_iconst dX8_gapOf_70 rfl rfl ?_
      obtain ⟨r_33, h_34, e_35, hf⟩ := bd_ex hf
      refine g_Vi (vs := [(0, h_28 64 q_30), (0, 5)]) (st := [(0, v_29)]) dX8_gapOf_71 rfl (S_X8_of X (h_28 64 q_30) 5 h_28) e_35 mf_X8_of ml_X8_151 rfl rfl rfl rfl ?_
      refine q_goto (tgt := 78) dX8_gapOf_74 rfl (by decide) ?_
      exact J_K_31 _ _ hf
  · replace hf := it_t hf (by omega)
    refine q_iconst dX8_gapOf_8 rfl rfl ?_
    exact g_ireturn dX8_gapOf_9 rfl hf
def L_X8_lays_1 (Kx : Int → Mem → Res) : Nat → Int → Mem → Res
  | 0, _, _ => none
  | n + 1, p_2, h_1 => if (p_2 < (h_1 56 18)) then (bd (F_X8_gapOf p_2 h_1) (fun r_3 (h_4 : Mem) => gd (0 ≤ p_2 ∧ p_2 < 10) (nm (wr h_4 65 p_2 r_3) (fun (h_7 : Mem) => jn (fun (K_8 : Int → Mem → Res) => if (p_2 = 0) then (K_8 0 h_7) else (bd (F_X8_end (w32 (p_2 - 1)) h_7) (fun r_9 (h_10 : Mem) => K_8 r_9 h_10))) (fun v_14 (h_13 : Mem) => nm (α := Int) (if ((0 < (h_13 56 19)) ∧ (p_2 = (h_13 56 19))) then (h_13 59 2) else 0) (fun v_15 => nm (wr h_13 66 p_2 (w32 ((w32 (v_14 + v_15)) + (h_13 65 p_2)))) (fun (h_18 : Mem) => nm (w32 (p_2 + 1)) (fun p_19 => L_X8_lays_1 Kx n p_19 h_18)))))))) else (Kx p_2 h_1)
def F_X8_lays (h : Mem) : Res := L_X8_lays_1 (fun p_22 (h_21 : Mem) => some (0, h_21)) FU 0 h
theorem SL_X8_lays_1 (X : XS) (Kx : Int → Mem → Res) {r : Int × Mem} (hK : ∀ (p_2 : Int) (h_1 : Mem), Kx p_2 h_1 = some r → AJ X MX8_lays (rmD 3) 81 [(2, 56), (0, p_2)] [] h_1 (PH 9 r)) :
    ∀ (n : Nat) (p_2 : Int) (h_1 : Mem), L_X8_lays_1 Kx n p_2 h_1 = some r → AJ X MX8_lays (rmD 3) 2 [(2, 56), (0, p_2)] [] h_1 (PH 9 r) := by
  intro n
  induction n with
  | zero => intro p_2 h_1 hf; cases hf
  | succ n ih =>
    intro p_2 h_1 hf
    rw [L_X8_lays_1] at hf
    refine q_iload_n dX8_lays_2 rfl rfl ?_
    refine q_aload_n dX8_lays_3 rfl rfl ?_
    refine g_get (k := 18) (kz := 18) dX8_lays_4 rfl fg_X8_160 rfl rfl ?_
    refine q_icmp_ge (tgt := 81) dX8_lays_7 rfl (by decide) (fun c_20 => ?_) (fun c_20 => ?_)
    · replace hf := it_f hf (by omega)
      exact hK _ _ hf
    · replace hf := it_t hf (by omega)
      refine q_aload_n dX8_lays_10 rfl rfl ?_
      refine g_getF (k := 20) (o := 9) (z := 65) dX8_lays_11 rfl fg_X8_35 rfl rfl rfl ?_
      refine q_iload_n dX8_lays_14 rfl rfl ?_
      refine q_aload_n dX8_lays_15 rfl rfl ?_
      refine q_iload_n dX8_lays_16 rfl rfl ?_
      obtain ⟨r_3, h_4, e_5, hf⟩ := bd_ex hf
      refine g_Vi (vs := [(0, p_2)]) (st := [(0, p_2), (2, 65)]) dX8_lays_17 rfl (S_X8_gapOf X p_2 h_1) e_5 mf_X8_gapOf ml_X8_169 rfl rfl rfl rfl ?_
      obtain ⟨g_6, hf⟩ := gd_ex hf
      refine q_iastore dX8_lays_20 rfl rfl g_6 ?_
      obtain ⟨h_7, e_h_7, hf⟩ := nm_ex hf
      rw [← e_h_7]
      refine q_aload_n dX8_lays_21 rfl rfl ?_
      refine g_getF (k := 21) (o := 10) (z := 66) dX8_lays_22 rfl fg_X8_38 rfl rfl rfl ?_
      refine q_iload_n dX8_lays_25 rfl rfl ?_
      obtain ⟨K_8, J_K_8, hf⟩ := jn_ex (P := fun K => ∀ (v_14 : Int) (h_13 : Mem), K v_14 h_13 = some r → AJ X MX8_lays (rmD 3) 41 [(2, 56), (0, p_2)] [(0, v_14), (0, p_2), (2, 66)] h_13 (PH 9 r)) hf (by
          intro v_14 h_13 hf
          obtain ⟨v_15, e_v_15, hf⟩ := nm_ex hf
          have J_v_15 : AJ X MX8_lays (rmD 3) 66 [(2, 56), (0, p_2)] [(0, v_15), (0, v_14), (0, p_2), (2, 66)] h_13 (PH 9 r) := by
            refine q_iadd dX8_lays_66 rfl ?_
            refine q_aload_n dX8_lays_67 rfl rfl ?_
            refine g_getF (k := 20) (o := 9) (z := 65) dX8_lays_68 rfl fg_X8_35 rfl rfl rfl ?_
            refine q_iload_n dX8_lays_71 rfl rfl ?_
            refine q_iaload dX8_lays_72 rfl rfl g_6 ?_
            refine q_iadd dX8_lays_73 rfl ?_
            refine q_iastore dX8_lays_74 rfl rfl g_6 ?_
            obtain ⟨h_18, e_h_18, hf⟩ := nm_ex hf
            rw [← e_h_18]
            refine q_iinc (ls' := [(2, 56), (0, w32 (p_2 + 1))]) dX8_lays_75 rfl rfl rfl ?_
            obtain ⟨p_19, e_p_19, hf⟩ := nm_ex hf
            rw [← e_p_19]
            refine q_goto (tgt := 2) dX8_lays_78 rfl (by decide) ?_
            exact ih _ _ hf
          clear hf
          refine q_aload_n dX8_lays_41 rfl rfl ?_
          refine g_get (k := 19) (kz := 19) dX8_lays_42 rfl fg_X8_163 rfl rfl ?_
          refine q_if_le (tgt := 65) dX8_lays_45 rfl (by decide) (fun c_16 => ?_) (fun c_16 => ?_)
          · refine q_iconst dX8_lays_65 rfl rfl ?_
            have e1 : v_15 = 0 := by omega
            subst e1
            exact J_v_15
          · refine q_iload_n dX8_lays_48 rfl rfl ?_
            refine q_aload_n dX8_lays_49 rfl rfl ?_
            refine g_get (k := 19) (kz := 19) dX8_lays_50 rfl fg_X8_163 rfl rfl ?_
            refine q_icmp_ne (tgt := 65) dX8_lays_53 rfl (by decide) (fun c_17 => ?_) (fun c_17 => ?_)
            · refine q_iconst dX8_lays_65 rfl rfl ?_
              have e1 : v_15 = 0 := by omega
              subst e1
              exact J_v_15
            · refine q_aload_n dX8_lays_56 rfl rfl ?_
              refine g_getF (k := 12) (o := 3) (z := 59) dX8_lays_57 rfl fg_X8_16 rfl rfl rfl ?_
              refine q_iconst dX8_lays_60 rfl rfl ?_
              refine q_iaload dX8_lays_61 rfl rfl (by decide) ?_
              refine q_goto (tgt := 66) dX8_lays_62 rfl (by decide) ?_
              have e1 : v_15 = h_13 59 2 := by omega
              subst e1
              exact J_v_15)
      refine q_iload_n dX8_lays_26 rfl rfl ?_
      refine q_if_ne (tgt := 34) dX8_lays_27 rfl (by decide) (fun c_12 => ?_) (fun c_12 => ?_)
      · replace hf := it_f hf (by omega)
        refine q_aload_n dX8_lays_34 rfl rfl ?_
        refine q_iload_n dX8_lays_35 rfl rfl ?_
        refine q_iconst dX8_lays_36 rfl rfl ?_
        refine q_isub dX8_lays_37 rfl ?_
        obtain ⟨r_9, h_10, e_11, hf⟩ := bd_ex hf
        refine g_Vi (vs := [(0, w32 (p_2 - 1))]) (st := [(0, p_2), (2, 66)]) dX8_lays_38 rfl (S_X8_end X (w32 (p_2 - 1)) h_7) e_11 mf_X8_end ml_X8_172 rfl rfl rfl rfl ?_
        exact J_K_8 _ _ hf
      · replace hf := it_t hf (by omega)
        refine q_iconst dX8_lays_30 rfl rfl ?_
        refine q_goto (tgt := 41) dX8_lays_31 rfl (by decide) ?_
        exact J_K_8 _ _ hf
theorem S_X8_lays (X : XS) (h : Mem) : CT X yX8_lays MX8_lays none 9 3 [(2, 56)] h (F_X8_lays h) := by
  refine CT.ofV (by decide) rfl (Nat.le_of_ble_eq_true rfl) (fun r hf => ?_)
  unfold F_X8_lays at hf
  show AJ X MX8_lays (rmD 3) 0 [(2, 56), (3, 0)] [] h (PH 9 r)
  refine q_iconst dX8_lays_0 rfl rfl ?_
  refine q_istore_n (ls' := [(2, 56), (0, 0)]) dX8_lays_1 rfl rfl (Nat.le_of_ble_eq_true rfl) rfl ?_
  refine SL_X8_lays_1 X   _ (fun p_22 h_21 hf => ?_) FU _ _ hf
  exact g_return dX8_lays_81 rfl hf
def F_X8_minute (p_0 what_0 : Int) (h : Mem) : Res := nm (wr h 56 0 0) (fun (h_1 : Mem) => jn (fun (K_2 : Mem → Res) => bd (F_X8_isPlace p_0 h_1) (fun r_4 (h_5 : Mem) => if (¬ r_4 = 0) then (bd (F_X8_in what_0 0 2 h_5) (fun r_9 (h_10 : Mem) => if (¬ r_9 = 0) then (bd (F_X8_asBilled  h_10) (fun _ (h_15 : Mem) => bd (F_X8_lays  h_15) (fun _ (h_18 : Mem) => if (what_0 = 0) then (gd (0 ≤ p_0 ∧ p_0 < 10) (some (h_18 65 p_0, h_18))) else (if (what_0 = 1) then (gd (0 ≤ p_0 ∧ p_0 < 10) (some (h_18 66 p_0, h_18))) else (bd (F_X8_end p_0 h_18) (fun r_22 (h_23 : Mem) => some (r_22, h_23))))))) else (K_2 h_10))) else (K_2 h_5))) (fun (h_3 : Mem) => some ((-1), h_3)))
theorem S_X8_minute (X : XS) (p_0 : Int) (what_0 : Int) (h : Mem) : CT X yX8_minute MX8_minute (some .int) 0 4 [(2, 56), (0, p_0), (0, what_0)] h (F_X8_minute p_0 what_0 h) := by
  refine CT.ofI (by decide) rfl (Nat.le_of_ble_eq_true rfl) (fun r hf => ?_)
  unfold F_X8_minute at hf
  show AJ X MX8_minute (rmD 4) 0 [(2, 56), (0, p_0), (0, what_0)] [] h (PH 0 r)
  refine q_aload_n dX8_minute_0 rfl rfl ?_
  refine q_iconst dX8_minute_1 rfl rfl ?_
  refine g_put (k := 0) (kz := 0) dX8_minute_2 rfl fp_X8_68 rfl (fun q => q.1 rfl) rfl ?_
  obtain ⟨h_1, e_h_1, hf⟩ := nm_ex hf
  rw [← e_h_1]
  obtain ⟨K_2, J_K_2, hf⟩ := jn_ex (P := fun K => ∀ (h_3 : Mem), K h_3 = some r → AJ X MX8_minute (rmD 4) 22 [(2, 56), (0, p_0), (0, what_0)] [] h_3 (PH 0 r)) hf (by
      intro h_3 hf
      refine q_iconst dX8_minute_22 rfl rfl ?_
      exact g_ireturn dX8_minute_23 rfl hf)
  refine q_aload_n dX8_minute_5 rfl rfl ?_
  refine q_iload_n dX8_minute_6 rfl rfl ?_
  obtain ⟨r_4, h_5, e_6, hf⟩ := bd_ex hf
  refine g_Vb (vs := [(0, p_0)]) (st := []) dX8_minute_7 rfl (S_X8_isPlace X p_0 h_1) e_6 mf_X8_isPlace ml_X8_157 rfl rfl rfl rfl (fun b_7 => ?_)
  refine q_if_eq (tgt := 22) dX8_minute_10 rfl (by decide) (fun c_8 => ?_) (fun c_8 => ?_)
  · replace hf := it_f hf (by omega)
    exact J_K_2 _ hf
  · replace hf := it_t hf (by omega)
    refine q_iload_n dX8_minute_13 rfl rfl ?_
    refine q_iconst dX8_minute_14 rfl rfl ?_
    refine q_iconst dX8_minute_15 rfl rfl ?_
    obtain ⟨r_9, h_10, e_11, hf⟩ := bd_ex hf
    refine g_Sb (vs := [(0, what_0), (0, 0), (0, 2)]) (st := []) dX8_minute_16 rfl (S_X8_in X what_0 0 2 h_5) e_11 mf_X8_in ml_X8_72 rfl rfl rfl (fun b_12 => ?_)
    refine q_if_ne (tgt := 24) dX8_minute_19 rfl (by decide) (fun c_13 => ?_) (fun c_13 => ?_)
    · replace hf := it_t hf (by omega)
      refine q_aload_n dX8_minute_24 rfl rfl ?_
      obtain ⟨r_14, h_15, e_16, hf⟩ := bd_ex hf
      refine g_Vv (vs := []) (st := []) dX8_minute_25 rfl (S_X8_asBilled X  h_10) e_16 mf_X8_asBilled ml_X8_175 rfl rfl rfl rfl ?_
      refine q_aload_n dX8_minute_28 rfl rfl ?_
      obtain ⟨r_17, h_18, e_19, hf⟩ := bd_ex hf
      refine g_Vv (vs := []) (st := []) dX8_minute_29 rfl (S_X8_lays X  h_15) e_19 mf_X8_lays ml_X8_178 rfl rfl rfl rfl ?_
      refine q_iload_n dX8_minute_32 rfl rfl ?_
      refine q_if_ne (tgt := 45) dX8_minute_33 rfl (by decide) (fun c_26 => ?_) (fun c_26 => ?_)
      · replace hf := it_f hf (by omega)
        refine q_iload_n dX8_minute_45 rfl rfl ?_
        refine q_iconst dX8_minute_46 rfl rfl ?_
        refine q_icmp_ne (tgt := 59) dX8_minute_47 rfl (by decide) (fun c_25 => ?_) (fun c_25 => ?_)
        · replace hf := it_f hf (by omega)
          refine q_aload_n dX8_minute_59 rfl rfl ?_
          refine q_iload_n dX8_minute_60 rfl rfl ?_
          obtain ⟨r_22, h_23, e_24, hf⟩ := bd_ex hf
          refine g_Vi (vs := [(0, p_0)]) (st := []) dX8_minute_61 rfl (S_X8_end X p_0 h_18) e_24 mf_X8_end ml_X8_172 rfl rfl rfl rfl ?_
          exact g_ireturn dX8_minute_64 rfl hf
        · replace hf := it_t hf (by omega)
          refine q_aload_n dX8_minute_50 rfl rfl ?_
          refine g_getF (k := 21) (o := 10) (z := 66) dX8_minute_51 rfl fg_X8_38 rfl rfl rfl ?_
          refine q_iload_n dX8_minute_54 rfl rfl ?_
          obtain ⟨g_21, hf⟩ := gd_ex hf
          refine q_iaload dX8_minute_55 rfl rfl g_21 ?_
          refine q_goto (tgt := 64) dX8_minute_56 rfl (by decide) ?_
          exact g_ireturn dX8_minute_64 rfl hf
      · replace hf := it_t hf (by omega)
        refine q_aload_n dX8_minute_36 rfl rfl ?_
        refine g_getF (k := 20) (o := 9) (z := 65) dX8_minute_37 rfl fg_X8_35 rfl rfl rfl ?_
        refine q_iload_n dX8_minute_40 rfl rfl ?_
        obtain ⟨g_20, hf⟩ := gd_ex hf
        refine q_iaload dX8_minute_41 rfl rfl g_20 ?_
        refine q_goto (tgt := 64) dX8_minute_42 rfl (by decide) ?_
        exact g_ireturn dX8_minute_64 rfl hf
    · replace hf := it_f hf (by omega)
      exact J_K_2 _ hf
def L_X8_isStaged_1 (Kx : Int → Mem → Res) : Nat → Int → Mem → Res
  | 0, _, _ => none
  | n + 1, p_6, h_5 => if (p_6 < (h_5 56 18)) then (nm (α := Int) (if ((0 < p_6) ∧ (¬ ((0 < (h_5 56 19)) ∧ (p_6 = (h_5 56 19))))) then 1 else 0) (fun v_7 => jn (fun (K_11 : Int → Mem → Res) => jn (fun (K_12 : Mem → Res) => if (0 < p_6) then (gd (0 ≤ p_6 ∧ p_6 < 10) (bd (F_X8_of (h_5 64 p_6) 8 h_5) (fun r_16 (h_17 : Mem) => gd (0 ≤ (w32 (p_6 - 1)) ∧ (w32 (p_6 - 1)) < 10) (if ((iand (ishr r_16 (h_17 64 (w32 (p_6 - 1)))) 1) = 1) then (K_11 1 h_17) else (K_12 h_17))))) else (K_12 h_5)) (fun (h_13 : Mem) => K_11 0 h_13)) (fun v_22 (h_21 : Mem) => gd (0 ≤ p_6 ∧ p_6 < 10) (bd (F_X8_of (h_21 64 p_6) 7 h_21) (fun r_24 (h_25 : Mem) => jn (fun (K_27 : Int → Mem → Res) => if ((h_25 59 0) < (h_25 65 p_6)) then (K_27 1 h_25) else (jn (fun (K_29 : Int → Mem → Res) => jn (fun (K_30 : Mem → Res) => if (¬ v_7 = 0) then (bd (F_X8_of (h_25 64 p_6) 0 h_25) (fun r_57 (h_58 : Mem) => gd (0 ≤ (w32 (p_6 - 1)) ∧ (w32 (p_6 - 1)) < 10) (bd (F_X8_of (h_58 64 (w32 (p_6 - 1))) 0 h_58) (fun r_61 (h_62 : Mem) => if (r_57 = r_61) then (K_29 2 h_62) else (K_30 h_62))))) else (K_30 h_25)) (fun (h_31 : Mem) => jn (fun (K_32 : Int → Mem → Res) => if (¬ v_22 = 0) then (K_32 3 h_31) else (jn (fun (K_33 : Int → Mem → Res) => jn (fun (K_34 : Mem → Res) => if (0 < r_24) then (bd (F_X8_end p_6 h_31) (fun r_47 (h_48 : Mem) => if (r_24 < r_47) then (K_33 4 h_48) else (K_34 h_48))) else (K_34 h_31)) (fun (h_35 : Mem) => jn (fun (K_36 : Int → Mem → Res) => jn (fun (K_37 : Mem → Res) => if (p_6 = (w32 ((h_35 56 18) - 1))) then (bd (F_X8_end p_6 h_35) (fun r_40 (h_41 : Mem) => if ((h_41 59 1) < r_40) then (K_36 5 h_41) else (K_37 h_41))) else (K_37 h_35)) (fun (h_38 : Mem) => K_36 0 h_38)) (fun v_45 (h_44 : Mem) => K_33 v_45 h_44))) (fun v_52 (h_51 : Mem) => K_32 v_52 h_51))) (fun v_55 (h_54 : Mem) => K_29 v_55 h_54))) (fun v_66 (h_65 : Mem) => K_27 v_66 h_65))) (fun v_68 (h_67 : Mem) => jn (fun (K_69 : Mem → Res) => if ((0 < v_68) ∧ (((h_67 56 28) = 0) ∨ (v_68 < (h_67 56 28)))) then (nm (wr h_67 56 28 v_68) (fun (h_70 : Mem) => nm (wr h_70 56 29 p_6) (fun (h_71 : Mem) => K_69 h_71))) else (K_69 h_67)) (fun  (h_77 : Mem) => nm (w32 (p_6 + 1)) (fun p_78 => L_X8_isStaged_1 Kx n p_78 h_77)))))))) else (Kx p_6 h_5)
def F_X8_isStaged (h : Mem) : Res := bd (F_X8_lays  h) (fun _ (h_2 : Mem) => nm (wr h_2 56 28 0) (fun (h_4 : Mem) => L_X8_isStaged_1 (fun p_81 (h_80 : Mem) => if ((h_80 56 28) = 0) then (some (1, h_80)) else (some (0, h_80))) FU 0 h_4))
theorem SL_X8_isStaged_1 (X : XS) (Kx : Int → Mem → Res) {r : Int × Mem} (hK : ∀ (p_6 : Int) (h_5 : Mem), Kx p_6 h_5 = some r → AJ X MX8_isStaged (rmD 4) 245 [(2, 56), (0, p_6), (3, 0), (3, 0), (3, 0), (3, 0)] [] h_5 (PB r)) :
    ∀ (n : Nat) (p_6 : Int) (h_5 : Mem), L_X8_isStaged_1 Kx n p_6 h_5 = some r → AJ X MX8_isStaged (rmD 4) 11 [(2, 56), (0, p_6), (3, 0), (3, 0), (3, 0), (3, 0)] [] h_5 (PB r) := by
  intro n
  induction n with
  | zero => intro p_6 h_5 hf; cases hf
  | succ n ih =>
    intro p_6 h_5 hf
    rw [L_X8_isStaged_1] at hf
    refine q_iload_n dX8_isStaged_11 rfl rfl ?_
    refine q_aload_n dX8_isStaged_12 rfl rfl ?_
    refine g_get (k := 18) (kz := 18) dX8_isStaged_13 rfl fg_X8_160 rfl rfl ?_
    refine q_icmp_ge (tgt := 245) dX8_isStaged_16 rfl (by decide) (fun c_79 => ?_) (fun c_79 => ?_)
    · replace hf := it_f hf (by omega)
      exact hK _ _ hf
    · replace hf := it_t hf (by omega)
      obtain ⟨v_7, e_v_7, hf⟩ := nm_ex hf
      have J_v_7 : AJ X MX8_isStaged (rmD 4) 43 [(2, 56), (0, p_6), (3, 0), (3, 0), (3, 0), (3, 0)] [(0, v_7)] h_5 (PB r) := by
        refine q_istore_n (ls' := [(2, 56), (0, p_6), (0, v_7), (3, 0), (3, 0), (3, 0)]) dX8_isStaged_43 rfl rfl (Nat.le_of_ble_eq_true rfl) rfl ?_
        obtain ⟨K_11, J_K_11, hf⟩ := jn_ex (P := fun K => ∀ (v_22 : Int) (h_21 : Mem), K v_22 h_21 = some r → AJ X MX8_isStaged (rmD 4) 80 [(2, 56), (0, p_6), (0, v_7), (3, 0), (3, 0), (3, 0)] [(0, v_22)] h_21 (PB r)) hf (by
            intro v_22 h_21 hf
            refine q_istore_n (ls' := [(2, 56), (0, p_6), (0, v_7), (0, v_22), (3, 0), (3, 0)]) dX8_isStaged_80 rfl rfl (Nat.le_of_ble_eq_true rfl) rfl ?_
            refine q_aload_n dX8_isStaged_81 rfl rfl ?_
            refine q_aload_n dX8_isStaged_82 rfl rfl ?_
            refine g_getF (k := 17) (o := 8) (z := 64) dX8_isStaged_83 rfl fg_X8_32 rfl rfl rfl ?_
            refine q_iload_n dX8_isStaged_86 rfl rfl ?_
            obtain ⟨g_23, hf⟩ := gd_ex hf
            refine q_iaload dX8_isStaged_87 rfl rfl g_23 ?_
            refine q_bipush dX8_isStaged_88 rfl (by decide) ?_
            obtain ⟨r_24, h_25, e_26, hf⟩ := bd_ex hf
            refine g_Vi (vs := [(0, h_21 64 p_6), (0, 7)]) (st := []) dX8_isStaged_90 rfl (S_X8_of X (h_21 64 p_6) 7 h_21) e_26 mf_X8_of ml_X8_151 rfl rfl rfl rfl ?_
            refine q_istore (ls' := [(2, 56), (0, p_6), (0, v_7), (0, v_22), (0, r_24), (3, 0)]) dX8_isStaged_93 rfl (Nat.le_of_ble_eq_true rfl) rfl ?_
            obtain ⟨K_27, J_K_27, hf⟩ := jn_ex (P := fun K => ∀ (v_68 : Int) (h_67 : Mem), K v_68 h_67 = some r → AJ X MX8_isStaged (rmD 4) 205 [(2, 56), (0, p_6), (0, v_7), (0, v_22), (0, r_24), (3, 0)] [(0, v_68)] h_67 (PB r)) hf (by
                intro v_68 h_67 hf
                refine q_istore (ls' := [(2, 56), (0, p_6), (0, v_7), (0, v_22), (0, r_24), (0, v_68)]) dX8_isStaged_205 rfl (Nat.le_of_ble_eq_true rfl) rfl ?_
                obtain ⟨K_69, J_K_69, hf⟩ := jn_ex (P := fun K => ∀ (h_77 : Mem), K  h_77 = some r → AJ X MX8_isStaged (rmD 4) 239 [(2, 56), (0, p_6), (0, v_7), (0, v_22), (0, r_24), (0, v_68)] [] h_77 (PB r)) hf (by
                    intro  h_77 hf
                    refine q_iinc (ls' := [(2, 56), (0, w32 (p_6 + 1)), (0, v_7), (0, v_22), (0, r_24), (0, v_68)]) dX8_isStaged_239 rfl rfl rfl ?_
                    obtain ⟨p_78, e_p_78, hf⟩ := nm_ex hf
                    rw [← e_p_78]
                    refine q_goto (tgt := 11) dX8_isStaged_242 rfl (by decide) ?_
                    refine g_frg (ls' := [(2, 56), (0, p_78), (3, 0), (3, 0), (3, 0), (3, 0)]) [2, 3, 4, 5] rfl ?_
                    exact ih _ _ hf)
                have HT_72 : ((0 < v_68) ∧ (((h_67 56 28) = 0) ∨ (v_68 < (h_67 56 28)))) → AJ X MX8_isStaged (rmD 4) 228 [(2, 56), (0, p_6), (0, v_7), (0, v_22), (0, r_24), (0, v_68)] [] h_67 (PB r) := by
                  intro hc
                  replace hf := it_t hf hc
                  refine q_aload_n dX8_isStaged_228 rfl rfl ?_
                  refine q_iload dX8_isStaged_229 rfl rfl ?_
                  refine g_put (k := 28) (kz := 28) dX8_isStaged_231 rfl fp_X8_181 rfl (fun q => q.1 rfl) rfl ?_
                  obtain ⟨h_70, e_h_70, hf⟩ := nm_ex hf
                  rw [← e_h_70]
                  refine q_aload_n dX8_isStaged_234 rfl rfl ?_
                  refine q_iload_n dX8_isStaged_235 rfl rfl ?_
                  refine g_put (k := 29) (kz := 29) dX8_isStaged_236 rfl fp_X8_184 rfl (fun q => q.1 rfl) rfl ?_
                  obtain ⟨h_71, e_h_71, hf⟩ := nm_ex hf
                  rw [← e_h_71]
                  exact J_K_69 _ hf
                have HF_73 : ¬ ((0 < v_68) ∧ (((h_67 56 28) = 0) ∨ (v_68 < (h_67 56 28)))) → AJ X MX8_isStaged (rmD 4) 239 [(2, 56), (0, p_6), (0, v_7), (0, v_22), (0, r_24), (0, v_68)] [] h_67 (PB r) := by
                  intro hc
                  replace hf := it_f hf hc
                  exact J_K_69 _ hf
                refine q_iload dX8_isStaged_207 rfl rfl ?_
                refine q_if_le (tgt := 239) dX8_isStaged_209 rfl (by decide) (fun c_74 => ?_) (fun c_74 => ?_)
                · exact HF_73 (by omega)
                · refine q_aload_n dX8_isStaged_212 rfl rfl ?_
                  refine g_get (k := 28) (kz := 28) dX8_isStaged_213 rfl fg_X8_181 rfl rfl ?_
                  refine q_if_eq (tgt := 228) dX8_isStaged_216 rfl (by decide) (fun c_75 => ?_) (fun c_75 => ?_)
                  · exact HT_72 (by omega)
                  · refine q_iload dX8_isStaged_219 rfl rfl ?_
                    refine q_aload_n dX8_isStaged_221 rfl rfl ?_
                    refine g_get (k := 28) (kz := 28) dX8_isStaged_222 rfl fg_X8_181 rfl rfl ?_
                    refine q_icmp_ge (tgt := 239) dX8_isStaged_225 rfl (by decide) (fun c_76 => ?_) (fun c_76 => ?_)
                    · exact HF_73 (by omega)
                    · exact HT_72 (by omega))
            refine q_aload_n dX8_isStaged_95 rfl rfl ?_
            refine g_getF (k := 20) (o := 9) (z := 65) dX8_isStaged_96 rfl fg_X8_35 rfl rfl rfl ?_
            refine q_iload_n dX8_isStaged_99 rfl rfl ?_
            refine q_iaload dX8_isStaged_100 rfl rfl g_23 ?_
            refine q_aload_n dX8_isStaged_101 rfl rfl ?_
            refine g_getF (k := 12) (o := 3) (z := 59) dX8_isStaged_102 rfl fg_X8_16 rfl rfl rfl ?_
            refine q_iconst dX8_isStaged_105 rfl rfl ?_
            refine q_iaload dX8_isStaged_106 rfl rfl (by decide) ?_
            refine q_icmp_le (tgt := 114) dX8_isStaged_107 rfl (by decide) (fun c_28 => ?_) (fun c_28 => ?_)
            · replace hf := it_f hf (by omega)
              obtain ⟨K_29, J_K_29, hf⟩ := jn_ex (P := fun K => ∀ (v_66 : Int) (h_65 : Mem), K v_66 h_65 = some r → AJ X MX8_isStaged (rmD 4) 205 [(2, 56), (0, p_6), (0, v_7), (0, v_22), (0, r_24), (3, 0)] [(0, v_66)] h_65 (PB r)) hf (by
                  intro v_66 h_65 hf
                  exact J_K_27 _ _ hf)
              obtain ⟨K_30, J_K_30, hf⟩ := jn_ex (P := fun K => ∀ (h_31 : Mem), K h_31 = some r → AJ X MX8_isStaged (rmD 4) 149 [(2, 56), (0, p_6), (0, v_7), (0, v_22), (0, r_24), (3, 0)] [] h_31 (PB r)) hf (by
                  intro h_31 hf
                  obtain ⟨K_32, J_K_32, hf⟩ := jn_ex (P := fun K => ∀ (v_55 : Int) (h_54 : Mem), K v_55 h_54 = some r → AJ X MX8_isStaged (rmD 4) 205 [(2, 56), (0, p_6), (0, v_7), (0, v_22), (0, r_24), (3, 0)] [(0, v_55)] h_54 (PB r)) hf (by
                      intro v_55 h_54 hf
                      exact J_K_29 _ _ hf)
                  refine q_iload_n dX8_isStaged_149 rfl rfl ?_
                  refine q_if_eq (tgt := 157) dX8_isStaged_150 rfl (by decide) (fun c_53 => ?_) (fun c_53 => ?_)
                  · replace hf := it_f hf (by omega)
                    obtain ⟨K_33, J_K_33, hf⟩ := jn_ex (P := fun K => ∀ (v_52 : Int) (h_51 : Mem), K v_52 h_51 = some r → AJ X MX8_isStaged (rmD 4) 205 [(2, 56), (0, p_6), (0, v_7), (0, v_22), (0, r_24), (3, 0)] [(0, v_52)] h_51 (PB r)) hf (by
                        intro v_52 h_51 hf
                        exact J_K_32 _ _ hf)
                    obtain ⟨K_34, J_K_34, hf⟩ := jn_ex (P := fun K => ∀ (h_35 : Mem), K h_35 = some r → AJ X MX8_isStaged (rmD 4) 176 [(2, 56), (0, p_6), (0, v_7), (0, v_22), (0, r_24), (3, 0)] [] h_35 (PB r)) hf (by
                        intro h_35 hf
                        obtain ⟨K_36, J_K_36, hf⟩ := jn_ex (P := fun K => ∀ (v_45 : Int) (h_44 : Mem), K v_45 h_44 = some r → AJ X MX8_isStaged (rmD 4) 205 [(2, 56), (0, p_6), (0, v_7), (0, v_22), (0, r_24), (3, 0)] [(0, v_45)] h_44 (PB r)) hf (by
                            intro v_45 h_44 hf
                            exact J_K_33 _ _ hf)
                        obtain ⟨K_37, J_K_37, hf⟩ := jn_ex (P := fun K => ∀ (h_38 : Mem), K h_38 = some r → AJ X MX8_isStaged (rmD 4) 204 [(2, 56), (0, p_6), (0, v_7), (0, v_22), (0, r_24), (3, 0)] [] h_38 (PB r)) hf (by
                            intro h_38 hf
                            refine q_iconst dX8_isStaged_204 rfl rfl ?_
                            exact J_K_36 _ _ hf)
                        refine q_iload_n dX8_isStaged_176 rfl rfl ?_
                        refine q_aload_n dX8_isStaged_177 rfl rfl ?_
                        refine g_get (k := 18) (kz := 18) dX8_isStaged_178 rfl fg_X8_160 rfl rfl ?_
                        refine q_iconst dX8_isStaged_181 rfl rfl ?_
                        refine q_isub dX8_isStaged_182 rfl ?_
                        refine q_icmp_ne (tgt := 204) dX8_isStaged_183 rfl (by decide) (fun c_39 => ?_) (fun c_39 => ?_)
                        · replace hf := it_f hf (by omega)
                          exact J_K_37 _ hf
                        · replace hf := it_t hf (by omega)
                          refine q_aload_n dX8_isStaged_186 rfl rfl ?_
                          refine q_iload_n dX8_isStaged_187 rfl rfl ?_
                          obtain ⟨r_40, h_41, e_42, hf⟩ := bd_ex hf
                          refine g_Vi (vs := [(0, p_6)]) (st := []) dX8_isStaged_188 rfl (S_X8_end X p_6 h_35) e_42 mf_X8_end ml_X8_172 rfl rfl rfl rfl ?_
                          refine q_aload_n dX8_isStaged_191 rfl rfl ?_
                          refine g_getF (k := 12) (o := 3) (z := 59) dX8_isStaged_192 rfl fg_X8_16 rfl rfl rfl ?_
                          refine q_iconst dX8_isStaged_195 rfl rfl ?_
                          refine q_iaload dX8_isStaged_196 rfl rfl (by decide) ?_
                          refine q_icmp_le (tgt := 204) dX8_isStaged_197 rfl (by decide) (fun c_43 => ?_) (fun c_43 => ?_)
                          · replace hf := it_f hf (by omega)
                            exact J_K_37 _ hf
                          · replace hf := it_t hf (by omega)
                            refine q_iconst dX8_isStaged_200 rfl rfl ?_
                            refine q_goto (tgt := 205) dX8_isStaged_201 rfl (by decide) ?_
                            exact J_K_36 _ _ hf)
                    refine q_iload dX8_isStaged_157 rfl rfl ?_
                    refine q_if_le (tgt := 176) dX8_isStaged_159 rfl (by decide) (fun c_46 => ?_) (fun c_46 => ?_)
                    · replace hf := it_f hf (by omega)
                      exact J_K_34 _ hf
                    · replace hf := it_t hf (by omega)
                      refine q_aload_n dX8_isStaged_162 rfl rfl ?_
                      refine q_iload_n dX8_isStaged_163 rfl rfl ?_
                      obtain ⟨r_47, h_48, e_49, hf⟩ := bd_ex hf
                      refine g_Vi (vs := [(0, p_6)]) (st := []) dX8_isStaged_164 rfl (S_X8_end X p_6 h_31) e_49 mf_X8_end ml_X8_172 rfl rfl rfl rfl ?_
                      refine q_iload dX8_isStaged_167 rfl rfl ?_
                      refine q_icmp_le (tgt := 176) dX8_isStaged_169 rfl (by decide) (fun c_50 => ?_) (fun c_50 => ?_)
                      · replace hf := it_f hf (by omega)
                        exact J_K_34 _ hf
                      · replace hf := it_t hf (by omega)
                        refine q_iconst dX8_isStaged_172 rfl rfl ?_
                        refine q_goto (tgt := 205) dX8_isStaged_173 rfl (by decide) ?_
                        exact J_K_33 _ _ hf
                  · replace hf := it_t hf (by omega)
                    refine q_iconst dX8_isStaged_153 rfl rfl ?_
                    refine q_goto (tgt := 205) dX8_isStaged_154 rfl (by decide) ?_
                    exact J_K_32 _ _ hf)
              refine q_iload_n dX8_isStaged_114 rfl rfl ?_
              refine q_if_eq (tgt := 149) dX8_isStaged_115 rfl (by decide) (fun c_56 => ?_) (fun c_56 => ?_)
              · replace hf := it_f hf (by omega)
                exact J_K_30 _ hf
              · replace hf := it_t hf (by omega)
                refine q_aload_n dX8_isStaged_118 rfl rfl ?_
                refine q_aload_n dX8_isStaged_119 rfl rfl ?_
                refine g_getF (k := 17) (o := 8) (z := 64) dX8_isStaged_120 rfl fg_X8_32 rfl rfl rfl ?_
                refine q_iload_n dX8_isStaged_123 rfl rfl ?_
                refine q_iaload dX8_isStaged_124 rfl rfl g_23 ?_
                refine q_iconst dX8_isStaged_125 rfl rfl ?_
                obtain ⟨r_57, h_58, e_59, hf⟩ := bd_ex hf
                refine g_Vi (vs := [(0, h_25 64 p_6), (0, 0)]) (st := []) dX8_isStaged_126 rfl (S_X8_of X (h_25 64 p_6) 0 h_25) e_59 mf_X8_of ml_X8_151 rfl rfl rfl rfl ?_
                refine q_aload_n dX8_isStaged_129 rfl rfl ?_
                refine q_aload_n dX8_isStaged_130 rfl rfl ?_
                refine g_getF (k := 17) (o := 8) (z := 64) dX8_isStaged_131 rfl fg_X8_32 rfl rfl rfl ?_
                refine q_iload_n dX8_isStaged_134 rfl rfl ?_
                refine q_iconst dX8_isStaged_135 rfl rfl ?_
                refine q_isub dX8_isStaged_136 rfl ?_
                obtain ⟨g_60, hf⟩ := gd_ex hf
                refine q_iaload dX8_isStaged_137 rfl rfl g_60 ?_
                refine q_iconst dX8_isStaged_138 rfl rfl ?_
                obtain ⟨r_61, h_62, e_63, hf⟩ := bd_ex hf
                refine g_Vi (vs := [(0, h_58 64 (w32 (p_6 - 1))), (0, 0)]) (st := [(0, r_57)]) dX8_isStaged_139 rfl (S_X8_of X (h_58 64 (w32 (p_6 - 1))) 0 h_58) e_63 mf_X8_of ml_X8_151 rfl rfl rfl rfl ?_
                refine q_icmp_ne (tgt := 149) dX8_isStaged_142 rfl (by decide) (fun c_64 => ?_) (fun c_64 => ?_)
                · replace hf := it_f hf (by omega)
                  exact J_K_30 _ hf
                · replace hf := it_t hf (by omega)
                  refine q_iconst dX8_isStaged_145 rfl rfl ?_
                  refine q_goto (tgt := 205) dX8_isStaged_146 rfl (by decide) ?_
                  exact J_K_29 _ _ hf
            · replace hf := it_t hf (by omega)
              refine q_iconst dX8_isStaged_110 rfl rfl ?_
              refine q_goto (tgt := 205) dX8_isStaged_111 rfl (by decide) ?_
              exact J_K_27 _ _ hf)
        obtain ⟨K_12, J_K_12, hf⟩ := jn_ex (P := fun K => ∀ (h_13 : Mem), K h_13 = some r → AJ X MX8_isStaged (rmD 4) 79 [(2, 56), (0, p_6), (0, v_7), (3, 0), (3, 0), (3, 0)] [] h_13 (PB r)) hf (by
            intro h_13 hf
            refine q_iconst dX8_isStaged_79 rfl rfl ?_
            exact J_K_11 _ _ hf)
        refine q_iload_n dX8_isStaged_44 rfl rfl ?_
        refine q_if_le (tgt := 79) dX8_isStaged_45 rfl (by decide) (fun c_14 => ?_) (fun c_14 => ?_)
        · replace hf := it_f hf (by omega)
          exact J_K_12 _ hf
        · replace hf := it_t hf (by omega)
          refine q_aload_n dX8_isStaged_48 rfl rfl ?_
          refine q_aload_n dX8_isStaged_49 rfl rfl ?_
          refine g_getF (k := 17) (o := 8) (z := 64) dX8_isStaged_50 rfl fg_X8_32 rfl rfl rfl ?_
          refine q_iload_n dX8_isStaged_53 rfl rfl ?_
          obtain ⟨g_15, hf⟩ := gd_ex hf
          refine q_iaload dX8_isStaged_54 rfl rfl g_15 ?_
          refine q_bipush dX8_isStaged_55 rfl (by decide) ?_
          obtain ⟨r_16, h_17, e_18, hf⟩ := bd_ex hf
          refine g_Vi (vs := [(0, h_5 64 p_6), (0, 8)]) (st := []) dX8_isStaged_57 rfl (S_X8_of X (h_5 64 p_6) 8 h_5) e_18 mf_X8_of ml_X8_151 rfl rfl rfl rfl ?_
          refine q_aload_n dX8_isStaged_60 rfl rfl ?_
          refine g_getF (k := 17) (o := 8) (z := 64) dX8_isStaged_61 rfl fg_X8_32 rfl rfl rfl ?_
          refine q_iload_n dX8_isStaged_64 rfl rfl ?_
          refine q_iconst dX8_isStaged_65 rfl rfl ?_
          refine q_isub dX8_isStaged_66 rfl ?_
          obtain ⟨g_19, hf⟩ := gd_ex hf
          refine q_iaload dX8_isStaged_67 rfl rfl g_19 ?_
          refine q_ishr dX8_isStaged_68 rfl ?_
          refine q_iconst dX8_isStaged_69 rfl rfl ?_
          refine q_iand dX8_isStaged_70 rfl ?_
          refine q_iconst dX8_isStaged_71 rfl rfl ?_
          refine q_icmp_ne (tgt := 79) dX8_isStaged_72 rfl (by decide) (fun c_20 => ?_) (fun c_20 => ?_)
          · replace hf := it_f hf (by omega)
            exact J_K_12 _ hf
          · replace hf := it_t hf (by omega)
            refine q_iconst dX8_isStaged_75 rfl rfl ?_
            refine q_goto (tgt := 80) dX8_isStaged_76 rfl (by decide) ?_
            exact J_K_11 _ _ hf
      clear hf
      refine q_iload_n dX8_isStaged_19 rfl rfl ?_
      refine q_if_le (tgt := 42) dX8_isStaged_20 rfl (by decide) (fun c_8 => ?_) (fun c_8 => ?_)
      · refine q_iconst dX8_isStaged_42 rfl rfl ?_
        have e1 : v_7 = 0 := by omega
        subst e1
        exact J_v_7
      · refine q_aload_n dX8_isStaged_23 rfl rfl ?_
        refine g_get (k := 19) (kz := 19) dX8_isStaged_24 rfl fg_X8_163 rfl rfl ?_
        refine q_if_le (tgt := 38) dX8_isStaged_27 rfl (by decide) (fun c_9 => ?_) (fun c_9 => ?_)
        · refine q_iconst dX8_isStaged_38 rfl rfl ?_
          refine q_goto (tgt := 43) dX8_isStaged_39 rfl (by decide) ?_
          have e1 : v_7 = 1 := by omega
          subst e1
          exact J_v_7
        · refine q_iload_n dX8_isStaged_30 rfl rfl ?_
          refine q_aload_n dX8_isStaged_31 rfl rfl ?_
          refine g_get (k := 19) (kz := 19) dX8_isStaged_32 rfl fg_X8_163 rfl rfl ?_
          refine q_icmp_eq (tgt := 42) dX8_isStaged_35 rfl (by decide) (fun c_10 => ?_) (fun c_10 => ?_)
          · refine q_iconst dX8_isStaged_42 rfl rfl ?_
            have e1 : v_7 = 0 := by omega
            subst e1
            exact J_v_7
          · refine q_iconst dX8_isStaged_38 rfl rfl ?_
            refine q_goto (tgt := 43) dX8_isStaged_39 rfl (by decide) ?_
            have e1 : v_7 = 1 := by omega
            subst e1
            exact J_v_7
theorem S_X8_isStaged (X : XS) (h : Mem) : CB X yX8_isStaged MX8_isStaged 4 [(2, 56)] h (F_X8_isStaged h) := by
  refine CB.of (by decide) rfl (Nat.le_of_ble_eq_true rfl) (fun r hf => ?_)
  unfold F_X8_isStaged at hf
  show AJ X MX8_isStaged (rmD 4) 0 [(2, 56), (3, 0), (3, 0), (3, 0), (3, 0), (3, 0)] [] h (PB r)
  refine q_aload_n dX8_isStaged_0 rfl rfl ?_
  obtain ⟨r_1, h_2, e_3, hf⟩ := bd_ex hf
  refine g_Vv (vs := []) (st := []) dX8_isStaged_1 rfl (S_X8_lays X  h) e_3 mf_X8_lays ml_X8_178 rfl rfl rfl rfl ?_
  refine q_aload_n dX8_isStaged_4 rfl rfl ?_
  refine q_iconst dX8_isStaged_5 rfl rfl ?_
  refine g_put (k := 28) (kz := 28) dX8_isStaged_6 rfl fp_X8_181 rfl (fun q => q.1 rfl) rfl ?_
  obtain ⟨h_4, e_h_4, hf⟩ := nm_ex hf
  rw [← e_h_4]
  refine q_iconst dX8_isStaged_9 rfl rfl ?_
  refine q_istore_n (ls' := [(2, 56), (0, 0), (3, 0), (3, 0), (3, 0), (3, 0)]) dX8_isStaged_10 rfl rfl (Nat.le_of_ble_eq_true rfl) rfl ?_
  refine SL_X8_isStaged_1 X   _ (fun p_81 h_80 hf => ?_) FU _ _ hf
  refine q_aload_n dX8_isStaged_245 rfl rfl ?_
  refine g_get (k := 28) (kz := 28) dX8_isStaged_246 rfl fg_X8_181 rfl rfl ?_
  refine q_if_ne (tgt := 256) dX8_isStaged_249 rfl (by decide) (fun c_82 => ?_) (fun c_82 => ?_)
  · replace hf := it_f hf (by omega)
    refine q_iconst dX8_isStaged_256 rfl rfl ?_
    exact g_breturn dX8_isStaged_257 rfl (Or.inl rfl) hf
  · replace hf := it_t hf (by omega)
    refine q_iconst dX8_isStaged_252 rfl rfl ?_
    refine q_goto (tgt := 257) dX8_isStaged_253 rfl (by decide) ?_
    exact g_breturn dX8_isStaged_257 rfl (Or.inr rfl) hf
def F_X8_staged (what_0 : Int) (h : Mem) : Res := nm (wr h 56 0 0) (fun (h_1 : Mem) => bd (F_X8_in what_0 0 1 h_1) (fun r_2 (h_3 : Mem) => if (¬ r_2 = 0) then (if ((h_3 61 0) = 0) then (some ((-2), h_3)) else (bd (F_X8_asBilled  h_3) (fun _ (h_8 : Mem) => bd (F_X8_isStaged  h_8) (fun r_10 (h_11 : Mem) => if (¬ r_10 = 0) then (some ((-9), h_11)) else (if (what_0 = 0) then (some (h_11 56 28, h_11)) else (some (h_11 56 29, h_11))))))) else (some ((-1), h_3))))
theorem S_X8_staged (X : XS) (what_0 : Int) (h : Mem) : CT X yX8_staged MX8_staged (some .int) 0 5 [(2, 56), (0, what_0)] h (F_X8_staged what_0 h) := by
  refine CT.ofI (by decide) rfl (Nat.le_of_ble_eq_true rfl) (fun r hf => ?_)
  unfold F_X8_staged at hf
  show AJ X MX8_staged (rmD 5) 0 [(2, 56), (0, what_0)] [] h (PH 0 r)
  refine q_aload_n dX8_staged_0 rfl rfl ?_
  refine q_iconst dX8_staged_1 rfl rfl ?_
  refine g_put (k := 0) (kz := 0) dX8_staged_2 rfl fp_X8_68 rfl (fun q => q.1 rfl) rfl ?_
  obtain ⟨h_1, e_h_1, hf⟩ := nm_ex hf
  rw [← e_h_1]
  refine q_iload_n dX8_staged_5 rfl rfl ?_
  refine q_iconst dX8_staged_6 rfl rfl ?_
  refine q_iconst dX8_staged_7 rfl rfl ?_
  obtain ⟨r_2, h_3, e_4, hf⟩ := bd_ex hf
  refine g_Sb (vs := [(0, what_0), (0, 0), (0, 1)]) (st := []) dX8_staged_8 rfl (S_X8_in X what_0 0 1 h_1) e_4 mf_X8_in ml_X8_72 rfl rfl rfl (fun b_5 => ?_)
  refine q_if_ne (tgt := 16) dX8_staged_11 rfl (by decide) (fun c_6 => ?_) (fun c_6 => ?_)
  · replace hf := it_t hf (by omega)
    refine q_aload_n dX8_staged_16 rfl rfl ?_
    refine g_getF (k := 14) (o := 5) (z := 61) dX8_staged_17 rfl fg_X8_22 rfl rfl rfl ?_
    refine q_iconst dX8_staged_20 rfl rfl ?_
    refine q_iaload dX8_staged_21 rfl rfl (by decide) ?_
    refine q_if_ne (tgt := 28) dX8_staged_22 rfl (by decide) (fun c_16 => ?_) (fun c_16 => ?_)
    · replace hf := it_f hf (by omega)
      refine q_aload_n dX8_staged_28 rfl rfl ?_
      obtain ⟨r_7, h_8, e_9, hf⟩ := bd_ex hf
      refine g_Vv (vs := []) (st := []) dX8_staged_29 rfl (S_X8_asBilled X  h_3) e_9 mf_X8_asBilled ml_X8_175 rfl rfl rfl rfl ?_
      refine q_aload_n dX8_staged_32 rfl rfl ?_
      obtain ⟨r_10, h_11, e_12, hf⟩ := bd_ex hf
      refine g_Vb (vs := []) (st := []) dX8_staged_33 rfl (S_X8_isStaged X  h_8) e_12 mf_X8_isStaged ml_X8_187 rfl rfl rfl rfl (fun b_13 => ?_)
      refine q_if_eq (tgt := 44) dX8_staged_36 rfl (by decide) (fun c_14 => ?_) (fun c_14 => ?_)
      · replace hf := it_f hf (by omega)
        refine q_iload_n dX8_staged_44 rfl rfl ?_
        refine q_if_ne (tgt := 55) dX8_staged_45 rfl (by decide) (fun c_15 => ?_) (fun c_15 => ?_)
        · replace hf := it_f hf (by omega)
          refine q_aload_n dX8_staged_55 rfl rfl ?_
          refine g_get (k := 29) (kz := 29) dX8_staged_56 rfl fg_X8_184 rfl rfl ?_
          exact g_ireturn dX8_staged_59 rfl hf
        · replace hf := it_t hf (by omega)
          refine q_aload_n dX8_staged_48 rfl rfl ?_
          refine g_get (k := 28) (kz := 28) dX8_staged_49 rfl fg_X8_181 rfl rfl ?_
          refine q_goto (tgt := 59) dX8_staged_52 rfl (by decide) ?_
          exact g_ireturn dX8_staged_59 rfl hf
      · replace hf := it_t hf (by omega)
        refine q_bipush dX8_staged_39 rfl (by decide) ?_
        refine q_goto (tgt := 59) dX8_staged_41 rfl (by decide) ?_
        exact g_ireturn dX8_staged_59 rfl hf
    · replace hf := it_t hf (by omega)
      refine q_bipush dX8_staged_25 rfl (by decide) ?_
      exact g_ireturn dX8_staged_27 rfl hf
  · replace hf := it_f hf (by omega)
    refine q_iconst dX8_staged_14 rfl rfl ?_
    exact g_ireturn dX8_staged_15 rfl hf
def F_X8_draws (h : Mem) : Res := nm (wr h 61 2 (w32 ((w32 ((h 61 2) * 1103515245)) + 12345))) (fun (h_1 : Mem) => some (irm (iand (ishr (h_1 61 2) 16) 65535) 5, h_1))
theorem S_X8_draws (X : XS) (h : Mem) : CT X yX8_draws MX8_draws (some .int) 0 0 [(2, 56)] h (F_X8_draws h) := by
  refine CT.ofI (by decide) rfl (Nat.le_of_ble_eq_true rfl) (fun r hf => ?_)
  unfold F_X8_draws at hf
  show AJ X MX8_draws (rmD 0) 0 [(2, 56)] [] h (PH 0 r)
  refine q_aload_n dX8_draws_0 rfl rfl ?_
  refine g_getF (k := 14) (o := 5) (z := 61) dX8_draws_1 rfl fg_X8_22 rfl rfl rfl ?_
  refine q_iconst dX8_draws_4 rfl rfl ?_
  refine q_aload_n dX8_draws_5 rfl rfl ?_
  refine g_getF (k := 14) (o := 5) (z := 61) dX8_draws_6 rfl fg_X8_22 rfl rfl rfl ?_
  refine q_iconst dX8_draws_9 rfl rfl ?_
  refine q_iaload dX8_draws_10 rfl rfl (by decide) ?_
  refine q_ldc (z := 1103515245) dX8_draws_11 rfl kc_X8_190 (by decide +kernel) ?_
  refine q_imul dX8_draws_13 rfl ?_
  refine q_sipush dX8_draws_14 rfl (by decide) ?_
  refine q_iadd dX8_draws_17 rfl ?_
  refine q_iastore dX8_draws_18 rfl rfl (by decide) ?_
  obtain ⟨h_1, e_h_1, hf⟩ := nm_ex hf
  rw [← e_h_1]
  refine q_aload_n dX8_draws_19 rfl rfl ?_
  refine g_getF (k := 14) (o := 5) (z := 61) dX8_draws_20 rfl fg_X8_22 rfl rfl rfl ?_
  refine q_iconst dX8_draws_23 rfl rfl ?_
  refine q_iaload dX8_draws_24 rfl rfl (by decide) ?_
  refine q_bipush dX8_draws_25 rfl (by decide) ?_
  refine q_ishr dX8_draws_27 rfl ?_
  refine q_ldc (z := 65535) dX8_draws_28 rfl kc_X8_191 (by decide +kernel) ?_
  refine q_iand dX8_draws_30 rfl ?_
  refine q_iconst dX8_draws_31 rfl rfl ?_
  refine q_irem dX8_draws_32 rfl (by decide) ?_
  exact g_ireturn dX8_draws_33 rfl hf
def F_X8_less (v_0 by_0 : Int) (h : Mem) : Res := if (v_0 < by_0) then (some (0, h)) else (some (w32 (v_0 - by_0), h))
theorem S_X8_less (X : XS) (v_0 : Int) (by_0 : Int) (h : Mem) : CT X yX8_less MX8_less (some .int) 0 0 [(0, v_0), (0, by_0)] h (F_X8_less v_0 by_0 h) := by
  refine CT.ofI (by decide) rfl (Nat.le_of_ble_eq_true rfl) (fun r hf => ?_)
  unfold F_X8_less at hf
  show AJ X MX8_less (rmD 0) 0 [(0, v_0), (0, by_0)] [] h (PH 0 r)
  refine q_iload_n dX8_less_0 rfl rfl ?_
  refine q_iload_n dX8_less_1 rfl rfl ?_
  refine q_icmp_ge (tgt := 9) dX8_less_2 rfl (by decide) (fun c_1 => ?_) (fun c_1 => ?_)
  · replace hf := it_f hf (by omega)
    refine q_iload_n dX8_less_9 rfl rfl ?_
    refine q_iload_n dX8_less_10 rfl rfl ?_
    refine q_isub dX8_less_11 rfl ?_
    exact g_ireturn dX8_less_12 rfl hf
  · replace hf := it_t hf (by omega)
    refine q_iconst dX8_less_5 rfl rfl ?_
    refine q_goto (tgt := 12) dX8_less_6 rfl (by decide) ?_
    exact g_ireturn dX8_less_12 rfl hf
def L_X8_nightOf_1 (isDrawn_0 : Int) (Kx : Int → Int → Int → Mem → Res) : Nat → Int → Int → Int → Mem → Res
  | 0, _, _, _, _ => none
  | n + 1, heat_6, people_7, p_8, h_5 => if (p_8 < (h_5 56 18)) then (nm (α := Int) (if ((0 < (h_5 56 19)) ∧ (p_8 = (h_5 56 19))) then 1 else 0) (fun v_9 => jn (fun (K_12 : Int → Mem → Res) => if (¬ v_9 = 0) then (nm (wr h_5 56 26 (w32 ((h_5 56 26) + (idv (w32 (people_7 * heat_6)) 1000)))) (fun (h_13 : Mem) => nm (idv heat_6 2) (fun heat_14 => K_12 heat_14 h_13))) else (K_12 heat_6 h_5)) (fun heat_17 (h_16 : Mem) => gd (0 ≤ p_8 ∧ p_8 < 10) (bd (F_X8_less heat_17 (w32 ((h_16 59 3) * (h_16 65 p_8))) h_16) (fun r_19 (h_20 : Mem) => bd (F_X8_of (h_20 64 p_8) 6 h_20) (fun r_22 (h_23 : Mem) => jn (fun (K_25 : Int → Mem → Res) => if ((0 < p_8) ∧ (¬ (¬ v_9 = 0))) then (gd (0 ≤ (w32 (p_8 - 1)) ∧ (w32 (p_8 - 1)) < 10) (bd (F_X8_of (h_23 64 (w32 (p_8 - 1))) 6 h_23) (fun r_27 (h_28 : Mem) => K_25 r_27 h_28))) else (K_25 0 h_23)) (fun v_34 (h_33 : Mem) => nm (α := Int) (if ((0 < r_22) ∧ (r_22 = v_34)) then 10 else 0) (fun v_35 => bd (F_X8_less r_19 v_35 h_33) (fun r_38 (h_39 : Mem) => nm (α := Int) (if ((r_22 = 2) ∧ (v_34 = 1)) then 5 else 0) (fun v_41 => bd (F_X8_less r_38 v_41 h_39) (fun r_44 (h_45 : Mem) => nm (wr h_45 67 p_8 r_44) (fun (h_47 : Mem) => nm (α := Int) (if (p_8 = 0) then (h_47 59 4) else (if (p_8 = 1) then (idv (w32 ((h_47 59 4) + 10)) 2) else 10)) (fun v_48 => bd (F_X8_of (h_47 64 p_8) 2 h_47) (fun r_51 (h_52 : Mem) => nm (idv (w32 ((idv (w32 (r_51 * (w32 (100 + r_44)))) 100) * v_48)) 10) (fun v_54 => nm (α := Int) (if (5 < p_8) then (w32 ((h_52 59 5) * (w32 (p_8 - 5)))) else 0) (fun v_55 => bd (F_X8_less v_54 v_55 h_52) (fun r_57 (h_58 : Mem) => jn (fun (K_60 : Int → Mem → Res) => if (¬ isDrawn_0 = 0) then (bd (F_X8_draws  h_58) (fun r_61 (h_62 : Mem) => bd (F_X8_less r_57 (w32 (2 - r_61)) h_62) (fun r_64 (h_65 : Mem) => K_60 r_64 h_65))) else (K_60 r_57 h_58)) (fun v_69 (h_68 : Mem) => nm (wr h_68 68 p_8 v_69) (fun (h_70 : Mem) => nm (w32 ((w32 (r_44 + v_69)) - 12)) (fun heat_71 => nm (α := Int) (if (heat_71 < 0) then 0 else (if (100 < heat_71) then 100 else heat_71)) (fun v_72 => nm (α := Int) (if (v_69 < 8) then (idv (w32 (people_7 * (w32 (8 - v_69)))) 100) else 0) (fun v_75 => nm (w32 (people_7 - v_75)) (fun people_77 => nm (wr h_70 69 p_8 v_72) (fun (h_78 : Mem) => nm (wr h_78 70 p_8 people_77) (fun (h_79 : Mem) => nm (α := Int) (if (p_8 = (w32 ((h_79 56 18) - 1))) then v_69 else 0) (fun v_80 => nm (wr h_79 56 27 (w32 ((h_79 56 27) + (w32 (v_69 + v_80))))) (fun (h_82 : Mem) => nm (w32 (p_8 + 1)) (fun p_83 => L_X8_nightOf_1 isDrawn_0 Kx n v_72 people_77 p_83 h_82)))))))))))))))))))))))))))) else (Kx heat_6 people_7 p_8 h_5)
def F_X8_nightOf (isDrawn_0 : Int) (h : Mem) : Res := nm (h 59 6) (fun heat_1 => nm (h 59 7) (fun people_2 => nm (wr h 56 26 0) (fun (h_3 : Mem) => nm (wr h_3 56 27 0) (fun (h_4 : Mem) => L_X8_nightOf_1 isDrawn_0 (fun heat_86 people_87 p_88 (h_85 : Mem) => nm (wr h_85 56 27 (w32 ((h_85 56 27) + (h_85 56 26)))) (fun (h_89 : Mem) => some (h_89 56 27, h_89))) FU heat_1 people_2 0 h_4))))
theorem SL_X8_nightOf_1 (X : XS) (isDrawn_0 : Int) (Kx : Int → Int → Int → Mem → Res) {r : Int × Mem} (hK : ∀ (heat_6 people_7 p_8 : Int) (h_5 : Mem), Kx heat_6 people_7 p_8 h_5 = some r → AJ X MX8_nightOf (rmD 1) 433 [(2, 56), (0, isDrawn_0), (0, heat_6), (0, people_7), (0, p_8), (3, 0), (3, 0), (3, 0), (3, 0), (3, 0)] [] h_5 (PH 0 r)) :
    ∀ (n : Nat) (heat_6 people_7 p_8 : Int) (h_5 : Mem), L_X8_nightOf_1 isDrawn_0 Kx n heat_6 people_7 p_8 h_5 = some r → AJ X MX8_nightOf (rmD 1) 29 [(2, 56), (0, isDrawn_0), (0, heat_6), (0, people_7), (0, p_8), (3, 0), (3, 0), (3, 0), (3, 0), (3, 0)] [] h_5 (PH 0 r) := by
  intro n
  induction n with
  | zero => intro heat_6 people_7 p_8 h_5 hf; cases hf
  | succ n ih =>
    intro heat_6 people_7 p_8 h_5 hf
    rw [L_X8_nightOf_1] at hf
    refine q_iload dX8_nightOf_29 rfl rfl ?_
    refine q_aload_n dX8_nightOf_31 rfl rfl ?_
    refine g_get (k := 18) (kz := 18) dX8_nightOf_32 rfl fg_X8_160 rfl rfl ?_
    refine q_icmp_ge (tgt := 433) dX8_nightOf_35 rfl (by decide) (fun c_84 => ?_) (fun c_84 => ?_)
    · replace hf := it_f hf (by omega)
      exact hK _ _ _ _ hf
    · replace hf := it_t hf (by omega)
      obtain ⟨v_9, e_v_9, hf⟩ := nm_ex hf
      have J_v_9 : AJ X MX8_nightOf (rmD 1) 59 [(2, 56), (0, isDrawn_0), (0, heat_6), (0, people_7), (0, p_8), (3, 0), (3, 0), (3, 0), (3, 0), (3, 0)] [(0, v_9)] h_5 (PH 0 r) := by
        refine q_istore (ls' := [(2, 56), (0, isDrawn_0), (0, heat_6), (0, people_7), (0, p_8), (0, v_9), (3, 0), (3, 0), (3, 0), (3, 0)]) dX8_nightOf_59 rfl (Nat.le_of_ble_eq_true rfl) rfl ?_
        obtain ⟨K_12, J_K_12, hf⟩ := jn_ex (P := fun K => ∀ (heat_17 : Int) (h_16 : Mem), K heat_17 h_16 = some r → AJ X MX8_nightOf (rmD 1) 86 [(2, 56), (0, isDrawn_0), (0, heat_17), (0, people_7), (0, p_8), (0, v_9), (3, 0), (3, 0), (3, 0), (3, 0)] [] h_16 (PH 0 r)) hf (by
            intro heat_17 h_16 hf
            refine q_iload_n dX8_nightOf_86 rfl rfl ?_
            refine q_aload_n dX8_nightOf_87 rfl rfl ?_
            refine g_getF (k := 12) (o := 3) (z := 59) dX8_nightOf_88 rfl fg_X8_16 rfl rfl rfl ?_
            refine q_iconst dX8_nightOf_91 rfl rfl ?_
            refine q_iaload dX8_nightOf_92 rfl rfl (by decide) ?_
            refine q_aload_n dX8_nightOf_93 rfl rfl ?_
            refine g_getF (k := 20) (o := 9) (z := 65) dX8_nightOf_94 rfl fg_X8_35 rfl rfl rfl ?_
            refine q_iload dX8_nightOf_97 rfl rfl ?_
            obtain ⟨g_18, hf⟩ := gd_ex hf
            refine q_iaload dX8_nightOf_99 rfl rfl g_18 ?_
            refine q_imul dX8_nightOf_100 rfl ?_
            obtain ⟨r_19, h_20, e_21, hf⟩ := bd_ex hf
            refine g_Si (vs := [(0, heat_17), (0, w32 ((h_16 59 3) * (h_16 65 p_8)))]) (st := []) dX8_nightOf_101 rfl (S_X8_less X heat_17 (w32 ((h_16 59 3) * (h_16 65 p_8))) h_16) e_21 mf_X8_less ml_X8_198 rfl rfl rfl ?_
            refine q_istore_n (ls' := [(2, 56), (0, isDrawn_0), (0, r_19), (0, people_7), (0, p_8), (0, v_9), (3, 0), (3, 0), (3, 0), (3, 0)]) dX8_nightOf_104 rfl rfl (Nat.le_of_ble_eq_true rfl) rfl ?_
            refine q_aload_n dX8_nightOf_105 rfl rfl ?_
            refine q_aload_n dX8_nightOf_106 rfl rfl ?_
            refine g_getF (k := 17) (o := 8) (z := 64) dX8_nightOf_107 rfl fg_X8_32 rfl rfl rfl ?_
            refine q_iload dX8_nightOf_110 rfl rfl ?_
            refine q_iaload dX8_nightOf_112 rfl rfl g_18 ?_
            refine q_bipush dX8_nightOf_113 rfl (by decide) ?_
            obtain ⟨r_22, h_23, e_24, hf⟩ := bd_ex hf
            refine g_Vi (vs := [(0, h_20 64 p_8), (0, 6)]) (st := []) dX8_nightOf_115 rfl (S_X8_of X (h_20 64 p_8) 6 h_20) e_24 mf_X8_of ml_X8_151 rfl rfl rfl rfl ?_
            refine q_istore (ls' := [(2, 56), (0, isDrawn_0), (0, r_19), (0, people_7), (0, p_8), (0, v_9), (0, r_22), (3, 0), (3, 0), (3, 0)]) dX8_nightOf_118 rfl (Nat.le_of_ble_eq_true rfl) rfl ?_
            obtain ⟨K_25, J_K_25, hf⟩ := jn_ex (P := fun K => ∀ (v_34 : Int) (h_33 : Mem), K v_34 h_33 = some r → AJ X MX8_nightOf (rmD 1) 149 [(2, 56), (0, isDrawn_0), (0, r_19), (0, people_7), (0, p_8), (0, v_9), (0, r_22), (3, 0), (3, 0), (3, 0)] [(0, v_34)] h_33 (PH 0 r)) hf (by
                intro v_34 h_33 hf
                refine q_istore (ls' := [(2, 56), (0, isDrawn_0), (0, r_19), (0, people_7), (0, p_8), (0, v_9), (0, r_22), (0, v_34), (3, 0), (3, 0)]) dX8_nightOf_149 rfl (Nat.le_of_ble_eq_true rfl) rfl ?_
                refine q_iload_n dX8_nightOf_151 rfl rfl ?_
                obtain ⟨v_35, e_v_35, hf⟩ := nm_ex hf
                have J_v_35 : AJ X MX8_nightOf (rmD 1) 170 [(2, 56), (0, isDrawn_0), (0, r_19), (0, people_7), (0, p_8), (0, v_9), (0, r_22), (0, v_34), (3, 0), (3, 0)] [(0, v_35), (0, r_19)] h_33 (PH 0 r) := by
                  obtain ⟨r_38, h_39, e_40, hf⟩ := bd_ex hf
                  refine g_Si (vs := [(0, r_19), (0, v_35)]) (st := []) dX8_nightOf_170 rfl (S_X8_less X r_19 v_35 h_33) e_40 mf_X8_less ml_X8_198 rfl rfl rfl ?_
                  refine q_istore_n (ls' := [(2, 56), (0, isDrawn_0), (0, r_38), (0, people_7), (0, p_8), (0, v_9), (0, r_22), (0, v_34), (3, 0), (3, 0)]) dX8_nightOf_173 rfl rfl (Nat.le_of_ble_eq_true rfl) rfl ?_
                  refine q_iload_n dX8_nightOf_174 rfl rfl ?_
                  obtain ⟨v_41, e_v_41, hf⟩ := nm_ex hf
                  have J_v_41 : AJ X MX8_nightOf (rmD 1) 192 [(2, 56), (0, isDrawn_0), (0, r_38), (0, people_7), (0, p_8), (0, v_9), (0, r_22), (0, v_34), (3, 0), (3, 0)] [(0, v_41), (0, r_38)] h_39 (PH 0 r) := by
                    obtain ⟨r_44, h_45, e_46, hf⟩ := bd_ex hf
                    refine g_Si (vs := [(0, r_38), (0, v_41)]) (st := []) dX8_nightOf_192 rfl (S_X8_less X r_38 v_41 h_39) e_46 mf_X8_less ml_X8_198 rfl rfl rfl ?_
                    refine q_istore_n (ls' := [(2, 56), (0, isDrawn_0), (0, r_44), (0, people_7), (0, p_8), (0, v_9), (0, r_22), (0, v_34), (3, 0), (3, 0)]) dX8_nightOf_195 rfl rfl (Nat.le_of_ble_eq_true rfl) rfl ?_
                    refine q_aload_n dX8_nightOf_196 rfl rfl ?_
                    refine g_getF (k := 22) (o := 11) (z := 67) dX8_nightOf_197 rfl fg_X8_41 rfl rfl rfl ?_
                    refine q_iload dX8_nightOf_200 rfl rfl ?_
                    refine q_iload_n dX8_nightOf_202 rfl rfl ?_
                    refine q_iastore dX8_nightOf_203 rfl rfl g_18 ?_
                    obtain ⟨h_47, e_h_47, hf⟩ := nm_ex hf
                    rw [← e_h_47]
                    obtain ⟨v_48, e_v_48, hf⟩ := nm_ex hf
                    have J_v_48 : AJ X MX8_nightOf (rmD 1) 240 [(2, 56), (0, isDrawn_0), (0, r_44), (0, people_7), (0, p_8), (0, v_9), (0, r_22), (0, v_34), (3, 0), (3, 0)] [(0, v_48)] h_47 (PH 0 r) := by
                      refine q_istore (ls' := [(2, 56), (0, isDrawn_0), (0, r_44), (0, people_7), (0, p_8), (0, v_9), (0, r_22), (0, v_34), (0, v_48), (3, 0)]) dX8_nightOf_240 rfl (Nat.le_of_ble_eq_true rfl) rfl ?_
                      refine q_aload_n dX8_nightOf_242 rfl rfl ?_
                      refine q_aload_n dX8_nightOf_243 rfl rfl ?_
                      refine g_getF (k := 17) (o := 8) (z := 64) dX8_nightOf_244 rfl fg_X8_32 rfl rfl rfl ?_
                      refine q_iload dX8_nightOf_247 rfl rfl ?_
                      refine q_iaload dX8_nightOf_249 rfl rfl g_18 ?_
                      refine q_iconst dX8_nightOf_250 rfl rfl ?_
                      obtain ⟨r_51, h_52, e_53, hf⟩ := bd_ex hf
                      refine g_Vi (vs := [(0, h_47 64 p_8), (0, 2)]) (st := []) dX8_nightOf_251 rfl (S_X8_of X (h_47 64 p_8) 2 h_47) e_53 mf_X8_of ml_X8_151 rfl rfl rfl rfl ?_
                      refine q_bipush dX8_nightOf_254 rfl (by decide) ?_
                      refine q_iload_n dX8_nightOf_256 rfl rfl ?_
                      refine q_iadd dX8_nightOf_257 rfl ?_
                      refine q_imul dX8_nightOf_258 rfl ?_
                      refine q_bipush dX8_nightOf_259 rfl (by decide) ?_
                      refine q_idiv dX8_nightOf_261 rfl (by decide) ?_
                      refine q_iload dX8_nightOf_262 rfl rfl ?_
                      refine q_imul dX8_nightOf_264 rfl ?_
                      refine q_bipush dX8_nightOf_265 rfl (by decide) ?_
                      refine q_idiv dX8_nightOf_267 rfl (by decide) ?_
                      obtain ⟨v_54, e_v_54, hf⟩ := nm_ex hf
                      rw [← e_v_54]
                      refine q_istore (ls' := [(2, 56), (0, isDrawn_0), (0, r_44), (0, people_7), (0, p_8), (0, v_9), (0, r_22), (0, v_34), (0, v_48), (0, v_54)]) dX8_nightOf_268 rfl (Nat.le_of_ble_eq_true rfl) rfl ?_
                      refine q_iload dX8_nightOf_270 rfl rfl ?_
                      obtain ⟨v_55, e_v_55, hf⟩ := nm_ex hf
                      have J_v_55 : AJ X MX8_nightOf (rmD 1) 293 [(2, 56), (0, isDrawn_0), (0, r_44), (0, people_7), (0, p_8), (0, v_9), (0, r_22), (0, v_34), (0, v_48), (0, v_54)] [(0, v_55), (0, v_54)] h_52 (PH 0 r) := by
                        obtain ⟨r_57, h_58, e_59, hf⟩ := bd_ex hf
                        refine g_Si (vs := [(0, v_54), (0, v_55)]) (st := []) dX8_nightOf_293 rfl (S_X8_less X v_54 v_55 h_52) e_59 mf_X8_less ml_X8_198 rfl rfl rfl ?_
                        refine q_istore (ls' := [(2, 56), (0, isDrawn_0), (0, r_44), (0, people_7), (0, p_8), (0, v_9), (0, r_22), (0, v_34), (0, v_48), (0, r_57)]) dX8_nightOf_296 rfl (Nat.le_of_ble_eq_true rfl) rfl ?_
                        obtain ⟨K_60, J_K_60, hf⟩ := jn_ex (P := fun K => ∀ (v_69 : Int) (h_68 : Mem), K v_69 h_68 = some r → AJ X MX8_nightOf (rmD 1) 318 [(2, 56), (0, isDrawn_0), (0, r_44), (0, people_7), (0, p_8), (0, v_9), (0, r_22), (0, v_34), (0, v_48), (0, r_57)] [(0, v_69)] h_68 (PH 0 r)) hf (by
                            intro v_69 h_68 hf
                            refine q_istore (ls' := [(2, 56), (0, isDrawn_0), (0, r_44), (0, people_7), (0, p_8), (0, v_9), (0, r_22), (0, v_34), (0, v_48), (0, v_69)]) dX8_nightOf_318 rfl (Nat.le_of_ble_eq_true rfl) rfl ?_
                            refine q_aload_n dX8_nightOf_320 rfl rfl ?_
                            refine g_getF (k := 23) (o := 12) (z := 68) dX8_nightOf_321 rfl fg_X8_44 rfl rfl rfl ?_
                            refine q_iload dX8_nightOf_324 rfl rfl ?_
                            refine q_iload dX8_nightOf_326 rfl rfl ?_
                            refine q_iastore dX8_nightOf_328 rfl rfl g_18 ?_
                            obtain ⟨h_70, e_h_70, hf⟩ := nm_ex hf
                            rw [← e_h_70]
                            refine q_iload_n dX8_nightOf_329 rfl rfl ?_
                            refine q_iload dX8_nightOf_330 rfl rfl ?_
                            refine q_iadd dX8_nightOf_332 rfl ?_
                            refine q_bipush dX8_nightOf_333 rfl (by decide) ?_
                            refine q_isub dX8_nightOf_335 rfl ?_
                            obtain ⟨heat_71, e_heat_71, hf⟩ := nm_ex hf
                            rw [← e_heat_71]
                            refine q_istore_n (ls' := [(2, 56), (0, isDrawn_0), (0, heat_71), (0, people_7), (0, p_8), (0, v_9), (0, r_22), (0, v_34), (0, v_48), (0, v_69)]) dX8_nightOf_336 rfl rfl (Nat.le_of_ble_eq_true rfl) rfl ?_
                            obtain ⟨v_72, e_v_72, hf⟩ := nm_ex hf
                            have J_v_72 : AJ X MX8_nightOf (rmD 1) 357 [(2, 56), (0, isDrawn_0), (0, heat_71), (0, people_7), (0, p_8), (0, v_9), (0, r_22), (0, v_34), (0, v_48), (0, v_69)] [(0, v_72)] h_70 (PH 0 r) := by
                              refine q_istore_n (ls' := [(2, 56), (0, isDrawn_0), (0, v_72), (0, people_7), (0, p_8), (0, v_9), (0, r_22), (0, v_34), (0, v_48), (0, v_69)]) dX8_nightOf_357 rfl rfl (Nat.le_of_ble_eq_true rfl) rfl ?_
                              refine q_iload_n dX8_nightOf_358 rfl rfl ?_
                              obtain ⟨v_75, e_v_75, hf⟩ := nm_ex hf
                              have J_v_75 : AJ X MX8_nightOf (rmD 1) 380 [(2, 56), (0, isDrawn_0), (0, v_72), (0, people_7), (0, p_8), (0, v_9), (0, r_22), (0, v_34), (0, v_48), (0, v_69)] [(0, v_75), (0, people_7)] h_70 (PH 0 r) := by
                                refine q_isub dX8_nightOf_380 rfl ?_
                                obtain ⟨people_77, e_people_77, hf⟩ := nm_ex hf
                                rw [← e_people_77]
                                refine q_istore_n (ls' := [(2, 56), (0, isDrawn_0), (0, v_72), (0, people_77), (0, p_8), (0, v_9), (0, r_22), (0, v_34), (0, v_48), (0, v_69)]) dX8_nightOf_381 rfl rfl (Nat.le_of_ble_eq_true rfl) rfl ?_
                                refine q_aload_n dX8_nightOf_382 rfl rfl ?_
                                refine g_getF (k := 24) (o := 13) (z := 69) dX8_nightOf_383 rfl fg_X8_47 rfl rfl rfl ?_
                                refine q_iload dX8_nightOf_386 rfl rfl ?_
                                refine q_iload_n dX8_nightOf_388 rfl rfl ?_
                                refine q_iastore dX8_nightOf_389 rfl rfl g_18 ?_
                                obtain ⟨h_78, e_h_78, hf⟩ := nm_ex hf
                                rw [← e_h_78]
                                refine q_aload_n dX8_nightOf_390 rfl rfl ?_
                                refine g_getF (k := 25) (o := 14) (z := 70) dX8_nightOf_391 rfl fg_X8_50 rfl rfl rfl ?_
                                refine q_iload dX8_nightOf_394 rfl rfl ?_
                                refine q_iload_n dX8_nightOf_396 rfl rfl ?_
                                refine q_iastore dX8_nightOf_397 rfl rfl g_18 ?_
                                obtain ⟨h_79, e_h_79, hf⟩ := nm_ex hf
                                rw [← e_h_79]
                                refine q_aload_n dX8_nightOf_398 rfl rfl ?_
                                refine q_dup dX8_nightOf_399 rfl (by decide) ?_
                                refine g_get (k := 27) (kz := 27) dX8_nightOf_400 rfl fg_X8_195 rfl rfl ?_
                                refine q_iload dX8_nightOf_403 rfl rfl ?_
                                obtain ⟨v_80, e_v_80, hf⟩ := nm_ex hf
                                have J_v_80 : AJ X MX8_nightOf (rmD 1) 422 [(2, 56), (0, isDrawn_0), (0, v_72), (0, people_77), (0, p_8), (0, v_9), (0, r_22), (0, v_34), (0, v_48), (0, v_69)] [(0, v_80), (0, v_69), (0, h_79 56 27), (2, 56)] h_79 (PH 0 r) := by
                                  refine q_iadd dX8_nightOf_422 rfl ?_
                                  refine q_iadd dX8_nightOf_423 rfl ?_
                                  refine g_put (k := 27) (kz := 27) dX8_nightOf_424 rfl fp_X8_195 rfl (fun q => q.1 rfl) rfl ?_
                                  obtain ⟨h_82, e_h_82, hf⟩ := nm_ex hf
                                  rw [← e_h_82]
                                  refine q_iinc (ls' := [(2, 56), (0, isDrawn_0), (0, v_72), (0, people_77), (0, w32 (p_8 + 1)), (0, v_9), (0, r_22), (0, v_34), (0, v_48), (0, v_69)]) dX8_nightOf_427 rfl rfl rfl ?_
                                  obtain ⟨p_83, e_p_83, hf⟩ := nm_ex hf
                                  rw [← e_p_83]
                                  refine q_goto (tgt := 29) dX8_nightOf_430 rfl (by decide) ?_
                                  refine g_frg (ls' := [(2, 56), (0, isDrawn_0), (0, v_72), (0, people_77), (0, p_83), (3, 0), (3, 0), (3, 0), (3, 0), (3, 0)]) [5, 6, 7, 8, 9] rfl ?_
                                  exact ih _ _ _ _ hf
                                clear hf
                                refine q_iload dX8_nightOf_405 rfl rfl ?_
                                refine q_aload_n dX8_nightOf_407 rfl rfl ?_
                                refine g_get (k := 18) (kz := 18) dX8_nightOf_408 rfl fg_X8_160 rfl rfl ?_
                                refine q_iconst dX8_nightOf_411 rfl rfl ?_
                                refine q_isub dX8_nightOf_412 rfl ?_
                                refine q_icmp_ne (tgt := 421) dX8_nightOf_413 rfl (by decide) (fun c_81 => ?_) (fun c_81 => ?_)
                                · refine q_iconst dX8_nightOf_421 rfl rfl ?_
                                  have e1 : v_80 = 0 := by omega
                                  subst e1
                                  exact J_v_80
                                · refine q_iload dX8_nightOf_416 rfl rfl ?_
                                  refine q_goto (tgt := 422) dX8_nightOf_418 rfl (by decide) ?_
                                  have e1 : v_80 = v_69 := by omega
                                  subst e1
                                  exact J_v_80
                              clear hf
                              refine q_iload dX8_nightOf_359 rfl rfl ?_
                              refine q_bipush dX8_nightOf_361 rfl (by decide) ?_
                              refine q_icmp_ge (tgt := 379) dX8_nightOf_363 rfl (by decide) (fun c_76 => ?_) (fun c_76 => ?_)
                              · refine q_iconst dX8_nightOf_379 rfl rfl ?_
                                have e1 : v_75 = 0 := by omega
                                subst e1
                                exact J_v_75
                              · refine q_iload_n dX8_nightOf_366 rfl rfl ?_
                                refine q_bipush dX8_nightOf_367 rfl (by decide) ?_
                                refine q_iload dX8_nightOf_369 rfl rfl ?_
                                refine q_isub dX8_nightOf_371 rfl ?_
                                refine q_imul dX8_nightOf_372 rfl ?_
                                refine q_bipush dX8_nightOf_373 rfl (by decide) ?_
                                refine q_idiv dX8_nightOf_375 rfl (by decide) ?_
                                refine q_goto (tgt := 380) dX8_nightOf_376 rfl (by decide) ?_
                                have e1 : v_75 = idv (w32 (people_7 * (w32 (8 - v_69)))) 100 := by omega
                                subst e1
                                exact J_v_75
                            clear hf
                            refine q_iload_n dX8_nightOf_337 rfl rfl ?_
                            refine q_if_ge (tgt := 345) dX8_nightOf_338 rfl (by decide) (fun c_73 => ?_) (fun c_73 => ?_)
                            · refine q_iload_n dX8_nightOf_345 rfl rfl ?_
                              refine q_bipush dX8_nightOf_346 rfl (by decide) ?_
                              refine q_icmp_le (tgt := 356) dX8_nightOf_348 rfl (by decide) (fun c_74 => ?_) (fun c_74 => ?_)
                              · refine q_iload_n dX8_nightOf_356 rfl rfl ?_
                                have e1 : v_72 = heat_71 := by omega
                                subst e1
                                exact J_v_72
                              · refine q_bipush dX8_nightOf_351 rfl (by decide) ?_
                                refine q_goto (tgt := 357) dX8_nightOf_353 rfl (by decide) ?_
                                have e1 : v_72 = 100 := by omega
                                subst e1
                                exact J_v_72
                            · refine q_iconst dX8_nightOf_341 rfl rfl ?_
                              refine q_goto (tgt := 357) dX8_nightOf_342 rfl (by decide) ?_
                              have e1 : v_72 = 0 := by omega
                              subst e1
                              exact J_v_72)
                        refine q_iload_n dX8_nightOf_298 rfl rfl ?_
                        refine q_if_eq (tgt := 316) dX8_nightOf_299 rfl (by decide) (fun c_67 => ?_) (fun c_67 => ?_)
                        · replace hf := it_f hf (by omega)
                          refine q_iload dX8_nightOf_316 rfl rfl ?_
                          exact J_K_60 _ _ hf
                        · replace hf := it_t hf (by omega)
                          refine q_iload dX8_nightOf_302 rfl rfl ?_
                          refine q_iconst dX8_nightOf_304 rfl rfl ?_
                          refine q_aload_n dX8_nightOf_305 rfl rfl ?_
                          obtain ⟨r_61, h_62, e_63, hf⟩ := bd_ex hf
                          refine g_Vi (vs := []) (st := [(0, 2), (0, r_57)]) dX8_nightOf_306 rfl (S_X8_draws X  h_58) e_63 mf_X8_draws ml_X8_201 rfl rfl rfl rfl ?_
                          refine q_isub dX8_nightOf_309 rfl ?_
                          obtain ⟨r_64, h_65, e_66, hf⟩ := bd_ex hf
                          refine g_Si (vs := [(0, r_57), (0, w32 (2 - r_61))]) (st := []) dX8_nightOf_310 rfl (S_X8_less X r_57 (w32 (2 - r_61)) h_62) e_66 mf_X8_less ml_X8_198 rfl rfl rfl ?_
                          refine q_goto (tgt := 318) dX8_nightOf_313 rfl (by decide) ?_
                          exact J_K_60 _ _ hf
                      clear hf
                      refine q_iload dX8_nightOf_272 rfl rfl ?_
                      refine q_iconst dX8_nightOf_274 rfl rfl ?_
                      refine q_icmp_le (tgt := 292) dX8_nightOf_275 rfl (by decide) (fun c_56 => ?_) (fun c_56 => ?_)
                      · refine q_iconst dX8_nightOf_292 rfl rfl ?_
                        have e1 : v_55 = 0 := by omega
                        subst e1
                        exact J_v_55
                      · refine q_aload_n dX8_nightOf_278 rfl rfl ?_
                        refine g_getF (k := 12) (o := 3) (z := 59) dX8_nightOf_279 rfl fg_X8_16 rfl rfl rfl ?_
                        refine q_iconst dX8_nightOf_282 rfl rfl ?_
                        refine q_iaload dX8_nightOf_283 rfl rfl (by decide) ?_
                        refine q_iload dX8_nightOf_284 rfl rfl ?_
                        refine q_iconst dX8_nightOf_286 rfl rfl ?_
                        refine q_isub dX8_nightOf_287 rfl ?_
                        refine q_imul dX8_nightOf_288 rfl ?_
                        refine q_goto (tgt := 293) dX8_nightOf_289 rfl (by decide) ?_
                        have e1 : v_55 = w32 ((h_52 59 5) * (w32 (p_8 - 5))) := by omega
                        subst e1
                        exact J_v_55
                    clear hf
                    refine q_iload dX8_nightOf_204 rfl rfl ?_
                    refine q_if_ne (tgt := 218) dX8_nightOf_206 rfl (by decide) (fun c_49 => ?_) (fun c_49 => ?_)
                    · refine q_iload dX8_nightOf_218 rfl rfl ?_
                      refine q_iconst dX8_nightOf_220 rfl rfl ?_
                      refine q_icmp_ne (tgt := 238) dX8_nightOf_221 rfl (by decide) (fun c_50 => ?_) (fun c_50 => ?_)
                      · refine q_bipush dX8_nightOf_238 rfl (by decide) ?_
                        have e1 : v_48 = 10 := by omega
                        subst e1
                        exact J_v_48
                      · refine q_aload_n dX8_nightOf_224 rfl rfl ?_
                        refine g_getF (k := 12) (o := 3) (z := 59) dX8_nightOf_225 rfl fg_X8_16 rfl rfl rfl ?_
                        refine q_iconst dX8_nightOf_228 rfl rfl ?_
                        refine q_iaload dX8_nightOf_229 rfl rfl (by decide) ?_
                        refine q_bipush dX8_nightOf_230 rfl (by decide) ?_
                        refine q_iadd dX8_nightOf_232 rfl ?_
                        refine q_iconst dX8_nightOf_233 rfl rfl ?_
                        refine q_idiv dX8_nightOf_234 rfl (by decide) ?_
                        refine q_goto (tgt := 240) dX8_nightOf_235 rfl (by decide) ?_
                        have e1 : v_48 = idv (w32 ((h_47 59 4) + 10)) 2 := by omega
                        subst e1
                        exact J_v_48
                    · refine q_aload_n dX8_nightOf_209 rfl rfl ?_
                      refine g_getF (k := 12) (o := 3) (z := 59) dX8_nightOf_210 rfl fg_X8_16 rfl rfl rfl ?_
                      refine q_iconst dX8_nightOf_213 rfl rfl ?_
                      refine q_iaload dX8_nightOf_214 rfl rfl (by decide) ?_
                      refine q_goto (tgt := 240) dX8_nightOf_215 rfl (by decide) ?_
                      have e1 : v_48 = h_47 59 4 := by omega
                      subst e1
                      exact J_v_48
                  clear hf
                  refine q_iload dX8_nightOf_175 rfl rfl ?_
                  refine q_iconst dX8_nightOf_177 rfl rfl ?_
                  refine q_icmp_ne (tgt := 191) dX8_nightOf_178 rfl (by decide) (fun c_42 => ?_) (fun c_42 => ?_)
                  · refine q_iconst dX8_nightOf_191 rfl rfl ?_
                    have e1 : v_41 = 0 := by omega
                    subst e1
                    exact J_v_41
                  · refine q_iload dX8_nightOf_181 rfl rfl ?_
                    refine q_iconst dX8_nightOf_183 rfl rfl ?_
                    refine q_icmp_ne (tgt := 191) dX8_nightOf_184 rfl (by decide) (fun c_43 => ?_) (fun c_43 => ?_)
                    · refine q_iconst dX8_nightOf_191 rfl rfl ?_
                      have e1 : v_41 = 0 := by omega
                      subst e1
                      exact J_v_41
                    · refine q_iconst dX8_nightOf_187 rfl rfl ?_
                      refine q_goto (tgt := 192) dX8_nightOf_188 rfl (by decide) ?_
                      have e1 : v_41 = 5 := by omega
                      subst e1
                      exact J_v_41
                clear hf
                refine q_iload dX8_nightOf_152 rfl rfl ?_
                refine q_if_le (tgt := 169) dX8_nightOf_154 rfl (by decide) (fun c_36 => ?_) (fun c_36 => ?_)
                · refine q_iconst dX8_nightOf_169 rfl rfl ?_
                  have e1 : v_35 = 0 := by omega
                  subst e1
                  exact J_v_35
                · refine q_iload dX8_nightOf_157 rfl rfl ?_
                  refine q_iload dX8_nightOf_159 rfl rfl ?_
                  refine q_icmp_ne (tgt := 169) dX8_nightOf_161 rfl (by decide) (fun c_37 => ?_) (fun c_37 => ?_)
                  · refine q_iconst dX8_nightOf_169 rfl rfl ?_
                    have e1 : v_35 = 0 := by omega
                    subst e1
                    exact J_v_35
                  · refine q_bipush dX8_nightOf_164 rfl (by decide) ?_
                    refine q_goto (tgt := 170) dX8_nightOf_166 rfl (by decide) ?_
                    have e1 : v_35 = 10 := by omega
                    subst e1
                    exact J_v_35)
            have HF_30 : ¬ ((0 < p_8) ∧ (¬ (¬ v_9 = 0))) → AJ X MX8_nightOf (rmD 1) 148 [(2, 56), (0, isDrawn_0), (0, r_19), (0, people_7), (0, p_8), (0, v_9), (0, r_22), (3, 0), (3, 0), (3, 0)] [] h_23 (PH 0 r) := by
              intro hc
              replace hf := it_f hf hc
              refine q_iconst dX8_nightOf_148 rfl rfl ?_
              exact J_K_25 _ _ hf
            refine q_iload dX8_nightOf_120 rfl rfl ?_
            refine q_if_le (tgt := 148) dX8_nightOf_122 rfl (by decide) (fun c_31 => ?_) (fun c_31 => ?_)
            · exact HF_30 (by omega)
            · refine q_iload dX8_nightOf_125 rfl rfl ?_
              refine q_if_ne (tgt := 148) dX8_nightOf_127 rfl (by decide) (fun c_32 => ?_) (fun c_32 => ?_)
              · exact HF_30 (by omega)
              · replace hf := it_t hf (by omega)
                refine q_aload_n dX8_nightOf_130 rfl rfl ?_
                refine q_aload_n dX8_nightOf_131 rfl rfl ?_
                refine g_getF (k := 17) (o := 8) (z := 64) dX8_nightOf_132 rfl fg_X8_32 rfl rfl rfl ?_
                refine q_iload dX8_nightOf_135 rfl rfl ?_
                refine q_iconst dX8_nightOf_137 rfl rfl ?_
                refine q_isub dX8_nightOf_138 rfl ?_
                obtain ⟨g_26, hf⟩ := gd_ex hf
                refine q_iaload dX8_nightOf_139 rfl rfl g_26 ?_
                refine q_bipush dX8_nightOf_140 rfl (by decide) ?_
                obtain ⟨r_27, h_28, e_29, hf⟩ := bd_ex hf
                refine g_Vi (vs := [(0, h_23 64 (w32 (p_8 - 1))), (0, 6)]) (st := []) dX8_nightOf_142 rfl (S_X8_of X (h_23 64 (w32 (p_8 - 1))) 6 h_23) e_29 mf_X8_of ml_X8_151 rfl rfl rfl rfl ?_
                refine q_goto (tgt := 149) dX8_nightOf_145 rfl (by decide) ?_
                exact J_K_25 _ _ hf)
        refine q_iload dX8_nightOf_61 rfl rfl ?_
        refine q_if_eq (tgt := 86) dX8_nightOf_63 rfl (by decide) (fun c_15 => ?_) (fun c_15 => ?_)
        · replace hf := it_f hf (by omega)
          exact J_K_12 _ _ hf
        · replace hf := it_t hf (by omega)
          refine q_aload_n dX8_nightOf_66 rfl rfl ?_
          refine q_dup dX8_nightOf_67 rfl (by decide) ?_
          refine g_get (k := 26) (kz := 26) dX8_nightOf_68 rfl fg_X8_192 rfl rfl ?_
          refine q_iload_n dX8_nightOf_71 rfl rfl ?_
          refine q_iload_n dX8_nightOf_72 rfl rfl ?_
          refine q_imul dX8_nightOf_73 rfl ?_
          refine q_sipush dX8_nightOf_74 rfl (by decide) ?_
          refine q_idiv dX8_nightOf_77 rfl (by decide) ?_
          refine q_iadd dX8_nightOf_78 rfl ?_
          refine g_put (k := 26) (kz := 26) dX8_nightOf_79 rfl fp_X8_192 rfl (fun q => q.1 rfl) rfl ?_
          obtain ⟨h_13, e_h_13, hf⟩ := nm_ex hf
          rw [← e_h_13]
          refine q_iload_n dX8_nightOf_82 rfl rfl ?_
          refine q_iconst dX8_nightOf_83 rfl rfl ?_
          refine q_idiv dX8_nightOf_84 rfl (by decide) ?_
          obtain ⟨heat_14, e_heat_14, hf⟩ := nm_ex hf
          rw [← e_heat_14]
          refine q_istore_n (ls' := [(2, 56), (0, isDrawn_0), (0, heat_14), (0, people_7), (0, p_8), (0, v_9), (3, 0), (3, 0), (3, 0), (3, 0)]) dX8_nightOf_85 rfl rfl (Nat.le_of_ble_eq_true rfl) rfl ?_
          exact J_K_12 _ _ hf
      clear hf
      refine q_aload_n dX8_nightOf_38 rfl rfl ?_
      refine g_get (k := 19) (kz := 19) dX8_nightOf_39 rfl fg_X8_163 rfl rfl ?_
      refine q_if_le (tgt := 58) dX8_nightOf_42 rfl (by decide) (fun c_10 => ?_) (fun c_10 => ?_)
      · refine q_iconst dX8_nightOf_58 rfl rfl ?_
        have e1 : v_9 = 0 := by omega
        subst e1
        exact J_v_9
      · refine q_iload dX8_nightOf_45 rfl rfl ?_
        refine q_aload_n dX8_nightOf_47 rfl rfl ?_
        refine g_get (k := 19) (kz := 19) dX8_nightOf_48 rfl fg_X8_163 rfl rfl ?_
        refine q_icmp_ne (tgt := 58) dX8_nightOf_51 rfl (by decide) (fun c_11 => ?_) (fun c_11 => ?_)
        · refine q_iconst dX8_nightOf_58 rfl rfl ?_
          have e1 : v_9 = 0 := by omega
          subst e1
          exact J_v_9
        · refine q_iconst dX8_nightOf_54 rfl rfl ?_
          refine q_goto (tgt := 59) dX8_nightOf_55 rfl (by decide) ?_
          have e1 : v_9 = 1 := by omega
          subst e1
          exact J_v_9
theorem S_X8_nightOf (X : XS) (isDrawn_0 : Int) (h : Mem) : CT X yX8_nightOf MX8_nightOf (some .int) 0 1 [(2, 56), (0, isDrawn_0)] h (F_X8_nightOf isDrawn_0 h) := by
  refine CT.ofI (by decide) rfl (Nat.le_of_ble_eq_true rfl) (fun r hf => ?_)
  unfold F_X8_nightOf at hf
  show AJ X MX8_nightOf (rmD 1) 0 [(2, 56), (0, isDrawn_0), (3, 0), (3, 0), (3, 0), (3, 0), (3, 0), (3, 0), (3, 0), (3, 0)] [] h (PH 0 r)
  refine q_aload_n dX8_nightOf_0 rfl rfl ?_
  refine g_getF (k := 12) (o := 3) (z := 59) dX8_nightOf_1 rfl fg_X8_16 rfl rfl rfl ?_
  refine q_bipush dX8_nightOf_4 rfl (by decide) ?_
  refine q_iaload dX8_nightOf_6 rfl rfl (by decide) ?_
  obtain ⟨heat_1, e_heat_1, hf⟩ := nm_ex hf
  rw [← e_heat_1]
  refine q_istore_n (ls' := [(2, 56), (0, isDrawn_0), (0, heat_1), (3, 0), (3, 0), (3, 0), (3, 0), (3, 0), (3, 0), (3, 0)]) dX8_nightOf_7 rfl rfl (Nat.le_of_ble_eq_true rfl) rfl ?_
  refine q_aload_n dX8_nightOf_8 rfl rfl ?_
  refine g_getF (k := 12) (o := 3) (z := 59) dX8_nightOf_9 rfl fg_X8_16 rfl rfl rfl ?_
  refine q_bipush dX8_nightOf_12 rfl (by decide) ?_
  refine q_iaload dX8_nightOf_14 rfl rfl (by decide) ?_
  obtain ⟨people_2, e_people_2, hf⟩ := nm_ex hf
  rw [← e_people_2]
  refine q_istore_n (ls' := [(2, 56), (0, isDrawn_0), (0, heat_1), (0, people_2), (3, 0), (3, 0), (3, 0), (3, 0), (3, 0), (3, 0)]) dX8_nightOf_15 rfl rfl (Nat.le_of_ble_eq_true rfl) rfl ?_
  refine q_aload_n dX8_nightOf_16 rfl rfl ?_
  refine q_iconst dX8_nightOf_17 rfl rfl ?_
  refine g_put (k := 26) (kz := 26) dX8_nightOf_18 rfl fp_X8_192 rfl (fun q => q.1 rfl) rfl ?_
  obtain ⟨h_3, e_h_3, hf⟩ := nm_ex hf
  rw [← e_h_3]
  refine q_aload_n dX8_nightOf_21 rfl rfl ?_
  refine q_iconst dX8_nightOf_22 rfl rfl ?_
  refine g_put (k := 27) (kz := 27) dX8_nightOf_23 rfl fp_X8_195 rfl (fun q => q.1 rfl) rfl ?_
  obtain ⟨h_4, e_h_4, hf⟩ := nm_ex hf
  rw [← e_h_4]
  refine q_iconst dX8_nightOf_26 rfl rfl ?_
  refine q_istore (ls' := [(2, 56), (0, isDrawn_0), (0, heat_1), (0, people_2), (0, 0), (3, 0), (3, 0), (3, 0), (3, 0), (3, 0)]) dX8_nightOf_27 rfl (Nat.le_of_ble_eq_true rfl) rfl ?_
  refine SL_X8_nightOf_1 X isDrawn_0  _ (fun heat_86 people_87 p_88 h_85 hf => ?_) FU _ _ _ _ hf
  refine q_aload_n dX8_nightOf_433 rfl rfl ?_
  refine q_dup dX8_nightOf_434 rfl (by decide) ?_
  refine g_get (k := 27) (kz := 27) dX8_nightOf_435 rfl fg_X8_195 rfl rfl ?_
  refine q_aload_n dX8_nightOf_438 rfl rfl ?_
  refine g_get (k := 26) (kz := 26) dX8_nightOf_439 rfl fg_X8_192 rfl rfl ?_
  refine q_iadd dX8_nightOf_442 rfl ?_
  refine g_put (k := 27) (kz := 27) dX8_nightOf_443 rfl fp_X8_195 rfl (fun q => q.1 rfl) rfl ?_
  obtain ⟨h_89, e_h_89, hf⟩ := nm_ex hf
  rw [← e_h_89]
  refine q_aload_n dX8_nightOf_446 rfl rfl ?_
  refine g_get (k := 27) (kz := 27) dX8_nightOf_447 rfl fg_X8_195 rfl rfl ?_
  exact g_ireturn dX8_nightOf_450 rfl hf
def F_X8_night (p_0 what_0 : Int) (h : Mem) : Res := nm (wr h 56 0 0) (fun (h_1 : Mem) => jn (fun (K_2 : Mem → Res) => bd (F_X8_isPlace p_0 h_1) (fun r_4 (h_5 : Mem) => if (¬ r_4 = 0) then (bd (F_X8_in what_0 0 3 h_5) (fun r_9 (h_10 : Mem) => if (¬ r_9 = 0) then (bd (F_X8_asBilled  h_10) (fun _ (h_15 : Mem) => bd (F_X8_lays  h_15) (fun _ (h_18 : Mem) => bd (F_X8_nightOf 0 h_18) (fun r_20 (h_21 : Mem) => if (what_0 = 0) then (gd (0 ≤ p_0 ∧ p_0 < 10) (some (h_21 67 p_0, h_21))) else (if (what_0 = 1) then (gd (0 ≤ p_0 ∧ p_0 < 10) (some (h_21 68 p_0, h_21))) else (if (what_0 = 2) then (gd (0 ≤ p_0 ∧ p_0 < 10) (some (h_21 69 p_0, h_21))) else (gd (0 ≤ p_0 ∧ p_0 < 10) (some (h_21 70 p_0, h_21))))))))) else (K_2 h_10))) else (K_2 h_5))) (fun (h_3 : Mem) => some ((-1), h_3)))
theorem S_X8_night (X : XS) (p_0 : Int) (what_0 : Int) (h : Mem) : CT X yX8_night MX8_night (some .int) 0 4 [(2, 56), (0, p_0), (0, what_0)] h (F_X8_night p_0 what_0 h) := by
  refine CT.ofI (by decide) rfl (Nat.le_of_ble_eq_true rfl) (fun r hf => ?_)
  unfold F_X8_night at hf
  show AJ X MX8_night (rmD 4) 0 [(2, 56), (0, p_0), (0, what_0)] [] h (PH 0 r)
  refine q_aload_n dX8_night_0 rfl rfl ?_
  refine q_iconst dX8_night_1 rfl rfl ?_
  refine g_put (k := 0) (kz := 0) dX8_night_2 rfl fp_X8_68 rfl (fun q => q.1 rfl) rfl ?_
  obtain ⟨h_1, e_h_1, hf⟩ := nm_ex hf
  rw [← e_h_1]
  obtain ⟨K_2, J_K_2, hf⟩ := jn_ex (P := fun K => ∀ (h_3 : Mem), K h_3 = some r → AJ X MX8_night (rmD 4) 22 [(2, 56), (0, p_0), (0, what_0)] [] h_3 (PH 0 r)) hf (by
      intro h_3 hf
      refine q_iconst dX8_night_22 rfl rfl ?_
      exact g_ireturn dX8_night_23 rfl hf)
  refine q_aload_n dX8_night_5 rfl rfl ?_
  refine q_iload_n dX8_night_6 rfl rfl ?_
  obtain ⟨r_4, h_5, e_6, hf⟩ := bd_ex hf
  refine g_Vb (vs := [(0, p_0)]) (st := []) dX8_night_7 rfl (S_X8_isPlace X p_0 h_1) e_6 mf_X8_isPlace ml_X8_157 rfl rfl rfl rfl (fun b_7 => ?_)
  refine q_if_eq (tgt := 22) dX8_night_10 rfl (by decide) (fun c_8 => ?_) (fun c_8 => ?_)
  · replace hf := it_f hf (by omega)
    exact J_K_2 _ hf
  · replace hf := it_t hf (by omega)
    refine q_iload_n dX8_night_13 rfl rfl ?_
    refine q_iconst dX8_night_14 rfl rfl ?_
    refine q_iconst dX8_night_15 rfl rfl ?_
    obtain ⟨r_9, h_10, e_11, hf⟩ := bd_ex hf
    refine g_Sb (vs := [(0, what_0), (0, 0), (0, 3)]) (st := []) dX8_night_16 rfl (S_X8_in X what_0 0 3 h_5) e_11 mf_X8_in ml_X8_72 rfl rfl rfl (fun b_12 => ?_)
    refine q_if_ne (tgt := 24) dX8_night_19 rfl (by decide) (fun c_13 => ?_) (fun c_13 => ?_)
    · replace hf := it_t hf (by omega)
      refine q_aload_n dX8_night_24 rfl rfl ?_
      obtain ⟨r_14, h_15, e_16, hf⟩ := bd_ex hf
      refine g_Vv (vs := []) (st := []) dX8_night_25 rfl (S_X8_asBilled X  h_10) e_16 mf_X8_asBilled ml_X8_175 rfl rfl rfl rfl ?_
      refine q_aload_n dX8_night_28 rfl rfl ?_
      obtain ⟨r_17, h_18, e_19, hf⟩ := bd_ex hf
      refine g_Vv (vs := []) (st := []) dX8_night_29 rfl (S_X8_lays X  h_15) e_19 mf_X8_lays ml_X8_178 rfl rfl rfl rfl ?_
      refine q_aload_n dX8_night_32 rfl rfl ?_
      refine q_iconst dX8_night_33 rfl rfl ?_
      obtain ⟨r_20, h_21, e_22, hf⟩ := bd_ex hf
      refine g_Vi (vs := [(0, 0)]) (st := []) dX8_night_34 rfl (S_X8_nightOf X 0 h_18) e_22 mf_X8_nightOf ml_X8_205 rfl rfl rfl rfl ?_
      refine q_pop dX8_night_37 rfl (by decide) ?_
      refine q_iload_n dX8_night_38 rfl rfl ?_
      refine q_if_ne (tgt := 51) dX8_night_39 rfl (by decide) (fun c_29 => ?_) (fun c_29 => ?_)
      · replace hf := it_f hf (by omega)
        refine q_iload_n dX8_night_51 rfl rfl ?_
        refine q_iconst dX8_night_52 rfl rfl ?_
        refine q_icmp_ne (tgt := 65) dX8_night_53 rfl (by decide) (fun c_28 => ?_) (fun c_28 => ?_)
        · replace hf := it_f hf (by omega)
          refine q_iload_n dX8_night_65 rfl rfl ?_
          refine q_iconst dX8_night_66 rfl rfl ?_
          refine q_icmp_ne (tgt := 79) dX8_night_67 rfl (by decide) (fun c_27 => ?_) (fun c_27 => ?_)
          · replace hf := it_f hf (by omega)
            refine q_aload_n dX8_night_79 rfl rfl ?_
            refine g_getF (k := 25) (o := 14) (z := 70) dX8_night_80 rfl fg_X8_50 rfl rfl rfl ?_
            refine q_iload_n dX8_night_83 rfl rfl ?_
            obtain ⟨g_26, hf⟩ := gd_ex hf
            refine q_iaload dX8_night_84 rfl rfl g_26 ?_
            exact g_ireturn dX8_night_85 rfl hf
          · replace hf := it_t hf (by omega)
            refine q_aload_n dX8_night_70 rfl rfl ?_
            refine g_getF (k := 24) (o := 13) (z := 69) dX8_night_71 rfl fg_X8_47 rfl rfl rfl ?_
            refine q_iload_n dX8_night_74 rfl rfl ?_
            obtain ⟨g_25, hf⟩ := gd_ex hf
            refine q_iaload dX8_night_75 rfl rfl g_25 ?_
            refine q_goto (tgt := 85) dX8_night_76 rfl (by decide) ?_
            exact g_ireturn dX8_night_85 rfl hf
        · replace hf := it_t hf (by omega)
          refine q_aload_n dX8_night_56 rfl rfl ?_
          refine g_getF (k := 23) (o := 12) (z := 68) dX8_night_57 rfl fg_X8_44 rfl rfl rfl ?_
          refine q_iload_n dX8_night_60 rfl rfl ?_
          obtain ⟨g_24, hf⟩ := gd_ex hf
          refine q_iaload dX8_night_61 rfl rfl g_24 ?_
          refine q_goto (tgt := 85) dX8_night_62 rfl (by decide) ?_
          exact g_ireturn dX8_night_85 rfl hf
      · replace hf := it_t hf (by omega)
        refine q_aload_n dX8_night_42 rfl rfl ?_
        refine g_getF (k := 22) (o := 11) (z := 67) dX8_night_43 rfl fg_X8_41 rfl rfl rfl ?_
        refine q_iload_n dX8_night_46 rfl rfl ?_
        obtain ⟨g_23, hf⟩ := gd_ex hf
        refine q_iaload dX8_night_47 rfl rfl g_23 ?_
        refine q_goto (tgt := 85) dX8_night_48 rfl (by decide) ?_
        exact g_ireturn dX8_night_85 rfl hf
    · replace hf := it_f hf (by omega)
      exact J_K_2 _ hf
def F_X8_worth (what_0 : Int) (h : Mem) : Res := nm (wr h 56 0 0) (fun (h_1 : Mem) => bd (F_X8_in what_0 0 3 h_1) (fun r_2 (h_3 : Mem) => if (¬ r_2 = 0) then (if ((h_3 61 0) = 0) then (some ((-2), h_3)) else (bd (F_X8_asBilled  h_3) (fun _ (h_8 : Mem) => bd (F_X8_lays  h_8) (fun _ (h_11 : Mem) => bd (F_X8_nightOf 0 h_11) (fun r_13 (h_14 : Mem) => if (what_0 = 0) then (some (h_14 56 27, h_14)) else (if (what_0 = 1) then (some (h_14 56 26, h_14)) else (if (what_0 = 2) then (gd (0 ≤ (w32 ((h_14 56 18) - 1)) ∧ (w32 ((h_14 56 18) - 1)) < 10) (some (h_14 70 (w32 ((h_14 56 18) - 1)), h_14))) else (bd (F_X8_end (w32 ((h_14 56 18) - 1)) h_14) (fun r_17 (h_18 : Mem) => some (r_17, h_18)))))))))) else (some ((-1), h_3))))
theorem S_X8_worth (X : XS) (what_0 : Int) (h : Mem) : CT X yX8_worth MX8_worth (some .int) 0 4 [(2, 56), (0, what_0)] h (F_X8_worth what_0 h) := by
  refine CT.ofI (by decide) rfl (Nat.le_of_ble_eq_true rfl) (fun r hf => ?_)
  unfold F_X8_worth at hf
  show AJ X MX8_worth (rmD 4) 0 [(2, 56), (0, what_0)] [] h (PH 0 r)
  refine q_aload_n dX8_worth_0 rfl rfl ?_
  refine q_iconst dX8_worth_1 rfl rfl ?_
  refine g_put (k := 0) (kz := 0) dX8_worth_2 rfl fp_X8_68 rfl (fun q => q.1 rfl) rfl ?_
  obtain ⟨h_1, e_h_1, hf⟩ := nm_ex hf
  rw [← e_h_1]
  refine q_iload_n dX8_worth_5 rfl rfl ?_
  refine q_iconst dX8_worth_6 rfl rfl ?_
  refine q_iconst dX8_worth_7 rfl rfl ?_
  obtain ⟨r_2, h_3, e_4, hf⟩ := bd_ex hf
  refine g_Sb (vs := [(0, what_0), (0, 0), (0, 3)]) (st := []) dX8_worth_8 rfl (S_X8_in X what_0 0 3 h_1) e_4 mf_X8_in ml_X8_72 rfl rfl rfl (fun b_5 => ?_)
  refine q_if_ne (tgt := 16) dX8_worth_11 rfl (by decide) (fun c_6 => ?_) (fun c_6 => ?_)
  · replace hf := it_t hf (by omega)
    refine q_aload_n dX8_worth_16 rfl rfl ?_
    refine g_getF (k := 14) (o := 5) (z := 61) dX8_worth_17 rfl fg_X8_22 rfl rfl rfl ?_
    refine q_iconst dX8_worth_20 rfl rfl ?_
    refine q_iaload dX8_worth_21 rfl rfl (by decide) ?_
    refine q_if_ne (tgt := 28) dX8_worth_22 rfl (by decide) (fun c_23 => ?_) (fun c_23 => ?_)
    · replace hf := it_f hf (by omega)
      refine q_aload_n dX8_worth_28 rfl rfl ?_
      obtain ⟨r_7, h_8, e_9, hf⟩ := bd_ex hf
      refine g_Vv (vs := []) (st := []) dX8_worth_29 rfl (S_X8_asBilled X  h_3) e_9 mf_X8_asBilled ml_X8_175 rfl rfl rfl rfl ?_
      refine q_aload_n dX8_worth_32 rfl rfl ?_
      obtain ⟨r_10, h_11, e_12, hf⟩ := bd_ex hf
      refine g_Vv (vs := []) (st := []) dX8_worth_33 rfl (S_X8_lays X  h_8) e_12 mf_X8_lays ml_X8_178 rfl rfl rfl rfl ?_
      refine q_aload_n dX8_worth_36 rfl rfl ?_
      refine q_iconst dX8_worth_37 rfl rfl ?_
      obtain ⟨r_13, h_14, e_15, hf⟩ := bd_ex hf
      refine g_Vi (vs := [(0, 0)]) (st := []) dX8_worth_38 rfl (S_X8_nightOf X 0 h_11) e_15 mf_X8_nightOf ml_X8_205 rfl rfl rfl rfl ?_
      refine q_pop dX8_worth_41 rfl (by decide) ?_
      refine q_iload_n dX8_worth_42 rfl rfl ?_
      refine q_if_ne (tgt := 53) dX8_worth_43 rfl (by decide) (fun c_22 => ?_) (fun c_22 => ?_)
      · replace hf := it_f hf (by omega)
        refine q_iload_n dX8_worth_53 rfl rfl ?_
        refine q_iconst dX8_worth_54 rfl rfl ?_
        refine q_icmp_ne (tgt := 65) dX8_worth_55 rfl (by decide) (fun c_21 => ?_) (fun c_21 => ?_)
        · replace hf := it_f hf (by omega)
          refine q_iload_n dX8_worth_65 rfl rfl ?_
          refine q_iconst dX8_worth_66 rfl rfl ?_
          refine q_icmp_ne (tgt := 84) dX8_worth_67 rfl (by decide) (fun c_20 => ?_) (fun c_20 => ?_)
          · replace hf := it_f hf (by omega)
            refine q_aload_n dX8_worth_84 rfl rfl ?_
            refine q_aload_n dX8_worth_85 rfl rfl ?_
            refine g_get (k := 18) (kz := 18) dX8_worth_86 rfl fg_X8_160 rfl rfl ?_
            refine q_iconst dX8_worth_89 rfl rfl ?_
            refine q_isub dX8_worth_90 rfl ?_
            obtain ⟨r_17, h_18, e_19, hf⟩ := bd_ex hf
            refine g_Vi (vs := [(0, w32 ((h_14 56 18) - 1))]) (st := []) dX8_worth_91 rfl (S_X8_end X (w32 ((h_14 56 18) - 1)) h_14) e_19 mf_X8_end ml_X8_172 rfl rfl rfl rfl ?_
            exact g_ireturn dX8_worth_94 rfl hf
          · replace hf := it_t hf (by omega)
            refine q_aload_n dX8_worth_70 rfl rfl ?_
            refine g_getF (k := 25) (o := 14) (z := 70) dX8_worth_71 rfl fg_X8_50 rfl rfl rfl ?_
            refine q_aload_n dX8_worth_74 rfl rfl ?_
            refine g_get (k := 18) (kz := 18) dX8_worth_75 rfl fg_X8_160 rfl rfl ?_
            refine q_iconst dX8_worth_78 rfl rfl ?_
            refine q_isub dX8_worth_79 rfl ?_
            obtain ⟨g_16, hf⟩ := gd_ex hf
            refine q_iaload dX8_worth_80 rfl rfl g_16 ?_
            refine q_goto (tgt := 94) dX8_worth_81 rfl (by decide) ?_
            exact g_ireturn dX8_worth_94 rfl hf
        · replace hf := it_t hf (by omega)
          refine q_aload_n dX8_worth_58 rfl rfl ?_
          refine g_get (k := 26) (kz := 26) dX8_worth_59 rfl fg_X8_192 rfl rfl ?_
          refine q_goto (tgt := 94) dX8_worth_62 rfl (by decide) ?_
          exact g_ireturn dX8_worth_94 rfl hf
      · replace hf := it_t hf (by omega)
        refine q_aload_n dX8_worth_46 rfl rfl ?_
        refine g_get (k := 27) (kz := 27) dX8_worth_47 rfl fg_X8_195 rfl rfl ?_
        refine q_goto (tgt := 94) dX8_worth_50 rfl (by decide) ?_
        exact g_ireturn dX8_worth_94 rfl hf
    · replace hf := it_t hf (by omega)
      refine q_bipush dX8_worth_25 rfl (by decide) ?_
      exact g_ireturn dX8_worth_27 rfl hf
  · replace hf := it_f hf (by omega)
    refine q_iconst dX8_worth_14 rfl rfl ?_
    exact g_ireturn dX8_worth_15 rfl hf
def F_X8_swaps (a_0 b_0 : Int) (h : Mem) : Res := gd (0 ≤ a_0 ∧ a_0 < 10) (nm (h 64 a_0) (fun v_2 => gd (0 ≤ b_0 ∧ b_0 < 10) (nm (wr h 64 a_0 (h 64 b_0)) (fun (h_4 : Mem) => nm (wr h_4 64 b_0 v_2) (fun (h_5 : Mem) => some (0, h_5))))))
theorem S_X8_swaps (X : XS) (a_0 : Int) (b_0 : Int) (h : Mem) : CT X yX8_swaps MX8_swaps none 9 0 [(2, 56), (0, a_0), (0, b_0)] h (F_X8_swaps a_0 b_0 h) := by
  refine CT.ofV (by decide) rfl (Nat.le_of_ble_eq_true rfl) (fun r hf => ?_)
  unfold F_X8_swaps at hf
  show AJ X MX8_swaps (rmD 0) 0 [(2, 56), (0, a_0), (0, b_0), (3, 0)] [] h (PH 9 r)
  refine q_aload_n dX8_swaps_0 rfl rfl ?_
  refine g_getF (k := 17) (o := 8) (z := 64) dX8_swaps_1 rfl fg_X8_32 rfl rfl rfl ?_
  refine q_iload_n dX8_swaps_4 rfl rfl ?_
  obtain ⟨g_1, hf⟩ := gd_ex hf
  refine q_iaload dX8_swaps_5 rfl rfl g_1 ?_
  obtain ⟨v_2, e_v_2, hf⟩ := nm_ex hf
  rw [← e_v_2]
  refine q_istore_n (ls' := [(2, 56), (0, a_0), (0, b_0), (0, v_2)]) dX8_swaps_6 rfl rfl (Nat.le_of_ble_eq_true rfl) rfl ?_
  refine q_aload_n dX8_swaps_7 rfl rfl ?_
  refine g_getF (k := 17) (o := 8) (z := 64) dX8_swaps_8 rfl fg_X8_32 rfl rfl rfl ?_
  refine q_iload_n dX8_swaps_11 rfl rfl ?_
  refine q_aload_n dX8_swaps_12 rfl rfl ?_
  refine g_getF (k := 17) (o := 8) (z := 64) dX8_swaps_13 rfl fg_X8_32 rfl rfl rfl ?_
  refine q_iload_n dX8_swaps_16 rfl rfl ?_
  obtain ⟨g_3, hf⟩ := gd_ex hf
  refine q_iaload dX8_swaps_17 rfl rfl g_3 ?_
  refine q_iastore dX8_swaps_18 rfl rfl g_1 ?_
  obtain ⟨h_4, e_h_4, hf⟩ := nm_ex hf
  rw [← e_h_4]
  refine q_aload_n dX8_swaps_19 rfl rfl ?_
  refine g_getF (k := 17) (o := 8) (z := 64) dX8_swaps_20 rfl fg_X8_32 rfl rfl rfl ?_
  refine q_iload_n dX8_swaps_23 rfl rfl ?_
  refine q_iload_n dX8_swaps_24 rfl rfl ?_
  refine q_iastore dX8_swaps_25 rfl rfl g_3 ?_
  obtain ⟨h_5, e_h_5, hf⟩ := nm_ex hf
  rw [← e_h_5]
  exact g_return dX8_swaps_26 rfl hf
def L_X8_goesOn_3 (at_12 with_21 : Int) (Kx : Int → Int → Mem → Res) : Nat → Int → Int → Mem → Res
  | 0, _, _, _ => none
  | n + 1, a_28, b_29, h_27 => if (a_28 < b_29) then (bd (F_X8_swaps a_28 b_29 h_27) (fun _ (h_31 : Mem) => nm (w32 (a_28 + 1)) (fun a_33 => nm (w32 (b_29 + (-1))) (fun b_34 => L_X8_goesOn_3 at_12 with_21 Kx n a_33 b_34 h_31)))) else (Kx a_28 b_29 h_27)
def L_X8_goesOn_2 (at_12 : Int) (Kx : Int → Mem → Res) : Nat → Int → Mem → Res
  | 0, _, _ => none
  | n + 1, with_15, h_14 => gd (0 ≤ with_15 ∧ with_15 < 10) (gd (0 ≤ at_12 ∧ at_12 < 10) (if ((h_14 64 with_15) < (h_14 64 at_12)) then (nm (w32 (with_15 + (-1))) (fun with_19 => L_X8_goesOn_2 at_12 Kx n with_19 h_14)) else (Kx with_15 h_14)))
def L_X8_goesOn_1 (Kx : Int → Mem → Res) : Nat → Int → Mem → Res
  | 0, _, _ => none
  | n + 1, at_3, h_2 => jn (fun (K_4 : Mem → Res) => if (0 ≤ at_3) then (gd (0 ≤ at_3 ∧ at_3 < 10) (gd (0 ≤ (w32 (at_3 + 1)) ∧ (w32 (at_3 + 1)) < 10) (if ((h_2 64 (w32 (at_3 + 1))) < (h_2 64 at_3)) then (nm (w32 (at_3 + (-1))) (fun at_10 => L_X8_goesOn_1 Kx n at_10 h_2)) else (K_4 h_2)))) else (K_4 h_2)) (fun (h_5 : Mem) => Kx at_3 h_5)
def F_X8_goesOn (h : Mem) : Res := nm (w32 ((h 56 18) - 2)) (fun at_1 => L_X8_goesOn_1 (fun at_12 (h_11 : Mem) => if (at_12 < 0) then (some (0, h_11)) else (nm (w32 ((h_11 56 18) - 1)) (fun with_13 => L_X8_goesOn_2 at_12 (fun with_21 (h_20 : Mem) => bd (F_X8_swaps at_12 with_21 h_20) (fun _ (h_23 : Mem) => nm (w32 (at_12 + 1)) (fun a_25 => nm (w32 ((h_23 56 18) - 1)) (fun b_26 => L_X8_goesOn_3 at_12 with_21 (fun a_37 b_38 (h_36 : Mem) => some (1, h_36)) FU a_25 b_26 h_23)))) FU with_13 h_11))) FU at_1 h)
theorem SL_X8_goesOn_3 (X : XS) (at_12 with_21 : Int) (Kx : Int → Int → Mem → Res) {r : Int × Mem} (hK : ∀ (a_28 b_29 : Int) (h_27 : Mem), Kx a_28 b_29 h_27 = some r → AJ X MX8_goesOn (rmD 1) 108 [(2, 56), (0, at_12), (0, with_21), (0, a_28), (0, b_29)] [] h_27 (PB r)) :
    ∀ (n : Nat) (a_28 b_29 : Int) (h_27 : Mem), L_X8_goesOn_3 at_12 with_21 Kx n a_28 b_29 h_27 = some r → AJ X MX8_goesOn (rmD 1) 86 [(2, 56), (0, at_12), (0, with_21), (0, a_28), (0, b_29)] [] h_27 (PB r) := by
  intro n
  induction n with
  | zero => intro a_28 b_29 h_27 hf; cases hf
  | succ n ih =>
    intro a_28 b_29 h_27 hf
    rw [L_X8_goesOn_3] at hf
    refine q_iload_n dX8_goesOn_86 rfl rfl ?_
    refine q_iload dX8_goesOn_87 rfl rfl ?_
    refine q_icmp_ge (tgt := 108) dX8_goesOn_89 rfl (by decide) (fun c_35 => ?_) (fun c_35 => ?_)
    · replace hf := it_f hf (by omega)
      exact hK _ _ _ hf
    · replace hf := it_t hf (by omega)
      refine q_aload_n dX8_goesOn_92 rfl rfl ?_
      refine q_iload_n dX8_goesOn_93 rfl rfl ?_
      refine q_iload dX8_goesOn_94 rfl rfl ?_
      obtain ⟨r_30, h_31, e_32, hf⟩ := bd_ex hf
      refine g_Vv (vs := [(0, a_28), (0, b_29)]) (st := []) dX8_goesOn_96 rfl (S_X8_swaps X a_28 b_29 h_27) e_32 mf_X8_swaps ml_X8_208 rfl rfl rfl rfl ?_
      refine q_iinc (ls' := [(2, 56), (0, at_12), (0, with_21), (0, w32 (a_28 + 1)), (0, b_29)]) dX8_goesOn_99 rfl rfl rfl ?_
      obtain ⟨a_33, e_a_33, hf⟩ := nm_ex hf
      rw [← e_a_33]
      refine q_iinc (ls' := [(2, 56), (0, at_12), (0, with_21), (0, a_33), (0, w32 (b_29 + (-1)))]) dX8_goesOn_102 rfl rfl rfl ?_
      obtain ⟨b_34, e_b_34, hf⟩ := nm_ex hf
      rw [← e_b_34]
      refine q_goto (tgt := 86) dX8_goesOn_105 rfl (by decide) ?_
      exact ih _ _ _ hf
theorem SL_X8_goesOn_2 (X : XS) (at_12 : Int) (Kx : Int → Mem → Res) {r : Int × Mem} (hK : ∀ (with_15 : Int) (h_14 : Mem), Kx with_15 h_14 = some r → AJ X MX8_goesOn (rmD 1) 68 [(2, 56), (0, at_12), (0, with_15), (3, 0), (3, 0)] [] h_14 (PB r)) :
    ∀ (n : Nat) (with_15 : Int) (h_14 : Mem), L_X8_goesOn_2 at_12 Kx n with_15 h_14 = some r → AJ X MX8_goesOn (rmD 1) 47 [(2, 56), (0, at_12), (0, with_15), (3, 0), (3, 0)] [] h_14 (PB r) := by
  intro n
  induction n with
  | zero => intro with_15 h_14 hf; cases hf
  | succ n ih =>
    intro with_15 h_14 hf
    rw [L_X8_goesOn_2] at hf
    refine q_aload_n dX8_goesOn_47 rfl rfl ?_
    refine g_getF (k := 17) (o := 8) (z := 64) dX8_goesOn_48 rfl fg_X8_32 rfl rfl rfl ?_
    refine q_iload_n dX8_goesOn_51 rfl rfl ?_
    obtain ⟨g_16, hf⟩ := gd_ex hf
    refine q_iaload dX8_goesOn_52 rfl rfl g_16 ?_
    refine q_aload_n dX8_goesOn_53 rfl rfl ?_
    refine g_getF (k := 17) (o := 8) (z := 64) dX8_goesOn_54 rfl fg_X8_32 rfl rfl rfl ?_
    refine q_iload_n dX8_goesOn_57 rfl rfl ?_
    obtain ⟨g_17, hf⟩ := gd_ex hf
    refine q_iaload dX8_goesOn_58 rfl rfl g_17 ?_
    refine q_icmp_ge (tgt := 68) dX8_goesOn_59 rfl (by decide) (fun c_18 => ?_) (fun c_18 => ?_)
    · replace hf := it_f hf (by omega)
      exact hK _ _ hf
    · replace hf := it_t hf (by omega)
      refine q_iinc (ls' := [(2, 56), (0, at_12), (0, w32 (with_15 + (-1))), (3, 0), (3, 0)]) dX8_goesOn_62 rfl rfl rfl ?_
      obtain ⟨with_19, e_with_19, hf⟩ := nm_ex hf
      rw [← e_with_19]
      refine q_goto (tgt := 47) dX8_goesOn_65 rfl (by decide) ?_
      exact ih _ _ hf
theorem SL_X8_goesOn_1 (X : XS) (Kx : Int → Mem → Res) {r : Int × Mem} (hK : ∀ (at_3 : Int) (h_2 : Mem), Kx at_3 h_2 = some r → AJ X MX8_goesOn (rmD 1) 34 [(2, 56), (0, at_3), (3, 0), (3, 0), (3, 0)] [] h_2 (PB r)) :
    ∀ (n : Nat) (at_3 : Int) (h_2 : Mem), L_X8_goesOn_1 Kx n at_3 h_2 = some r → AJ X MX8_goesOn (rmD 1) 7 [(2, 56), (0, at_3), (3, 0), (3, 0), (3, 0)] [] h_2 (PB r) := by
  intro n
  induction n with
  | zero => intro at_3 h_2 hf; cases hf
  | succ n ih =>
    intro at_3 h_2 hf
    rw [L_X8_goesOn_1] at hf
    obtain ⟨K_4, J_K_4, hf⟩ := jn_ex (P := fun K => ∀ (h_5 : Mem), K h_5 = some r → AJ X MX8_goesOn (rmD 1) 34 [(2, 56), (0, at_3), (3, 0), (3, 0), (3, 0)] [] h_5 (PB r)) hf (by
        intro h_5 hf
        exact hK _ _ hf)
    refine q_iload_n dX8_goesOn_7 rfl rfl ?_
    refine q_if_lt (tgt := 34) dX8_goesOn_8 rfl (by decide) (fun c_6 => ?_) (fun c_6 => ?_)
    · replace hf := it_f hf (by omega)
      exact J_K_4 _ hf
    · replace hf := it_t hf (by omega)
      refine q_aload_n dX8_goesOn_11 rfl rfl ?_
      refine g_getF (k := 17) (o := 8) (z := 64) dX8_goesOn_12 rfl fg_X8_32 rfl rfl rfl ?_
      refine q_iload_n dX8_goesOn_15 rfl rfl ?_
      obtain ⟨g_7, hf⟩ := gd_ex hf
      refine q_iaload dX8_goesOn_16 rfl rfl g_7 ?_
      refine q_aload_n dX8_goesOn_17 rfl rfl ?_
      refine g_getF (k := 17) (o := 8) (z := 64) dX8_goesOn_18 rfl fg_X8_32 rfl rfl rfl ?_
      refine q_iload_n dX8_goesOn_21 rfl rfl ?_
      refine q_iconst dX8_goesOn_22 rfl rfl ?_
      refine q_iadd dX8_goesOn_23 rfl ?_
      obtain ⟨g_8, hf⟩ := gd_ex hf
      refine q_iaload dX8_goesOn_24 rfl rfl g_8 ?_
      refine q_icmp_le (tgt := 34) dX8_goesOn_25 rfl (by decide) (fun c_9 => ?_) (fun c_9 => ?_)
      · replace hf := it_f hf (by omega)
        exact J_K_4 _ hf
      · replace hf := it_t hf (by omega)
        refine q_iinc (ls' := [(2, 56), (0, w32 (at_3 + (-1))), (3, 0), (3, 0), (3, 0)]) dX8_goesOn_28 rfl rfl rfl ?_
        obtain ⟨at_10, e_at_10, hf⟩ := nm_ex hf
        rw [← e_at_10]
        refine q_goto (tgt := 7) dX8_goesOn_31 rfl (by decide) ?_
        exact ih _ _ hf
theorem S_X8_goesOn (X : XS) (h : Mem) : CB X yX8_goesOn MX8_goesOn 1 [(2, 56)] h (F_X8_goesOn h) := by
  refine CB.of (by decide) rfl (Nat.le_of_ble_eq_true rfl) (fun r hf => ?_)
  unfold F_X8_goesOn at hf
  show AJ X MX8_goesOn (rmD 1) 0 [(2, 56), (3, 0), (3, 0), (3, 0), (3, 0)] [] h (PB r)
  refine q_aload_n dX8_goesOn_0 rfl rfl ?_
  refine g_get (k := 18) (kz := 18) dX8_goesOn_1 rfl fg_X8_160 rfl rfl ?_
  refine q_iconst dX8_goesOn_4 rfl rfl ?_
  refine q_isub dX8_goesOn_5 rfl ?_
  obtain ⟨at_1, e_at_1, hf⟩ := nm_ex hf
  rw [← e_at_1]
  refine q_istore_n (ls' := [(2, 56), (0, at_1), (3, 0), (3, 0), (3, 0)]) dX8_goesOn_6 rfl rfl (Nat.le_of_ble_eq_true rfl) rfl ?_
  refine SL_X8_goesOn_1 X   _ (fun at_12 h_11 hf => ?_) FU _ _ hf
  refine q_iload_n dX8_goesOn_34 rfl rfl ?_
  refine q_if_ge (tgt := 40) dX8_goesOn_35 rfl (by decide) (fun c_39 => ?_) (fun c_39 => ?_)
  · replace hf := it_f hf (by omega)
    refine q_aload_n dX8_goesOn_40 rfl rfl ?_
    refine g_get (k := 18) (kz := 18) dX8_goesOn_41 rfl fg_X8_160 rfl rfl ?_
    refine q_iconst dX8_goesOn_44 rfl rfl ?_
    refine q_isub dX8_goesOn_45 rfl ?_
    obtain ⟨with_13, e_with_13, hf⟩ := nm_ex hf
    rw [← e_with_13]
    refine q_istore_n (ls' := [(2, 56), (0, at_12), (0, with_13), (3, 0), (3, 0)]) dX8_goesOn_46 rfl rfl (Nat.le_of_ble_eq_true rfl) rfl ?_
    refine SL_X8_goesOn_2 X at_12  _ (fun with_21 h_20 hf => ?_) FU _ _ hf
    refine q_aload_n dX8_goesOn_68 rfl rfl ?_
    refine q_iload_n dX8_goesOn_69 rfl rfl ?_
    refine q_iload_n dX8_goesOn_70 rfl rfl ?_
    obtain ⟨r_22, h_23, e_24, hf⟩ := bd_ex hf
    refine g_Vv (vs := [(0, at_12), (0, with_21)]) (st := []) dX8_goesOn_71 rfl (S_X8_swaps X at_12 with_21 h_20) e_24 mf_X8_swaps ml_X8_208 rfl rfl rfl rfl ?_
    refine q_iload_n dX8_goesOn_74 rfl rfl ?_
    refine q_iconst dX8_goesOn_75 rfl rfl ?_
    refine q_iadd dX8_goesOn_76 rfl ?_
    obtain ⟨a_25, e_a_25, hf⟩ := nm_ex hf
    rw [← e_a_25]
    refine q_istore_n (ls' := [(2, 56), (0, at_12), (0, with_21), (0, a_25), (3, 0)]) dX8_goesOn_77 rfl rfl (Nat.le_of_ble_eq_true rfl) rfl ?_
    refine q_aload_n dX8_goesOn_78 rfl rfl ?_
    refine g_get (k := 18) (kz := 18) dX8_goesOn_79 rfl fg_X8_160 rfl rfl ?_
    refine q_iconst dX8_goesOn_82 rfl rfl ?_
    refine q_isub dX8_goesOn_83 rfl ?_
    obtain ⟨b_26, e_b_26, hf⟩ := nm_ex hf
    rw [← e_b_26]
    refine q_istore (ls' := [(2, 56), (0, at_12), (0, with_21), (0, a_25), (0, b_26)]) dX8_goesOn_84 rfl (Nat.le_of_ble_eq_true rfl) rfl ?_
    refine SL_X8_goesOn_3 X at_12 with_21  _ (fun a_37 b_38 h_36 hf => ?_) FU _ _ _ hf
    refine q_iconst dX8_goesOn_108 rfl rfl ?_
    exact g_breturn dX8_goesOn_109 rfl (Or.inr rfl) hf
  · replace hf := it_t hf (by omega)
    refine q_iconst dX8_goesOn_38 rfl rfl ?_
    exact g_breturn dX8_goesOn_39 rfl (Or.inl rfl) hf
def L_X8_sortsRow_2 (p_2 : Int) (Kx : Int → Mem → Res) : Nat → Int → Mem → Res
  | 0, _, _ => none
  | n + 1, q_4, h_3 => jn (fun (K_5 : Mem → Res) => if (0 < q_4) then (gd (0 ≤ q_4 ∧ q_4 < 10) (gd (0 ≤ (w32 (q_4 - 1)) ∧ (w32 (q_4 - 1)) < 10) (if ((h_3 64 q_4) < (h_3 64 (w32 (q_4 - 1)))) then (bd (F_X8_swaps q_4 (w32 (q_4 - 1)) h_3) (fun _ (h_12 : Mem) => nm (w32 (q_4 + (-1))) (fun q_14 => L_X8_sortsRow_2 p_2 Kx n q_14 h_12))) else (K_5 h_3)))) else (K_5 h_3)) (fun (h_6 : Mem) => Kx q_4 h_6)
def L_X8_sortsRow_1 (Kx : Int → Mem → Res) : Nat → Int → Mem → Res
  | 0, _, _ => none
  | n + 1, p_2, h_1 => if (p_2 < (h_1 56 18)) then (L_X8_sortsRow_2 p_2 (fun q_16 (h_15 : Mem) => nm (w32 (p_2 + 1)) (fun p_17 => L_X8_sortsRow_1 Kx n p_17 h_15)) FU p_2 h_1) else (Kx p_2 h_1)
def F_X8_sortsRow (h : Mem) : Res := L_X8_sortsRow_1 (fun p_20 (h_19 : Mem) => some (0, h_19)) FU 1 h
theorem SL_X8_sortsRow_2 (X : XS) (p_2 : Int) (Kx : Int → Mem → Res) {r : Int × Mem} (hK : ∀ (q_4 : Int) (h_3 : Mem), Kx q_4 h_3 = some r → AJ X MX8_sortsRow (rmD 1) 47 [(2, 56), (0, p_2), (0, q_4)] [] h_3 (PH 9 r)) :
    ∀ (n : Nat) (q_4 : Int) (h_3 : Mem), L_X8_sortsRow_2 p_2 Kx n q_4 h_3 = some r → AJ X MX8_sortsRow (rmD 1) 12 [(2, 56), (0, p_2), (0, q_4)] [] h_3 (PH 9 r) := by
  intro n
  induction n with
  | zero => intro q_4 h_3 hf; cases hf
  | succ n ih =>
    intro q_4 h_3 hf
    rw [L_X8_sortsRow_2] at hf
    obtain ⟨K_5, J_K_5, hf⟩ := jn_ex (P := fun K => ∀ (h_6 : Mem), K h_6 = some r → AJ X MX8_sortsRow (rmD 1) 47 [(2, 56), (0, p_2), (0, q_4)] [] h_6 (PH 9 r)) hf (by
        intro h_6 hf
        exact hK _ _ hf)
    refine q_iload_n dX8_sortsRow_12 rfl rfl ?_
    refine q_if_le (tgt := 47) dX8_sortsRow_13 rfl (by decide) (fun c_7 => ?_) (fun c_7 => ?_)
    · replace hf := it_f hf (by omega)
      exact J_K_5 _ hf
    · replace hf := it_t hf (by omega)
      refine q_aload_n dX8_sortsRow_16 rfl rfl ?_
      refine g_getF (k := 17) (o := 8) (z := 64) dX8_sortsRow_17 rfl fg_X8_32 rfl rfl rfl ?_
      refine q_iload_n dX8_sortsRow_20 rfl rfl ?_
      obtain ⟨g_8, hf⟩ := gd_ex hf
      refine q_iaload dX8_sortsRow_21 rfl rfl g_8 ?_
      refine q_aload_n dX8_sortsRow_22 rfl rfl ?_
      refine g_getF (k := 17) (o := 8) (z := 64) dX8_sortsRow_23 rfl fg_X8_32 rfl rfl rfl ?_
      refine q_iload_n dX8_sortsRow_26 rfl rfl ?_
      refine q_iconst dX8_sortsRow_27 rfl rfl ?_
      refine q_isub dX8_sortsRow_28 rfl ?_
      obtain ⟨g_9, hf⟩ := gd_ex hf
      refine q_iaload dX8_sortsRow_29 rfl rfl g_9 ?_
      refine q_icmp_ge (tgt := 47) dX8_sortsRow_30 rfl (by decide) (fun c_10 => ?_) (fun c_10 => ?_)
      · replace hf := it_f hf (by omega)
        exact J_K_5 _ hf
      · replace hf := it_t hf (by omega)
        refine q_aload_n dX8_sortsRow_33 rfl rfl ?_
        refine q_iload_n dX8_sortsRow_34 rfl rfl ?_
        refine q_iload_n dX8_sortsRow_35 rfl rfl ?_
        refine q_iconst dX8_sortsRow_36 rfl rfl ?_
        refine q_isub dX8_sortsRow_37 rfl ?_
        obtain ⟨r_11, h_12, e_13, hf⟩ := bd_ex hf
        refine g_Vv (vs := [(0, q_4), (0, w32 (q_4 - 1))]) (st := []) dX8_sortsRow_38 rfl (S_X8_swaps X q_4 (w32 (q_4 - 1)) h_3) e_13 mf_X8_swaps ml_X8_208 rfl rfl rfl rfl ?_
        refine q_iinc (ls' := [(2, 56), (0, p_2), (0, w32 (q_4 + (-1)))]) dX8_sortsRow_41 rfl rfl rfl ?_
        obtain ⟨q_14, e_q_14, hf⟩ := nm_ex hf
        rw [← e_q_14]
        refine q_goto (tgt := 12) dX8_sortsRow_44 rfl (by decide) ?_
        exact ih _ _ hf
theorem SL_X8_sortsRow_1 (X : XS) (Kx : Int → Mem → Res) {r : Int × Mem} (hK : ∀ (p_2 : Int) (h_1 : Mem), Kx p_2 h_1 = some r → AJ X MX8_sortsRow (rmD 1) 53 [(2, 56), (0, p_2), (3, 0)] [] h_1 (PH 9 r)) :
    ∀ (n : Nat) (p_2 : Int) (h_1 : Mem), L_X8_sortsRow_1 Kx n p_2 h_1 = some r → AJ X MX8_sortsRow (rmD 1) 2 [(2, 56), (0, p_2), (3, 0)] [] h_1 (PH 9 r) := by
  intro n
  induction n with
  | zero => intro p_2 h_1 hf; cases hf
  | succ n ih =>
    intro p_2 h_1 hf
    rw [L_X8_sortsRow_1] at hf
    refine q_iload_n dX8_sortsRow_2 rfl rfl ?_
    refine q_aload_n dX8_sortsRow_3 rfl rfl ?_
    refine g_get (k := 18) (kz := 18) dX8_sortsRow_4 rfl fg_X8_160 rfl rfl ?_
    refine q_icmp_ge (tgt := 53) dX8_sortsRow_7 rfl (by decide) (fun c_18 => ?_) (fun c_18 => ?_)
    · replace hf := it_f hf (by omega)
      exact hK _ _ hf
    · replace hf := it_t hf (by omega)
      refine q_iload_n dX8_sortsRow_10 rfl rfl ?_
      refine q_istore_n (ls' := [(2, 56), (0, p_2), (0, p_2)]) dX8_sortsRow_11 rfl rfl (Nat.le_of_ble_eq_true rfl) rfl ?_
      refine SL_X8_sortsRow_2 X p_2  _ (fun q_16 h_15 hf => ?_) FU _ _ hf
      refine q_iinc (ls' := [(2, 56), (0, w32 (p_2 + 1)), (0, q_16)]) dX8_sortsRow_47 rfl rfl rfl ?_
      obtain ⟨p_17, e_p_17, hf⟩ := nm_ex hf
      rw [← e_p_17]
      refine q_goto (tgt := 2) dX8_sortsRow_50 rfl (by decide) ?_
      refine g_frg (ls' := [(2, 56), (0, p_17), (3, 0)]) [2] rfl ?_
      exact ih _ _ hf
theorem S_X8_sortsRow (X : XS) (h : Mem) : CT X yX8_sortsRow MX8_sortsRow none 9 1 [(2, 56)] h (F_X8_sortsRow h) := by
  refine CT.ofV (by decide) rfl (Nat.le_of_ble_eq_true rfl) (fun r hf => ?_)
  unfold F_X8_sortsRow at hf
  show AJ X MX8_sortsRow (rmD 1) 0 [(2, 56), (3, 0), (3, 0)] [] h (PH 9 r)
  refine q_iconst dX8_sortsRow_0 rfl rfl ?_
  refine q_istore_n (ls' := [(2, 56), (0, 1), (3, 0)]) dX8_sortsRow_1 rfl rfl (Nat.le_of_ble_eq_true rfl) rfl ?_
  refine SL_X8_sortsRow_1 X   _ (fun p_20 h_19 hf => ?_) FU _ _ hf
  exact g_return dX8_sortsRow_53 rfl hf
def L_X8_orderOf_1 (Kx : Int → Int → Mem → Res) : Nat → Int → Int → Mem → Res
  | 0, _, _, _ => none
  | n + 1, v_2, p_3, h_1 => if (p_3 < (h_1 56 18)) then (gd (0 ≤ p_3 ∧ p_3 < 10) (nm (w32 ((w32 (10 * v_2)) + (h_1 64 p_3))) (fun v_5 => nm (w32 (p_3 + 1)) (fun p_6 => L_X8_orderOf_1 Kx n v_5 p_6 h_1)))) else (Kx v_2 p_3 h_1)
def F_X8_orderOf (h : Mem) : Res := L_X8_orderOf_1 (fun v_9 p_10 (h_8 : Mem) => some (v_9, h_8)) FU 0 0 h
theorem SL_X8_orderOf_1 (X : XS) (Kx : Int → Int → Mem → Res) {r : Int × Mem} (hK : ∀ (v_2 p_3 : Int) (h_1 : Mem), Kx v_2 p_3 h_1 = some r → AJ X MX8_orderOf (rmD 0) 30 [(2, 56), (0, v_2), (0, p_3)] [] h_1 (PH 0 r)) :
    ∀ (n : Nat) (v_2 p_3 : Int) (h_1 : Mem), L_X8_orderOf_1 Kx n v_2 p_3 h_1 = some r → AJ X MX8_orderOf (rmD 0) 4 [(2, 56), (0, v_2), (0, p_3)] [] h_1 (PH 0 r) := by
  intro n
  induction n with
  | zero => intro v_2 p_3 h_1 hf; cases hf
  | succ n ih =>
    intro v_2 p_3 h_1 hf
    rw [L_X8_orderOf_1] at hf
    refine q_iload_n dX8_orderOf_4 rfl rfl ?_
    refine q_aload_n dX8_orderOf_5 rfl rfl ?_
    refine g_get (k := 18) (kz := 18) dX8_orderOf_6 rfl fg_X8_160 rfl rfl ?_
    refine q_icmp_ge (tgt := 30) dX8_orderOf_9 rfl (by decide) (fun c_7 => ?_) (fun c_7 => ?_)
    · replace hf := it_f hf (by omega)
      exact hK _ _ _ hf
    · replace hf := it_t hf (by omega)
      refine q_bipush dX8_orderOf_12 rfl (by decide) ?_
      refine q_iload_n dX8_orderOf_14 rfl rfl ?_
      refine q_imul dX8_orderOf_15 rfl ?_
      refine q_aload_n dX8_orderOf_16 rfl rfl ?_
      refine g_getF (k := 17) (o := 8) (z := 64) dX8_orderOf_17 rfl fg_X8_32 rfl rfl rfl ?_
      refine q_iload_n dX8_orderOf_20 rfl rfl ?_
      obtain ⟨g_4, hf⟩ := gd_ex hf
      refine q_iaload dX8_orderOf_21 rfl rfl g_4 ?_
      refine q_iadd dX8_orderOf_22 rfl ?_
      obtain ⟨v_5, e_v_5, hf⟩ := nm_ex hf
      rw [← e_v_5]
      refine q_istore_n (ls' := [(2, 56), (0, v_5), (0, p_3)]) dX8_orderOf_23 rfl rfl (Nat.le_of_ble_eq_true rfl) rfl ?_
      refine q_iinc (ls' := [(2, 56), (0, v_5), (0, w32 (p_3 + 1))]) dX8_orderOf_24 rfl rfl rfl ?_
      obtain ⟨p_6, e_p_6, hf⟩ := nm_ex hf
      rw [← e_p_6]
      refine q_goto (tgt := 4) dX8_orderOf_27 rfl (by decide) ?_
      exact ih _ _ _ hf
theorem S_X8_orderOf (X : XS) (h : Mem) : CT X yX8_orderOf MX8_orderOf (some .int) 0 0 [(2, 56)] h (F_X8_orderOf h) := by
  refine CT.ofI (by decide) rfl (Nat.le_of_ble_eq_true rfl) (fun r hf => ?_)
  unfold F_X8_orderOf at hf
  show AJ X MX8_orderOf (rmD 0) 0 [(2, 56), (3, 0), (3, 0)] [] h (PH 0 r)
  refine q_iconst dX8_orderOf_0 rfl rfl ?_
  refine q_istore_n (ls' := [(2, 56), (0, 0), (3, 0)]) dX8_orderOf_1 rfl rfl (Nat.le_of_ble_eq_true rfl) rfl ?_
  refine q_iconst dX8_orderOf_2 rfl rfl ?_
  refine q_istore_n (ls' := [(2, 56), (0, 0), (0, 0)]) dX8_orderOf_3 rfl rfl (Nat.le_of_ble_eq_true rfl) rfl ?_
  refine SL_X8_orderOf_1 X   _ (fun v_9 p_10 h_8 hf => ?_) FU _ _ _ hf
  refine q_iload_n dX8_orderOf_30 rfl rfl ?_
  exact g_ireturn dX8_orderOf_31 rfl hf
def L_X8_goesThrough_2 (more_10 : Int) (Kx : Mem → Res) : Nat → Mem → Res
  | 0, _ => none
  | n + 1, h_12 => if ((h_12 56 19) < (h_12 56 18)) then (jn (fun (K_13 : Mem → Res) => bd (F_X8_isStaged  h_12) (fun r_14 (h_15 : Mem) => if (¬ r_14 = 0) then (nm (wr h_15 56 38 (w32 ((h_15 56 38) + 1))) (fun (h_19 : Mem) => bd (F_X8_nightOf 0 h_19) (fun r_20 (h_21 : Mem) => jn (fun (K_23 : Mem → Res) => if (((h_21 56 34) = (-9)) ∨ ((h_21 56 34) < r_20)) then (nm (wr h_21 56 34 r_20) (fun (h_24 : Mem) => bd (F_X8_orderOf  h_24) (fun r_25 (h_26 : Mem) => nm (wr h_26 56 35 r_25) (fun (h_28 : Mem) => nm (wr h_28 56 36 (h_28 56 19)) (fun (h_29 : Mem) => K_23 h_29))))) else (K_23 h_21)) (fun  (h_33 : Mem) => K_13 h_33)))) else (K_13 h_15))) (fun  (h_34 : Mem) => nm (wr h_34 56 19 (w32 ((h_34 56 19) + 1))) (fun (h_35 : Mem) => L_X8_goesThrough_2 more_10 Kx n h_35))) else (Kx h_12)
def L_X8_goesThrough_1 (Kx : Int → Mem → Res) : Nat → Int → Mem → Res
  | 0, _, _ => none
  | n + 1, more_10, h_9 => if (¬ more_10 = 0) then (nm (wr h_9 56 19 0) (fun (h_11 : Mem) => L_X8_goesThrough_2 more_10 (fun  (h_37 : Mem) => bd (F_X8_goesOn  h_37) (fun r_38 (h_39 : Mem) => L_X8_goesThrough_1 Kx n r_38 h_39)) FU h_11)) else (Kx more_10 h_9)
def F_X8_goesThrough (h : Mem) : Res := bd (F_X8_asBilled  h) (fun _ (h_2 : Mem) => bd (F_X8_sortsRow  h_2) (fun _ (h_5 : Mem) => nm (wr h_5 56 34 (-9)) (fun (h_7 : Mem) => nm (wr h_7 56 38 0) (fun (h_8 : Mem) => L_X8_goesThrough_1 (fun more_44 (h_43 : Mem) => some (0, h_43)) FU 1 h_8))))
theorem SL_X8_goesThrough_2 (X : XS) (more_10 : Int) (Kx : Mem → Res) {r : Int × Mem} (hK : ∀ (h_12 : Mem), Kx  h_12 = some r → AJ X MX8_goesThrough (rmD 5) 115 [(2, 56), (0, more_10), (3, 0)] [] h_12 (PH 9 r)) :
    ∀ (n : Nat) (h_12 : Mem), L_X8_goesThrough_2 more_10 Kx n h_12 = some r → AJ X MX8_goesThrough (rmD 5) 30 [(2, 56), (0, more_10), (3, 0)] [] h_12 (PH 9 r) := by
  intro n
  induction n with
  | zero => intro  h_12 hf; cases hf
  | succ n ih =>
    intro  h_12 hf
    rw [L_X8_goesThrough_2] at hf
    refine q_aload_n dX8_goesThrough_30 rfl rfl ?_
    refine g_get (k := 19) (kz := 19) dX8_goesThrough_31 rfl fg_X8_163 rfl rfl ?_
    refine q_aload_n dX8_goesThrough_34 rfl rfl ?_
    refine g_get (k := 18) (kz := 18) dX8_goesThrough_35 rfl fg_X8_160 rfl rfl ?_
    refine q_icmp_ge (tgt := 115) dX8_goesThrough_38 rfl (by decide) (fun c_36 => ?_) (fun c_36 => ?_)
    · replace hf := it_f hf (by omega)
      exact hK  _ hf
    · replace hf := it_t hf (by omega)
      obtain ⟨K_13, J_K_13, hf⟩ := jn_ex (P := fun K => ∀ (h_34 : Mem), K  h_34 = some r → AJ X MX8_goesThrough (rmD 5) 102 [(2, 56), (0, more_10), (3, 0)] [] h_34 (PH 9 r)) hf (by
          intro  h_34 hf
          refine q_aload_n dX8_goesThrough_102 rfl rfl ?_
          refine q_dup dX8_goesThrough_103 rfl (by decide) ?_
          refine g_get (k := 19) (kz := 19) dX8_goesThrough_104 rfl fg_X8_163 rfl rfl ?_
          refine q_iconst dX8_goesThrough_107 rfl rfl ?_
          refine q_iadd dX8_goesThrough_108 rfl ?_
          refine g_put (k := 19) (kz := 19) dX8_goesThrough_109 rfl fp_X8_163 rfl (fun q => q.1 rfl) rfl ?_
          obtain ⟨h_35, e_h_35, hf⟩ := nm_ex hf
          rw [← e_h_35]
          refine q_goto (tgt := 30) dX8_goesThrough_112 rfl (by decide) ?_
          exact ih  _ hf)
      refine q_aload_n dX8_goesThrough_41 rfl rfl ?_
      obtain ⟨r_14, h_15, e_16, hf⟩ := bd_ex hf
      refine g_Vb (vs := []) (st := []) dX8_goesThrough_42 rfl (S_X8_isStaged X  h_12) e_16 mf_X8_isStaged ml_X8_187 rfl rfl rfl rfl (fun b_17 => ?_)
      refine q_if_eq (tgt := 102) dX8_goesThrough_45 rfl (by decide) (fun c_18 => ?_) (fun c_18 => ?_)
      · replace hf := it_f hf (by omega)
        exact J_K_13 _ hf
      · replace hf := it_t hf (by omega)
        refine q_aload_n dX8_goesThrough_48 rfl rfl ?_
        refine q_dup dX8_goesThrough_49 rfl (by decide) ?_
        refine g_get (k := 38) (kz := 38) dX8_goesThrough_50 rfl fg_X8_218 rfl rfl ?_
        refine q_iconst dX8_goesThrough_53 rfl rfl ?_
        refine q_iadd dX8_goesThrough_54 rfl ?_
        refine g_put (k := 38) (kz := 38) dX8_goesThrough_55 rfl fp_X8_218 rfl (fun q => q.1 rfl) rfl ?_
        obtain ⟨h_19, e_h_19, hf⟩ := nm_ex hf
        rw [← e_h_19]
        refine q_aload_n dX8_goesThrough_58 rfl rfl ?_
        refine q_iconst dX8_goesThrough_59 rfl rfl ?_
        obtain ⟨r_20, h_21, e_22, hf⟩ := bd_ex hf
        refine g_Vi (vs := [(0, 0)]) (st := []) dX8_goesThrough_60 rfl (S_X8_nightOf X 0 h_19) e_22 mf_X8_nightOf ml_X8_205 rfl rfl rfl rfl ?_
        refine q_istore_n (ls' := [(2, 56), (0, more_10), (0, r_20)]) dX8_goesThrough_63 rfl rfl (Nat.le_of_ble_eq_true rfl) rfl ?_
        obtain ⟨K_23, J_K_23, hf⟩ := jn_ex (P := fun K => ∀ (h_33 : Mem), K  h_33 = some r → AJ X MX8_goesThrough (rmD 5) 102 [(2, 56), (0, more_10), (0, r_20)] [] h_33 (PH 9 r)) hf (by
            intro  h_33 hf
            refine g_frg (ls' := [(2, 56), (0, more_10), (3, 0)]) [2] rfl ?_
            exact J_K_13 _ hf)
        have HT_30 : (((h_21 56 34) = (-9)) ∨ ((h_21 56 34) < r_20)) → AJ X MX8_goesThrough (rmD 5) 81 [(2, 56), (0, more_10), (0, r_20)] [] h_21 (PH 9 r) := by
          intro hc
          replace hf := it_t hf hc
          refine q_aload_n dX8_goesThrough_81 rfl rfl ?_
          refine q_iload_n dX8_goesThrough_82 rfl rfl ?_
          refine g_put (k := 34) (kz := 34) dX8_goesThrough_83 rfl fp_X8_215 rfl (fun q => q.1 rfl) rfl ?_
          obtain ⟨h_24, e_h_24, hf⟩ := nm_ex hf
          rw [← e_h_24]
          refine q_aload_n dX8_goesThrough_86 rfl rfl ?_
          refine q_aload_n dX8_goesThrough_87 rfl rfl ?_
          obtain ⟨r_25, h_26, e_27, hf⟩ := bd_ex hf
          refine g_Vi (vs := []) (st := [(2, 56)]) dX8_goesThrough_88 rfl (S_X8_orderOf X  h_24) e_27 mf_X8_orderOf ml_X8_221 rfl rfl rfl rfl ?_
          refine g_put (k := 35) (kz := 35) dX8_goesThrough_91 rfl fp_X8_224 rfl (fun q => q.1 rfl) rfl ?_
          obtain ⟨h_28, e_h_28, hf⟩ := nm_ex hf
          rw [← e_h_28]
          refine q_aload_n dX8_goesThrough_94 rfl rfl ?_
          refine q_aload_n dX8_goesThrough_95 rfl rfl ?_
          refine g_get (k := 19) (kz := 19) dX8_goesThrough_96 rfl fg_X8_163 rfl rfl ?_
          refine g_put (k := 36) (kz := 36) dX8_goesThrough_99 rfl fp_X8_227 rfl (fun q => q.1 rfl) rfl ?_
          obtain ⟨h_29, e_h_29, hf⟩ := nm_ex hf
          rw [← e_h_29]
          exact J_K_23 _ hf
        refine q_aload_n dX8_goesThrough_64 rfl rfl ?_
        refine g_get (k := 34) (kz := 34) dX8_goesThrough_65 rfl fg_X8_215 rfl rfl ?_
        refine q_bipush dX8_goesThrough_68 rfl (by decide) ?_
        refine q_icmp_eq (tgt := 81) dX8_goesThrough_70 rfl (by decide) (fun c_31 => ?_) (fun c_31 => ?_)
        · exact HT_30 (by omega)
        · refine q_iload_n dX8_goesThrough_73 rfl rfl ?_
          refine q_aload_n dX8_goesThrough_74 rfl rfl ?_
          refine g_get (k := 34) (kz := 34) dX8_goesThrough_75 rfl fg_X8_215 rfl rfl ?_
          refine q_icmp_le (tgt := 102) dX8_goesThrough_78 rfl (by decide) (fun c_32 => ?_) (fun c_32 => ?_)
          · replace hf := it_f hf (by omega)
            exact J_K_23 _ hf
          · exact HT_30 (by omega)
theorem SL_X8_goesThrough_1 (X : XS) (Kx : Int → Mem → Res) {r : Int × Mem} (hK : ∀ (more_10 : Int) (h_9 : Mem), Kx more_10 h_9 = some r → AJ X MX8_goesThrough (rmD 5) 123 [(2, 56), (0, more_10), (3, 0)] [] h_9 (PH 9 r)) :
    ∀ (n : Nat) (more_10 : Int) (h_9 : Mem), L_X8_goesThrough_1 Kx n more_10 h_9 = some r → AJ X MX8_goesThrough (rmD 5) 21 [(2, 56), (0, more_10), (3, 0)] [] h_9 (PH 9 r) := by
  intro n
  induction n with
  | zero => intro more_10 h_9 hf; cases hf
  | succ n ih =>
    intro more_10 h_9 hf
    rw [L_X8_goesThrough_1] at hf
    refine q_iload_n dX8_goesThrough_21 rfl rfl ?_
    refine q_if_eq (tgt := 123) dX8_goesThrough_22 rfl (by decide) (fun c_42 => ?_) (fun c_42 => ?_)
    · replace hf := it_f hf (by omega)
      exact hK _ _ hf
    · replace hf := it_t hf (by omega)
      refine q_aload_n dX8_goesThrough_25 rfl rfl ?_
      refine q_iconst dX8_goesThrough_26 rfl rfl ?_
      refine g_put (k := 19) (kz := 19) dX8_goesThrough_27 rfl fp_X8_163 rfl (fun q => q.1 rfl) rfl ?_
      obtain ⟨h_11, e_h_11, hf⟩ := nm_ex hf
      rw [← e_h_11]
      refine SL_X8_goesThrough_2 X more_10  _ (fun  h_37 hf => ?_) FU  _ hf
      refine q_aload_n dX8_goesThrough_115 rfl rfl ?_
      obtain ⟨r_38, h_39, e_40, hf⟩ := bd_ex hf
      refine g_Vb (vs := []) (st := []) dX8_goesThrough_116 rfl (S_X8_goesOn X  h_37) e_40 mf_X8_goesOn ml_X8_230 rfl rfl rfl rfl (fun b_41 => ?_)
      refine q_istore_n (ls' := [(2, 56), (0, r_38), (3, 0)]) dX8_goesThrough_119 rfl rfl (Nat.le_of_ble_eq_true rfl) rfl ?_
      refine q_goto (tgt := 21) dX8_goesThrough_120 rfl (by decide) ?_
      exact ih _ _ hf
theorem S_X8_goesThrough (X : XS) (h : Mem) : CT X yX8_goesThrough MX8_goesThrough none 9 5 [(2, 56)] h (F_X8_goesThrough h) := by
  refine CT.ofV (by decide) rfl (Nat.le_of_ble_eq_true rfl) (fun r hf => ?_)
  unfold F_X8_goesThrough at hf
  show AJ X MX8_goesThrough (rmD 5) 0 [(2, 56), (3, 0), (3, 0)] [] h (PH 9 r)
  refine q_aload_n dX8_goesThrough_0 rfl rfl ?_
  obtain ⟨r_1, h_2, e_3, hf⟩ := bd_ex hf
  refine g_Vv (vs := []) (st := []) dX8_goesThrough_1 rfl (S_X8_asBilled X  h) e_3 mf_X8_asBilled ml_X8_175 rfl rfl rfl rfl ?_
  refine q_aload_n dX8_goesThrough_4 rfl rfl ?_
  obtain ⟨r_4, h_5, e_6, hf⟩ := bd_ex hf
  refine g_Vv (vs := []) (st := []) dX8_goesThrough_5 rfl (S_X8_sortsRow X  h_2) e_6 mf_X8_sortsRow ml_X8_212 rfl rfl rfl rfl ?_
  refine q_aload_n dX8_goesThrough_8 rfl rfl ?_
  refine q_bipush dX8_goesThrough_9 rfl (by decide) ?_
  refine g_put (k := 34) (kz := 34) dX8_goesThrough_11 rfl fp_X8_215 rfl (fun q => q.1 rfl) rfl ?_
  obtain ⟨h_7, e_h_7, hf⟩ := nm_ex hf
  rw [← e_h_7]
  refine q_aload_n dX8_goesThrough_14 rfl rfl ?_
  refine q_iconst dX8_goesThrough_15 rfl rfl ?_
  refine g_put (k := 38) (kz := 38) dX8_goesThrough_16 rfl fp_X8_218 rfl (fun q => q.1 rfl) rfl ?_
  obtain ⟨h_8, e_h_8, hf⟩ := nm_ex hf
  rw [← e_h_8]
  refine q_iconst dX8_goesThrough_19 rfl rfl ?_
  refine q_istore_n (ls' := [(2, 56), (0, 1), (3, 0)]) dX8_goesThrough_20 rfl rfl (Nat.le_of_ble_eq_true rfl) rfl ?_
  refine SL_X8_goesThrough_1 X   _ (fun more_44 h_43 hf => ?_) FU _ _ hf
  exact g_return dX8_goesThrough_123 rfl hf
def F_X8_best (what_0 : Int) (h : Mem) : Res := nm (wr h 56 0 0) (fun (h_1 : Mem) => bd (F_X8_in what_0 0 3 h_1) (fun r_2 (h_3 : Mem) => if (¬ r_2 = 0) then (bd (F_X8_in (h_3 61 0) 1 7 h_3) (fun r_7 (h_8 : Mem) => if (¬ r_7 = 0) then (bd (F_X8_goesThrough  h_8) (fun _ (h_13 : Mem) => if (what_0 = 3) then (some (h_13 56 38, h_13)) else (if (((h_13 56 34) = (-9)) ∨ (what_0 = 0)) then (some (h_13 56 34, h_13)) else (if (what_0 = 1) then (some (h_13 56 35, h_13)) else (some (h_13 56 36, h_13)))))) else (some ((-2), h_8)))) else (some ((-1), h_3))))
theorem S_X8_best (X : XS) (what_0 : Int) (h : Mem) : CT X yX8_best MX8_best (some .int) 0 6 [(2, 56), (0, what_0)] h (F_X8_best what_0 h) := by
  refine CT.ofI (by decide) rfl (Nat.le_of_ble_eq_true rfl) (fun r hf => ?_)
  unfold F_X8_best at hf
  show AJ X MX8_best (rmD 6) 0 [(2, 56), (0, what_0)] [] h (PH 0 r)
  refine q_aload_n dX8_best_0 rfl rfl ?_
  refine q_iconst dX8_best_1 rfl rfl ?_
  refine g_put (k := 0) (kz := 0) dX8_best_2 rfl fp_X8_68 rfl (fun q => q.1 rfl) rfl ?_
  obtain ⟨h_1, e_h_1, hf⟩ := nm_ex hf
  rw [← e_h_1]
  refine q_iload_n dX8_best_5 rfl rfl ?_
  refine q_iconst dX8_best_6 rfl rfl ?_
  refine q_iconst dX8_best_7 rfl rfl ?_
  obtain ⟨r_2, h_3, e_4, hf⟩ := bd_ex hf
  refine g_Sb (vs := [(0, what_0), (0, 0), (0, 3)]) (st := []) dX8_best_8 rfl (S_X8_in X what_0 0 3 h_1) e_4 mf_X8_in ml_X8_72 rfl rfl rfl (fun b_5 => ?_)
  refine q_if_ne (tgt := 16) dX8_best_11 rfl (by decide) (fun c_6 => ?_) (fun c_6 => ?_)
  · replace hf := it_t hf (by omega)
    refine q_aload_n dX8_best_16 rfl rfl ?_
    refine g_getF (k := 14) (o := 5) (z := 61) dX8_best_17 rfl fg_X8_22 rfl rfl rfl ?_
    refine q_iconst dX8_best_20 rfl rfl ?_
    refine q_iaload dX8_best_21 rfl rfl (by decide) ?_
    refine q_iconst dX8_best_22 rfl rfl ?_
    refine q_bipush dX8_best_23 rfl (by decide) ?_
    obtain ⟨r_7, h_8, e_9, hf⟩ := bd_ex hf
    refine g_Sb (vs := [(0, h_3 61 0), (0, 1), (0, 7)]) (st := []) dX8_best_25 rfl (S_X8_in X (h_3 61 0) 1 7 h_3) e_9 mf_X8_in ml_X8_72 rfl rfl rfl (fun b_10 => ?_)
    refine q_if_ne (tgt := 34) dX8_best_28 rfl (by decide) (fun c_11 => ?_) (fun c_11 => ?_)
    · replace hf := it_t hf (by omega)
      refine q_aload_n dX8_best_34 rfl rfl ?_
      obtain ⟨r_12, h_13, e_14, hf⟩ := bd_ex hf
      refine g_Vv (vs := []) (st := []) dX8_best_35 rfl (S_X8_goesThrough X  h_8) e_14 mf_X8_goesThrough ml_X8_233 rfl rfl rfl rfl ?_
      refine q_iload_n dX8_best_38 rfl rfl ?_
      refine q_iconst dX8_best_39 rfl rfl ?_
      refine q_icmp_ne (tgt := 50) dX8_best_40 rfl (by decide) (fun c_19 => ?_) (fun c_19 => ?_)
      · replace hf := it_f hf (by omega)
        have HT_16 : (((h_13 56 34) = (-9)) ∨ (what_0 = 0)) → AJ X MX8_best (rmD 6) 63 [(2, 56), (0, what_0)] [] h_13 (PH 0 r) := by
          intro hc
          replace hf := it_t hf hc
          refine q_aload_n dX8_best_63 rfl rfl ?_
          refine g_get (k := 34) (kz := 34) dX8_best_64 rfl fg_X8_215 rfl rfl ?_
          refine q_goto (tgt := 86) dX8_best_67 rfl (by decide) ?_
          exact g_ireturn dX8_best_86 rfl hf
        refine q_aload_n dX8_best_50 rfl rfl ?_
        refine g_get (k := 34) (kz := 34) dX8_best_51 rfl fg_X8_215 rfl rfl ?_
        refine q_bipush dX8_best_54 rfl (by decide) ?_
        refine q_icmp_eq (tgt := 63) dX8_best_56 rfl (by decide) (fun c_17 => ?_) (fun c_17 => ?_)
        · exact HT_16 (by omega)
        · refine q_iload_n dX8_best_59 rfl rfl ?_
          refine q_if_ne (tgt := 70) dX8_best_60 rfl (by decide) (fun c_18 => ?_) (fun c_18 => ?_)
          · replace hf := it_f hf (by omega)
            refine q_iload_n dX8_best_70 rfl rfl ?_
            refine q_iconst dX8_best_71 rfl rfl ?_
            refine q_icmp_ne (tgt := 82) dX8_best_72 rfl (by decide) (fun c_15 => ?_) (fun c_15 => ?_)
            · replace hf := it_f hf (by omega)
              refine q_aload_n dX8_best_82 rfl rfl ?_
              refine g_get (k := 36) (kz := 36) dX8_best_83 rfl fg_X8_227 rfl rfl ?_
              exact g_ireturn dX8_best_86 rfl hf
            · replace hf := it_t hf (by omega)
              refine q_aload_n dX8_best_75 rfl rfl ?_
              refine g_get (k := 35) (kz := 35) dX8_best_76 rfl fg_X8_224 rfl rfl ?_
              refine q_goto (tgt := 86) dX8_best_79 rfl (by decide) ?_
              exact g_ireturn dX8_best_86 rfl hf
          · exact HT_16 (by omega)
      · replace hf := it_t hf (by omega)
        refine q_aload_n dX8_best_43 rfl rfl ?_
        refine g_get (k := 38) (kz := 38) dX8_best_44 rfl fg_X8_218 rfl rfl ?_
        refine q_goto (tgt := 86) dX8_best_47 rfl (by decide) ?_
        exact g_ireturn dX8_best_86 rfl hf
    · replace hf := it_f hf (by omega)
      refine q_bipush dX8_best_31 rfl (by decide) ?_
      exact g_ireturn dX8_best_33 rfl hf
  · replace hf := it_f hf (by omega)
    refine q_iconst dX8_best_14 rfl rfl ?_
    exact g_ireturn dX8_best_15 rfl hf
def L_X8_custom_2 (p_9 : Int) (Kx : Int → Mem → Res) : Nat → Int → Mem → Res
  | 0, _, _ => none
  | n + 1, q_11, h_10 => jn (fun (K_12 : Mem → Res) => if (0 < q_11) then (gd (0 ≤ q_11 ∧ q_11 < 10) (bd (F_X8_of (h_10 64 q_11) 2 h_10) (fun r_16 (h_17 : Mem) => gd (0 ≤ (w32 (q_11 - 1)) ∧ (w32 (q_11 - 1)) < 10) (bd (F_X8_of (h_17 64 (w32 (q_11 - 1))) 2 h_17) (fun r_20 (h_21 : Mem) => if (r_16 < r_20) then (bd (F_X8_swaps q_11 (w32 (q_11 - 1)) h_21) (fun _ (h_25 : Mem) => nm (w32 (q_11 + (-1))) (fun q_27 => L_X8_custom_2 p_9 Kx n q_27 h_25))) else (K_12 h_21)))))) else (K_12 h_10)) (fun (h_13 : Mem) => Kx q_11 h_13)
def L_X8_custom_1 (Kx : Int → Mem → Res) : Nat → Int → Mem → Res
  | 0, _, _ => none
  | n + 1, p_9, h_8 => if (p_9 < (h_8 56 18)) then (L_X8_custom_2 p_9 (fun q_29 (h_28 : Mem) => nm (w32 (p_9 + 1)) (fun p_30 => L_X8_custom_1 Kx n p_30 h_28)) FU p_9 h_8) else (Kx p_9 h_8)
def F_X8_custom (h : Mem) : Res := nm (wr h 56 0 0) (fun (h_1 : Mem) => if ((h_1 61 0) = 0) then (some ((-2), h_1)) else (bd (F_X8_asBilled  h_1) (fun _ (h_3 : Mem) => bd (F_X8_sortsRow  h_3) (fun _ (h_6 : Mem) => L_X8_custom_1 (fun p_33 (h_32 : Mem) => jn (fun (K_34 : Mem → Res) => if (1 < (h_32 56 18)) then (bd (F_X8_swaps (w32 ((h_32 56 18) - 1)) (w32 ((h_32 56 18) - 2)) h_32) (fun _ (h_36 : Mem) => K_34 h_36)) else (K_34 h_32)) (fun  (h_39 : Mem) => bd (F_X8_lays  h_39) (fun _ (h_41 : Mem) => bd (F_X8_nightOf 0 h_41) (fun r_43 (h_44 : Mem) => some (r_43, h_44))))) FU 1 h_6))))
theorem SL_X8_custom_2 (X : XS) (p_9 : Int) (Kx : Int → Mem → Res) {r : Int × Mem} (hK : ∀ (q_11 : Int) (h_10 : Mem), Kx q_11 h_10 = some r → AJ X MX8_custom (rmD 4) 82 [(2, 56), (0, p_9), (0, q_11)] [] h_10 (PH 0 r)) :
    ∀ (n : Nat) (q_11 : Int) (h_10 : Mem), L_X8_custom_2 p_9 Kx n q_11 h_10 = some r → AJ X MX8_custom (rmD 4) 37 [(2, 56), (0, p_9), (0, q_11)] [] h_10 (PH 0 r) := by
  intro n
  induction n with
  | zero => intro q_11 h_10 hf; cases hf
  | succ n ih =>
    intro q_11 h_10 hf
    rw [L_X8_custom_2] at hf
    obtain ⟨K_12, J_K_12, hf⟩ := jn_ex (P := fun K => ∀ (h_13 : Mem), K h_13 = some r → AJ X MX8_custom (rmD 4) 82 [(2, 56), (0, p_9), (0, q_11)] [] h_13 (PH 0 r)) hf (by
        intro h_13 hf
        exact hK _ _ hf)
    refine q_iload_n dX8_custom_37 rfl rfl ?_
    refine q_if_le (tgt := 82) dX8_custom_38 rfl (by decide) (fun c_14 => ?_) (fun c_14 => ?_)
    · replace hf := it_f hf (by omega)
      exact J_K_12 _ hf
    · replace hf := it_t hf (by omega)
      refine q_aload_n dX8_custom_41 rfl rfl ?_
      refine q_aload_n dX8_custom_42 rfl rfl ?_
      refine g_getF (k := 17) (o := 8) (z := 64) dX8_custom_43 rfl fg_X8_32 rfl rfl rfl ?_
      refine q_iload_n dX8_custom_46 rfl rfl ?_
      obtain ⟨g_15, hf⟩ := gd_ex hf
      refine q_iaload dX8_custom_47 rfl rfl g_15 ?_
      refine q_iconst dX8_custom_48 rfl rfl ?_
      obtain ⟨r_16, h_17, e_18, hf⟩ := bd_ex hf
      refine g_Vi (vs := [(0, h_10 64 q_11), (0, 2)]) (st := []) dX8_custom_49 rfl (S_X8_of X (h_10 64 q_11) 2 h_10) e_18 mf_X8_of ml_X8_151 rfl rfl rfl rfl ?_
      refine q_aload_n dX8_custom_52 rfl rfl ?_
      refine q_aload_n dX8_custom_53 rfl rfl ?_
      refine g_getF (k := 17) (o := 8) (z := 64) dX8_custom_54 rfl fg_X8_32 rfl rfl rfl ?_
      refine q_iload_n dX8_custom_57 rfl rfl ?_
      refine q_iconst dX8_custom_58 rfl rfl ?_
      refine q_isub dX8_custom_59 rfl ?_
      obtain ⟨g_19, hf⟩ := gd_ex hf
      refine q_iaload dX8_custom_60 rfl rfl g_19 ?_
      refine q_iconst dX8_custom_61 rfl rfl ?_
      obtain ⟨r_20, h_21, e_22, hf⟩ := bd_ex hf
      refine g_Vi (vs := [(0, h_17 64 (w32 (q_11 - 1))), (0, 2)]) (st := [(0, r_16)]) dX8_custom_62 rfl (S_X8_of X (h_17 64 (w32 (q_11 - 1))) 2 h_17) e_22 mf_X8_of ml_X8_151 rfl rfl rfl rfl ?_
      refine q_icmp_ge (tgt := 82) dX8_custom_65 rfl (by decide) (fun c_23 => ?_) (fun c_23 => ?_)
      · replace hf := it_f hf (by omega)
        exact J_K_12 _ hf
      · replace hf := it_t hf (by omega)
        refine q_aload_n dX8_custom_68 rfl rfl ?_
        refine q_iload_n dX8_custom_69 rfl rfl ?_
        refine q_iload_n dX8_custom_70 rfl rfl ?_
        refine q_iconst dX8_custom_71 rfl rfl ?_
        refine q_isub dX8_custom_72 rfl ?_
        obtain ⟨r_24, h_25, e_26, hf⟩ := bd_ex hf
        refine g_Vv (vs := [(0, q_11), (0, w32 (q_11 - 1))]) (st := []) dX8_custom_73 rfl (S_X8_swaps X q_11 (w32 (q_11 - 1)) h_21) e_26 mf_X8_swaps ml_X8_208 rfl rfl rfl rfl ?_
        refine q_iinc (ls' := [(2, 56), (0, p_9), (0, w32 (q_11 + (-1)))]) dX8_custom_76 rfl rfl rfl ?_
        obtain ⟨q_27, e_q_27, hf⟩ := nm_ex hf
        rw [← e_q_27]
        refine q_goto (tgt := 37) dX8_custom_79 rfl (by decide) ?_
        exact ih _ _ hf
theorem SL_X8_custom_1 (X : XS) (Kx : Int → Mem → Res) {r : Int × Mem} (hK : ∀ (p_9 : Int) (h_8 : Mem), Kx p_9 h_8 = some r → AJ X MX8_custom (rmD 4) 88 [(2, 56), (0, p_9), (3, 0)] [] h_8 (PH 0 r)) :
    ∀ (n : Nat) (p_9 : Int) (h_8 : Mem), L_X8_custom_1 Kx n p_9 h_8 = some r → AJ X MX8_custom (rmD 4) 27 [(2, 56), (0, p_9), (3, 0)] [] h_8 (PH 0 r) := by
  intro n
  induction n with
  | zero => intro p_9 h_8 hf; cases hf
  | succ n ih =>
    intro p_9 h_8 hf
    rw [L_X8_custom_1] at hf
    refine q_iload_n dX8_custom_27 rfl rfl ?_
    refine q_aload_n dX8_custom_28 rfl rfl ?_
    refine g_get (k := 18) (kz := 18) dX8_custom_29 rfl fg_X8_160 rfl rfl ?_
    refine q_icmp_ge (tgt := 88) dX8_custom_32 rfl (by decide) (fun c_31 => ?_) (fun c_31 => ?_)
    · replace hf := it_f hf (by omega)
      exact hK _ _ hf
    · replace hf := it_t hf (by omega)
      refine q_iload_n dX8_custom_35 rfl rfl ?_
      refine q_istore_n (ls' := [(2, 56), (0, p_9), (0, p_9)]) dX8_custom_36 rfl rfl (Nat.le_of_ble_eq_true rfl) rfl ?_
      refine SL_X8_custom_2 X p_9  _ (fun q_29 h_28 hf => ?_) FU _ _ hf
      refine q_iinc (ls' := [(2, 56), (0, w32 (p_9 + 1)), (0, q_29)]) dX8_custom_82 rfl rfl rfl ?_
      obtain ⟨p_30, e_p_30, hf⟩ := nm_ex hf
      rw [← e_p_30]
      refine q_goto (tgt := 27) dX8_custom_85 rfl (by decide) ?_
      refine g_frg (ls' := [(2, 56), (0, p_30), (3, 0)]) [2] rfl ?_
      exact ih _ _ hf
theorem S_X8_custom (X : XS) (h : Mem) : CT X yX8_custom MX8_custom (some .int) 0 4 [(2, 56)] h (F_X8_custom h) := by
  refine CT.ofI (by decide) rfl (Nat.le_of_ble_eq_true rfl) (fun r hf => ?_)
  unfold F_X8_custom at hf
  show AJ X MX8_custom (rmD 4) 0 [(2, 56), (3, 0), (3, 0)] [] h (PH 0 r)
  refine q_aload_n dX8_custom_0 rfl rfl ?_
  refine q_iconst dX8_custom_1 rfl rfl ?_
  refine g_put (k := 0) (kz := 0) dX8_custom_2 rfl fp_X8_68 rfl (fun q => q.1 rfl) rfl ?_
  obtain ⟨h_1, e_h_1, hf⟩ := nm_ex hf
  rw [← e_h_1]
  refine q_aload_n dX8_custom_5 rfl rfl ?_
  refine g_getF (k := 14) (o := 5) (z := 61) dX8_custom_6 rfl fg_X8_22 rfl rfl rfl ?_
  refine q_iconst dX8_custom_9 rfl rfl ?_
  refine q_iaload dX8_custom_10 rfl rfl (by decide) ?_
  refine q_if_ne (tgt := 17) dX8_custom_11 rfl (by decide) (fun c_46 => ?_) (fun c_46 => ?_)
  · replace hf := it_f hf (by omega)
    refine q_aload_n dX8_custom_17 rfl rfl ?_
    obtain ⟨r_2, h_3, e_4, hf⟩ := bd_ex hf
    refine g_Vv (vs := []) (st := []) dX8_custom_18 rfl (S_X8_asBilled X  h_1) e_4 mf_X8_asBilled ml_X8_175 rfl rfl rfl rfl ?_
    refine q_aload_n dX8_custom_21 rfl rfl ?_
    obtain ⟨r_5, h_6, e_7, hf⟩ := bd_ex hf
    refine g_Vv (vs := []) (st := []) dX8_custom_22 rfl (S_X8_sortsRow X  h_3) e_7 mf_X8_sortsRow ml_X8_212 rfl rfl rfl rfl ?_
    refine q_iconst dX8_custom_25 rfl rfl ?_
    refine q_istore_n (ls' := [(2, 56), (0, 1), (3, 0)]) dX8_custom_26 rfl rfl (Nat.le_of_ble_eq_true rfl) rfl ?_
    refine SL_X8_custom_1 X   _ (fun p_33 h_32 hf => ?_) FU _ _ hf
    refine g_frg (ls' := [(2, 56), (3, 0), (3, 0)]) [1] rfl ?_
    obtain ⟨K_34, J_K_34, hf⟩ := jn_ex (P := fun K => ∀ (h_39 : Mem), K  h_39 = some r → AJ X MX8_custom (rmD 4) 112 [(2, 56), (3, 0), (3, 0)] [] h_39 (PH 0 r)) hf (by
        intro  h_39 hf
        refine q_aload_n dX8_custom_112 rfl rfl ?_
        obtain ⟨r_40, h_41, e_42, hf⟩ := bd_ex hf
        refine g_Vv (vs := []) (st := []) dX8_custom_113 rfl (S_X8_lays X  h_39) e_42 mf_X8_lays ml_X8_178 rfl rfl rfl rfl ?_
        refine q_aload_n dX8_custom_116 rfl rfl ?_
        refine q_iconst dX8_custom_117 rfl rfl ?_
        obtain ⟨r_43, h_44, e_45, hf⟩ := bd_ex hf
        refine g_Vi (vs := [(0, 0)]) (st := []) dX8_custom_118 rfl (S_X8_nightOf X 0 h_41) e_45 mf_X8_nightOf ml_X8_205 rfl rfl rfl rfl ?_
        exact g_ireturn dX8_custom_121 rfl hf)
    refine q_aload_n dX8_custom_88 rfl rfl ?_
    refine g_get (k := 18) (kz := 18) dX8_custom_89 rfl fg_X8_160 rfl rfl ?_
    refine q_iconst dX8_custom_92 rfl rfl ?_
    refine q_icmp_le (tgt := 112) dX8_custom_93 rfl (by decide) (fun c_38 => ?_) (fun c_38 => ?_)
    · replace hf := it_f hf (by omega)
      exact J_K_34 _ hf
    · replace hf := it_t hf (by omega)
      refine q_aload_n dX8_custom_96 rfl rfl ?_
      refine q_aload_n dX8_custom_97 rfl rfl ?_
      refine g_get (k := 18) (kz := 18) dX8_custom_98 rfl fg_X8_160 rfl rfl ?_
      refine q_iconst dX8_custom_101 rfl rfl ?_
      refine q_isub dX8_custom_102 rfl ?_
      refine q_aload_n dX8_custom_103 rfl rfl ?_
      refine g_get (k := 18) (kz := 18) dX8_custom_104 rfl fg_X8_160 rfl rfl ?_
      refine q_iconst dX8_custom_107 rfl rfl ?_
      refine q_isub dX8_custom_108 rfl ?_
      obtain ⟨r_35, h_36, e_37, hf⟩ := bd_ex hf
      refine g_Vv (vs := [(0, w32 ((h_32 56 18) - 1)), (0, w32 ((h_32 56 18) - 2))]) (st := []) dX8_custom_109 rfl (S_X8_swaps X (w32 ((h_32 56 18) - 1)) (w32 ((h_32 56 18) - 2)) h_32) e_37 mf_X8_swaps ml_X8_208 rfl rfl rfl rfl ?_
      exact J_K_34 _ hf
  · replace hf := it_t hf (by omega)
    refine q_bipush dX8_custom_14 rfl (by decide) ?_
    exact g_ireturn dX8_custom_16 rfl hf
def L_X8_when_1 (Kx : Int → Int → Mem → Res) : Nat → Int → Int → Mem → Res
  | 0, _, _, _ => none
  | n + 1, best_7, most_8, h_6 => if ((h_6 56 19) < (h_6 56 18)) then (jn (fun (K_9 : Int → Mem → Res) => bd (F_X8_isStaged  h_6) (fun r_10 (h_11 : Mem) => if (¬ r_10 = 0) then (bd (F_X8_nightOf 0 h_11) (fun r_15 (h_16 : Mem) => K_9 r_15 h_16)) else (K_9 (-9) h_11))) (fun v_19 (h_18 : Mem) => nm (α := Int) (if (most_8 < v_19) then (h_18 56 19) else best_7) (fun v_20 => nm (α := Int) (if (most_8 < v_19) then v_19 else most_8) (fun v_22 => nm (wr h_18 56 19 (w32 ((h_18 56 19) + 1))) (fun (h_24 : Mem) => L_X8_when_1 Kx n v_20 v_22 h_24))))) else (Kx best_7 most_8 h_6)
def F_X8_when (h : Mem) : Res := nm (wr h 56 0 0) (fun (h_1 : Mem) => if ((h_1 61 0) = 0) then (some ((-2), h_1)) else (bd (F_X8_asBilled  h_1) (fun _ (h_3 : Mem) => nm (wr h_3 56 19 0) (fun (h_5 : Mem) => L_X8_when_1 (fun best_27 most_28 (h_26 : Mem) => some (best_27, h_26)) FU (-9) (-9) h_5))))
theorem SL_X8_when_1 (X : XS) (Kx : Int → Int → Mem → Res) {r : Int × Mem} (hK : ∀ (best_7 most_8 : Int) (h_6 : Mem), Kx best_7 most_8 h_6 = some r → AJ X MX8_when (rmD 5) 99 [(2, 56), (0, best_7), (0, most_8), (3, 0)] [] h_6 (PH 0 r)) :
    ∀ (n : Nat) (best_7 most_8 : Int) (h_6 : Mem), L_X8_when_1 Kx n best_7 most_8 h_6 = some r → AJ X MX8_when (rmD 5) 32 [(2, 56), (0, best_7), (0, most_8), (3, 0)] [] h_6 (PH 0 r) := by
  intro n
  induction n with
  | zero => intro best_7 most_8 h_6 hf; cases hf
  | succ n ih =>
    intro best_7 most_8 h_6 hf
    rw [L_X8_when_1] at hf
    refine q_aload_n dX8_when_32 rfl rfl ?_
    refine g_get (k := 19) (kz := 19) dX8_when_33 rfl fg_X8_163 rfl rfl ?_
    refine q_aload_n dX8_when_36 rfl rfl ?_
    refine g_get (k := 18) (kz := 18) dX8_when_37 rfl fg_X8_160 rfl rfl ?_
    refine q_icmp_ge (tgt := 99) dX8_when_40 rfl (by decide) (fun c_25 => ?_) (fun c_25 => ?_)
    · replace hf := it_f hf (by omega)
      exact hK _ _ _ hf
    · replace hf := it_t hf (by omega)
      obtain ⟨K_9, J_K_9, hf⟩ := jn_ex (P := fun K => ∀ (v_19 : Int) (h_18 : Mem), K v_19 h_18 = some r → AJ X MX8_when (rmD 5) 60 [(2, 56), (0, best_7), (0, most_8), (3, 0)] [(0, v_19)] h_18 (PH 0 r)) hf (by
          intro v_19 h_18 hf
          refine q_istore_n (ls' := [(2, 56), (0, best_7), (0, most_8), (0, v_19)]) dX8_when_60 rfl rfl (Nat.le_of_ble_eq_true rfl) rfl ?_
          obtain ⟨v_20, e_v_20, hf⟩ := nm_ex hf
          have J_v_20 : AJ X MX8_when (rmD 5) 74 [(2, 56), (0, best_7), (0, most_8), (0, v_19)] [(0, v_20)] h_18 (PH 0 r) := by
            refine q_istore_n (ls' := [(2, 56), (0, v_20), (0, most_8), (0, v_19)]) dX8_when_74 rfl rfl (Nat.le_of_ble_eq_true rfl) rfl ?_
            obtain ⟨v_22, e_v_22, hf⟩ := nm_ex hf
            have J_v_22 : AJ X MX8_when (rmD 5) 85 [(2, 56), (0, v_20), (0, most_8), (0, v_19)] [(0, v_22)] h_18 (PH 0 r) := by
              refine q_istore_n (ls' := [(2, 56), (0, v_20), (0, v_22), (0, v_19)]) dX8_when_85 rfl rfl (Nat.le_of_ble_eq_true rfl) rfl ?_
              refine q_aload_n dX8_when_86 rfl rfl ?_
              refine q_dup dX8_when_87 rfl (by decide) ?_
              refine g_get (k := 19) (kz := 19) dX8_when_88 rfl fg_X8_163 rfl rfl ?_
              refine q_iconst dX8_when_91 rfl rfl ?_
              refine q_iadd dX8_when_92 rfl ?_
              refine g_put (k := 19) (kz := 19) dX8_when_93 rfl fp_X8_163 rfl (fun q => q.1 rfl) rfl ?_
              obtain ⟨h_24, e_h_24, hf⟩ := nm_ex hf
              rw [← e_h_24]
              refine q_goto (tgt := 32) dX8_when_96 rfl (by decide) ?_
              refine g_frg (ls' := [(2, 56), (0, v_20), (0, v_22), (3, 0)]) [3] rfl ?_
              exact ih _ _ _ hf
            clear hf
            refine q_iload_n dX8_when_75 rfl rfl ?_
            refine q_iload_n dX8_when_76 rfl rfl ?_
            refine q_icmp_le (tgt := 84) dX8_when_77 rfl (by decide) (fun c_23 => ?_) (fun c_23 => ?_)
            · refine q_iload_n dX8_when_84 rfl rfl ?_
              have e1 : v_22 = most_8 := by omega
              subst e1
              exact J_v_22
            · refine q_iload_n dX8_when_80 rfl rfl ?_
              refine q_goto (tgt := 85) dX8_when_81 rfl (by decide) ?_
              have e1 : v_22 = v_19 := by omega
              subst e1
              exact J_v_22
          clear hf
          refine q_iload_n dX8_when_61 rfl rfl ?_
          refine q_iload_n dX8_when_62 rfl rfl ?_
          refine q_icmp_le (tgt := 73) dX8_when_63 rfl (by decide) (fun c_21 => ?_) (fun c_21 => ?_)
          · refine q_iload_n dX8_when_73 rfl rfl ?_
            have e1 : v_20 = best_7 := by omega
            subst e1
            exact J_v_20
          · refine q_aload_n dX8_when_66 rfl rfl ?_
            refine g_get (k := 19) (kz := 19) dX8_when_67 rfl fg_X8_163 rfl rfl ?_
            refine q_goto (tgt := 74) dX8_when_70 rfl (by decide) ?_
            have e1 : v_20 = h_18 56 19 := by omega
            subst e1
            exact J_v_20)
      refine q_aload_n dX8_when_43 rfl rfl ?_
      obtain ⟨r_10, h_11, e_12, hf⟩ := bd_ex hf
      refine g_Vb (vs := []) (st := []) dX8_when_44 rfl (S_X8_isStaged X  h_6) e_12 mf_X8_isStaged ml_X8_187 rfl rfl rfl rfl (fun b_13 => ?_)
      refine q_if_eq (tgt := 58) dX8_when_47 rfl (by decide) (fun c_14 => ?_) (fun c_14 => ?_)
      · replace hf := it_f hf (by omega)
        refine q_bipush dX8_when_58 rfl (by decide) ?_
        exact J_K_9 _ _ hf
      · replace hf := it_t hf (by omega)
        refine q_aload_n dX8_when_50 rfl rfl ?_
        refine q_iconst dX8_when_51 rfl rfl ?_
        obtain ⟨r_15, h_16, e_17, hf⟩ := bd_ex hf
        refine g_Vi (vs := [(0, 0)]) (st := []) dX8_when_52 rfl (S_X8_nightOf X 0 h_11) e_17 mf_X8_nightOf ml_X8_205 rfl rfl rfl rfl ?_
        refine q_goto (tgt := 60) dX8_when_55 rfl (by decide) ?_
        exact J_K_9 _ _ hf
theorem S_X8_when (X : XS) (h : Mem) : CT X yX8_when MX8_when (some .int) 0 5 [(2, 56)] h (F_X8_when h) := by
  refine CT.ofI (by decide) rfl (Nat.le_of_ble_eq_true rfl) (fun r hf => ?_)
  unfold F_X8_when at hf
  show AJ X MX8_when (rmD 5) 0 [(2, 56), (3, 0), (3, 0), (3, 0)] [] h (PH 0 r)
  refine q_aload_n dX8_when_0 rfl rfl ?_
  refine q_iconst dX8_when_1 rfl rfl ?_
  refine g_put (k := 0) (kz := 0) dX8_when_2 rfl fp_X8_68 rfl (fun q => q.1 rfl) rfl ?_
  obtain ⟨h_1, e_h_1, hf⟩ := nm_ex hf
  rw [← e_h_1]
  refine q_aload_n dX8_when_5 rfl rfl ?_
  refine g_getF (k := 14) (o := 5) (z := 61) dX8_when_6 rfl fg_X8_22 rfl rfl rfl ?_
  refine q_iconst dX8_when_9 rfl rfl ?_
  refine q_iaload dX8_when_10 rfl rfl (by decide) ?_
  refine q_if_ne (tgt := 17) dX8_when_11 rfl (by decide) (fun c_29 => ?_) (fun c_29 => ?_)
  · replace hf := it_f hf (by omega)
    refine q_aload_n dX8_when_17 rfl rfl ?_
    obtain ⟨r_2, h_3, e_4, hf⟩ := bd_ex hf
    refine g_Vv (vs := []) (st := []) dX8_when_18 rfl (S_X8_asBilled X  h_1) e_4 mf_X8_asBilled ml_X8_175 rfl rfl rfl rfl ?_
    refine q_bipush dX8_when_21 rfl (by decide) ?_
    refine q_istore_n (ls' := [(2, 56), (0, (-9)), (3, 0), (3, 0)]) dX8_when_23 rfl rfl (Nat.le_of_ble_eq_true rfl) rfl ?_
    refine q_bipush dX8_when_24 rfl (by decide) ?_
    refine q_istore_n (ls' := [(2, 56), (0, (-9)), (0, (-9)), (3, 0)]) dX8_when_26 rfl rfl (Nat.le_of_ble_eq_true rfl) rfl ?_
    refine q_aload_n dX8_when_27 rfl rfl ?_
    refine q_iconst dX8_when_28 rfl rfl ?_
    refine g_put (k := 19) (kz := 19) dX8_when_29 rfl fp_X8_163 rfl (fun q => q.1 rfl) rfl ?_
    obtain ⟨h_5, e_h_5, hf⟩ := nm_ex hf
    rw [← e_h_5]
    refine SL_X8_when_1 X   _ (fun best_27 most_28 h_26 hf => ?_) FU _ _ _ hf
    refine q_iload_n dX8_when_99 rfl rfl ?_
    exact g_ireturn dX8_when_100 rfl hf
  · replace hf := it_t hf (by omega)
    refine q_bipush dX8_when_14 rfl (by decide) ?_
    exact g_ireturn dX8_when_16 rfl hf
def L_X8_movedOf_1 (Kx : Int → Int → Mem → Res) : Nat → Int → Int → Mem → Res
  | 0, _, _, _ => none
  | n + 1, n_2, p_3, h_1 => if (p_3 < (h_1 56 18)) then (jn (fun (K_4 : Int → Mem → Res) => gd (0 ≤ p_3 ∧ p_3 < 10) (if ((h_1 64 p_3) = (h_1 74 p_3)) then (K_4 0 h_1) else (K_4 1 h_1))) (fun v_8 (h_7 : Mem) => nm (w32 (n_2 + v_8)) (fun n_9 => nm (w32 (p_3 + 1)) (fun p_10 => L_X8_movedOf_1 Kx n n_9 p_10 h_7)))) else (Kx n_2 p_3 h_1)
def F_X8_movedOf (h : Mem) : Res := L_X8_movedOf_1 (fun n_13 p_14 (h_12 : Mem) => some (n_13, h_12)) FU 0 0 h
theorem SL_X8_movedOf_1 (X : XS) (Kx : Int → Int → Mem → Res) {r : Int × Mem} (hK : ∀ (n_2 p_3 : Int) (h_1 : Mem), Kx n_2 p_3 h_1 = some r → AJ X MX8_movedOf (rmD 0) 41 [(2, 56), (0, n_2), (0, p_3)] [] h_1 (PH 0 r)) :
    ∀ (n : Nat) (n_2 p_3 : Int) (h_1 : Mem), L_X8_movedOf_1 Kx n n_2 p_3 h_1 = some r → AJ X MX8_movedOf (rmD 0) 4 [(2, 56), (0, n_2), (0, p_3)] [] h_1 (PH 0 r) := by
  intro n
  induction n with
  | zero => intro n_2 p_3 h_1 hf; cases hf
  | succ n ih =>
    intro n_2 p_3 h_1 hf
    rw [L_X8_movedOf_1] at hf
    refine q_iload_n dX8_movedOf_4 rfl rfl ?_
    refine q_aload_n dX8_movedOf_5 rfl rfl ?_
    refine g_get (k := 18) (kz := 18) dX8_movedOf_6 rfl fg_X8_160 rfl rfl ?_
    refine q_icmp_ge (tgt := 41) dX8_movedOf_9 rfl (by decide) (fun c_11 => ?_) (fun c_11 => ?_)
    · replace hf := it_f hf (by omega)
      exact hK _ _ _ hf
    · replace hf := it_t hf (by omega)
      refine q_iload_n dX8_movedOf_12 rfl rfl ?_
      obtain ⟨K_4, J_K_4, hf⟩ := jn_ex (P := fun K => ∀ (v_8 : Int) (h_7 : Mem), K v_8 h_7 = some r → AJ X MX8_movedOf (rmD 0) 33 [(2, 56), (0, n_2), (0, p_3)] [(0, v_8), (0, n_2)] h_7 (PH 0 r)) hf (by
          intro v_8 h_7 hf
          refine q_iadd dX8_movedOf_33 rfl ?_
          obtain ⟨n_9, e_n_9, hf⟩ := nm_ex hf
          rw [← e_n_9]
          refine q_istore_n (ls' := [(2, 56), (0, n_9), (0, p_3)]) dX8_movedOf_34 rfl rfl (Nat.le_of_ble_eq_true rfl) rfl ?_
          refine q_iinc (ls' := [(2, 56), (0, n_9), (0, w32 (p_3 + 1))]) dX8_movedOf_35 rfl rfl rfl ?_
          obtain ⟨p_10, e_p_10, hf⟩ := nm_ex hf
          rw [← e_p_10]
          refine q_goto (tgt := 4) dX8_movedOf_38 rfl (by decide) ?_
          exact ih _ _ _ hf)
      refine q_aload_n dX8_movedOf_13 rfl rfl ?_
      refine g_getF (k := 17) (o := 8) (z := 64) dX8_movedOf_14 rfl fg_X8_32 rfl rfl rfl ?_
      refine q_iload_n dX8_movedOf_17 rfl rfl ?_
      obtain ⟨g_5, hf⟩ := gd_ex hf
      refine q_iaload dX8_movedOf_18 rfl rfl g_5 ?_
      refine q_aload_n dX8_movedOf_19 rfl rfl ?_
      refine g_getF (k := 39) (o := 18) (z := 74) dX8_movedOf_20 rfl fg_X8_62 rfl rfl rfl ?_
      refine q_iload_n dX8_movedOf_23 rfl rfl ?_
      refine q_iaload dX8_movedOf_24 rfl rfl g_5 ?_
      refine q_icmp_ne (tgt := 32) dX8_movedOf_25 rfl (by decide) (fun c_6 => ?_) (fun c_6 => ?_)
      · replace hf := it_f hf (by omega)
        refine q_iconst dX8_movedOf_32 rfl rfl ?_
        exact J_K_4 _ _ hf
      · replace hf := it_t hf (by omega)
        refine q_iconst dX8_movedOf_28 rfl rfl ?_
        refine q_goto (tgt := 33) dX8_movedOf_29 rfl (by decide) ?_
        exact J_K_4 _ _ hf
theorem S_X8_movedOf (X : XS) (h : Mem) : CT X yX8_movedOf MX8_movedOf (some .int) 0 0 [(2, 56)] h (F_X8_movedOf h) := by
  refine CT.ofI (by decide) rfl (Nat.le_of_ble_eq_true rfl) (fun r hf => ?_)
  unfold F_X8_movedOf at hf
  show AJ X MX8_movedOf (rmD 0) 0 [(2, 56), (3, 0), (3, 0)] [] h (PH 0 r)
  refine q_iconst dX8_movedOf_0 rfl rfl ?_
  refine q_istore_n (ls' := [(2, 56), (0, 0), (3, 0)]) dX8_movedOf_1 rfl rfl (Nat.le_of_ble_eq_true rfl) rfl ?_
  refine q_iconst dX8_movedOf_2 rfl rfl ?_
  refine q_istore_n (ls' := [(2, 56), (0, 0), (0, 0)]) dX8_movedOf_3 rfl rfl (Nat.le_of_ble_eq_true rfl) rfl ?_
  refine SL_X8_movedOf_1 X   _ (fun n_13 p_14 h_12 hf => ?_) FU _ _ _ hf
  refine q_iload_n dX8_movedOf_41 rfl rfl ?_
  exact g_ireturn dX8_movedOf_42 rfl hf
def L_X8_ill_2 (i_0 what_0 v_12 : Int) (Kx : Int → Mem → Res) : Nat → Int → Mem → Res
  | 0, _, _ => none
  | n + 1, more_53, h_52 => if (¬ more_53 = 0) then (jn (fun (K_54 : Mem → Res) => bd (F_X8_isStaged  h_52) (fun r_55 (h_56 : Mem) => if (¬ r_55 = 0) then (bd (F_X8_movedOf  h_56) (fun r_60 (h_61 : Mem) => bd (F_X8_nightOf 0 h_61) (fun r_63 (h_64 : Mem) => jn (fun (K_66 : Mem → Res) => if ((((h_64 56 37) = (-9)) ∨ (r_60 < (h_64 56 37))) ∨ ((r_60 = (h_64 56 37)) ∧ ((h_64 56 34) < r_63))) then (nm (wr h_64 56 37 r_60) (fun (h_67 : Mem) => nm (wr h_67 56 34 r_63) (fun (h_68 : Mem) => bd (F_X8_orderOf  h_68) (fun r_69 (h_70 : Mem) => nm (wr h_70 56 35 r_69) (fun (h_72 : Mem) => K_66 h_72))))) else (K_66 h_64)) (fun  (h_79 : Mem) => K_54 h_79)))) else (K_54 h_56))) (fun  (h_80 : Mem) => bd (F_X8_goesOn  h_80) (fun r_81 (h_82 : Mem) => L_X8_ill_2 i_0 what_0 v_12 Kx n r_81 h_82))) else (Kx more_53 h_52)
def L_X8_ill_1 (i_0 what_0 v_12 : Int) (Kx : Int → Mem → Res) : Nat → Int → Mem → Res
  | 0, _, _ => none
  | n + 1, p_31, h_30 => if (p_31 < (h_30 56 18)) then (nm (α := Int) (if (p_31 < v_12) then p_31 else (w32 (p_31 + 1))) (fun v_32 => gd (0 ≤ (w32 (3 + v_32)) ∧ (w32 (3 + v_32)) < 12) (gd (0 ≤ p_31 ∧ p_31 < 10) (nm (wr h_30 64 p_31 (h_30 61 (w32 (3 + v_32)))) (fun (h_36 : Mem) => nm (wr h_36 74 p_31 (h_36 64 p_31)) (fun (h_37 : Mem) => nm (w32 (p_31 + 1)) (fun p_38 => L_X8_ill_1 i_0 what_0 v_12 Kx n p_38 h_37))))))) else (Kx p_31 h_30)
def F_X8_ill (i_0 what_0 : Int) (h : Mem) : Res := nm (wr h 56 0 0) (fun (h_1 : Mem) => jn (fun (K_2 : Int → Mem → Res) => bd (F_X8_isAct i_0 h_1) (fun r_3 (h_4 : Mem) => if (¬ r_3 = 0) then (bd (F_X8_placeOf i_0 h_4) (fun r_8 (h_9 : Mem) => K_2 r_8 h_9)) else (K_2 (-9) h_4))) (fun v_12 (h_11 : Mem) => jn (fun (K_13 : Mem → Res) => if (v_12 = (-9)) then (K_13 h_11) else (bd (F_X8_in what_0 0 2 h_11) (fun r_16 (h_17 : Mem) => if (¬ r_16 = 0) then (bd (F_X8_in (h_17 61 0) 2 7 h_17) (fun r_21 (h_22 : Mem) => if (¬ r_21 = 0) then (bd (F_X8_asBilled  h_22) (fun _ (h_27 : Mem) => nm (wr h_27 56 18 (w32 ((h_27 56 18) - 1))) (fun (h_29 : Mem) => L_X8_ill_1 i_0 what_0 v_12 (fun p_41 (h_40 : Mem) => nm (α := Int) (if (v_12 < (h_40 56 19)) then 1 else 0) (fun v_42 => nm (wr h_40 56 19 (w32 ((h_40 56 19) - v_42))) (fun (h_44 : Mem) => nm (α := Int) (if ((h_44 56 18) ≤ (h_44 56 19)) then 0 else (h_44 56 19)) (fun v_45 => nm (wr h_44 56 19 v_45) (fun (h_47 : Mem) => bd (F_X8_sortsRow  h_47) (fun _ (h_49 : Mem) => nm (wr h_49 56 37 (-9)) (fun (h_51 : Mem) => L_X8_ill_2 i_0 what_0 v_12 (fun more_87 (h_86 : Mem) => if (((h_86 56 37) = (-9)) ∨ (what_0 = 0)) then (some (h_86 56 37, h_86)) else (if (what_0 = 1) then (some (h_86 56 35, h_86)) else (some (h_86 56 34, h_86)))) FU 1 h_51))))))) FU 0 h_29))) else (some ((-2), h_22)))) else (K_13 h_17)))) (fun (h_14 : Mem) => some ((-1), h_14))))
theorem SL_X8_ill_2 (X : XS) (i_0 what_0 v_12 : Int) (Kx : Int → Mem → Res) {r : Int × Mem} (hK : ∀ (more_53 : Int) (h_52 : Mem), Kx more_53 h_52 = some r → AJ X MX8_ill (rmD 5) 282 [(2, 56), (0, i_0), (0, what_0), (0, v_12), (0, more_53), (3, 0), (3, 0)] [] h_52 (PH 0 r)) :
    ∀ (n : Nat) (more_53 : Int) (h_52 : Mem), L_X8_ill_2 i_0 what_0 v_12 Kx n more_53 h_52 = some r → AJ X MX8_ill (rmD 5) 192 [(2, 56), (0, i_0), (0, what_0), (0, v_12), (0, more_53), (3, 0), (3, 0)] [] h_52 (PH 0 r) := by
  intro n
  induction n with
  | zero => intro more_53 h_52 hf; cases hf
  | succ n ih =>
    intro more_53 h_52 hf
    rw [L_X8_ill_2] at hf
    refine q_iload dX8_ill_192 rfl rfl ?_
    refine q_if_eq (tgt := 282) dX8_ill_194 rfl (by decide) (fun c_85 => ?_) (fun c_85 => ?_)
    · replace hf := it_f hf (by omega)
      exact hK _ _ hf
    · replace hf := it_t hf (by omega)
      obtain ⟨K_54, J_K_54, hf⟩ := jn_ex (P := fun K => ∀ (h_80 : Mem), K  h_80 = some r → AJ X MX8_ill (rmD 5) 273 [(2, 56), (0, i_0), (0, what_0), (0, v_12), (0, more_53), (3, 0), (3, 0)] [] h_80 (PH 0 r)) hf (by
          intro  h_80 hf
          refine q_aload_n dX8_ill_273 rfl rfl ?_
          obtain ⟨r_81, h_82, e_83, hf⟩ := bd_ex hf
          refine g_Vb (vs := []) (st := []) dX8_ill_274 rfl (S_X8_goesOn X  h_80) e_83 mf_X8_goesOn ml_X8_230 rfl rfl rfl rfl (fun b_84 => ?_)
          refine q_istore (ls' := [(2, 56), (0, i_0), (0, what_0), (0, v_12), (0, r_81), (3, 0), (3, 0)]) dX8_ill_277 rfl (Nat.le_of_ble_eq_true rfl) rfl ?_
          refine q_goto (tgt := 192) dX8_ill_279 rfl (by decide) ?_
          exact ih _ _ hf)
      refine q_aload_n dX8_ill_197 rfl rfl ?_
      obtain ⟨r_55, h_56, e_57, hf⟩ := bd_ex hf
      refine g_Vb (vs := []) (st := []) dX8_ill_198 rfl (S_X8_isStaged X  h_52) e_57 mf_X8_isStaged ml_X8_187 rfl rfl rfl rfl (fun b_58 => ?_)
      refine q_if_eq (tgt := 273) dX8_ill_201 rfl (by decide) (fun c_59 => ?_) (fun c_59 => ?_)
      · replace hf := it_f hf (by omega)
        exact J_K_54 _ hf
      · replace hf := it_t hf (by omega)
        refine q_aload_n dX8_ill_204 rfl rfl ?_
        obtain ⟨r_60, h_61, e_62, hf⟩ := bd_ex hf
        refine g_Vi (vs := []) (st := []) dX8_ill_205 rfl (S_X8_movedOf X  h_56) e_62 mf_X8_movedOf ml_X8_239 rfl rfl rfl rfl ?_
        refine q_istore (ls' := [(2, 56), (0, i_0), (0, what_0), (0, v_12), (0, more_53), (0, r_60), (3, 0)]) dX8_ill_208 rfl (Nat.le_of_ble_eq_true rfl) rfl ?_
        refine q_aload_n dX8_ill_210 rfl rfl ?_
        refine q_iconst dX8_ill_211 rfl rfl ?_
        obtain ⟨r_63, h_64, e_65, hf⟩ := bd_ex hf
        refine g_Vi (vs := [(0, 0)]) (st := []) dX8_ill_212 rfl (S_X8_nightOf X 0 h_61) e_65 mf_X8_nightOf ml_X8_205 rfl rfl rfl rfl ?_
        refine q_istore (ls' := [(2, 56), (0, i_0), (0, what_0), (0, v_12), (0, more_53), (0, r_60), (0, r_63)]) dX8_ill_215 rfl (Nat.le_of_ble_eq_true rfl) rfl ?_
        obtain ⟨K_66, J_K_66, hf⟩ := jn_ex (P := fun K => ∀ (h_79 : Mem), K  h_79 = some r → AJ X MX8_ill (rmD 5) 273 [(2, 56), (0, i_0), (0, what_0), (0, v_12), (0, more_53), (0, r_60), (0, r_63)] [] h_79 (PH 0 r)) hf (by
            intro  h_79 hf
            refine g_frg (ls' := [(2, 56), (0, i_0), (0, what_0), (0, v_12), (0, more_53), (3, 0), (3, 0)]) [5, 6] rfl ?_
            exact J_K_54 _ hf)
        have HT_73 : ((((h_64 56 37) = (-9)) ∨ (r_60 < (h_64 56 37))) ∨ ((r_60 = (h_64 56 37)) ∧ ((h_64 56 34) < r_63))) → AJ X MX8_ill (rmD 5) 253 [(2, 56), (0, i_0), (0, what_0), (0, v_12), (0, more_53), (0, r_60), (0, r_63)] [] h_64 (PH 0 r) := by
          intro hc
          replace hf := it_t hf hc
          refine q_aload_n dX8_ill_253 rfl rfl ?_
          refine q_iload dX8_ill_254 rfl rfl ?_
          refine g_put (k := 37) (kz := 37) dX8_ill_256 rfl fp_X8_236 rfl (fun q => q.1 rfl) rfl ?_
          obtain ⟨h_67, e_h_67, hf⟩ := nm_ex hf
          rw [← e_h_67]
          refine q_aload_n dX8_ill_259 rfl rfl ?_
          refine q_iload dX8_ill_260 rfl rfl ?_
          refine g_put (k := 34) (kz := 34) dX8_ill_262 rfl fp_X8_215 rfl (fun q => q.1 rfl) rfl ?_
          obtain ⟨h_68, e_h_68, hf⟩ := nm_ex hf
          rw [← e_h_68]
          refine q_aload_n dX8_ill_265 rfl rfl ?_
          refine q_aload_n dX8_ill_266 rfl rfl ?_
          obtain ⟨r_69, h_70, e_71, hf⟩ := bd_ex hf
          refine g_Vi (vs := []) (st := [(2, 56)]) dX8_ill_267 rfl (S_X8_orderOf X  h_68) e_71 mf_X8_orderOf ml_X8_221 rfl rfl rfl rfl ?_
          refine g_put (k := 35) (kz := 35) dX8_ill_270 rfl fp_X8_224 rfl (fun q => q.1 rfl) rfl ?_
          obtain ⟨h_72, e_h_72, hf⟩ := nm_ex hf
          rw [← e_h_72]
          exact J_K_66 _ hf
        have HF_74 : ¬ ((((h_64 56 37) = (-9)) ∨ (r_60 < (h_64 56 37))) ∨ ((r_60 = (h_64 56 37)) ∧ ((h_64 56 34) < r_63))) → AJ X MX8_ill (rmD 5) 273 [(2, 56), (0, i_0), (0, what_0), (0, v_12), (0, more_53), (0, r_60), (0, r_63)] [] h_64 (PH 0 r) := by
          intro hc
          replace hf := it_f hf hc
          exact J_K_66 _ hf
        refine q_aload_n dX8_ill_217 rfl rfl ?_
        refine g_get (k := 37) (kz := 37) dX8_ill_218 rfl fg_X8_236 rfl rfl ?_
        refine q_bipush dX8_ill_221 rfl (by decide) ?_
        refine q_icmp_eq (tgt := 253) dX8_ill_223 rfl (by decide) (fun c_75 => ?_) (fun c_75 => ?_)
        · exact HT_73 (by omega)
        · refine q_iload dX8_ill_226 rfl rfl ?_
          refine q_aload_n dX8_ill_228 rfl rfl ?_
          refine g_get (k := 37) (kz := 37) dX8_ill_229 rfl fg_X8_236 rfl rfl ?_
          refine q_icmp_lt (tgt := 253) dX8_ill_232 rfl (by decide) (fun c_76 => ?_) (fun c_76 => ?_)
          · exact HT_73 (by omega)
          · refine q_iload dX8_ill_235 rfl rfl ?_
            refine q_aload_n dX8_ill_237 rfl rfl ?_
            refine g_get (k := 37) (kz := 37) dX8_ill_238 rfl fg_X8_236 rfl rfl ?_
            refine q_icmp_ne (tgt := 273) dX8_ill_241 rfl (by decide) (fun c_77 => ?_) (fun c_77 => ?_)
            · exact HF_74 (by omega)
            · refine q_iload dX8_ill_244 rfl rfl ?_
              refine q_aload_n dX8_ill_246 rfl rfl ?_
              refine g_get (k := 34) (kz := 34) dX8_ill_247 rfl fg_X8_215 rfl rfl ?_
              refine q_icmp_le (tgt := 273) dX8_ill_250 rfl (by decide) (fun c_78 => ?_) (fun c_78 => ?_)
              · exact HF_74 (by omega)
              · exact HT_73 (by omega)
theorem SL_X8_ill_1 (X : XS) (i_0 what_0 v_12 : Int) (Kx : Int → Mem → Res) {r : Int × Mem} (hK : ∀ (p_31 : Int) (h_30 : Mem), Kx p_31 h_30 = some r → AJ X MX8_ill (rmD 5) 134 [(2, 56), (0, i_0), (0, what_0), (0, v_12), (0, p_31), (3, 0), (3, 0)] [] h_30 (PH 0 r)) :
    ∀ (n : Nat) (p_31 : Int) (h_30 : Mem), L_X8_ill_1 i_0 what_0 v_12 Kx n p_31 h_30 = some r → AJ X MX8_ill (rmD 5) 76 [(2, 56), (0, i_0), (0, what_0), (0, v_12), (0, p_31), (3, 0), (3, 0)] [] h_30 (PH 0 r) := by
  intro n
  induction n with
  | zero => intro p_31 h_30 hf; cases hf
  | succ n ih =>
    intro p_31 h_30 hf
    rw [L_X8_ill_1] at hf
    refine q_iload dX8_ill_76 rfl rfl ?_
    refine q_aload_n dX8_ill_78 rfl rfl ?_
    refine g_get (k := 18) (kz := 18) dX8_ill_79 rfl fg_X8_160 rfl rfl ?_
    refine q_icmp_ge (tgt := 134) dX8_ill_82 rfl (by decide) (fun c_39 => ?_) (fun c_39 => ?_)
    · replace hf := it_f hf (by omega)
      exact hK _ _ hf
    · replace hf := it_t hf (by omega)
      refine q_aload_n dX8_ill_85 rfl rfl ?_
      refine g_getF (k := 17) (o := 8) (z := 64) dX8_ill_86 rfl fg_X8_32 rfl rfl rfl ?_
      refine q_iload dX8_ill_89 rfl rfl ?_
      refine q_aload_n dX8_ill_91 rfl rfl ?_
      refine g_getF (k := 14) (o := 5) (z := 61) dX8_ill_92 rfl fg_X8_22 rfl rfl rfl ?_
      refine q_iconst dX8_ill_95 rfl rfl ?_
      obtain ⟨v_32, e_v_32, hf⟩ := nm_ex hf
      have J_v_32 : AJ X MX8_ill (rmD 5) 111 [(2, 56), (0, i_0), (0, what_0), (0, v_12), (0, p_31), (3, 0), (3, 0)] [(0, v_32), (0, 3), (2, 61), (0, p_31), (2, 64)] h_30 (PH 0 r) := by
        refine q_iadd dX8_ill_111 rfl ?_
        obtain ⟨g_34, hf⟩ := gd_ex hf
        refine q_iaload dX8_ill_112 rfl rfl g_34 ?_
        obtain ⟨g_35, hf⟩ := gd_ex hf
        refine q_iastore dX8_ill_113 rfl rfl g_35 ?_
        obtain ⟨h_36, e_h_36, hf⟩ := nm_ex hf
        rw [← e_h_36]
        refine q_aload_n dX8_ill_114 rfl rfl ?_
        refine g_getF (k := 39) (o := 18) (z := 74) dX8_ill_115 rfl fg_X8_62 rfl rfl rfl ?_
        refine q_iload dX8_ill_118 rfl rfl ?_
        refine q_aload_n dX8_ill_120 rfl rfl ?_
        refine g_getF (k := 17) (o := 8) (z := 64) dX8_ill_121 rfl fg_X8_32 rfl rfl rfl ?_
        refine q_iload dX8_ill_124 rfl rfl ?_
        refine q_iaload dX8_ill_126 rfl rfl g_35 ?_
        refine q_iastore dX8_ill_127 rfl rfl g_35 ?_
        obtain ⟨h_37, e_h_37, hf⟩ := nm_ex hf
        rw [← e_h_37]
        refine q_iinc (ls' := [(2, 56), (0, i_0), (0, what_0), (0, v_12), (0, w32 (p_31 + 1)), (3, 0), (3, 0)]) dX8_ill_128 rfl rfl rfl ?_
        obtain ⟨p_38, e_p_38, hf⟩ := nm_ex hf
        rw [← e_p_38]
        refine q_goto (tgt := 76) dX8_ill_131 rfl (by decide) ?_
        exact ih _ _ hf
      clear hf
      refine q_iload dX8_ill_96 rfl rfl ?_
      refine q_iload_n dX8_ill_98 rfl rfl ?_
      refine q_icmp_ge (tgt := 107) dX8_ill_99 rfl (by decide) (fun c_33 => ?_) (fun c_33 => ?_)
      · refine q_iload dX8_ill_107 rfl rfl ?_
        refine q_iconst dX8_ill_109 rfl rfl ?_
        refine q_iadd dX8_ill_110 rfl ?_
        have e1 : v_32 = w32 (p_31 + 1) := by omega
        subst e1
        exact J_v_32
      · refine q_iload dX8_ill_102 rfl rfl ?_
        refine q_goto (tgt := 111) dX8_ill_104 rfl (by decide) ?_
        have e1 : v_32 = p_31 := by omega
        subst e1
        exact J_v_32
theorem S_X8_ill (X : XS) (i_0 : Int) (what_0 : Int) (h : Mem) : CT X yX8_ill MX8_ill (some .int) 0 5 [(2, 56), (0, i_0), (0, what_0)] h (F_X8_ill i_0 what_0 h) := by
  refine CT.ofI (by decide) rfl (Nat.le_of_ble_eq_true rfl) (fun r hf => ?_)
  unfold F_X8_ill at hf
  show AJ X MX8_ill (rmD 5) 0 [(2, 56), (0, i_0), (0, what_0), (3, 0), (3, 0), (3, 0), (3, 0)] [] h (PH 0 r)
  refine q_aload_n dX8_ill_0 rfl rfl ?_
  refine q_iconst dX8_ill_1 rfl rfl ?_
  refine g_put (k := 0) (kz := 0) dX8_ill_2 rfl fp_X8_68 rfl (fun q => q.1 rfl) rfl ?_
  obtain ⟨h_1, e_h_1, hf⟩ := nm_ex hf
  rw [← e_h_1]
  obtain ⟨K_2, J_K_2, hf⟩ := jn_ex (P := fun K => ∀ (v_12 : Int) (h_11 : Mem), K v_12 h_11 = some r → AJ X MX8_ill (rmD 5) 23 [(2, 56), (0, i_0), (0, what_0), (3, 0), (3, 0), (3, 0), (3, 0)] [(0, v_12)] h_11 (PH 0 r)) hf (by
      intro v_12 h_11 hf
      refine q_istore_n (ls' := [(2, 56), (0, i_0), (0, what_0), (0, v_12), (3, 0), (3, 0), (3, 0)]) dX8_ill_23 rfl rfl (Nat.le_of_ble_eq_true rfl) rfl ?_
      obtain ⟨K_13, J_K_13, hf⟩ := jn_ex (P := fun K => ∀ (h_14 : Mem), K h_14 = some r → AJ X MX8_ill (rmD 5) 39 [(2, 56), (0, i_0), (0, what_0), (0, v_12), (3, 0), (3, 0), (3, 0)] [] h_14 (PH 0 r)) hf (by
          intro h_14 hf
          refine q_iconst dX8_ill_39 rfl rfl ?_
          exact g_ireturn dX8_ill_40 rfl hf)
      refine q_iload_n dX8_ill_24 rfl rfl ?_
      refine q_bipush dX8_ill_25 rfl (by decide) ?_
      refine q_icmp_eq (tgt := 39) dX8_ill_27 rfl (by decide) (fun c_15 => ?_) (fun c_15 => ?_)
      · replace hf := it_t hf (by omega)
        exact J_K_13 _ hf
      · replace hf := it_f hf (by omega)
        refine q_iload_n dX8_ill_30 rfl rfl ?_
        refine q_iconst dX8_ill_31 rfl rfl ?_
        refine q_iconst dX8_ill_32 rfl rfl ?_
        obtain ⟨r_16, h_17, e_18, hf⟩ := bd_ex hf
        refine g_Sb (vs := [(0, what_0), (0, 0), (0, 2)]) (st := []) dX8_ill_33 rfl (S_X8_in X what_0 0 2 h_11) e_18 mf_X8_in ml_X8_72 rfl rfl rfl (fun b_19 => ?_)
        refine q_if_ne (tgt := 41) dX8_ill_36 rfl (by decide) (fun c_20 => ?_) (fun c_20 => ?_)
        · replace hf := it_t hf (by omega)
          refine q_aload_n dX8_ill_41 rfl rfl ?_
          refine g_getF (k := 14) (o := 5) (z := 61) dX8_ill_42 rfl fg_X8_22 rfl rfl rfl ?_
          refine q_iconst dX8_ill_45 rfl rfl ?_
          refine q_iaload dX8_ill_46 rfl rfl (by decide) ?_
          refine q_iconst dX8_ill_47 rfl rfl ?_
          refine q_bipush dX8_ill_48 rfl (by decide) ?_
          obtain ⟨r_21, h_22, e_23, hf⟩ := bd_ex hf
          refine g_Sb (vs := [(0, h_17 61 0), (0, 2), (0, 7)]) (st := []) dX8_ill_50 rfl (S_X8_in X (h_17 61 0) 2 7 h_17) e_23 mf_X8_in ml_X8_72 rfl rfl rfl (fun b_24 => ?_)
          refine q_if_ne (tgt := 59) dX8_ill_53 rfl (by decide) (fun c_25 => ?_) (fun c_25 => ?_)
          · replace hf := it_t hf (by omega)
            refine q_aload_n dX8_ill_59 rfl rfl ?_
            obtain ⟨r_26, h_27, e_28, hf⟩ := bd_ex hf
            refine g_Vv (vs := []) (st := []) dX8_ill_60 rfl (S_X8_asBilled X  h_22) e_28 mf_X8_asBilled ml_X8_175 rfl rfl rfl rfl ?_
            refine q_aload_n dX8_ill_63 rfl rfl ?_
            refine q_dup dX8_ill_64 rfl (by decide) ?_
            refine g_get (k := 18) (kz := 18) dX8_ill_65 rfl fg_X8_160 rfl rfl ?_
            refine q_iconst dX8_ill_68 rfl rfl ?_
            refine q_isub dX8_ill_69 rfl ?_
            refine g_put (k := 18) (kz := 18) dX8_ill_70 rfl fp_X8_160 rfl (fun q => q.1 rfl) rfl ?_
            obtain ⟨h_29, e_h_29, hf⟩ := nm_ex hf
            rw [← e_h_29]
            refine q_iconst dX8_ill_73 rfl rfl ?_
            refine q_istore (ls' := [(2, 56), (0, i_0), (0, what_0), (0, v_12), (0, 0), (3, 0), (3, 0)]) dX8_ill_74 rfl (Nat.le_of_ble_eq_true rfl) rfl ?_
            refine SL_X8_ill_1 X i_0 what_0 v_12  _ (fun p_41 h_40 hf => ?_) FU _ _ hf
            refine q_aload_n dX8_ill_134 rfl rfl ?_
            refine q_dup dX8_ill_135 rfl (by decide) ?_
            refine g_get (k := 19) (kz := 19) dX8_ill_136 rfl fg_X8_163 rfl rfl ?_
            obtain ⟨v_42, e_v_42, hf⟩ := nm_ex hf
            have J_v_42 : AJ X MX8_ill (rmD 5) 152 [(2, 56), (0, i_0), (0, what_0), (0, v_12), (0, p_41), (3, 0), (3, 0)] [(0, v_42), (0, h_40 56 19), (2, 56)] h_40 (PH 0 r) := by
              refine q_isub dX8_ill_152 rfl ?_
              refine g_put (k := 19) (kz := 19) dX8_ill_153 rfl fp_X8_163 rfl (fun q => q.1 rfl) rfl ?_
              obtain ⟨h_44, e_h_44, hf⟩ := nm_ex hf
              rw [← e_h_44]
              refine q_aload_n dX8_ill_156 rfl rfl ?_
              obtain ⟨v_45, e_v_45, hf⟩ := nm_ex hf
              have J_v_45 : AJ X MX8_ill (rmD 5) 176 [(2, 56), (0, i_0), (0, what_0), (0, v_12), (0, p_41), (3, 0), (3, 0)] [(0, v_45), (2, 56)] h_44 (PH 0 r) := by
                refine g_put (k := 19) (kz := 19) dX8_ill_176 rfl fp_X8_163 rfl (fun q => q.1 rfl) rfl ?_
                obtain ⟨h_47, e_h_47, hf⟩ := nm_ex hf
                rw [← e_h_47]
                refine q_aload_n dX8_ill_179 rfl rfl ?_
                obtain ⟨r_48, h_49, e_50, hf⟩ := bd_ex hf
                refine g_Vv (vs := []) (st := []) dX8_ill_180 rfl (S_X8_sortsRow X  h_47) e_50 mf_X8_sortsRow ml_X8_212 rfl rfl rfl rfl ?_
                refine q_aload_n dX8_ill_183 rfl rfl ?_
                refine q_bipush dX8_ill_184 rfl (by decide) ?_
                refine g_put (k := 37) (kz := 37) dX8_ill_186 rfl fp_X8_236 rfl (fun q => q.1 rfl) rfl ?_
                obtain ⟨h_51, e_h_51, hf⟩ := nm_ex hf
                rw [← e_h_51]
                refine q_iconst dX8_ill_189 rfl rfl ?_
                refine q_istore (ls' := [(2, 56), (0, i_0), (0, what_0), (0, v_12), (0, 1), (3, 0), (3, 0)]) dX8_ill_190 rfl (Nat.le_of_ble_eq_true rfl) rfl ?_
                refine SL_X8_ill_2 X i_0 what_0 v_12  _ (fun more_87 h_86 hf => ?_) FU _ _ hf
                have HT_89 : (((h_86 56 37) = (-9)) ∨ (what_0 = 0)) → AJ X MX8_ill (rmD 5) 295 [(2, 56), (0, i_0), (0, what_0), (0, v_12), (0, more_87), (3, 0), (3, 0)] [] h_86 (PH 0 r) := by
                  intro hc
                  replace hf := it_t hf hc
                  refine q_aload_n dX8_ill_295 rfl rfl ?_
                  refine g_get (k := 37) (kz := 37) dX8_ill_296 rfl fg_X8_236 rfl rfl ?_
                  refine q_goto (tgt := 318) dX8_ill_299 rfl (by decide) ?_
                  exact g_ireturn dX8_ill_318 rfl hf
                refine q_aload_n dX8_ill_282 rfl rfl ?_
                refine g_get (k := 37) (kz := 37) dX8_ill_283 rfl fg_X8_236 rfl rfl ?_
                refine q_bipush dX8_ill_286 rfl (by decide) ?_
                refine q_icmp_eq (tgt := 295) dX8_ill_288 rfl (by decide) (fun c_90 => ?_) (fun c_90 => ?_)
                · exact HT_89 (by omega)
                · refine q_iload_n dX8_ill_291 rfl rfl ?_
                  refine q_if_ne (tgt := 302) dX8_ill_292 rfl (by decide) (fun c_91 => ?_) (fun c_91 => ?_)
                  · replace hf := it_f hf (by omega)
                    refine q_iload_n dX8_ill_302 rfl rfl ?_
                    refine q_iconst dX8_ill_303 rfl rfl ?_
                    refine q_icmp_ne (tgt := 314) dX8_ill_304 rfl (by decide) (fun c_88 => ?_) (fun c_88 => ?_)
                    · replace hf := it_f hf (by omega)
                      refine q_aload_n dX8_ill_314 rfl rfl ?_
                      refine g_get (k := 34) (kz := 34) dX8_ill_315 rfl fg_X8_215 rfl rfl ?_
                      exact g_ireturn dX8_ill_318 rfl hf
                    · replace hf := it_t hf (by omega)
                      refine q_aload_n dX8_ill_307 rfl rfl ?_
                      refine g_get (k := 35) (kz := 35) dX8_ill_308 rfl fg_X8_224 rfl rfl ?_
                      refine q_goto (tgt := 318) dX8_ill_311 rfl (by decide) ?_
                      exact g_ireturn dX8_ill_318 rfl hf
                  · exact HT_89 (by omega)
              clear hf
              refine q_aload_n dX8_ill_157 rfl rfl ?_
              refine g_get (k := 19) (kz := 19) dX8_ill_158 rfl fg_X8_163 rfl rfl ?_
              refine q_aload_n dX8_ill_161 rfl rfl ?_
              refine g_get (k := 18) (kz := 18) dX8_ill_162 rfl fg_X8_160 rfl rfl ?_
              refine q_icmp_lt (tgt := 172) dX8_ill_165 rfl (by decide) (fun c_46 => ?_) (fun c_46 => ?_)
              · refine q_aload_n dX8_ill_172 rfl rfl ?_
                refine g_get (k := 19) (kz := 19) dX8_ill_173 rfl fg_X8_163 rfl rfl ?_
                have e1 : v_45 = h_44 56 19 := by omega
                subst e1
                exact J_v_45
              · refine q_iconst dX8_ill_168 rfl rfl ?_
                refine q_goto (tgt := 176) dX8_ill_169 rfl (by decide) ?_
                have e1 : v_45 = 0 := by omega
                subst e1
                exact J_v_45
            clear hf
            refine q_iload_n dX8_ill_139 rfl rfl ?_
            refine q_aload_n dX8_ill_140 rfl rfl ?_
            refine g_get (k := 19) (kz := 19) dX8_ill_141 rfl fg_X8_163 rfl rfl ?_
            refine q_icmp_ge (tgt := 151) dX8_ill_144 rfl (by decide) (fun c_43 => ?_) (fun c_43 => ?_)
            · refine q_iconst dX8_ill_151 rfl rfl ?_
              have e1 : v_42 = 0 := by omega
              subst e1
              exact J_v_42
            · refine q_iconst dX8_ill_147 rfl rfl ?_
              refine q_goto (tgt := 152) dX8_ill_148 rfl (by decide) ?_
              have e1 : v_42 = 1 := by omega
              subst e1
              exact J_v_42
          · replace hf := it_f hf (by omega)
            refine q_bipush dX8_ill_56 rfl (by decide) ?_
            exact g_ireturn dX8_ill_58 rfl hf
        · replace hf := it_f hf (by omega)
          exact J_K_13 _ hf)
  refine q_aload_n dX8_ill_5 rfl rfl ?_
  refine q_iload_n dX8_ill_6 rfl rfl ?_
  obtain ⟨r_3, h_4, e_5, hf⟩ := bd_ex hf
  refine g_Vb (vs := [(0, i_0)]) (st := []) dX8_ill_7 rfl (S_X8_isAct X i_0 h_1) e_5 mf_X8_isAct ml_X8_148 rfl rfl rfl rfl (fun b_6 => ?_)
  refine q_if_eq (tgt := 21) dX8_ill_10 rfl (by decide) (fun c_7 => ?_) (fun c_7 => ?_)
  · replace hf := it_f hf (by omega)
    refine q_bipush dX8_ill_21 rfl (by decide) ?_
    exact J_K_2 _ _ hf
  · replace hf := it_t hf (by omega)
    refine q_aload_n dX8_ill_13 rfl rfl ?_
    refine q_iload_n dX8_ill_14 rfl rfl ?_
    obtain ⟨r_8, h_9, e_10, hf⟩ := bd_ex hf
    refine g_Vi (vs := [(0, i_0)]) (st := []) dX8_ill_15 rfl (S_X8_placeOf X i_0 h_4) e_10 mf_X8_placeOf ml_X8_154 rfl rfl rfl rfl ?_
    refine q_goto (tgt := 23) dX8_ill_18 rfl (by decide) ?_
    exact J_K_2 _ _ hf
def L_X8_hallsOf_2 (set_0 all_0 sum_0 first_6 : Int) (Kx : Int → Int → Int → Int → Int → Int → Mem → Res) : Nat → Int → Int → Int → Int → Int → Int → Mem → Res
  | 0, _, _, _, _, _, _, _ => none
  | n + 1, ones_8, others_9, kinds_10, otherKinds_11, strength_12, i_13, h_7 => if (i_13 < (h_7 56 10)) then (bd (F_X8_of i_13 0 h_7) (fun r_14 (h_15 : Mem) => nm (ishl 1 r_14) (fun kind_17 => jn (fun (K_18 : Int → Int → Int → Int → Int → Mem → Res) => if ((iand (ishr set_0 i_13) 1) = 1) then (nm (α := Int) (if ((iand kinds_10 kind_17) = 0) then 1 else 100) (fun v_19 => nm (w32 (ones_8 + v_19)) (fun ones_21 => nm (ior kinds_10 kind_17) (fun kinds_22 => bd (F_X8_of i_13 2 h_15) (fun r_23 (h_24 : Mem) => nm (w32 (strength_12 + r_23)) (fun strength_26 => K_18 ones_21 others_9 kinds_22 otherKinds_11 strength_26 h_24)))))) else (jn (fun (K_27 : Int → Int → Mem → Res) => if ((iand (ishr all_0 i_13) 1) = 1) then (nm (α := Int) (if ((iand otherKinds_11 kind_17) = 0) then 1 else 100) (fun v_28 => nm (w32 (others_9 + v_28)) (fun others_30 => nm (ior otherKinds_11 kind_17) (fun otherKinds_31 => K_27 others_30 otherKinds_31 h_15)))) else (K_27 others_9 otherKinds_11 h_15)) (fun others_34 otherKinds_35 (h_33 : Mem) => K_18 ones_8 others_34 kinds_10 otherKinds_35 strength_12 h_33))) (fun ones_38 others_39 kinds_40 otherKinds_41 strength_42 (h_37 : Mem) => nm (w32 (i_13 + 1)) (fun i_43 => L_X8_hallsOf_2 set_0 all_0 sum_0 first_6 Kx n ones_38 others_39 kinds_40 otherKinds_41 strength_42 i_43 h_37))))) else (Kx ones_8 others_9 kinds_10 otherKinds_11 strength_12 i_13 h_7)
def L_X8_hallsOf_1 (set_0 all_0 sum_0 : Int) (Kx : Int → Mem → Res) : Nat → Int → Mem → Res
  | 0, _, _ => none
  | n + 1, first_2, h_1 => if ((iand (ishr all_0 first_2) 1) = 0) then (nm (w32 (first_2 + 1)) (fun first_3 => L_X8_hallsOf_1 set_0 all_0 sum_0 Kx n first_3 h_1)) else (Kx first_2 h_1)
def F_X8_hallsOf (set_0 all_0 sum_0 : Int) (h : Mem) : Res := L_X8_hallsOf_1 set_0 all_0 sum_0 (fun first_6 (h_5 : Mem) => if ((¬ (iand set_0 (ixor all_0 (-1))) = 0) ∨ ((iand (ishr set_0 first_6) 1) = 0)) then (some ((-9), h_5)) else (L_X8_hallsOf_2 set_0 all_0 sum_0 first_6 (fun ones_46 others_47 kinds_48 otherKinds_49 strength_50 i_51 (h_45 : Mem) => jn (fun (K_52 : Mem → Res) => if (9 < ones_46) then (K_52 h_45) else (if (9 < others_47) then (K_52 h_45) else (bd (F_X8_in (w32 (ones_46 - others_47)) (-1) 1 h_45) (fun r_56 (h_57 : Mem) => if (¬ r_56 = 0) then (nm (w32 ((w32 (2 * strength_50)) - sum_0)) (fun off_61 => if (off_61 < 0) then (some (w32 (-off_61), h_57)) else (some (off_61, h_57)))) else (K_52 h_57))))) (fun (h_53 : Mem) => some ((-9), h_53))) FU 0 0 0 0 0 0 h_5)) FU 0 h
theorem SL_X8_hallsOf_2 (X : XS) (set_0 all_0 sum_0 first_6 : Int) (Kx : Int → Int → Int → Int → Int → Int → Mem → Res) {r : Int × Mem} (hK : ∀ (ones_8 others_9 kinds_10 otherKinds_11 strength_12 i_13 : Int) (h_7 : Mem), Kx ones_8 others_9 kinds_10 otherKinds_11 strength_12 i_13 h_7 = some r → AJ X MX8_hallsOf (rmD 1) 169 [(2, 56), (0, set_0), (0, all_0), (0, sum_0), (0, first_6), (0, ones_8), (0, others_9), (0, kinds_10), (0, otherKinds_11), (0, strength_12), (0, i_13), (3, 0)] [] h_7 (PH 0 r)) :
    ∀ (n : Nat) (ones_8 others_9 kinds_10 otherKinds_11 strength_12 i_13 : Int) (h_7 : Mem), L_X8_hallsOf_2 set_0 all_0 sum_0 first_6 Kx n ones_8 others_9 kinds_10 otherKinds_11 strength_12 i_13 h_7 = some r → AJ X MX8_hallsOf (rmD 1) 56 [(2, 56), (0, set_0), (0, all_0), (0, sum_0), (0, first_6), (0, ones_8), (0, others_9), (0, kinds_10), (0, otherKinds_11), (0, strength_12), (0, i_13), (3, 0)] [] h_7 (PH 0 r) := by
  intro n
  induction n with
  | zero => intro ones_8 others_9 kinds_10 otherKinds_11 strength_12 i_13 h_7 hf; cases hf
  | succ n ih =>
    intro ones_8 others_9 kinds_10 otherKinds_11 strength_12 i_13 h_7 hf
    rw [L_X8_hallsOf_2] at hf
    refine q_iload dX8_hallsOf_56 rfl rfl ?_
    refine q_aload_n dX8_hallsOf_58 rfl rfl ?_
    refine g_get (k := 10) (kz := 10) dX8_hallsOf_59 rfl fg_X8_142 rfl rfl ?_
    refine q_icmp_ge (tgt := 169) dX8_hallsOf_62 rfl (by decide) (fun c_44 => ?_) (fun c_44 => ?_)
    · replace hf := it_f hf (by omega)
      exact hK _ _ _ _ _ _ _ hf
    · replace hf := it_t hf (by omega)
      refine q_iconst dX8_hallsOf_65 rfl rfl ?_
      refine q_aload_n dX8_hallsOf_66 rfl rfl ?_
      refine q_iload dX8_hallsOf_67 rfl rfl ?_
      refine q_iconst dX8_hallsOf_69 rfl rfl ?_
      obtain ⟨r_14, h_15, e_16, hf⟩ := bd_ex hf
      refine g_Vi (vs := [(0, i_13), (0, 0)]) (st := [(0, 1)]) dX8_hallsOf_70 rfl (S_X8_of X i_13 0 h_7) e_16 mf_X8_of ml_X8_151 rfl rfl rfl rfl ?_
      refine q_ishl dX8_hallsOf_73 rfl ?_
      obtain ⟨kind_17, e_kind_17, hf⟩ := nm_ex hf
      rw [← e_kind_17]
      refine q_istore (ls' := [(2, 56), (0, set_0), (0, all_0), (0, sum_0), (0, first_6), (0, ones_8), (0, others_9), (0, kinds_10), (0, otherKinds_11), (0, strength_12), (0, i_13), (0, kind_17)]) dX8_hallsOf_74 rfl (Nat.le_of_ble_eq_true rfl) rfl ?_
      obtain ⟨K_18, J_K_18, hf⟩ := jn_ex (P := fun K => ∀ (ones_38 others_39 kinds_40 otherKinds_41 strength_42 : Int) (h_37 : Mem), K ones_38 others_39 kinds_40 otherKinds_41 strength_42 h_37 = some r → AJ X MX8_hallsOf (rmD 1) 163 [(2, 56), (0, set_0), (0, all_0), (0, sum_0), (0, first_6), (0, ones_38), (0, others_39), (0, kinds_40), (0, otherKinds_41), (0, strength_42), (0, i_13), (0, kind_17)] [] h_37 (PH 0 r)) hf (by
          intro ones_38 others_39 kinds_40 otherKinds_41 strength_42 h_37 hf
          refine q_iinc (ls' := [(2, 56), (0, set_0), (0, all_0), (0, sum_0), (0, first_6), (0, ones_38), (0, others_39), (0, kinds_40), (0, otherKinds_41), (0, strength_42), (0, w32 (i_13 + 1)), (0, kind_17)]) dX8_hallsOf_163 rfl rfl rfl ?_
          obtain ⟨i_43, e_i_43, hf⟩ := nm_ex hf
          rw [← e_i_43]
          refine q_goto (tgt := 56) dX8_hallsOf_166 rfl (by decide) ?_
          refine g_frg (ls' := [(2, 56), (0, set_0), (0, all_0), (0, sum_0), (0, first_6), (0, ones_38), (0, others_39), (0, kinds_40), (0, otherKinds_41), (0, strength_42), (0, i_43), (3, 0)]) [11] rfl ?_
          exact ih _ _ _ _ _ _ _ hf)
      refine q_iload_n dX8_hallsOf_76 rfl rfl ?_
      refine q_iload dX8_hallsOf_77 rfl rfl ?_
      refine q_ishr dX8_hallsOf_79 rfl ?_
      refine q_iconst dX8_hallsOf_80 rfl rfl ?_
      refine q_iand dX8_hallsOf_81 rfl ?_
      refine q_iconst dX8_hallsOf_82 rfl rfl ?_
      refine q_icmp_ne (tgt := 127) dX8_hallsOf_83 rfl (by decide) (fun c_36 => ?_) (fun c_36 => ?_)
      · replace hf := it_f hf (by omega)
        obtain ⟨K_27, J_K_27, hf⟩ := jn_ex (P := fun K => ∀ (others_34 otherKinds_35 : Int) (h_33 : Mem), K others_34 otherKinds_35 h_33 = some r → AJ X MX8_hallsOf (rmD 1) 163 [(2, 56), (0, set_0), (0, all_0), (0, sum_0), (0, first_6), (0, ones_8), (0, others_34), (0, kinds_10), (0, otherKinds_35), (0, strength_12), (0, i_13), (0, kind_17)] [] h_33 (PH 0 r)) hf (by
            intro others_34 otherKinds_35 h_33 hf
            exact J_K_18 _ _ _ _ _ _ hf)
        refine q_iload_n dX8_hallsOf_127 rfl rfl ?_
        refine q_iload dX8_hallsOf_128 rfl rfl ?_
        refine q_ishr dX8_hallsOf_130 rfl ?_
        refine q_iconst dX8_hallsOf_131 rfl rfl ?_
        refine q_iand dX8_hallsOf_132 rfl ?_
        refine q_iconst dX8_hallsOf_133 rfl rfl ?_
        refine q_icmp_ne (tgt := 163) dX8_hallsOf_134 rfl (by decide) (fun c_32 => ?_) (fun c_32 => ?_)
        · replace hf := it_f hf (by omega)
          exact J_K_27 _ _ _ hf
        · replace hf := it_t hf (by omega)
          refine q_iload dX8_hallsOf_137 rfl rfl ?_
          obtain ⟨v_28, e_v_28, hf⟩ := nm_ex hf
          have J_v_28 : AJ X MX8_hallsOf (rmD 1) 153 [(2, 56), (0, set_0), (0, all_0), (0, sum_0), (0, first_6), (0, ones_8), (0, others_9), (0, kinds_10), (0, otherKinds_11), (0, strength_12), (0, i_13), (0, kind_17)] [(0, v_28), (0, others_9)] h_15 (PH 0 r) := by
            refine q_iadd dX8_hallsOf_153 rfl ?_
            obtain ⟨others_30, e_others_30, hf⟩ := nm_ex hf
            rw [← e_others_30]
            refine q_istore (ls' := [(2, 56), (0, set_0), (0, all_0), (0, sum_0), (0, first_6), (0, ones_8), (0, others_30), (0, kinds_10), (0, otherKinds_11), (0, strength_12), (0, i_13), (0, kind_17)]) dX8_hallsOf_154 rfl (Nat.le_of_ble_eq_true rfl) rfl ?_
            refine q_iload dX8_hallsOf_156 rfl rfl ?_
            refine q_iload dX8_hallsOf_158 rfl rfl ?_
            refine q_ior dX8_hallsOf_160 rfl ?_
            obtain ⟨otherKinds_31, e_otherKinds_31, hf⟩ := nm_ex hf
            rw [← e_otherKinds_31]
            refine q_istore (ls' := [(2, 56), (0, set_0), (0, all_0), (0, sum_0), (0, first_6), (0, ones_8), (0, others_30), (0, kinds_10), (0, otherKinds_31), (0, strength_12), (0, i_13), (0, kind_17)]) dX8_hallsOf_161 rfl (Nat.le_of_ble_eq_true rfl) rfl ?_
            exact J_K_27 _ _ _ hf
          clear hf
          refine q_iload dX8_hallsOf_139 rfl rfl ?_
          refine q_iload dX8_hallsOf_141 rfl rfl ?_
          refine q_iand dX8_hallsOf_143 rfl ?_
          refine q_if_ne (tgt := 151) dX8_hallsOf_144 rfl (by decide) (fun c_29 => ?_) (fun c_29 => ?_)
          · refine q_bipush dX8_hallsOf_151 rfl (by decide) ?_
            have e1 : v_28 = 100 := by omega
            subst e1
            exact J_v_28
          · refine q_iconst dX8_hallsOf_147 rfl rfl ?_
            refine q_goto (tgt := 153) dX8_hallsOf_148 rfl (by decide) ?_
            have e1 : v_28 = 1 := by omega
            subst e1
            exact J_v_28
      · replace hf := it_t hf (by omega)
        refine q_iload dX8_hallsOf_86 rfl rfl ?_
        obtain ⟨v_19, e_v_19, hf⟩ := nm_ex hf
        have J_v_19 : AJ X MX8_hallsOf (rmD 1) 102 [(2, 56), (0, set_0), (0, all_0), (0, sum_0), (0, first_6), (0, ones_8), (0, others_9), (0, kinds_10), (0, otherKinds_11), (0, strength_12), (0, i_13), (0, kind_17)] [(0, v_19), (0, ones_8)] h_15 (PH 0 r) := by
          refine q_iadd dX8_hallsOf_102 rfl ?_
          obtain ⟨ones_21, e_ones_21, hf⟩ := nm_ex hf
          rw [← e_ones_21]
          refine q_istore (ls' := [(2, 56), (0, set_0), (0, all_0), (0, sum_0), (0, first_6), (0, ones_21), (0, others_9), (0, kinds_10), (0, otherKinds_11), (0, strength_12), (0, i_13), (0, kind_17)]) dX8_hallsOf_103 rfl (Nat.le_of_ble_eq_true rfl) rfl ?_
          refine q_iload dX8_hallsOf_105 rfl rfl ?_
          refine q_iload dX8_hallsOf_107 rfl rfl ?_
          refine q_ior dX8_hallsOf_109 rfl ?_
          obtain ⟨kinds_22, e_kinds_22, hf⟩ := nm_ex hf
          rw [← e_kinds_22]
          refine q_istore (ls' := [(2, 56), (0, set_0), (0, all_0), (0, sum_0), (0, first_6), (0, ones_21), (0, others_9), (0, kinds_22), (0, otherKinds_11), (0, strength_12), (0, i_13), (0, kind_17)]) dX8_hallsOf_110 rfl (Nat.le_of_ble_eq_true rfl) rfl ?_
          refine q_iload dX8_hallsOf_112 rfl rfl ?_
          refine q_aload_n dX8_hallsOf_114 rfl rfl ?_
          refine q_iload dX8_hallsOf_115 rfl rfl ?_
          refine q_iconst dX8_hallsOf_117 rfl rfl ?_
          obtain ⟨r_23, h_24, e_25, hf⟩ := bd_ex hf
          refine g_Vi (vs := [(0, i_13), (0, 2)]) (st := [(0, strength_12)]) dX8_hallsOf_118 rfl (S_X8_of X i_13 2 h_15) e_25 mf_X8_of ml_X8_151 rfl rfl rfl rfl ?_
          refine q_iadd dX8_hallsOf_121 rfl ?_
          obtain ⟨strength_26, e_strength_26, hf⟩ := nm_ex hf
          rw [← e_strength_26]
          refine q_istore (ls' := [(2, 56), (0, set_0), (0, all_0), (0, sum_0), (0, first_6), (0, ones_21), (0, others_9), (0, kinds_22), (0, otherKinds_11), (0, strength_26), (0, i_13), (0, kind_17)]) dX8_hallsOf_122 rfl (Nat.le_of_ble_eq_true rfl) rfl ?_
          refine q_goto (tgt := 163) dX8_hallsOf_124 rfl (by decide) ?_
          exact J_K_18 _ _ _ _ _ _ hf
        clear hf
        refine q_iload dX8_hallsOf_88 rfl rfl ?_
        refine q_iload dX8_hallsOf_90 rfl rfl ?_
        refine q_iand dX8_hallsOf_92 rfl ?_
        refine q_if_ne (tgt := 100) dX8_hallsOf_93 rfl (by decide) (fun c_20 => ?_) (fun c_20 => ?_)
        · refine q_bipush dX8_hallsOf_100 rfl (by decide) ?_
          have e1 : v_19 = 100 := by omega
          subst e1
          exact J_v_19
        · refine q_iconst dX8_hallsOf_96 rfl rfl ?_
          refine q_goto (tgt := 102) dX8_hallsOf_97 rfl (by decide) ?_
          have e1 : v_19 = 1 := by omega
          subst e1
          exact J_v_19
theorem SL_X8_hallsOf_1 (X : XS) (set_0 all_0 sum_0 : Int) (Kx : Int → Mem → Res) {r : Int × Mem} (hK : ∀ (first_2 : Int) (h_1 : Mem), Kx first_2 h_1 = some r → AJ X MX8_hallsOf (rmD 1) 18 [(2, 56), (0, set_0), (0, all_0), (0, sum_0), (0, first_2), (3, 0), (3, 0), (3, 0), (3, 0), (3, 0), (3, 0), (3, 0)] [] h_1 (PH 0 r)) :
    ∀ (n : Nat) (first_2 : Int) (h_1 : Mem), L_X8_hallsOf_1 set_0 all_0 sum_0 Kx n first_2 h_1 = some r → AJ X MX8_hallsOf (rmD 1) 3 [(2, 56), (0, set_0), (0, all_0), (0, sum_0), (0, first_2), (3, 0), (3, 0), (3, 0), (3, 0), (3, 0), (3, 0), (3, 0)] [] h_1 (PH 0 r) := by
  intro n
  induction n with
  | zero => intro first_2 h_1 hf; cases hf
  | succ n ih =>
    intro first_2 h_1 hf
    rw [L_X8_hallsOf_1] at hf
    refine q_iload_n dX8_hallsOf_3 rfl rfl ?_
    refine q_iload dX8_hallsOf_4 rfl rfl ?_
    refine q_ishr dX8_hallsOf_6 rfl ?_
    refine q_iconst dX8_hallsOf_7 rfl rfl ?_
    refine q_iand dX8_hallsOf_8 rfl ?_
    refine q_if_ne (tgt := 18) dX8_hallsOf_9 rfl (by decide) (fun c_4 => ?_) (fun c_4 => ?_)
    · replace hf := it_f hf (by omega)
      exact hK _ _ hf
    · replace hf := it_t hf (by omega)
      refine q_iinc (ls' := [(2, 56), (0, set_0), (0, all_0), (0, sum_0), (0, w32 (first_2 + 1)), (3, 0), (3, 0), (3, 0), (3, 0), (3, 0), (3, 0), (3, 0)]) dX8_hallsOf_12 rfl rfl rfl ?_
      obtain ⟨first_3, e_first_3, hf⟩ := nm_ex hf
      rw [← e_first_3]
      refine q_goto (tgt := 3) dX8_hallsOf_15 rfl (by decide) ?_
      exact ih _ _ hf
theorem S_X8_hallsOf (X : XS) (set_0 : Int) (all_0 : Int) (sum_0 : Int) (h : Mem) : CT X yX8_hallsOf MX8_hallsOf (some .int) 0 1 [(2, 56), (0, set_0), (0, all_0), (0, sum_0)] h (F_X8_hallsOf set_0 all_0 sum_0 h) := by
  refine CT.ofI (by decide) rfl (Nat.le_of_ble_eq_true rfl) (fun r hf => ?_)
  unfold F_X8_hallsOf at hf
  show AJ X MX8_hallsOf (rmD 1) 0 [(2, 56), (0, set_0), (0, all_0), (0, sum_0), (3, 0), (3, 0), (3, 0), (3, 0), (3, 0), (3, 0), (3, 0), (3, 0)] [] h (PH 0 r)
  refine q_iconst dX8_hallsOf_0 rfl rfl ?_
  refine q_istore (ls' := [(2, 56), (0, set_0), (0, all_0), (0, sum_0), (0, 0), (3, 0), (3, 0), (3, 0), (3, 0), (3, 0), (3, 0), (3, 0)]) dX8_hallsOf_1 rfl (Nat.le_of_ble_eq_true rfl) rfl ?_
  refine SL_X8_hallsOf_1 X set_0 all_0 sum_0  _ (fun first_6 h_5 hf => ?_) FU _ _ hf
  have HT_63 : ((¬ (iand set_0 (ixor all_0 (-1))) = 0) ∨ ((iand (ishr set_0 first_6) 1) = 0)) → AJ X MX8_hallsOf (rmD 1) 35 [(2, 56), (0, set_0), (0, all_0), (0, sum_0), (0, first_6), (3, 0), (3, 0), (3, 0), (3, 0), (3, 0), (3, 0), (3, 0)] [] h_5 (PH 0 r) := by
    intro hc
    replace hf := it_t hf hc
    refine q_bipush dX8_hallsOf_35 rfl (by decide) ?_
    exact g_ireturn dX8_hallsOf_37 rfl hf
  refine q_iload_n dX8_hallsOf_18 rfl rfl ?_
  refine q_iload_n dX8_hallsOf_19 rfl rfl ?_
  refine q_iconst dX8_hallsOf_20 rfl rfl ?_
  refine q_ixor dX8_hallsOf_21 rfl ?_
  refine q_iand dX8_hallsOf_22 rfl ?_
  refine q_if_ne (tgt := 35) dX8_hallsOf_23 rfl (by decide) (fun c_64 => ?_) (fun c_64 => ?_)
  · exact HT_63 (by omega)
  · refine q_iload_n dX8_hallsOf_26 rfl rfl ?_
    refine q_iload dX8_hallsOf_27 rfl rfl ?_
    refine q_ishr dX8_hallsOf_29 rfl ?_
    refine q_iconst dX8_hallsOf_30 rfl rfl ?_
    refine q_iand dX8_hallsOf_31 rfl ?_
    refine q_if_ne (tgt := 38) dX8_hallsOf_32 rfl (by decide) (fun c_65 => ?_) (fun c_65 => ?_)
    · replace hf := it_f hf (by omega)
      refine q_iconst dX8_hallsOf_38 rfl rfl ?_
      refine q_istore (ls' := [(2, 56), (0, set_0), (0, all_0), (0, sum_0), (0, first_6), (0, 0), (3, 0), (3, 0), (3, 0), (3, 0), (3, 0), (3, 0)]) dX8_hallsOf_39 rfl (Nat.le_of_ble_eq_true rfl) rfl ?_
      refine q_iconst dX8_hallsOf_41 rfl rfl ?_
      refine q_istore (ls' := [(2, 56), (0, set_0), (0, all_0), (0, sum_0), (0, first_6), (0, 0), (0, 0), (3, 0), (3, 0), (3, 0), (3, 0), (3, 0)]) dX8_hallsOf_42 rfl (Nat.le_of_ble_eq_true rfl) rfl ?_
      refine q_iconst dX8_hallsOf_44 rfl rfl ?_
      refine q_istore (ls' := [(2, 56), (0, set_0), (0, all_0), (0, sum_0), (0, first_6), (0, 0), (0, 0), (0, 0), (3, 0), (3, 0), (3, 0), (3, 0)]) dX8_hallsOf_45 rfl (Nat.le_of_ble_eq_true rfl) rfl ?_
      refine q_iconst dX8_hallsOf_47 rfl rfl ?_
      refine q_istore (ls' := [(2, 56), (0, set_0), (0, all_0), (0, sum_0), (0, first_6), (0, 0), (0, 0), (0, 0), (0, 0), (3, 0), (3, 0), (3, 0)]) dX8_hallsOf_48 rfl (Nat.le_of_ble_eq_true rfl) rfl ?_
      refine q_iconst dX8_hallsOf_50 rfl rfl ?_
      refine q_istore (ls' := [(2, 56), (0, set_0), (0, all_0), (0, sum_0), (0, first_6), (0, 0), (0, 0), (0, 0), (0, 0), (0, 0), (3, 0), (3, 0)]) dX8_hallsOf_51 rfl (Nat.le_of_ble_eq_true rfl) rfl ?_
      refine q_iconst dX8_hallsOf_53 rfl rfl ?_
      refine q_istore (ls' := [(2, 56), (0, set_0), (0, all_0), (0, sum_0), (0, first_6), (0, 0), (0, 0), (0, 0), (0, 0), (0, 0), (0, 0), (3, 0)]) dX8_hallsOf_54 rfl (Nat.le_of_ble_eq_true rfl) rfl ?_
      refine SL_X8_hallsOf_2 X set_0 all_0 sum_0 first_6  _ (fun ones_46 others_47 kinds_48 otherKinds_49 strength_50 i_51 h_45 hf => ?_) FU _ _ _ _ _ _ _ hf
      obtain ⟨K_52, J_K_52, hf⟩ := jn_ex (P := fun K => ∀ (h_53 : Mem), K h_53 = some r → AJ X MX8_hallsOf (rmD 1) 196 [(2, 56), (0, set_0), (0, all_0), (0, sum_0), (0, first_6), (0, ones_46), (0, others_47), (0, kinds_48), (0, otherKinds_49), (0, strength_50), (0, i_51), (3, 0)] [] h_53 (PH 0 r)) hf (by
          intro h_53 hf
          refine q_bipush dX8_hallsOf_196 rfl (by decide) ?_
          exact g_ireturn dX8_hallsOf_198 rfl hf)
      refine q_iload dX8_hallsOf_169 rfl rfl ?_
      refine q_bipush dX8_hallsOf_171 rfl (by decide) ?_
      refine q_icmp_gt (tgt := 196) dX8_hallsOf_173 rfl (by decide) (fun c_54 => ?_) (fun c_54 => ?_)
      · replace hf := it_t hf (by omega)
        exact J_K_52 _ hf
      · replace hf := it_f hf (by omega)
        refine q_iload dX8_hallsOf_176 rfl rfl ?_
        refine q_bipush dX8_hallsOf_178 rfl (by decide) ?_
        refine q_icmp_gt (tgt := 196) dX8_hallsOf_180 rfl (by decide) (fun c_55 => ?_) (fun c_55 => ?_)
        · replace hf := it_t hf (by omega)
          exact J_K_52 _ hf
        · replace hf := it_f hf (by omega)
          refine q_iload dX8_hallsOf_183 rfl rfl ?_
          refine q_iload dX8_hallsOf_185 rfl rfl ?_
          refine q_isub dX8_hallsOf_187 rfl ?_
          refine q_iconst dX8_hallsOf_188 rfl rfl ?_
          refine q_iconst dX8_hallsOf_189 rfl rfl ?_
          obtain ⟨r_56, h_57, e_58, hf⟩ := bd_ex hf
          refine g_Sb (vs := [(0, w32 (ones_46 - others_47)), (0, (-1)), (0, 1)]) (st := []) dX8_hallsOf_190 rfl (S_X8_in X (w32 (ones_46 - others_47)) (-1) 1 h_45) e_58 mf_X8_in ml_X8_72 rfl rfl rfl (fun b_59 => ?_)
          refine q_if_ne (tgt := 199) dX8_hallsOf_193 rfl (by decide) (fun c_60 => ?_) (fun c_60 => ?_)
          · replace hf := it_t hf (by omega)
            refine q_iconst dX8_hallsOf_199 rfl rfl ?_
            refine q_iload dX8_hallsOf_200 rfl rfl ?_
            refine q_imul dX8_hallsOf_202 rfl ?_
            refine q_iload_n dX8_hallsOf_203 rfl rfl ?_
            refine q_isub dX8_hallsOf_204 rfl ?_
            obtain ⟨off_61, e_off_61, hf⟩ := nm_ex hf
            rw [← e_off_61]
            refine q_istore (ls' := [(2, 56), (0, set_0), (0, all_0), (0, sum_0), (0, first_6), (0, ones_46), (0, others_47), (0, kinds_48), (0, otherKinds_49), (0, strength_50), (0, off_61), (3, 0)]) dX8_hallsOf_205 rfl (Nat.le_of_ble_eq_true rfl) rfl ?_
            refine q_iload dX8_hallsOf_207 rfl rfl ?_
            refine q_if_ge (tgt := 218) dX8_hallsOf_209 rfl (by decide) (fun c_62 => ?_) (fun c_62 => ?_)
            · replace hf := it_f hf (by omega)
              refine q_iload dX8_hallsOf_218 rfl rfl ?_
              exact g_ireturn dX8_hallsOf_220 rfl hf
            · replace hf := it_t hf (by omega)
              refine q_iload dX8_hallsOf_212 rfl rfl ?_
              refine q_ineg dX8_hallsOf_214 rfl ?_
              refine q_goto (tgt := 220) dX8_hallsOf_215 rfl (by decide) ?_
              exact g_ireturn dX8_hallsOf_220 rfl hf
          · replace hf := it_f hf (by omega)
            exact J_K_52 _ hf
    · exact HT_63 (by omega)
def L_X8_halves_2 (what_0 all_20 sum_21 : Int) (Kx : Int → Int → Int → Mem → Res) : Nat → Int → Int → Int → Mem → Res
  | 0, _, _, _, _ => none
  | n + 1, best_24, least_25, set_26, h_23 => if (set_26 ≤ all_20) then (bd (F_X8_hallsOf set_26 all_20 sum_21 h_23) (fun r_27 (h_28 : Mem) => jn (fun (K_30 : Int → Int → Mem → Res) => if ((¬ r_27 = (-9)) ∧ ((best_24 = (-9)) ∨ (r_27 < least_25))) then (K_30 set_26 r_27 h_28) else (K_30 best_24 least_25 h_28)) (fun best_37 least_38 (h_36 : Mem) => nm (w32 (set_26 + 1)) (fun set_39 => L_X8_halves_2 what_0 all_20 sum_21 Kx n best_37 least_38 set_39 h_36)))) else (Kx best_24 least_25 set_26 h_23)
def L_X8_halves_1 (what_0 : Int) (Kx : Int → Int → Int → Mem → Res) : Nat → Int → Int → Int → Mem → Res
  | 0, _, _, _, _ => none
  | n + 1, all_8, sum_9, p_10, h_7 => if (p_10 < (h_7 61 0)) then (gd (0 ≤ (w32 (3 + p_10)) ∧ (w32 (3 + p_10)) < 12) (nm (ior all_8 (ishl 1 (h_7 61 (w32 (3 + p_10))))) (fun all_12 => bd (F_X8_of (h_7 61 (w32 (3 + p_10))) 2 h_7) (fun r_13 (h_14 : Mem) => nm (w32 (sum_9 + r_13)) (fun sum_16 => nm (w32 (p_10 + 1)) (fun p_17 => L_X8_halves_1 what_0 Kx n all_12 sum_16 p_17 h_14)))))) else (Kx all_8 sum_9 p_10 h_7)
def F_X8_halves (what_0 : Int) (h : Mem) : Res := nm (wr h 56 0 0) (fun (h_1 : Mem) => bd (F_X8_in what_0 0 1 h_1) (fun r_2 (h_3 : Mem) => if (¬ r_2 = 0) then (if ((h_3 61 0) < 2) then (some ((-2), h_3)) else (L_X8_halves_1 what_0 (fun all_20 sum_21 p_22 (h_19 : Mem) => L_X8_halves_2 what_0 all_20 sum_21 (fun best_42 least_43 set_44 (h_41 : Mem) => if (what_0 = 0) then (some (best_42, h_41)) else (some (least_43, h_41))) FU (-9) (-9) 1 h_19) FU 0 0 0 h_3)) else (some ((-1), h_3))))
theorem SL_X8_halves_2 (X : XS) (what_0 all_20 sum_21 : Int) (Kx : Int → Int → Int → Mem → Res) {r : Int × Mem} (hK : ∀ (best_24 least_25 set_26 : Int) (h_23 : Mem), Kx best_24 least_25 set_26 h_23 = some r → AJ X MX8_halves (rmD 2) 146 [(2, 56), (0, what_0), (0, all_20), (0, sum_21), (0, best_24), (0, least_25), (0, set_26), (3, 0)] [] h_23 (PH 0 r)) :
    ∀ (n : Nat) (best_24 least_25 set_26 : Int) (h_23 : Mem), L_X8_halves_2 what_0 all_20 sum_21 Kx n best_24 least_25 set_26 h_23 = some r → AJ X MX8_halves (rmD 2) 95 [(2, 56), (0, what_0), (0, all_20), (0, sum_21), (0, best_24), (0, least_25), (0, set_26), (3, 0)] [] h_23 (PH 0 r) := by
  intro n
  induction n with
  | zero => intro best_24 least_25 set_26 h_23 hf; cases hf
  | succ n ih =>
    intro best_24 least_25 set_26 h_23 hf
    rw [L_X8_halves_2] at hf
    refine q_iload dX8_halves_95 rfl rfl ?_
    refine q_iload_n dX8_halves_97 rfl rfl ?_
    refine q_icmp_gt (tgt := 146) dX8_halves_98 rfl (by decide) (fun c_40 => ?_) (fun c_40 => ?_)
    · replace hf := it_f hf (by omega)
      exact hK _ _ _ _ hf
    · replace hf := it_t hf (by omega)
      refine q_aload_n dX8_halves_101 rfl rfl ?_
      refine q_iload dX8_halves_102 rfl rfl ?_
      refine q_iload_n dX8_halves_104 rfl rfl ?_
      refine q_iload_n dX8_halves_105 rfl rfl ?_
      obtain ⟨r_27, h_28, e_29, hf⟩ := bd_ex hf
      refine g_Vi (vs := [(0, set_26), (0, all_20), (0, sum_21)]) (st := []) dX8_halves_106 rfl (S_X8_hallsOf X set_26 all_20 sum_21 h_23) e_29 mf_X8_hallsOf ml_X8_242 rfl rfl rfl rfl ?_
      refine q_istore (ls' := [(2, 56), (0, what_0), (0, all_20), (0, sum_21), (0, best_24), (0, least_25), (0, set_26), (0, r_27)]) dX8_halves_109 rfl (Nat.le_of_ble_eq_true rfl) rfl ?_
      obtain ⟨K_30, J_K_30, hf⟩ := jn_ex (P := fun K => ∀ (best_37 least_38 : Int) (h_36 : Mem), K best_37 least_38 h_36 = some r → AJ X MX8_halves (rmD 2) 140 [(2, 56), (0, what_0), (0, all_20), (0, sum_21), (0, best_37), (0, least_38), (0, set_26), (0, r_27)] [] h_36 (PH 0 r)) hf (by
          intro best_37 least_38 h_36 hf
          refine q_iinc (ls' := [(2, 56), (0, what_0), (0, all_20), (0, sum_21), (0, best_37), (0, least_38), (0, w32 (set_26 + 1)), (0, r_27)]) dX8_halves_140 rfl rfl rfl ?_
          obtain ⟨set_39, e_set_39, hf⟩ := nm_ex hf
          rw [← e_set_39]
          refine q_goto (tgt := 95) dX8_halves_143 rfl (by decide) ?_
          refine g_frg (ls' := [(2, 56), (0, what_0), (0, all_20), (0, sum_21), (0, best_37), (0, least_38), (0, set_39), (3, 0)]) [7] rfl ?_
          exact ih _ _ _ _ hf)
      have HT_31 : ((¬ r_27 = (-9)) ∧ ((best_24 = (-9)) ∨ (r_27 < least_25))) → AJ X MX8_halves (rmD 2) 132 [(2, 56), (0, what_0), (0, all_20), (0, sum_21), (0, best_24), (0, least_25), (0, set_26), (0, r_27)] [] h_28 (PH 0 r) := by
        intro hc
        replace hf := it_t hf hc
        refine q_iload dX8_halves_132 rfl rfl ?_
        refine q_istore (ls' := [(2, 56), (0, what_0), (0, all_20), (0, sum_21), (0, set_26), (0, least_25), (0, set_26), (0, r_27)]) dX8_halves_134 rfl (Nat.le_of_ble_eq_true rfl) rfl ?_
        refine q_iload dX8_halves_136 rfl rfl ?_
        refine q_istore (ls' := [(2, 56), (0, what_0), (0, all_20), (0, sum_21), (0, set_26), (0, r_27), (0, set_26), (0, r_27)]) dX8_halves_138 rfl (Nat.le_of_ble_eq_true rfl) rfl ?_
        exact J_K_30 _ _ _ hf
      have HF_32 : ¬ ((¬ r_27 = (-9)) ∧ ((best_24 = (-9)) ∨ (r_27 < least_25))) → AJ X MX8_halves (rmD 2) 140 [(2, 56), (0, what_0), (0, all_20), (0, sum_21), (0, best_24), (0, least_25), (0, set_26), (0, r_27)] [] h_28 (PH 0 r) := by
        intro hc
        replace hf := it_f hf hc
        exact J_K_30 _ _ _ hf
      refine q_iload dX8_halves_111 rfl rfl ?_
      refine q_bipush dX8_halves_113 rfl (by decide) ?_
      refine q_icmp_eq (tgt := 140) dX8_halves_115 rfl (by decide) (fun c_33 => ?_) (fun c_33 => ?_)
      · exact HF_32 (by omega)
      · refine q_iload dX8_halves_118 rfl rfl ?_
        refine q_bipush dX8_halves_120 rfl (by decide) ?_
        refine q_icmp_eq (tgt := 132) dX8_halves_122 rfl (by decide) (fun c_34 => ?_) (fun c_34 => ?_)
        · exact HT_31 (by omega)
        · refine q_iload dX8_halves_125 rfl rfl ?_
          refine q_iload dX8_halves_127 rfl rfl ?_
          refine q_icmp_ge (tgt := 140) dX8_halves_129 rfl (by decide) (fun c_35 => ?_) (fun c_35 => ?_)
          · exact HF_32 (by omega)
          · exact HT_31 (by omega)
theorem SL_X8_halves_1 (X : XS) (what_0 : Int) (Kx : Int → Int → Int → Mem → Res) {r : Int × Mem} (hK : ∀ (all_8 sum_9 p_10 : Int) (h_7 : Mem), Kx all_8 sum_9 p_10 h_7 = some r → AJ X MX8_halves (rmD 2) 84 [(2, 56), (0, what_0), (0, all_8), (0, sum_9), (0, p_10), (3, 0), (3, 0), (3, 0)] [] h_7 (PH 0 r)) :
    ∀ (n : Nat) (all_8 sum_9 p_10 : Int) (h_7 : Mem), L_X8_halves_1 what_0 Kx n all_8 sum_9 p_10 h_7 = some r → AJ X MX8_halves (rmD 2) 36 [(2, 56), (0, what_0), (0, all_8), (0, sum_9), (0, p_10), (3, 0), (3, 0), (3, 0)] [] h_7 (PH 0 r) := by
  intro n
  induction n with
  | zero => intro all_8 sum_9 p_10 h_7 hf; cases hf
  | succ n ih =>
    intro all_8 sum_9 p_10 h_7 hf
    rw [L_X8_halves_1] at hf
    refine q_iload dX8_halves_36 rfl rfl ?_
    refine q_aload_n dX8_halves_38 rfl rfl ?_
    refine g_getF (k := 14) (o := 5) (z := 61) dX8_halves_39 rfl fg_X8_22 rfl rfl rfl ?_
    refine q_iconst dX8_halves_42 rfl rfl ?_
    refine q_iaload dX8_halves_43 rfl rfl (by decide) ?_
    refine q_icmp_ge (tgt := 84) dX8_halves_44 rfl (by decide) (fun c_18 => ?_) (fun c_18 => ?_)
    · replace hf := it_f hf (by omega)
      exact hK _ _ _ _ hf
    · replace hf := it_t hf (by omega)
      refine q_iload_n dX8_halves_47 rfl rfl ?_
      refine q_iconst dX8_halves_48 rfl rfl ?_
      refine q_aload_n dX8_halves_49 rfl rfl ?_
      refine g_getF (k := 14) (o := 5) (z := 61) dX8_halves_50 rfl fg_X8_22 rfl rfl rfl ?_
      refine q_iconst dX8_halves_53 rfl rfl ?_
      refine q_iload dX8_halves_54 rfl rfl ?_
      refine q_iadd dX8_halves_56 rfl ?_
      obtain ⟨g_11, hf⟩ := gd_ex hf
      refine q_iaload dX8_halves_57 rfl rfl g_11 ?_
      refine q_ishl dX8_halves_58 rfl ?_
      refine q_ior dX8_halves_59 rfl ?_
      obtain ⟨all_12, e_all_12, hf⟩ := nm_ex hf
      rw [← e_all_12]
      refine q_istore_n (ls' := [(2, 56), (0, what_0), (0, all_12), (0, sum_9), (0, p_10), (3, 0), (3, 0), (3, 0)]) dX8_halves_60 rfl rfl (Nat.le_of_ble_eq_true rfl) rfl ?_
      refine q_iload_n dX8_halves_61 rfl rfl ?_
      refine q_aload_n dX8_halves_62 rfl rfl ?_
      refine q_aload_n dX8_halves_63 rfl rfl ?_
      refine g_getF (k := 14) (o := 5) (z := 61) dX8_halves_64 rfl fg_X8_22 rfl rfl rfl ?_
      refine q_iconst dX8_halves_67 rfl rfl ?_
      refine q_iload dX8_halves_68 rfl rfl ?_
      refine q_iadd dX8_halves_70 rfl ?_
      refine q_iaload dX8_halves_71 rfl rfl g_11 ?_
      refine q_iconst dX8_halves_72 rfl rfl ?_
      obtain ⟨r_13, h_14, e_15, hf⟩ := bd_ex hf
      refine g_Vi (vs := [(0, h_7 61 (w32 (3 + p_10))), (0, 2)]) (st := [(0, sum_9)]) dX8_halves_73 rfl (S_X8_of X (h_7 61 (w32 (3 + p_10))) 2 h_7) e_15 mf_X8_of ml_X8_151 rfl rfl rfl rfl ?_
      refine q_iadd dX8_halves_76 rfl ?_
      obtain ⟨sum_16, e_sum_16, hf⟩ := nm_ex hf
      rw [← e_sum_16]
      refine q_istore_n (ls' := [(2, 56), (0, what_0), (0, all_12), (0, sum_16), (0, p_10), (3, 0), (3, 0), (3, 0)]) dX8_halves_77 rfl rfl (Nat.le_of_ble_eq_true rfl) rfl ?_
      refine q_iinc (ls' := [(2, 56), (0, what_0), (0, all_12), (0, sum_16), (0, w32 (p_10 + 1)), (3, 0), (3, 0), (3, 0)]) dX8_halves_78 rfl rfl rfl ?_
      obtain ⟨p_17, e_p_17, hf⟩ := nm_ex hf
      rw [← e_p_17]
      refine q_goto (tgt := 36) dX8_halves_81 rfl (by decide) ?_
      exact ih _ _ _ _ hf
theorem S_X8_halves (X : XS) (what_0 : Int) (h : Mem) : CT X yX8_halves MX8_halves (some .int) 0 2 [(2, 56), (0, what_0)] h (F_X8_halves what_0 h) := by
  refine CT.ofI (by decide) rfl (Nat.le_of_ble_eq_true rfl) (fun r hf => ?_)
  unfold F_X8_halves at hf
  show AJ X MX8_halves (rmD 2) 0 [(2, 56), (0, what_0), (3, 0), (3, 0), (3, 0), (3, 0), (3, 0), (3, 0)] [] h (PH 0 r)
  refine q_aload_n dX8_halves_0 rfl rfl ?_
  refine q_iconst dX8_halves_1 rfl rfl ?_
  refine g_put (k := 0) (kz := 0) dX8_halves_2 rfl fp_X8_68 rfl (fun q => q.1 rfl) rfl ?_
  obtain ⟨h_1, e_h_1, hf⟩ := nm_ex hf
  rw [← e_h_1]
  refine q_iload_n dX8_halves_5 rfl rfl ?_
  refine q_iconst dX8_halves_6 rfl rfl ?_
  refine q_iconst dX8_halves_7 rfl rfl ?_
  obtain ⟨r_2, h_3, e_4, hf⟩ := bd_ex hf
  refine g_Sb (vs := [(0, what_0), (0, 0), (0, 1)]) (st := []) dX8_halves_8 rfl (S_X8_in X what_0 0 1 h_1) e_4 mf_X8_in ml_X8_72 rfl rfl rfl (fun b_5 => ?_)
  refine q_if_ne (tgt := 16) dX8_halves_11 rfl (by decide) (fun c_6 => ?_) (fun c_6 => ?_)
  · replace hf := it_t hf (by omega)
    refine q_aload_n dX8_halves_16 rfl rfl ?_
    refine g_getF (k := 14) (o := 5) (z := 61) dX8_halves_17 rfl fg_X8_22 rfl rfl rfl ?_
    refine q_iconst dX8_halves_20 rfl rfl ?_
    refine q_iaload dX8_halves_21 rfl rfl (by decide) ?_
    refine q_iconst dX8_halves_22 rfl rfl ?_
    refine q_icmp_ge (tgt := 29) dX8_halves_23 rfl (by decide) (fun c_46 => ?_) (fun c_46 => ?_)
    · replace hf := it_f hf (by omega)
      refine q_iconst dX8_halves_29 rfl rfl ?_
      refine q_istore_n (ls' := [(2, 56), (0, what_0), (0, 0), (3, 0), (3, 0), (3, 0), (3, 0), (3, 0)]) dX8_halves_30 rfl rfl (Nat.le_of_ble_eq_true rfl) rfl ?_
      refine q_iconst dX8_halves_31 rfl rfl ?_
      refine q_istore_n (ls' := [(2, 56), (0, what_0), (0, 0), (0, 0), (3, 0), (3, 0), (3, 0), (3, 0)]) dX8_halves_32 rfl rfl (Nat.le_of_ble_eq_true rfl) rfl ?_
      refine q_iconst dX8_halves_33 rfl rfl ?_
      refine q_istore (ls' := [(2, 56), (0, what_0), (0, 0), (0, 0), (0, 0), (3, 0), (3, 0), (3, 0)]) dX8_halves_34 rfl (Nat.le_of_ble_eq_true rfl) rfl ?_
      refine SL_X8_halves_1 X what_0  _ (fun all_20 sum_21 p_22 h_19 hf => ?_) FU _ _ _ _ hf
      refine q_bipush dX8_halves_84 rfl (by decide) ?_
      refine q_istore (ls' := [(2, 56), (0, what_0), (0, all_20), (0, sum_21), (0, (-9)), (3, 0), (3, 0), (3, 0)]) dX8_halves_86 rfl (Nat.le_of_ble_eq_true rfl) rfl ?_
      refine q_bipush dX8_halves_88 rfl (by decide) ?_
      refine q_istore (ls' := [(2, 56), (0, what_0), (0, all_20), (0, sum_21), (0, (-9)), (0, (-9)), (3, 0), (3, 0)]) dX8_halves_90 rfl (Nat.le_of_ble_eq_true rfl) rfl ?_
      refine q_iconst dX8_halves_92 rfl rfl ?_
      refine q_istore (ls' := [(2, 56), (0, what_0), (0, all_20), (0, sum_21), (0, (-9)), (0, (-9)), (0, 1), (3, 0)]) dX8_halves_93 rfl (Nat.le_of_ble_eq_true rfl) rfl ?_
      refine SL_X8_halves_2 X what_0 all_20 sum_21  _ (fun best_42 least_43 set_44 h_41 hf => ?_) FU _ _ _ _ hf
      refine q_iload_n dX8_halves_146 rfl rfl ?_
      refine q_if_ne (tgt := 155) dX8_halves_147 rfl (by decide) (fun c_45 => ?_) (fun c_45 => ?_)
      · replace hf := it_f hf (by omega)
        refine q_iload dX8_halves_155 rfl rfl ?_
        exact g_ireturn dX8_halves_157 rfl hf
      · replace hf := it_t hf (by omega)
        refine q_iload dX8_halves_150 rfl rfl ?_
        refine q_goto (tgt := 157) dX8_halves_152 rfl (by decide) ?_
        exact g_ireturn dX8_halves_157 rfl hf
    · replace hf := it_t hf (by omega)
      refine q_bipush dX8_halves_26 rfl (by decide) ?_
      exact g_ireturn dX8_halves_28 rfl hf
  · replace hf := it_f hf (by omega)
    refine q_iconst dX8_halves_14 rfl rfl ?_
    exact g_ireturn dX8_halves_15 rfl hf
def L_X8_tryout_3 (kind_0 minutes_0 strength_0 what_0 best_37 most_38 at_39 : Int) (Kx : Int → Mem → Res) : Nat → Int → Mem → Res
  | 0, _, _ => none
  | n + 1, p_45, h_44 => if (p_45 < (h_44 56 18)) then (jn (fun (K_46 : Int → Mem → Res) => if (p_45 = at_39) then (K_46 9 h_44) else (nm (α := Int) (if (p_45 < at_39) then p_45 else (w32 (p_45 - 1))) (fun v_47 => gd (0 ≤ (w32 (3 + v_47)) ∧ (w32 (3 + v_47)) < 12) (K_46 (h_44 61 (w32 (3 + v_47))) h_44)))) (fun v_52 (h_51 : Mem) => gd (0 ≤ p_45 ∧ p_45 < 10) (nm (wr h_51 64 p_45 v_52) (fun (h_54 : Mem) => nm (w32 (p_45 + 1)) (fun p_55 => L_X8_tryout_3 kind_0 minutes_0 strength_0 what_0 best_37 most_38 at_39 Kx n p_55 h_54))))) else (Kx p_45 h_44)
def L_X8_tryout_2 (kind_0 minutes_0 strength_0 what_0 : Int) (Kx : Int → Int → Int → Mem → Res) : Nat → Int → Int → Int → Mem → Res
  | 0, _, _, _, _ => none
  | n + 1, best_37, most_38, at_39, h_36 => if (at_39 ≤ (h_36 61 0)) then (nm (wr h_36 56 18 (w32 ((h_36 61 0) + 1))) (fun (h_40 : Mem) => nm (α := Int) (if (at_39 < (h_40 61 1)) then (w32 ((h_40 61 1) + 1)) else (h_40 61 1)) (fun v_41 => nm (wr h_40 56 19 v_41) (fun (h_43 : Mem) => L_X8_tryout_3 kind_0 minutes_0 strength_0 what_0 best_37 most_38 at_39 (fun p_58 (h_57 : Mem) => jn (fun (K_59 : Int → Mem → Res) => bd (F_X8_isStaged  h_57) (fun r_60 (h_61 : Mem) => if (¬ r_60 = 0) then (bd (F_X8_nightOf 0 h_61) (fun r_65 (h_66 : Mem) => K_59 r_65 h_66)) else (K_59 (-9) h_61))) (fun v_69 (h_68 : Mem) => nm (α := Int) (if (most_38 < v_69) then at_39 else best_37) (fun v_70 => nm (α := Int) (if (most_38 < v_69) then v_69 else most_38) (fun v_72 => nm (w32 (at_39 + 1)) (fun at_74 => L_X8_tryout_2 kind_0 minutes_0 strength_0 what_0 Kx n v_70 v_72 at_74 h_68))))) FU 0 h_43)))) else (Kx best_37 most_38 at_39 h_36)
def L_X8_tryout_1 (kind_0 minutes_0 strength_0 what_0 : Int) (Kx : Int → Mem → Res) : Nat → Int → Mem → Res
  | 0, _, _ => none
  | n + 1, k_25, h_24 => if (k_25 < 9) then (nm (α := Int) (if (k_25 = 0) then kind_0 else (if (k_25 = 1) then minutes_0 else (if (k_25 = 2) then strength_0 else 0))) (fun v_26 => gd (0 ≤ (w32 (81 + k_25)) ∧ (w32 (81 + k_25)) < 180) (nm (wr h_24 58 (w32 (81 + k_25)) v_26) (fun (h_31 : Mem) => nm (w32 (k_25 + 1)) (fun k_32 => L_X8_tryout_1 kind_0 minutes_0 strength_0 what_0 Kx n k_32 h_31))))) else (Kx k_25 h_24)
def F_X8_tryout (kind_0 minutes_0 strength_0 what_0 : Int) (h : Mem) : Res := nm (wr h 56 0 0) (fun (h_1 : Mem) => jn (fun (K_2 : Mem → Res) => bd (F_X8_in kind_0 0 5 h_1) (fun r_4 (h_5 : Mem) => if (¬ r_4 = 0) then (bd (F_X8_in minutes_0 1 30 h_5) (fun r_9 (h_10 : Mem) => if (¬ r_9 = 0) then (bd (F_X8_in strength_0 0 30 h_10) (fun r_14 (h_15 : Mem) => if (¬ r_14 = 0) then (bd (F_X8_in what_0 0 1 h_15) (fun r_19 (h_20 : Mem) => if (¬ r_19 = 0) then (L_X8_tryout_1 kind_0 minutes_0 strength_0 what_0 (fun k_35 (h_34 : Mem) => L_X8_tryout_2 kind_0 minutes_0 strength_0 what_0 (fun best_77 most_78 at_79 (h_76 : Mem) => if (what_0 = 0) then (some (best_77, h_76)) else (some (most_78, h_76))) FU (-9) (-9) 0 h_34) FU 0 h_20) else (K_2 h_20))) else (K_2 h_15))) else (K_2 h_10))) else (K_2 h_5))) (fun (h_3 : Mem) => some ((-1), h_3)))
theorem SL_X8_tryout_3 (X : XS) (kind_0 minutes_0 strength_0 what_0 best_37 most_38 at_39 : Int) (Kx : Int → Mem → Res) {r : Int × Mem} (hK : ∀ (p_45 : Int) (h_44 : Mem), Kx p_45 h_44 = some r → AJ X MX8_tryout (rmD 5) 228 [(2, 56), (0, kind_0), (0, minutes_0), (0, strength_0), (0, what_0), (0, best_37), (0, most_38), (0, at_39), (0, p_45)] [] h_44 (PH 0 r)) :
    ∀ (n : Nat) (p_45 : Int) (h_44 : Mem), L_X8_tryout_3 kind_0 minutes_0 strength_0 what_0 best_37 most_38 at_39 Kx n p_45 h_44 = some r → AJ X MX8_tryout (rmD 5) 171 [(2, 56), (0, kind_0), (0, minutes_0), (0, strength_0), (0, what_0), (0, best_37), (0, most_38), (0, at_39), (0, p_45)] [] h_44 (PH 0 r) := by
  intro n
  induction n with
  | zero => intro p_45 h_44 hf; cases hf
  | succ n ih =>
    intro p_45 h_44 hf
    rw [L_X8_tryout_3] at hf
    refine q_iload dX8_tryout_171 rfl rfl ?_
    refine q_aload_n dX8_tryout_173 rfl rfl ?_
    refine g_get (k := 18) (kz := 18) dX8_tryout_174 rfl fg_X8_160 rfl rfl ?_
    refine q_icmp_ge (tgt := 228) dX8_tryout_177 rfl (by decide) (fun c_56 => ?_) (fun c_56 => ?_)
    · replace hf := it_f hf (by omega)
      exact hK _ _ hf
    · replace hf := it_t hf (by omega)
      refine q_aload_n dX8_tryout_180 rfl rfl ?_
      refine g_getF (k := 17) (o := 8) (z := 64) dX8_tryout_181 rfl fg_X8_32 rfl rfl rfl ?_
      refine q_iload dX8_tryout_184 rfl rfl ?_
      obtain ⟨K_46, J_K_46, hf⟩ := jn_ex (P := fun K => ∀ (v_52 : Int) (h_51 : Mem), K v_52 h_51 = some r → AJ X MX8_tryout (rmD 5) 221 [(2, 56), (0, kind_0), (0, minutes_0), (0, strength_0), (0, what_0), (0, best_37), (0, most_38), (0, at_39), (0, p_45)] [(0, v_52), (0, p_45), (2, 64)] h_51 (PH 0 r)) hf (by
          intro v_52 h_51 hf
          obtain ⟨g_53, hf⟩ := gd_ex hf
          refine q_iastore dX8_tryout_221 rfl rfl g_53 ?_
          obtain ⟨h_54, e_h_54, hf⟩ := nm_ex hf
          rw [← e_h_54]
          refine q_iinc (ls' := [(2, 56), (0, kind_0), (0, minutes_0), (0, strength_0), (0, what_0), (0, best_37), (0, most_38), (0, at_39), (0, w32 (p_45 + 1))]) dX8_tryout_222 rfl rfl rfl ?_
          obtain ⟨p_55, e_p_55, hf⟩ := nm_ex hf
          rw [← e_p_55]
          refine q_goto (tgt := 171) dX8_tryout_225 rfl (by decide) ?_
          exact ih _ _ hf)
      refine q_iload dX8_tryout_186 rfl rfl ?_
      refine q_iload dX8_tryout_188 rfl rfl ?_
      refine q_icmp_ne (tgt := 198) dX8_tryout_190 rfl (by decide) (fun c_50 => ?_) (fun c_50 => ?_)
      · replace hf := it_f hf (by omega)
        refine q_aload_n dX8_tryout_198 rfl rfl ?_
        refine g_getF (k := 14) (o := 5) (z := 61) dX8_tryout_199 rfl fg_X8_22 rfl rfl rfl ?_
        refine q_iconst dX8_tryout_202 rfl rfl ?_
        obtain ⟨v_47, e_v_47, hf⟩ := nm_ex hf
        have J_v_47 : AJ X MX8_tryout (rmD 5) 219 [(2, 56), (0, kind_0), (0, minutes_0), (0, strength_0), (0, what_0), (0, best_37), (0, most_38), (0, at_39), (0, p_45)] [(0, v_47), (0, 3), (2, 61), (0, p_45), (2, 64)] h_44 (PH 0 r) := by
          refine q_iadd dX8_tryout_219 rfl ?_
          obtain ⟨g_49, hf⟩ := gd_ex hf
          refine q_iaload dX8_tryout_220 rfl rfl g_49 ?_
          exact J_K_46 _ _ hf
        clear hf
        refine q_iload dX8_tryout_203 rfl rfl ?_
        refine q_iload dX8_tryout_205 rfl rfl ?_
        refine q_icmp_ge (tgt := 215) dX8_tryout_207 rfl (by decide) (fun c_48 => ?_) (fun c_48 => ?_)
        · refine q_iload dX8_tryout_215 rfl rfl ?_
          refine q_iconst dX8_tryout_217 rfl rfl ?_
          refine q_isub dX8_tryout_218 rfl ?_
          have e1 : v_47 = w32 (p_45 - 1) := by omega
          subst e1
          exact J_v_47
        · refine q_iload dX8_tryout_210 rfl rfl ?_
          refine q_goto (tgt := 219) dX8_tryout_212 rfl (by decide) ?_
          have e1 : v_47 = p_45 := by omega
          subst e1
          exact J_v_47
      · replace hf := it_t hf (by omega)
        refine q_bipush dX8_tryout_193 rfl (by decide) ?_
        refine q_goto (tgt := 221) dX8_tryout_195 rfl (by decide) ?_
        exact J_K_46 _ _ hf
theorem SL_X8_tryout_2 (X : XS) (kind_0 minutes_0 strength_0 what_0 : Int) (Kx : Int → Int → Int → Mem → Res) {r : Int × Mem} (hK : ∀ (best_37 most_38 at_39 : Int) (h_36 : Mem), Kx best_37 most_38 at_39 h_36 = some r → AJ X MX8_tryout (rmD 5) 285 [(2, 56), (0, kind_0), (0, minutes_0), (0, strength_0), (0, what_0), (0, best_37), (0, most_38), (0, at_39), (3, 0)] [] h_36 (PH 0 r)) :
    ∀ (n : Nat) (best_37 most_38 at_39 : Int) (h_36 : Mem), L_X8_tryout_2 kind_0 minutes_0 strength_0 what_0 Kx n best_37 most_38 at_39 h_36 = some r → AJ X MX8_tryout (rmD 5) 113 [(2, 56), (0, kind_0), (0, minutes_0), (0, strength_0), (0, what_0), (0, best_37), (0, most_38), (0, at_39), (3, 0)] [] h_36 (PH 0 r) := by
  intro n
  induction n with
  | zero => intro best_37 most_38 at_39 h_36 hf; cases hf
  | succ n ih =>
    intro best_37 most_38 at_39 h_36 hf
    rw [L_X8_tryout_2] at hf
    refine q_iload dX8_tryout_113 rfl rfl ?_
    refine q_aload_n dX8_tryout_115 rfl rfl ?_
    refine g_getF (k := 14) (o := 5) (z := 61) dX8_tryout_116 rfl fg_X8_22 rfl rfl rfl ?_
    refine q_iconst dX8_tryout_119 rfl rfl ?_
    refine q_iaload dX8_tryout_120 rfl rfl (by decide) ?_
    refine q_icmp_gt (tgt := 285) dX8_tryout_121 rfl (by decide) (fun c_75 => ?_) (fun c_75 => ?_)
    · replace hf := it_f hf (by omega)
      exact hK _ _ _ _ hf
    · replace hf := it_t hf (by omega)
      refine q_aload_n dX8_tryout_124 rfl rfl ?_
      refine q_aload_n dX8_tryout_125 rfl rfl ?_
      refine g_getF (k := 14) (o := 5) (z := 61) dX8_tryout_126 rfl fg_X8_22 rfl rfl rfl ?_
      refine q_iconst dX8_tryout_129 rfl rfl ?_
      refine q_iaload dX8_tryout_130 rfl rfl (by decide) ?_
      refine q_iconst dX8_tryout_131 rfl rfl ?_
      refine q_iadd dX8_tryout_132 rfl ?_
      refine g_put (k := 18) (kz := 18) dX8_tryout_133 rfl fp_X8_160 rfl (fun q => q.1 rfl) rfl ?_
      obtain ⟨h_40, e_h_40, hf⟩ := nm_ex hf
      rw [← e_h_40]
      refine q_aload_n dX8_tryout_136 rfl rfl ?_
      obtain ⟨v_41, e_v_41, hf⟩ := nm_ex hf
      have J_v_41 : AJ X MX8_tryout (rmD 5) 165 [(2, 56), (0, kind_0), (0, minutes_0), (0, strength_0), (0, what_0), (0, best_37), (0, most_38), (0, at_39), (3, 0)] [(0, v_41), (2, 56)] h_40 (PH 0 r) := by
        refine g_put (k := 19) (kz := 19) dX8_tryout_165 rfl fp_X8_163 rfl (fun q => q.1 rfl) rfl ?_
        obtain ⟨h_43, e_h_43, hf⟩ := nm_ex hf
        rw [← e_h_43]
        refine q_iconst dX8_tryout_168 rfl rfl ?_
        refine q_istore (ls' := [(2, 56), (0, kind_0), (0, minutes_0), (0, strength_0), (0, what_0), (0, best_37), (0, most_38), (0, at_39), (0, 0)]) dX8_tryout_169 rfl (Nat.le_of_ble_eq_true rfl) rfl ?_
        refine SL_X8_tryout_3 X kind_0 minutes_0 strength_0 what_0 best_37 most_38 at_39  _ (fun p_58 h_57 hf => ?_) FU _ _ hf
        obtain ⟨K_59, J_K_59, hf⟩ := jn_ex (P := fun K => ∀ (v_69 : Int) (h_68 : Mem), K v_69 h_68 = some r → AJ X MX8_tryout (rmD 5) 245 [(2, 56), (0, kind_0), (0, minutes_0), (0, strength_0), (0, what_0), (0, best_37), (0, most_38), (0, at_39), (0, p_58)] [(0, v_69)] h_68 (PH 0 r)) hf (by
            intro v_69 h_68 hf
            refine q_istore (ls' := [(2, 56), (0, kind_0), (0, minutes_0), (0, strength_0), (0, what_0), (0, best_37), (0, most_38), (0, at_39), (0, v_69)]) dX8_tryout_245 rfl (Nat.le_of_ble_eq_true rfl) rfl ?_
            obtain ⟨v_70, e_v_70, hf⟩ := nm_ex hf
            have J_v_70 : AJ X MX8_tryout (rmD 5) 261 [(2, 56), (0, kind_0), (0, minutes_0), (0, strength_0), (0, what_0), (0, best_37), (0, most_38), (0, at_39), (0, v_69)] [(0, v_70)] h_68 (PH 0 r) := by
              refine q_istore (ls' := [(2, 56), (0, kind_0), (0, minutes_0), (0, strength_0), (0, what_0), (0, v_70), (0, most_38), (0, at_39), (0, v_69)]) dX8_tryout_261 rfl (Nat.le_of_ble_eq_true rfl) rfl ?_
              obtain ⟨v_72, e_v_72, hf⟩ := nm_ex hf
              have J_v_72 : AJ X MX8_tryout (rmD 5) 277 [(2, 56), (0, kind_0), (0, minutes_0), (0, strength_0), (0, what_0), (0, v_70), (0, most_38), (0, at_39), (0, v_69)] [(0, v_72)] h_68 (PH 0 r) := by
                refine q_istore (ls' := [(2, 56), (0, kind_0), (0, minutes_0), (0, strength_0), (0, what_0), (0, v_70), (0, v_72), (0, at_39), (0, v_69)]) dX8_tryout_277 rfl (Nat.le_of_ble_eq_true rfl) rfl ?_
                refine q_iinc (ls' := [(2, 56), (0, kind_0), (0, minutes_0), (0, strength_0), (0, what_0), (0, v_70), (0, v_72), (0, w32 (at_39 + 1)), (0, v_69)]) dX8_tryout_279 rfl rfl rfl ?_
                obtain ⟨at_74, e_at_74, hf⟩ := nm_ex hf
                rw [← e_at_74]
                refine q_goto (tgt := 113) dX8_tryout_282 rfl (by decide) ?_
                refine g_frg (ls' := [(2, 56), (0, kind_0), (0, minutes_0), (0, strength_0), (0, what_0), (0, v_70), (0, v_72), (0, at_74), (3, 0)]) [8] rfl ?_
                exact ih _ _ _ _ hf
              clear hf
              refine q_iload dX8_tryout_263 rfl rfl ?_
              refine q_iload dX8_tryout_265 rfl rfl ?_
              refine q_icmp_le (tgt := 275) dX8_tryout_267 rfl (by decide) (fun c_73 => ?_) (fun c_73 => ?_)
              · refine q_iload dX8_tryout_275 rfl rfl ?_
                have e1 : v_72 = most_38 := by omega
                subst e1
                exact J_v_72
              · refine q_iload dX8_tryout_270 rfl rfl ?_
                refine q_goto (tgt := 277) dX8_tryout_272 rfl (by decide) ?_
                have e1 : v_72 = v_69 := by omega
                subst e1
                exact J_v_72
            clear hf
            refine q_iload dX8_tryout_247 rfl rfl ?_
            refine q_iload dX8_tryout_249 rfl rfl ?_
            refine q_icmp_le (tgt := 259) dX8_tryout_251 rfl (by decide) (fun c_71 => ?_) (fun c_71 => ?_)
            · refine q_iload dX8_tryout_259 rfl rfl ?_
              have e1 : v_70 = best_37 := by omega
              subst e1
              exact J_v_70
            · refine q_iload dX8_tryout_254 rfl rfl ?_
              refine q_goto (tgt := 261) dX8_tryout_256 rfl (by decide) ?_
              have e1 : v_70 = at_39 := by omega
              subst e1
              exact J_v_70)
        refine q_aload_n dX8_tryout_228 rfl rfl ?_
        obtain ⟨r_60, h_61, e_62, hf⟩ := bd_ex hf
        refine g_Vb (vs := []) (st := []) dX8_tryout_229 rfl (S_X8_isStaged X  h_57) e_62 mf_X8_isStaged ml_X8_187 rfl rfl rfl rfl (fun b_63 => ?_)
        refine q_if_eq (tgt := 243) dX8_tryout_232 rfl (by decide) (fun c_64 => ?_) (fun c_64 => ?_)
        · replace hf := it_f hf (by omega)
          refine q_bipush dX8_tryout_243 rfl (by decide) ?_
          exact J_K_59 _ _ hf
        · replace hf := it_t hf (by omega)
          refine q_aload_n dX8_tryout_235 rfl rfl ?_
          refine q_iconst dX8_tryout_236 rfl rfl ?_
          obtain ⟨r_65, h_66, e_67, hf⟩ := bd_ex hf
          refine g_Vi (vs := [(0, 0)]) (st := []) dX8_tryout_237 rfl (S_X8_nightOf X 0 h_61) e_67 mf_X8_nightOf ml_X8_205 rfl rfl rfl rfl ?_
          refine q_goto (tgt := 245) dX8_tryout_240 rfl (by decide) ?_
          exact J_K_59 _ _ hf
      clear hf
      refine q_aload_n dX8_tryout_137 rfl rfl ?_
      refine g_getF (k := 14) (o := 5) (z := 61) dX8_tryout_138 rfl fg_X8_22 rfl rfl rfl ?_
      refine q_iconst dX8_tryout_141 rfl rfl ?_
      refine q_iaload dX8_tryout_142 rfl rfl (by decide) ?_
      refine q_iload dX8_tryout_143 rfl rfl ?_
      refine q_icmp_le (tgt := 159) dX8_tryout_145 rfl (by decide) (fun c_42 => ?_) (fun c_42 => ?_)
      · refine q_aload_n dX8_tryout_159 rfl rfl ?_
        refine g_getF (k := 14) (o := 5) (z := 61) dX8_tryout_160 rfl fg_X8_22 rfl rfl rfl ?_
        refine q_iconst dX8_tryout_163 rfl rfl ?_
        refine q_iaload dX8_tryout_164 rfl rfl (by decide) ?_
        have e1 : v_41 = h_40 61 1 := by omega
        subst e1
        exact J_v_41
      · refine q_aload_n dX8_tryout_148 rfl rfl ?_
        refine g_getF (k := 14) (o := 5) (z := 61) dX8_tryout_149 rfl fg_X8_22 rfl rfl rfl ?_
        refine q_iconst dX8_tryout_152 rfl rfl ?_
        refine q_iaload dX8_tryout_153 rfl rfl (by decide) ?_
        refine q_iconst dX8_tryout_154 rfl rfl ?_
        refine q_iadd dX8_tryout_155 rfl ?_
        refine q_goto (tgt := 165) dX8_tryout_156 rfl (by decide) ?_
        have e1 : v_41 = w32 ((h_40 61 1) + 1) := by omega
        subst e1
        exact J_v_41
theorem SL_X8_tryout_1 (X : XS) (kind_0 minutes_0 strength_0 what_0 : Int) (Kx : Int → Mem → Res) {r : Int × Mem} (hK : ∀ (k_25 : Int) (h_24 : Mem), Kx k_25 h_24 = some r → AJ X MX8_tryout (rmD 5) 102 [(2, 56), (0, kind_0), (0, minutes_0), (0, strength_0), (0, what_0), (0, k_25), (3, 0), (3, 0), (3, 0)] [] h_24 (PH 0 r)) :
    ∀ (n : Nat) (k_25 : Int) (h_24 : Mem), L_X8_tryout_1 kind_0 minutes_0 strength_0 what_0 Kx n k_25 h_24 = some r → AJ X MX8_tryout (rmD 5) 49 [(2, 56), (0, kind_0), (0, minutes_0), (0, strength_0), (0, what_0), (0, k_25), (3, 0), (3, 0), (3, 0)] [] h_24 (PH 0 r) := by
  intro n
  induction n with
  | zero => intro k_25 h_24 hf; cases hf
  | succ n ih =>
    intro k_25 h_24 hf
    rw [L_X8_tryout_1] at hf
    refine q_iload dX8_tryout_49 rfl rfl ?_
    refine q_bipush dX8_tryout_51 rfl (by decide) ?_
    refine q_icmp_ge (tgt := 102) dX8_tryout_53 rfl (by decide) (fun c_33 => ?_) (fun c_33 => ?_)
    · replace hf := it_f hf (by omega)
      exact hK _ _ hf
    · replace hf := it_t hf (by omega)
      refine q_aload_n dX8_tryout_56 rfl rfl ?_
      refine g_getF (k := 9) (o := 2) (z := 58) dX8_tryout_57 rfl fg_X8_13 rfl rfl rfl ?_
      refine q_bipush dX8_tryout_60 rfl (by decide) ?_
      refine q_iload dX8_tryout_62 rfl rfl ?_
      refine q_iadd dX8_tryout_64 rfl ?_
      obtain ⟨v_26, e_v_26, hf⟩ := nm_ex hf
      have J_v_26 : AJ X MX8_tryout (rmD 5) 95 [(2, 56), (0, kind_0), (0, minutes_0), (0, strength_0), (0, what_0), (0, k_25), (3, 0), (3, 0), (3, 0)] [(0, v_26), (0, w32 (81 + k_25)), (2, 58)] h_24 (PH 0 r) := by
        obtain ⟨g_30, hf⟩ := gd_ex hf
        refine q_iastore dX8_tryout_95 rfl rfl g_30 ?_
        obtain ⟨h_31, e_h_31, hf⟩ := nm_ex hf
        rw [← e_h_31]
        refine q_iinc (ls' := [(2, 56), (0, kind_0), (0, minutes_0), (0, strength_0), (0, what_0), (0, w32 (k_25 + 1)), (3, 0), (3, 0), (3, 0)]) dX8_tryout_96 rfl rfl rfl ?_
        obtain ⟨k_32, e_k_32, hf⟩ := nm_ex hf
        rw [← e_k_32]
        refine q_goto (tgt := 49) dX8_tryout_99 rfl (by decide) ?_
        exact ih _ _ hf
      clear hf
      refine q_iload dX8_tryout_65 rfl rfl ?_
      refine q_if_ne (tgt := 74) dX8_tryout_67 rfl (by decide) (fun c_27 => ?_) (fun c_27 => ?_)
      · refine q_iload dX8_tryout_74 rfl rfl ?_
        refine q_iconst dX8_tryout_76 rfl rfl ?_
        refine q_icmp_ne (tgt := 84) dX8_tryout_77 rfl (by decide) (fun c_28 => ?_) (fun c_28 => ?_)
        · refine q_iload dX8_tryout_84 rfl rfl ?_
          refine q_iconst dX8_tryout_86 rfl rfl ?_
          refine q_icmp_ne (tgt := 94) dX8_tryout_87 rfl (by decide) (fun c_29 => ?_) (fun c_29 => ?_)
          · refine q_iconst dX8_tryout_94 rfl rfl ?_
            have e1 : v_26 = 0 := by omega
            subst e1
            exact J_v_26
          · refine q_iload_n dX8_tryout_90 rfl rfl ?_
            refine q_goto (tgt := 95) dX8_tryout_91 rfl (by decide) ?_
            have e1 : v_26 = strength_0 := by omega
            subst e1
            exact J_v_26
        · refine q_iload_n dX8_tryout_80 rfl rfl ?_
          refine q_goto (tgt := 95) dX8_tryout_81 rfl (by decide) ?_
          have e1 : v_26 = minutes_0 := by omega
          subst e1
          exact J_v_26
      · refine q_iload_n dX8_tryout_70 rfl rfl ?_
        refine q_goto (tgt := 95) dX8_tryout_71 rfl (by decide) ?_
        have e1 : v_26 = kind_0 := by omega
        subst e1
        exact J_v_26
theorem S_X8_tryout (X : XS) (kind_0 : Int) (minutes_0 : Int) (strength_0 : Int) (what_0 : Int) (h : Mem) : CT X yX8_tryout MX8_tryout (some .int) 0 5 [(2, 56), (0, kind_0), (0, minutes_0), (0, strength_0), (0, what_0)] h (F_X8_tryout kind_0 minutes_0 strength_0 what_0 h) := by
  refine CT.ofI (by decide) rfl (Nat.le_of_ble_eq_true rfl) (fun r hf => ?_)
  unfold F_X8_tryout at hf
  show AJ X MX8_tryout (rmD 5) 0 [(2, 56), (0, kind_0), (0, minutes_0), (0, strength_0), (0, what_0), (3, 0), (3, 0), (3, 0), (3, 0)] [] h (PH 0 r)
  refine q_aload_n dX8_tryout_0 rfl rfl ?_
  refine q_iconst dX8_tryout_1 rfl rfl ?_
  refine g_put (k := 0) (kz := 0) dX8_tryout_2 rfl fp_X8_68 rfl (fun q => q.1 rfl) rfl ?_
  obtain ⟨h_1, e_h_1, hf⟩ := nm_ex hf
  rw [← e_h_1]
  obtain ⟨K_2, J_K_2, hf⟩ := jn_ex (P := fun K => ∀ (h_3 : Mem), K h_3 = some r → AJ X MX8_tryout (rmD 5) 44 [(2, 56), (0, kind_0), (0, minutes_0), (0, strength_0), (0, what_0), (3, 0), (3, 0), (3, 0), (3, 0)] [] h_3 (PH 0 r)) hf (by
      intro h_3 hf
      refine q_iconst dX8_tryout_44 rfl rfl ?_
      exact g_ireturn dX8_tryout_45 rfl hf)
  refine q_iload_n dX8_tryout_5 rfl rfl ?_
  refine q_iconst dX8_tryout_6 rfl rfl ?_
  refine q_iconst dX8_tryout_7 rfl rfl ?_
  obtain ⟨r_4, h_5, e_6, hf⟩ := bd_ex hf
  refine g_Sb (vs := [(0, kind_0), (0, 0), (0, 5)]) (st := []) dX8_tryout_8 rfl (S_X8_in X kind_0 0 5 h_1) e_6 mf_X8_in ml_X8_72 rfl rfl rfl (fun b_7 => ?_)
  refine q_if_eq (tgt := 44) dX8_tryout_11 rfl (by decide) (fun c_8 => ?_) (fun c_8 => ?_)
  · replace hf := it_f hf (by omega)
    exact J_K_2 _ hf
  · replace hf := it_t hf (by omega)
    refine q_iload_n dX8_tryout_14 rfl rfl ?_
    refine q_iconst dX8_tryout_15 rfl rfl ?_
    refine q_bipush dX8_tryout_16 rfl (by decide) ?_
    obtain ⟨r_9, h_10, e_11, hf⟩ := bd_ex hf
    refine g_Sb (vs := [(0, minutes_0), (0, 1), (0, 30)]) (st := []) dX8_tryout_18 rfl (S_X8_in X minutes_0 1 30 h_5) e_11 mf_X8_in ml_X8_72 rfl rfl rfl (fun b_12 => ?_)
    refine q_if_eq (tgt := 44) dX8_tryout_21 rfl (by decide) (fun c_13 => ?_) (fun c_13 => ?_)
    · replace hf := it_f hf (by omega)
      exact J_K_2 _ hf
    · replace hf := it_t hf (by omega)
      refine q_iload_n dX8_tryout_24 rfl rfl ?_
      refine q_iconst dX8_tryout_25 rfl rfl ?_
      refine q_bipush dX8_tryout_26 rfl (by decide) ?_
      obtain ⟨r_14, h_15, e_16, hf⟩ := bd_ex hf
      refine g_Sb (vs := [(0, strength_0), (0, 0), (0, 30)]) (st := []) dX8_tryout_28 rfl (S_X8_in X strength_0 0 30 h_10) e_16 mf_X8_in ml_X8_72 rfl rfl rfl (fun b_17 => ?_)
      refine q_if_eq (tgt := 44) dX8_tryout_31 rfl (by decide) (fun c_18 => ?_) (fun c_18 => ?_)
      · replace hf := it_f hf (by omega)
        exact J_K_2 _ hf
      · replace hf := it_t hf (by omega)
        refine q_iload dX8_tryout_34 rfl rfl ?_
        refine q_iconst dX8_tryout_36 rfl rfl ?_
        refine q_iconst dX8_tryout_37 rfl rfl ?_
        obtain ⟨r_19, h_20, e_21, hf⟩ := bd_ex hf
        refine g_Sb (vs := [(0, what_0), (0, 0), (0, 1)]) (st := []) dX8_tryout_38 rfl (S_X8_in X what_0 0 1 h_15) e_21 mf_X8_in ml_X8_72 rfl rfl rfl (fun b_22 => ?_)
        refine q_if_ne (tgt := 46) dX8_tryout_41 rfl (by decide) (fun c_23 => ?_) (fun c_23 => ?_)
        · replace hf := it_t hf (by omega)
          refine q_iconst dX8_tryout_46 rfl rfl ?_
          refine q_istore (ls' := [(2, 56), (0, kind_0), (0, minutes_0), (0, strength_0), (0, what_0), (0, 0), (3, 0), (3, 0), (3, 0)]) dX8_tryout_47 rfl (Nat.le_of_ble_eq_true rfl) rfl ?_
          refine SL_X8_tryout_1 X kind_0 minutes_0 strength_0 what_0  _ (fun k_35 h_34 hf => ?_) FU _ _ hf
          refine q_bipush dX8_tryout_102 rfl (by decide) ?_
          refine q_istore (ls' := [(2, 56), (0, kind_0), (0, minutes_0), (0, strength_0), (0, what_0), (0, (-9)), (3, 0), (3, 0), (3, 0)]) dX8_tryout_104 rfl (Nat.le_of_ble_eq_true rfl) rfl ?_
          refine q_bipush dX8_tryout_106 rfl (by decide) ?_
          refine q_istore (ls' := [(2, 56), (0, kind_0), (0, minutes_0), (0, strength_0), (0, what_0), (0, (-9)), (0, (-9)), (3, 0), (3, 0)]) dX8_tryout_108 rfl (Nat.le_of_ble_eq_true rfl) rfl ?_
          refine q_iconst dX8_tryout_110 rfl rfl ?_
          refine q_istore (ls' := [(2, 56), (0, kind_0), (0, minutes_0), (0, strength_0), (0, what_0), (0, (-9)), (0, (-9)), (0, 0), (3, 0)]) dX8_tryout_111 rfl (Nat.le_of_ble_eq_true rfl) rfl ?_
          refine SL_X8_tryout_2 X kind_0 minutes_0 strength_0 what_0  _ (fun best_77 most_78 at_79 h_76 hf => ?_) FU _ _ _ _ hf
          refine q_iload dX8_tryout_285 rfl rfl ?_
          refine q_if_ne (tgt := 295) dX8_tryout_287 rfl (by decide) (fun c_80 => ?_) (fun c_80 => ?_)
          · replace hf := it_f hf (by omega)
            refine q_iload dX8_tryout_295 rfl rfl ?_
            exact g_ireturn dX8_tryout_297 rfl hf
          · replace hf := it_t hf (by omega)
            refine q_iload dX8_tryout_290 rfl rfl ?_
            refine q_goto (tgt := 297) dX8_tryout_292 rfl (by decide) ?_
            exact g_ireturn dX8_tryout_297 rfl hf
        · replace hf := it_f hf (by omega)
          exact J_K_2 _ hf
def F_X8_mark (i_0 p_0 v_0 : Int) (h : Mem) : Res := nm (wr h 56 0 0) (fun (h_1 : Mem) => jn (fun (K_2 : Mem → Res) => bd (F_X8_isAct i_0 h_1) (fun r_4 (h_5 : Mem) => if (¬ r_4 = 0) then (bd (F_X8_in p_0 0 8 h_5) (fun r_9 (h_10 : Mem) => if (¬ r_9 = 0) then (bd (F_X8_in v_0 0 99 h_10) (fun r_14 (h_15 : Mem) => if (¬ r_14 = 0) then (if ((h_15 56 33) = 60) then (some ((-3), h_15)) else (gd (0 ≤ (h_15 56 33) ∧ (h_15 56 33) < 60) (nm (wr h_15 71 (h_15 56 33) i_0) (fun (h_20 : Mem) => gd (0 ≤ (h_20 56 33) ∧ (h_20 56 33) < 60) (nm (wr h_20 72 (h_20 56 33) p_0) (fun (h_22 : Mem) => gd (0 ≤ (h_22 56 33) ∧ (h_22 56 33) < 60) (nm (wr h_22 73 (h_22 56 33) v_0) (fun (h_24 : Mem) => nm (wr h_24 56 33 (w32 ((h_24 56 33) + 1))) (fun (h_25 : Mem) => some (h_25 56 33, h_25)))))))))) else (K_2 h_15))) else (K_2 h_10))) else (K_2 h_5))) (fun (h_3 : Mem) => some ((-1), h_3)))
theorem S_X8_mark (X : XS) (i_0 : Int) (p_0 : Int) (v_0 : Int) (h : Mem) : CT X yX8_mark MX8_mark (some .int) 0 2 [(2, 56), (0, i_0), (0, p_0), (0, v_0)] h (F_X8_mark i_0 p_0 v_0 h) := by
  refine CT.ofI (by decide) rfl (Nat.le_of_ble_eq_true rfl) (fun r hf => ?_)
  unfold F_X8_mark at hf
  show AJ X MX8_mark (rmD 2) 0 [(2, 56), (0, i_0), (0, p_0), (0, v_0)] [] h (PH 0 r)
  refine q_aload_n dX8_mark_0 rfl rfl ?_
  refine q_iconst dX8_mark_1 rfl rfl ?_
  refine g_put (k := 0) (kz := 0) dX8_mark_2 rfl fp_X8_68 rfl (fun q => q.1 rfl) rfl ?_
  obtain ⟨h_1, e_h_1, hf⟩ := nm_ex hf
  rw [← e_h_1]
  obtain ⟨K_2, J_K_2, hf⟩ := jn_ex (P := fun K => ∀ (h_3 : Mem), K h_3 = some r → AJ X MX8_mark (rmD 2) 33 [(2, 56), (0, i_0), (0, p_0), (0, v_0)] [] h_3 (PH 0 r)) hf (by
      intro h_3 hf
      refine q_iconst dX8_mark_33 rfl rfl ?_
      exact g_ireturn dX8_mark_34 rfl hf)
  refine q_aload_n dX8_mark_5 rfl rfl ?_
  refine q_iload_n dX8_mark_6 rfl rfl ?_
  obtain ⟨r_4, h_5, e_6, hf⟩ := bd_ex hf
  refine g_Vb (vs := [(0, i_0)]) (st := []) dX8_mark_7 rfl (S_X8_isAct X i_0 h_1) e_6 mf_X8_isAct ml_X8_148 rfl rfl rfl rfl (fun b_7 => ?_)
  refine q_if_eq (tgt := 33) dX8_mark_10 rfl (by decide) (fun c_8 => ?_) (fun c_8 => ?_)
  · replace hf := it_f hf (by omega)
    exact J_K_2 _ hf
  · replace hf := it_t hf (by omega)
    refine q_iload_n dX8_mark_13 rfl rfl ?_
    refine q_iconst dX8_mark_14 rfl rfl ?_
    refine q_bipush dX8_mark_15 rfl (by decide) ?_
    obtain ⟨r_9, h_10, e_11, hf⟩ := bd_ex hf
    refine g_Sb (vs := [(0, p_0), (0, 0), (0, 8)]) (st := []) dX8_mark_17 rfl (S_X8_in X p_0 0 8 h_5) e_11 mf_X8_in ml_X8_72 rfl rfl rfl (fun b_12 => ?_)
    refine q_if_eq (tgt := 33) dX8_mark_20 rfl (by decide) (fun c_13 => ?_) (fun c_13 => ?_)
    · replace hf := it_f hf (by omega)
      exact J_K_2 _ hf
    · replace hf := it_t hf (by omega)
      refine q_iload_n dX8_mark_23 rfl rfl ?_
      refine q_iconst dX8_mark_24 rfl rfl ?_
      refine q_bipush dX8_mark_25 rfl (by decide) ?_
      obtain ⟨r_14, h_15, e_16, hf⟩ := bd_ex hf
      refine g_Sb (vs := [(0, v_0), (0, 0), (0, 99)]) (st := []) dX8_mark_27 rfl (S_X8_in X v_0 0 99 h_10) e_16 mf_X8_in ml_X8_72 rfl rfl rfl (fun b_17 => ?_)
      refine q_if_ne (tgt := 35) dX8_mark_30 rfl (by decide) (fun c_18 => ?_) (fun c_18 => ?_)
      · replace hf := it_t hf (by omega)
        refine q_aload_n dX8_mark_35 rfl rfl ?_
        refine g_get (k := 33) (kz := 33) dX8_mark_36 rfl fg_X8_145 rfl rfl ?_
        refine q_bipush dX8_mark_39 rfl (by decide) ?_
        refine q_icmp_ne (tgt := 47) dX8_mark_41 rfl (by decide) (fun c_26 => ?_) (fun c_26 => ?_)
        · replace hf := it_f hf (by omega)
          refine q_aload_n dX8_mark_47 rfl rfl ?_
          refine g_getF (k := 30) (o := 15) (z := 71) dX8_mark_48 rfl fg_X8_53 rfl rfl rfl ?_
          refine q_aload_n dX8_mark_51 rfl rfl ?_
          refine g_get (k := 33) (kz := 33) dX8_mark_52 rfl fg_X8_145 rfl rfl ?_
          refine q_iload_n dX8_mark_55 rfl rfl ?_
          obtain ⟨g_19, hf⟩ := gd_ex hf
          refine q_iastore dX8_mark_56 rfl rfl g_19 ?_
          obtain ⟨h_20, e_h_20, hf⟩ := nm_ex hf
          rw [← e_h_20]
          refine q_aload_n dX8_mark_57 rfl rfl ?_
          refine g_getF (k := 31) (o := 16) (z := 72) dX8_mark_58 rfl fg_X8_56 rfl rfl rfl ?_
          refine q_aload_n dX8_mark_61 rfl rfl ?_
          refine g_get (k := 33) (kz := 33) dX8_mark_62 rfl fg_X8_145 rfl rfl ?_
          refine q_iload_n dX8_mark_65 rfl rfl ?_
          obtain ⟨g_21, hf⟩ := gd_ex hf
          refine q_iastore dX8_mark_66 rfl rfl g_21 ?_
          obtain ⟨h_22, e_h_22, hf⟩ := nm_ex hf
          rw [← e_h_22]
          refine q_aload_n dX8_mark_67 rfl rfl ?_
          refine g_getF (k := 32) (o := 17) (z := 73) dX8_mark_68 rfl fg_X8_59 rfl rfl rfl ?_
          refine q_aload_n dX8_mark_71 rfl rfl ?_
          refine g_get (k := 33) (kz := 33) dX8_mark_72 rfl fg_X8_145 rfl rfl ?_
          refine q_iload_n dX8_mark_75 rfl rfl ?_
          obtain ⟨g_23, hf⟩ := gd_ex hf
          refine q_iastore dX8_mark_76 rfl rfl g_23 ?_
          obtain ⟨h_24, e_h_24, hf⟩ := nm_ex hf
          rw [← e_h_24]
          refine q_aload_n dX8_mark_77 rfl rfl ?_
          refine q_dup dX8_mark_78 rfl (by decide) ?_
          refine g_get (k := 33) (kz := 33) dX8_mark_79 rfl fg_X8_145 rfl rfl ?_
          refine q_iconst dX8_mark_82 rfl rfl ?_
          refine q_iadd dX8_mark_83 rfl ?_
          refine g_put (k := 33) (kz := 33) dX8_mark_84 rfl fp_X8_145 rfl (fun q => q.1 rfl) rfl ?_
          obtain ⟨h_25, e_h_25, hf⟩ := nm_ex hf
          rw [← e_h_25]
          refine q_aload_n dX8_mark_87 rfl rfl ?_
          refine g_get (k := 33) (kz := 33) dX8_mark_88 rfl fg_X8_145 rfl rfl ?_
          exact g_ireturn dX8_mark_91 rfl hf
        · replace hf := it_t hf (by omega)
          refine q_bipush dX8_mark_44 rfl (by decide) ?_
          exact g_ireturn dX8_mark_46 rfl hf
      · replace hf := it_f hf (by omega)
        exact J_K_2 _ hf
def L_X8_gcd_1 (a_0 b_0 : Int) (Kx : Int → Int → Mem → Res) : Nat → Int → Int → Mem → Res
  | 0, _, _, _ => none
  | n + 1, x_4, y_5, h_3 => if (¬ y_5 = 0) then (gd (¬ y_5 = 0) (nm (lrm x_4 y_5) (fun r_7 => L_X8_gcd_1 a_0 b_0 Kx n y_5 r_7 h_3))) else (Kx x_4 y_5 h_3)
def F_X8_gcd (a_0 b_0 : Int) (h : Mem) : Res := nm (α := Int) (if (a_0 < 0) then (w64 (-a_0)) else a_0) (fun v_1 => L_X8_gcd_1 a_0 b_0 (fun x_10 y_11 (h_9 : Mem) => some (x_10, h_9)) FU v_1 b_0 h)
theorem SL_X8_gcd_1 (X : XS) (a_0 b_0 : Int) (Kx : Int → Int → Mem → Res) {r : Int × Mem} (hK : ∀ (x_4 y_5 : Int) (h_3 : Mem), Kx x_4 y_5 h_3 = some r → AJ X MX8_gcd (rmD 0) 42 [(1, a_0), (3, 0), (1, b_0), (3, 0), (1, x_4), (3, 0), (1, y_5), (3, 0), (3, 0), (3, 0)] [] h_3 (PH 1 r)) :
    ∀ (n : Nat) (x_4 y_5 : Int) (h_3 : Mem), L_X8_gcd_1 a_0 b_0 Kx n x_4 y_5 h_3 = some r → AJ X MX8_gcd (rmD 0) 17 [(1, a_0), (3, 0), (1, b_0), (3, 0), (1, x_4), (3, 0), (1, y_5), (3, 0), (3, 0), (3, 0)] [] h_3 (PH 1 r) := by
  intro n
  induction n with
  | zero => intro x_4 y_5 h_3 hf; cases hf
  | succ n ih =>
    intro x_4 y_5 h_3 hf
    rw [L_X8_gcd_1] at hf
    refine q_lload dX8_gcd_17 rfl rfl ?_
    refine q_lconst0 dX8_gcd_19 rfl ?_
    refine q_lcmp dX8_gcd_20 rfl ?_
    have lc := lcmp_iff y_5 0
    refine q_if_eq (tgt := 42) dX8_gcd_21 rfl (by decide) (fun c_8 => ?_) (fun c_8 => ?_)
    · replace hf := it_f hf (by omega)
      exact hK _ _ _ hf
    · replace hf := it_t hf (by omega)
      refine q_lload dX8_gcd_24 rfl rfl ?_
      refine q_lload dX8_gcd_26 rfl rfl ?_
      obtain ⟨g_6, hf⟩ := gd_ex hf
      refine q_lrem dX8_gcd_28 rfl g_6 ?_
      obtain ⟨r_7, e_r_7, hf⟩ := nm_ex hf
      rw [← e_r_7]
      refine q_lstore (ls' := [(1, a_0), (3, 0), (1, b_0), (3, 0), (1, x_4), (3, 0), (1, y_5), (3, 0), (1, r_7), (3, 0)]) dX8_gcd_29 rfl (Nat.le_of_ble_eq_true rfl) rfl ?_
      refine q_lload dX8_gcd_31 rfl rfl ?_
      refine q_lstore (ls' := [(1, a_0), (3, 0), (1, b_0), (3, 0), (1, y_5), (3, 0), (1, y_5), (3, 0), (1, r_7), (3, 0)]) dX8_gcd_33 rfl (Nat.le_of_ble_eq_true rfl) rfl ?_
      refine q_lload dX8_gcd_35 rfl rfl ?_
      refine q_lstore (ls' := [(1, a_0), (3, 0), (1, b_0), (3, 0), (1, y_5), (3, 0), (1, r_7), (3, 0), (1, r_7), (3, 0)]) dX8_gcd_37 rfl (Nat.le_of_ble_eq_true rfl) rfl ?_
      refine q_goto (tgt := 17) dX8_gcd_39 rfl (by decide) ?_
      refine g_frg (ls' := [(1, a_0), (3, 0), (1, b_0), (3, 0), (1, y_5), (3, 0), (1, r_7), (3, 0), (3, 0), (3, 0)]) [8] rfl ?_
      exact ih _ _ _ hf
theorem S_X8_gcd (X : XS) (a_0 : Int) (b_0 : Int) (h : Mem) : CT X yX8_gcd MX8_gcd (some .long) 1 0 [(1, a_0), (1, b_0)] h (F_X8_gcd a_0 b_0 h) := by
  refine CT.ofL (by decide) rfl (Nat.le_of_ble_eq_true rfl) (fun r hf => ?_)
  unfold F_X8_gcd at hf
  show AJ X MX8_gcd (rmD 0) 0 [(1, a_0), (3, 0), (1, b_0), (3, 0), (3, 0), (3, 0), (3, 0), (3, 0), (3, 0), (3, 0)] [] h (PH 1 r)
  obtain ⟨v_1, e_v_1, hf⟩ := nm_ex hf
  have J_v_1 : AJ X MX8_gcd (rmD 0) 12 [(1, a_0), (3, 0), (1, b_0), (3, 0), (3, 0), (3, 0), (3, 0), (3, 0), (3, 0), (3, 0)] [(1, v_1)] h (PH 1 r) := by
    refine q_lstore (ls' := [(1, a_0), (3, 0), (1, b_0), (3, 0), (1, v_1), (3, 0), (3, 0), (3, 0), (3, 0), (3, 0)]) dX8_gcd_12 rfl (Nat.le_of_ble_eq_true rfl) rfl ?_
    refine q_lload_n dX8_gcd_14 rfl rfl ?_
    refine q_lstore (ls' := [(1, a_0), (3, 0), (1, b_0), (3, 0), (1, v_1), (3, 0), (1, b_0), (3, 0), (3, 0), (3, 0)]) dX8_gcd_15 rfl (Nat.le_of_ble_eq_true rfl) rfl ?_
    refine SL_X8_gcd_1 X a_0 b_0  _ (fun x_10 y_11 h_9 hf => ?_) FU _ _ _ hf
    refine q_lload dX8_gcd_42 rfl rfl ?_
    exact g_lreturn dX8_gcd_44 rfl hf
  clear hf
  refine q_lload_n dX8_gcd_0 rfl rfl ?_
  refine q_lconst0 dX8_gcd_1 rfl ?_
  refine q_lcmp dX8_gcd_2 rfl ?_
  have lc := lcmp_iff a_0 0
  refine q_if_ge (tgt := 11) dX8_gcd_3 rfl (by decide) (fun c_2 => ?_) (fun c_2 => ?_)
  · refine q_lload_n dX8_gcd_11 rfl rfl ?_
    have e1 : v_1 = a_0 := by omega
    subst e1
    exact J_v_1
  · refine q_lload_n dX8_gcd_6 rfl rfl ?_
    refine q_lneg dX8_gcd_7 rfl ?_
    refine q_goto (tgt := 12) dX8_gcd_8 rfl (by decide) ?_
    have e1 : v_1 = w64 (-a_0) := by omega
    subst e1
    exact J_v_1
def L_X8_parted_2 (i_0 what_0 up_15 down_16 its_17 p_18 : Int) (Kx : Int → Int → Int → Int → Int → Mem → Res) : Nat → Int → Int → Int → Int → Int → Mem → Res
  | 0, _, _, _, _, _, _ => none
  | n + 1, mine_20, sum_21, all_22, allMine_23, k_24, h_19 => if (k_24 < (h_19 56 33)) then (jn (fun (K_25 : Int → Int → Int → Int → Mem → Res) => gd (0 ≤ k_24 ∧ k_24 < 60) (if ((h_19 72 k_24) = p_18) then (nm (w32 (all_22 + 1)) (fun all_28 => nm (w64 (sum_21 + (h_19 73 k_24))) (fun sum_29 => jn (fun (K_30 : Int → Mem → Res) => if ((h_19 71 k_24) = i_0) then (K_30 (h_19 73 k_24) h_19) else (K_30 0 h_19)) (fun v_33 (h_32 : Mem) => nm (w64 (mine_20 + v_33)) (fun mine_34 => jn (fun (K_35 : Int → Mem → Res) => if ((h_32 71 k_24) = i_0) then (K_35 1 h_32) else (K_35 0 h_32)) (fun v_38 (h_37 : Mem) => nm (w32 (allMine_23 + v_38)) (fun allMine_39 => K_25 mine_34 sum_29 all_28 allMine_39 h_37))))))) else (K_25 mine_20 sum_21 all_22 allMine_23 h_19))) (fun mine_41 sum_42 all_43 allMine_44 (h_40 : Mem) => nm (w32 (k_24 + 1)) (fun k_45 => L_X8_parted_2 i_0 what_0 up_15 down_16 its_17 p_18 Kx n mine_41 sum_42 all_43 allMine_44 k_45 h_40))) else (Kx mine_20 sum_21 all_22 allMine_23 k_24 h_19)
def L_X8_parted_1 (i_0 what_0 : Int) (Kx : Int → Int → Int → Int → Mem → Res) : Nat → Int → Int → Int → Int → Mem → Res
  | 0, _, _, _, _, _ => none
  | n + 1, up_15, down_16, its_17, p_18, h_14 => if (p_18 < 9) then (L_X8_parted_2 i_0 what_0 up_15 down_16 its_17 p_18 (fun mine_48 sum_49 all_50 allMine_51 k_52 (h_47 : Mem) => jn (fun (K_53 : Int → Int → Int → Mem → Res) => if (0 < allMine_51) then (nm (w64 ((w64 (up_15 * all_50)) + (w64 ((w64 ((w64 (mine_48 * all_50)) - (w64 (allMine_51 * sum_49)))) * down_16)))) (fun up_54 => nm (w64 (down_16 * all_50)) (fun down_55 => nm (w32 (its_17 + allMine_51)) (fun its_56 => K_53 up_54 down_55 its_56 h_47)))) else (K_53 up_15 down_16 its_17 h_47)) (fun up_59 down_60 its_61 (h_58 : Mem) => nm (w32 (p_18 + 1)) (fun p_62 => L_X8_parted_1 i_0 what_0 Kx n up_59 down_60 its_61 p_62 h_58))) FU 0 0 0 0 0 h_14) else (Kx up_15 down_16 its_17 p_18 h_14)
def F_X8_parted (i_0 what_0 : Int) (h : Mem) : Res := nm (wr h 56 0 0) (fun (h_1 : Mem) => jn (fun (K_2 : Mem → Res) => bd (F_X8_isAct i_0 h_1) (fun r_4 (h_5 : Mem) => if (¬ r_4 = 0) then (bd (F_X8_in what_0 0 1 h_5) (fun r_9 (h_10 : Mem) => if (¬ r_9 = 0) then (L_X8_parted_1 i_0 what_0 (fun up_65 down_66 its_67 p_68 (h_64 : Mem) => if (its_67 = 0) then (some ((-1000000), h_64)) else (nm (w64 (down_66 * its_67)) (fun down_69 => bd (F_X8_gcd up_65 down_69 h_64) (fun r_70 (h_71 : Mem) => jn (fun (K_73 : Int → Mem → Res) => if (what_0 = 0) then (gd (¬ r_70 = 0) (K_73 (ldv up_65 r_70) h_71)) else (gd (¬ r_70 = 0) (K_73 (ldv down_69 r_70) h_71))) (fun v_78 (h_77 : Mem) => some (w32 v_78, h_77)))))) FU 0 1 0 0 h_10) else (K_2 h_10))) else (K_2 h_5))) (fun (h_3 : Mem) => some ((-1000000), h_3)))
theorem SL_X8_parted_2 (X : XS) (i_0 what_0 up_15 down_16 its_17 p_18 : Int) (Kx : Int → Int → Int → Int → Int → Mem → Res) {r : Int × Mem} (hK : ∀ (mine_20 sum_21 all_22 allMine_23 k_24 : Int) (h_19 : Mem), Kx mine_20 sum_21 all_22 allMine_23 k_24 h_19 = some r → AJ X MX8_parted (rmD 2) 150 [(2, 56), (0, i_0), (0, what_0), (1, up_15), (3, 0), (1, down_16), (3, 0), (0, its_17), (0, p_18), (1, mine_20), (3, 0), (1, sum_21), (3, 0), (0, all_22), (0, allMine_23), (0, k_24)] [] h_19 (PH 0 r)) :
    ∀ (n : Nat) (mine_20 sum_21 all_22 allMine_23 k_24 : Int) (h_19 : Mem), L_X8_parted_2 i_0 what_0 up_15 down_16 its_17 p_18 Kx n mine_20 sum_21 all_22 allMine_23 k_24 h_19 = some r → AJ X MX8_parted (rmD 2) 58 [(2, 56), (0, i_0), (0, what_0), (1, up_15), (3, 0), (1, down_16), (3, 0), (0, its_17), (0, p_18), (1, mine_20), (3, 0), (1, sum_21), (3, 0), (0, all_22), (0, allMine_23), (0, k_24)] [] h_19 (PH 0 r) := by
  intro n
  induction n with
  | zero => intro mine_20 sum_21 all_22 allMine_23 k_24 h_19 hf; cases hf
  | succ n ih =>
    intro mine_20 sum_21 all_22 allMine_23 k_24 h_19 hf
    rw [L_X8_parted_2] at hf
    refine q_iload dX8_parted_58 rfl rfl ?_
    refine q_aload_n dX8_parted_60 rfl rfl ?_
    refine g_get (k := 33) (kz := 33) dX8_parted_61 rfl fg_X8_145 rfl rfl ?_
    refine q_icmp_ge (tgt := 150) dX8_parted_64 rfl (by decide) (fun c_46 => ?_) (fun c_46 => ?_)
    · replace hf := it_f hf (by omega)
      exact hK _ _ _ _ _ _ hf
    · replace hf := it_t hf (by omega)
      obtain ⟨K_25, J_K_25, hf⟩ := jn_ex (P := fun K => ∀ (mine_41 sum_42 all_43 allMine_44 : Int) (h_40 : Mem), K mine_41 sum_42 all_43 allMine_44 h_40 = some r → AJ X MX8_parted (rmD 2) 144 [(2, 56), (0, i_0), (0, what_0), (1, up_15), (3, 0), (1, down_16), (3, 0), (0, its_17), (0, p_18), (1, mine_41), (3, 0), (1, sum_42), (3, 0), (0, all_43), (0, allMine_44), (0, k_24)] [] h_40 (PH 0 r)) hf (by
          intro mine_41 sum_42 all_43 allMine_44 h_40 hf
          refine q_iinc (ls' := [(2, 56), (0, i_0), (0, what_0), (1, up_15), (3, 0), (1, down_16), (3, 0), (0, its_17), (0, p_18), (1, mine_41), (3, 0), (1, sum_42), (3, 0), (0, all_43), (0, allMine_44), (0, w32 (k_24 + 1))]) dX8_parted_144 rfl rfl rfl ?_
          obtain ⟨k_45, e_k_45, hf⟩ := nm_ex hf
          rw [← e_k_45]
          refine q_goto (tgt := 58) dX8_parted_147 rfl (by decide) ?_
          exact ih _ _ _ _ _ _ hf)
      refine q_aload_n dX8_parted_67 rfl rfl ?_
      refine g_getF (k := 31) (o := 16) (z := 72) dX8_parted_68 rfl fg_X8_56 rfl rfl rfl ?_
      refine q_iload dX8_parted_71 rfl rfl ?_
      obtain ⟨g_26, hf⟩ := gd_ex hf
      refine q_iaload dX8_parted_73 rfl rfl g_26 ?_
      refine q_iload dX8_parted_74 rfl rfl ?_
      refine q_icmp_ne (tgt := 144) dX8_parted_76 rfl (by decide) (fun c_27 => ?_) (fun c_27 => ?_)
      · replace hf := it_f hf (by omega)
        exact J_K_25 _ _ _ _ _ hf
      · replace hf := it_t hf (by omega)
        refine q_iinc (ls' := [(2, 56), (0, i_0), (0, what_0), (1, up_15), (3, 0), (1, down_16), (3, 0), (0, its_17), (0, p_18), (1, mine_20), (3, 0), (1, sum_21), (3, 0), (0, w32 (all_22 + 1)), (0, allMine_23), (0, k_24)]) dX8_parted_79 rfl rfl rfl ?_
        obtain ⟨all_28, e_all_28, hf⟩ := nm_ex hf
        rw [← e_all_28]
        refine q_lload dX8_parted_82 rfl rfl ?_
        refine q_aload_n dX8_parted_84 rfl rfl ?_
        refine g_getF (k := 32) (o := 17) (z := 73) dX8_parted_85 rfl fg_X8_59 rfl rfl rfl ?_
        refine q_iload dX8_parted_88 rfl rfl ?_
        refine q_iaload dX8_parted_90 rfl rfl g_26 ?_
        refine q_i2l dX8_parted_91 rfl ?_
        refine q_ladd dX8_parted_92 rfl ?_
        obtain ⟨sum_29, e_sum_29, hf⟩ := nm_ex hf
        rw [← e_sum_29]
        refine q_lstore (ls' := [(2, 56), (0, i_0), (0, what_0), (1, up_15), (3, 0), (1, down_16), (3, 0), (0, its_17), (0, p_18), (1, mine_20), (3, 0), (1, sum_29), (3, 0), (0, all_28), (0, allMine_23), (0, k_24)]) dX8_parted_93 rfl (Nat.le_of_ble_eq_true rfl) rfl ?_
        refine q_lload dX8_parted_95 rfl rfl ?_
        obtain ⟨K_30, J_K_30, hf⟩ := jn_ex (P := fun K => ∀ (v_33 : Int) (h_32 : Mem), K v_33 h_32 = some r → AJ X MX8_parted (rmD 2) 120 [(2, 56), (0, i_0), (0, what_0), (1, up_15), (3, 0), (1, down_16), (3, 0), (0, its_17), (0, p_18), (1, mine_20), (3, 0), (1, sum_29), (3, 0), (0, all_28), (0, allMine_23), (0, k_24)] [(1, v_33), (1, mine_20)] h_32 (PH 0 r)) hf (by
            intro v_33 h_32 hf
            refine q_ladd dX8_parted_120 rfl ?_
            obtain ⟨mine_34, e_mine_34, hf⟩ := nm_ex hf
            rw [← e_mine_34]
            refine q_lstore (ls' := [(2, 56), (0, i_0), (0, what_0), (1, up_15), (3, 0), (1, down_16), (3, 0), (0, its_17), (0, p_18), (1, mine_34), (3, 0), (1, sum_29), (3, 0), (0, all_28), (0, allMine_23), (0, k_24)]) dX8_parted_121 rfl (Nat.le_of_ble_eq_true rfl) rfl ?_
            refine q_iload dX8_parted_123 rfl rfl ?_
            obtain ⟨K_35, J_K_35, hf⟩ := jn_ex (P := fun K => ∀ (v_38 : Int) (h_37 : Mem), K v_38 h_37 = some r → AJ X MX8_parted (rmD 2) 141 [(2, 56), (0, i_0), (0, what_0), (1, up_15), (3, 0), (1, down_16), (3, 0), (0, its_17), (0, p_18), (1, mine_34), (3, 0), (1, sum_29), (3, 0), (0, all_28), (0, allMine_23), (0, k_24)] [(0, v_38), (0, allMine_23)] h_37 (PH 0 r)) hf (by
                intro v_38 h_37 hf
                refine q_iadd dX8_parted_141 rfl ?_
                obtain ⟨allMine_39, e_allMine_39, hf⟩ := nm_ex hf
                rw [← e_allMine_39]
                refine q_istore (ls' := [(2, 56), (0, i_0), (0, what_0), (1, up_15), (3, 0), (1, down_16), (3, 0), (0, its_17), (0, p_18), (1, mine_34), (3, 0), (1, sum_29), (3, 0), (0, all_28), (0, allMine_39), (0, k_24)]) dX8_parted_142 rfl (Nat.le_of_ble_eq_true rfl) rfl ?_
                exact J_K_25 _ _ _ _ _ hf)
            refine q_aload_n dX8_parted_125 rfl rfl ?_
            refine g_getF (k := 30) (o := 15) (z := 71) dX8_parted_126 rfl fg_X8_53 rfl rfl rfl ?_
            refine q_iload dX8_parted_129 rfl rfl ?_
            refine q_iaload dX8_parted_131 rfl rfl g_26 ?_
            refine q_iload_n dX8_parted_132 rfl rfl ?_
            refine q_icmp_ne (tgt := 140) dX8_parted_133 rfl (by decide) (fun c_36 => ?_) (fun c_36 => ?_)
            · replace hf := it_f hf (by omega)
              refine q_iconst dX8_parted_140 rfl rfl ?_
              exact J_K_35 _ _ hf
            · replace hf := it_t hf (by omega)
              refine q_iconst dX8_parted_136 rfl rfl ?_
              refine q_goto (tgt := 141) dX8_parted_137 rfl (by decide) ?_
              exact J_K_35 _ _ hf)
        refine q_aload_n dX8_parted_97 rfl rfl ?_
        refine g_getF (k := 30) (o := 15) (z := 71) dX8_parted_98 rfl fg_X8_53 rfl rfl rfl ?_
        refine q_iload dX8_parted_101 rfl rfl ?_
        refine q_iaload dX8_parted_103 rfl rfl g_26 ?_
        refine q_iload_n dX8_parted_104 rfl rfl ?_
        refine q_icmp_ne (tgt := 119) dX8_parted_105 rfl (by decide) (fun c_31 => ?_) (fun c_31 => ?_)
        · replace hf := it_f hf (by omega)
          refine q_lconst0 dX8_parted_119 rfl ?_
          exact J_K_30 _ _ hf
        · replace hf := it_t hf (by omega)
          refine q_aload_n dX8_parted_108 rfl rfl ?_
          refine g_getF (k := 32) (o := 17) (z := 73) dX8_parted_109 rfl fg_X8_59 rfl rfl rfl ?_
          refine q_iload dX8_parted_112 rfl rfl ?_
          refine q_iaload dX8_parted_114 rfl rfl g_26 ?_
          refine q_i2l dX8_parted_115 rfl ?_
          refine q_goto (tgt := 120) dX8_parted_116 rfl (by decide) ?_
          exact J_K_30 _ _ hf
theorem SL_X8_parted_1 (X : XS) (i_0 what_0 : Int) (Kx : Int → Int → Int → Int → Mem → Res) {r : Int × Mem} (hK : ∀ (up_15 down_16 its_17 p_18 : Int) (h_14 : Mem), Kx up_15 down_16 its_17 p_18 h_14 = some r → AJ X MX8_parted (rmD 2) 199 [(2, 56), (0, i_0), (0, what_0), (1, up_15), (3, 0), (1, down_16), (3, 0), (0, its_17), (0, p_18), (3, 0), (3, 0), (3, 0), (3, 0), (3, 0), (3, 0), (3, 0)] [] h_14 (PH 0 r)) :
    ∀ (n : Nat) (up_15 down_16 its_17 p_18 : Int) (h_14 : Mem), L_X8_parted_1 i_0 what_0 Kx n up_15 down_16 its_17 p_18 h_14 = some r → AJ X MX8_parted (rmD 2) 36 [(2, 56), (0, i_0), (0, what_0), (1, up_15), (3, 0), (1, down_16), (3, 0), (0, its_17), (0, p_18), (3, 0), (3, 0), (3, 0), (3, 0), (3, 0), (3, 0), (3, 0)] [] h_14 (PH 0 r) := by
  intro n
  induction n with
  | zero => intro up_15 down_16 its_17 p_18 h_14 hf; cases hf
  | succ n ih =>
    intro up_15 down_16 its_17 p_18 h_14 hf
    rw [L_X8_parted_1] at hf
    refine q_iload dX8_parted_36 rfl rfl ?_
    refine q_bipush dX8_parted_38 rfl (by decide) ?_
    refine q_icmp_ge (tgt := 199) dX8_parted_40 rfl (by decide) (fun c_63 => ?_) (fun c_63 => ?_)
    · replace hf := it_f hf (by omega)
      exact hK _ _ _ _ _ hf
    · replace hf := it_t hf (by omega)
      refine q_lconst0 dX8_parted_43 rfl ?_
      refine q_lstore (ls' := [(2, 56), (0, i_0), (0, what_0), (1, up_15), (3, 0), (1, down_16), (3, 0), (0, its_17), (0, p_18), (1, 0), (3, 0), (3, 0), (3, 0), (3, 0), (3, 0), (3, 0)]) dX8_parted_44 rfl (Nat.le_of_ble_eq_true rfl) rfl ?_
      refine q_lconst0 dX8_parted_46 rfl ?_
      refine q_lstore (ls' := [(2, 56), (0, i_0), (0, what_0), (1, up_15), (3, 0), (1, down_16), (3, 0), (0, its_17), (0, p_18), (1, 0), (3, 0), (1, 0), (3, 0), (3, 0), (3, 0), (3, 0)]) dX8_parted_47 rfl (Nat.le_of_ble_eq_true rfl) rfl ?_
      refine q_iconst dX8_parted_49 rfl rfl ?_
      refine q_istore (ls' := [(2, 56), (0, i_0), (0, what_0), (1, up_15), (3, 0), (1, down_16), (3, 0), (0, its_17), (0, p_18), (1, 0), (3, 0), (1, 0), (3, 0), (0, 0), (3, 0), (3, 0)]) dX8_parted_50 rfl (Nat.le_of_ble_eq_true rfl) rfl ?_
      refine q_iconst dX8_parted_52 rfl rfl ?_
      refine q_istore (ls' := [(2, 56), (0, i_0), (0, what_0), (1, up_15), (3, 0), (1, down_16), (3, 0), (0, its_17), (0, p_18), (1, 0), (3, 0), (1, 0), (3, 0), (0, 0), (0, 0), (3, 0)]) dX8_parted_53 rfl (Nat.le_of_ble_eq_true rfl) rfl ?_
      refine q_iconst dX8_parted_55 rfl rfl ?_
      refine q_istore (ls' := [(2, 56), (0, i_0), (0, what_0), (1, up_15), (3, 0), (1, down_16), (3, 0), (0, its_17), (0, p_18), (1, 0), (3, 0), (1, 0), (3, 0), (0, 0), (0, 0), (0, 0)]) dX8_parted_56 rfl (Nat.le_of_ble_eq_true rfl) rfl ?_
      refine SL_X8_parted_2 X i_0 what_0 up_15 down_16 its_17 p_18  _ (fun mine_48 sum_49 all_50 allMine_51 k_52 h_47 hf => ?_) FU _ _ _ _ _ _ hf
      refine g_frg (ls' := [(2, 56), (0, i_0), (0, what_0), (1, up_15), (3, 0), (1, down_16), (3, 0), (0, its_17), (0, p_18), (1, mine_48), (3, 0), (1, sum_49), (3, 0), (0, all_50), (0, allMine_51), (3, 0)]) [15] rfl ?_
      obtain ⟨K_53, J_K_53, hf⟩ := jn_ex (P := fun K => ∀ (up_59 down_60 its_61 : Int) (h_58 : Mem), K up_59 down_60 its_61 h_58 = some r → AJ X MX8_parted (rmD 2) 193 [(2, 56), (0, i_0), (0, what_0), (1, up_59), (3, 0), (1, down_60), (3, 0), (0, its_61), (0, p_18), (1, mine_48), (3, 0), (1, sum_49), (3, 0), (0, all_50), (0, allMine_51), (3, 0)] [] h_58 (PH 0 r)) hf (by
          intro up_59 down_60 its_61 h_58 hf
          refine q_iinc (ls' := [(2, 56), (0, i_0), (0, what_0), (1, up_59), (3, 0), (1, down_60), (3, 0), (0, its_61), (0, w32 (p_18 + 1)), (1, mine_48), (3, 0), (1, sum_49), (3, 0), (0, all_50), (0, allMine_51), (3, 0)]) dX8_parted_193 rfl rfl rfl ?_
          obtain ⟨p_62, e_p_62, hf⟩ := nm_ex hf
          rw [← e_p_62]
          refine q_goto (tgt := 36) dX8_parted_196 rfl (by decide) ?_
          refine g_frg (ls' := [(2, 56), (0, i_0), (0, what_0), (1, up_59), (3, 0), (1, down_60), (3, 0), (0, its_61), (0, p_62), (3, 0), (3, 0), (3, 0), (3, 0), (3, 0), (3, 0), (3, 0)]) [9, 11, 13, 14] rfl ?_
          exact ih _ _ _ _ _ hf)
      refine q_iload dX8_parted_150 rfl rfl ?_
      refine q_if_le (tgt := 193) dX8_parted_152 rfl (by decide) (fun c_57 => ?_) (fun c_57 => ?_)
      · replace hf := it_f hf (by omega)
        exact J_K_53 _ _ _ _ hf
      · replace hf := it_t hf (by omega)
        refine q_lload_n dX8_parted_155 rfl rfl ?_
        refine q_iload dX8_parted_156 rfl rfl ?_
        refine q_i2l dX8_parted_158 rfl ?_
        refine q_lmul dX8_parted_159 rfl ?_
        refine q_lload dX8_parted_160 rfl rfl ?_
        refine q_iload dX8_parted_162 rfl rfl ?_
        refine q_i2l dX8_parted_164 rfl ?_
        refine q_lmul dX8_parted_165 rfl ?_
        refine q_iload dX8_parted_166 rfl rfl ?_
        refine q_i2l dX8_parted_168 rfl ?_
        refine q_lload dX8_parted_169 rfl rfl ?_
        refine q_lmul dX8_parted_171 rfl ?_
        refine q_lsub dX8_parted_172 rfl ?_
        refine q_lload dX8_parted_173 rfl rfl ?_
        refine q_lmul dX8_parted_175 rfl ?_
        refine q_ladd dX8_parted_176 rfl ?_
        obtain ⟨up_54, e_up_54, hf⟩ := nm_ex hf
        rw [← e_up_54]
        refine q_lstore_n (ls' := [(2, 56), (0, i_0), (0, what_0), (1, up_54), (3, 0), (1, down_16), (3, 0), (0, its_17), (0, p_18), (1, mine_48), (3, 0), (1, sum_49), (3, 0), (0, all_50), (0, allMine_51), (3, 0)]) dX8_parted_177 rfl rfl (Nat.le_of_ble_eq_true rfl) rfl ?_
        refine q_lload dX8_parted_178 rfl rfl ?_
        refine q_iload dX8_parted_180 rfl rfl ?_
        refine q_i2l dX8_parted_182 rfl ?_
        refine q_lmul dX8_parted_183 rfl ?_
        obtain ⟨down_55, e_down_55, hf⟩ := nm_ex hf
        rw [← e_down_55]
        refine q_lstore (ls' := [(2, 56), (0, i_0), (0, what_0), (1, up_54), (3, 0), (1, down_55), (3, 0), (0, its_17), (0, p_18), (1, mine_48), (3, 0), (1, sum_49), (3, 0), (0, all_50), (0, allMine_51), (3, 0)]) dX8_parted_184 rfl (Nat.le_of_ble_eq_true rfl) rfl ?_
        refine q_iload dX8_parted_186 rfl rfl ?_
        refine q_iload dX8_parted_188 rfl rfl ?_
        refine q_iadd dX8_parted_190 rfl ?_
        obtain ⟨its_56, e_its_56, hf⟩ := nm_ex hf
        rw [← e_its_56]
        refine q_istore (ls' := [(2, 56), (0, i_0), (0, what_0), (1, up_54), (3, 0), (1, down_55), (3, 0), (0, its_56), (0, p_18), (1, mine_48), (3, 0), (1, sum_49), (3, 0), (0, all_50), (0, allMine_51), (3, 0)]) dX8_parted_191 rfl (Nat.le_of_ble_eq_true rfl) rfl ?_
        exact J_K_53 _ _ _ _ hf
theorem S_X8_parted (X : XS) (i_0 : Int) (what_0 : Int) (h : Mem) : CT X yX8_parted MX8_parted (some .int) 0 2 [(2, 56), (0, i_0), (0, what_0)] h (F_X8_parted i_0 what_0 h) := by
  refine CT.ofI (by decide) rfl (Nat.le_of_ble_eq_true rfl) (fun r hf => ?_)
  unfold F_X8_parted at hf
  show AJ X MX8_parted (rmD 2) 0 [(2, 56), (0, i_0), (0, what_0), (3, 0), (3, 0), (3, 0), (3, 0), (3, 0), (3, 0), (3, 0), (3, 0), (3, 0), (3, 0), (3, 0), (3, 0), (3, 0)] [] h (PH 0 r)
  refine q_aload_n dX8_parted_0 rfl rfl ?_
  refine q_iconst dX8_parted_1 rfl rfl ?_
  refine g_put (k := 0) (kz := 0) dX8_parted_2 rfl fp_X8_68 rfl (fun q => q.1 rfl) rfl ?_
  obtain ⟨h_1, e_h_1, hf⟩ := nm_ex hf
  rw [← e_h_1]
  obtain ⟨K_2, J_K_2, hf⟩ := jn_ex (P := fun K => ∀ (h_3 : Mem), K h_3 = some r → AJ X MX8_parted (rmD 2) 22 [(2, 56), (0, i_0), (0, what_0), (3, 0), (3, 0), (3, 0), (3, 0), (3, 0), (3, 0), (3, 0), (3, 0), (3, 0), (3, 0), (3, 0), (3, 0), (3, 0)] [] h_3 (PH 0 r)) hf (by
      intro h_3 hf
      refine q_ldc (z := (-1000000)) dX8_parted_22 rfl kc_X8_246 (by decide +kernel) ?_
      exact g_ireturn dX8_parted_24 rfl hf)
  refine q_aload_n dX8_parted_5 rfl rfl ?_
  refine q_iload_n dX8_parted_6 rfl rfl ?_
  obtain ⟨r_4, h_5, e_6, hf⟩ := bd_ex hf
  refine g_Vb (vs := [(0, i_0)]) (st := []) dX8_parted_7 rfl (S_X8_isAct X i_0 h_1) e_6 mf_X8_isAct ml_X8_148 rfl rfl rfl rfl (fun b_7 => ?_)
  refine q_if_eq (tgt := 22) dX8_parted_10 rfl (by decide) (fun c_8 => ?_) (fun c_8 => ?_)
  · replace hf := it_f hf (by omega)
    exact J_K_2 _ hf
  · replace hf := it_t hf (by omega)
    refine q_iload_n dX8_parted_13 rfl rfl ?_
    refine q_iconst dX8_parted_14 rfl rfl ?_
    refine q_iconst dX8_parted_15 rfl rfl ?_
    obtain ⟨r_9, h_10, e_11, hf⟩ := bd_ex hf
    refine g_Sb (vs := [(0, what_0), (0, 0), (0, 1)]) (st := []) dX8_parted_16 rfl (S_X8_in X what_0 0 1 h_5) e_11 mf_X8_in ml_X8_72 rfl rfl rfl (fun b_12 => ?_)
    refine q_if_ne (tgt := 25) dX8_parted_19 rfl (by decide) (fun c_13 => ?_) (fun c_13 => ?_)
    · replace hf := it_t hf (by omega)
      refine q_lconst0 dX8_parted_25 rfl ?_
      refine q_lstore_n (ls' := [(2, 56), (0, i_0), (0, what_0), (1, 0), (3, 0), (3, 0), (3, 0), (3, 0), (3, 0), (3, 0), (3, 0), (3, 0), (3, 0), (3, 0), (3, 0), (3, 0)]) dX8_parted_26 rfl rfl (Nat.le_of_ble_eq_true rfl) rfl ?_
      refine q_lconst1 dX8_parted_27 rfl ?_
      refine q_lstore (ls' := [(2, 56), (0, i_0), (0, what_0), (1, 0), (3, 0), (1, 1), (3, 0), (3, 0), (3, 0), (3, 0), (3, 0), (3, 0), (3, 0), (3, 0), (3, 0), (3, 0)]) dX8_parted_28 rfl (Nat.le_of_ble_eq_true rfl) rfl ?_
      refine q_iconst dX8_parted_30 rfl rfl ?_
      refine q_istore (ls' := [(2, 56), (0, i_0), (0, what_0), (1, 0), (3, 0), (1, 1), (3, 0), (0, 0), (3, 0), (3, 0), (3, 0), (3, 0), (3, 0), (3, 0), (3, 0), (3, 0)]) dX8_parted_31 rfl (Nat.le_of_ble_eq_true rfl) rfl ?_
      refine q_iconst dX8_parted_33 rfl rfl ?_
      refine q_istore (ls' := [(2, 56), (0, i_0), (0, what_0), (1, 0), (3, 0), (1, 1), (3, 0), (0, 0), (0, 0), (3, 0), (3, 0), (3, 0), (3, 0), (3, 0), (3, 0), (3, 0)]) dX8_parted_34 rfl (Nat.le_of_ble_eq_true rfl) rfl ?_
      refine SL_X8_parted_1 X i_0 what_0  _ (fun up_65 down_66 its_67 p_68 h_64 hf => ?_) FU _ _ _ _ _ hf
      refine q_iload dX8_parted_199 rfl rfl ?_
      refine q_if_ne (tgt := 207) dX8_parted_201 rfl (by decide) (fun c_79 => ?_) (fun c_79 => ?_)
      · replace hf := it_f hf (by omega)
        refine q_lload dX8_parted_207 rfl rfl ?_
        refine q_iload dX8_parted_209 rfl rfl ?_
        refine q_i2l dX8_parted_211 rfl ?_
        refine q_lmul dX8_parted_212 rfl ?_
        obtain ⟨down_69, e_down_69, hf⟩ := nm_ex hf
        rw [← e_down_69]
        refine q_lstore (ls' := [(2, 56), (0, i_0), (0, what_0), (1, up_65), (3, 0), (1, down_69), (3, 0), (0, its_67), (0, p_68), (3, 0), (3, 0), (3, 0), (3, 0), (3, 0), (3, 0), (3, 0)]) dX8_parted_213 rfl (Nat.le_of_ble_eq_true rfl) rfl ?_
        refine q_lload_n dX8_parted_215 rfl rfl ?_
        refine q_lload dX8_parted_216 rfl rfl ?_
        obtain ⟨r_70, h_71, e_72, hf⟩ := bd_ex hf
        refine g_Sl (vs := [(1, up_65), (1, down_69)]) (st := []) dX8_parted_218 rfl (S_X8_gcd X up_65 down_69 h_64) e_72 mf_X8_gcd ml_X8_247 rfl rfl rfl ?_
        refine q_lstore (ls' := [(2, 56), (0, i_0), (0, what_0), (1, up_65), (3, 0), (1, down_69), (3, 0), (0, its_67), (1, r_70), (3, 0), (3, 0), (3, 0), (3, 0), (3, 0), (3, 0), (3, 0)]) dX8_parted_221 rfl (Nat.le_of_ble_eq_true rfl) rfl ?_
        obtain ⟨K_73, J_K_73, hf⟩ := jn_ex (P := fun K => ∀ (v_78 : Int) (h_77 : Mem), K v_78 h_77 = some r → AJ X MX8_parted (rmD 2) 239 [(2, 56), (0, i_0), (0, what_0), (1, up_65), (3, 0), (1, down_69), (3, 0), (0, its_67), (1, r_70), (3, 0), (3, 0), (3, 0), (3, 0), (3, 0), (3, 0), (3, 0)] [(1, v_78)] h_77 (PH 0 r)) hf (by
            intro v_78 h_77 hf
            refine q_l2i dX8_parted_239 rfl ?_
            exact g_ireturn dX8_parted_240 rfl hf)
        refine q_iload_n dX8_parted_223 rfl rfl ?_
        refine q_if_ne (tgt := 234) dX8_parted_224 rfl (by decide) (fun c_76 => ?_) (fun c_76 => ?_)
        · replace hf := it_f hf (by omega)
          refine q_lload dX8_parted_234 rfl rfl ?_
          refine q_lload dX8_parted_236 rfl rfl ?_
          obtain ⟨g_75, hf⟩ := gd_ex hf
          refine q_ldiv dX8_parted_238 rfl g_75 ?_
          exact J_K_73 _ _ hf
        · replace hf := it_t hf (by omega)
          refine q_lload_n dX8_parted_227 rfl rfl ?_
          refine q_lload dX8_parted_228 rfl rfl ?_
          obtain ⟨g_74, hf⟩ := gd_ex hf
          refine q_ldiv dX8_parted_230 rfl g_74 ?_
          refine q_goto (tgt := 239) dX8_parted_231 rfl (by decide) ?_
          exact J_K_73 _ _ hf
      · replace hf := it_t hf (by omega)
        refine q_ldc (z := (-1000000)) dX8_parted_204 rfl kc_X8_246 (by decide +kernel) ?_
        exact g_ireturn dX8_parted_206 rfl hf
    · replace hf := it_f hf (by omega)
      exact J_K_2 _ hf
def L_X8_opener_2 (best_3 least_4 i_5 : Int) (Kx : Int → Int → Mem → Res) : Nat → Int → Int → Mem → Res
  | 0, _, _, _ => none
  | n + 1, n_7, k_8, h_6 => if (k_8 < (h_6 56 33)) then (jn (fun (K_9 : Int → Mem → Res) => jn (fun (K_10 : Mem → Res) => gd (0 ≤ k_8 ∧ k_8 < 60) (if ((h_6 71 k_8) = i_5) then (if ((h_6 72 k_8) = 0) then (K_9 1 h_6) else (K_10 h_6)) else (K_10 h_6))) (fun (h_11 : Mem) => K_9 0 h_11)) (fun v_16 (h_15 : Mem) => nm (w32 (n_7 + v_16)) (fun n_17 => nm (w32 (k_8 + 1)) (fun k_18 => L_X8_opener_2 best_3 least_4 i_5 Kx n n_17 k_18 h_15)))) else (Kx n_7 k_8 h_6)
def L_X8_opener_1 (Kx : Int → Int → Int → Mem → Res) : Nat → Int → Int → Int → Mem → Res
  | 0, _, _, _, _ => none
  | n + 1, best_3, least_4, i_5, h_2 => if (i_5 < (h_2 56 10)) then (L_X8_opener_2 best_3 least_4 i_5 (fun n_21 k_22 (h_20 : Mem) => jn (fun (K_23 : Int → Int → Mem → Res) => jn (fun (K_24 : Mem → Res) => jn (fun (K_26 : Mem → Res) => if (best_3 = (-9)) then (K_24 h_20) else (if (n_21 < least_4) then (K_24 h_20) else (if (n_21 = least_4) then (bd (F_X8_of i_5 2 h_20) (fun r_31 (h_32 : Mem) => bd (F_X8_of best_3 2 h_32) (fun r_34 (h_35 : Mem) => if (r_31 < r_34) then (K_24 h_35) else (K_26 h_35)))) else (K_26 h_20)))) (fun (h_27 : Mem) => K_23 best_3 least_4 h_27)) (fun (h_25 : Mem) => K_23 i_5 n_21 h_25)) (fun best_39 least_40 (h_38 : Mem) => nm (w32 (i_5 + 1)) (fun i_41 => L_X8_opener_1 Kx n best_39 least_40 i_41 h_38))) FU 0 0 h_2) else (Kx best_3 least_4 i_5 h_2)
def F_X8_opener (h : Mem) : Res := nm (wr h 56 0 0) (fun (h_1 : Mem) => L_X8_opener_1 (fun best_44 least_45 i_46 (h_43 : Mem) => some (best_44, h_43)) FU (-9) 0 0 h_1)
theorem SL_X8_opener_2 (X : XS) (best_3 least_4 i_5 : Int) (Kx : Int → Int → Mem → Res) {r : Int × Mem} (hK : ∀ (n_7 k_8 : Int) (h_6 : Mem), Kx n_7 k_8 h_6 = some r → AJ X MX8_opener (rmD 1) 72 [(2, 56), (0, best_3), (0, least_4), (0, i_5), (0, n_7), (0, k_8)] [] h_6 (PH 0 r)) :
    ∀ (n : Nat) (n_7 k_8 : Int) (h_6 : Mem), L_X8_opener_2 best_3 least_4 i_5 Kx n n_7 k_8 h_6 = some r → AJ X MX8_opener (rmD 1) 26 [(2, 56), (0, best_3), (0, least_4), (0, i_5), (0, n_7), (0, k_8)] [] h_6 (PH 0 r) := by
  intro n
  induction n with
  | zero => intro n_7 k_8 h_6 hf; cases hf
  | succ n ih =>
    intro n_7 k_8 h_6 hf
    rw [L_X8_opener_2] at hf
    refine q_iload dX8_opener_26 rfl rfl ?_
    refine q_aload_n dX8_opener_28 rfl rfl ?_
    refine g_get (k := 33) (kz := 33) dX8_opener_29 rfl fg_X8_145 rfl rfl ?_
    refine q_icmp_ge (tgt := 72) dX8_opener_32 rfl (by decide) (fun c_19 => ?_) (fun c_19 => ?_)
    · replace hf := it_f hf (by omega)
      exact hK _ _ _ hf
    · replace hf := it_t hf (by omega)
      refine q_iload dX8_opener_35 rfl rfl ?_
      obtain ⟨K_9, J_K_9, hf⟩ := jn_ex (P := fun K => ∀ (v_16 : Int) (h_15 : Mem), K v_16 h_15 = some r → AJ X MX8_opener (rmD 1) 63 [(2, 56), (0, best_3), (0, least_4), (0, i_5), (0, n_7), (0, k_8)] [(0, v_16), (0, n_7)] h_15 (PH 0 r)) hf (by
          intro v_16 h_15 hf
          refine q_iadd dX8_opener_63 rfl ?_
          obtain ⟨n_17, e_n_17, hf⟩ := nm_ex hf
          rw [← e_n_17]
          refine q_istore (ls' := [(2, 56), (0, best_3), (0, least_4), (0, i_5), (0, n_17), (0, k_8)]) dX8_opener_64 rfl (Nat.le_of_ble_eq_true rfl) rfl ?_
          refine q_iinc (ls' := [(2, 56), (0, best_3), (0, least_4), (0, i_5), (0, n_17), (0, w32 (k_8 + 1))]) dX8_opener_66 rfl rfl rfl ?_
          obtain ⟨k_18, e_k_18, hf⟩ := nm_ex hf
          rw [← e_k_18]
          refine q_goto (tgt := 26) dX8_opener_69 rfl (by decide) ?_
          exact ih _ _ _ hf)
      obtain ⟨K_10, J_K_10, hf⟩ := jn_ex (P := fun K => ∀ (h_11 : Mem), K h_11 = some r → AJ X MX8_opener (rmD 1) 62 [(2, 56), (0, best_3), (0, least_4), (0, i_5), (0, n_7), (0, k_8)] [(0, n_7)] h_11 (PH 0 r)) hf (by
          intro h_11 hf
          refine q_iconst dX8_opener_62 rfl rfl ?_
          exact J_K_9 _ _ hf)
      refine q_aload_n dX8_opener_37 rfl rfl ?_
      refine g_getF (k := 30) (o := 15) (z := 71) dX8_opener_38 rfl fg_X8_53 rfl rfl rfl ?_
      refine q_iload dX8_opener_41 rfl rfl ?_
      obtain ⟨g_12, hf⟩ := gd_ex hf
      refine q_iaload dX8_opener_43 rfl rfl g_12 ?_
      refine q_iload_n dX8_opener_44 rfl rfl ?_
      refine q_icmp_ne (tgt := 62) dX8_opener_45 rfl (by decide) (fun c_13 => ?_) (fun c_13 => ?_)
      · replace hf := it_f hf (by omega)
        exact J_K_10 _ hf
      · replace hf := it_t hf (by omega)
        refine q_aload_n dX8_opener_48 rfl rfl ?_
        refine g_getF (k := 31) (o := 16) (z := 72) dX8_opener_49 rfl fg_X8_56 rfl rfl rfl ?_
        refine q_iload dX8_opener_52 rfl rfl ?_
        refine q_iaload dX8_opener_54 rfl rfl g_12 ?_
        refine q_if_ne (tgt := 62) dX8_opener_55 rfl (by decide) (fun c_14 => ?_) (fun c_14 => ?_)
        · replace hf := it_f hf (by omega)
          exact J_K_10 _ hf
        · replace hf := it_t hf (by omega)
          refine q_iconst dX8_opener_58 rfl rfl ?_
          refine q_goto (tgt := 63) dX8_opener_59 rfl (by decide) ?_
          exact J_K_9 _ _ hf
theorem SL_X8_opener_1 (X : XS) (Kx : Int → Int → Int → Mem → Res) {r : Int × Mem} (hK : ∀ (best_3 least_4 i_5 : Int) (h_2 : Mem), Kx best_3 least_4 i_5 h_2 = some r → AJ X MX8_opener (rmD 1) 116 [(2, 56), (0, best_3), (0, least_4), (0, i_5), (3, 0), (3, 0)] [] h_2 (PH 0 r)) :
    ∀ (n : Nat) (best_3 least_4 i_5 : Int) (h_2 : Mem), L_X8_opener_1 Kx n best_3 least_4 i_5 h_2 = some r → AJ X MX8_opener (rmD 1) 12 [(2, 56), (0, best_3), (0, least_4), (0, i_5), (3, 0), (3, 0)] [] h_2 (PH 0 r) := by
  intro n
  induction n with
  | zero => intro best_3 least_4 i_5 h_2 hf; cases hf
  | succ n ih =>
    intro best_3 least_4 i_5 h_2 hf
    rw [L_X8_opener_1] at hf
    refine q_iload_n dX8_opener_12 rfl rfl ?_
    refine q_aload_n dX8_opener_13 rfl rfl ?_
    refine g_get (k := 10) (kz := 10) dX8_opener_14 rfl fg_X8_142 rfl rfl ?_
    refine q_icmp_ge (tgt := 116) dX8_opener_17 rfl (by decide) (fun c_42 => ?_) (fun c_42 => ?_)
    · replace hf := it_f hf (by omega)
      exact hK _ _ _ _ hf
    · replace hf := it_t hf (by omega)
      refine q_iconst dX8_opener_20 rfl rfl ?_
      refine q_istore (ls' := [(2, 56), (0, best_3), (0, least_4), (0, i_5), (0, 0), (3, 0)]) dX8_opener_21 rfl (Nat.le_of_ble_eq_true rfl) rfl ?_
      refine q_iconst dX8_opener_23 rfl rfl ?_
      refine q_istore (ls' := [(2, 56), (0, best_3), (0, least_4), (0, i_5), (0, 0), (0, 0)]) dX8_opener_24 rfl (Nat.le_of_ble_eq_true rfl) rfl ?_
      refine SL_X8_opener_2 X best_3 least_4 i_5  _ (fun n_21 k_22 h_20 hf => ?_) FU _ _ _ hf
      refine g_frg (ls' := [(2, 56), (0, best_3), (0, least_4), (0, i_5), (0, n_21), (3, 0)]) [5] rfl ?_
      obtain ⟨K_23, J_K_23, hf⟩ := jn_ex (P := fun K => ∀ (best_39 least_40 : Int) (h_38 : Mem), K best_39 least_40 h_38 = some r → AJ X MX8_opener (rmD 1) 110 [(2, 56), (0, best_39), (0, least_40), (0, i_5), (0, n_21), (3, 0)] [] h_38 (PH 0 r)) hf (by
          intro best_39 least_40 h_38 hf
          refine q_iinc (ls' := [(2, 56), (0, best_39), (0, least_40), (0, w32 (i_5 + 1)), (0, n_21), (3, 0)]) dX8_opener_110 rfl rfl rfl ?_
          obtain ⟨i_41, e_i_41, hf⟩ := nm_ex hf
          rw [← e_i_41]
          refine q_goto (tgt := 12) dX8_opener_113 rfl (by decide) ?_
          refine g_frg (ls' := [(2, 56), (0, best_39), (0, least_40), (0, i_41), (3, 0), (3, 0)]) [4] rfl ?_
          exact ih _ _ _ _ hf)
      obtain ⟨K_24, J_K_24, hf⟩ := jn_ex (P := fun K => ∀ (h_25 : Mem), K h_25 = some r → AJ X MX8_opener (rmD 1) 105 [(2, 56), (0, best_3), (0, least_4), (0, i_5), (0, n_21), (3, 0)] [] h_25 (PH 0 r)) hf (by
          intro h_25 hf
          refine q_iload_n dX8_opener_105 rfl rfl ?_
          refine q_istore_n (ls' := [(2, 56), (0, i_5), (0, least_4), (0, i_5), (0, n_21), (3, 0)]) dX8_opener_106 rfl rfl (Nat.le_of_ble_eq_true rfl) rfl ?_
          refine q_iload dX8_opener_107 rfl rfl ?_
          refine q_istore_n (ls' := [(2, 56), (0, i_5), (0, n_21), (0, i_5), (0, n_21), (3, 0)]) dX8_opener_109 rfl rfl (Nat.le_of_ble_eq_true rfl) rfl ?_
          exact J_K_23 _ _ _ hf)
      obtain ⟨K_26, J_K_26, hf⟩ := jn_ex (P := fun K => ∀ (h_27 : Mem), K h_27 = some r → AJ X MX8_opener (rmD 1) 110 [(2, 56), (0, best_3), (0, least_4), (0, i_5), (0, n_21), (3, 0)] [] h_27 (PH 0 r)) hf (by
          intro h_27 hf
          exact J_K_23 _ _ _ hf)
      refine q_iload_n dX8_opener_72 rfl rfl ?_
      refine q_bipush dX8_opener_73 rfl (by decide) ?_
      refine q_icmp_eq (tgt := 105) dX8_opener_75 rfl (by decide) (fun c_28 => ?_) (fun c_28 => ?_)
      · replace hf := it_t hf (by omega)
        exact J_K_24 _ hf
      · replace hf := it_f hf (by omega)
        refine q_iload dX8_opener_78 rfl rfl ?_
        refine q_iload_n dX8_opener_80 rfl rfl ?_
        refine q_icmp_lt (tgt := 105) dX8_opener_81 rfl (by decide) (fun c_29 => ?_) (fun c_29 => ?_)
        · replace hf := it_t hf (by omega)
          exact J_K_24 _ hf
        · replace hf := it_f hf (by omega)
          refine q_iload dX8_opener_84 rfl rfl ?_
          refine q_iload_n dX8_opener_86 rfl rfl ?_
          refine q_icmp_ne (tgt := 110) dX8_opener_87 rfl (by decide) (fun c_30 => ?_) (fun c_30 => ?_)
          · replace hf := it_f hf (by omega)
            exact J_K_26 _ hf
          · replace hf := it_t hf (by omega)
            refine q_aload_n dX8_opener_90 rfl rfl ?_
            refine q_iload_n dX8_opener_91 rfl rfl ?_
            refine q_iconst dX8_opener_92 rfl rfl ?_
            obtain ⟨r_31, h_32, e_33, hf⟩ := bd_ex hf
            refine g_Vi (vs := [(0, i_5), (0, 2)]) (st := []) dX8_opener_93 rfl (S_X8_of X i_5 2 h_20) e_33 mf_X8_of ml_X8_151 rfl rfl rfl rfl ?_
            refine q_aload_n dX8_opener_96 rfl rfl ?_
            refine q_iload_n dX8_opener_97 rfl rfl ?_
            refine q_iconst dX8_opener_98 rfl rfl ?_
            obtain ⟨r_34, h_35, e_36, hf⟩ := bd_ex hf
            refine g_Vi (vs := [(0, best_3), (0, 2)]) (st := [(0, r_31)]) dX8_opener_99 rfl (S_X8_of X best_3 2 h_32) e_36 mf_X8_of ml_X8_151 rfl rfl rfl rfl ?_
            refine q_icmp_ge (tgt := 110) dX8_opener_102 rfl (by decide) (fun c_37 => ?_) (fun c_37 => ?_)
            · replace hf := it_f hf (by omega)
              exact J_K_26 _ hf
            · replace hf := it_t hf (by omega)
              exact J_K_24 _ hf
theorem S_X8_opener (X : XS) (h : Mem) : CT X yX8_opener MX8_opener (some .int) 0 1 [(2, 56)] h (F_X8_opener h) := by
  refine CT.ofI (by decide) rfl (Nat.le_of_ble_eq_true rfl) (fun r hf => ?_)
  unfold F_X8_opener at hf
  show AJ X MX8_opener (rmD 1) 0 [(2, 56), (3, 0), (3, 0), (3, 0), (3, 0), (3, 0)] [] h (PH 0 r)
  refine q_aload_n dX8_opener_0 rfl rfl ?_
  refine q_iconst dX8_opener_1 rfl rfl ?_
  refine g_put (k := 0) (kz := 0) dX8_opener_2 rfl fp_X8_68 rfl (fun q => q.1 rfl) rfl ?_
  obtain ⟨h_1, e_h_1, hf⟩ := nm_ex hf
  rw [← e_h_1]
  refine q_bipush dX8_opener_5 rfl (by decide) ?_
  refine q_istore_n (ls' := [(2, 56), (0, (-9)), (3, 0), (3, 0), (3, 0), (3, 0)]) dX8_opener_7 rfl rfl (Nat.le_of_ble_eq_true rfl) rfl ?_
  refine q_iconst dX8_opener_8 rfl rfl ?_
  refine q_istore_n (ls' := [(2, 56), (0, (-9)), (0, 0), (3, 0), (3, 0), (3, 0)]) dX8_opener_9 rfl rfl (Nat.le_of_ble_eq_true rfl) rfl ?_
  refine q_iconst dX8_opener_10 rfl rfl ?_
  refine q_istore_n (ls' := [(2, 56), (0, (-9)), (0, 0), (0, 0), (3, 0), (3, 0)]) dX8_opener_11 rfl rfl (Nat.le_of_ble_eq_true rfl) rfl ?_
  refine SL_X8_opener_1 X   _ (fun best_44 least_45 i_46 h_43 hf => ?_) FU _ _ _ _ hf
  refine q_iload_n dX8_opener_116 rfl rfl ?_
  exact g_ireturn dX8_opener_117 rfl hf
def L_X8_hold_3 (what_0 all_13 set_15 time_31 : Int) (Kx : Int → Mem → Res) : Nat → Int → Mem → Res
  | 0, _, _ => none
  | n + 1, p_38, h_37 => if (p_38 < (h_37 56 18)) then (jn (fun (K_39 : Mem → Res) => if ((iand (ishr set_15 p_38) 1) = 0) then (gd (0 ≤ (ior set_15 (ishl 1 p_38)) ∧ (ior set_15 (ishl 1 p_38)) < 512) (gd (0 ≤ p_38 ∧ p_38 < 10) (gd (0 ≤ (h_37 64 p_38) ∧ (h_37 64 p_38) < 9) (bd (F_X8_of (h_37 64 p_38) 1 h_37) (fun r_43 (h_44 : Mem) => nm (w32 ((h_37 75 (ior set_15 (ishl 1 p_38))) + (w32 ((h_37 60 (h_37 64 p_38)) * (w32 (time_31 + r_43)))))) (fun v_46 => jn (fun (K_47 : Int → Mem → Res) => gd (0 ≤ set_15 ∧ set_15 < 512) (if ((h_44 75 set_15) < v_46) then (K_47 v_46 h_44) else (K_47 (h_44 75 set_15) h_44))) (fun v_51 (h_50 : Mem) => gd (0 ≤ set_15 ∧ set_15 < 512) (nm (wr h_50 75 set_15 v_51) (fun (h_53 : Mem) => K_39 h_53))))))))) else (K_39 h_37)) (fun  (h_55 : Mem) => nm (w32 (p_38 + 1)) (fun p_56 => L_X8_hold_3 what_0 all_13 set_15 time_31 Kx n p_56 h_55))) else (Kx p_38 h_37)
def L_X8_hold_2 (what_0 all_13 set_15 : Int) (Kx : Int → Int → Mem → Res) : Nat → Int → Int → Mem → Res
  | 0, _, _, _ => none
  | n + 1, time_17, p_18, h_16 => if (p_18 < (h_16 56 18)) then (jn (fun (K_19 : Int → Mem → Res) => if ((iand (ishr set_15 p_18) 1) = 1) then (gd (0 ≤ p_18 ∧ p_18 < 10) (bd (F_X8_of (h_16 64 p_18) 1 h_16) (fun r_21 (h_22 : Mem) => K_19 r_21 h_22))) else (K_19 0 h_16)) (fun v_26 (h_25 : Mem) => nm (w32 (time_17 + v_26)) (fun time_27 => nm (w32 (p_18 + 1)) (fun p_28 => L_X8_hold_2 what_0 all_13 set_15 Kx n time_27 p_28 h_25)))) else (Kx time_17 p_18 h_16)
def L_X8_hold_5 (what_0 all_13 order_65 set_66 time_67 : Int) (Kx : Int → Mem → Res) : Nat → Int → Mem → Res
  | 0, _, _ => none
  | n + 1, p_69, h_68 => jn (fun (K_70 : Mem → Res) => if ((iand (ishr set_66 p_69) 1) = 1) then (K_70 h_68) else (gd (0 ≤ (ior set_66 (ishl 1 p_69)) ∧ (ior set_66 (ishl 1 p_69)) < 512) (gd (0 ≤ p_69 ∧ p_69 < 10) (gd (0 ≤ (h_68 64 p_69) ∧ (h_68 64 p_69) < 9) (bd (F_X8_of (h_68 64 p_69) 1 h_68) (fun r_77 (h_78 : Mem) => gd (0 ≤ set_66 ∧ set_66 < 512) (if (¬ (w32 ((h_68 75 (ior set_66 (ishl 1 p_69))) + (w32 ((h_68 60 (h_68 64 p_69)) * (w32 (time_67 + r_77)))))) = (h_78 75 set_66)) then (K_70 h_78) else (Kx p_69 h_78)))))))) (fun (h_71 : Mem) => nm (w32 (p_69 + 1)) (fun p_72 => L_X8_hold_5 what_0 all_13 order_65 set_66 time_67 Kx n p_72 h_71))
def L_X8_hold_4 (what_0 all_13 : Int) (Kx : Int → Int → Int → Mem → Res) : Nat → Int → Int → Int → Mem → Res
  | 0, _, _, _, _ => none
  | n + 1, order_65, set_66, time_67, h_64 => if (¬ set_66 = all_13) then (L_X8_hold_5 what_0 all_13 order_65 set_66 time_67 (fun p_83 (h_82 : Mem) => gd (0 ≤ p_83 ∧ p_83 < 10) (nm (w32 ((w32 (10 * order_65)) + (h_82 64 p_83))) (fun order_85 => bd (F_X8_of (h_82 64 p_83) 1 h_82) (fun r_86 (h_87 : Mem) => nm (w32 (time_67 + r_86)) (fun time_89 => nm (ior set_66 (ishl 1 p_83)) (fun set_90 => L_X8_hold_4 what_0 all_13 Kx n order_85 set_90 time_89 h_87)))))) FU 0 h_64) else (Kx order_65 set_66 time_67 h_64)
def L_X8_hold_1 (what_0 all_13 : Int) (Kx : Int → Mem → Res) : Nat → Int → Mem → Res
  | 0, _, _ => none
  | n + 1, set_15, h_14 => if (0 ≤ set_15) then (L_X8_hold_2 what_0 all_13 set_15 (fun time_31 p_32 (h_30 : Mem) => nm (α := Int) (if (set_15 = all_13) then 0 else (-1)) (fun v_33 => gd (0 ≤ set_15 ∧ set_15 < 512) (nm (wr h_30 75 set_15 v_33) (fun (h_36 : Mem) => L_X8_hold_3 what_0 all_13 set_15 time_31 (fun p_59 (h_58 : Mem) => nm (w32 (set_15 + (-1))) (fun set_60 => L_X8_hold_1 what_0 all_13 Kx n set_60 h_58)) FU 0 h_36)))) FU 0 0 h_14) else (Kx set_15 h_14)
def F_X8_hold (what_0 : Int) (h : Mem) : Res := nm (wr h 56 0 0) (fun (h_1 : Mem) => bd (F_X8_in what_0 0 1 h_1) (fun r_2 (h_3 : Mem) => if (¬ r_2 = 0) then (if ((h_3 61 0) = 0) then (some ((-2), h_3)) else (bd (F_X8_asBilled  h_3) (fun _ (h_8 : Mem) => bd (F_X8_sortsRow  h_8) (fun _ (h_11 : Mem) => nm (w32 ((ishl 1 (h_11 56 18)) - 1)) (fun all_13 => L_X8_hold_1 what_0 all_13 (fun set_63 (h_62 : Mem) => if (what_0 = 0) then (some (h_62 75 0, h_62)) else (L_X8_hold_4 what_0 all_13 (fun order_93 set_94 time_95 (h_92 : Mem) => some (order_93, h_92)) FU 0 0 0 h_62)) FU all_13 h_11))))) else (some ((-1), h_3))))
theorem SL_X8_hold_3 (X : XS) (what_0 all_13 set_15 time_31 : Int) (Kx : Int → Mem → Res) {r : Int × Mem} (hK : ∀ (p_38 : Int) (h_37 : Mem), Kx p_38 h_37 = some r → AJ X MX8_hold (rmD 2) 216 [(2, 56), (0, what_0), (0, all_13), (0, set_15), (0, time_31), (0, p_38), (3, 0)] [] h_37 (PH 0 r)) :
    ∀ (n : Nat) (p_38 : Int) (h_37 : Mem), L_X8_hold_3 what_0 all_13 set_15 time_31 Kx n p_38 h_37 = some r → AJ X MX8_hold (rmD 2) 122 [(2, 56), (0, what_0), (0, all_13), (0, set_15), (0, time_31), (0, p_38), (3, 0)] [] h_37 (PH 0 r) := by
  intro n
  induction n with
  | zero => intro p_38 h_37 hf; cases hf
  | succ n ih =>
    intro p_38 h_37 hf
    rw [L_X8_hold_3] at hf
    refine q_iload dX8_hold_122 rfl rfl ?_
    refine q_aload_n dX8_hold_124 rfl rfl ?_
    refine g_get (k := 18) (kz := 18) dX8_hold_125 rfl fg_X8_160 rfl rfl ?_
    refine q_icmp_ge (tgt := 216) dX8_hold_128 rfl (by decide) (fun c_57 => ?_) (fun c_57 => ?_)
    · replace hf := it_f hf (by omega)
      exact hK _ _ hf
    · replace hf := it_t hf (by omega)
      obtain ⟨K_39, J_K_39, hf⟩ := jn_ex (P := fun K => ∀ (h_55 : Mem), K  h_55 = some r → AJ X MX8_hold (rmD 2) 210 [(2, 56), (0, what_0), (0, all_13), (0, set_15), (0, time_31), (0, p_38), (3, 0)] [] h_55 (PH 0 r)) hf (by
          intro  h_55 hf
          refine q_iinc (ls' := [(2, 56), (0, what_0), (0, all_13), (0, set_15), (0, time_31), (0, w32 (p_38 + 1)), (3, 0)]) dX8_hold_210 rfl rfl rfl ?_
          obtain ⟨p_56, e_p_56, hf⟩ := nm_ex hf
          rw [← e_p_56]
          refine q_goto (tgt := 122) dX8_hold_213 rfl (by decide) ?_
          exact ih _ _ hf)
      refine q_iload_n dX8_hold_131 rfl rfl ?_
      refine q_iload dX8_hold_132 rfl rfl ?_
      refine q_ishr dX8_hold_134 rfl ?_
      refine q_iconst dX8_hold_135 rfl rfl ?_
      refine q_iand dX8_hold_136 rfl ?_
      refine q_if_ne (tgt := 210) dX8_hold_137 rfl (by decide) (fun c_54 => ?_) (fun c_54 => ?_)
      · replace hf := it_f hf (by omega)
        exact J_K_39 _ hf
      · replace hf := it_t hf (by omega)
        refine q_aload_n dX8_hold_140 rfl rfl ?_
        refine g_getF (k := 40) (o := 19) (z := 75) dX8_hold_141 rfl fg_X8_65 rfl rfl rfl ?_
        refine q_iload_n dX8_hold_144 rfl rfl ?_
        refine q_iconst dX8_hold_145 rfl rfl ?_
        refine q_iload dX8_hold_146 rfl rfl ?_
        refine q_ishl dX8_hold_148 rfl ?_
        refine q_ior dX8_hold_149 rfl ?_
        obtain ⟨g_40, hf⟩ := gd_ex hf
        refine q_iaload dX8_hold_150 rfl rfl g_40 ?_
        refine q_aload_n dX8_hold_151 rfl rfl ?_
        refine g_getF (k := 13) (o := 4) (z := 60) dX8_hold_152 rfl fg_X8_19 rfl rfl rfl ?_
        refine q_aload_n dX8_hold_155 rfl rfl ?_
        refine g_getF (k := 17) (o := 8) (z := 64) dX8_hold_156 rfl fg_X8_32 rfl rfl rfl ?_
        refine q_iload dX8_hold_159 rfl rfl ?_
        obtain ⟨g_41, hf⟩ := gd_ex hf
        refine q_iaload dX8_hold_161 rfl rfl g_41 ?_
        obtain ⟨g_42, hf⟩ := gd_ex hf
        refine q_iaload dX8_hold_162 rfl rfl g_42 ?_
        refine q_iload dX8_hold_163 rfl rfl ?_
        refine q_aload_n dX8_hold_165 rfl rfl ?_
        refine q_aload_n dX8_hold_166 rfl rfl ?_
        refine g_getF (k := 17) (o := 8) (z := 64) dX8_hold_167 rfl fg_X8_32 rfl rfl rfl ?_
        refine q_iload dX8_hold_170 rfl rfl ?_
        refine q_iaload dX8_hold_172 rfl rfl g_41 ?_
        refine q_iconst dX8_hold_173 rfl rfl ?_
        obtain ⟨r_43, h_44, e_45, hf⟩ := bd_ex hf
        refine g_Vi (vs := [(0, h_37 64 p_38), (0, 1)]) (st := [(0, time_31), (0, h_37 60 (h_37 64 p_38)), (0, h_37 75 (ior set_15 (ishl 1 p_38)))]) dX8_hold_174 rfl (S_X8_of X (h_37 64 p_38) 1 h_37) e_45 mf_X8_of ml_X8_151 rfl rfl rfl rfl ?_
        refine q_iadd dX8_hold_177 rfl ?_
        refine q_imul dX8_hold_178 rfl ?_
        refine q_iadd dX8_hold_179 rfl ?_
        obtain ⟨v_46, e_v_46, hf⟩ := nm_ex hf
        rw [← e_v_46]
        refine q_istore (ls' := [(2, 56), (0, what_0), (0, all_13), (0, set_15), (0, time_31), (0, p_38), (0, v_46)]) dX8_hold_180 rfl (Nat.le_of_ble_eq_true rfl) rfl ?_
        refine q_aload_n dX8_hold_182 rfl rfl ?_
        refine g_getF (k := 40) (o := 19) (z := 75) dX8_hold_183 rfl fg_X8_65 rfl rfl rfl ?_
        refine q_iload_n dX8_hold_186 rfl rfl ?_
        obtain ⟨K_47, J_K_47, hf⟩ := jn_ex (P := fun K => ∀ (v_51 : Int) (h_50 : Mem), K v_51 h_50 = some r → AJ X MX8_hold (rmD 2) 209 [(2, 56), (0, what_0), (0, all_13), (0, set_15), (0, time_31), (0, p_38), (0, v_46)] [(0, v_51), (0, set_15), (2, 75)] h_50 (PH 0 r)) hf (by
            intro v_51 h_50 hf
            obtain ⟨g_52, hf⟩ := gd_ex hf
            refine q_iastore dX8_hold_209 rfl rfl g_52 ?_
            obtain ⟨h_53, e_h_53, hf⟩ := nm_ex hf
            rw [← e_h_53]
            refine g_frg (ls' := [(2, 56), (0, what_0), (0, all_13), (0, set_15), (0, time_31), (0, p_38), (3, 0)]) [6] rfl ?_
            exact J_K_39 _ hf)
        refine q_iload dX8_hold_187 rfl rfl ?_
        refine q_aload_n dX8_hold_189 rfl rfl ?_
        refine g_getF (k := 40) (o := 19) (z := 75) dX8_hold_190 rfl fg_X8_65 rfl rfl rfl ?_
        refine q_iload_n dX8_hold_193 rfl rfl ?_
        obtain ⟨g_48, hf⟩ := gd_ex hf
        refine q_iaload dX8_hold_194 rfl rfl g_48 ?_
        refine q_icmp_le (tgt := 203) dX8_hold_195 rfl (by decide) (fun c_49 => ?_) (fun c_49 => ?_)
        · replace hf := it_f hf (by omega)
          refine q_aload_n dX8_hold_203 rfl rfl ?_
          refine g_getF (k := 40) (o := 19) (z := 75) dX8_hold_204 rfl fg_X8_65 rfl rfl rfl ?_
          refine q_iload_n dX8_hold_207 rfl rfl ?_
          refine q_iaload dX8_hold_208 rfl rfl g_48 ?_
          exact J_K_47 _ _ hf
        · replace hf := it_t hf (by omega)
          refine q_iload dX8_hold_198 rfl rfl ?_
          refine q_goto (tgt := 209) dX8_hold_200 rfl (by decide) ?_
          exact J_K_47 _ _ hf
theorem SL_X8_hold_2 (X : XS) (what_0 all_13 set_15 : Int) (Kx : Int → Int → Mem → Res) {r : Int × Mem} (hK : ∀ (time_17 p_18 : Int) (h_16 : Mem), Kx time_17 p_18 h_16 = some r → AJ X MX8_hold (rmD 2) 103 [(2, 56), (0, what_0), (0, all_13), (0, set_15), (0, time_17), (0, p_18), (3, 0)] [] h_16 (PH 0 r)) :
    ∀ (n : Nat) (time_17 p_18 : Int) (h_16 : Mem), L_X8_hold_2 what_0 all_13 set_15 Kx n time_17 p_18 h_16 = some r → AJ X MX8_hold (rmD 2) 57 [(2, 56), (0, what_0), (0, all_13), (0, set_15), (0, time_17), (0, p_18), (3, 0)] [] h_16 (PH 0 r) := by
  intro n
  induction n with
  | zero => intro time_17 p_18 h_16 hf; cases hf
  | succ n ih =>
    intro time_17 p_18 h_16 hf
    rw [L_X8_hold_2] at hf
    refine q_iload dX8_hold_57 rfl rfl ?_
    refine q_aload_n dX8_hold_59 rfl rfl ?_
    refine g_get (k := 18) (kz := 18) dX8_hold_60 rfl fg_X8_160 rfl rfl ?_
    refine q_icmp_ge (tgt := 103) dX8_hold_63 rfl (by decide) (fun c_29 => ?_) (fun c_29 => ?_)
    · replace hf := it_f hf (by omega)
      exact hK _ _ _ hf
    · replace hf := it_t hf (by omega)
      refine q_iload dX8_hold_66 rfl rfl ?_
      obtain ⟨K_19, J_K_19, hf⟩ := jn_ex (P := fun K => ∀ (v_26 : Int) (h_25 : Mem), K v_26 h_25 = some r → AJ X MX8_hold (rmD 2) 94 [(2, 56), (0, what_0), (0, all_13), (0, set_15), (0, time_17), (0, p_18), (3, 0)] [(0, v_26), (0, time_17)] h_25 (PH 0 r)) hf (by
          intro v_26 h_25 hf
          refine q_iadd dX8_hold_94 rfl ?_
          obtain ⟨time_27, e_time_27, hf⟩ := nm_ex hf
          rw [← e_time_27]
          refine q_istore (ls' := [(2, 56), (0, what_0), (0, all_13), (0, set_15), (0, time_27), (0, p_18), (3, 0)]) dX8_hold_95 rfl (Nat.le_of_ble_eq_true rfl) rfl ?_
          refine q_iinc (ls' := [(2, 56), (0, what_0), (0, all_13), (0, set_15), (0, time_27), (0, w32 (p_18 + 1)), (3, 0)]) dX8_hold_97 rfl rfl rfl ?_
          obtain ⟨p_28, e_p_28, hf⟩ := nm_ex hf
          rw [← e_p_28]
          refine q_goto (tgt := 57) dX8_hold_100 rfl (by decide) ?_
          exact ih _ _ _ hf)
      refine q_iload_n dX8_hold_68 rfl rfl ?_
      refine q_iload dX8_hold_69 rfl rfl ?_
      refine q_ishr dX8_hold_71 rfl ?_
      refine q_iconst dX8_hold_72 rfl rfl ?_
      refine q_iand dX8_hold_73 rfl ?_
      refine q_iconst dX8_hold_74 rfl rfl ?_
      refine q_icmp_ne (tgt := 93) dX8_hold_75 rfl (by decide) (fun c_24 => ?_) (fun c_24 => ?_)
      · replace hf := it_f hf (by omega)
        refine q_iconst dX8_hold_93 rfl rfl ?_
        exact J_K_19 _ _ hf
      · replace hf := it_t hf (by omega)
        refine q_aload_n dX8_hold_78 rfl rfl ?_
        refine q_aload_n dX8_hold_79 rfl rfl ?_
        refine g_getF (k := 17) (o := 8) (z := 64) dX8_hold_80 rfl fg_X8_32 rfl rfl rfl ?_
        refine q_iload dX8_hold_83 rfl rfl ?_
        obtain ⟨g_20, hf⟩ := gd_ex hf
        refine q_iaload dX8_hold_85 rfl rfl g_20 ?_
        refine q_iconst dX8_hold_86 rfl rfl ?_
        obtain ⟨r_21, h_22, e_23, hf⟩ := bd_ex hf
        refine g_Vi (vs := [(0, h_16 64 p_18), (0, 1)]) (st := [(0, time_17)]) dX8_hold_87 rfl (S_X8_of X (h_16 64 p_18) 1 h_16) e_23 mf_X8_of ml_X8_151 rfl rfl rfl rfl ?_
        refine q_goto (tgt := 94) dX8_hold_90 rfl (by decide) ?_
        exact J_K_19 _ _ hf
theorem SL_X8_hold_5 (X : XS) (what_0 all_13 order_65 set_66 time_67 : Int) (Kx : Int → Mem → Res) {r : Int × Mem} (hK : ∀ (p_69 : Int) (h_68 : Mem), Kx p_69 h_68 = some r → AJ X MX8_hold (rmD 2) 318 [(2, 56), (0, what_0), (0, all_13), (0, order_65), (0, set_66), (0, time_67), (0, p_69)] [] h_68 (PH 0 r)) :
    ∀ (n : Nat) (p_69 : Int) (h_68 : Mem), L_X8_hold_5 what_0 all_13 order_65 set_66 time_67 Kx n p_69 h_68 = some r → AJ X MX8_hold (rmD 2) 250 [(2, 56), (0, what_0), (0, all_13), (0, order_65), (0, set_66), (0, time_67), (0, p_69)] [] h_68 (PH 0 r) := by
  intro n
  induction n with
  | zero => intro p_69 h_68 hf; cases hf
  | succ n ih =>
    intro p_69 h_68 hf
    rw [L_X8_hold_5] at hf
    obtain ⟨K_70, J_K_70, hf⟩ := jn_ex (P := fun K => ∀ (h_71 : Mem), K h_71 = some r → AJ X MX8_hold (rmD 2) 312 [(2, 56), (0, what_0), (0, all_13), (0, order_65), (0, set_66), (0, time_67), (0, p_69)] [] h_71 (PH 0 r)) hf (by
        intro h_71 hf
        refine q_iinc (ls' := [(2, 56), (0, what_0), (0, all_13), (0, order_65), (0, set_66), (0, time_67), (0, w32 (p_69 + 1))]) dX8_hold_312 rfl rfl rfl ?_
        obtain ⟨p_72, e_p_72, hf⟩ := nm_ex hf
        rw [← e_p_72]
        refine q_goto (tgt := 250) dX8_hold_315 rfl (by decide) ?_
        exact ih _ _ hf)
    refine q_iload dX8_hold_250 rfl rfl ?_
    refine q_iload dX8_hold_252 rfl rfl ?_
    refine q_ishr dX8_hold_254 rfl ?_
    refine q_iconst dX8_hold_255 rfl rfl ?_
    refine q_iand dX8_hold_256 rfl ?_
    refine q_iconst dX8_hold_257 rfl rfl ?_
    refine q_icmp_eq (tgt := 312) dX8_hold_258 rfl (by decide) (fun c_73 => ?_) (fun c_73 => ?_)
    · replace hf := it_t hf (by omega)
      exact J_K_70 _ hf
    · replace hf := it_f hf (by omega)
      refine q_aload_n dX8_hold_261 rfl rfl ?_
      refine g_getF (k := 40) (o := 19) (z := 75) dX8_hold_262 rfl fg_X8_65 rfl rfl rfl ?_
      refine q_iload dX8_hold_265 rfl rfl ?_
      refine q_iconst dX8_hold_267 rfl rfl ?_
      refine q_iload dX8_hold_268 rfl rfl ?_
      refine q_ishl dX8_hold_270 rfl ?_
      refine q_ior dX8_hold_271 rfl ?_
      obtain ⟨g_74, hf⟩ := gd_ex hf
      refine q_iaload dX8_hold_272 rfl rfl g_74 ?_
      refine q_aload_n dX8_hold_273 rfl rfl ?_
      refine g_getF (k := 13) (o := 4) (z := 60) dX8_hold_274 rfl fg_X8_19 rfl rfl rfl ?_
      refine q_aload_n dX8_hold_277 rfl rfl ?_
      refine g_getF (k := 17) (o := 8) (z := 64) dX8_hold_278 rfl fg_X8_32 rfl rfl rfl ?_
      refine q_iload dX8_hold_281 rfl rfl ?_
      obtain ⟨g_75, hf⟩ := gd_ex hf
      refine q_iaload dX8_hold_283 rfl rfl g_75 ?_
      obtain ⟨g_76, hf⟩ := gd_ex hf
      refine q_iaload dX8_hold_284 rfl rfl g_76 ?_
      refine q_iload dX8_hold_285 rfl rfl ?_
      refine q_aload_n dX8_hold_287 rfl rfl ?_
      refine q_aload_n dX8_hold_288 rfl rfl ?_
      refine g_getF (k := 17) (o := 8) (z := 64) dX8_hold_289 rfl fg_X8_32 rfl rfl rfl ?_
      refine q_iload dX8_hold_292 rfl rfl ?_
      refine q_iaload dX8_hold_294 rfl rfl g_75 ?_
      refine q_iconst dX8_hold_295 rfl rfl ?_
      obtain ⟨r_77, h_78, e_79, hf⟩ := bd_ex hf
      refine g_Vi (vs := [(0, h_68 64 p_69), (0, 1)]) (st := [(0, time_67), (0, h_68 60 (h_68 64 p_69)), (0, h_68 75 (ior set_66 (ishl 1 p_69)))]) dX8_hold_296 rfl (S_X8_of X (h_68 64 p_69) 1 h_68) e_79 mf_X8_of ml_X8_151 rfl rfl rfl rfl ?_
      refine q_iadd dX8_hold_299 rfl ?_
      refine q_imul dX8_hold_300 rfl ?_
      refine q_iadd dX8_hold_301 rfl ?_
      refine q_aload_n dX8_hold_302 rfl rfl ?_
      refine g_getF (k := 40) (o := 19) (z := 75) dX8_hold_303 rfl fg_X8_65 rfl rfl rfl ?_
      refine q_iload dX8_hold_306 rfl rfl ?_
      obtain ⟨g_80, hf⟩ := gd_ex hf
      refine q_iaload dX8_hold_308 rfl rfl g_80 ?_
      refine q_icmp_eq (tgt := 318) dX8_hold_309 rfl (by decide) (fun c_81 => ?_) (fun c_81 => ?_)
      · replace hf := it_f hf (by omega)
        exact hK _ _ hf
      · replace hf := it_t hf (by omega)
        exact J_K_70 _ hf
theorem SL_X8_hold_4 (X : XS) (what_0 all_13 : Int) (Kx : Int → Int → Int → Mem → Res) {r : Int × Mem} (hK : ∀ (order_65 set_66 time_67 : Int) (h_64 : Mem), Kx order_65 set_66 time_67 h_64 = some r → AJ X MX8_hold (rmD 2) 360 [(2, 56), (0, what_0), (0, all_13), (0, order_65), (0, set_66), (0, time_67), (3, 0)] [] h_64 (PH 0 r)) :
    ∀ (n : Nat) (order_65 set_66 time_67 : Int) (h_64 : Mem), L_X8_hold_4 what_0 all_13 Kx n order_65 set_66 time_67 h_64 = some r → AJ X MX8_hold (rmD 2) 241 [(2, 56), (0, what_0), (0, all_13), (0, order_65), (0, set_66), (0, time_67), (3, 0)] [] h_64 (PH 0 r) := by
  intro n
  induction n with
  | zero => intro order_65 set_66 time_67 h_64 hf; cases hf
  | succ n ih =>
    intro order_65 set_66 time_67 h_64 hf
    rw [L_X8_hold_4] at hf
    refine q_iload dX8_hold_241 rfl rfl ?_
    refine q_iload_n dX8_hold_243 rfl rfl ?_
    refine q_icmp_eq (tgt := 360) dX8_hold_244 rfl (by decide) (fun c_91 => ?_) (fun c_91 => ?_)
    · replace hf := it_f hf (by omega)
      exact hK _ _ _ _ hf
    · replace hf := it_t hf (by omega)
      refine q_iconst dX8_hold_247 rfl rfl ?_
      refine q_istore (ls' := [(2, 56), (0, what_0), (0, all_13), (0, order_65), (0, set_66), (0, time_67), (0, 0)]) dX8_hold_248 rfl (Nat.le_of_ble_eq_true rfl) rfl ?_
      refine SL_X8_hold_5 X what_0 all_13 order_65 set_66 time_67  _ (fun p_83 h_82 hf => ?_) FU _ _ hf
      refine q_bipush dX8_hold_318 rfl (by decide) ?_
      refine q_iload_n dX8_hold_320 rfl rfl ?_
      refine q_imul dX8_hold_321 rfl ?_
      refine q_aload_n dX8_hold_322 rfl rfl ?_
      refine g_getF (k := 17) (o := 8) (z := 64) dX8_hold_323 rfl fg_X8_32 rfl rfl rfl ?_
      refine q_iload dX8_hold_326 rfl rfl ?_
      obtain ⟨g_84, hf⟩ := gd_ex hf
      refine q_iaload dX8_hold_328 rfl rfl g_84 ?_
      refine q_iadd dX8_hold_329 rfl ?_
      obtain ⟨order_85, e_order_85, hf⟩ := nm_ex hf
      rw [← e_order_85]
      refine q_istore_n (ls' := [(2, 56), (0, what_0), (0, all_13), (0, order_85), (0, set_66), (0, time_67), (0, p_83)]) dX8_hold_330 rfl rfl (Nat.le_of_ble_eq_true rfl) rfl ?_
      refine q_iload dX8_hold_331 rfl rfl ?_
      refine q_aload_n dX8_hold_333 rfl rfl ?_
      refine q_aload_n dX8_hold_334 rfl rfl ?_
      refine g_getF (k := 17) (o := 8) (z := 64) dX8_hold_335 rfl fg_X8_32 rfl rfl rfl ?_
      refine q_iload dX8_hold_338 rfl rfl ?_
      refine q_iaload dX8_hold_340 rfl rfl g_84 ?_
      refine q_iconst dX8_hold_341 rfl rfl ?_
      obtain ⟨r_86, h_87, e_88, hf⟩ := bd_ex hf
      refine g_Vi (vs := [(0, h_82 64 p_83), (0, 1)]) (st := [(0, time_67)]) dX8_hold_342 rfl (S_X8_of X (h_82 64 p_83) 1 h_82) e_88 mf_X8_of ml_X8_151 rfl rfl rfl rfl ?_
      refine q_iadd dX8_hold_345 rfl ?_
      obtain ⟨time_89, e_time_89, hf⟩ := nm_ex hf
      rw [← e_time_89]
      refine q_istore (ls' := [(2, 56), (0, what_0), (0, all_13), (0, order_85), (0, set_66), (0, time_89), (0, p_83)]) dX8_hold_346 rfl (Nat.le_of_ble_eq_true rfl) rfl ?_
      refine q_iload dX8_hold_348 rfl rfl ?_
      refine q_iconst dX8_hold_350 rfl rfl ?_
      refine q_iload dX8_hold_351 rfl rfl ?_
      refine q_ishl dX8_hold_353 rfl ?_
      refine q_ior dX8_hold_354 rfl ?_
      obtain ⟨set_90, e_set_90, hf⟩ := nm_ex hf
      rw [← e_set_90]
      refine q_istore (ls' := [(2, 56), (0, what_0), (0, all_13), (0, order_85), (0, set_90), (0, time_89), (0, p_83)]) dX8_hold_355 rfl (Nat.le_of_ble_eq_true rfl) rfl ?_
      refine q_goto (tgt := 241) dX8_hold_357 rfl (by decide) ?_
      refine g_frg (ls' := [(2, 56), (0, what_0), (0, all_13), (0, order_85), (0, set_90), (0, time_89), (3, 0)]) [6] rfl ?_
      exact ih _ _ _ _ hf
theorem SL_X8_hold_1 (X : XS) (what_0 all_13 : Int) (Kx : Int → Mem → Res) {r : Int × Mem} (hK : ∀ (set_15 : Int) (h_14 : Mem), Kx set_15 h_14 = some r → AJ X MX8_hold (rmD 2) 222 [(2, 56), (0, what_0), (0, all_13), (0, set_15), (3, 0), (3, 0), (3, 0)] [] h_14 (PH 0 r)) :
    ∀ (n : Nat) (set_15 : Int) (h_14 : Mem), L_X8_hold_1 what_0 all_13 Kx n set_15 h_14 = some r → AJ X MX8_hold (rmD 2) 47 [(2, 56), (0, what_0), (0, all_13), (0, set_15), (3, 0), (3, 0), (3, 0)] [] h_14 (PH 0 r) := by
  intro n
  induction n with
  | zero => intro set_15 h_14 hf; cases hf
  | succ n ih =>
    intro set_15 h_14 hf
    rw [L_X8_hold_1] at hf
    refine q_iload_n dX8_hold_47 rfl rfl ?_
    refine q_if_lt (tgt := 222) dX8_hold_48 rfl (by decide) (fun c_61 => ?_) (fun c_61 => ?_)
    · replace hf := it_f hf (by omega)
      exact hK _ _ hf
    · replace hf := it_t hf (by omega)
      refine q_iconst dX8_hold_51 rfl rfl ?_
      refine q_istore (ls' := [(2, 56), (0, what_0), (0, all_13), (0, set_15), (0, 0), (3, 0), (3, 0)]) dX8_hold_52 rfl (Nat.le_of_ble_eq_true rfl) rfl ?_
      refine q_iconst dX8_hold_54 rfl rfl ?_
      refine q_istore (ls' := [(2, 56), (0, what_0), (0, all_13), (0, set_15), (0, 0), (0, 0), (3, 0)]) dX8_hold_55 rfl (Nat.le_of_ble_eq_true rfl) rfl ?_
      refine SL_X8_hold_2 X what_0 all_13 set_15  _ (fun time_31 p_32 h_30 hf => ?_) FU _ _ _ hf
      refine q_aload_n dX8_hold_103 rfl rfl ?_
      refine g_getF (k := 40) (o := 19) (z := 75) dX8_hold_104 rfl fg_X8_65 rfl rfl rfl ?_
      refine q_iload_n dX8_hold_107 rfl rfl ?_
      obtain ⟨v_33, e_v_33, hf⟩ := nm_ex hf
      have J_v_33 : AJ X MX8_hold (rmD 2) 118 [(2, 56), (0, what_0), (0, all_13), (0, set_15), (0, time_31), (0, p_32), (3, 0)] [(0, v_33), (0, set_15), (2, 75)] h_30 (PH 0 r) := by
        obtain ⟨g_35, hf⟩ := gd_ex hf
        refine q_iastore dX8_hold_118 rfl rfl g_35 ?_
        obtain ⟨h_36, e_h_36, hf⟩ := nm_ex hf
        rw [← e_h_36]
        refine q_iconst dX8_hold_119 rfl rfl ?_
        refine q_istore (ls' := [(2, 56), (0, what_0), (0, all_13), (0, set_15), (0, time_31), (0, 0), (3, 0)]) dX8_hold_120 rfl (Nat.le_of_ble_eq_true rfl) rfl ?_
        refine SL_X8_hold_3 X what_0 all_13 set_15 time_31  _ (fun p_59 h_58 hf => ?_) FU _ _ hf
        refine q_iinc (ls' := [(2, 56), (0, what_0), (0, all_13), (0, w32 (set_15 + (-1))), (0, time_31), (0, p_59), (3, 0)]) dX8_hold_216 rfl rfl rfl ?_
        obtain ⟨set_60, e_set_60, hf⟩ := nm_ex hf
        rw [← e_set_60]
        refine q_goto (tgt := 47) dX8_hold_219 rfl (by decide) ?_
        refine g_frg (ls' := [(2, 56), (0, what_0), (0, all_13), (0, set_60), (3, 0), (3, 0), (3, 0)]) [4, 5] rfl ?_
        exact ih _ _ hf
      clear hf
      refine q_iload_n dX8_hold_108 rfl rfl ?_
      refine q_iload_n dX8_hold_109 rfl rfl ?_
      refine q_icmp_ne (tgt := 117) dX8_hold_110 rfl (by decide) (fun c_34 => ?_) (fun c_34 => ?_)
      · refine q_iconst dX8_hold_117 rfl rfl ?_
        have e1 : v_33 = (-1) := by omega
        subst e1
        exact J_v_33
      · refine q_iconst dX8_hold_113 rfl rfl ?_
        refine q_goto (tgt := 118) dX8_hold_114 rfl (by decide) ?_
        have e1 : v_33 = 0 := by omega
        subst e1
        exact J_v_33
theorem S_X8_hold (X : XS) (what_0 : Int) (h : Mem) : CT X yX8_hold MX8_hold (some .int) 0 2 [(2, 56), (0, what_0)] h (F_X8_hold what_0 h) := by
  refine CT.ofI (by decide) rfl (Nat.le_of_ble_eq_true rfl) (fun r hf => ?_)
  unfold F_X8_hold at hf
  show AJ X MX8_hold (rmD 2) 0 [(2, 56), (0, what_0), (3, 0), (3, 0), (3, 0), (3, 0), (3, 0)] [] h (PH 0 r)
  refine q_aload_n dX8_hold_0 rfl rfl ?_
  refine q_iconst dX8_hold_1 rfl rfl ?_
  refine g_put (k := 0) (kz := 0) dX8_hold_2 rfl fp_X8_68 rfl (fun q => q.1 rfl) rfl ?_
  obtain ⟨h_1, e_h_1, hf⟩ := nm_ex hf
  rw [← e_h_1]
  refine q_iload_n dX8_hold_5 rfl rfl ?_
  refine q_iconst dX8_hold_6 rfl rfl ?_
  refine q_iconst dX8_hold_7 rfl rfl ?_
  obtain ⟨r_2, h_3, e_4, hf⟩ := bd_ex hf
  refine g_Sb (vs := [(0, what_0), (0, 0), (0, 1)]) (st := []) dX8_hold_8 rfl (S_X8_in X what_0 0 1 h_1) e_4 mf_X8_in ml_X8_72 rfl rfl rfl (fun b_5 => ?_)
  refine q_if_ne (tgt := 16) dX8_hold_11 rfl (by decide) (fun c_6 => ?_) (fun c_6 => ?_)
  · replace hf := it_t hf (by omega)
    refine q_aload_n dX8_hold_16 rfl rfl ?_
    refine g_getF (k := 14) (o := 5) (z := 61) dX8_hold_17 rfl fg_X8_22 rfl rfl rfl ?_
    refine q_iconst dX8_hold_20 rfl rfl ?_
    refine q_iaload dX8_hold_21 rfl rfl (by decide) ?_
    refine q_if_ne (tgt := 28) dX8_hold_22 rfl (by decide) (fun c_97 => ?_) (fun c_97 => ?_)
    · replace hf := it_f hf (by omega)
      refine q_aload_n dX8_hold_28 rfl rfl ?_
      obtain ⟨r_7, h_8, e_9, hf⟩ := bd_ex hf
      refine g_Vv (vs := []) (st := []) dX8_hold_29 rfl (S_X8_asBilled X  h_3) e_9 mf_X8_asBilled ml_X8_175 rfl rfl rfl rfl ?_
      refine q_aload_n dX8_hold_32 rfl rfl ?_
      obtain ⟨r_10, h_11, e_12, hf⟩ := bd_ex hf
      refine g_Vv (vs := []) (st := []) dX8_hold_33 rfl (S_X8_sortsRow X  h_8) e_12 mf_X8_sortsRow ml_X8_212 rfl rfl rfl rfl ?_
      refine q_iconst dX8_hold_36 rfl rfl ?_
      refine q_aload_n dX8_hold_37 rfl rfl ?_
      refine g_get (k := 18) (kz := 18) dX8_hold_38 rfl fg_X8_160 rfl rfl ?_
      refine q_ishl dX8_hold_41 rfl ?_
      refine q_iconst dX8_hold_42 rfl rfl ?_
      refine q_isub dX8_hold_43 rfl ?_
      obtain ⟨all_13, e_all_13, hf⟩ := nm_ex hf
      rw [← e_all_13]
      refine q_istore_n (ls' := [(2, 56), (0, what_0), (0, all_13), (3, 0), (3, 0), (3, 0), (3, 0)]) dX8_hold_44 rfl rfl (Nat.le_of_ble_eq_true rfl) rfl ?_
      refine q_iload_n dX8_hold_45 rfl rfl ?_
      refine q_istore_n (ls' := [(2, 56), (0, what_0), (0, all_13), (0, all_13), (3, 0), (3, 0), (3, 0)]) dX8_hold_46 rfl rfl (Nat.le_of_ble_eq_true rfl) rfl ?_
      refine SL_X8_hold_1 X what_0 all_13  _ (fun set_63 h_62 hf => ?_) FU _ _ hf
      refine q_iload_n dX8_hold_222 rfl rfl ?_
      refine q_if_ne (tgt := 233) dX8_hold_223 rfl (by decide) (fun c_96 => ?_) (fun c_96 => ?_)
      · replace hf := it_f hf (by omega)
        refine q_iconst dX8_hold_233 rfl rfl ?_
        refine q_istore_n (ls' := [(2, 56), (0, what_0), (0, all_13), (0, 0), (3, 0), (3, 0), (3, 0)]) dX8_hold_234 rfl rfl (Nat.le_of_ble_eq_true rfl) rfl ?_
        refine q_iconst dX8_hold_235 rfl rfl ?_
        refine q_istore (ls' := [(2, 56), (0, what_0), (0, all_13), (0, 0), (0, 0), (3, 0), (3, 0)]) dX8_hold_236 rfl (Nat.le_of_ble_eq_true rfl) rfl ?_
        refine q_iconst dX8_hold_238 rfl rfl ?_
        refine q_istore (ls' := [(2, 56), (0, what_0), (0, all_13), (0, 0), (0, 0), (0, 0), (3, 0)]) dX8_hold_239 rfl (Nat.le_of_ble_eq_true rfl) rfl ?_
        refine SL_X8_hold_4 X what_0 all_13  _ (fun order_93 set_94 time_95 h_92 hf => ?_) FU _ _ _ _ hf
        refine q_iload_n dX8_hold_360 rfl rfl ?_
        exact g_ireturn dX8_hold_361 rfl hf
      · replace hf := it_t hf (by omega)
        refine q_aload_n dX8_hold_226 rfl rfl ?_
        refine g_getF (k := 40) (o := 19) (z := 75) dX8_hold_227 rfl fg_X8_65 rfl rfl rfl ?_
        refine q_iconst dX8_hold_230 rfl rfl ?_
        refine q_iaload dX8_hold_231 rfl rfl (by decide) ?_
        exact g_ireturn dX8_hold_232 rfl hf
    · replace hf := it_t hf (by omega)
      refine q_bipush dX8_hold_25 rfl (by decide) ?_
      exact g_ireturn dX8_hold_27 rfl hf
  · replace hf := it_f hf (by omega)
    refine q_iconst dX8_hold_14 rfl rfl ?_
    exact g_ireturn dX8_hold_15 rfl hf
def F_X8_drawn (h : Mem) : Res := nm (wr h 56 0 0) (fun (h_1 : Mem) => if ((h_1 61 0) = 0) then (some ((-2), h_1)) else (bd (F_X8_asBilled  h_1) (fun _ (h_3 : Mem) => bd (F_X8_lays  h_3) (fun _ (h_6 : Mem) => bd (F_X8_nightOf 1 h_6) (fun r_8 (h_9 : Mem) => some (r_8, h_9))))))
theorem S_X8_drawn (X : XS) (h : Mem) : CT X yX8_drawn MX8_drawn (some .int) 0 4 [(2, 56)] h (F_X8_drawn h) := by
  refine CT.ofI (by decide) rfl (Nat.le_of_ble_eq_true rfl) (fun r hf => ?_)
  unfold F_X8_drawn at hf
  show AJ X MX8_drawn (rmD 4) 0 [(2, 56)] [] h (PH 0 r)
  refine q_aload_n dX8_drawn_0 rfl rfl ?_
  refine q_iconst dX8_drawn_1 rfl rfl ?_
  refine g_put (k := 0) (kz := 0) dX8_drawn_2 rfl fp_X8_68 rfl (fun q => q.1 rfl) rfl ?_
  obtain ⟨h_1, e_h_1, hf⟩ := nm_ex hf
  rw [← e_h_1]
  refine q_aload_n dX8_drawn_5 rfl rfl ?_
  refine g_getF (k := 14) (o := 5) (z := 61) dX8_drawn_6 rfl fg_X8_22 rfl rfl rfl ?_
  refine q_iconst dX8_drawn_9 rfl rfl ?_
  refine q_iaload dX8_drawn_10 rfl rfl (by decide) ?_
  refine q_if_ne (tgt := 17) dX8_drawn_11 rfl (by decide) (fun c_11 => ?_) (fun c_11 => ?_)
  · replace hf := it_f hf (by omega)
    refine q_aload_n dX8_drawn_17 rfl rfl ?_
    obtain ⟨r_2, h_3, e_4, hf⟩ := bd_ex hf
    refine g_Vv (vs := []) (st := []) dX8_drawn_18 rfl (S_X8_asBilled X  h_1) e_4 mf_X8_asBilled ml_X8_175 rfl rfl rfl rfl ?_
    refine q_aload_n dX8_drawn_21 rfl rfl ?_
    obtain ⟨r_5, h_6, e_7, hf⟩ := bd_ex hf
    refine g_Vv (vs := []) (st := []) dX8_drawn_22 rfl (S_X8_lays X  h_3) e_7 mf_X8_lays ml_X8_178 rfl rfl rfl rfl ?_
    refine q_aload_n dX8_drawn_25 rfl rfl ?_
    refine q_iconst dX8_drawn_26 rfl rfl ?_
    obtain ⟨r_8, h_9, e_10, hf⟩ := bd_ex hf
    refine g_Vi (vs := [(0, 1)]) (st := []) dX8_drawn_27 rfl (S_X8_nightOf X 1 h_6) e_10 mf_X8_nightOf ml_X8_205 rfl rfl rfl rfl ?_
    exact g_ireturn dX8_drawn_30 rfl hf
  · replace hf := it_t hf (by omega)
    refine q_bipush dX8_drawn_14 rfl (by decide) ?_
    exact g_ireturn dX8_drawn_16 rfl hf
def F_X8_lot (v_0 : Int) (h : Mem) : Res := nm (wr h 56 0 0) (fun (h_1 : Mem) => nm (h_1 61 2) (fun was_2 => nm (wr h_1 61 2 v_0) (fun (h_3 : Mem) => some (was_2, h_3))))
theorem S_X8_lot (X : XS) (v_0 : Int) (h : Mem) : CT X yX8_lot MX8_lot (some .int) 0 0 [(2, 56), (0, v_0)] h (F_X8_lot v_0 h) := by
  refine CT.ofI (by decide) rfl (Nat.le_of_ble_eq_true rfl) (fun r hf => ?_)
  unfold F_X8_lot at hf
  show AJ X MX8_lot (rmD 0) 0 [(2, 56), (0, v_0), (3, 0)] [] h (PH 0 r)
  refine q_aload_n dX8_lot_0 rfl rfl ?_
  refine q_iconst dX8_lot_1 rfl rfl ?_
  refine g_put (k := 0) (kz := 0) dX8_lot_2 rfl fp_X8_68 rfl (fun q => q.1 rfl) rfl ?_
  obtain ⟨h_1, e_h_1, hf⟩ := nm_ex hf
  rw [← e_h_1]
  refine q_aload_n dX8_lot_5 rfl rfl ?_
  refine g_getF (k := 14) (o := 5) (z := 61) dX8_lot_6 rfl fg_X8_22 rfl rfl rfl ?_
  refine q_iconst dX8_lot_9 rfl rfl ?_
  refine q_iaload dX8_lot_10 rfl rfl (by decide) ?_
  obtain ⟨was_2, e_was_2, hf⟩ := nm_ex hf
  rw [← e_was_2]
  refine q_istore_n (ls' := [(2, 56), (0, v_0), (0, was_2)]) dX8_lot_11 rfl rfl (Nat.le_of_ble_eq_true rfl) rfl ?_
  refine q_aload_n dX8_lot_12 rfl rfl ?_
  refine g_getF (k := 14) (o := 5) (z := 61) dX8_lot_13 rfl fg_X8_22 rfl rfl rfl ?_
  refine q_iconst dX8_lot_16 rfl rfl ?_
  refine q_iload_n dX8_lot_17 rfl rfl ?_
  refine q_iastore dX8_lot_18 rfl rfl (by decide) ?_
  obtain ⟨h_3, e_h_3, hf⟩ := nm_ex hf
  rw [← e_h_3]
  refine q_iload_n dX8_lot_19 rfl rfl ?_
  exact g_ireturn dX8_lot_20 rfl hf
def F_X8_rate (kind_0 i_0 : Int) (h : Mem) : Res := nm (wr h 56 0 0) (fun (h_1 : Mem) => jn (fun (K_2 : Mem → Res) => bd (F_X8_in kind_0 0 5 h_1) (fun r_4 (h_5 : Mem) => if (¬ r_4 = 0) then (bd (F_X8_isAct i_0 h_5) (fun r_9 (h_10 : Mem) => if (¬ r_9 = 0) then (bd (F_X8_of i_0 2 h_10) (fun r_14 (h_15 : Mem) => nm (w32 (r_14 + (h_15 59 4))) (fun opening_17 => bd (F_X8_of i_0 4 h_15) (fun r_18 (h_19 : Mem) => bd (F_X8_of i_0 5 h_19) (fun r_21 (h_22 : Mem) => nm (w32 ((w32 (r_14 - r_18)) - r_21)) (fun closing_24 => nm (α := Int) (if (kind_0 = 0) then 1 else (if (kind_0 = 1) then 11 else (if (kind_0 = 2) then 101 else (if (kind_0 = 3) then 1011 else (if (kind_0 = 4) then 110001 else 100001))))) (fun v_25 => nm (wr h_22 56 1 (w64 ((h_22 56 1) + v_25))) (fun (h_31 : Mem) => if (kind_0 = 0) then (some (r_14, h_31)) else (if (kind_0 = 1) then (some (opening_17, h_31)) else (if (kind_0 = 2) then (bd (F_X8_of i_0 1 h_31) (fun r_32 (h_33 : Mem) => some (w32 (r_14 + r_32), h_33))) else (if (kind_0 = 3) then (some (w32 (2 * opening_17), h_31)) else (if (kind_0 = 4) then (gd (0 ≤ i_0 ∧ i_0 < 9) (some (w32 (closing_24 + (h_31 60 i_0)), h_31))) else (some (closing_24, h_31)))))))))))))) else (K_2 h_10))) else (K_2 h_5))) (fun (h_3 : Mem) => some ((-1000000), h_3)))
theorem S_X8_rate (X : XS) (kind_0 : Int) (i_0 : Int) (h : Mem) : CT X yX8_rate MX8_rate (some .int) 0 2 [(2, 56), (0, kind_0), (0, i_0)] h (F_X8_rate kind_0 i_0 h) := by
  refine CT.ofI (by decide) rfl (Nat.le_of_ble_eq_true rfl) (fun r hf => ?_)
  unfold F_X8_rate at hf
  show AJ X MX8_rate (rmD 2) 0 [(2, 56), (0, kind_0), (0, i_0), (3, 0), (3, 0), (3, 0)] [] h (PH 0 r)
  refine q_aload_n dX8_rate_0 rfl rfl ?_
  refine q_iconst dX8_rate_1 rfl rfl ?_
  refine g_put (k := 0) (kz := 0) dX8_rate_2 rfl fp_X8_68 rfl (fun q => q.1 rfl) rfl ?_
  obtain ⟨h_1, e_h_1, hf⟩ := nm_ex hf
  rw [← e_h_1]
  obtain ⟨K_2, J_K_2, hf⟩ := jn_ex (P := fun K => ∀ (h_3 : Mem), K h_3 = some r → AJ X MX8_rate (rmD 2) 22 [(2, 56), (0, kind_0), (0, i_0), (3, 0), (3, 0), (3, 0)] [] h_3 (PH 0 r)) hf (by
      intro h_3 hf
      refine q_ldc (z := (-1000000)) dX8_rate_22 rfl kc_X8_246 (by decide +kernel) ?_
      exact g_ireturn dX8_rate_24 rfl hf)
  refine q_iload_n dX8_rate_5 rfl rfl ?_
  refine q_iconst dX8_rate_6 rfl rfl ?_
  refine q_iconst dX8_rate_7 rfl rfl ?_
  obtain ⟨r_4, h_5, e_6, hf⟩ := bd_ex hf
  refine g_Sb (vs := [(0, kind_0), (0, 0), (0, 5)]) (st := []) dX8_rate_8 rfl (S_X8_in X kind_0 0 5 h_1) e_6 mf_X8_in ml_X8_72 rfl rfl rfl (fun b_7 => ?_)
  refine q_if_eq (tgt := 22) dX8_rate_11 rfl (by decide) (fun c_8 => ?_) (fun c_8 => ?_)
  · replace hf := it_f hf (by omega)
    exact J_K_2 _ hf
  · replace hf := it_t hf (by omega)
    refine q_aload_n dX8_rate_14 rfl rfl ?_
    refine q_iload_n dX8_rate_15 rfl rfl ?_
    obtain ⟨r_9, h_10, e_11, hf⟩ := bd_ex hf
    refine g_Vb (vs := [(0, i_0)]) (st := []) dX8_rate_16 rfl (S_X8_isAct X i_0 h_5) e_11 mf_X8_isAct ml_X8_148 rfl rfl rfl rfl (fun b_12 => ?_)
    refine q_if_ne (tgt := 25) dX8_rate_19 rfl (by decide) (fun c_13 => ?_) (fun c_13 => ?_)
    · replace hf := it_t hf (by omega)
      refine q_aload_n dX8_rate_25 rfl rfl ?_
      refine q_iload_n dX8_rate_26 rfl rfl ?_
      refine q_iconst dX8_rate_27 rfl rfl ?_
      obtain ⟨r_14, h_15, e_16, hf⟩ := bd_ex hf
      refine g_Vi (vs := [(0, i_0), (0, 2)]) (st := []) dX8_rate_28 rfl (S_X8_of X i_0 2 h_10) e_16 mf_X8_of ml_X8_151 rfl rfl rfl rfl ?_
      refine q_istore_n (ls' := [(2, 56), (0, kind_0), (0, i_0), (0, r_14), (3, 0), (3, 0)]) dX8_rate_31 rfl rfl (Nat.le_of_ble_eq_true rfl) rfl ?_
      refine q_iload_n dX8_rate_32 rfl rfl ?_
      refine q_aload_n dX8_rate_33 rfl rfl ?_
      refine g_getF (k := 12) (o := 3) (z := 59) dX8_rate_34 rfl fg_X8_16 rfl rfl rfl ?_
      refine q_iconst dX8_rate_37 rfl rfl ?_
      refine q_iaload dX8_rate_38 rfl rfl (by decide) ?_
      refine q_iadd dX8_rate_39 rfl ?_
      obtain ⟨opening_17, e_opening_17, hf⟩ := nm_ex hf
      rw [← e_opening_17]
      refine q_istore (ls' := [(2, 56), (0, kind_0), (0, i_0), (0, r_14), (0, opening_17), (3, 0)]) dX8_rate_40 rfl (Nat.le_of_ble_eq_true rfl) rfl ?_
      refine q_iload_n dX8_rate_42 rfl rfl ?_
      refine q_aload_n dX8_rate_43 rfl rfl ?_
      refine q_iload_n dX8_rate_44 rfl rfl ?_
      refine q_iconst dX8_rate_45 rfl rfl ?_
      obtain ⟨r_18, h_19, e_20, hf⟩ := bd_ex hf
      refine g_Vi (vs := [(0, i_0), (0, 4)]) (st := [(0, r_14)]) dX8_rate_46 rfl (S_X8_of X i_0 4 h_15) e_20 mf_X8_of ml_X8_151 rfl rfl rfl rfl ?_
      refine q_isub dX8_rate_49 rfl ?_
      refine q_aload_n dX8_rate_50 rfl rfl ?_
      refine q_iload_n dX8_rate_51 rfl rfl ?_
      refine q_iconst dX8_rate_52 rfl rfl ?_
      obtain ⟨r_21, h_22, e_23, hf⟩ := bd_ex hf
      refine g_Vi (vs := [(0, i_0), (0, 5)]) (st := [(0, w32 (r_14 - r_18))]) dX8_rate_53 rfl (S_X8_of X i_0 5 h_19) e_23 mf_X8_of ml_X8_151 rfl rfl rfl rfl ?_
      refine q_isub dX8_rate_56 rfl ?_
      obtain ⟨closing_24, e_closing_24, hf⟩ := nm_ex hf
      rw [← e_closing_24]
      refine q_istore (ls' := [(2, 56), (0, kind_0), (0, i_0), (0, r_14), (0, opening_17), (0, closing_24)]) dX8_rate_57 rfl (Nat.le_of_ble_eq_true rfl) rfl ?_
      refine q_aload_n dX8_rate_59 rfl rfl ?_
      refine q_dup dX8_rate_60 rfl (by decide) ?_
      refine g_get (k := 1) (kz := 1) dX8_rate_61 rfl fg_X8_251 rfl rfl ?_
      obtain ⟨v_25, e_v_25, hf⟩ := nm_ex hf
      have J_v_25 : AJ X MX8_rate (rmD 2) 119 [(2, 56), (0, kind_0), (0, i_0), (0, r_14), (0, opening_17), (0, closing_24)] [(1, v_25), (1, h_22 56 1), (2, 56)] h_22 (PH 0 r) := by
        refine q_ladd dX8_rate_119 rfl ?_
        refine g_put (k := 1) (kz := 1) dX8_rate_120 rfl fp_X8_251 rfl (fun q => q.2 rfl) rfl ?_
        obtain ⟨h_31, e_h_31, hf⟩ := nm_ex hf
        rw [← e_h_31]
        refine q_iload_n dX8_rate_123 rfl rfl ?_
        refine q_if_ne (tgt := 131) dX8_rate_124 rfl (by decide) (fun c_40 => ?_) (fun c_40 => ?_)
        · replace hf := it_f hf (by omega)
          refine q_iload_n dX8_rate_131 rfl rfl ?_
          refine q_iconst dX8_rate_132 rfl rfl ?_
          refine q_icmp_ne (tgt := 141) dX8_rate_133 rfl (by decide) (fun c_39 => ?_) (fun c_39 => ?_)
          · replace hf := it_f hf (by omega)
            refine q_iload_n dX8_rate_141 rfl rfl ?_
            refine q_iconst dX8_rate_142 rfl rfl ?_
            refine q_icmp_ne (tgt := 157) dX8_rate_143 rfl (by decide) (fun c_38 => ?_) (fun c_38 => ?_)
            · replace hf := it_f hf (by omega)
              refine q_iload_n dX8_rate_157 rfl rfl ?_
              refine q_iconst dX8_rate_158 rfl rfl ?_
              refine q_icmp_ne (tgt := 169) dX8_rate_159 rfl (by decide) (fun c_37 => ?_) (fun c_37 => ?_)
              · replace hf := it_f hf (by omega)
                refine q_iload_n dX8_rate_169 rfl rfl ?_
                refine q_iconst dX8_rate_170 rfl rfl ?_
                refine q_icmp_ne (tgt := 186) dX8_rate_171 rfl (by decide) (fun c_36 => ?_) (fun c_36 => ?_)
                · replace hf := it_f hf (by omega)
                  refine q_iload dX8_rate_186 rfl rfl ?_
                  exact g_ireturn dX8_rate_188 rfl hf
                · replace hf := it_t hf (by omega)
                  refine q_iload dX8_rate_174 rfl rfl ?_
                  refine q_aload_n dX8_rate_176 rfl rfl ?_
                  refine g_getF (k := 13) (o := 4) (z := 60) dX8_rate_177 rfl fg_X8_19 rfl rfl rfl ?_
                  refine q_iload_n dX8_rate_180 rfl rfl ?_
                  obtain ⟨g_35, hf⟩ := gd_ex hf
                  refine q_iaload dX8_rate_181 rfl rfl g_35 ?_
                  refine q_iadd dX8_rate_182 rfl ?_
                  refine q_goto (tgt := 188) dX8_rate_183 rfl (by decide) ?_
                  exact g_ireturn dX8_rate_188 rfl hf
              · replace hf := it_t hf (by omega)
                refine q_iconst dX8_rate_162 rfl rfl ?_
                refine q_iload dX8_rate_163 rfl rfl ?_
                refine q_imul dX8_rate_165 rfl ?_
                refine q_goto (tgt := 188) dX8_rate_166 rfl (by decide) ?_
                exact g_ireturn dX8_rate_188 rfl hf
            · replace hf := it_t hf (by omega)
              refine q_iload_n dX8_rate_146 rfl rfl ?_
              refine q_aload_n dX8_rate_147 rfl rfl ?_
              refine q_iload_n dX8_rate_148 rfl rfl ?_
              refine q_iconst dX8_rate_149 rfl rfl ?_
              obtain ⟨r_32, h_33, e_34, hf⟩ := bd_ex hf
              refine g_Vi (vs := [(0, i_0), (0, 1)]) (st := [(0, r_14)]) dX8_rate_150 rfl (S_X8_of X i_0 1 h_31) e_34 mf_X8_of ml_X8_151 rfl rfl rfl rfl ?_
              refine q_iadd dX8_rate_153 rfl ?_
              refine q_goto (tgt := 188) dX8_rate_154 rfl (by decide) ?_
              exact g_ireturn dX8_rate_188 rfl hf
          · replace hf := it_t hf (by omega)
            refine q_iload dX8_rate_136 rfl rfl ?_
            refine q_goto (tgt := 188) dX8_rate_138 rfl (by decide) ?_
            exact g_ireturn dX8_rate_188 rfl hf
        · replace hf := it_t hf (by omega)
          refine q_iload_n dX8_rate_127 rfl rfl ?_
          refine q_goto (tgt := 188) dX8_rate_128 rfl (by decide) ?_
          exact g_ireturn dX8_rate_188 rfl hf
      clear hf
      refine q_iload_n dX8_rate_64 rfl rfl ?_
      refine q_if_ne (tgt := 72) dX8_rate_65 rfl (by decide) (fun c_26 => ?_) (fun c_26 => ?_)
      · refine q_iload_n dX8_rate_72 rfl rfl ?_
        refine q_iconst dX8_rate_73 rfl rfl ?_
        refine q_icmp_ne (tgt := 83) dX8_rate_74 rfl (by decide) (fun c_27 => ?_) (fun c_27 => ?_)
        · refine q_iload_n dX8_rate_83 rfl rfl ?_
          refine q_iconst dX8_rate_84 rfl rfl ?_
          refine q_icmp_ne (tgt := 94) dX8_rate_85 rfl (by decide) (fun c_28 => ?_) (fun c_28 => ?_)
          · refine q_iload_n dX8_rate_94 rfl rfl ?_
            refine q_iconst dX8_rate_95 rfl rfl ?_
            refine q_icmp_ne (tgt := 105) dX8_rate_96 rfl (by decide) (fun c_29 => ?_) (fun c_29 => ?_)
            · refine q_iload_n dX8_rate_105 rfl rfl ?_
              refine q_iconst dX8_rate_106 rfl rfl ?_
              refine q_icmp_ne (tgt := 116) dX8_rate_107 rfl (by decide) (fun c_30 => ?_) (fun c_30 => ?_)
              · refine q_ldc2 (z := 100001) dX8_rate_116 rfl kl_X8_263 (by decide +kernel) ?_
                have e1 : v_25 = 100001 := by omega
                subst e1
                exact J_v_25
              · refine q_ldc2 (z := 110001) dX8_rate_110 rfl kl_X8_261 (by decide +kernel) ?_
                refine q_goto (tgt := 119) dX8_rate_113 rfl (by decide) ?_
                have e1 : v_25 = 110001 := by omega
                subst e1
                exact J_v_25
            · refine q_ldc2 (z := 1011) dX8_rate_99 rfl kl_X8_259 (by decide +kernel) ?_
              refine q_goto (tgt := 119) dX8_rate_102 rfl (by decide) ?_
              have e1 : v_25 = 1011 := by omega
              subst e1
              exact J_v_25
          · refine q_ldc2 (z := 101) dX8_rate_88 rfl kl_X8_257 (by decide +kernel) ?_
            refine q_goto (tgt := 119) dX8_rate_91 rfl (by decide) ?_
            have e1 : v_25 = 101 := by omega
            subst e1
            exact J_v_25
        · refine q_ldc2 (z := 11) dX8_rate_77 rfl kl_X8_255 (by decide +kernel) ?_
          refine q_goto (tgt := 119) dX8_rate_80 rfl (by decide) ?_
          have e1 : v_25 = 11 := by omega
          subst e1
          exact J_v_25
      · refine q_lconst1 dX8_rate_68 rfl ?_
        refine q_goto (tgt := 119) dX8_rate_69 rfl (by decide) ?_
        have e1 : v_25 = 1 := by omega
        subst e1
        exact J_v_25
    · replace hf := it_f hf (by omega)
      exact J_K_2 _ hf
def L_X8_keep_1 (image_0 : Int) (Kx : Int → Mem → Res) : Nat → Int → Mem → Res
  | 0, _, _ => none
  | n + 1, k_8, h_7 => if (k_8 < 12) then (gd (0 ≤ k_8 ∧ k_8 < 12) (gd (0 ≤ (w32 ((w32 (12 * image_0)) + k_8)) ∧ (w32 ((w32 (12 * image_0)) + k_8)) < 24) (nm (wr h_7 62 (w32 ((w32 (12 * image_0)) + k_8)) (h_7 61 k_8)) (fun (h_11 : Mem) => nm (w32 (k_8 + 1)) (fun k_12 => L_X8_keep_1 image_0 Kx n k_12 h_11))))) else (Kx k_8 h_7)
def F_X8_keep (image_0 : Int) (h : Mem) : Res := nm (wr h 56 0 0) (fun (h_1 : Mem) => bd (F_X8_in image_0 0 1 h_1) (fun r_2 (h_3 : Mem) => if (¬ r_2 = 0) then (L_X8_keep_1 image_0 (fun k_15 (h_14 : Mem) => gd (0 ≤ image_0 ∧ image_0 < 2) (nm (wr h_14 63 image_0 1) (fun (h_17 : Mem) => some (h_17 61 0, h_17)))) FU 0 h_3) else (some ((-1), h_3))))
theorem SL_X8_keep_1 (X : XS) (image_0 : Int) (Kx : Int → Mem → Res) {r : Int × Mem} (hK : ∀ (k_8 : Int) (h_7 : Mem), Kx k_8 h_7 = some r → AJ X MX8_keep (rmD 1) 47 [(2, 56), (0, image_0), (0, k_8)] [] h_7 (PH 0 r)) :
    ∀ (n : Nat) (k_8 : Int) (h_7 : Mem), L_X8_keep_1 image_0 Kx n k_8 h_7 = some r → AJ X MX8_keep (rmD 1) 18 [(2, 56), (0, image_0), (0, k_8)] [] h_7 (PH 0 r) := by
  intro n
  induction n with
  | zero => intro k_8 h_7 hf; cases hf
  | succ n ih =>
    intro k_8 h_7 hf
    rw [L_X8_keep_1] at hf
    refine q_iload_n dX8_keep_18 rfl rfl ?_
    refine q_bipush dX8_keep_19 rfl (by decide) ?_
    refine q_icmp_ge (tgt := 47) dX8_keep_21 rfl (by decide) (fun c_13 => ?_) (fun c_13 => ?_)
    · replace hf := it_f hf (by omega)
      exact hK _ _ hf
    · replace hf := it_t hf (by omega)
      refine q_aload_n dX8_keep_24 rfl rfl ?_
      refine g_getF (k := 15) (o := 6) (z := 62) dX8_keep_25 rfl fg_X8_25 rfl rfl rfl ?_
      refine q_bipush dX8_keep_28 rfl (by decide) ?_
      refine q_iload_n dX8_keep_30 rfl rfl ?_
      refine q_imul dX8_keep_31 rfl ?_
      refine q_iload_n dX8_keep_32 rfl rfl ?_
      refine q_iadd dX8_keep_33 rfl ?_
      refine q_aload_n dX8_keep_34 rfl rfl ?_
      refine g_getF (k := 14) (o := 5) (z := 61) dX8_keep_35 rfl fg_X8_22 rfl rfl rfl ?_
      refine q_iload_n dX8_keep_38 rfl rfl ?_
      obtain ⟨g_9, hf⟩ := gd_ex hf
      refine q_iaload dX8_keep_39 rfl rfl g_9 ?_
      obtain ⟨g_10, hf⟩ := gd_ex hf
      refine q_iastore dX8_keep_40 rfl rfl g_10 ?_
      obtain ⟨h_11, e_h_11, hf⟩ := nm_ex hf
      rw [← e_h_11]
      refine q_iinc (ls' := [(2, 56), (0, image_0), (0, w32 (k_8 + 1))]) dX8_keep_41 rfl rfl rfl ?_
      obtain ⟨k_12, e_k_12, hf⟩ := nm_ex hf
      rw [← e_k_12]
      refine q_goto (tgt := 18) dX8_keep_44 rfl (by decide) ?_
      exact ih _ _ hf
theorem S_X8_keep (X : XS) (image_0 : Int) (h : Mem) : CT X yX8_keep MX8_keep (some .int) 0 1 [(2, 56), (0, image_0)] h (F_X8_keep image_0 h) := by
  refine CT.ofI (by decide) rfl (Nat.le_of_ble_eq_true rfl) (fun r hf => ?_)
  unfold F_X8_keep at hf
  show AJ X MX8_keep (rmD 1) 0 [(2, 56), (0, image_0), (3, 0)] [] h (PH 0 r)
  refine q_aload_n dX8_keep_0 rfl rfl ?_
  refine q_iconst dX8_keep_1 rfl rfl ?_
  refine g_put (k := 0) (kz := 0) dX8_keep_2 rfl fp_X8_68 rfl (fun q => q.1 rfl) rfl ?_
  obtain ⟨h_1, e_h_1, hf⟩ := nm_ex hf
  rw [← e_h_1]
  refine q_iload_n dX8_keep_5 rfl rfl ?_
  refine q_iconst dX8_keep_6 rfl rfl ?_
  refine q_iconst dX8_keep_7 rfl rfl ?_
  obtain ⟨r_2, h_3, e_4, hf⟩ := bd_ex hf
  refine g_Sb (vs := [(0, image_0), (0, 0), (0, 1)]) (st := []) dX8_keep_8 rfl (S_X8_in X image_0 0 1 h_1) e_4 mf_X8_in ml_X8_72 rfl rfl rfl (fun b_5 => ?_)
  refine q_if_ne (tgt := 16) dX8_keep_11 rfl (by decide) (fun c_6 => ?_) (fun c_6 => ?_)
  · replace hf := it_t hf (by omega)
    refine q_iconst dX8_keep_16 rfl rfl ?_
    refine q_istore_n (ls' := [(2, 56), (0, image_0), (0, 0)]) dX8_keep_17 rfl rfl (Nat.le_of_ble_eq_true rfl) rfl ?_
    refine SL_X8_keep_1 X image_0  _ (fun k_15 h_14 hf => ?_) FU _ _ hf
    refine q_aload_n dX8_keep_47 rfl rfl ?_
    refine g_getF (k := 16) (o := 7) (z := 63) dX8_keep_48 rfl fg_X8_28 rfl rfl rfl ?_
    refine q_iload_n dX8_keep_51 rfl rfl ?_
    refine q_iconst dX8_keep_52 rfl rfl ?_
    obtain ⟨g_16, hf⟩ := gd_ex hf
    refine q_bastore dX8_keep_53 rfl rfl g_16 (Or.inr rfl) ?_
    obtain ⟨h_17, e_h_17, hf⟩ := nm_ex hf
    rw [← e_h_17]
    refine q_aload_n dX8_keep_54 rfl rfl ?_
    refine g_getF (k := 14) (o := 5) (z := 61) dX8_keep_55 rfl fg_X8_22 rfl rfl rfl ?_
    refine q_iconst dX8_keep_58 rfl rfl ?_
    refine q_iaload dX8_keep_59 rfl rfl (by decide) ?_
    exact g_ireturn dX8_keep_60 rfl hf
  · replace hf := it_f hf (by omega)
    refine q_iconst dX8_keep_14 rfl rfl ?_
    exact g_ireturn dX8_keep_15 rfl hf
def L_X8_back_1 (image_0 : Int) (Kx : Int → Mem → Res) : Nat → Int → Mem → Res
  | 0, _, _ => none
  | n + 1, k_10, h_9 => if (k_10 < 12) then (gd (0 ≤ (w32 ((w32 (12 * image_0)) + k_10)) ∧ (w32 ((w32 (12 * image_0)) + k_10)) < 24) (gd (0 ≤ k_10 ∧ k_10 < 12) (nm (wr h_9 61 k_10 (h_9 62 (w32 ((w32 (12 * image_0)) + k_10)))) (fun (h_13 : Mem) => nm (w32 (k_10 + 1)) (fun k_14 => L_X8_back_1 image_0 Kx n k_14 h_13))))) else (Kx k_10 h_9)
def F_X8_back (image_0 : Int) (h : Mem) : Res := nm (wr h 56 0 0) (fun (h_1 : Mem) => bd (F_X8_in image_0 0 1 h_1) (fun r_2 (h_3 : Mem) => if (¬ r_2 = 0) then (gd (0 ≤ image_0 ∧ image_0 < 2) (if (¬ (h_3 63 image_0) = 0) then (L_X8_back_1 image_0 (fun k_17 (h_16 : Mem) => some (h_16 61 0, h_16)) FU 0 h_3) else (some ((-2), h_3)))) else (some ((-1), h_3))))
theorem SL_X8_back_1 (X : XS) (image_0 : Int) (Kx : Int → Mem → Res) {r : Int × Mem} (hK : ∀ (k_10 : Int) (h_9 : Mem), Kx k_10 h_9 = some r → AJ X MX8_back (rmD 1) 59 [(2, 56), (0, image_0), (0, k_10)] [] h_9 (PH 0 r)) :
    ∀ (n : Nat) (k_10 : Int) (h_9 : Mem), L_X8_back_1 image_0 Kx n k_10 h_9 = some r → AJ X MX8_back (rmD 1) 30 [(2, 56), (0, image_0), (0, k_10)] [] h_9 (PH 0 r) := by
  intro n
  induction n with
  | zero => intro k_10 h_9 hf; cases hf
  | succ n ih =>
    intro k_10 h_9 hf
    rw [L_X8_back_1] at hf
    refine q_iload_n dX8_back_30 rfl rfl ?_
    refine q_bipush dX8_back_31 rfl (by decide) ?_
    refine q_icmp_ge (tgt := 59) dX8_back_33 rfl (by decide) (fun c_15 => ?_) (fun c_15 => ?_)
    · replace hf := it_f hf (by omega)
      exact hK _ _ hf
    · replace hf := it_t hf (by omega)
      refine q_aload_n dX8_back_36 rfl rfl ?_
      refine g_getF (k := 14) (o := 5) (z := 61) dX8_back_37 rfl fg_X8_22 rfl rfl rfl ?_
      refine q_iload_n dX8_back_40 rfl rfl ?_
      refine q_aload_n dX8_back_41 rfl rfl ?_
      refine g_getF (k := 15) (o := 6) (z := 62) dX8_back_42 rfl fg_X8_25 rfl rfl rfl ?_
      refine q_bipush dX8_back_45 rfl (by decide) ?_
      refine q_iload_n dX8_back_47 rfl rfl ?_
      refine q_imul dX8_back_48 rfl ?_
      refine q_iload_n dX8_back_49 rfl rfl ?_
      refine q_iadd dX8_back_50 rfl ?_
      obtain ⟨g_11, hf⟩ := gd_ex hf
      refine q_iaload dX8_back_51 rfl rfl g_11 ?_
      obtain ⟨g_12, hf⟩ := gd_ex hf
      refine q_iastore dX8_back_52 rfl rfl g_12 ?_
      obtain ⟨h_13, e_h_13, hf⟩ := nm_ex hf
      rw [← e_h_13]
      refine q_iinc (ls' := [(2, 56), (0, image_0), (0, w32 (k_10 + 1))]) dX8_back_53 rfl rfl rfl ?_
      obtain ⟨k_14, e_k_14, hf⟩ := nm_ex hf
      rw [← e_k_14]
      refine q_goto (tgt := 30) dX8_back_56 rfl (by decide) ?_
      exact ih _ _ hf
theorem S_X8_back (X : XS) (image_0 : Int) (h : Mem) : CT X yX8_back MX8_back (some .int) 0 1 [(2, 56), (0, image_0)] h (F_X8_back image_0 h) := by
  refine CT.ofI (by decide) rfl (Nat.le_of_ble_eq_true rfl) (fun r hf => ?_)
  unfold F_X8_back at hf
  show AJ X MX8_back (rmD 1) 0 [(2, 56), (0, image_0), (3, 0)] [] h (PH 0 r)
  refine q_aload_n dX8_back_0 rfl rfl ?_
  refine q_iconst dX8_back_1 rfl rfl ?_
  refine g_put (k := 0) (kz := 0) dX8_back_2 rfl fp_X8_68 rfl (fun q => q.1 rfl) rfl ?_
  obtain ⟨h_1, e_h_1, hf⟩ := nm_ex hf
  rw [← e_h_1]
  refine q_iload_n dX8_back_5 rfl rfl ?_
  refine q_iconst dX8_back_6 rfl rfl ?_
  refine q_iconst dX8_back_7 rfl rfl ?_
  obtain ⟨r_2, h_3, e_4, hf⟩ := bd_ex hf
  refine g_Sb (vs := [(0, image_0), (0, 0), (0, 1)]) (st := []) dX8_back_8 rfl (S_X8_in X image_0 0 1 h_1) e_4 mf_X8_in ml_X8_72 rfl rfl rfl (fun b_5 => ?_)
  refine q_if_ne (tgt := 16) dX8_back_11 rfl (by decide) (fun c_6 => ?_) (fun c_6 => ?_)
  · replace hf := it_t hf (by omega)
    refine q_aload_n dX8_back_16 rfl rfl ?_
    refine g_getF (k := 16) (o := 7) (z := 63) dX8_back_17 rfl fg_X8_28 rfl rfl rfl ?_
    refine q_iload_n dX8_back_20 rfl rfl ?_
    obtain ⟨g_7, hf⟩ := gd_ex hf
    refine q_baload dX8_back_21 rfl rfl g_7 ?_
    refine q_if_ne (tgt := 28) dX8_back_22 rfl (by decide) (fun c_8 => ?_) (fun c_8 => ?_)
    · replace hf := it_t hf (by omega)
      refine q_iconst dX8_back_28 rfl rfl ?_
      refine q_istore_n (ls' := [(2, 56), (0, image_0), (0, 0)]) dX8_back_29 rfl rfl (Nat.le_of_ble_eq_true rfl) rfl ?_
      refine SL_X8_back_1 X image_0  _ (fun k_17 h_16 hf => ?_) FU _ _ hf
      refine q_aload_n dX8_back_59 rfl rfl ?_
      refine g_getF (k := 14) (o := 5) (z := 61) dX8_back_60 rfl fg_X8_22 rfl rfl rfl ?_
      refine q_iconst dX8_back_63 rfl rfl ?_
      refine q_iaload dX8_back_64 rfl rfl (by decide) ?_
      exact g_ireturn dX8_back_65 rfl hf
    · replace hf := it_f hf (by omega)
      refine q_bipush dX8_back_25 rfl (by decide) ?_
      exact g_ireturn dX8_back_27 rfl hf
  · replace hf := it_f hf (by omega)
    refine q_iconst dX8_back_14 rfl rfl ?_
    exact g_ireturn dX8_back_15 rfl hf
def F_X8_count (what_0 : Int) (h : Mem) : Res := nm (wr h 56 0 0) (fun (h_1 : Mem) => if (what_0 = 0) then (some (h_1 56 10, h_1)) else (if (what_0 = 1) then (some (h_1 61 0, h_1)) else (if (what_0 = 2) then (some (h_1 61 1, h_1)) else (if (what_0 = 3) then (some (h_1 56 33, h_1)) else (if (what_0 = 4) then (some (h_1 56 3, h_1)) else (some ((-1), h_1)))))))
theorem S_X8_count (X : XS) (what_0 : Int) (h : Mem) : CT X yX8_count MX8_count (some .int) 0 0 [(2, 56), (0, what_0)] h (F_X8_count what_0 h) := by
  refine CT.ofI (by decide) rfl (Nat.le_of_ble_eq_true rfl) (fun r hf => ?_)
  unfold F_X8_count at hf
  show AJ X MX8_count (rmD 0) 0 [(2, 56), (0, what_0)] [] h (PH 0 r)
  refine q_aload_n dX8_count_0 rfl rfl ?_
  refine q_iconst dX8_count_1 rfl rfl ?_
  refine g_put (k := 0) (kz := 0) dX8_count_2 rfl fp_X8_68 rfl (fun q => q.1 rfl) rfl ?_
  obtain ⟨h_1, e_h_1, hf⟩ := nm_ex hf
  rw [← e_h_1]
  refine q_iload_n dX8_count_5 rfl rfl ?_
  refine q_if_ne (tgt := 16) dX8_count_6 rfl (by decide) (fun c_6 => ?_) (fun c_6 => ?_)
  · replace hf := it_f hf (by omega)
    refine q_iload_n dX8_count_16 rfl rfl ?_
    refine q_iconst dX8_count_17 rfl rfl ?_
    refine q_icmp_ne (tgt := 30) dX8_count_18 rfl (by decide) (fun c_5 => ?_) (fun c_5 => ?_)
    · replace hf := it_f hf (by omega)
      refine q_iload_n dX8_count_30 rfl rfl ?_
      refine q_iconst dX8_count_31 rfl rfl ?_
      refine q_icmp_ne (tgt := 44) dX8_count_32 rfl (by decide) (fun c_4 => ?_) (fun c_4 => ?_)
      · replace hf := it_f hf (by omega)
        refine q_iload_n dX8_count_44 rfl rfl ?_
        refine q_iconst dX8_count_45 rfl rfl ?_
        refine q_icmp_ne (tgt := 56) dX8_count_46 rfl (by decide) (fun c_3 => ?_) (fun c_3 => ?_)
        · replace hf := it_f hf (by omega)
          refine q_iload_n dX8_count_56 rfl rfl ?_
          refine q_iconst dX8_count_57 rfl rfl ?_
          refine q_icmp_ne (tgt := 68) dX8_count_58 rfl (by decide) (fun c_2 => ?_) (fun c_2 => ?_)
          · replace hf := it_f hf (by omega)
            refine q_iconst dX8_count_68 rfl rfl ?_
            exact g_ireturn dX8_count_69 rfl hf
          · replace hf := it_t hf (by omega)
            refine q_aload_n dX8_count_61 rfl rfl ?_
            refine g_get (k := 3) (kz := 3) dX8_count_62 rfl fg_X8_76 rfl rfl ?_
            refine q_goto (tgt := 69) dX8_count_65 rfl (by decide) ?_
            exact g_ireturn dX8_count_69 rfl hf
        · replace hf := it_t hf (by omega)
          refine q_aload_n dX8_count_49 rfl rfl ?_
          refine g_get (k := 33) (kz := 33) dX8_count_50 rfl fg_X8_145 rfl rfl ?_
          refine q_goto (tgt := 69) dX8_count_53 rfl (by decide) ?_
          exact g_ireturn dX8_count_69 rfl hf
      · replace hf := it_t hf (by omega)
        refine q_aload_n dX8_count_35 rfl rfl ?_
        refine g_getF (k := 14) (o := 5) (z := 61) dX8_count_36 rfl fg_X8_22 rfl rfl rfl ?_
        refine q_iconst dX8_count_39 rfl rfl ?_
        refine q_iaload dX8_count_40 rfl rfl (by decide) ?_
        refine q_goto (tgt := 69) dX8_count_41 rfl (by decide) ?_
        exact g_ireturn dX8_count_69 rfl hf
    · replace hf := it_t hf (by omega)
      refine q_aload_n dX8_count_21 rfl rfl ?_
      refine g_getF (k := 14) (o := 5) (z := 61) dX8_count_22 rfl fg_X8_22 rfl rfl rfl ?_
      refine q_iconst dX8_count_25 rfl rfl ?_
      refine q_iaload dX8_count_26 rfl rfl (by decide) ?_
      refine q_goto (tgt := 69) dX8_count_27 rfl (by decide) ?_
      exact g_ireturn dX8_count_69 rfl hf
  · replace hf := it_t hf (by omega)
    refine q_aload_n dX8_count_9 rfl rfl ?_
    refine g_get (k := 10) (kz := 10) dX8_count_10 rfl fg_X8_142 rfl rfl ?_
    refine q_goto (tgt := 69) dX8_count_13 rfl (by decide) ?_
    exact g_ireturn dX8_count_69 rfl hf
def F_X8_trace (h : Mem) : Res := nm (wr h 56 0 0) (fun (h_1 : Mem) => some (h_1 56 1, h_1))
theorem S_X8_trace (X : XS) (h : Mem) : CT X yX8_trace MX8_trace (some .long) 1 0 [(2, 56)] h (F_X8_trace h) := by
  refine CT.ofL (by decide) rfl (Nat.le_of_ble_eq_true rfl) (fun r hf => ?_)
  unfold F_X8_trace at hf
  show AJ X MX8_trace (rmD 0) 0 [(2, 56)] [] h (PH 1 r)
  refine q_aload_n dX8_trace_0 rfl rfl ?_
  refine q_iconst dX8_trace_1 rfl rfl ?_
  refine g_put (k := 0) (kz := 0) dX8_trace_2 rfl fp_X8_68 rfl (fun q => q.1 rfl) rfl ?_
  obtain ⟨h_1, e_h_1, hf⟩ := nm_ex hf
  rw [← e_h_1]
  refine q_aload_n dX8_trace_5 rfl rfl ?_
  refine g_get (k := 1) (kz := 1) dX8_trace_6 rfl fg_X8_251 rfl rfl ?_
  exact g_lreturn dX8_trace_9 rfl hf
