def F_X7_type (v_0 n_0 : Int) (h : Mem) : Res := if ((n_0 < 1) ∨ (8 < n_0)) then (some ((-1), h)) else (if (400 < (w32 ((h 2 1) + n_0))) then (some ((-3), h)) else (bd (F_X4_append v_0 n_0 h) (fun _ (h_2 : Mem) => some (h_2 2 1, h_2))))
theorem S_X7_type (X : XS) (v_0 : Int) (n_0 : Int) (h : Mem) : CT X yX7_type MX7_type (some .int) 0 1 [(2, 1), (1, v_0), (0, n_0)] h (F_X7_type v_0 n_0 h) := by
  refine CT.ofI (by decide) rfl (Nat.le_of_ble_eq_true rfl) (fun r hf => ?_)
  unfold F_X7_type at hf
  show AJ X MX7_type (rmD 1) 0 [(2, 1), (1, v_0), (3, 0), (0, n_0)] [] h (PH 0 r)
  have HT_5 : ((n_0 < 1) ∨ (8 < n_0)) → AJ X MX7_type (rmD 1) 11 [(2, 1), (1, v_0), (3, 0), (0, n_0)] [] h (PH 0 r) := by
    intro hc
    replace hf := it_t hf hc
    refine q_iconst dX7_type_11 rfl rfl ?_
    exact g_ireturn dX7_type_12 rfl hf
  refine q_iload_n dX7_type_0 rfl rfl ?_
  refine q_iconst dX7_type_1 rfl rfl ?_
  refine q_icmp_lt (tgt := 11) dX7_type_2 rfl (by decide) (fun c_6 => ?_) (fun c_6 => ?_)
  · exact HT_5 (by omega)
  · refine q_iload_n dX7_type_5 rfl rfl ?_
    refine q_bipush dX7_type_6 rfl (by decide) ?_
    refine q_icmp_le (tgt := 13) dX7_type_8 rfl (by decide) (fun c_7 => ?_) (fun c_7 => ?_)
    · replace hf := it_f hf (by omega)
      refine q_aload_n dX7_type_13 rfl rfl ?_
      refine g_getF (k := 0) (o := 1) (z := 2) dX7_type_14 rfl fg_X7_10 rfl rfl rfl ?_
      refine g_get (k := 1) (kz := 1) dX7_type_17 rfl fg_X7_86 rfl rfl ?_
      refine q_iload_n dX7_type_20 rfl rfl ?_
      refine q_iadd dX7_type_21 rfl ?_
      refine q_sipush dX7_type_22 rfl (by decide) ?_
      refine q_icmp_le (tgt := 31) dX7_type_25 rfl (by decide) (fun c_4 => ?_) (fun c_4 => ?_)
      · replace hf := it_f hf (by omega)
        refine q_aload_n dX7_type_31 rfl rfl ?_
        refine g_getF (k := 0) (o := 1) (z := 2) dX7_type_32 rfl fg_X7_10 rfl rfl rfl ?_
        refine q_lload_n dX7_type_35 rfl rfl ?_
        refine q_iload_n dX7_type_36 rfl rfl ?_
        obtain ⟨r_1, h_2, e_3, hf⟩ := bd_ex hf
        refine g_Vv (vs := [(1, v_0), (0, n_0)]) (st := []) dX7_type_37 rfl (S_X4_append X v_0 n_0 h) e_3 mf_X4_append ml_X7_89 rfl rfl rfl rfl ?_
        refine q_aload_n dX7_type_40 rfl rfl ?_
        refine g_getF (k := 0) (o := 1) (z := 2) dX7_type_41 rfl fg_X7_10 rfl rfl rfl ?_
        refine g_get (k := 1) (kz := 1) dX7_type_44 rfl fg_X7_86 rfl rfl ?_
        exact g_ireturn dX7_type_47 rfl hf
      · replace hf := it_t hf (by omega)
        refine q_bipush dX7_type_28 rfl (by decide) ?_
        exact g_ireturn dX7_type_30 rfl hf
    · exact HT_5 (by omega)
def F_X7_clear (h : Mem) : Res := nm (h 2 1) (fun had_1 => nm (wr h 2 1 0) (fun (h_2 : Mem) => some (had_1, h_2)))
theorem S_X7_clear (X : XS) (h : Mem) : CT X yX7_clear MX7_clear (some .int) 0 0 [(2, 1)] h (F_X7_clear h) := by
  refine CT.ofI (by decide) rfl (Nat.le_of_ble_eq_true rfl) (fun r hf => ?_)
  unfold F_X7_clear at hf
  show AJ X MX7_clear (rmD 0) 0 [(2, 1), (3, 0)] [] h (PH 0 r)
  refine q_aload_n dX7_clear_0 rfl rfl ?_
  refine g_getF (k := 0) (o := 1) (z := 2) dX7_clear_1 rfl fg_X7_10 rfl rfl rfl ?_
  refine g_get (k := 1) (kz := 1) dX7_clear_4 rfl fg_X7_86 rfl rfl ?_
  obtain ⟨had_1, e_had_1, hf⟩ := nm_ex hf
  rw [← e_had_1]
  refine q_istore_n (ls' := [(2, 1), (0, had_1)]) dX7_clear_7 rfl rfl (Nat.le_of_ble_eq_true rfl) rfl ?_
  refine q_aload_n dX7_clear_8 rfl rfl ?_
  refine g_getF (k := 0) (o := 1) (z := 2) dX7_clear_9 rfl fg_X7_10 rfl rfl rfl ?_
  refine q_iconst dX7_clear_12 rfl rfl ?_
  refine g_put (k := 1) (kz := 1) dX7_clear_13 rfl fp_X7_86 rfl (fun q => q.1 rfl) rfl ?_
  obtain ⟨h_2, e_h_2, hf⟩ := nm_ex hf
  rw [← e_h_2]
  refine q_iload_n dX7_clear_16 rfl rfl ?_
  exact g_ireturn dX7_clear_17 rfl hf
def L_X7_acts_1 (r_3 cast_6 : Int) (Kx : Int → Mem → Res) : Nat → Int → Mem → Res
  | 0, _, _ => none
  | n + 1, k_20, h_19 => if (k_20 < 2) then (gd (0 ≤ k_20 ∧ k_20 < 2) (nm (wr h_19 (29 + 2 * k_20) 4 0) (fun (h_22 : Mem) => nm (w32 (k_20 + 1)) (fun k_23 => L_X7_acts_1 r_3 cast_6 Kx n k_23 h_22)))) else (Kx k_20 h_19)
def F_X7_acts (h : Mem) : Res := nm (h 1 2) (fun draft_1 => gd (okO 2 draft_1 = true) (bd (F_X4_tell draft_1 h) (fun r_3 (h_4 : Mem) => if (r_3 < 0) then (some (r_3, h_4)) else (nm (h_4 1 1) (fun cast_6 => gd (okO 2 cast_6 = true) (nm (h_4 1 2) (fun draft_8 => gd (okO 2 draft_8 = true) (nm (wr h_4 1 1 draft_8) (fun (h_10 : Mem) => nm (wr h_10 1 2 cast_6) (fun (h_11 : Mem) => nm (wr h_11 2 1 0) (fun (h_12 : Mem) => bd (F_X1_strip 26 h_12) (fun _ (h_14 : Mem) => bd (F_X3_forget  h_14) (fun _ (h_17 : Mem) => L_X7_acts_1 r_3 cast_6 (fun k_26 (h_25 : Mem) => nm (wr h_25 1 11 0) (fun (h_27 : Mem) => some (r_3, h_27))) FU 0 h_17)))))))))))))
theorem SL_X7_acts_1 (X : XS) (r_3 cast_6 : Int) (o_cast_6 : okO 2 cast_6 = true) (Kx : Int → Mem → Res) {r : Int × Mem} (hK : ∀ (k_20 : Int) (h_19 : Mem), Kx k_20 h_19 = some r → AJ X MX7_acts (rmD 14) 81 [(2, 1), (0, r_3), (2, cast_6), (0, k_20)] [] h_19 (PH 0 r)) :
    ∀ (n : Nat) (k_20 : Int) (h_19 : Mem), L_X7_acts_1 r_3 cast_6 Kx n k_20 h_19 = some r → AJ X MX7_acts (rmD 14) 60 [(2, 1), (0, r_3), (2, cast_6), (0, k_20)] [] h_19 (PH 0 r) := by
  intro n
  induction n with
  | zero => intro k_20 h_19 hf; cases hf
  | succ n ih =>
    intro k_20 h_19 hf
    rw [L_X7_acts_1] at hf
    refine q_iload_n dX7_acts_60 rfl rfl ?_
    refine q_iconst dX7_acts_61 rfl rfl ?_
    refine q_icmp_ge (tgt := 81) dX7_acts_62 rfl (by decide) (fun c_24 => ?_) (fun c_24 => ?_)
    · replace hf := it_f hf (by omega)
      exact hK _ _ hf
    · replace hf := it_t hf (by omega)
      refine q_aload_n dX7_acts_65 rfl rfl ?_
      refine g_getF (k := 4) (o := 27) (z := 28) dX7_acts_66 rfl fg_X7_33 rfl rfl rfl ?_
      refine q_iload_n dX7_acts_69 rfl rfl ?_
      obtain ⟨g_21, hf⟩ := gd_ex hf
      refine q_aaloadF (z := (29 + 2 * k_20)) dX7_acts_70 rfl rfl (by decide) g_21 rfl (by omega) ?_
      refine q_iconst dX7_acts_71 rfl rfl ?_
      refine g_put (k := 4) (kz := 4) dX7_acts_72 rfl fp_X7_103 rfl (fun _ => Or.inl rfl) (ok_img g_21) ?_
      obtain ⟨h_22, e_h_22, hf⟩ := nm_ex hf
      rw [← e_h_22]
      refine q_iinc (ls' := [(2, 1), (0, r_3), (2, cast_6), (0, w32 (k_20 + 1))]) dX7_acts_75 rfl rfl rfl ?_
      obtain ⟨k_23, e_k_23, hf⟩ := nm_ex hf
      rw [← e_k_23]
      refine q_goto (tgt := 60) dX7_acts_78 rfl (by decide) ?_
      exact ih _ _ hf
theorem S_X7_acts (X : XS) (h : Mem) : CT X yX7_acts MX7_acts (some .int) 0 14 [(2, 1)] h (F_X7_acts h) := by
  refine CT.ofI (by decide) rfl (Nat.le_of_ble_eq_true rfl) (fun r hf => ?_)
  unfold F_X7_acts at hf
  show AJ X MX7_acts (rmD 14) 0 [(2, 1), (3, 0), (3, 0), (3, 0)] [] h (PH 0 r)
  refine q_aload_n dX7_acts_0 rfl rfl ?_
  refine g_getF (k := 0) (o := 1) (z := 2) dX7_acts_1 rfl fg_X7_10 rfl rfl rfl ?_
  refine q_aload_n dX7_acts_4 rfl rfl ?_
  refine g_get (k := 2) (kz := 2) dX7_acts_5 rfl fg_X7_23 rfl rfl ?_
  obtain ⟨draft_1, e_draft_1, hf⟩ := nm_ex hf
  rw [← e_draft_1]
  obtain ⟨o_draft_2, hf⟩ := gd_ex hf
  obtain ⟨r_3, h_4, e_5, hf⟩ := bd_ex hf
  refine g_Vi (vs := [(2, draft_1)]) (st := []) dX7_acts_8 rfl (S_X4_tell X draft_1 o_draft_2 h) e_5 mf_X4_tell ml_X7_93 rfl rfl rfl rfl ?_
  refine q_istore_n (ls' := [(2, 1), (0, r_3), (3, 0), (3, 0)]) dX7_acts_11 rfl rfl (Nat.le_of_ble_eq_true rfl) rfl ?_
  refine q_iload_n dX7_acts_12 rfl rfl ?_
  refine q_if_ge (tgt := 18) dX7_acts_13 rfl (by decide) (fun c_28 => ?_) (fun c_28 => ?_)
  · replace hf := it_f hf (by omega)
    refine q_aload_n dX7_acts_18 rfl rfl ?_
    refine g_get (k := 1) (kz := 1) dX7_acts_19 rfl fg_X7_19 rfl rfl ?_
    obtain ⟨cast_6, e_cast_6, hf⟩ := nm_ex hf
    rw [← e_cast_6]
    obtain ⟨o_cast_7, hf⟩ := gd_ex hf
    refine q_astore_n (ls' := [(2, 1), (0, r_3), (2, cast_6), (3, 0)]) dX7_acts_22 rfl rfl (okO_ne o_cast_7) (Nat.le_of_ble_eq_true rfl) rfl ?_
    refine q_aload_n dX7_acts_23 rfl rfl ?_
    refine q_aload_n dX7_acts_24 rfl rfl ?_
    refine g_get (k := 2) (kz := 2) dX7_acts_25 rfl fg_X7_23 rfl rfl ?_
    obtain ⟨draft_8, e_draft_8, hf⟩ := nm_ex hf
    rw [← e_draft_8]
    obtain ⟨o_draft_9, hf⟩ := gd_ex hf
    refine g_put (k := 1) (kz := 1) dX7_acts_28 rfl fp_X7_19 rfl (fun _ => trivial) rfl ?_
    obtain ⟨h_10, e_h_10, hf⟩ := nm_ex hf
    rw [← e_h_10]
    refine q_aload_n dX7_acts_31 rfl rfl ?_
    refine q_aload_n dX7_acts_32 rfl rfl ?_
    refine g_put (k := 2) (kz := 2) dX7_acts_33 rfl fp_X7_23 rfl (fun _ => trivial) rfl ?_
    obtain ⟨h_11, e_h_11, hf⟩ := nm_ex hf
    rw [← e_h_11]
    refine q_aload_n dX7_acts_36 rfl rfl ?_
    refine g_getF (k := 0) (o := 1) (z := 2) dX7_acts_37 rfl fg_X7_10 rfl rfl rfl ?_
    refine q_iconst dX7_acts_40 rfl rfl ?_
    refine g_put (k := 1) (kz := 1) dX7_acts_41 rfl fp_X7_86 rfl (fun q => q.1 rfl) rfl ?_
    obtain ⟨h_12, e_h_12, hf⟩ := nm_ex hf
    rw [← e_h_12]
    refine q_aload_n dX7_acts_44 rfl rfl ?_
    refine g_getF (k := 3) (o := 25) (z := 26) dX7_acts_45 rfl fg_X7_29 rfl rfl rfl ?_
    obtain ⟨r_13, h_14, e_15, hf⟩ := bd_ex hf
    refine g_Vv (vs := []) (st := []) dX7_acts_48 rfl (S_X1_strip X 26 rfl h_12) e_15 mf_X1_strip ml_X7_97 rfl rfl rfl rfl ?_
    refine q_aload_n dX7_acts_51 rfl rfl ?_
    refine g_getF (k := 8) (o := 50) (z := 51) dX7_acts_52 rfl fg_X7_57 rfl rfl rfl ?_
    obtain ⟨r_16, h_17, e_18, hf⟩ := bd_ex hf
    refine g_Vv (vs := []) (st := []) dX7_acts_55 rfl (S_X3_forget X  h_14) e_18 mf_X3_forget ml_X7_100 rfl rfl rfl rfl ?_
    refine q_iconst dX7_acts_58 rfl rfl ?_
    refine q_istore_n (ls' := [(2, 1), (0, r_3), (2, cast_6), (0, 0)]) dX7_acts_59 rfl rfl (Nat.le_of_ble_eq_true rfl) rfl ?_
    refine SL_X7_acts_1 X r_3 cast_6 o_cast_7 _ (fun k_26 h_25 hf => ?_) FU _ _ hf
    refine q_aload_n dX7_acts_81 rfl rfl ?_
    refine q_iconst dX7_acts_82 rfl rfl ?_
    refine g_put (k := 11) (kz := 11) dX7_acts_83 rfl fp_X7_74 rfl (fun _ => Or.inl rfl) rfl ?_
    obtain ⟨h_27, e_h_27, hf⟩ := nm_ex hf
    rw [← e_h_27]
    refine q_iload_n dX7_acts_86 rfl rfl ?_
    exact g_ireturn dX7_acts_87 rfl hf
  · replace hf := it_t hf (by omega)
    refine q_iload_n dX7_acts_16 rfl rfl ?_
    exact g_ireturn dX7_acts_17 rfl hf
def F_X7_isAct (i_0 : Int) (h : Mem) : Res := jn (fun (K_1 : Mem → Res) => if (0 ≤ i_0) then (nm (h 1 1) (fun cast_4 => gd (okO 2 cast_4 = true) (if (i_0 < (h cast_4 1)) then (some (1, h)) else (K_1 h)))) else (K_1 h)) (fun (h_2 : Mem) => some (0, h_2))
theorem S_X7_isAct (X : XS) (i_0 : Int) (h : Mem) : CB X yX7_isAct MX7_isAct 0 [(2, 1), (0, i_0)] h (F_X7_isAct i_0 h) := by
  refine CB.of (by decide) rfl (Nat.le_of_ble_eq_true rfl) (fun r hf => ?_)
  unfold F_X7_isAct at hf
  show AJ X MX7_isAct (rmD 0) 0 [(2, 1), (0, i_0)] [] h (PB r)
  obtain ⟨K_1, J_K_1, hf⟩ := jn_ex (P := fun K => ∀ (h_2 : Mem), K h_2 = some r → AJ X MX7_isAct (rmD 0) 19 [(2, 1), (0, i_0)] [] h_2 (PB r)) hf (by
      intro h_2 hf
      refine q_iconst dX7_isAct_19 rfl rfl ?_
      exact g_breturn dX7_isAct_20 rfl (Or.inl rfl) hf)
  refine q_iload_n dX7_isAct_0 rfl rfl ?_
  refine q_if_lt (tgt := 19) dX7_isAct_1 rfl (by decide) (fun c_3 => ?_) (fun c_3 => ?_)
  · replace hf := it_f hf (by omega)
    exact J_K_1 _ hf
  · replace hf := it_t hf (by omega)
    refine q_iload_n dX7_isAct_4 rfl rfl ?_
    refine q_aload_n dX7_isAct_5 rfl rfl ?_
    refine g_get (k := 1) (kz := 1) dX7_isAct_6 rfl fg_X7_19 rfl rfl ?_
    obtain ⟨cast_4, e_cast_4, hf⟩ := nm_ex hf
    rw [← e_cast_4]
    obtain ⟨o_cast_5, hf⟩ := gd_ex hf
    refine g_get (k := 1) (kz := 1) dX7_isAct_9 rfl fg_X7_266 rfl o_cast_5 ?_
    refine q_icmp_ge (tgt := 19) dX7_isAct_12 rfl (by decide) (fun c_6 => ?_) (fun c_6 => ?_)
    · replace hf := it_f hf (by omega)
      exact J_K_1 _ hf
    · replace hf := it_t hf (by omega)
      refine q_iconst dX7_isAct_15 rfl rfl ?_
      refine q_goto (tgt := 20) dX7_isAct_16 rfl (by decide) ?_
      exact g_breturn dX7_isAct_20 rfl (Or.inr rfl) hf
def F_X7_act (i_0 what_0 : Int) (h : Mem) : Res := bd (F_X7_isAct i_0 h) (fun r_1 (h_2 : Mem) => if (¬ r_1 = 0) then (nm (h_2 1 1) (fun cast_6 => gd (okO 2 cast_6 = true) (gd (0 ≤ i_0 ∧ i_0 < 9) (nm ((cast_6 + 2 + i_0)) (fun one_9 => if what_0 = 0 then (some (h_2 one_9 1, h_2)) else (if what_0 = 1 then (some (h_2 one_9 2, h_2)) else (if what_0 = 2 then (some (h_2 one_9 3, h_2)) else (if what_0 = 3 then (if (¬ (h_2 one_9 4) = 0) then (some (1, h_2)) else (some (0, h_2))) else (if what_0 = 4 then (some (h_2 one_9 5, h_2)) else (if what_0 = 5 then (some (h_2 one_9 6, h_2)) else (if what_0 = 6 then (some (h_2 one_9 7, h_2)) else (if what_0 = 7 then (some (h_2 one_9 8, h_2)) else (if what_0 = 8 then (some (h_2 one_9 9, h_2)) else (some ((-1), h_2))))))))))))))) else (some ((-1), h_2)))
theorem S_X7_act (X : XS) (i_0 : Int) (what_0 : Int) (h : Mem) : CT X yX7_act MX7_act (some .int) 0 1 [(2, 1), (0, i_0), (0, what_0)] h (F_X7_act i_0 what_0 h) := by
  refine CT.ofI (by decide) rfl (Nat.le_of_ble_eq_true rfl) (fun r hf => ?_)
  unfold F_X7_act at hf
  show AJ X MX7_act (rmD 1) 0 [(2, 1), (0, i_0), (0, what_0), (3, 0)] [] h (PH 0 r)
  refine q_aload_n dX7_act_0 rfl rfl ?_
  refine q_iload_n dX7_act_1 rfl rfl ?_
  obtain ⟨r_1, h_2, e_3, hf⟩ := bd_ex hf
  refine g_Vb (vs := [(0, i_0)]) (st := []) dX7_act_2 rfl (S_X7_isAct X i_0 h) e_3 mf_X7_isAct ml_X7_106 rfl rfl rfl rfl (fun b_4 => ?_)
  refine q_if_ne (tgt := 10) dX7_act_5 rfl (by decide) (fun c_5 => ?_) (fun c_5 => ?_)
  · replace hf := it_t hf (by omega)
    refine q_aload_n dX7_act_10 rfl rfl ?_
    refine g_get (k := 1) (kz := 1) dX7_act_11 rfl fg_X7_19 rfl rfl ?_
    obtain ⟨cast_6, e_cast_6, hf⟩ := nm_ex hf
    rw [← e_cast_6]
    obtain ⟨o_cast_7, hf⟩ := gd_ex hf
    refine g_getF (k := 0) (o := 1) (z := (cast_6 + 1)) dX7_act_14 rfl fg_X7_110 rfl o_cast_7 rfl ?_
    refine q_iload_n dX7_act_17 rfl rfl ?_
    obtain ⟨g_8, hf⟩ := gd_ex hf
    refine q_aaloadF (z := (cast_6 + 2 + i_0)) dX7_act_18 rfl (sf_2_0 o_cast_7) (by decide) g_8 rfl (by omega) ?_
    obtain ⟨one_9, e_one_9, hf⟩ := nm_ex hf
    rw [← e_one_9]
    have o_one_9 : okO 0 one_9 = true := by rw [e_one_9]; exact (ok_mem o_cast_7 g_8)
    refine q_astore_n (ls' := [(2, 1), (0, i_0), (0, what_0), (2, one_9)]) dX7_act_19 rfl rfl (okO_ne o_one_9) (Nat.le_of_ble_eq_true rfl) rfl ?_
    refine q_iload_n dX7_act_20 rfl rfl ?_
    by_cases c_11 : what_0 = 0
    · replace hf := it_t hf c_11
      refine g_tsw (c := 0) (off := 51) (tgt := 72) dX7_act_21 c_11 (by decide) rfl (by decide) ?_
      refine q_aload_n dX7_act_72 rfl rfl ?_
      refine g_get (k := 1) (kz := 1) dX7_act_73 rfl fg_X7_114 rfl o_one_9 ?_
      exact g_ireturn dX7_act_76 rfl hf
    · replace hf := it_f hf c_11
      by_cases c_12 : what_0 = 1
      · replace hf := it_t hf c_12
        refine g_tsw (c := 1) (off := 56) (tgt := 77) dX7_act_21 c_12 (by decide) rfl (by decide) ?_
        refine q_aload_n dX7_act_77 rfl rfl ?_
        refine g_get (k := 2) (kz := 2) dX7_act_78 rfl fg_X7_117 rfl o_one_9 ?_
        exact g_ireturn dX7_act_81 rfl hf
      · replace hf := it_f hf c_12
        by_cases c_13 : what_0 = 2
        · replace hf := it_t hf c_13
          refine g_tsw (c := 2) (off := 61) (tgt := 82) dX7_act_21 c_13 (by decide) rfl (by decide) ?_
          refine q_aload_n dX7_act_82 rfl rfl ?_
          refine g_get (k := 3) (kz := 3) dX7_act_83 rfl fg_X7_120 rfl o_one_9 ?_
          exact g_ireturn dX7_act_86 rfl hf
        · replace hf := it_f hf c_13
          by_cases c_14 : what_0 = 3
          · replace hf := it_t hf c_14
            refine g_tsw (c := 3) (off := 66) (tgt := 87) dX7_act_21 c_14 (by decide) rfl (by decide) ?_
            refine q_aload_n dX7_act_87 rfl rfl ?_
            refine g_get (k := 4) (kz := 4) dX7_act_88 rfl fg_X7_123 rfl o_one_9 ?_
            refine q_if_eq (tgt := 98) dX7_act_91 rfl (by decide) (fun c_15 => ?_) (fun c_15 => ?_)
            · replace hf := it_f hf (by omega)
              refine q_iconst dX7_act_98 rfl rfl ?_
              exact g_ireturn dX7_act_99 rfl hf
            · replace hf := it_t hf (by omega)
              refine q_iconst dX7_act_94 rfl rfl ?_
              refine q_goto (tgt := 99) dX7_act_95 rfl (by decide) ?_
              exact g_ireturn dX7_act_99 rfl hf
          · replace hf := it_f hf c_14
            by_cases c_16 : what_0 = 4
            · replace hf := it_t hf c_16
              refine g_tsw (c := 4) (off := 79) (tgt := 100) dX7_act_21 c_16 (by decide) rfl (by decide) ?_
              refine q_aload_n dX7_act_100 rfl rfl ?_
              refine g_get (k := 5) (kz := 5) dX7_act_101 rfl fg_X7_126 rfl o_one_9 ?_
              exact g_ireturn dX7_act_104 rfl hf
            · replace hf := it_f hf c_16
              by_cases c_17 : what_0 = 5
              · replace hf := it_t hf c_17
                refine g_tsw (c := 5) (off := 84) (tgt := 105) dX7_act_21 c_17 (by decide) rfl (by decide) ?_
                refine q_aload_n dX7_act_105 rfl rfl ?_
                refine g_get (k := 6) (kz := 6) dX7_act_106 rfl fg_X7_129 rfl o_one_9 ?_
                exact g_ireturn dX7_act_109 rfl hf
              · replace hf := it_f hf c_17
                by_cases c_18 : what_0 = 6
                · replace hf := it_t hf c_18
                  refine g_tsw (c := 6) (off := 89) (tgt := 110) dX7_act_21 c_18 (by decide) rfl (by decide) ?_
                  refine q_aload_n dX7_act_110 rfl rfl ?_
                  refine g_get (k := 7) (kz := 7) dX7_act_111 rfl fg_X7_132 rfl o_one_9 ?_
                  exact g_ireturn dX7_act_114 rfl hf
                · replace hf := it_f hf c_18
                  by_cases c_19 : what_0 = 7
                  · replace hf := it_t hf c_19
                    refine g_tsw (c := 7) (off := 94) (tgt := 115) dX7_act_21 c_19 (by decide) rfl (by decide) ?_
                    refine q_aload_n dX7_act_115 rfl rfl ?_
                    refine g_get (k := 8) (kz := 8) dX7_act_116 rfl fg_X7_135 rfl o_one_9 ?_
                    exact g_ireturn dX7_act_119 rfl hf
                  · replace hf := it_f hf c_19
                    by_cases c_20 : what_0 = 8
                    · replace hf := it_t hf c_20
                      refine g_tsw (c := 8) (off := 99) (tgt := 120) dX7_act_21 c_20 (by decide) rfl (by decide) ?_
                      refine q_aload_n dX7_act_120 rfl rfl ?_
                      refine g_get (k := 9) (kz := 9) dX7_act_121 rfl fg_X7_138 rfl o_one_9 ?_
                      exact g_ireturn dX7_act_124 rfl hf
                    · replace hf := it_f hf c_20
                      refine g_tswD (tgt := 125) dX7_act_21 (by omega) (by decide) ?_
                      refine q_iconst dX7_act_125 rfl rfl ?_
                      exact g_ireturn dX7_act_126 rfl hf
  · replace hf := it_f hf (by omega)
    refine q_iconst dX7_act_8 rfl rfl ?_
    exact g_ireturn dX7_act_9 rfl hf
def F_X7_feud (i_0 j_0 : Int) (h : Mem) : Res := jn (fun (K_1 : Mem → Res) => bd (F_X7_isAct i_0 h) (fun r_3 (h_4 : Mem) => if (¬ r_3 = 0) then (bd (F_X7_isAct j_0 h_4) (fun r_8 (h_9 : Mem) => if (¬ r_8 = 0) then (if (i_0 = j_0) then (K_1 h_9) else (nm (h_9 1 1) (fun cast_14 => gd (okO 2 cast_14 = true) (gd (0 ≤ i_0 ∧ i_0 < 9) (bd (F_X0_hates (cast_14 + 2 + i_0) j_0 h_9) (fun r_17 (h_18 : Mem) => if (¬ r_17 = 0) then (some (1, h_18)) else (some (0, h_18)))))))) else (K_1 h_9))) else (K_1 h_4))) (fun (h_2 : Mem) => some ((-1), h_2))
theorem S_X7_feud (X : XS) (i_0 : Int) (j_0 : Int) (h : Mem) : CT X yX7_feud MX7_feud (some .int) 0 1 [(2, 1), (0, i_0), (0, j_0)] h (F_X7_feud i_0 j_0 h) := by
  refine CT.ofI (by decide) rfl (Nat.le_of_ble_eq_true rfl) (fun r hf => ?_)
  unfold F_X7_feud at hf
  show AJ X MX7_feud (rmD 1) 0 [(2, 1), (0, i_0), (0, j_0)] [] h (PH 0 r)
  obtain ⟨K_1, J_K_1, hf⟩ := jn_ex (P := fun K => ∀ (h_2 : Mem), K h_2 = some r → AJ X MX7_feud (rmD 1) 21 [(2, 1), (0, i_0), (0, j_0)] [] h_2 (PH 0 r)) hf (by
      intro h_2 hf
      refine q_iconst dX7_feud_21 rfl rfl ?_
      exact g_ireturn dX7_feud_22 rfl hf)
  refine q_aload_n dX7_feud_0 rfl rfl ?_
  refine q_iload_n dX7_feud_1 rfl rfl ?_
  obtain ⟨r_3, h_4, e_5, hf⟩ := bd_ex hf
  refine g_Vb (vs := [(0, i_0)]) (st := []) dX7_feud_2 rfl (S_X7_isAct X i_0 h) e_5 mf_X7_isAct ml_X7_106 rfl rfl rfl rfl (fun b_6 => ?_)
  refine q_if_eq (tgt := 21) dX7_feud_5 rfl (by decide) (fun c_7 => ?_) (fun c_7 => ?_)
  · replace hf := it_f hf (by omega)
    exact J_K_1 _ hf
  · replace hf := it_t hf (by omega)
    refine q_aload_n dX7_feud_8 rfl rfl ?_
    refine q_iload_n dX7_feud_9 rfl rfl ?_
    obtain ⟨r_8, h_9, e_10, hf⟩ := bd_ex hf
    refine g_Vb (vs := [(0, j_0)]) (st := []) dX7_feud_10 rfl (S_X7_isAct X j_0 h_4) e_10 mf_X7_isAct ml_X7_106 rfl rfl rfl rfl (fun b_11 => ?_)
    refine q_if_eq (tgt := 21) dX7_feud_13 rfl (by decide) (fun c_12 => ?_) (fun c_12 => ?_)
    · replace hf := it_f hf (by omega)
      exact J_K_1 _ hf
    · replace hf := it_t hf (by omega)
      refine q_iload_n dX7_feud_16 rfl rfl ?_
      refine q_iload_n dX7_feud_17 rfl rfl ?_
      refine q_icmp_ne (tgt := 23) dX7_feud_18 rfl (by decide) (fun c_13 => ?_) (fun c_13 => ?_)
      · replace hf := it_f hf (by omega)
        refine q_aload_n dX7_feud_23 rfl rfl ?_
        refine g_get (k := 1) (kz := 1) dX7_feud_24 rfl fg_X7_19 rfl rfl ?_
        obtain ⟨cast_14, e_cast_14, hf⟩ := nm_ex hf
        rw [← e_cast_14]
        obtain ⟨o_cast_15, hf⟩ := gd_ex hf
        refine g_getF (k := 0) (o := 1) (z := (cast_14 + 1)) dX7_feud_27 rfl fg_X7_110 rfl o_cast_15 rfl ?_
        refine q_iload_n dX7_feud_30 rfl rfl ?_
        obtain ⟨g_16, hf⟩ := gd_ex hf
        refine q_aaloadF (z := (cast_14 + 2 + i_0)) dX7_feud_31 rfl (sf_2_0 o_cast_15) (by decide) g_16 rfl (by omega) ?_
        refine q_iload_n dX7_feud_32 rfl rfl ?_
        obtain ⟨r_17, h_18, e_19, hf⟩ := bd_ex hf
        refine g_Vb (vs := [(0, j_0)]) (st := []) dX7_feud_33 rfl (S_X0_hates X (cast_14 + 2 + i_0) (ok_mem o_cast_15 g_16) j_0 h_9) e_19 mf_X0_hates ml_X7_141 (ok_mem o_cast_15 g_16) rfl rfl rfl (fun b_20 => ?_)
        refine q_if_eq (tgt := 43) dX7_feud_36 rfl (by decide) (fun c_21 => ?_) (fun c_21 => ?_)
        · replace hf := it_f hf (by omega)
          refine q_iconst dX7_feud_43 rfl rfl ?_
          exact g_ireturn dX7_feud_44 rfl hf
        · replace hf := it_t hf (by omega)
          refine q_iconst dX7_feud_39 rfl rfl ?_
          refine q_goto (tgt := 44) dX7_feud_40 rfl (by decide) ?_
          exact g_ireturn dX7_feud_44 rfl hf
      · replace hf := it_t hf (by omega)
        exact J_K_1 _ hf
def F_X7_tune (what_0 v_0 : Int) (h : Mem) : Res := jn (fun (K_1 : Mem → Res) => if (what_0 < 0) then (K_1 h) else (if (8 ≤ what_0) then (K_1 h) else (gd (0 ≤ what_0 ∧ what_0 < 8) (if (v_0 < (tuLeast.getD (what_0).toNat 0)) then (K_1 h) else (if ((tuMost.getD (what_0).toNat 0) < v_0) then (K_1 h) else (nm (h 34 what_0) (fun old_8 => nm (wr h 34 what_0 v_0) (fun (h_9 : Mem) => nm (wr h_9 1 11 0) (fun (h_10 : Mem) => some (old_8, h_10)))))))))) (fun (h_2 : Mem) => some ((-1), h_2))
theorem S_X7_tune (X : XS) (what_0 : Int) (v_0 : Int) (h : Mem) : CT X yX7_tune MX7_tune (some .int) 0 0 [(2, 1), (0, what_0), (0, v_0)] h (F_X7_tune what_0 v_0 h) := by
  refine CT.ofI (by decide) rfl (Nat.le_of_ble_eq_true rfl) (fun r hf => ?_)
  unfold F_X7_tune at hf
  show AJ X MX7_tune (rmD 0) 0 [(2, 1), (0, what_0), (0, v_0), (3, 0)] [] h (PH 0 r)
  obtain ⟨K_1, J_K_1, hf⟩ := jn_ex (P := fun K => ∀ (h_2 : Mem), K h_2 = some r → AJ X MX7_tune (rmD 0) 28 [(2, 1), (0, what_0), (0, v_0), (3, 0)] [] h_2 (PH 0 r)) hf (by
      intro h_2 hf
      refine q_iconst dX7_tune_28 rfl rfl ?_
      exact g_ireturn dX7_tune_29 rfl hf)
  refine q_iload_n dX7_tune_0 rfl rfl ?_
  refine q_if_lt (tgt := 28) dX7_tune_1 rfl (by decide) (fun c_3 => ?_) (fun c_3 => ?_)
  · replace hf := it_t hf (by omega)
    exact J_K_1 _ hf
  · replace hf := it_f hf (by omega)
    refine q_iload_n dX7_tune_4 rfl rfl ?_
    refine q_bipush dX7_tune_5 rfl (by decide) ?_
    refine q_icmp_ge (tgt := 28) dX7_tune_7 rfl (by decide) (fun c_4 => ?_) (fun c_4 => ?_)
    · replace hf := it_t hf (by omega)
      exact J_K_1 _ hf
    · replace hf := it_f hf (by omega)
      refine q_iload_n dX7_tune_10 rfl rfl ?_
      refine q_gets dX7_tune_11 rfl (Or.inl ⟨rfl, rfl⟩) gs_X7_144 ?_
      refine q_iload_n dX7_tune_14 rfl rfl ?_
      obtain ⟨g_5, hf⟩ := gd_ex hf
      refine q_tload dX7_tune_15 rfl (Or.inl ⟨rfl, rfl⟩) g_5 ?_
      refine q_icmp_lt (tgt := 28) dX7_tune_16 rfl (by decide) (fun c_6 => ?_) (fun c_6 => ?_)
      · replace hf := it_t hf (by omega)
        exact J_K_1 _ hf
      · replace hf := it_f hf (by omega)
        refine q_iload_n dX7_tune_19 rfl rfl ?_
        refine q_gets dX7_tune_20 rfl (Or.inr ⟨rfl, rfl⟩) gs_X7_147 ?_
        refine q_iload_n dX7_tune_23 rfl rfl ?_
        refine q_tload dX7_tune_24 rfl (Or.inr ⟨rfl, rfl⟩) g_5 ?_
        refine q_icmp_le (tgt := 30) dX7_tune_25 rfl (by decide) (fun c_7 => ?_) (fun c_7 => ?_)
        · replace hf := it_f hf (by omega)
          refine q_aload_n dX7_tune_30 rfl rfl ?_
          refine g_getF (k := 5) (o := 32) (z := 33) dX7_tune_31 rfl fg_X7_40 rfl rfl rfl ?_
          refine g_getF (k := 0) (o := 1) (z := 34) dX7_tune_34 rfl fg_X7_150 rfl rfl rfl ?_
          refine q_iload_n dX7_tune_37 rfl rfl ?_
          refine q_iaload dX7_tune_38 rfl rfl g_5 ?_
          obtain ⟨old_8, e_old_8, hf⟩ := nm_ex hf
          rw [← e_old_8]
          refine q_istore_n (ls' := [(2, 1), (0, what_0), (0, v_0), (0, old_8)]) dX7_tune_39 rfl rfl (Nat.le_of_ble_eq_true rfl) rfl ?_
          refine q_aload_n dX7_tune_40 rfl rfl ?_
          refine g_getF (k := 5) (o := 32) (z := 33) dX7_tune_41 rfl fg_X7_40 rfl rfl rfl ?_
          refine g_getF (k := 0) (o := 1) (z := 34) dX7_tune_44 rfl fg_X7_150 rfl rfl rfl ?_
          refine q_iload_n dX7_tune_47 rfl rfl ?_
          refine q_iload_n dX7_tune_48 rfl rfl ?_
          refine q_iastore dX7_tune_49 rfl rfl g_5 ?_
          obtain ⟨h_9, e_h_9, hf⟩ := nm_ex hf
          rw [← e_h_9]
          refine q_aload_n dX7_tune_50 rfl rfl ?_
          refine q_iconst dX7_tune_51 rfl rfl ?_
          refine g_put (k := 11) (kz := 11) dX7_tune_52 rfl fp_X7_74 rfl (fun _ => Or.inl rfl) rfl ?_
          obtain ⟨h_10, e_h_10, hf⟩ := nm_ex hf
          rw [← e_h_10]
          refine q_iload_n dX7_tune_55 rfl rfl ?_
          exact g_ireturn dX7_tune_56 rfl hf
        · replace hf := it_t hf (by omega)
          exact J_K_1 _ hf
def F_X7_family (i_0 v_0 : Int) (h : Mem) : Res := jn (fun (K_1 : Mem → Res) => bd (F_X7_isAct i_0 h) (fun r_3 (h_4 : Mem) => if (¬ r_3 = 0) then (if (v_0 < 0) then (K_1 h_4) else (if (99 < v_0) then (K_1 h_4) else (nm (h_4 1 1) (fun cast_10 => gd (okO 2 cast_10 = true) (gd (0 ≤ i_0 ∧ i_0 < 9) (nm (h_4 (cast_10 + 2 + i_0) 9) (fun old_13 => nm (h_4 1 1) (fun cast_14 => gd (okO 2 cast_14 = true) (nm (wr h_4 (cast_14 + 2 + i_0) 9 v_0) (fun (h_16 : Mem) => some (old_13, h_16))))))))))) else (K_1 h_4))) (fun (h_2 : Mem) => some ((-1), h_2))
theorem S_X7_family (X : XS) (i_0 : Int) (v_0 : Int) (h : Mem) : CT X yX7_family MX7_family (some .int) 0 1 [(2, 1), (0, i_0), (0, v_0)] h (F_X7_family i_0 v_0 h) := by
  refine CT.ofI (by decide) rfl (Nat.le_of_ble_eq_true rfl) (fun r hf => ?_)
  unfold F_X7_family at hf
  show AJ X MX7_family (rmD 1) 0 [(2, 1), (0, i_0), (0, v_0), (3, 0)] [] h (PH 0 r)
  obtain ⟨K_1, J_K_1, hf⟩ := jn_ex (P := fun K => ∀ (h_2 : Mem), K h_2 = some r → AJ X MX7_family (rmD 1) 18 [(2, 1), (0, i_0), (0, v_0), (3, 0)] [] h_2 (PH 0 r)) hf (by
      intro h_2 hf
      refine q_iconst dX7_family_18 rfl rfl ?_
      exact g_ireturn dX7_family_19 rfl hf)
  refine q_aload_n dX7_family_0 rfl rfl ?_
  refine q_iload_n dX7_family_1 rfl rfl ?_
  obtain ⟨r_3, h_4, e_5, hf⟩ := bd_ex hf
  refine g_Vb (vs := [(0, i_0)]) (st := []) dX7_family_2 rfl (S_X7_isAct X i_0 h) e_5 mf_X7_isAct ml_X7_106 rfl rfl rfl rfl (fun b_6 => ?_)
  refine q_if_eq (tgt := 18) dX7_family_5 rfl (by decide) (fun c_7 => ?_) (fun c_7 => ?_)
  · replace hf := it_f hf (by omega)
    exact J_K_1 _ hf
  · replace hf := it_t hf (by omega)
    refine q_iload_n dX7_family_8 rfl rfl ?_
    refine q_if_lt (tgt := 18) dX7_family_9 rfl (by decide) (fun c_8 => ?_) (fun c_8 => ?_)
    · replace hf := it_t hf (by omega)
      exact J_K_1 _ hf
    · replace hf := it_f hf (by omega)
      refine q_iload_n dX7_family_12 rfl rfl ?_
      refine q_bipush dX7_family_13 rfl (by decide) ?_
      refine q_icmp_le (tgt := 20) dX7_family_15 rfl (by decide) (fun c_9 => ?_) (fun c_9 => ?_)
      · replace hf := it_f hf (by omega)
        refine q_aload_n dX7_family_20 rfl rfl ?_
        refine g_get (k := 1) (kz := 1) dX7_family_21 rfl fg_X7_19 rfl rfl ?_
        obtain ⟨cast_10, e_cast_10, hf⟩ := nm_ex hf
        rw [← e_cast_10]
        obtain ⟨o_cast_11, hf⟩ := gd_ex hf
        refine g_getF (k := 0) (o := 1) (z := (cast_10 + 1)) dX7_family_24 rfl fg_X7_110 rfl o_cast_11 rfl ?_
        refine q_iload_n dX7_family_27 rfl rfl ?_
        obtain ⟨g_12, hf⟩ := gd_ex hf
        refine q_aaloadF (z := (cast_10 + 2 + i_0)) dX7_family_28 rfl (sf_2_0 o_cast_11) (by decide) g_12 rfl (by omega) ?_
        refine g_get (k := 9) (kz := 9) dX7_family_29 rfl fg_X7_138 rfl (ok_mem o_cast_11 g_12) ?_
        obtain ⟨old_13, e_old_13, hf⟩ := nm_ex hf
        rw [← e_old_13]
        refine q_istore_n (ls' := [(2, 1), (0, i_0), (0, v_0), (0, old_13)]) dX7_family_32 rfl rfl (Nat.le_of_ble_eq_true rfl) rfl ?_
        refine q_aload_n dX7_family_33 rfl rfl ?_
        refine g_get (k := 1) (kz := 1) dX7_family_34 rfl fg_X7_19 rfl rfl ?_
        obtain ⟨cast_14, e_cast_14, hf⟩ := nm_ex hf
        rw [← e_cast_14]
        obtain ⟨o_cast_15, hf⟩ := gd_ex hf
        refine g_getF (k := 0) (o := 1) (z := (cast_14 + 1)) dX7_family_37 rfl fg_X7_110 rfl o_cast_15 rfl ?_
        refine q_iload_n dX7_family_40 rfl rfl ?_
        refine q_aaloadF (z := (cast_14 + 2 + i_0)) dX7_family_41 rfl (sf_2_0 o_cast_15) (by decide) g_12 rfl (by omega) ?_
        refine q_iload_n dX7_family_42 rfl rfl ?_
        refine g_put (k := 9) (kz := 9) dX7_family_43 rfl fp_X7_138 rfl (fun q => q.1 rfl) (ok_mem o_cast_15 g_12) ?_
        obtain ⟨h_16, e_h_16, hf⟩ := nm_ex hf
        rw [← e_h_16]
        refine q_iload_n dX7_family_46 rfl rfl ?_
        exact g_ireturn dX7_family_47 rfl hf
      · replace hf := it_t hf (by omega)
        exact J_K_1 _ hf
def F_X7_place (i_0 : Int) (h : Mem) : Res := bd (F_X7_isAct i_0 h) (fun r_1 (h_2 : Mem) => if (¬ r_1 = 0) then (bd (F_X1_placeOf 26 i_0 h_2) (fun r_6 (h_7 : Mem) => if (¬ r_6 = (-9)) then (some ((-2), h_7)) else (bd (F_X1_append 26 i_0 h_7) (fun _ (h_11 : Mem) => nm (wr h_11 1 11 0) (fun (h_13 : Mem) => some (h_13 26 1, h_13)))))) else (some ((-1), h_2)))
theorem S_X7_place (X : XS) (i_0 : Int) (h : Mem) : CT X yX7_place MX7_place (some .int) 0 1 [(2, 1), (0, i_0)] h (F_X7_place i_0 h) := by
  refine CT.ofI (by decide) rfl (Nat.le_of_ble_eq_true rfl) (fun r hf => ?_)
  unfold F_X7_place at hf
  show AJ X MX7_place (rmD 1) 0 [(2, 1), (0, i_0)] [] h (PH 0 r)
  refine q_aload_n dX7_place_0 rfl rfl ?_
  refine q_iload_n dX7_place_1 rfl rfl ?_
  obtain ⟨r_1, h_2, e_3, hf⟩ := bd_ex hf
  refine g_Vb (vs := [(0, i_0)]) (st := []) dX7_place_2 rfl (S_X7_isAct X i_0 h) e_3 mf_X7_isAct ml_X7_106 rfl rfl rfl rfl (fun b_4 => ?_)
  refine q_if_ne (tgt := 10) dX7_place_5 rfl (by decide) (fun c_5 => ?_) (fun c_5 => ?_)
  · replace hf := it_t hf (by omega)
    refine q_aload_n dX7_place_10 rfl rfl ?_
    refine g_getF (k := 3) (o := 25) (z := 26) dX7_place_11 rfl fg_X7_29 rfl rfl rfl ?_
    refine q_iload_n dX7_place_14 rfl rfl ?_
    obtain ⟨r_6, h_7, e_8, hf⟩ := bd_ex hf
    refine g_Vi (vs := [(0, i_0)]) (st := []) dX7_place_15 rfl (S_X1_placeOf X 26 rfl i_0 h_2) e_8 mf_X1_placeOf ml_X7_153 rfl rfl rfl rfl ?_
    refine q_bipush dX7_place_18 rfl (by decide) ?_
    refine q_icmp_eq (tgt := 26) dX7_place_20 rfl (by decide) (fun c_9 => ?_) (fun c_9 => ?_)
    · replace hf := it_f hf (by omega)
      refine q_aload_n dX7_place_26 rfl rfl ?_
      refine g_getF (k := 3) (o := 25) (z := 26) dX7_place_27 rfl fg_X7_29 rfl rfl rfl ?_
      refine q_iload_n dX7_place_30 rfl rfl ?_
      obtain ⟨r_10, h_11, e_12, hf⟩ := bd_ex hf
      refine g_Vv (vs := [(0, i_0)]) (st := []) dX7_place_31 rfl (S_X1_append X 26 rfl i_0 h_7) e_12 mf_X1_append ml_X7_157 rfl rfl rfl rfl ?_
      refine q_aload_n dX7_place_34 rfl rfl ?_
      refine q_iconst dX7_place_35 rfl rfl ?_
      refine g_put (k := 11) (kz := 11) dX7_place_36 rfl fp_X7_74 rfl (fun _ => Or.inl rfl) rfl ?_
      obtain ⟨h_13, e_h_13, hf⟩ := nm_ex hf
      rw [← e_h_13]
      refine q_aload_n dX7_place_39 rfl rfl ?_
      refine g_getF (k := 3) (o := 25) (z := 26) dX7_place_40 rfl fg_X7_29 rfl rfl rfl ?_
      refine g_get (k := 1) (kz := 1) dX7_place_43 rfl fg_X7_159 rfl rfl ?_
      exact g_ireturn dX7_place_46 rfl hf
    · replace hf := it_t hf (by omega)
      refine q_bipush dX7_place_23 rfl (by decide) ?_
      exact g_ireturn dX7_place_25 rfl hf
  · replace hf := it_f hf (by omega)
    refine q_iconst dX7_place_8 rfl rfl ?_
    exact g_ireturn dX7_place_9 rfl hf
def F_X7_empty (h : Mem) : Res := nm (h 26 1) (fun had_1 => bd (F_X1_strip 26 h) (fun _ (h_3 : Mem) => nm (wr h_3 1 11 0) (fun (h_5 : Mem) => some (had_1, h_5))))
theorem S_X7_empty (X : XS) (h : Mem) : CT X yX7_empty MX7_empty (some .int) 0 1 [(2, 1)] h (F_X7_empty h) := by
  refine CT.ofI (by decide) rfl (Nat.le_of_ble_eq_true rfl) (fun r hf => ?_)
  unfold F_X7_empty at hf
  show AJ X MX7_empty (rmD 1) 0 [(2, 1), (3, 0)] [] h (PH 0 r)
  refine q_aload_n dX7_empty_0 rfl rfl ?_
  refine g_getF (k := 3) (o := 25) (z := 26) dX7_empty_1 rfl fg_X7_29 rfl rfl rfl ?_
  refine g_get (k := 1) (kz := 1) dX7_empty_4 rfl fg_X7_159 rfl rfl ?_
  obtain ⟨had_1, e_had_1, hf⟩ := nm_ex hf
  rw [← e_had_1]
  refine q_istore_n (ls' := [(2, 1), (0, had_1)]) dX7_empty_7 rfl rfl (Nat.le_of_ble_eq_true rfl) rfl ?_
  refine q_aload_n dX7_empty_8 rfl rfl ?_
  refine g_getF (k := 3) (o := 25) (z := 26) dX7_empty_9 rfl fg_X7_29 rfl rfl rfl ?_
  obtain ⟨r_2, h_3, e_4, hf⟩ := bd_ex hf
  refine g_Vv (vs := []) (st := []) dX7_empty_12 rfl (S_X1_strip X 26 rfl h) e_4 mf_X1_strip ml_X7_97 rfl rfl rfl rfl ?_
  refine q_aload_n dX7_empty_15 rfl rfl ?_
  refine q_iconst dX7_empty_16 rfl rfl ?_
  refine g_put (k := 11) (kz := 11) dX7_empty_17 rfl fp_X7_74 rfl (fun _ => Or.inl rfl) rfl ?_
  obtain ⟨h_5, e_h_5, hf⟩ := nm_ex hf
  rw [← e_h_5]
  refine q_iload_n dX7_empty_20 rfl rfl ?_
  exact g_ireturn dX7_empty_21 rfl hf
def F_X7_rest (b_0 : Int) (h : Mem) : Res := if ((b_0 < 0) ∨ ((h 26 1) ≤ b_0)) then (some ((-1), h)) else (nm (h 26 2) (fun old_1 => nm (wr h 26 2 b_0) (fun (h_2 : Mem) => some (old_1, h_2))))
theorem S_X7_rest (X : XS) (b_0 : Int) (h : Mem) : CT X yX7_rest MX7_rest (some .int) 0 0 [(2, 1), (0, b_0)] h (F_X7_rest b_0 h) := by
  refine CT.ofI (by decide) rfl (Nat.le_of_ble_eq_true rfl) (fun r hf => ?_)
  unfold F_X7_rest at hf
  show AJ X MX7_rest (rmD 0) 0 [(2, 1), (0, b_0), (3, 0)] [] h (PH 0 r)
  have HT_3 : ((b_0 < 0) ∨ ((h 26 1) ≤ b_0)) → AJ X MX7_rest (rmD 0) 15 [(2, 1), (0, b_0), (3, 0)] [] h (PH 0 r) := by
    intro hc
    replace hf := it_t hf hc
    refine q_iconst dX7_rest_15 rfl rfl ?_
    exact g_ireturn dX7_rest_16 rfl hf
  refine q_iload_n dX7_rest_0 rfl rfl ?_
  refine q_if_lt (tgt := 15) dX7_rest_1 rfl (by decide) (fun c_4 => ?_) (fun c_4 => ?_)
  · exact HT_3 (by omega)
  · refine q_iload_n dX7_rest_4 rfl rfl ?_
    refine q_aload_n dX7_rest_5 rfl rfl ?_
    refine g_getF (k := 3) (o := 25) (z := 26) dX7_rest_6 rfl fg_X7_29 rfl rfl rfl ?_
    refine g_get (k := 1) (kz := 1) dX7_rest_9 rfl fg_X7_159 rfl rfl ?_
    refine q_icmp_lt (tgt := 17) dX7_rest_12 rfl (by decide) (fun c_5 => ?_) (fun c_5 => ?_)
    · replace hf := it_f hf (by omega)
      refine q_aload_n dX7_rest_17 rfl rfl ?_
      refine g_getF (k := 3) (o := 25) (z := 26) dX7_rest_18 rfl fg_X7_29 rfl rfl rfl ?_
      refine g_get (k := 2) (kz := 2) dX7_rest_21 rfl fg_X7_162 rfl rfl ?_
      obtain ⟨old_1, e_old_1, hf⟩ := nm_ex hf
      rw [← e_old_1]
      refine q_istore_n (ls' := [(2, 1), (0, b_0), (0, old_1)]) dX7_rest_24 rfl rfl (Nat.le_of_ble_eq_true rfl) rfl ?_
      refine q_aload_n dX7_rest_25 rfl rfl ?_
      refine g_getF (k := 3) (o := 25) (z := 26) dX7_rest_26 rfl fg_X7_29 rfl rfl rfl ?_
      refine q_iload_n dX7_rest_29 rfl rfl ?_
      refine g_put (k := 2) (kz := 2) dX7_rest_30 rfl fp_X7_162 rfl (fun q => q.1 rfl) rfl ?_
      obtain ⟨h_2, e_h_2, hf⟩ := nm_ex hf
      rw [← e_h_2]
      refine q_iload_n dX7_rest_33 rfl rfl ?_
      exact g_ireturn dX7_rest_34 rfl hf
    · exact HT_3 (by omega)
def F_X7_on (p_0 : Int) (h : Mem) : Res := bd (F_X1_hasPlace 26 p_0 h) (fun r_1 (h_2 : Mem) => if (¬ r_1 = 0) then (gd (0 ≤ p_0 ∧ p_0 < 9) (some (h_2 27 p_0, h_2))) else (some ((-1), h_2)))
theorem S_X7_on (X : XS) (p_0 : Int) (h : Mem) : CT X yX7_on MX7_on (some .int) 0 1 [(2, 1), (0, p_0)] h (F_X7_on p_0 h) := by
  refine CT.ofI (by decide) rfl (Nat.le_of_ble_eq_true rfl) (fun r hf => ?_)
  unfold F_X7_on at hf
  show AJ X MX7_on (rmD 1) 0 [(2, 1), (0, p_0)] [] h (PH 0 r)
  refine q_aload_n dX7_on_0 rfl rfl ?_
  refine g_getF (k := 3) (o := 25) (z := 26) dX7_on_1 rfl fg_X7_29 rfl rfl rfl ?_
  refine q_iload_n dX7_on_4 rfl rfl ?_
  obtain ⟨r_1, h_2, e_3, hf⟩ := bd_ex hf
  refine g_Vb (vs := [(0, p_0)]) (st := []) dX7_on_5 rfl (S_X1_hasPlace X 26 rfl p_0 h) e_3 mf_X1_hasPlace ml_X7_165 rfl rfl rfl rfl (fun b_4 => ?_)
  refine q_if_eq (tgt := 23) dX7_on_8 rfl (by decide) (fun c_5 => ?_) (fun c_5 => ?_)
  · replace hf := it_f hf (by omega)
    refine q_iconst dX7_on_23 rfl rfl ?_
    exact g_ireturn dX7_on_24 rfl hf
  · replace hf := it_t hf (by omega)
    refine q_aload_n dX7_on_11 rfl rfl ?_
    refine g_getF (k := 3) (o := 25) (z := 26) dX7_on_12 rfl fg_X7_29 rfl rfl rfl ?_
    refine g_getF (k := 0) (o := 1) (z := 27) dX7_on_15 rfl fg_X7_168 rfl rfl rfl ?_
    refine q_iload_n dX7_on_18 rfl rfl ?_
    obtain ⟨g_6, hf⟩ := gd_ex hf
    refine q_iaload dX7_on_19 rfl rfl g_6 ?_
    refine q_goto (tgt := 24) dX7_on_20 rfl (by decide) ?_
    exact g_ireturn dX7_on_24 rfl hf
def L_X7_play_1 (row_0 pause_0 : Int) (Kx : Int → Mem → Res) : Nat → Int → Mem → Res
  | 0, _, _ => none
  | n + 1, p_5, h_4 => if (p_5 < (h_4 26 1)) then (nm (h_4 1 1) (fun cast_6 => gd (okO 2 cast_6 = true) (gd (0 ≤ p_5 ∧ p_5 < 9) (gd (0 ≤ (h_4 row_0 p_5) ∧ (h_4 row_0 p_5) < 9) (bd (F_X6_seat p_5 (cast_6 + 2 + (h_4 row_0 p_5)) h_4) (fun _ (h_11 : Mem) => bd (F_X6_applaud p_5 0 h_11) (fun _ (h_14 : Mem) => nm (w32 (p_5 + 1)) (fun p_16 => L_X7_play_1 row_0 pause_0 Kx n p_16 h_14)))))))) else (Kx p_5 h_4)
def F_X7_play (row_0 pause_0 : Int) (h : Mem) : Res := bd (F_X6_open (h 26 1) pause_0 h) (fun _ (h_2 : Mem) => L_X7_play_1 row_0 pause_0 (fun p_19 (h_18 : Mem) => some (0, h_18)) FU 0 h_2)
theorem SL_X7_play_1 (X : XS) (row_0 pause_0 : Int) (s_row_0 : shp row_0 = some (100, 9)) (Kx : Int → Mem → Res) {r : Int × Mem} (hK : ∀ (p_5 : Int) (h_4 : Mem), Kx p_5 h_4 = some r → AJ X MX7_play (rmD 3) 62 [(2, 1), (2, row_0), (0, pause_0), (0, p_5)] [] h_4 (PH 9 r)) :
    ∀ (n : Nat) (p_5 : Int) (h_4 : Mem), L_X7_play_1 row_0 pause_0 Kx n p_5 h_4 = some r → AJ X MX7_play (rmD 3) 17 [(2, 1), (2, row_0), (0, pause_0), (0, p_5)] [] h_4 (PH 9 r) := by
  intro n
  induction n with
  | zero => intro p_5 h_4 hf; cases hf
  | succ n ih =>
    intro p_5 h_4 hf
    rw [L_X7_play_1] at hf
    refine q_iload_n dX7_play_17 rfl rfl ?_
    refine q_aload_n dX7_play_18 rfl rfl ?_
    refine g_getF (k := 3) (o := 25) (z := 26) dX7_play_19 rfl fg_X7_29 rfl rfl rfl ?_
    refine g_get (k := 1) (kz := 1) dX7_play_22 rfl fg_X7_159 rfl rfl ?_
    refine q_icmp_ge (tgt := 62) dX7_play_25 rfl (by decide) (fun c_17 => ?_) (fun c_17 => ?_)
    · replace hf := it_f hf (by omega)
      exact hK _ _ hf
    · replace hf := it_t hf (by omega)
      refine q_aload_n dX7_play_28 rfl rfl ?_
      refine g_getF (k := 5) (o := 32) (z := 33) dX7_play_29 rfl fg_X7_40 rfl rfl rfl ?_
      refine q_iload_n dX7_play_32 rfl rfl ?_
      refine q_aload_n dX7_play_33 rfl rfl ?_
      refine g_get (k := 1) (kz := 1) dX7_play_34 rfl fg_X7_19 rfl rfl ?_
      obtain ⟨cast_6, e_cast_6, hf⟩ := nm_ex hf
      rw [← e_cast_6]
      obtain ⟨o_cast_7, hf⟩ := gd_ex hf
      refine g_getF (k := 0) (o := 1) (z := (cast_6 + 1)) dX7_play_37 rfl fg_X7_110 rfl o_cast_7 rfl ?_
      refine q_aload_n dX7_play_40 rfl rfl ?_
      refine q_iload_n dX7_play_41 rfl rfl ?_
      obtain ⟨g_8, hf⟩ := gd_ex hf
      refine q_iaload dX7_play_42 rfl s_row_0 g_8 ?_
      obtain ⟨g_9, hf⟩ := gd_ex hf
      refine q_aaloadF (z := (cast_6 + 2 + (h_4 row_0 p_5))) dX7_play_43 rfl (sf_2_0 o_cast_7) (by decide) g_9 rfl (by omega) ?_
      obtain ⟨r_10, h_11, e_12, hf⟩ := bd_ex hf
      refine g_Vv (vs := [(0, p_5), (2, (cast_6 + 2 + (h_4 row_0 p_5)))]) (st := []) dX7_play_44 rfl (S_X6_seat X p_5 (cast_6 + 2 + (h_4 row_0 p_5)) (ok_mem o_cast_7 g_9) h_4) e_12 mf_X6_seat ml_X7_279 rfl rfl rfl rfl ?_
      refine q_aload_n dX7_play_47 rfl rfl ?_
      refine g_getF (k := 5) (o := 32) (z := 33) dX7_play_48 rfl fg_X7_40 rfl rfl rfl ?_
      refine q_iload_n dX7_play_51 rfl rfl ?_
      refine q_iconst dX7_play_52 rfl rfl ?_
      obtain ⟨r_13, h_14, e_15, hf⟩ := bd_ex hf
      refine g_Vv (vs := [(0, p_5), (0, 0)]) (st := []) dX7_play_53 rfl (S_X6_applaud X p_5 0 h_11) e_15 mf_X6_applaud ml_X7_286 rfl rfl rfl rfl ?_
      refine q_iinc (ls' := [(2, 1), (2, row_0), (0, pause_0), (0, w32 (p_5 + 1))]) dX7_play_56 rfl rfl rfl ?_
      obtain ⟨p_16, e_p_16, hf⟩ := nm_ex hf
      rw [← e_p_16]
      refine q_goto (tgt := 17) dX7_play_59 rfl (by decide) ?_
      exact ih _ _ hf
theorem S_X7_play (X : XS) (row_0 : Int) (s_row_0 : shp row_0 = some (100, 9)) (pause_0 : Int) (h : Mem) : CT X yX7_play MX7_play none 9 3 [(2, 1), (2, row_0), (0, pause_0)] h (F_X7_play row_0 pause_0 h) := by
  refine CT.ofV (by decide) rfl (Nat.le_of_ble_eq_true rfl) (fun r hf => ?_)
  unfold F_X7_play at hf
  show AJ X MX7_play (rmD 3) 0 [(2, 1), (2, row_0), (0, pause_0), (3, 0)] [] h (PH 9 r)
  refine q_aload_n dX7_play_0 rfl rfl ?_
  refine g_getF (k := 5) (o := 32) (z := 33) dX7_play_1 rfl fg_X7_40 rfl rfl rfl ?_
  refine q_aload_n dX7_play_4 rfl rfl ?_
  refine g_getF (k := 3) (o := 25) (z := 26) dX7_play_5 rfl fg_X7_29 rfl rfl rfl ?_
  refine g_get (k := 1) (kz := 1) dX7_play_8 rfl fg_X7_159 rfl rfl ?_
  refine q_iload_n dX7_play_11 rfl rfl ?_
  obtain ⟨r_1, h_2, e_3, hf⟩ := bd_ex hf
  refine g_Vv (vs := [(0, h 26 1), (0, pause_0)]) (st := []) dX7_play_12 rfl (S_X6_open X (h 26 1) pause_0 h) e_3 mf_X6_open ml_X7_276 rfl rfl rfl rfl ?_
  refine q_iconst dX7_play_15 rfl rfl ?_
  refine q_istore_n (ls' := [(2, 1), (2, row_0), (0, pause_0), (0, 0)]) dX7_play_16 rfl rfl (Nat.le_of_ble_eq_true rfl) rfl ?_
  refine SL_X7_play_1 X row_0 pause_0 s_row_0 _ (fun p_19 h_18 hf => ?_) FU _ _ hf
  exact g_return dX7_play_62 rfl hf
def F_X7_minute (p_0 what_0 : Int) (h : Mem) : Res := jn (fun (K_1 : Mem → Res) => bd (F_X1_hasPlace 26 p_0 h) (fun r_3 (h_4 : Mem) => if (¬ r_3 = 0) then (if (what_0 < 0) then (K_1 h_4) else (if (2 < what_0) then (K_1 h_4) else (bd (F_X7_play 27 (h_4 26 2) h_4) (fun _ (h_11 : Mem) => if what_0 = 0 then (gd (0 ≤ p_0 ∧ p_0 < 10) (some (h_11 36 p_0, h_11))) else (if what_0 = 1 then (gd (0 ≤ p_0 ∧ p_0 < 10) (some (h_11 37 p_0, h_11))) else (gd (0 ≤ p_0 ∧ p_0 < 10) (some (h_11 38 p_0, h_11)))))))) else (K_1 h_4))) (fun (h_2 : Mem) => some ((-1), h_2))
theorem S_X7_minute (X : XS) (p_0 : Int) (what_0 : Int) (h : Mem) : CT X yX7_minute MX7_minute (some .int) 0 4 [(2, 1), (0, p_0), (0, what_0)] h (F_X7_minute p_0 what_0 h) := by
  refine CT.ofI (by decide) rfl (Nat.le_of_ble_eq_true rfl) (fun r hf => ?_)
  unfold F_X7_minute at hf
  show AJ X MX7_minute (rmD 4) 0 [(2, 1), (0, p_0), (0, what_0)] [] h (PH 0 r)
  obtain ⟨K_1, J_K_1, hf⟩ := jn_ex (P := fun K => ∀ (h_2 : Mem), K h_2 = some r → AJ X MX7_minute (rmD 4) 20 [(2, 1), (0, p_0), (0, what_0)] [] h_2 (PH 0 r)) hf (by
      intro h_2 hf
      refine q_iconst dX7_minute_20 rfl rfl ?_
      exact g_ireturn dX7_minute_21 rfl hf)
  refine q_aload_n dX7_minute_0 rfl rfl ?_
  refine g_getF (k := 3) (o := 25) (z := 26) dX7_minute_1 rfl fg_X7_29 rfl rfl rfl ?_
  refine q_iload_n dX7_minute_4 rfl rfl ?_
  obtain ⟨r_3, h_4, e_5, hf⟩ := bd_ex hf
  refine g_Vb (vs := [(0, p_0)]) (st := []) dX7_minute_5 rfl (S_X1_hasPlace X 26 rfl p_0 h) e_5 mf_X1_hasPlace ml_X7_165 rfl rfl rfl rfl (fun b_6 => ?_)
  refine q_if_eq (tgt := 20) dX7_minute_8 rfl (by decide) (fun c_7 => ?_) (fun c_7 => ?_)
  · replace hf := it_f hf (by omega)
    exact J_K_1 _ hf
  · replace hf := it_t hf (by omega)
    refine q_iload_n dX7_minute_11 rfl rfl ?_
    refine q_if_lt (tgt := 20) dX7_minute_12 rfl (by decide) (fun c_8 => ?_) (fun c_8 => ?_)
    · replace hf := it_t hf (by omega)
      exact J_K_1 _ hf
    · replace hf := it_f hf (by omega)
      refine q_iload_n dX7_minute_15 rfl rfl ?_
      refine q_iconst dX7_minute_16 rfl rfl ?_
      refine q_icmp_le (tgt := 22) dX7_minute_17 rfl (by decide) (fun c_9 => ?_) (fun c_9 => ?_)
      · replace hf := it_f hf (by omega)
        refine q_aload_n dX7_minute_22 rfl rfl ?_
        refine q_aload_n dX7_minute_23 rfl rfl ?_
        refine g_getF (k := 3) (o := 25) (z := 26) dX7_minute_24 rfl fg_X7_29 rfl rfl rfl ?_
        refine g_getF (k := 0) (o := 1) (z := 27) dX7_minute_27 rfl fg_X7_168 rfl rfl rfl ?_
        refine q_aload_n dX7_minute_30 rfl rfl ?_
        refine g_getF (k := 3) (o := 25) (z := 26) dX7_minute_31 rfl fg_X7_29 rfl rfl rfl ?_
        refine g_get (k := 2) (kz := 2) dX7_minute_34 rfl fg_X7_162 rfl rfl ?_
        obtain ⟨r_10, h_11, e_12, hf⟩ := bd_ex hf
        refine g_Vv (vs := [(2, 27), (0, h_4 26 2)]) (st := []) dX7_minute_37 rfl (S_X7_play X 27 rfl (h_4 26 2) h_4) e_12 mf_X7_play ml_X7_171 rfl rfl rfl rfl ?_
        refine q_iload_n dX7_minute_40 rfl rfl ?_
        by_cases c_14 : what_0 = 0
        · replace hf := it_t hf c_14
          refine g_lsw (tgt := 68) (off := 27) dX7_minute_41 rfl (by rw [c_14]; rfl) (by decide) ?_
          refine q_aload_n dX7_minute_68 rfl rfl ?_
          refine g_getF (k := 5) (o := 32) (z := 33) dX7_minute_69 rfl fg_X7_40 rfl rfl rfl ?_
          refine g_getF (k := 2) (o := 3) (z := 36) dX7_minute_72 rfl fg_X7_175 rfl rfl rfl ?_
          refine q_iload_n dX7_minute_75 rfl rfl ?_
          obtain ⟨g_15, hf⟩ := gd_ex hf
          refine q_iaload dX7_minute_76 rfl rfl g_15 ?_
          exact g_ireturn dX7_minute_77 rfl hf
        · replace hf := it_f hf c_14
          by_cases c_16 : what_0 = 1
          · replace hf := it_t hf c_16
            refine g_lsw (tgt := 78) (off := 37) dX7_minute_41 rfl (by rw [c_16]; rfl) (by decide) ?_
            refine q_aload_n dX7_minute_78 rfl rfl ?_
            refine g_getF (k := 5) (o := 32) (z := 33) dX7_minute_79 rfl fg_X7_40 rfl rfl rfl ?_
            refine g_getF (k := 3) (o := 4) (z := 37) dX7_minute_82 rfl fg_X7_178 rfl rfl rfl ?_
            refine q_iload_n dX7_minute_85 rfl rfl ?_
            obtain ⟨g_17, hf⟩ := gd_ex hf
            refine q_iaload dX7_minute_86 rfl rfl g_17 ?_
            exact g_ireturn dX7_minute_87 rfl hf
          · replace hf := it_f hf c_16
            refine g_lsw (tgt := 88) (off := 47) dX7_minute_41 rfl (by simp only [Op.lookupswitch.offset]; omega) (by decide) ?_
            refine q_aload_n dX7_minute_88 rfl rfl ?_
            refine g_getF (k := 5) (o := 32) (z := 33) dX7_minute_89 rfl fg_X7_40 rfl rfl rfl ?_
            refine g_getF (k := 4) (o := 5) (z := 38) dX7_minute_92 rfl fg_X7_181 rfl rfl rfl ?_
            refine q_iload_n dX7_minute_95 rfl rfl ?_
            obtain ⟨g_18, hf⟩ := gd_ex hf
            refine q_iaload dX7_minute_96 rfl rfl g_18 ?_
            exact g_ireturn dX7_minute_97 rfl hf
      · replace hf := it_t hf (by omega)
        exact J_K_1 _ hf
def L_X7_staged_1 (what_0 : Int) (Kx : Int → Mem → Res) : Nat → Int → Mem → Res
  | 0, _, _ => none
  | n + 1, rule_5, h_4 => if (rule_5 ≤ 5) then (bd (F_X6_firstFailing rule_5 h_4) (fun r_6 (h_7 : Mem) => if (¬ r_6 = (-9)) then (if (what_0 = 0) then (some (rule_5, h_7)) else (some (r_6, h_7))) else (nm (w32 (rule_5 + 1)) (fun rule_10 => L_X7_staged_1 what_0 Kx n rule_10 h_7)))) else (Kx rule_5 h_4)
def F_X7_staged (what_0 : Int) (h : Mem) : Res := if ((what_0 < 0) ∨ (1 < what_0)) then (some ((-1), h)) else (if ((h 26 1) = 0) then (some ((-2), h)) else (bd (F_X7_play 27 (h 26 2) h) (fun _ (h_2 : Mem) => L_X7_staged_1 what_0 (fun rule_14 (h_13 : Mem) => some ((-9), h_13)) FU 1 h_2)))
theorem SL_X7_staged_1 (X : XS) (what_0 : Int) (Kx : Int → Mem → Res) {r : Int × Mem} (hK : ∀ (rule_5 : Int) (h_4 : Mem), Kx rule_5 h_4 = some r → AJ X MX7_staged (rmD 4) 80 [(2, 1), (0, what_0), (0, rule_5), (3, 0)] [] h_4 (PH 0 r)) :
    ∀ (n : Nat) (rule_5 : Int) (h_4 : Mem), L_X7_staged_1 what_0 Kx n rule_5 h_4 = some r → AJ X MX7_staged (rmD 4) 44 [(2, 1), (0, what_0), (0, rule_5), (3, 0)] [] h_4 (PH 0 r) := by
  intro n
  induction n with
  | zero => intro rule_5 h_4 hf; cases hf
  | succ n ih =>
    intro rule_5 h_4 hf
    rw [L_X7_staged_1] at hf
    refine q_iload_n dX7_staged_44 rfl rfl ?_
    refine q_iconst dX7_staged_45 rfl rfl ?_
    refine q_icmp_gt (tgt := 80) dX7_staged_46 rfl (by decide) (fun c_12 => ?_) (fun c_12 => ?_)
    · replace hf := it_f hf (by omega)
      exact hK _ _ hf
    · replace hf := it_t hf (by omega)
      refine q_aload_n dX7_staged_49 rfl rfl ?_
      refine g_getF (k := 5) (o := 32) (z := 33) dX7_staged_50 rfl fg_X7_40 rfl rfl rfl ?_
      refine q_iload_n dX7_staged_53 rfl rfl ?_
      obtain ⟨r_6, h_7, e_8, hf⟩ := bd_ex hf
      refine g_Vi (vs := [(0, rule_5)]) (st := []) dX7_staged_54 rfl (S_X6_firstFailing X rule_5 h_4) e_8 mf_X6_firstFailing ml_X7_184 rfl rfl rfl rfl ?_
      refine q_istore_n (ls' := [(2, 1), (0, what_0), (0, rule_5), (0, r_6)]) dX7_staged_57 rfl rfl (Nat.le_of_ble_eq_true rfl) rfl ?_
      refine q_iload_n dX7_staged_58 rfl rfl ?_
      refine q_bipush dX7_staged_59 rfl (by decide) ?_
      refine q_icmp_eq (tgt := 74) dX7_staged_61 rfl (by decide) (fun c_11 => ?_) (fun c_11 => ?_)
      · replace hf := it_f hf (by omega)
        refine q_iinc (ls' := [(2, 1), (0, what_0), (0, w32 (rule_5 + 1)), (0, r_6)]) dX7_staged_74 rfl rfl rfl ?_
        obtain ⟨rule_10, e_rule_10, hf⟩ := nm_ex hf
        rw [← e_rule_10]
        refine q_goto (tgt := 44) dX7_staged_77 rfl (by decide) ?_
        refine g_frg (ls' := [(2, 1), (0, what_0), (0, rule_10), (3, 0)]) [3] rfl ?_
        exact ih _ _ hf
      · replace hf := it_t hf (by omega)
        refine q_iload_n dX7_staged_64 rfl rfl ?_
        refine q_if_ne (tgt := 72) dX7_staged_65 rfl (by decide) (fun c_9 => ?_) (fun c_9 => ?_)
        · replace hf := it_f hf (by omega)
          refine q_iload_n dX7_staged_72 rfl rfl ?_
          exact g_ireturn dX7_staged_73 rfl hf
        · replace hf := it_t hf (by omega)
          refine q_iload_n dX7_staged_68 rfl rfl ?_
          refine q_goto (tgt := 73) dX7_staged_69 rfl (by decide) ?_
          exact g_ireturn dX7_staged_73 rfl hf
theorem S_X7_staged (X : XS) (what_0 : Int) (h : Mem) : CT X yX7_staged MX7_staged (some .int) 0 4 [(2, 1), (0, what_0)] h (F_X7_staged what_0 h) := by
  refine CT.ofI (by decide) rfl (Nat.le_of_ble_eq_true rfl) (fun r hf => ?_)
  unfold F_X7_staged at hf
  show AJ X MX7_staged (rmD 4) 0 [(2, 1), (0, what_0), (3, 0), (3, 0)] [] h (PH 0 r)
  have HT_16 : ((what_0 < 0) ∨ (1 < what_0)) → AJ X MX7_staged (rmD 4) 9 [(2, 1), (0, what_0), (3, 0), (3, 0)] [] h (PH 0 r) := by
    intro hc
    replace hf := it_t hf hc
    refine q_iconst dX7_staged_9 rfl rfl ?_
    exact g_ireturn dX7_staged_10 rfl hf
  refine q_iload_n dX7_staged_0 rfl rfl ?_
  refine q_if_lt (tgt := 9) dX7_staged_1 rfl (by decide) (fun c_17 => ?_) (fun c_17 => ?_)
  · exact HT_16 (by omega)
  · refine q_iload_n dX7_staged_4 rfl rfl ?_
    refine q_iconst dX7_staged_5 rfl rfl ?_
    refine q_icmp_le (tgt := 11) dX7_staged_6 rfl (by decide) (fun c_18 => ?_) (fun c_18 => ?_)
    · replace hf := it_f hf (by omega)
      refine q_aload_n dX7_staged_11 rfl rfl ?_
      refine g_getF (k := 3) (o := 25) (z := 26) dX7_staged_12 rfl fg_X7_29 rfl rfl rfl ?_
      refine g_get (k := 1) (kz := 1) dX7_staged_15 rfl fg_X7_159 rfl rfl ?_
      refine q_if_ne (tgt := 24) dX7_staged_18 rfl (by decide) (fun c_15 => ?_) (fun c_15 => ?_)
      · replace hf := it_f hf (by omega)
        refine q_aload_n dX7_staged_24 rfl rfl ?_
        refine q_aload_n dX7_staged_25 rfl rfl ?_
        refine g_getF (k := 3) (o := 25) (z := 26) dX7_staged_26 rfl fg_X7_29 rfl rfl rfl ?_
        refine g_getF (k := 0) (o := 1) (z := 27) dX7_staged_29 rfl fg_X7_168 rfl rfl rfl ?_
        refine q_aload_n dX7_staged_32 rfl rfl ?_
        refine g_getF (k := 3) (o := 25) (z := 26) dX7_staged_33 rfl fg_X7_29 rfl rfl rfl ?_
        refine g_get (k := 2) (kz := 2) dX7_staged_36 rfl fg_X7_162 rfl rfl ?_
        obtain ⟨r_1, h_2, e_3, hf⟩ := bd_ex hf
        refine g_Vv (vs := [(2, 27), (0, h 26 2)]) (st := []) dX7_staged_39 rfl (S_X7_play X 27 rfl (h 26 2) h) e_3 mf_X7_play ml_X7_171 rfl rfl rfl rfl ?_
        refine q_iconst dX7_staged_42 rfl rfl ?_
        refine q_istore_n (ls' := [(2, 1), (0, what_0), (0, 1), (3, 0)]) dX7_staged_43 rfl rfl (Nat.le_of_ble_eq_true rfl) rfl ?_
        refine SL_X7_staged_1 X what_0  _ (fun rule_14 h_13 hf => ?_) FU _ _ hf
        refine q_bipush dX7_staged_80 rfl (by decide) ?_
        exact g_ireturn dX7_staged_82 rfl hf
      · replace hf := it_t hf (by omega)
        refine q_bipush dX7_staged_21 rfl (by decide) ?_
        exact g_ireturn dX7_staged_23 rfl hf
    · exact HT_16 (by omega)
def F_X7_night (p_0 what_0 : Int) (h : Mem) : Res := jn (fun (K_1 : Mem → Res) => bd (F_X1_hasPlace 26 p_0 h) (fun r_3 (h_4 : Mem) => if (¬ r_3 = 0) then (if (what_0 < 0) then (K_1 h_4) else (if (3 < what_0) then (K_1 h_4) else (bd (F_X7_play 27 (h_4 26 2) h_4) (fun _ (h_11 : Mem) => if what_0 = 0 then (gd (0 ≤ p_0 ∧ p_0 < 10) (some (h_11 40 p_0, h_11))) else (if what_0 = 1 then (gd (0 ≤ p_0 ∧ p_0 < 10) (some (h_11 41 p_0, h_11))) else (if what_0 = 2 then (gd (0 ≤ p_0 ∧ p_0 < 10) (some (h_11 42 p_0, h_11))) else (gd (0 ≤ p_0 ∧ p_0 < 10) (some (h_11 43 p_0, h_11))))))))) else (K_1 h_4))) (fun (h_2 : Mem) => some ((-1), h_2))
theorem S_X7_night (X : XS) (p_0 : Int) (what_0 : Int) (h : Mem) : CT X yX7_night MX7_night (some .int) 0 4 [(2, 1), (0, p_0), (0, what_0)] h (F_X7_night p_0 what_0 h) := by
  refine CT.ofI (by decide) rfl (Nat.le_of_ble_eq_true rfl) (fun r hf => ?_)
  unfold F_X7_night at hf
  show AJ X MX7_night (rmD 4) 0 [(2, 1), (0, p_0), (0, what_0)] [] h (PH 0 r)
  obtain ⟨K_1, J_K_1, hf⟩ := jn_ex (P := fun K => ∀ (h_2 : Mem), K h_2 = some r → AJ X MX7_night (rmD 4) 20 [(2, 1), (0, p_0), (0, what_0)] [] h_2 (PH 0 r)) hf (by
      intro h_2 hf
      refine q_iconst dX7_night_20 rfl rfl ?_
      exact g_ireturn dX7_night_21 rfl hf)
  refine q_aload_n dX7_night_0 rfl rfl ?_
  refine g_getF (k := 3) (o := 25) (z := 26) dX7_night_1 rfl fg_X7_29 rfl rfl rfl ?_
  refine q_iload_n dX7_night_4 rfl rfl ?_
  obtain ⟨r_3, h_4, e_5, hf⟩ := bd_ex hf
  refine g_Vb (vs := [(0, p_0)]) (st := []) dX7_night_5 rfl (S_X1_hasPlace X 26 rfl p_0 h) e_5 mf_X1_hasPlace ml_X7_165 rfl rfl rfl rfl (fun b_6 => ?_)
  refine q_if_eq (tgt := 20) dX7_night_8 rfl (by decide) (fun c_7 => ?_) (fun c_7 => ?_)
  · replace hf := it_f hf (by omega)
    exact J_K_1 _ hf
  · replace hf := it_t hf (by omega)
    refine q_iload_n dX7_night_11 rfl rfl ?_
    refine q_if_lt (tgt := 20) dX7_night_12 rfl (by decide) (fun c_8 => ?_) (fun c_8 => ?_)
    · replace hf := it_t hf (by omega)
      exact J_K_1 _ hf
    · replace hf := it_f hf (by omega)
      refine q_iload_n dX7_night_15 rfl rfl ?_
      refine q_iconst dX7_night_16 rfl rfl ?_
      refine q_icmp_le (tgt := 22) dX7_night_17 rfl (by decide) (fun c_9 => ?_) (fun c_9 => ?_)
      · replace hf := it_f hf (by omega)
        refine q_aload_n dX7_night_22 rfl rfl ?_
        refine q_aload_n dX7_night_23 rfl rfl ?_
        refine g_getF (k := 3) (o := 25) (z := 26) dX7_night_24 rfl fg_X7_29 rfl rfl rfl ?_
        refine g_getF (k := 0) (o := 1) (z := 27) dX7_night_27 rfl fg_X7_168 rfl rfl rfl ?_
        refine q_aload_n dX7_night_30 rfl rfl ?_
        refine g_getF (k := 3) (o := 25) (z := 26) dX7_night_31 rfl fg_X7_29 rfl rfl rfl ?_
        refine g_get (k := 2) (kz := 2) dX7_night_34 rfl fg_X7_162 rfl rfl ?_
        obtain ⟨r_10, h_11, e_12, hf⟩ := bd_ex hf
        refine g_Vv (vs := [(2, 27), (0, h_4 26 2)]) (st := []) dX7_night_37 rfl (S_X7_play X 27 rfl (h_4 26 2) h_4) e_12 mf_X7_play ml_X7_171 rfl rfl rfl rfl ?_
        refine q_iload_n dX7_night_40 rfl rfl ?_
        by_cases c_14 : what_0 = 0
        · replace hf := it_t hf c_14
          refine g_tsw (c := 0) (off := 27) (tgt := 68) dX7_night_41 c_14 (by decide) rfl (by decide) ?_
          refine q_aload_n dX7_night_68 rfl rfl ?_
          refine g_getF (k := 5) (o := 32) (z := 33) dX7_night_69 rfl fg_X7_40 rfl rfl rfl ?_
          refine g_getF (k := 6) (o := 7) (z := 40) dX7_night_72 rfl fg_X7_187 rfl rfl rfl ?_
          refine q_iload_n dX7_night_75 rfl rfl ?_
          obtain ⟨g_15, hf⟩ := gd_ex hf
          refine q_iaload dX7_night_76 rfl rfl g_15 ?_
          exact g_ireturn dX7_night_77 rfl hf
        · replace hf := it_f hf c_14
          by_cases c_16 : what_0 = 1
          · replace hf := it_t hf c_16
            refine g_tsw (c := 1) (off := 37) (tgt := 78) dX7_night_41 c_16 (by decide) rfl (by decide) ?_
            refine q_aload_n dX7_night_78 rfl rfl ?_
            refine g_getF (k := 5) (o := 32) (z := 33) dX7_night_79 rfl fg_X7_40 rfl rfl rfl ?_
            refine g_getF (k := 7) (o := 8) (z := 41) dX7_night_82 rfl fg_X7_190 rfl rfl rfl ?_
            refine q_iload_n dX7_night_85 rfl rfl ?_
            obtain ⟨g_17, hf⟩ := gd_ex hf
            refine q_iaload dX7_night_86 rfl rfl g_17 ?_
            exact g_ireturn dX7_night_87 rfl hf
          · replace hf := it_f hf c_16
            by_cases c_18 : what_0 = 2
            · replace hf := it_t hf c_18
              refine g_tsw (c := 2) (off := 47) (tgt := 88) dX7_night_41 c_18 (by decide) rfl (by decide) ?_
              refine q_aload_n dX7_night_88 rfl rfl ?_
              refine g_getF (k := 5) (o := 32) (z := 33) dX7_night_89 rfl fg_X7_40 rfl rfl rfl ?_
              refine g_getF (k := 8) (o := 9) (z := 42) dX7_night_92 rfl fg_X7_193 rfl rfl rfl ?_
              refine q_iload_n dX7_night_95 rfl rfl ?_
              obtain ⟨g_19, hf⟩ := gd_ex hf
              refine q_iaload dX7_night_96 rfl rfl g_19 ?_
              exact g_ireturn dX7_night_97 rfl hf
            · replace hf := it_f hf c_18
              refine g_tswD (tgt := 98) dX7_night_41 (by omega) (by decide) ?_
              refine q_aload_n dX7_night_98 rfl rfl ?_
              refine g_getF (k := 5) (o := 32) (z := 33) dX7_night_99 rfl fg_X7_40 rfl rfl rfl ?_
              refine g_getF (k := 9) (o := 10) (z := 43) dX7_night_102 rfl fg_X7_196 rfl rfl rfl ?_
              refine q_iload_n dX7_night_105 rfl rfl ?_
              obtain ⟨g_20, hf⟩ := gd_ex hf
              refine q_iaload dX7_night_106 rfl rfl g_20 ?_
              exact g_ireturn dX7_night_107 rfl hf
      · replace hf := it_t hf (by omega)
        exact J_K_1 _ hf
def F_X7_worth (what_0 : Int) (h : Mem) : Res := if ((what_0 < 0) ∨ (3 < what_0)) then (some ((-1), h)) else (if ((h 26 1) = 0) then (some ((-2), h)) else (bd (F_X7_play 27 (h 26 2) h) (fun _ (h_2 : Mem) => nm (w32 ((h_2 26 1) - 1)) (fun last_4 => if what_0 = 0 then (bd (F_X6_total  h_2) (fun r_7 (h_8 : Mem) => some (r_7, h_8))) else (if what_0 = 1 then (some (h_2 33 13, h_2)) else (if what_0 = 2 then (gd (0 ≤ last_4 ∧ last_4 < 10) (some (h_2 43 last_4, h_2))) else (gd (0 ≤ last_4 ∧ last_4 < 10) (some (h_2 38 last_4, h_2)))))))))
theorem S_X7_worth (X : XS) (what_0 : Int) (h : Mem) : CT X yX7_worth MX7_worth (some .int) 0 4 [(2, 1), (0, what_0)] h (F_X7_worth what_0 h) := by
  refine CT.ofI (by decide) rfl (Nat.le_of_ble_eq_true rfl) (fun r hf => ?_)
  unfold F_X7_worth at hf
  show AJ X MX7_worth (rmD 4) 0 [(2, 1), (0, what_0), (3, 0)] [] h (PH 0 r)
  have HT_15 : ((what_0 < 0) ∨ (3 < what_0)) → AJ X MX7_worth (rmD 4) 9 [(2, 1), (0, what_0), (3, 0)] [] h (PH 0 r) := by
    intro hc
    replace hf := it_t hf hc
    refine q_iconst dX7_worth_9 rfl rfl ?_
    exact g_ireturn dX7_worth_10 rfl hf
  refine q_iload_n dX7_worth_0 rfl rfl ?_
  refine q_if_lt (tgt := 9) dX7_worth_1 rfl (by decide) (fun c_16 => ?_) (fun c_16 => ?_)
  · exact HT_15 (by omega)
  · refine q_iload_n dX7_worth_4 rfl rfl ?_
    refine q_iconst dX7_worth_5 rfl rfl ?_
    refine q_icmp_le (tgt := 11) dX7_worth_6 rfl (by decide) (fun c_17 => ?_) (fun c_17 => ?_)
    · replace hf := it_f hf (by omega)
      refine q_aload_n dX7_worth_11 rfl rfl ?_
      refine g_getF (k := 3) (o := 25) (z := 26) dX7_worth_12 rfl fg_X7_29 rfl rfl rfl ?_
      refine g_get (k := 1) (kz := 1) dX7_worth_15 rfl fg_X7_159 rfl rfl ?_
      refine q_if_ne (tgt := 24) dX7_worth_18 rfl (by decide) (fun c_14 => ?_) (fun c_14 => ?_)
      · replace hf := it_f hf (by omega)
        refine q_aload_n dX7_worth_24 rfl rfl ?_
        refine q_aload_n dX7_worth_25 rfl rfl ?_
        refine g_getF (k := 3) (o := 25) (z := 26) dX7_worth_26 rfl fg_X7_29 rfl rfl rfl ?_
        refine g_getF (k := 0) (o := 1) (z := 27) dX7_worth_29 rfl fg_X7_168 rfl rfl rfl ?_
        refine q_aload_n dX7_worth_32 rfl rfl ?_
        refine g_getF (k := 3) (o := 25) (z := 26) dX7_worth_33 rfl fg_X7_29 rfl rfl rfl ?_
        refine g_get (k := 2) (kz := 2) dX7_worth_36 rfl fg_X7_162 rfl rfl ?_
        obtain ⟨r_1, h_2, e_3, hf⟩ := bd_ex hf
        refine g_Vv (vs := [(2, 27), (0, h 26 2)]) (st := []) dX7_worth_39 rfl (S_X7_play X 27 rfl (h 26 2) h) e_3 mf_X7_play ml_X7_171 rfl rfl rfl rfl ?_
        refine q_aload_n dX7_worth_42 rfl rfl ?_
        refine g_getF (k := 3) (o := 25) (z := 26) dX7_worth_43 rfl fg_X7_29 rfl rfl rfl ?_
        refine g_get (k := 1) (kz := 1) dX7_worth_46 rfl fg_X7_159 rfl rfl ?_
        refine q_iconst dX7_worth_49 rfl rfl ?_
        refine q_isub dX7_worth_50 rfl ?_
        obtain ⟨last_4, e_last_4, hf⟩ := nm_ex hf
        rw [← e_last_4]
        refine q_istore_n (ls' := [(2, 1), (0, what_0), (0, last_4)]) dX7_worth_51 rfl rfl (Nat.le_of_ble_eq_true rfl) rfl ?_
        refine q_iload_n dX7_worth_52 rfl rfl ?_
        by_cases c_6 : what_0 = 0
        · replace hf := it_t hf c_6
          refine g_tsw (c := 0) (off := 27) (tgt := 80) dX7_worth_53 c_6 (by decide) rfl (by decide) ?_
          refine q_aload_n dX7_worth_80 rfl rfl ?_
          refine g_getF (k := 5) (o := 32) (z := 33) dX7_worth_81 rfl fg_X7_40 rfl rfl rfl ?_
          obtain ⟨r_7, h_8, e_9, hf⟩ := bd_ex hf
          refine g_Vi (vs := []) (st := []) dX7_worth_84 rfl (S_X6_total X  h_2) e_9 mf_X6_total ml_X7_199 rfl rfl rfl rfl ?_
          exact g_ireturn dX7_worth_87 rfl hf
        · replace hf := it_f hf c_6
          by_cases c_10 : what_0 = 1
          · replace hf := it_t hf c_10
            refine g_tsw (c := 1) (off := 35) (tgt := 88) dX7_worth_53 c_10 (by decide) rfl (by decide) ?_
            refine q_aload_n dX7_worth_88 rfl rfl ?_
            refine g_getF (k := 5) (o := 32) (z := 33) dX7_worth_89 rfl fg_X7_40 rfl rfl rfl ?_
            refine g_get (k := 13) (kz := 13) dX7_worth_92 rfl fg_X7_203 rfl rfl ?_
            exact g_ireturn dX7_worth_95 rfl hf
          · replace hf := it_f hf c_10
            by_cases c_11 : what_0 = 2
            · replace hf := it_t hf c_11
              refine g_tsw (c := 2) (off := 43) (tgt := 96) dX7_worth_53 c_11 (by decide) rfl (by decide) ?_
              refine q_aload_n dX7_worth_96 rfl rfl ?_
              refine g_getF (k := 5) (o := 32) (z := 33) dX7_worth_97 rfl fg_X7_40 rfl rfl rfl ?_
              refine g_getF (k := 9) (o := 10) (z := 43) dX7_worth_100 rfl fg_X7_196 rfl rfl rfl ?_
              refine q_iload_n dX7_worth_103 rfl rfl ?_
              obtain ⟨g_12, hf⟩ := gd_ex hf
              refine q_iaload dX7_worth_104 rfl rfl g_12 ?_
              exact g_ireturn dX7_worth_105 rfl hf
            · replace hf := it_f hf c_11
              refine g_tswD (tgt := 106) dX7_worth_53 (by omega) (by decide) ?_
              refine q_aload_n dX7_worth_106 rfl rfl ?_
              refine g_getF (k := 5) (o := 32) (z := 33) dX7_worth_107 rfl fg_X7_40 rfl rfl rfl ?_
              refine g_getF (k := 4) (o := 5) (z := 38) dX7_worth_110 rfl fg_X7_181 rfl rfl rfl ?_
              refine q_iload_n dX7_worth_113 rfl rfl ?_
              obtain ⟨g_13, hf⟩ := gd_ex hf
              refine q_iaload dX7_worth_114 rfl rfl g_13 ?_
              exact g_ireturn dX7_worth_115 rfl hf
      · replace hf := it_t hf (by omega)
        refine q_bipush dX7_worth_21 rfl (by decide) ?_
        exact g_ireturn dX7_worth_23 rfl hf
    · exact HT_15 (by omega)
def L_X7_lineUp_1 (without_0 : Int) (Kx : Int → Int → Mem → Res) : Nat → Int → Int → Mem → Res
  | 0, _, _, _ => none
  | n + 1, size_2, i_3, h_1 => nm (h_1 1 1) (fun cast_4 => gd (okO 2 cast_4 = true) (if (i_3 < (h_1 cast_4 1)) then (jn (fun (K_7 : Int → Mem → Res) => jn (fun (K_8 : Mem → Res) => if (¬ i_3 = without_0) then (bd (F_X1_placeOf 26 i_3 h_1) (fun r_11 (h_12 : Mem) => if (¬ r_11 = (-9)) then (gd (0 ≤ size_2 ∧ size_2 < 9) (nm (wr h_12 55 size_2 i_3) (fun (h_16 : Mem) => nm (w32 (size_2 + 1)) (fun size_17 => K_7 size_17 h_16)))) else (K_8 h_12))) else (K_8 h_1)) (fun (h_9 : Mem) => K_7 size_2 h_9)) (fun size_19 (h_18 : Mem) => nm (w32 (i_3 + 1)) (fun i_20 => L_X7_lineUp_1 without_0 Kx n size_19 i_20 h_18))) else (Kx size_2 i_3 h_1)))
def F_X7_lineUp (without_0 : Int) (h : Mem) : Res := L_X7_lineUp_1 without_0 (fun size_22 i_23 (h_21 : Mem) => some (size_22, h_21)) FU 0 0 h
theorem SL_X7_lineUp_1 (X : XS) (without_0 : Int) (Kx : Int → Int → Mem → Res) {r : Int × Mem} (hK : ∀ (size_2 i_3 : Int) (h_1 : Mem), Kx size_2 i_3 h_1 = some r → AJ X MX7_lineUp (rmD 1) 49 [(2, 1), (0, without_0), (0, size_2), (0, i_3)] [] h_1 (PH 0 r)) :
    ∀ (n : Nat) (size_2 i_3 : Int) (h_1 : Mem), L_X7_lineUp_1 without_0 Kx n size_2 i_3 h_1 = some r → AJ X MX7_lineUp (rmD 1) 4 [(2, 1), (0, without_0), (0, size_2), (0, i_3)] [] h_1 (PH 0 r) := by
  intro n
  induction n with
  | zero => intro size_2 i_3 h_1 hf; cases hf
  | succ n ih =>
    intro size_2 i_3 h_1 hf
    rw [L_X7_lineUp_1] at hf
    refine q_iload_n dX7_lineUp_4 rfl rfl ?_
    refine q_aload_n dX7_lineUp_5 rfl rfl ?_
    refine g_get (k := 1) (kz := 1) dX7_lineUp_6 rfl fg_X7_19 rfl rfl ?_
    obtain ⟨cast_4, e_cast_4, hf⟩ := nm_ex hf
    rw [← e_cast_4]
    obtain ⟨o_cast_5, hf⟩ := gd_ex hf
    refine g_get (k := 1) (kz := 1) dX7_lineUp_9 rfl fg_X7_266 rfl o_cast_5 ?_
    refine q_icmp_ge (tgt := 49) dX7_lineUp_12 rfl (by decide) (fun c_6 => ?_) (fun c_6 => ?_)
    · replace hf := it_f hf (by omega)
      exact hK _ _ _ hf
    · replace hf := it_t hf (by omega)
      obtain ⟨K_7, J_K_7, hf⟩ := jn_ex (P := fun K => ∀ (size_19 : Int) (h_18 : Mem), K size_19 h_18 = some r → AJ X MX7_lineUp (rmD 1) 43 [(2, 1), (0, without_0), (0, size_19), (0, i_3)] [] h_18 (PH 0 r)) hf (by
          intro size_19 h_18 hf
          refine q_iinc (ls' := [(2, 1), (0, without_0), (0, size_19), (0, w32 (i_3 + 1))]) dX7_lineUp_43 rfl rfl rfl ?_
          obtain ⟨i_20, e_i_20, hf⟩ := nm_ex hf
          rw [← e_i_20]
          refine q_goto (tgt := 4) dX7_lineUp_46 rfl (by decide) ?_
          exact ih _ _ _ hf)
      obtain ⟨K_8, J_K_8, hf⟩ := jn_ex (P := fun K => ∀ (h_9 : Mem), K h_9 = some r → AJ X MX7_lineUp (rmD 1) 43 [(2, 1), (0, without_0), (0, size_2), (0, i_3)] [] h_9 (PH 0 r)) hf (by
          intro h_9 hf
          exact J_K_7 _ _ hf)
      refine q_iload_n dX7_lineUp_15 rfl rfl ?_
      refine q_iload_n dX7_lineUp_16 rfl rfl ?_
      refine q_icmp_eq (tgt := 43) dX7_lineUp_17 rfl (by decide) (fun c_10 => ?_) (fun c_10 => ?_)
      · replace hf := it_f hf (by omega)
        exact J_K_8 _ hf
      · replace hf := it_t hf (by omega)
        refine q_aload_n dX7_lineUp_20 rfl rfl ?_
        refine g_getF (k := 3) (o := 25) (z := 26) dX7_lineUp_21 rfl fg_X7_29 rfl rfl rfl ?_
        refine q_iload_n dX7_lineUp_24 rfl rfl ?_
        obtain ⟨r_11, h_12, e_13, hf⟩ := bd_ex hf
        refine g_Vi (vs := [(0, i_3)]) (st := []) dX7_lineUp_25 rfl (S_X1_placeOf X 26 rfl i_3 h_1) e_13 mf_X1_placeOf ml_X7_153 rfl rfl rfl rfl ?_
        refine q_bipush dX7_lineUp_28 rfl (by decide) ?_
        refine q_icmp_eq (tgt := 43) dX7_lineUp_30 rfl (by decide) (fun c_14 => ?_) (fun c_14 => ?_)
        · replace hf := it_f hf (by omega)
          exact J_K_8 _ hf
        · replace hf := it_t hf (by omega)
          refine q_aload_n dX7_lineUp_33 rfl rfl ?_
          refine g_getF (k := 10) (o := 54) (z := 55) dX7_lineUp_34 rfl fg_X7_70 rfl rfl rfl ?_
          refine q_iload_n dX7_lineUp_37 rfl rfl ?_
          refine q_iload_n dX7_lineUp_38 rfl rfl ?_
          obtain ⟨g_15, hf⟩ := gd_ex hf
          refine q_iastore dX7_lineUp_39 rfl rfl g_15 ?_
          obtain ⟨h_16, e_h_16, hf⟩ := nm_ex hf
          rw [← e_h_16]
          refine q_iinc (ls' := [(2, 1), (0, without_0), (0, w32 (size_2 + 1)), (0, i_3)]) dX7_lineUp_40 rfl rfl rfl ?_
          obtain ⟨size_17, e_size_17, hf⟩ := nm_ex hf
          rw [← e_size_17]
          exact J_K_7 _ _ hf
theorem S_X7_lineUp (X : XS) (without_0 : Int) (h : Mem) : CT X yX7_lineUp MX7_lineUp (some .int) 0 1 [(2, 1), (0, without_0)] h (F_X7_lineUp without_0 h) := by
  refine CT.ofI (by decide) rfl (Nat.le_of_ble_eq_true rfl) (fun r hf => ?_)
  unfold F_X7_lineUp at hf
  show AJ X MX7_lineUp (rmD 1) 0 [(2, 1), (0, without_0), (3, 0), (3, 0)] [] h (PH 0 r)
  refine q_iconst dX7_lineUp_0 rfl rfl ?_
  refine q_istore_n (ls' := [(2, 1), (0, without_0), (0, 0), (3, 0)]) dX7_lineUp_1 rfl rfl (Nat.le_of_ble_eq_true rfl) rfl ?_
  refine q_iconst dX7_lineUp_2 rfl rfl ?_
  refine q_istore_n (ls' := [(2, 1), (0, without_0), (0, 0), (0, 0)]) dX7_lineUp_3 rfl rfl (Nat.le_of_ble_eq_true rfl) rfl ?_
  refine SL_X7_lineUp_1 X without_0  _ (fun size_22 i_23 h_21 hf => ?_) FU _ _ _ hf
  refine q_iload_n dX7_lineUp_49 rfl rfl ?_
  exact g_ireturn dX7_lineUp_50 rfl hf
def L_X7_searchBest_2 (r_1 : Int) (Kx : Int → Mem → Res) : Nat → Int → Mem → Res
  | 0, _, _ => none
  | n + 1, b_21, h_20 => if (b_21 < r_1) then (bd (F_X6_open r_1 b_21 h_20) (fun _ (h_23 : Mem) => bd (F_X5_run 45 h_23) (fun _ (h_26 : Mem) => nm (w32 (b_21 + 1)) (fun b_28 => L_X7_searchBest_2 r_1 Kx n b_28 h_26)))) else (Kx b_21 h_20)
def L_X7_searchBest_1 (r_1 : Int) (Kx : Int → Mem → Res) : Nat → Int → Mem → Res
  | 0, _, _ => none
  | n + 1, k_8, h_7 => if (k_8 < r_1) then (nm (h_7 1 1) (fun cast_9 => gd (okO 2 cast_9 = true) (gd (0 ≤ k_8 ∧ k_8 < 9) (gd (0 ≤ (h_7 55 k_8) ∧ (h_7 55 k_8) < 9) (gd (0 ≤ k_8 ∧ k_8 < 7) (nm (wr h_7 46 k_8 (cast_9 + 2 + (h_7 55 k_8))) (fun (h_14 : Mem) => nm (wr h_14 47 k_8 (-9)) (fun (h_15 : Mem) => nm (w32 (k_8 + 1)) (fun k_16 => L_X7_searchBest_1 r_1 Kx n k_16 h_15))))))))) else (Kx k_8 h_7)
def F_X7_searchBest (h : Mem) : Res := if (¬ (h 1 11) = 0) then (some (0, h)) else (bd (F_X7_lineUp (-9) h) (fun r_1 (h_2 : Mem) => bd (F_X5_begin 45 r_1 h_2) (fun _ (h_5 : Mem) => L_X7_searchBest_1 r_1 (fun k_19 (h_18 : Mem) => L_X7_searchBest_2 r_1 (fun b_31 (h_30 : Mem) => nm (wr h_30 1 11 1) (fun (h_32 : Mem) => some (0, h_32))) FU 0 h_18) FU 0 h_5)))
theorem SL_X7_searchBest_2 (X : XS) (r_1 : Int) (Kx : Int → Mem → Res) {r : Int × Mem} (hK : ∀ (b_21 : Int) (h_20 : Mem), Kx b_21 h_20 = some r → AJ X MX7_searchBest (rmD 30) 103 [(2, 1), (0, r_1), (0, b_21)] [] h_20 (PH 9 r)) :
    ∀ (n : Nat) (b_21 : Int) (h_20 : Mem), L_X7_searchBest_2 r_1 Kx n b_21 h_20 = some r → AJ X MX7_searchBest (rmD 30) 72 [(2, 1), (0, r_1), (0, b_21)] [] h_20 (PH 9 r) := by
  intro n
  induction n with
  | zero => intro b_21 h_20 hf; cases hf
  | succ n ih =>
    intro b_21 h_20 hf
    rw [L_X7_searchBest_2] at hf
    refine q_iload_n dX7_searchBest_72 rfl rfl ?_
    refine q_iload_n dX7_searchBest_73 rfl rfl ?_
    refine q_icmp_ge (tgt := 103) dX7_searchBest_74 rfl (by decide) (fun c_29 => ?_) (fun c_29 => ?_)
    · replace hf := it_f hf (by omega)
      exact hK _ _ hf
    · replace hf := it_t hf (by omega)
      refine q_aload_n dX7_searchBest_77 rfl rfl ?_
      refine g_getF (k := 5) (o := 32) (z := 33) dX7_searchBest_78 rfl fg_X7_40 rfl rfl rfl ?_
      refine q_iload_n dX7_searchBest_81 rfl rfl ?_
      refine q_iload_n dX7_searchBest_82 rfl rfl ?_
      obtain ⟨r_22, h_23, e_24, hf⟩ := bd_ex hf
      refine g_Vv (vs := [(0, r_1), (0, b_21)]) (st := []) dX7_searchBest_83 rfl (S_X6_open X r_1 b_21 h_20) e_24 mf_X6_open ml_X7_276 rfl rfl rfl rfl ?_
      refine q_aload_n dX7_searchBest_86 rfl rfl ?_
      refine g_getF (k := 6) (o := 44) (z := 45) dX7_searchBest_87 rfl fg_X7_47 rfl rfl rfl ?_
      refine q_aload_n dX7_searchBest_90 rfl rfl ?_
      refine g_getF (k := 5) (o := 32) (z := 33) dX7_searchBest_91 rfl fg_X7_40 rfl rfl rfl ?_
      obtain ⟨r_25, h_26, e_27, hf⟩ := bd_ex hf
      refine g_Vv (vs := [(2, 33)]) (st := []) dX7_searchBest_94 rfl (S_X5_run X 45 rfl h_23) e_27 mf_X5_run ml_X7_321 rfl rfl rfl rfl ?_
      refine q_iinc (ls' := [(2, 1), (0, r_1), (0, w32 (b_21 + 1))]) dX7_searchBest_97 rfl rfl rfl ?_
      obtain ⟨b_28, e_b_28, hf⟩ := nm_ex hf
      rw [← e_b_28]
      refine q_goto (tgt := 72) dX7_searchBest_100 rfl (by decide) ?_
      exact ih _ _ hf
theorem SL_X7_searchBest_1 (X : XS) (r_1 : Int) (Kx : Int → Mem → Res) {r : Int × Mem} (hK : ∀ (k_8 : Int) (h_7 : Mem), Kx k_8 h_7 = some r → AJ X MX7_searchBest (rmD 30) 70 [(2, 1), (0, r_1), (0, k_8)] [] h_7 (PH 9 r)) :
    ∀ (n : Nat) (k_8 : Int) (h_7 : Mem), L_X7_searchBest_1 r_1 Kx n k_8 h_7 = some r → AJ X MX7_searchBest (rmD 30) 25 [(2, 1), (0, r_1), (0, k_8)] [] h_7 (PH 9 r) := by
  intro n
  induction n with
  | zero => intro k_8 h_7 hf; cases hf
  | succ n ih =>
    intro k_8 h_7 hf
    rw [L_X7_searchBest_1] at hf
    refine q_iload_n dX7_searchBest_25 rfl rfl ?_
    refine q_iload_n dX7_searchBest_26 rfl rfl ?_
    refine q_icmp_ge (tgt := 70) dX7_searchBest_27 rfl (by decide) (fun c_17 => ?_) (fun c_17 => ?_)
    · replace hf := it_f hf (by omega)
      exact hK _ _ hf
    · replace hf := it_t hf (by omega)
      refine q_aload_n dX7_searchBest_30 rfl rfl ?_
      refine g_getF (k := 6) (o := 44) (z := 45) dX7_searchBest_31 rfl fg_X7_47 rfl rfl rfl ?_
      refine g_getF (k := 0) (o := 1) (z := 46) dX7_searchBest_34 rfl fg_X7_315 rfl rfl rfl ?_
      refine q_iload_n dX7_searchBest_37 rfl rfl ?_
      refine q_aload_n dX7_searchBest_38 rfl rfl ?_
      refine g_get (k := 1) (kz := 1) dX7_searchBest_39 rfl fg_X7_19 rfl rfl ?_
      obtain ⟨cast_9, e_cast_9, hf⟩ := nm_ex hf
      rw [← e_cast_9]
      obtain ⟨o_cast_10, hf⟩ := gd_ex hf
      refine g_getF (k := 0) (o := 1) (z := (cast_9 + 1)) dX7_searchBest_42 rfl fg_X7_110 rfl o_cast_10 rfl ?_
      refine q_aload_n dX7_searchBest_45 rfl rfl ?_
      refine g_getF (k := 10) (o := 54) (z := 55) dX7_searchBest_46 rfl fg_X7_70 rfl rfl rfl ?_
      refine q_iload_n dX7_searchBest_49 rfl rfl ?_
      obtain ⟨g_11, hf⟩ := gd_ex hf
      refine q_iaload dX7_searchBest_50 rfl rfl g_11 ?_
      obtain ⟨g_12, hf⟩ := gd_ex hf
      refine q_aaloadF (z := (cast_9 + 2 + (h_7 55 k_8))) dX7_searchBest_51 rfl (sf_2_0 o_cast_10) (by decide) g_12 rfl (by omega) ?_
      obtain ⟨g_13, hf⟩ := gd_ex hf
      refine q_aastore dX7_searchBest_52 rfl rfl g_13 (ok_mem o_cast_10 g_12) ?_
      obtain ⟨h_14, e_h_14, hf⟩ := nm_ex hf
      rw [← e_h_14]
      refine q_aload_n dX7_searchBest_53 rfl rfl ?_
      refine g_getF (k := 6) (o := 44) (z := 45) dX7_searchBest_54 rfl fg_X7_47 rfl rfl rfl ?_
      refine g_getF (k := 1) (o := 2) (z := 47) dX7_searchBest_57 rfl fg_X7_318 rfl rfl rfl ?_
      refine q_iload_n dX7_searchBest_60 rfl rfl ?_
      refine q_bipush dX7_searchBest_61 rfl (by decide) ?_
      refine q_iastore dX7_searchBest_63 rfl rfl g_13 ?_
      obtain ⟨h_15, e_h_15, hf⟩ := nm_ex hf
      rw [← e_h_15]
      refine q_iinc (ls' := [(2, 1), (0, r_1), (0, w32 (k_8 + 1))]) dX7_searchBest_64 rfl rfl rfl ?_
      obtain ⟨k_16, e_k_16, hf⟩ := nm_ex hf
      rw [← e_k_16]
      refine q_goto (tgt := 25) dX7_searchBest_67 rfl (by decide) ?_
      exact ih _ _ hf
theorem S_X7_searchBest (X : XS) (h : Mem) : CT X yX7_searchBest MX7_searchBest none 9 30 [(2, 1)] h (F_X7_searchBest h) := by
  refine CT.ofV (by decide) rfl (Nat.le_of_ble_eq_true rfl) (fun r hf => ?_)
  unfold F_X7_searchBest at hf
  show AJ X MX7_searchBest (rmD 30) 0 [(2, 1), (3, 0), (3, 0)] [] h (PH 9 r)
  refine q_aload_n dX7_searchBest_0 rfl rfl ?_
  refine g_get (k := 11) (kz := 11) dX7_searchBest_1 rfl fg_X7_74 rfl rfl ?_
  refine q_if_eq (tgt := 8) dX7_searchBest_4 rfl (by decide) (fun c_33 => ?_) (fun c_33 => ?_)
  · replace hf := it_f hf (by omega)
    refine q_aload_n dX7_searchBest_8 rfl rfl ?_
    refine q_bipush dX7_searchBest_9 rfl (by decide) ?_
    obtain ⟨r_1, h_2, e_3, hf⟩ := bd_ex hf
    refine g_Vi (vs := [(0, (-9))]) (st := []) dX7_searchBest_11 rfl (S_X7_lineUp X (-9) h) e_3 mf_X7_lineUp ml_X7_218 rfl rfl rfl rfl ?_
    refine q_istore_n (ls' := [(2, 1), (0, r_1), (3, 0)]) dX7_searchBest_14 rfl rfl (Nat.le_of_ble_eq_true rfl) rfl ?_
    refine q_aload_n dX7_searchBest_15 rfl rfl ?_
    refine g_getF (k := 6) (o := 44) (z := 45) dX7_searchBest_16 rfl fg_X7_47 rfl rfl rfl ?_
    refine q_iload_n dX7_searchBest_19 rfl rfl ?_
    obtain ⟨r_4, h_5, e_6, hf⟩ := bd_ex hf
    refine g_Vv (vs := [(0, r_1)]) (st := []) dX7_searchBest_20 rfl (S_X5_begin X 45 rfl r_1 h_2) e_6 mf_X5_begin ml_X7_312 rfl rfl rfl rfl ?_
    refine q_iconst dX7_searchBest_23 rfl rfl ?_
    refine q_istore_n (ls' := [(2, 1), (0, r_1), (0, 0)]) dX7_searchBest_24 rfl rfl (Nat.le_of_ble_eq_true rfl) rfl ?_
    refine SL_X7_searchBest_1 X r_1  _ (fun k_19 h_18 hf => ?_) FU _ _ hf
    refine q_iconst dX7_searchBest_70 rfl rfl ?_
    refine q_istore_n (ls' := [(2, 1), (0, r_1), (0, 0)]) dX7_searchBest_71 rfl rfl (Nat.le_of_ble_eq_true rfl) rfl ?_
    refine SL_X7_searchBest_2 X r_1  _ (fun b_31 h_30 hf => ?_) FU _ _ hf
    refine q_aload_n dX7_searchBest_103 rfl rfl ?_
    refine q_iconst dX7_searchBest_104 rfl rfl ?_
    refine g_put (k := 11) (kz := 11) dX7_searchBest_105 rfl fp_X7_74 rfl (fun _ => Or.inr rfl) rfl ?_
    obtain ⟨h_32, e_h_32, hf⟩ := nm_ex hf
    rw [← e_h_32]
    exact g_return dX7_searchBest_108 rfl hf
  · replace hf := it_t hf (by omega)
    exact g_return dX7_searchBest_7 rfl hf
def F_X7_best (what_0 : Int) (h : Mem) : Res := if ((what_0 < 0) ∨ (3 < what_0)) then (some ((-1), h)) else (if (((h 26 1) = 0) ∨ (7 < (h 26 1))) then (some ((-2), h)) else (bd (F_X7_searchBest  h) (fun _ (h_2 : Mem) => if (what_0 = 3) then (some (h_2 45 3, h_2)) else (if ((h_2 45 3) = 0) then (some ((-9), h_2)) else (if what_0 = 0 then (some (h_2 45 5, h_2)) else (if what_0 = 1 then (some (h_2 45 6, h_2)) else (some (h_2 45 7, h_2))))))))
theorem S_X7_best (X : XS) (what_0 : Int) (h : Mem) : CT X yX7_best MX7_best (some .int) 0 31 [(2, 1), (0, what_0)] h (F_X7_best what_0 h) := by
  refine CT.ofI (by decide) rfl (Nat.le_of_ble_eq_true rfl) (fun r hf => ?_)
  unfold F_X7_best at hf
  show AJ X MX7_best (rmD 31) 0 [(2, 1), (0, what_0)] [] h (PH 0 r)
  have HT_12 : ((what_0 < 0) ∨ (3 < what_0)) → AJ X MX7_best (rmD 31) 9 [(2, 1), (0, what_0)] [] h (PH 0 r) := by
    intro hc
    replace hf := it_t hf hc
    refine q_iconst dX7_best_9 rfl rfl ?_
    exact g_ireturn dX7_best_10 rfl hf
  refine q_iload_n dX7_best_0 rfl rfl ?_
  refine q_if_lt (tgt := 9) dX7_best_1 rfl (by decide) (fun c_13 => ?_) (fun c_13 => ?_)
  · exact HT_12 (by omega)
  · refine q_iload_n dX7_best_4 rfl rfl ?_
    refine q_iconst dX7_best_5 rfl rfl ?_
    refine q_icmp_le (tgt := 11) dX7_best_6 rfl (by decide) (fun c_14 => ?_) (fun c_14 => ?_)
    · replace hf := it_f hf (by omega)
      have HT_9 : (((h 26 1) = 0) ∨ (7 < (h 26 1))) → AJ X MX7_best (rmD 31) 33 [(2, 1), (0, what_0)] [] h (PH 0 r) := by
        intro hc
        replace hf := it_t hf hc
        refine q_bipush dX7_best_33 rfl (by decide) ?_
        exact g_ireturn dX7_best_35 rfl hf
      refine q_aload_n dX7_best_11 rfl rfl ?_
      refine g_getF (k := 3) (o := 25) (z := 26) dX7_best_12 rfl fg_X7_29 rfl rfl rfl ?_
      refine g_get (k := 1) (kz := 1) dX7_best_15 rfl fg_X7_159 rfl rfl ?_
      refine q_if_eq (tgt := 33) dX7_best_18 rfl (by decide) (fun c_10 => ?_) (fun c_10 => ?_)
      · exact HT_9 (by omega)
      · refine q_aload_n dX7_best_21 rfl rfl ?_
        refine g_getF (k := 3) (o := 25) (z := 26) dX7_best_22 rfl fg_X7_29 rfl rfl rfl ?_
        refine g_get (k := 1) (kz := 1) dX7_best_25 rfl fg_X7_159 rfl rfl ?_
        refine q_bipush dX7_best_28 rfl (by decide) ?_
        refine q_icmp_le (tgt := 36) dX7_best_30 rfl (by decide) (fun c_11 => ?_) (fun c_11 => ?_)
        · replace hf := it_f hf (by omega)
          refine q_aload_n dX7_best_36 rfl rfl ?_
          obtain ⟨r_1, h_2, e_3, hf⟩ := bd_ex hf
          refine g_Vv (vs := []) (st := []) dX7_best_37 rfl (S_X7_searchBest X  h) e_3 mf_X7_searchBest ml_X7_206 rfl rfl rfl rfl ?_
          refine q_iload_n dX7_best_40 rfl rfl ?_
          refine q_iconst dX7_best_41 rfl rfl ?_
          refine q_icmp_ne (tgt := 53) dX7_best_42 rfl (by decide) (fun c_8 => ?_) (fun c_8 => ?_)
          · replace hf := it_f hf (by omega)
            refine q_aload_n dX7_best_53 rfl rfl ?_
            refine g_getF (k := 6) (o := 44) (z := 45) dX7_best_54 rfl fg_X7_47 rfl rfl rfl ?_
            refine g_get (k := 3) (kz := 3) dX7_best_57 rfl fg_X7_209 rfl rfl ?_
            refine q_if_ne (tgt := 66) dX7_best_60 rfl (by decide) (fun c_7 => ?_) (fun c_7 => ?_)
            · replace hf := it_f hf (by omega)
              refine q_iload_n dX7_best_66 rfl rfl ?_
              by_cases c_5 : what_0 = 0
              · replace hf := it_t hf c_5
                refine g_lsw (tgt := 92) (off := 25) dX7_best_67 rfl (by rw [c_5]; rfl) (by decide) ?_
                refine q_aload_n dX7_best_92 rfl rfl ?_
                refine g_getF (k := 6) (o := 44) (z := 45) dX7_best_93 rfl fg_X7_47 rfl rfl rfl ?_
                refine g_get (k := 5) (kz := 5) dX7_best_96 rfl fg_X7_212 rfl rfl ?_
                exact g_ireturn dX7_best_99 rfl hf
              · replace hf := it_f hf c_5
                by_cases c_6 : what_0 = 1
                · replace hf := it_t hf c_6
                  refine g_lsw (tgt := 100) (off := 33) dX7_best_67 rfl (by rw [c_6]; rfl) (by decide) ?_
                  refine q_aload_n dX7_best_100 rfl rfl ?_
                  refine g_getF (k := 6) (o := 44) (z := 45) dX7_best_101 rfl fg_X7_47 rfl rfl rfl ?_
                  refine g_get (k := 6) (kz := 6) dX7_best_104 rfl fg_X7_214 rfl rfl ?_
                  exact g_ireturn dX7_best_107 rfl hf
                · replace hf := it_f hf c_6
                  refine g_lsw (tgt := 108) (off := 41) dX7_best_67 rfl (by simp only [Op.lookupswitch.offset]; omega) (by decide) ?_
                  refine q_aload_n dX7_best_108 rfl rfl ?_
                  refine g_getF (k := 6) (o := 44) (z := 45) dX7_best_109 rfl fg_X7_47 rfl rfl rfl ?_
                  refine g_get (k := 7) (kz := 7) dX7_best_112 rfl fg_X7_217 rfl rfl ?_
                  exact g_ireturn dX7_best_115 rfl hf
            · replace hf := it_t hf (by omega)
              refine q_bipush dX7_best_63 rfl (by decide) ?_
              exact g_ireturn dX7_best_65 rfl hf
          · replace hf := it_t hf (by omega)
            refine q_aload_n dX7_best_45 rfl rfl ?_
            refine g_getF (k := 6) (o := 44) (z := 45) dX7_best_46 rfl fg_X7_47 rfl rfl rfl ?_
            refine g_get (k := 3) (kz := 3) dX7_best_49 rfl fg_X7_209 rfl rfl ?_
            exact g_ireturn dX7_best_52 rfl hf
        · exact HT_9 (by omega)
    · exact HT_12 (by omega)
def F_X7_isWeaker (i_0 j_0 : Int) (h : Mem) : Res := nm (h 1 1) (fun cast_1 => gd (okO 2 cast_1 = true) (gd (0 ≤ i_0 ∧ i_0 < 9) (nm (h 1 1) (fun cast_4 => gd (okO 2 cast_4 = true) (gd (0 ≤ j_0 ∧ j_0 < 9) (if ((h (cast_1 + 2 + i_0) 3) < (h (cast_4 + 2 + j_0) 3)) then (some (1, h)) else (some (0, h))))))))
theorem S_X7_isWeaker (X : XS) (i_0 : Int) (j_0 : Int) (h : Mem) : CB X yX7_isWeaker MX7_isWeaker 0 [(2, 1), (0, i_0), (0, j_0)] h (F_X7_isWeaker i_0 j_0 h) := by
  refine CB.of (by decide) rfl (Nat.le_of_ble_eq_true rfl) (fun r hf => ?_)
  unfold F_X7_isWeaker at hf
  show AJ X MX7_isWeaker (rmD 0) 0 [(2, 1), (0, i_0), (0, j_0)] [] h (PB r)
  refine q_aload_n dX7_isWeaker_0 rfl rfl ?_
  refine g_get (k := 1) (kz := 1) dX7_isWeaker_1 rfl fg_X7_19 rfl rfl ?_
  obtain ⟨cast_1, e_cast_1, hf⟩ := nm_ex hf
  rw [← e_cast_1]
  obtain ⟨o_cast_2, hf⟩ := gd_ex hf
  refine g_getF (k := 0) (o := 1) (z := (cast_1 + 1)) dX7_isWeaker_4 rfl fg_X7_110 rfl o_cast_2 rfl ?_
  refine q_iload_n dX7_isWeaker_7 rfl rfl ?_
  obtain ⟨g_3, hf⟩ := gd_ex hf
  refine q_aaloadF (z := (cast_1 + 2 + i_0)) dX7_isWeaker_8 rfl (sf_2_0 o_cast_2) (by decide) g_3 rfl (by omega) ?_
  refine g_get (k := 3) (kz := 3) dX7_isWeaker_9 rfl fg_X7_120 rfl (ok_mem o_cast_2 g_3) ?_
  refine q_aload_n dX7_isWeaker_12 rfl rfl ?_
  refine g_get (k := 1) (kz := 1) dX7_isWeaker_13 rfl fg_X7_19 rfl rfl ?_
  obtain ⟨cast_4, e_cast_4, hf⟩ := nm_ex hf
  rw [← e_cast_4]
  obtain ⟨o_cast_5, hf⟩ := gd_ex hf
  refine g_getF (k := 0) (o := 1) (z := (cast_4 + 1)) dX7_isWeaker_16 rfl fg_X7_110 rfl o_cast_5 rfl ?_
  refine q_iload_n dX7_isWeaker_19 rfl rfl ?_
  obtain ⟨g_6, hf⟩ := gd_ex hf
  refine q_aaloadF (z := (cast_4 + 2 + j_0)) dX7_isWeaker_20 rfl (sf_2_0 o_cast_5) (by decide) g_6 rfl (by omega) ?_
  refine g_get (k := 3) (kz := 3) dX7_isWeaker_21 rfl fg_X7_120 rfl (ok_mem o_cast_5 g_6) ?_
  refine q_icmp_ge (tgt := 31) dX7_isWeaker_24 rfl (by decide) (fun c_7 => ?_) (fun c_7 => ?_)
  · replace hf := it_f hf (by omega)
    refine q_iconst dX7_isWeaker_31 rfl rfl ?_
    exact g_breturn dX7_isWeaker_32 rfl (Or.inl rfl) hf
  · replace hf := it_t hf (by omega)
    refine q_iconst dX7_isWeaker_27 rfl rfl ?_
    refine q_goto (tgt := 32) dX7_isWeaker_28 rfl (by decide) ?_
    exact g_breturn dX7_isWeaker_32 rfl (Or.inr rfl) hf
def F_X7_swapAhead (p_0 : Int) (h : Mem) : Res := gd (0 ≤ p_0 ∧ p_0 < 9) (nm (h 55 p_0) (fun i_2 => gd (0 ≤ (w32 (p_0 - 1)) ∧ (w32 (p_0 - 1)) < 9) (nm (wr h 55 p_0 (h 55 (w32 (p_0 - 1)))) (fun (h_4 : Mem) => nm (wr h_4 55 (w32 (p_0 - 1)) i_2) (fun (h_5 : Mem) => some (0, h_5))))))
theorem S_X7_swapAhead (X : XS) (p_0 : Int) (h : Mem) : CT X yX7_swapAhead MX7_swapAhead none 9 0 [(2, 1), (0, p_0)] h (F_X7_swapAhead p_0 h) := by
  refine CT.ofV (by decide) rfl (Nat.le_of_ble_eq_true rfl) (fun r hf => ?_)
  unfold F_X7_swapAhead at hf
  show AJ X MX7_swapAhead (rmD 0) 0 [(2, 1), (0, p_0), (3, 0)] [] h (PH 9 r)
  refine q_aload_n dX7_swapAhead_0 rfl rfl ?_
  refine g_getF (k := 10) (o := 54) (z := 55) dX7_swapAhead_1 rfl fg_X7_70 rfl rfl rfl ?_
  refine q_iload_n dX7_swapAhead_4 rfl rfl ?_
  obtain ⟨g_1, hf⟩ := gd_ex hf
  refine q_iaload dX7_swapAhead_5 rfl rfl g_1 ?_
  obtain ⟨i_2, e_i_2, hf⟩ := nm_ex hf
  rw [← e_i_2]
  refine q_istore_n (ls' := [(2, 1), (0, p_0), (0, i_2)]) dX7_swapAhead_6 rfl rfl (Nat.le_of_ble_eq_true rfl) rfl ?_
  refine q_aload_n dX7_swapAhead_7 rfl rfl ?_
  refine g_getF (k := 10) (o := 54) (z := 55) dX7_swapAhead_8 rfl fg_X7_70 rfl rfl rfl ?_
  refine q_iload_n dX7_swapAhead_11 rfl rfl ?_
  refine q_aload_n dX7_swapAhead_12 rfl rfl ?_
  refine g_getF (k := 10) (o := 54) (z := 55) dX7_swapAhead_13 rfl fg_X7_70 rfl rfl rfl ?_
  refine q_iload_n dX7_swapAhead_16 rfl rfl ?_
  refine q_iconst dX7_swapAhead_17 rfl rfl ?_
  refine q_isub dX7_swapAhead_18 rfl ?_
  obtain ⟨g_3, hf⟩ := gd_ex hf
  refine q_iaload dX7_swapAhead_19 rfl rfl g_3 ?_
  refine q_iastore dX7_swapAhead_20 rfl rfl g_1 ?_
  obtain ⟨h_4, e_h_4, hf⟩ := nm_ex hf
  rw [← e_h_4]
  refine q_aload_n dX7_swapAhead_21 rfl rfl ?_
  refine g_getF (k := 10) (o := 54) (z := 55) dX7_swapAhead_22 rfl fg_X7_70 rfl rfl rfl ?_
  refine q_iload_n dX7_swapAhead_25 rfl rfl ?_
  refine q_iconst dX7_swapAhead_26 rfl rfl ?_
  refine q_isub dX7_swapAhead_27 rfl ?_
  refine q_iload_n dX7_swapAhead_28 rfl rfl ?_
  refine q_iastore dX7_swapAhead_29 rfl rfl g_3 ?_
  obtain ⟨h_5, e_h_5, hf⟩ := nm_ex hf
  rw [← e_h_5]
  exact g_return dX7_swapAhead_30 rfl hf
def L_X7_sortByStrength_2 (k_2 : Int) (Kx : Int → Mem → Res) : Nat → Int → Mem → Res
  | 0, _, _ => none
  | n + 1, p_4, h_3 => jn (fun (K_5 : Mem → Res) => if (0 < p_4) then (gd (0 ≤ p_4 ∧ p_4 < 9) (gd (0 ≤ (w32 (p_4 - 1)) ∧ (w32 (p_4 - 1)) < 9) (bd (F_X7_isWeaker (h_3 55 p_4) (h_3 55 (w32 (p_4 - 1))) h_3) (fun r_10 (h_11 : Mem) => if (¬ r_10 = 0) then (bd (F_X7_swapAhead p_4 h_11) (fun _ (h_16 : Mem) => nm (w32 (p_4 + (-1))) (fun p_18 => L_X7_sortByStrength_2 k_2 Kx n p_18 h_16))) else (K_5 h_11))))) else (K_5 h_3)) (fun (h_6 : Mem) => Kx p_4 h_6)
def L_X7_sortByStrength_1 (Kx : Int → Mem → Res) : Nat → Int → Mem → Res
  | 0, _, _ => none
  | n + 1, k_2, h_1 => if (k_2 < (h_1 26 1)) then (L_X7_sortByStrength_2 k_2 (fun p_20 (h_19 : Mem) => nm (w32 (k_2 + 1)) (fun k_21 => L_X7_sortByStrength_1 Kx n k_21 h_19)) FU k_2 h_1) else (Kx k_2 h_1)
def F_X7_sortByStrength (h : Mem) : Res := L_X7_sortByStrength_1 (fun k_24 (h_23 : Mem) => some (0, h_23)) FU 1 h
theorem SL_X7_sortByStrength_2 (X : XS) (k_2 : Int) (Kx : Int → Mem → Res) {r : Int × Mem} (hK : ∀ (p_4 : Int) (h_3 : Mem), Kx p_4 h_3 = some r → AJ X MX7_sortByStrength (rmD 1) 51 [(2, 1), (0, k_2), (0, p_4)] [] h_3 (PH 9 r)) :
    ∀ (n : Nat) (p_4 : Int) (h_3 : Mem), L_X7_sortByStrength_2 k_2 Kx n p_4 h_3 = some r → AJ X MX7_sortByStrength (rmD 1) 15 [(2, 1), (0, k_2), (0, p_4)] [] h_3 (PH 9 r) := by
  intro n
  induction n with
  | zero => intro p_4 h_3 hf; cases hf
  | succ n ih =>
    intro p_4 h_3 hf
    rw [L_X7_sortByStrength_2] at hf
    obtain ⟨K_5, J_K_5, hf⟩ := jn_ex (P := fun K => ∀ (h_6 : Mem), K h_6 = some r → AJ X MX7_sortByStrength (rmD 1) 51 [(2, 1), (0, k_2), (0, p_4)] [] h_6 (PH 9 r)) hf (by
        intro h_6 hf
        exact hK _ _ hf)
    refine q_iload_n dX7_sortByStrength_15 rfl rfl ?_
    refine q_if_le (tgt := 51) dX7_sortByStrength_16 rfl (by decide) (fun c_7 => ?_) (fun c_7 => ?_)
    · replace hf := it_f hf (by omega)
      exact J_K_5 _ hf
    · replace hf := it_t hf (by omega)
      refine q_aload_n dX7_sortByStrength_19 rfl rfl ?_
      refine q_aload_n dX7_sortByStrength_20 rfl rfl ?_
      refine g_getF (k := 10) (o := 54) (z := 55) dX7_sortByStrength_21 rfl fg_X7_70 rfl rfl rfl ?_
      refine q_iload_n dX7_sortByStrength_24 rfl rfl ?_
      obtain ⟨g_8, hf⟩ := gd_ex hf
      refine q_iaload dX7_sortByStrength_25 rfl rfl g_8 ?_
      refine q_aload_n dX7_sortByStrength_26 rfl rfl ?_
      refine g_getF (k := 10) (o := 54) (z := 55) dX7_sortByStrength_27 rfl fg_X7_70 rfl rfl rfl ?_
      refine q_iload_n dX7_sortByStrength_30 rfl rfl ?_
      refine q_iconst dX7_sortByStrength_31 rfl rfl ?_
      refine q_isub dX7_sortByStrength_32 rfl ?_
      obtain ⟨g_9, hf⟩ := gd_ex hf
      refine q_iaload dX7_sortByStrength_33 rfl rfl g_9 ?_
      obtain ⟨r_10, h_11, e_12, hf⟩ := bd_ex hf
      refine g_Vb (vs := [(0, h_3 55 p_4), (0, h_3 55 (w32 (p_4 - 1)))]) (st := []) dX7_sortByStrength_34 rfl (S_X7_isWeaker X (h_3 55 p_4) (h_3 55 (w32 (p_4 - 1))) h_3) e_12 mf_X7_isWeaker ml_X7_341 rfl rfl rfl rfl (fun b_13 => ?_)
      refine q_if_eq (tgt := 51) dX7_sortByStrength_37 rfl (by decide) (fun c_14 => ?_) (fun c_14 => ?_)
      · replace hf := it_f hf (by omega)
        exact J_K_5 _ hf
      · replace hf := it_t hf (by omega)
        refine q_aload_n dX7_sortByStrength_40 rfl rfl ?_
        refine q_iload_n dX7_sortByStrength_41 rfl rfl ?_
        obtain ⟨r_15, h_16, e_17, hf⟩ := bd_ex hf
        refine g_Vv (vs := [(0, p_4)]) (st := []) dX7_sortByStrength_42 rfl (S_X7_swapAhead X p_4 h_11) e_17 mf_X7_swapAhead ml_X7_344 rfl rfl rfl rfl ?_
        refine q_iinc (ls' := [(2, 1), (0, k_2), (0, w32 (p_4 + (-1)))]) dX7_sortByStrength_45 rfl rfl rfl ?_
        obtain ⟨p_18, e_p_18, hf⟩ := nm_ex hf
        rw [← e_p_18]
        refine q_goto (tgt := 15) dX7_sortByStrength_48 rfl (by decide) ?_
        exact ih _ _ hf
theorem SL_X7_sortByStrength_1 (X : XS) (Kx : Int → Mem → Res) {r : Int × Mem} (hK : ∀ (k_2 : Int) (h_1 : Mem), Kx k_2 h_1 = some r → AJ X MX7_sortByStrength (rmD 1) 57 [(2, 1), (0, k_2), (3, 0)] [] h_1 (PH 9 r)) :
    ∀ (n : Nat) (k_2 : Int) (h_1 : Mem), L_X7_sortByStrength_1 Kx n k_2 h_1 = some r → AJ X MX7_sortByStrength (rmD 1) 2 [(2, 1), (0, k_2), (3, 0)] [] h_1 (PH 9 r) := by
  intro n
  induction n with
  | zero => intro k_2 h_1 hf; cases hf
  | succ n ih =>
    intro k_2 h_1 hf
    rw [L_X7_sortByStrength_1] at hf
    refine q_iload_n dX7_sortByStrength_2 rfl rfl ?_
    refine q_aload_n dX7_sortByStrength_3 rfl rfl ?_
    refine g_getF (k := 3) (o := 25) (z := 26) dX7_sortByStrength_4 rfl fg_X7_29 rfl rfl rfl ?_
    refine g_get (k := 1) (kz := 1) dX7_sortByStrength_7 rfl fg_X7_159 rfl rfl ?_
    refine q_icmp_ge (tgt := 57) dX7_sortByStrength_10 rfl (by decide) (fun c_22 => ?_) (fun c_22 => ?_)
    · replace hf := it_f hf (by omega)
      exact hK _ _ hf
    · replace hf := it_t hf (by omega)
      refine q_iload_n dX7_sortByStrength_13 rfl rfl ?_
      refine q_istore_n (ls' := [(2, 1), (0, k_2), (0, k_2)]) dX7_sortByStrength_14 rfl rfl (Nat.le_of_ble_eq_true rfl) rfl ?_
      refine SL_X7_sortByStrength_2 X k_2  _ (fun p_20 h_19 hf => ?_) FU _ _ hf
      refine q_iinc (ls' := [(2, 1), (0, w32 (k_2 + 1)), (0, p_20)]) dX7_sortByStrength_51 rfl rfl rfl ?_
      obtain ⟨k_21, e_k_21, hf⟩ := nm_ex hf
      rw [← e_k_21]
      refine q_goto (tgt := 2) dX7_sortByStrength_54 rfl (by decide) ?_
      refine g_frg (ls' := [(2, 1), (0, k_21), (3, 0)]) [2] rfl ?_
      exact ih _ _ hf
theorem S_X7_sortByStrength (X : XS) (h : Mem) : CT X yX7_sortByStrength MX7_sortByStrength none 9 1 [(2, 1)] h (F_X7_sortByStrength h) := by
  refine CT.ofV (by decide) rfl (Nat.le_of_ble_eq_true rfl) (fun r hf => ?_)
  unfold F_X7_sortByStrength at hf
  show AJ X MX7_sortByStrength (rmD 1) 0 [(2, 1), (3, 0), (3, 0)] [] h (PH 9 r)
  refine q_iconst dX7_sortByStrength_0 rfl rfl ?_
  refine q_istore_n (ls' := [(2, 1), (0, 1), (3, 0)]) dX7_sortByStrength_1 rfl rfl (Nat.le_of_ble_eq_true rfl) rfl ?_
  refine SL_X7_sortByStrength_1 X   _ (fun k_24 h_23 hf => ?_) FU _ _ hf
  exact g_return dX7_sortByStrength_57 rfl hf
def F_X7_custom (h : Mem) : Res := if ((h 26 1) = 0) then (some ((-2), h)) else (bd (F_X7_lineUp (-9) h) (fun r_1 (h_2 : Mem) => bd (F_X7_sortByStrength  h_2) (fun _ (h_5 : Mem) => nm (w32 ((h_5 26 1) - 1)) (fun last_7 => jn (fun (K_8 : Mem → Res) => if (0 < last_7) then (gd (0 ≤ last_7 ∧ last_7 < 9) (nm (h_5 55 last_7) (fun strongest_10 => gd (0 ≤ (w32 (last_7 - 1)) ∧ (w32 (last_7 - 1)) < 9) (nm (wr h_5 55 last_7 (h_5 55 (w32 (last_7 - 1)))) (fun (h_12 : Mem) => nm (wr h_12 55 (w32 (last_7 - 1)) strongest_10) (fun (h_13 : Mem) => K_8 h_13)))))) else (K_8 h_5)) (fun  (h_15 : Mem) => bd (F_X7_play 55 (h_15 26 2) h_15) (fun _ (h_17 : Mem) => bd (F_X6_total  h_17) (fun r_19 (h_20 : Mem) => some (r_19, h_20))))))))
theorem S_X7_custom (X : XS) (h : Mem) : CT X yX7_custom MX7_custom (some .int) 0 4 [(2, 1)] h (F_X7_custom h) := by
  refine CT.ofI (by decide) rfl (Nat.le_of_ble_eq_true rfl) (fun r hf => ?_)
  unfold F_X7_custom at hf
  show AJ X MX7_custom (rmD 4) 0 [(2, 1), (3, 0), (3, 0)] [] h (PH 0 r)
  refine q_aload_n dX7_custom_0 rfl rfl ?_
  refine g_getF (k := 3) (o := 25) (z := 26) dX7_custom_1 rfl fg_X7_29 rfl rfl rfl ?_
  refine g_get (k := 1) (kz := 1) dX7_custom_4 rfl fg_X7_159 rfl rfl ?_
  refine q_if_ne (tgt := 13) dX7_custom_7 rfl (by decide) (fun c_22 => ?_) (fun c_22 => ?_)
  · replace hf := it_f hf (by omega)
    refine q_aload_n dX7_custom_13 rfl rfl ?_
    refine q_bipush dX7_custom_14 rfl (by decide) ?_
    obtain ⟨r_1, h_2, e_3, hf⟩ := bd_ex hf
    refine g_Vi (vs := [(0, (-9))]) (st := []) dX7_custom_16 rfl (S_X7_lineUp X (-9) h) e_3 mf_X7_lineUp ml_X7_218 rfl rfl rfl rfl ?_
    refine q_pop dX7_custom_19 rfl (by decide) ?_
    refine q_aload_n dX7_custom_20 rfl rfl ?_
    obtain ⟨r_4, h_5, e_6, hf⟩ := bd_ex hf
    refine g_Vv (vs := []) (st := []) dX7_custom_21 rfl (S_X7_sortByStrength X  h_2) e_6 mf_X7_sortByStrength ml_X7_221 rfl rfl rfl rfl ?_
    refine q_aload_n dX7_custom_24 rfl rfl ?_
    refine g_getF (k := 3) (o := 25) (z := 26) dX7_custom_25 rfl fg_X7_29 rfl rfl rfl ?_
    refine g_get (k := 1) (kz := 1) dX7_custom_28 rfl fg_X7_159 rfl rfl ?_
    refine q_iconst dX7_custom_31 rfl rfl ?_
    refine q_isub dX7_custom_32 rfl ?_
    obtain ⟨last_7, e_last_7, hf⟩ := nm_ex hf
    rw [← e_last_7]
    refine q_istore_n (ls' := [(2, 1), (0, last_7), (3, 0)]) dX7_custom_33 rfl rfl (Nat.le_of_ble_eq_true rfl) rfl ?_
    obtain ⟨K_8, J_K_8, hf⟩ := jn_ex (P := fun K => ∀ (h_15 : Mem), K  h_15 = some r → AJ X MX7_custom (rmD 4) 68 [(2, 1), (0, last_7), (3, 0)] [] h_15 (PH 0 r)) hf (by
        intro  h_15 hf
        refine q_aload_n dX7_custom_68 rfl rfl ?_
        refine q_aload_n dX7_custom_69 rfl rfl ?_
        refine g_getF (k := 10) (o := 54) (z := 55) dX7_custom_70 rfl fg_X7_70 rfl rfl rfl ?_
        refine q_aload_n dX7_custom_73 rfl rfl ?_
        refine g_getF (k := 3) (o := 25) (z := 26) dX7_custom_74 rfl fg_X7_29 rfl rfl rfl ?_
        refine g_get (k := 2) (kz := 2) dX7_custom_77 rfl fg_X7_162 rfl rfl ?_
        obtain ⟨r_16, h_17, e_18, hf⟩ := bd_ex hf
        refine g_Vv (vs := [(2, 55), (0, h_15 26 2)]) (st := []) dX7_custom_80 rfl (S_X7_play X 55 rfl (h_15 26 2) h_15) e_18 mf_X7_play ml_X7_171 rfl rfl rfl rfl ?_
        refine q_aload_n dX7_custom_83 rfl rfl ?_
        refine g_getF (k := 5) (o := 32) (z := 33) dX7_custom_84 rfl fg_X7_40 rfl rfl rfl ?_
        obtain ⟨r_19, h_20, e_21, hf⟩ := bd_ex hf
        refine g_Vi (vs := []) (st := []) dX7_custom_87 rfl (S_X6_total X  h_17) e_21 mf_X6_total ml_X7_199 rfl rfl rfl rfl ?_
        exact g_ireturn dX7_custom_90 rfl hf)
    refine q_iload_n dX7_custom_34 rfl rfl ?_
    refine q_if_le (tgt := 68) dX7_custom_35 rfl (by decide) (fun c_14 => ?_) (fun c_14 => ?_)
    · replace hf := it_f hf (by omega)
      exact J_K_8 _ hf
    · replace hf := it_t hf (by omega)
      refine q_aload_n dX7_custom_38 rfl rfl ?_
      refine g_getF (k := 10) (o := 54) (z := 55) dX7_custom_39 rfl fg_X7_70 rfl rfl rfl ?_
      refine q_iload_n dX7_custom_42 rfl rfl ?_
      obtain ⟨g_9, hf⟩ := gd_ex hf
      refine q_iaload dX7_custom_43 rfl rfl g_9 ?_
      obtain ⟨strongest_10, e_strongest_10, hf⟩ := nm_ex hf
      rw [← e_strongest_10]
      refine q_istore_n (ls' := [(2, 1), (0, last_7), (0, strongest_10)]) dX7_custom_44 rfl rfl (Nat.le_of_ble_eq_true rfl) rfl ?_
      refine q_aload_n dX7_custom_45 rfl rfl ?_
      refine g_getF (k := 10) (o := 54) (z := 55) dX7_custom_46 rfl fg_X7_70 rfl rfl rfl ?_
      refine q_iload_n dX7_custom_49 rfl rfl ?_
      refine q_aload_n dX7_custom_50 rfl rfl ?_
      refine g_getF (k := 10) (o := 54) (z := 55) dX7_custom_51 rfl fg_X7_70 rfl rfl rfl ?_
      refine q_iload_n dX7_custom_54 rfl rfl ?_
      refine q_iconst dX7_custom_55 rfl rfl ?_
      refine q_isub dX7_custom_56 rfl ?_
      obtain ⟨g_11, hf⟩ := gd_ex hf
      refine q_iaload dX7_custom_57 rfl rfl g_11 ?_
      refine q_iastore dX7_custom_58 rfl rfl g_9 ?_
      obtain ⟨h_12, e_h_12, hf⟩ := nm_ex hf
      rw [← e_h_12]
      refine q_aload_n dX7_custom_59 rfl rfl ?_
      refine g_getF (k := 10) (o := 54) (z := 55) dX7_custom_60 rfl fg_X7_70 rfl rfl rfl ?_
      refine q_iload_n dX7_custom_63 rfl rfl ?_
      refine q_iconst dX7_custom_64 rfl rfl ?_
      refine q_isub dX7_custom_65 rfl ?_
      refine q_iload_n dX7_custom_66 rfl rfl ?_
      refine q_iastore dX7_custom_67 rfl rfl g_11 ?_
      obtain ⟨h_13, e_h_13, hf⟩ := nm_ex hf
      rw [← e_h_13]
      refine g_frg (ls' := [(2, 1), (0, last_7), (3, 0)]) [2] rfl ?_
      exact J_K_8 _ hf
  · replace hf := it_t hf (by omega)
    refine q_bipush dX7_custom_10 rfl (by decide) ?_
    exact g_ireturn dX7_custom_12 rfl hf
def L_X7_when_1 (Kx : Int → Int → Int → Mem → Res) : Nat → Int → Int → Int → Mem → Res
  | 0, _, _, _, _ => none
  | n + 1, best_2, most_3, b_4, h_1 => if (b_4 < (h_1 26 1)) then (bd (F_X7_play 27 b_4 h_1) (fun _ (h_6 : Mem) => jn (fun (K_8 : Int → Int → Mem → Res) => jn (fun (K_9 : Mem → Res) => jn (fun (K_14 : Mem → Res) => bd (F_X6_isStaged  h_6) (fun r_16 (h_17 : Mem) => if (¬ r_16 = 0) then (if (best_2 = (-9)) then (K_9 h_17) else (bd (F_X6_total  h_17) (fun r_22 (h_23 : Mem) => if (most_3 < r_22) then (K_9 h_23) else (K_14 h_23)))) else (K_14 h_17))) (fun (h_15 : Mem) => K_8 best_2 most_3 h_15)) (fun (h_10 : Mem) => bd (F_X6_total  h_10) (fun r_11 (h_12 : Mem) => K_8 b_4 r_11 h_12))) (fun best_27 most_28 (h_26 : Mem) => nm (w32 (b_4 + 1)) (fun b_29 => L_X7_when_1 Kx n best_27 most_28 b_29 h_26)))) else (Kx best_2 most_3 b_4 h_1)
def F_X7_when (h : Mem) : Res := if ((h 26 1) = 0) then (some ((-2), h)) else (L_X7_when_1 (fun best_32 most_33 b_34 (h_31 : Mem) => some (best_32, h_31)) FU (-9) 0 0 h)
theorem SL_X7_when_1 (X : XS) (Kx : Int → Int → Int → Mem → Res) {r : Int × Mem} (hK : ∀ (best_2 most_3 b_4 : Int) (h_1 : Mem), Kx best_2 most_3 b_4 h_1 = some r → AJ X MX7_when (rmD 4) 86 [(2, 1), (0, best_2), (0, most_3), (0, b_4)] [] h_1 (PH 0 r)) :
    ∀ (n : Nat) (best_2 most_3 b_4 : Int) (h_1 : Mem), L_X7_when_1 Kx n best_2 most_3 b_4 h_1 = some r → AJ X MX7_when (rmD 4) 20 [(2, 1), (0, best_2), (0, most_3), (0, b_4)] [] h_1 (PH 0 r) := by
  intro n
  induction n with
  | zero => intro best_2 most_3 b_4 h_1 hf; cases hf
  | succ n ih =>
    intro best_2 most_3 b_4 h_1 hf
    rw [L_X7_when_1] at hf
    refine q_iload_n dX7_when_20 rfl rfl ?_
    refine q_aload_n dX7_when_21 rfl rfl ?_
    refine g_getF (k := 3) (o := 25) (z := 26) dX7_when_22 rfl fg_X7_29 rfl rfl rfl ?_
    refine g_get (k := 1) (kz := 1) dX7_when_25 rfl fg_X7_159 rfl rfl ?_
    refine q_icmp_ge (tgt := 86) dX7_when_28 rfl (by decide) (fun c_30 => ?_) (fun c_30 => ?_)
    · replace hf := it_f hf (by omega)
      exact hK _ _ _ _ hf
    · replace hf := it_t hf (by omega)
      refine q_aload_n dX7_when_31 rfl rfl ?_
      refine q_aload_n dX7_when_32 rfl rfl ?_
      refine g_getF (k := 3) (o := 25) (z := 26) dX7_when_33 rfl fg_X7_29 rfl rfl rfl ?_
      refine g_getF (k := 0) (o := 1) (z := 27) dX7_when_36 rfl fg_X7_168 rfl rfl rfl ?_
      refine q_iload_n dX7_when_39 rfl rfl ?_
      obtain ⟨r_5, h_6, e_7, hf⟩ := bd_ex hf
      refine g_Vv (vs := [(2, 27), (0, b_4)]) (st := []) dX7_when_40 rfl (S_X7_play X 27 rfl b_4 h_1) e_7 mf_X7_play ml_X7_171 rfl rfl rfl rfl ?_
      obtain ⟨K_8, J_K_8, hf⟩ := jn_ex (P := fun K => ∀ (best_27 most_28 : Int) (h_26 : Mem), K best_27 most_28 h_26 = some r → AJ X MX7_when (rmD 4) 80 [(2, 1), (0, best_27), (0, most_28), (0, b_4)] [] h_26 (PH 0 r)) hf (by
          intro best_27 most_28 h_26 hf
          refine q_iinc (ls' := [(2, 1), (0, best_27), (0, most_28), (0, w32 (b_4 + 1))]) dX7_when_80 rfl rfl rfl ?_
          obtain ⟨b_29, e_b_29, hf⟩ := nm_ex hf
          rw [← e_b_29]
          refine q_goto (tgt := 20) dX7_when_83 rfl (by decide) ?_
          exact ih _ _ _ _ hf)
      obtain ⟨K_9, J_K_9, hf⟩ := jn_ex (P := fun K => ∀ (h_10 : Mem), K h_10 = some r → AJ X MX7_when (rmD 4) 70 [(2, 1), (0, best_2), (0, most_3), (0, b_4)] [] h_10 (PH 0 r)) hf (by
          intro h_10 hf
          refine q_iload_n dX7_when_70 rfl rfl ?_
          refine q_istore_n (ls' := [(2, 1), (0, b_4), (0, most_3), (0, b_4)]) dX7_when_71 rfl rfl (Nat.le_of_ble_eq_true rfl) rfl ?_
          refine q_aload_n dX7_when_72 rfl rfl ?_
          refine g_getF (k := 5) (o := 32) (z := 33) dX7_when_73 rfl fg_X7_40 rfl rfl rfl ?_
          obtain ⟨r_11, h_12, e_13, hf⟩ := bd_ex hf
          refine g_Vi (vs := []) (st := []) dX7_when_76 rfl (S_X6_total X  h_10) e_13 mf_X6_total ml_X7_199 rfl rfl rfl rfl ?_
          refine q_istore_n (ls' := [(2, 1), (0, b_4), (0, r_11), (0, b_4)]) dX7_when_79 rfl rfl (Nat.le_of_ble_eq_true rfl) rfl ?_
          exact J_K_8 _ _ _ hf)
      obtain ⟨K_14, J_K_14, hf⟩ := jn_ex (P := fun K => ∀ (h_15 : Mem), K h_15 = some r → AJ X MX7_when (rmD 4) 80 [(2, 1), (0, best_2), (0, most_3), (0, b_4)] [] h_15 (PH 0 r)) hf (by
          intro h_15 hf
          exact J_K_8 _ _ _ hf)
      refine q_aload_n dX7_when_43 rfl rfl ?_
      refine g_getF (k := 5) (o := 32) (z := 33) dX7_when_44 rfl fg_X7_40 rfl rfl rfl ?_
      obtain ⟨r_16, h_17, e_18, hf⟩ := bd_ex hf
      refine g_Vb (vs := []) (st := []) dX7_when_47 rfl (S_X6_isStaged X  h_6) e_18 mf_X6_isStaged ml_X7_224 rfl rfl rfl rfl (fun b_19 => ?_)
      refine q_if_eq (tgt := 80) dX7_when_50 rfl (by decide) (fun c_20 => ?_) (fun c_20 => ?_)
      · replace hf := it_f hf (by omega)
        exact J_K_14 _ hf
      · replace hf := it_t hf (by omega)
        refine q_iload_n dX7_when_53 rfl rfl ?_
        refine q_bipush dX7_when_54 rfl (by decide) ?_
        refine q_icmp_eq (tgt := 70) dX7_when_56 rfl (by decide) (fun c_21 => ?_) (fun c_21 => ?_)
        · replace hf := it_t hf (by omega)
          exact J_K_9 _ hf
        · replace hf := it_f hf (by omega)
          refine q_aload_n dX7_when_59 rfl rfl ?_
          refine g_getF (k := 5) (o := 32) (z := 33) dX7_when_60 rfl fg_X7_40 rfl rfl rfl ?_
          obtain ⟨r_22, h_23, e_24, hf⟩ := bd_ex hf
          refine g_Vi (vs := []) (st := []) dX7_when_63 rfl (S_X6_total X  h_17) e_24 mf_X6_total ml_X7_199 rfl rfl rfl rfl ?_
          refine q_iload_n dX7_when_66 rfl rfl ?_
          refine q_icmp_le (tgt := 80) dX7_when_67 rfl (by decide) (fun c_25 => ?_) (fun c_25 => ?_)
          · replace hf := it_f hf (by omega)
            exact J_K_14 _ hf
          · replace hf := it_t hf (by omega)
            exact J_K_9 _ hf
theorem S_X7_when (X : XS) (h : Mem) : CT X yX7_when MX7_when (some .int) 0 4 [(2, 1)] h (F_X7_when h) := by
  refine CT.ofI (by decide) rfl (Nat.le_of_ble_eq_true rfl) (fun r hf => ?_)
  unfold F_X7_when at hf
  show AJ X MX7_when (rmD 4) 0 [(2, 1), (3, 0), (3, 0), (3, 0)] [] h (PH 0 r)
  refine q_aload_n dX7_when_0 rfl rfl ?_
  refine g_getF (k := 3) (o := 25) (z := 26) dX7_when_1 rfl fg_X7_29 rfl rfl rfl ?_
  refine g_get (k := 1) (kz := 1) dX7_when_4 rfl fg_X7_159 rfl rfl ?_
  refine q_if_ne (tgt := 13) dX7_when_7 rfl (by decide) (fun c_35 => ?_) (fun c_35 => ?_)
  · replace hf := it_f hf (by omega)
    refine q_bipush dX7_when_13 rfl (by decide) ?_
    refine q_istore_n (ls' := [(2, 1), (0, (-9)), (3, 0), (3, 0)]) dX7_when_15 rfl rfl (Nat.le_of_ble_eq_true rfl) rfl ?_
    refine q_iconst dX7_when_16 rfl rfl ?_
    refine q_istore_n (ls' := [(2, 1), (0, (-9)), (0, 0), (3, 0)]) dX7_when_17 rfl rfl (Nat.le_of_ble_eq_true rfl) rfl ?_
    refine q_iconst dX7_when_18 rfl rfl ?_
    refine q_istore_n (ls' := [(2, 1), (0, (-9)), (0, 0), (0, 0)]) dX7_when_19 rfl rfl (Nat.le_of_ble_eq_true rfl) rfl ?_
    refine SL_X7_when_1 X   _ (fun best_32 most_33 b_34 h_31 hf => ?_) FU _ _ _ _ hf
    refine q_iload_n dX7_when_86 rfl rfl ?_
    exact g_ireturn dX7_when_87 rfl hf
  · replace hf := it_t hf (by omega)
    refine q_bipush dX7_when_10 rfl (by decide) ?_
    exact g_ireturn dX7_when_12 rfl hf
def L_X7_searchWithout_1 (i_0 out_0 r_1 : Int) (Kx : Int → Mem → Res) : Nat → Int → Mem → Res
  | 0, _, _ => none
  | n + 1, k_8, h_7 => if (k_8 < r_1) then (nm (h_7 1 1) (fun cast_9 => gd (okO 2 cast_9 = true) (gd (0 ≤ k_8 ∧ k_8 < 9) (gd (0 ≤ (h_7 55 k_8) ∧ (h_7 55 k_8) < 9) (gd (0 ≤ k_8 ∧ k_8 < 7) (nm (wr h_7 49 k_8 (cast_9 + 2 + (h_7 55 k_8))) (fun (h_14 : Mem) => nm (α := Int) (if (k_8 < out_0) then k_8 else (w32 (k_8 + 1))) (fun v_15 => gd (0 ≤ v_15 ∧ v_15 < 9) (nm (wr h_14 50 k_8 (h_14 27 v_15)) (fun (h_18 : Mem) => nm (w32 (k_8 + 1)) (fun k_19 => L_X7_searchWithout_1 i_0 out_0 r_1 Kx n k_19 h_18))))))))))) else (Kx k_8 h_7)
def F_X7_searchWithout (i_0 out_0 : Int) (h : Mem) : Res := bd (F_X7_lineUp i_0 h) (fun r_1 (h_2 : Mem) => bd (F_X5_begin 48 r_1 h_2) (fun _ (h_5 : Mem) => L_X7_searchWithout_1 i_0 out_0 r_1 (fun k_22 (h_21 : Mem) => nm (α := Int) (if (out_0 < (h_21 26 2)) then (w32 ((h_21 26 2) - 1)) else (h_21 26 2)) (fun v_23 => nm (α := Int) (if (v_23 < r_1) then v_23 else 0) (fun v_25 => bd (F_X6_open r_1 v_25 h_21) (fun _ (h_28 : Mem) => bd (F_X5_run 48 h_28) (fun _ (h_31 : Mem) => some (0, h_31)))))) FU 0 h_5))
theorem SL_X7_searchWithout_1 (X : XS) (i_0 out_0 r_1 : Int) (Kx : Int → Mem → Res) {r : Int × Mem} (hK : ∀ (k_8 : Int) (h_7 : Mem), Kx k_8 h_7 = some r → AJ X MX7_searchWithout (rmD 30) 87 [(2, 1), (0, i_0), (0, out_0), (0, r_1), (0, k_8)] [] h_7 (PH 9 r)) :
    ∀ (n : Nat) (k_8 : Int) (h_7 : Mem), L_X7_searchWithout_1 i_0 out_0 r_1 Kx n k_8 h_7 = some r → AJ X MX7_searchWithout (rmD 30) 17 [(2, 1), (0, i_0), (0, out_0), (0, r_1), (0, k_8)] [] h_7 (PH 9 r) := by
  intro n
  induction n with
  | zero => intro k_8 h_7 hf; cases hf
  | succ n ih =>
    intro k_8 h_7 hf
    rw [L_X7_searchWithout_1] at hf
    refine q_iload dX7_searchWithout_17 rfl rfl ?_
    refine q_iload_n dX7_searchWithout_19 rfl rfl ?_
    refine q_icmp_ge (tgt := 87) dX7_searchWithout_20 rfl (by decide) (fun c_20 => ?_) (fun c_20 => ?_)
    · replace hf := it_f hf (by omega)
      exact hK _ _ hf
    · replace hf := it_t hf (by omega)
      refine q_aload_n dX7_searchWithout_23 rfl rfl ?_
      refine g_getF (k := 7) (o := 47) (z := 48) dX7_searchWithout_24 rfl fg_X7_51 rfl rfl rfl ?_
      refine g_getF (k := 0) (o := 1) (z := 49) dX7_searchWithout_27 rfl fg_X7_315 rfl rfl rfl ?_
      refine q_iload dX7_searchWithout_30 rfl rfl ?_
      refine q_aload_n dX7_searchWithout_32 rfl rfl ?_
      refine g_get (k := 1) (kz := 1) dX7_searchWithout_33 rfl fg_X7_19 rfl rfl ?_
      obtain ⟨cast_9, e_cast_9, hf⟩ := nm_ex hf
      rw [← e_cast_9]
      obtain ⟨o_cast_10, hf⟩ := gd_ex hf
      refine g_getF (k := 0) (o := 1) (z := (cast_9 + 1)) dX7_searchWithout_36 rfl fg_X7_110 rfl o_cast_10 rfl ?_
      refine q_aload_n dX7_searchWithout_39 rfl rfl ?_
      refine g_getF (k := 10) (o := 54) (z := 55) dX7_searchWithout_40 rfl fg_X7_70 rfl rfl rfl ?_
      refine q_iload dX7_searchWithout_43 rfl rfl ?_
      obtain ⟨g_11, hf⟩ := gd_ex hf
      refine q_iaload dX7_searchWithout_45 rfl rfl g_11 ?_
      obtain ⟨g_12, hf⟩ := gd_ex hf
      refine q_aaloadF (z := (cast_9 + 2 + (h_7 55 k_8))) dX7_searchWithout_46 rfl (sf_2_0 o_cast_10) (by decide) g_12 rfl (by omega) ?_
      obtain ⟨g_13, hf⟩ := gd_ex hf
      refine q_aastore dX7_searchWithout_47 rfl rfl g_13 (ok_mem o_cast_10 g_12) ?_
      obtain ⟨h_14, e_h_14, hf⟩ := nm_ex hf
      rw [← e_h_14]
      refine q_aload_n dX7_searchWithout_48 rfl rfl ?_
      refine g_getF (k := 7) (o := 47) (z := 48) dX7_searchWithout_49 rfl fg_X7_51 rfl rfl rfl ?_
      refine g_getF (k := 1) (o := 2) (z := 50) dX7_searchWithout_52 rfl fg_X7_318 rfl rfl rfl ?_
      refine q_iload dX7_searchWithout_55 rfl rfl ?_
      refine q_aload_n dX7_searchWithout_57 rfl rfl ?_
      refine g_getF (k := 3) (o := 25) (z := 26) dX7_searchWithout_58 rfl fg_X7_29 rfl rfl rfl ?_
      refine g_getF (k := 0) (o := 1) (z := 27) dX7_searchWithout_61 rfl fg_X7_168 rfl rfl rfl ?_
      obtain ⟨v_15, e_v_15, hf⟩ := nm_ex hf
      have J_v_15 : AJ X MX7_searchWithout (rmD 30) 79 [(2, 1), (0, i_0), (0, out_0), (0, r_1), (0, k_8)] [(0, v_15), (2, 27), (0, k_8), (2, 50)] h_14 (PH 9 r) := by
        obtain ⟨g_17, hf⟩ := gd_ex hf
        refine q_iaload dX7_searchWithout_79 rfl rfl g_17 ?_
        refine q_iastore dX7_searchWithout_80 rfl rfl g_13 ?_
        obtain ⟨h_18, e_h_18, hf⟩ := nm_ex hf
        rw [← e_h_18]
        refine q_iinc (ls' := [(2, 1), (0, i_0), (0, out_0), (0, r_1), (0, w32 (k_8 + 1))]) dX7_searchWithout_81 rfl rfl rfl ?_
        obtain ⟨k_19, e_k_19, hf⟩ := nm_ex hf
        rw [← e_k_19]
        refine q_goto (tgt := 17) dX7_searchWithout_84 rfl (by decide) ?_
        exact ih _ _ hf
      clear hf
      refine q_iload dX7_searchWithout_64 rfl rfl ?_
      refine q_iload_n dX7_searchWithout_66 rfl rfl ?_
      refine q_icmp_ge (tgt := 75) dX7_searchWithout_67 rfl (by decide) (fun c_16 => ?_) (fun c_16 => ?_)
      · refine q_iload dX7_searchWithout_75 rfl rfl ?_
        refine q_iconst dX7_searchWithout_77 rfl rfl ?_
        refine q_iadd dX7_searchWithout_78 rfl ?_
        have e1 : v_15 = w32 (k_8 + 1) := by omega
        subst e1
        exact J_v_15
      · refine q_iload dX7_searchWithout_70 rfl rfl ?_
        refine q_goto (tgt := 79) dX7_searchWithout_72 rfl (by decide) ?_
        have e1 : v_15 = k_8 := by omega
        subst e1
        exact J_v_15
theorem S_X7_searchWithout (X : XS) (i_0 : Int) (out_0 : Int) (h : Mem) : CT X yX7_searchWithout MX7_searchWithout none 9 30 [(2, 1), (0, i_0), (0, out_0)] h (F_X7_searchWithout i_0 out_0 h) := by
  refine CT.ofV (by decide) rfl (Nat.le_of_ble_eq_true rfl) (fun r hf => ?_)
  unfold F_X7_searchWithout at hf
  show AJ X MX7_searchWithout (rmD 30) 0 [(2, 1), (0, i_0), (0, out_0), (3, 0), (3, 0)] [] h (PH 9 r)
  refine q_aload_n dX7_searchWithout_0 rfl rfl ?_
  refine q_iload_n dX7_searchWithout_1 rfl rfl ?_
  obtain ⟨r_1, h_2, e_3, hf⟩ := bd_ex hf
  refine g_Vi (vs := [(0, i_0)]) (st := []) dX7_searchWithout_2 rfl (S_X7_lineUp X i_0 h) e_3 mf_X7_lineUp ml_X7_218 rfl rfl rfl rfl ?_
  refine q_istore_n (ls' := [(2, 1), (0, i_0), (0, out_0), (0, r_1), (3, 0)]) dX7_searchWithout_5 rfl rfl (Nat.le_of_ble_eq_true rfl) rfl ?_
  refine q_aload_n dX7_searchWithout_6 rfl rfl ?_
  refine g_getF (k := 7) (o := 47) (z := 48) dX7_searchWithout_7 rfl fg_X7_51 rfl rfl rfl ?_
  refine q_iload_n dX7_searchWithout_10 rfl rfl ?_
  obtain ⟨r_4, h_5, e_6, hf⟩ := bd_ex hf
  refine g_Vv (vs := [(0, r_1)]) (st := []) dX7_searchWithout_11 rfl (S_X5_begin X 48 rfl r_1 h_2) e_6 mf_X5_begin ml_X7_312 rfl rfl rfl rfl ?_
  refine q_iconst dX7_searchWithout_14 rfl rfl ?_
  refine q_istore (ls' := [(2, 1), (0, i_0), (0, out_0), (0, r_1), (0, 0)]) dX7_searchWithout_15 rfl (Nat.le_of_ble_eq_true rfl) rfl ?_
  refine SL_X7_searchWithout_1 X i_0 out_0 r_1  _ (fun k_22 h_21 hf => ?_) FU _ _ hf
  obtain ⟨v_23, e_v_23, hf⟩ := nm_ex hf
  have J_v_23 : AJ X MX7_searchWithout (rmD 30) 117 [(2, 1), (0, i_0), (0, out_0), (0, r_1), (0, k_22)] [(0, v_23)] h_21 (PH 9 r) := by
    refine q_istore (ls' := [(2, 1), (0, i_0), (0, out_0), (0, r_1), (0, v_23)]) dX7_searchWithout_117 rfl (Nat.le_of_ble_eq_true rfl) rfl ?_
    refine q_aload_n dX7_searchWithout_119 rfl rfl ?_
    refine g_getF (k := 5) (o := 32) (z := 33) dX7_searchWithout_120 rfl fg_X7_40 rfl rfl rfl ?_
    refine q_iload_n dX7_searchWithout_123 rfl rfl ?_
    obtain ⟨v_25, e_v_25, hf⟩ := nm_ex hf
    have J_v_25 : AJ X MX7_searchWithout (rmD 30) 136 [(2, 1), (0, i_0), (0, out_0), (0, r_1), (0, v_23)] [(0, v_25), (0, r_1), (2, 33)] h_21 (PH 9 r) := by
      obtain ⟨r_27, h_28, e_29, hf⟩ := bd_ex hf
      refine g_Vv (vs := [(0, r_1), (0, v_25)]) (st := []) dX7_searchWithout_136 rfl (S_X6_open X r_1 v_25 h_21) e_29 mf_X6_open ml_X7_276 rfl rfl rfl rfl ?_
      refine q_aload_n dX7_searchWithout_139 rfl rfl ?_
      refine g_getF (k := 7) (o := 47) (z := 48) dX7_searchWithout_140 rfl fg_X7_51 rfl rfl rfl ?_
      refine q_aload_n dX7_searchWithout_143 rfl rfl ?_
      refine g_getF (k := 5) (o := 32) (z := 33) dX7_searchWithout_144 rfl fg_X7_40 rfl rfl rfl ?_
      obtain ⟨r_30, h_31, e_32, hf⟩ := bd_ex hf
      refine g_Vv (vs := [(2, 33)]) (st := []) dX7_searchWithout_147 rfl (S_X5_run X 48 rfl h_28) e_32 mf_X5_run ml_X7_321 rfl rfl rfl rfl ?_
      exact g_return dX7_searchWithout_150 rfl hf
    clear hf
    refine q_iload dX7_searchWithout_124 rfl rfl ?_
    refine q_iload_n dX7_searchWithout_126 rfl rfl ?_
    refine q_icmp_ge (tgt := 135) dX7_searchWithout_127 rfl (by decide) (fun c_26 => ?_) (fun c_26 => ?_)
    · refine q_iconst dX7_searchWithout_135 rfl rfl ?_
      have e1 : v_25 = 0 := by omega
      subst e1
      exact J_v_25
    · refine q_iload dX7_searchWithout_130 rfl rfl ?_
      refine q_goto (tgt := 136) dX7_searchWithout_132 rfl (by decide) ?_
      have e1 : v_25 = v_23 := by omega
      subst e1
      exact J_v_25
  clear hf
  refine q_iload_n dX7_searchWithout_87 rfl rfl ?_
  refine q_aload_n dX7_searchWithout_88 rfl rfl ?_
  refine g_getF (k := 3) (o := 25) (z := 26) dX7_searchWithout_89 rfl fg_X7_29 rfl rfl rfl ?_
  refine g_get (k := 2) (kz := 2) dX7_searchWithout_92 rfl fg_X7_162 rfl rfl ?_
  refine q_icmp_ge (tgt := 110) dX7_searchWithout_95 rfl (by decide) (fun c_24 => ?_) (fun c_24 => ?_)
  · refine q_aload_n dX7_searchWithout_110 rfl rfl ?_
    refine g_getF (k := 3) (o := 25) (z := 26) dX7_searchWithout_111 rfl fg_X7_29 rfl rfl rfl ?_
    refine g_get (k := 2) (kz := 2) dX7_searchWithout_114 rfl fg_X7_162 rfl rfl ?_
    have e1 : v_23 = h_21 26 2 := by omega
    subst e1
    exact J_v_23
  · refine q_aload_n dX7_searchWithout_98 rfl rfl ?_
    refine g_getF (k := 3) (o := 25) (z := 26) dX7_searchWithout_99 rfl fg_X7_29 rfl rfl rfl ?_
    refine g_get (k := 2) (kz := 2) dX7_searchWithout_102 rfl fg_X7_162 rfl rfl ?_
    refine q_iconst dX7_searchWithout_105 rfl rfl ?_
    refine q_isub dX7_searchWithout_106 rfl ?_
    refine q_goto (tgt := 117) dX7_searchWithout_107 rfl (by decide) ?_
    have e1 : v_23 = w32 ((h_21 26 2) - 1) := by omega
    subst e1
    exact J_v_23
def F_X7_ill (i_0 what_0 : Int) (h : Mem) : Res := jn (fun (K_1 : Int → Mem → Res) => bd (F_X7_isAct i_0 h) (fun r_2 (h_3 : Mem) => if (¬ r_2 = 0) then (bd (F_X1_placeOf 26 i_0 h_3) (fun r_7 (h_8 : Mem) => K_1 r_7 h_8)) else (K_1 (-9) h_3))) (fun v_11 (h_10 : Mem) => if (((v_11 = (-9)) ∨ (what_0 < 0)) ∨ (2 < what_0)) then (some ((-1), h_10)) else (if ((7 < (h_10 26 1)) ∨ ((h_10 26 1) < 2)) then (some ((-2), h_10)) else (bd (F_X7_searchWithout i_0 v_11 h_10) (fun _ (h_13 : Mem) => if ((h_13 48 3) = 0) then (some ((-9), h_13)) else (if what_0 = 0 then (some (h_13 48 4, h_13)) else (if what_0 = 1 then (some (h_13 48 6, h_13)) else (some (h_13 48 5, h_13))))))))
theorem S_X7_ill (X : XS) (i_0 : Int) (what_0 : Int) (h : Mem) : CT X yX7_ill MX7_ill (some .int) 0 31 [(2, 1), (0, i_0), (0, what_0)] h (F_X7_ill i_0 what_0 h) := by
  refine CT.ofI (by decide) rfl (Nat.le_of_ble_eq_true rfl) (fun r hf => ?_)
  unfold F_X7_ill at hf
  show AJ X MX7_ill (rmD 31) 0 [(2, 1), (0, i_0), (0, what_0), (3, 0)] [] h (PH 0 r)
  obtain ⟨K_1, J_K_1, hf⟩ := jn_ex (P := fun K => ∀ (v_11 : Int) (h_10 : Mem), K v_11 h_10 = some r → AJ X MX7_ill (rmD 31) 21 [(2, 1), (0, i_0), (0, what_0), (3, 0)] [(0, v_11)] h_10 (PH 0 r)) hf (by
      intro v_11 h_10 hf
      refine q_istore_n (ls' := [(2, 1), (0, i_0), (0, what_0), (0, v_11)]) dX7_ill_21 rfl rfl (Nat.le_of_ble_eq_true rfl) rfl ?_
      have HT_22 : (((v_11 = (-9)) ∨ (what_0 < 0)) ∨ (2 < what_0)) → AJ X MX7_ill (rmD 31) 37 [(2, 1), (0, i_0), (0, what_0), (0, v_11)] [] h_10 (PH 0 r) := by
        intro hc
        replace hf := it_t hf hc
        refine q_iconst dX7_ill_37 rfl rfl ?_
        exact g_ireturn dX7_ill_38 rfl hf
      refine q_iload_n dX7_ill_22 rfl rfl ?_
      refine q_bipush dX7_ill_23 rfl (by decide) ?_
      refine q_icmp_eq (tgt := 37) dX7_ill_25 rfl (by decide) (fun c_23 => ?_) (fun c_23 => ?_)
      · exact HT_22 (by omega)
      · refine q_iload_n dX7_ill_28 rfl rfl ?_
        refine q_if_lt (tgt := 37) dX7_ill_29 rfl (by decide) (fun c_24 => ?_) (fun c_24 => ?_)
        · exact HT_22 (by omega)
        · refine q_iload_n dX7_ill_32 rfl rfl ?_
          refine q_iconst dX7_ill_33 rfl rfl ?_
          refine q_icmp_le (tgt := 39) dX7_ill_34 rfl (by decide) (fun c_25 => ?_) (fun c_25 => ?_)
          · replace hf := it_f hf (by omega)
            have HT_19 : ((7 < (h_10 26 1)) ∨ ((h_10 26 1) < 2)) → AJ X MX7_ill (rmD 31) 62 [(2, 1), (0, i_0), (0, what_0), (0, v_11)] [] h_10 (PH 0 r) := by
              intro hc
              replace hf := it_t hf hc
              refine q_bipush dX7_ill_62 rfl (by decide) ?_
              exact g_ireturn dX7_ill_64 rfl hf
            refine q_aload_n dX7_ill_39 rfl rfl ?_
            refine g_getF (k := 3) (o := 25) (z := 26) dX7_ill_40 rfl fg_X7_29 rfl rfl rfl ?_
            refine g_get (k := 1) (kz := 1) dX7_ill_43 rfl fg_X7_159 rfl rfl ?_
            refine q_bipush dX7_ill_46 rfl (by decide) ?_
            refine q_icmp_gt (tgt := 62) dX7_ill_48 rfl (by decide) (fun c_20 => ?_) (fun c_20 => ?_)
            · exact HT_19 (by omega)
            · refine q_aload_n dX7_ill_51 rfl rfl ?_
              refine g_getF (k := 3) (o := 25) (z := 26) dX7_ill_52 rfl fg_X7_29 rfl rfl rfl ?_
              refine g_get (k := 1) (kz := 1) dX7_ill_55 rfl fg_X7_159 rfl rfl ?_
              refine q_iconst dX7_ill_58 rfl rfl ?_
              refine q_icmp_ge (tgt := 65) dX7_ill_59 rfl (by decide) (fun c_21 => ?_) (fun c_21 => ?_)
              · replace hf := it_f hf (by omega)
                refine q_aload_n dX7_ill_65 rfl rfl ?_
                refine q_iload_n dX7_ill_66 rfl rfl ?_
                refine q_iload_n dX7_ill_67 rfl rfl ?_
                obtain ⟨r_12, h_13, e_14, hf⟩ := bd_ex hf
                refine g_Vv (vs := [(0, i_0), (0, v_11)]) (st := []) dX7_ill_68 rfl (S_X7_searchWithout X i_0 v_11 h_10) e_14 mf_X7_searchWithout ml_X7_228 rfl rfl rfl rfl ?_
                refine q_aload_n dX7_ill_71 rfl rfl ?_
                refine g_getF (k := 7) (o := 47) (z := 48) dX7_ill_72 rfl fg_X7_51 rfl rfl rfl ?_
                refine g_get (k := 3) (kz := 3) dX7_ill_75 rfl fg_X7_209 rfl rfl ?_
                refine q_if_ne (tgt := 84) dX7_ill_78 rfl (by decide) (fun c_18 => ?_) (fun c_18 => ?_)
                · replace hf := it_f hf (by omega)
                  refine q_iload_n dX7_ill_84 rfl rfl ?_
                  by_cases c_16 : what_0 = 0
                  · replace hf := it_t hf c_16
                    refine g_lsw (tgt := 112) (off := 27) dX7_ill_85 rfl (by rw [c_16]; rfl) (by decide) ?_
                    refine q_aload_n dX7_ill_112 rfl rfl ?_
                    refine g_getF (k := 7) (o := 47) (z := 48) dX7_ill_113 rfl fg_X7_51 rfl rfl rfl ?_
                    refine g_get (k := 4) (kz := 4) dX7_ill_116 rfl fg_X7_232 rfl rfl ?_
                    exact g_ireturn dX7_ill_119 rfl hf
                  · replace hf := it_f hf c_16
                    by_cases c_17 : what_0 = 1
                    · replace hf := it_t hf c_17
                      refine g_lsw (tgt := 120) (off := 35) dX7_ill_85 rfl (by rw [c_17]; rfl) (by decide) ?_
                      refine q_aload_n dX7_ill_120 rfl rfl ?_
                      refine g_getF (k := 7) (o := 47) (z := 48) dX7_ill_121 rfl fg_X7_51 rfl rfl rfl ?_
                      refine g_get (k := 6) (kz := 6) dX7_ill_124 rfl fg_X7_214 rfl rfl ?_
                      exact g_ireturn dX7_ill_127 rfl hf
                    · replace hf := it_f hf c_17
                      refine g_lsw (tgt := 128) (off := 43) dX7_ill_85 rfl (by simp only [Op.lookupswitch.offset]; omega) (by decide) ?_
                      refine q_aload_n dX7_ill_128 rfl rfl ?_
                      refine g_getF (k := 7) (o := 47) (z := 48) dX7_ill_129 rfl fg_X7_51 rfl rfl rfl ?_
                      refine g_get (k := 5) (kz := 5) dX7_ill_132 rfl fg_X7_212 rfl rfl ?_
                      exact g_ireturn dX7_ill_135 rfl hf
                · replace hf := it_t hf (by omega)
                  refine q_bipush dX7_ill_81 rfl (by decide) ?_
                  exact g_ireturn dX7_ill_83 rfl hf
              · exact HT_19 (by omega)
          · exact HT_22 (by omega))
  refine q_aload_n dX7_ill_0 rfl rfl ?_
  refine q_iload_n dX7_ill_1 rfl rfl ?_
  obtain ⟨r_2, h_3, e_4, hf⟩ := bd_ex hf
  refine g_Vb (vs := [(0, i_0)]) (st := []) dX7_ill_2 rfl (S_X7_isAct X i_0 h) e_4 mf_X7_isAct ml_X7_106 rfl rfl rfl rfl (fun b_5 => ?_)
  refine q_if_eq (tgt := 19) dX7_ill_5 rfl (by decide) (fun c_6 => ?_) (fun c_6 => ?_)
  · replace hf := it_f hf (by omega)
    refine q_bipush dX7_ill_19 rfl (by decide) ?_
    exact J_K_1 _ _ hf
  · replace hf := it_t hf (by omega)
    refine q_aload_n dX7_ill_8 rfl rfl ?_
    refine g_getF (k := 3) (o := 25) (z := 26) dX7_ill_9 rfl fg_X7_29 rfl rfl rfl ?_
    refine q_iload_n dX7_ill_12 rfl rfl ?_
    obtain ⟨r_7, h_8, e_9, hf⟩ := bd_ex hf
    refine g_Vi (vs := [(0, i_0)]) (st := []) dX7_ill_13 rfl (S_X1_placeOf X 26 rfl i_0 h_3) e_9 mf_X1_placeOf ml_X7_153 rfl rfl rfl rfl ?_
    refine q_goto (tgt := 21) dX7_ill_16 rfl (by decide) ?_
    exact J_K_1 _ _ hf
def L_X7_apart_1 (hall_0 all_0 : Int) (Kx : Int → Int → Mem → Res) : Nat → Int → Int → Mem → Res
  | 0, _, _, _ => none
  | n + 1, more_2, i_3, h_1 => nm (h_1 1 1) (fun cast_4 => gd (okO 2 cast_4 = true) (if (i_3 < (h_1 cast_4 1)) then (jn (fun (K_7 : Int → Mem → Res) => if ((iand (ishr hall_0 i_3) 1) = 1) then (nm (h_1 1 1) (fun cast_8 => gd (okO 2 cast_8 = true) (gd (0 ≤ i_3 ∧ i_3 < 9) (nm (w32 (more_2 + (h_1 (cast_8 + 2 + i_3) 3))) (fun more_11 => K_7 more_11 h_1))))) else (jn (fun (K_12 : Int → Mem → Res) => if ((iand (ishr all_0 i_3) 1) = 1) then (nm (h_1 1 1) (fun cast_13 => gd (okO 2 cast_13 = true) (gd (0 ≤ i_3 ∧ i_3 < 9) (nm (w32 (more_2 - (h_1 (cast_13 + 2 + i_3) 3))) (fun more_16 => K_12 more_16 h_1))))) else (K_12 more_2 h_1)) (fun more_19 (h_18 : Mem) => K_7 more_19 h_18))) (fun more_22 (h_21 : Mem) => nm (w32 (i_3 + 1)) (fun i_23 => L_X7_apart_1 hall_0 all_0 Kx n more_22 i_23 h_21))) else (Kx more_2 i_3 h_1)))
def F_X7_apart (hall_0 all_0 : Int) (h : Mem) : Res := L_X7_apart_1 hall_0 all_0 (fun more_25 i_26 (h_24 : Mem) => some (abI more_25, h_24)) FU 0 0 h
theorem SL_X7_apart_1 (X : XS) (hall_0 all_0 : Int) (Kx : Int → Int → Mem → Res) {r : Int × Mem} (hK : ∀ (more_2 i_3 : Int) (h_1 : Mem), Kx more_2 i_3 h_1 = some r → AJ X MX7_apart (rmD 1) 78 [(2, 1), (0, hall_0), (0, all_0), (0, more_2), (0, i_3)] [] h_1 (PH 0 r)) :
    ∀ (n : Nat) (more_2 i_3 : Int) (h_1 : Mem), L_X7_apart_1 hall_0 all_0 Kx n more_2 i_3 h_1 = some r → AJ X MX7_apart (rmD 1) 5 [(2, 1), (0, hall_0), (0, all_0), (0, more_2), (0, i_3)] [] h_1 (PH 0 r) := by
  intro n
  induction n with
  | zero => intro more_2 i_3 h_1 hf; cases hf
  | succ n ih =>
    intro more_2 i_3 h_1 hf
    rw [L_X7_apart_1] at hf
    refine q_iload dX7_apart_5 rfl rfl ?_
    refine q_aload_n dX7_apart_7 rfl rfl ?_
    refine g_get (k := 1) (kz := 1) dX7_apart_8 rfl fg_X7_19 rfl rfl ?_
    obtain ⟨cast_4, e_cast_4, hf⟩ := nm_ex hf
    rw [← e_cast_4]
    obtain ⟨o_cast_5, hf⟩ := gd_ex hf
    refine g_get (k := 1) (kz := 1) dX7_apart_11 rfl fg_X7_266 rfl o_cast_5 ?_
    refine q_icmp_ge (tgt := 78) dX7_apart_14 rfl (by decide) (fun c_6 => ?_) (fun c_6 => ?_)
    · replace hf := it_f hf (by omega)
      exact hK _ _ _ hf
    · replace hf := it_t hf (by omega)
      obtain ⟨K_7, J_K_7, hf⟩ := jn_ex (P := fun K => ∀ (more_22 : Int) (h_21 : Mem), K more_22 h_21 = some r → AJ X MX7_apart (rmD 1) 72 [(2, 1), (0, hall_0), (0, all_0), (0, more_22), (0, i_3)] [] h_21 (PH 0 r)) hf (by
          intro more_22 h_21 hf
          refine q_iinc (ls' := [(2, 1), (0, hall_0), (0, all_0), (0, more_22), (0, w32 (i_3 + 1))]) dX7_apart_72 rfl rfl rfl ?_
          obtain ⟨i_23, e_i_23, hf⟩ := nm_ex hf
          rw [← e_i_23]
          refine q_goto (tgt := 5) dX7_apart_75 rfl (by decide) ?_
          exact ih _ _ _ hf)
      refine q_iload_n dX7_apart_17 rfl rfl ?_
      refine q_iload dX7_apart_18 rfl rfl ?_
      refine q_ishr dX7_apart_20 rfl ?_
      refine q_iconst dX7_apart_21 rfl rfl ?_
      refine q_iand dX7_apart_22 rfl ?_
      refine q_iconst dX7_apart_23 rfl rfl ?_
      refine q_icmp_ne (tgt := 46) dX7_apart_24 rfl (by decide) (fun c_20 => ?_) (fun c_20 => ?_)
      · replace hf := it_f hf (by omega)
        obtain ⟨K_12, J_K_12, hf⟩ := jn_ex (P := fun K => ∀ (more_19 : Int) (h_18 : Mem), K more_19 h_18 = some r → AJ X MX7_apart (rmD 1) 72 [(2, 1), (0, hall_0), (0, all_0), (0, more_19), (0, i_3)] [] h_18 (PH 0 r)) hf (by
            intro more_19 h_18 hf
            exact J_K_7 _ _ hf)
        refine q_iload_n dX7_apart_46 rfl rfl ?_
        refine q_iload dX7_apart_47 rfl rfl ?_
        refine q_ishr dX7_apart_49 rfl ?_
        refine q_iconst dX7_apart_50 rfl rfl ?_
        refine q_iand dX7_apart_51 rfl ?_
        refine q_iconst dX7_apart_52 rfl rfl ?_
        refine q_icmp_ne (tgt := 72) dX7_apart_53 rfl (by decide) (fun c_17 => ?_) (fun c_17 => ?_)
        · replace hf := it_f hf (by omega)
          exact J_K_12 _ _ hf
        · replace hf := it_t hf (by omega)
          refine q_iload_n dX7_apart_56 rfl rfl ?_
          refine q_aload_n dX7_apart_57 rfl rfl ?_
          refine g_get (k := 1) (kz := 1) dX7_apart_58 rfl fg_X7_19 rfl rfl ?_
          obtain ⟨cast_13, e_cast_13, hf⟩ := nm_ex hf
          rw [← e_cast_13]
          obtain ⟨o_cast_14, hf⟩ := gd_ex hf
          refine g_getF (k := 0) (o := 1) (z := (cast_13 + 1)) dX7_apart_61 rfl fg_X7_110 rfl o_cast_14 rfl ?_
          refine q_iload dX7_apart_64 rfl rfl ?_
          obtain ⟨g_15, hf⟩ := gd_ex hf
          refine q_aaloadF (z := (cast_13 + 2 + i_3)) dX7_apart_66 rfl (sf_2_0 o_cast_14) (by decide) g_15 rfl (by omega) ?_
          refine g_get (k := 3) (kz := 3) dX7_apart_67 rfl fg_X7_120 rfl (ok_mem o_cast_14 g_15) ?_
          refine q_isub dX7_apart_70 rfl ?_
          obtain ⟨more_16, e_more_16, hf⟩ := nm_ex hf
          rw [← e_more_16]
          refine q_istore_n (ls' := [(2, 1), (0, hall_0), (0, all_0), (0, more_16), (0, i_3)]) dX7_apart_71 rfl rfl (Nat.le_of_ble_eq_true rfl) rfl ?_
          exact J_K_12 _ _ hf
      · replace hf := it_t hf (by omega)
        refine q_iload_n dX7_apart_27 rfl rfl ?_
        refine q_aload_n dX7_apart_28 rfl rfl ?_
        refine g_get (k := 1) (kz := 1) dX7_apart_29 rfl fg_X7_19 rfl rfl ?_
        obtain ⟨cast_8, e_cast_8, hf⟩ := nm_ex hf
        rw [← e_cast_8]
        obtain ⟨o_cast_9, hf⟩ := gd_ex hf
        refine g_getF (k := 0) (o := 1) (z := (cast_8 + 1)) dX7_apart_32 rfl fg_X7_110 rfl o_cast_9 rfl ?_
        refine q_iload dX7_apart_35 rfl rfl ?_
        obtain ⟨g_10, hf⟩ := gd_ex hf
        refine q_aaloadF (z := (cast_8 + 2 + i_3)) dX7_apart_37 rfl (sf_2_0 o_cast_9) (by decide) g_10 rfl (by omega) ?_
        refine g_get (k := 3) (kz := 3) dX7_apart_38 rfl fg_X7_120 rfl (ok_mem o_cast_9 g_10) ?_
        refine q_iadd dX7_apart_41 rfl ?_
        obtain ⟨more_11, e_more_11, hf⟩ := nm_ex hf
        rw [← e_more_11]
        refine q_istore_n (ls' := [(2, 1), (0, hall_0), (0, all_0), (0, more_11), (0, i_3)]) dX7_apart_42 rfl rfl (Nat.le_of_ble_eq_true rfl) rfl ?_
        refine q_goto (tgt := 72) dX7_apart_43 rfl (by decide) ?_
        exact J_K_7 _ _ hf
theorem S_X7_apart (X : XS) (hall_0 : Int) (all_0 : Int) (h : Mem) : CT X yX7_apart MX7_apart (some .int) 0 1 [(2, 1), (0, hall_0), (0, all_0)] h (F_X7_apart hall_0 all_0 h) := by
  refine CT.ofI (by decide) rfl (Nat.le_of_ble_eq_true rfl) (fun r hf => ?_)
  unfold F_X7_apart at hf
  show AJ X MX7_apart (rmD 1) 0 [(2, 1), (0, hall_0), (0, all_0), (3, 0), (3, 0)] [] h (PH 0 r)
  refine q_iconst dX7_apart_0 rfl rfl ?_
  refine q_istore_n (ls' := [(2, 1), (0, hall_0), (0, all_0), (0, 0), (3, 0)]) dX7_apart_1 rfl rfl (Nat.le_of_ble_eq_true rfl) rfl ?_
  refine q_iconst dX7_apart_2 rfl rfl ?_
  refine q_istore (ls' := [(2, 1), (0, hall_0), (0, all_0), (0, 0), (0, 0)]) dX7_apart_3 rfl (Nat.le_of_ble_eq_true rfl) rfl ?_
  refine SL_X7_apart_1 X hall_0 all_0  _ (fun more_25 i_26 h_24 hf => ?_) FU _ _ _ hf
  refine q_iload_n dX7_apart_78 rfl rfl ?_
  refine g_abs dX7_apart_79 rfl ml_X7_333 mw_abs rfl rfl ?_
  exact g_ireturn dX7_apart_82 rfl hf
def L_X7_hasOneOfAKind_1 (hall_0 : Int) (Kx : Int → Int → Mem → Res) : Nat → Int → Int → Mem → Res
  | 0, _, _, _ => none
  | n + 1, kinds_2, i_3, h_1 => nm (h_1 1 1) (fun cast_4 => gd (okO 2 cast_4 = true) (if (i_3 < (h_1 cast_4 1)) then (jn (fun (K_7 : Int → Mem → Res) => if ((iand (ishr hall_0 i_3) 1) = 1) then (nm (h_1 1 1) (fun cast_8 => gd (okO 2 cast_8 = true) (gd (0 ≤ i_3 ∧ i_3 < 9) (nm (ishl 1 (h_1 (cast_8 + 2 + i_3) 1)) (fun kind_11 => if (¬ (iand kinds_2 kind_11) = 0) then (some (0, h_1)) else (nm (ior kinds_2 kind_11) (fun kinds_12 => K_7 kinds_12 h_1))))))) else (K_7 kinds_2 h_1)) (fun kinds_16 (h_15 : Mem) => nm (w32 (i_3 + 1)) (fun i_17 => L_X7_hasOneOfAKind_1 hall_0 Kx n kinds_16 i_17 h_15))) else (Kx kinds_2 i_3 h_1)))
def F_X7_hasOneOfAKind (hall_0 : Int) (h : Mem) : Res := L_X7_hasOneOfAKind_1 hall_0 (fun kinds_19 i_20 (h_18 : Mem) => some (1, h_18)) FU 0 0 h
theorem SL_X7_hasOneOfAKind_1 (X : XS) (hall_0 : Int) (Kx : Int → Int → Mem → Res) {r : Int × Mem} (hK : ∀ (kinds_2 i_3 : Int) (h_1 : Mem), Kx kinds_2 i_3 h_1 = some r → AJ X MX7_hasOneOfAKind (rmD 0) 60 [(2, 1), (0, hall_0), (0, kinds_2), (0, i_3), (3, 0)] [] h_1 (PB r)) :
    ∀ (n : Nat) (kinds_2 i_3 : Int) (h_1 : Mem), L_X7_hasOneOfAKind_1 hall_0 Kx n kinds_2 i_3 h_1 = some r → AJ X MX7_hasOneOfAKind (rmD 0) 4 [(2, 1), (0, hall_0), (0, kinds_2), (0, i_3), (3, 0)] [] h_1 (PB r) := by
  intro n
  induction n with
  | zero => intro kinds_2 i_3 h_1 hf; cases hf
  | succ n ih =>
    intro kinds_2 i_3 h_1 hf
    rw [L_X7_hasOneOfAKind_1] at hf
    refine q_iload_n dX7_hasOneOfAKind_4 rfl rfl ?_
    refine q_aload_n dX7_hasOneOfAKind_5 rfl rfl ?_
    refine g_get (k := 1) (kz := 1) dX7_hasOneOfAKind_6 rfl fg_X7_19 rfl rfl ?_
    obtain ⟨cast_4, e_cast_4, hf⟩ := nm_ex hf
    rw [← e_cast_4]
    obtain ⟨o_cast_5, hf⟩ := gd_ex hf
    refine g_get (k := 1) (kz := 1) dX7_hasOneOfAKind_9 rfl fg_X7_266 rfl o_cast_5 ?_
    refine q_icmp_ge (tgt := 60) dX7_hasOneOfAKind_12 rfl (by decide) (fun c_6 => ?_) (fun c_6 => ?_)
    · replace hf := it_f hf (by omega)
      exact hK _ _ _ hf
    · replace hf := it_t hf (by omega)
      obtain ⟨K_7, J_K_7, hf⟩ := jn_ex (P := fun K => ∀ (kinds_16 : Int) (h_15 : Mem), K kinds_16 h_15 = some r → AJ X MX7_hasOneOfAKind (rmD 0) 54 [(2, 1), (0, hall_0), (0, kinds_16), (0, i_3), (3, 0)] [] h_15 (PB r)) hf (by
          intro kinds_16 h_15 hf
          refine q_iinc (ls' := [(2, 1), (0, hall_0), (0, kinds_16), (0, w32 (i_3 + 1)), (3, 0)]) dX7_hasOneOfAKind_54 rfl rfl rfl ?_
          obtain ⟨i_17, e_i_17, hf⟩ := nm_ex hf
          rw [← e_i_17]
          refine q_goto (tgt := 4) dX7_hasOneOfAKind_57 rfl (by decide) ?_
          exact ih _ _ _ hf)
      refine q_iload_n dX7_hasOneOfAKind_15 rfl rfl ?_
      refine q_iload_n dX7_hasOneOfAKind_16 rfl rfl ?_
      refine q_ishr dX7_hasOneOfAKind_17 rfl ?_
      refine q_iconst dX7_hasOneOfAKind_18 rfl rfl ?_
      refine q_iand dX7_hasOneOfAKind_19 rfl ?_
      refine q_iconst dX7_hasOneOfAKind_20 rfl rfl ?_
      refine q_icmp_ne (tgt := 54) dX7_hasOneOfAKind_21 rfl (by decide) (fun c_14 => ?_) (fun c_14 => ?_)
      · replace hf := it_f hf (by omega)
        exact J_K_7 _ _ hf
      · replace hf := it_t hf (by omega)
        refine q_iconst dX7_hasOneOfAKind_24 rfl rfl ?_
        refine q_aload_n dX7_hasOneOfAKind_25 rfl rfl ?_
        refine g_get (k := 1) (kz := 1) dX7_hasOneOfAKind_26 rfl fg_X7_19 rfl rfl ?_
        obtain ⟨cast_8, e_cast_8, hf⟩ := nm_ex hf
        rw [← e_cast_8]
        obtain ⟨o_cast_9, hf⟩ := gd_ex hf
        refine g_getF (k := 0) (o := 1) (z := (cast_8 + 1)) dX7_hasOneOfAKind_29 rfl fg_X7_110 rfl o_cast_9 rfl ?_
        refine q_iload_n dX7_hasOneOfAKind_32 rfl rfl ?_
        obtain ⟨g_10, hf⟩ := gd_ex hf
        refine q_aaloadF (z := (cast_8 + 2 + i_3)) dX7_hasOneOfAKind_33 rfl (sf_2_0 o_cast_9) (by decide) g_10 rfl (by omega) ?_
        refine g_get (k := 1) (kz := 1) dX7_hasOneOfAKind_34 rfl fg_X7_114 rfl (ok_mem o_cast_9 g_10) ?_
        refine q_ishl dX7_hasOneOfAKind_37 rfl ?_
        obtain ⟨kind_11, e_kind_11, hf⟩ := nm_ex hf
        rw [← e_kind_11]
        refine q_istore (ls' := [(2, 1), (0, hall_0), (0, kinds_2), (0, i_3), (0, kind_11)]) dX7_hasOneOfAKind_38 rfl (Nat.le_of_ble_eq_true rfl) rfl ?_
        refine q_iload_n dX7_hasOneOfAKind_40 rfl rfl ?_
        refine q_iload dX7_hasOneOfAKind_41 rfl rfl ?_
        refine q_iand dX7_hasOneOfAKind_43 rfl ?_
        refine q_if_eq (tgt := 49) dX7_hasOneOfAKind_44 rfl (by decide) (fun c_13 => ?_) (fun c_13 => ?_)
        · replace hf := it_f hf (by omega)
          refine q_iload_n dX7_hasOneOfAKind_49 rfl rfl ?_
          refine q_iload dX7_hasOneOfAKind_50 rfl rfl ?_
          refine q_ior dX7_hasOneOfAKind_52 rfl ?_
          obtain ⟨kinds_12, e_kinds_12, hf⟩ := nm_ex hf
          rw [← e_kinds_12]
          refine q_istore_n (ls' := [(2, 1), (0, hall_0), (0, kinds_12), (0, i_3), (0, kind_11)]) dX7_hasOneOfAKind_53 rfl rfl (Nat.le_of_ble_eq_true rfl) rfl ?_
          refine g_frg (ls' := [(2, 1), (0, hall_0), (0, kinds_12), (0, i_3), (3, 0)]) [4] rfl ?_
          exact J_K_7 _ _ hf
        · replace hf := it_t hf (by omega)
          refine q_iconst dX7_hasOneOfAKind_47 rfl rfl ?_
          exact g_breturn dX7_hasOneOfAKind_48 rfl (Or.inl rfl) hf
theorem S_X7_hasOneOfAKind (X : XS) (hall_0 : Int) (h : Mem) : CB X yX7_hasOneOfAKind MX7_hasOneOfAKind 0 [(2, 1), (0, hall_0)] h (F_X7_hasOneOfAKind hall_0 h) := by
  refine CB.of (by decide) rfl (Nat.le_of_ble_eq_true rfl) (fun r hf => ?_)
  unfold F_X7_hasOneOfAKind at hf
  show AJ X MX7_hasOneOfAKind (rmD 0) 0 [(2, 1), (0, hall_0), (3, 0), (3, 0), (3, 0)] [] h (PB r)
  refine q_iconst dX7_hasOneOfAKind_0 rfl rfl ?_
  refine q_istore_n (ls' := [(2, 1), (0, hall_0), (0, 0), (3, 0), (3, 0)]) dX7_hasOneOfAKind_1 rfl rfl (Nat.le_of_ble_eq_true rfl) rfl ?_
  refine q_iconst dX7_hasOneOfAKind_2 rfl rfl ?_
  refine q_istore_n (ls' := [(2, 1), (0, hall_0), (0, 0), (0, 0), (3, 0)]) dX7_hasOneOfAKind_3 rfl rfl (Nat.le_of_ble_eq_true rfl) rfl ?_
  refine SL_X7_hasOneOfAKind_1 X hall_0  _ (fun kinds_19 i_20 h_18 hf => ?_) FU _ _ _ hf
  refine q_iconst dX7_hasOneOfAKind_60 rfl rfl ?_
  exact g_breturn dX7_hasOneOfAKind_61 rfl (Or.inr rfl) hf
def F_X7_isHall (hall_0 all_0 : Int) (h : Mem) : Res := nm (iand all_0 (ixor hall_0 (-1))) (fun other_1 => nm (iand all_0 (w32 (-all_0))) (fun least_2 => if ((¬ (iand hall_0 (ixor all_0 (-1))) = 0) ∨ ((iand hall_0 least_2) = 0)) then (some (0, h)) else (bd (F_X10_bitCount hall_0 h) (fun r_3 (h_4 : Mem) => bd (F_X10_bitCount other_1 h_4) (fun r_6 (h_7 : Mem) => nm (w32 (r_3 - r_6)) (fun more_9 => jn (fun (K_10 : Mem → Res) => if ((-1) ≤ more_9) then (if (more_9 ≤ 1) then (bd (F_X7_hasOneOfAKind hall_0 h_7) (fun r_14 (h_15 : Mem) => if (¬ r_14 = 0) then (bd (F_X7_hasOneOfAKind other_1 h_15) (fun r_19 (h_20 : Mem) => if (¬ r_19 = 0) then (some (1, h_20)) else (K_10 h_20))) else (K_10 h_15))) else (K_10 h_7)) else (K_10 h_7)) (fun (h_11 : Mem) => some (0, h_11))))))))
theorem S_X7_isHall (X : XS) (hall_0 : Int) (all_0 : Int) (h : Mem) : CB X yX7_isHall MX7_isHall 1 [(2, 1), (0, hall_0), (0, all_0)] h (F_X7_isHall hall_0 all_0 h) := by
  refine CB.of (by decide) rfl (Nat.le_of_ble_eq_true rfl) (fun r hf => ?_)
  unfold F_X7_isHall at hf
  show AJ X MX7_isHall (rmD 1) 0 [(2, 1), (0, hall_0), (0, all_0), (3, 0), (3, 0), (3, 0)] [] h (PB r)
  refine q_iload_n dX7_isHall_0 rfl rfl ?_
  refine q_iload_n dX7_isHall_1 rfl rfl ?_
  refine q_iconst dX7_isHall_2 rfl rfl ?_
  refine q_ixor dX7_isHall_3 rfl ?_
  refine q_iand dX7_isHall_4 rfl ?_
  obtain ⟨other_1, e_other_1, hf⟩ := nm_ex hf
  rw [← e_other_1]
  refine q_istore_n (ls' := [(2, 1), (0, hall_0), (0, all_0), (0, other_1), (3, 0), (3, 0)]) dX7_isHall_5 rfl rfl (Nat.le_of_ble_eq_true rfl) rfl ?_
  refine q_iload_n dX7_isHall_6 rfl rfl ?_
  refine q_iload_n dX7_isHall_7 rfl rfl ?_
  refine q_ineg dX7_isHall_8 rfl ?_
  refine q_iand dX7_isHall_9 rfl ?_
  obtain ⟨least_2, e_least_2, hf⟩ := nm_ex hf
  rw [← e_least_2]
  refine q_istore (ls' := [(2, 1), (0, hall_0), (0, all_0), (0, other_1), (0, least_2), (3, 0)]) dX7_isHall_10 rfl (Nat.le_of_ble_eq_true rfl) rfl ?_
  have HT_24 : ((¬ (iand hall_0 (ixor all_0 (-1))) = 0) ∨ ((iand hall_0 least_2) = 0)) → AJ X MX7_isHall (rmD 1) 27 [(2, 1), (0, hall_0), (0, all_0), (0, other_1), (0, least_2), (3, 0)] [] h (PB r) := by
    intro hc
    replace hf := it_t hf hc
    refine q_iconst dX7_isHall_27 rfl rfl ?_
    exact g_breturn dX7_isHall_28 rfl (Or.inl rfl) hf
  refine q_iload_n dX7_isHall_12 rfl rfl ?_
  refine q_iload_n dX7_isHall_13 rfl rfl ?_
  refine q_iconst dX7_isHall_14 rfl rfl ?_
  refine q_ixor dX7_isHall_15 rfl ?_
  refine q_iand dX7_isHall_16 rfl ?_
  refine q_if_ne (tgt := 27) dX7_isHall_17 rfl (by decide) (fun c_25 => ?_) (fun c_25 => ?_)
  · exact HT_24 (by omega)
  · refine q_iload_n dX7_isHall_20 rfl rfl ?_
    refine q_iload dX7_isHall_21 rfl rfl ?_
    refine q_iand dX7_isHall_23 rfl ?_
    refine q_if_ne (tgt := 29) dX7_isHall_24 rfl (by decide) (fun c_26 => ?_) (fun c_26 => ?_)
    · replace hf := it_f hf (by omega)
      refine q_iload_n dX7_isHall_29 rfl rfl ?_
      obtain ⟨r_3, h_4, e_5, hf⟩ := bd_ex hf
      refine g_Si (vs := [(0, hall_0)]) (st := []) dX7_isHall_30 rfl (S_X10_bitCount X hall_0 h) e_5 mf_X10_bitCount ml_X7_325 rfl rfl rfl ?_
      refine q_iload_n dX7_isHall_33 rfl rfl ?_
      obtain ⟨r_6, h_7, e_8, hf⟩ := bd_ex hf
      refine g_Si (vs := [(0, other_1)]) (st := [(0, r_3)]) dX7_isHall_34 rfl (S_X10_bitCount X other_1 h_4) e_8 mf_X10_bitCount ml_X7_325 rfl rfl rfl ?_
      refine q_isub dX7_isHall_37 rfl ?_
      obtain ⟨more_9, e_more_9, hf⟩ := nm_ex hf
      rw [← e_more_9]
      refine q_istore (ls' := [(2, 1), (0, hall_0), (0, all_0), (0, other_1), (0, least_2), (0, more_9)]) dX7_isHall_38 rfl (Nat.le_of_ble_eq_true rfl) rfl ?_
      obtain ⟨K_10, J_K_10, hf⟩ := jn_ex (P := fun K => ∀ (h_11 : Mem), K h_11 = some r → AJ X MX7_isHall (rmD 1) 72 [(2, 1), (0, hall_0), (0, all_0), (0, other_1), (0, least_2), (0, more_9)] [] h_11 (PB r)) hf (by
          intro h_11 hf
          refine q_iconst dX7_isHall_72 rfl rfl ?_
          exact g_breturn dX7_isHall_73 rfl (Or.inl rfl) hf)
      refine q_iload dX7_isHall_40 rfl rfl ?_
      refine q_iconst dX7_isHall_42 rfl rfl ?_
      refine q_icmp_lt (tgt := 72) dX7_isHall_43 rfl (by decide) (fun c_12 => ?_) (fun c_12 => ?_)
      · replace hf := it_f hf (by omega)
        exact J_K_10 _ hf
      · replace hf := it_t hf (by omega)
        refine q_iload dX7_isHall_46 rfl rfl ?_
        refine q_iconst dX7_isHall_48 rfl rfl ?_
        refine q_icmp_gt (tgt := 72) dX7_isHall_49 rfl (by decide) (fun c_13 => ?_) (fun c_13 => ?_)
        · replace hf := it_f hf (by omega)
          exact J_K_10 _ hf
        · replace hf := it_t hf (by omega)
          refine q_aload_n dX7_isHall_52 rfl rfl ?_
          refine q_iload_n dX7_isHall_53 rfl rfl ?_
          obtain ⟨r_14, h_15, e_16, hf⟩ := bd_ex hf
          refine g_Vb (vs := [(0, hall_0)]) (st := []) dX7_isHall_54 rfl (S_X7_hasOneOfAKind X hall_0 h_7) e_16 mf_X7_hasOneOfAKind ml_X7_330 rfl rfl rfl rfl (fun b_17 => ?_)
          refine q_if_eq (tgt := 72) dX7_isHall_57 rfl (by decide) (fun c_18 => ?_) (fun c_18 => ?_)
          · replace hf := it_f hf (by omega)
            exact J_K_10 _ hf
          · replace hf := it_t hf (by omega)
            refine q_aload_n dX7_isHall_60 rfl rfl ?_
            refine q_iload_n dX7_isHall_61 rfl rfl ?_
            obtain ⟨r_19, h_20, e_21, hf⟩ := bd_ex hf
            refine g_Vb (vs := [(0, other_1)]) (st := []) dX7_isHall_62 rfl (S_X7_hasOneOfAKind X other_1 h_15) e_21 mf_X7_hasOneOfAKind ml_X7_330 rfl rfl rfl rfl (fun b_22 => ?_)
            refine q_if_eq (tgt := 72) dX7_isHall_65 rfl (by decide) (fun c_23 => ?_) (fun c_23 => ?_)
            · replace hf := it_f hf (by omega)
              exact J_K_10 _ hf
            · replace hf := it_t hf (by omega)
              refine q_iconst dX7_isHall_68 rfl rfl ?_
              refine q_goto (tgt := 73) dX7_isHall_69 rfl (by decide) ?_
              exact g_breturn dX7_isHall_73 rfl (Or.inr rfl) hf
    · exact HT_24 (by omega)
def L_X7_halves_1 (what_0 r_1 : Int) (Kx : Int → Int → Mem → Res) : Nat → Int → Int → Mem → Res
  | 0, _, _, _ => none
  | n + 1, best_5, hall_6, h_4 => if (hall_6 ≤ r_1) then (jn (fun (K_7 : Int → Mem → Res) => jn (fun (K_8 : Mem → Res) => jn (fun (K_10 : Mem → Res) => bd (F_X7_isHall hall_6 r_1 h_4) (fun r_12 (h_13 : Mem) => if (¬ r_12 = 0) then (if (best_5 = (-9)) then (K_8 h_13) else (bd (F_X7_apart hall_6 r_1 h_13) (fun r_18 (h_19 : Mem) => bd (F_X7_apart best_5 r_1 h_19) (fun r_21 (h_22 : Mem) => if (r_18 < r_21) then (K_8 h_22) else (K_10 h_22))))) else (K_10 h_13))) (fun (h_11 : Mem) => K_7 best_5 h_11)) (fun (h_9 : Mem) => K_7 hall_6 h_9)) (fun best_26 (h_25 : Mem) => nm (w32 (hall_6 + 1)) (fun hall_27 => L_X7_halves_1 what_0 r_1 Kx n best_26 hall_27 h_25))) else (Kx best_5 hall_6 h_4)
def F_X7_halves (what_0 : Int) (h : Mem) : Res := if ((what_0 < 0) ∨ (1 < what_0)) then (some ((-1), h)) else (if ((h 26 1) < 2) then (some ((-2), h)) else (bd (F_X1_bits 26 h) (fun r_1 (h_2 : Mem) => L_X7_halves_1 what_0 r_1 (fun best_30 hall_31 (h_29 : Mem) => if (best_30 = (-9)) then (some ((-9), h_29)) else (if (what_0 = 0) then (some (best_30, h_29)) else (bd (F_X7_apart best_30 r_1 h_29) (fun r_32 (h_33 : Mem) => some (r_32, h_33))))) FU (-9) 1 h_2)))
theorem SL_X7_halves_1 (X : XS) (what_0 r_1 : Int) (Kx : Int → Int → Mem → Res) {r : Int × Mem} (hK : ∀ (best_5 hall_6 : Int) (h_4 : Mem), Kx best_5 hall_6 h_4 = some r → AJ X MX7_halves (rmD 2) 86 [(2, 1), (0, what_0), (0, r_1), (0, best_5), (0, hall_6)] [] h_4 (PH 0 r)) :
    ∀ (n : Nat) (best_5 hall_6 : Int) (h_4 : Mem), L_X7_halves_1 what_0 r_1 Kx n best_5 hall_6 h_4 = some r → AJ X MX7_halves (rmD 2) 39 [(2, 1), (0, what_0), (0, r_1), (0, best_5), (0, hall_6)] [] h_4 (PH 0 r) := by
  intro n
  induction n with
  | zero => intro best_5 hall_6 h_4 hf; cases hf
  | succ n ih =>
    intro best_5 hall_6 h_4 hf
    rw [L_X7_halves_1] at hf
    refine q_iload dX7_halves_39 rfl rfl ?_
    refine q_iload_n dX7_halves_41 rfl rfl ?_
    refine q_icmp_gt (tgt := 86) dX7_halves_42 rfl (by decide) (fun c_28 => ?_) (fun c_28 => ?_)
    · replace hf := it_f hf (by omega)
      exact hK _ _ _ hf
    · replace hf := it_t hf (by omega)
      obtain ⟨K_7, J_K_7, hf⟩ := jn_ex (P := fun K => ∀ (best_26 : Int) (h_25 : Mem), K best_26 h_25 = some r → AJ X MX7_halves (rmD 2) 80 [(2, 1), (0, what_0), (0, r_1), (0, best_26), (0, hall_6)] [] h_25 (PH 0 r)) hf (by
          intro best_26 h_25 hf
          refine q_iinc (ls' := [(2, 1), (0, what_0), (0, r_1), (0, best_26), (0, w32 (hall_6 + 1))]) dX7_halves_80 rfl rfl rfl ?_
          obtain ⟨hall_27, e_hall_27, hf⟩ := nm_ex hf
          rw [← e_hall_27]
          refine q_goto (tgt := 39) dX7_halves_83 rfl (by decide) ?_
          exact ih _ _ _ hf)
      obtain ⟨K_8, J_K_8, hf⟩ := jn_ex (P := fun K => ∀ (h_9 : Mem), K h_9 = some r → AJ X MX7_halves (rmD 2) 77 [(2, 1), (0, what_0), (0, r_1), (0, best_5), (0, hall_6)] [] h_9 (PH 0 r)) hf (by
          intro h_9 hf
          refine q_iload dX7_halves_77 rfl rfl ?_
          refine q_istore_n (ls' := [(2, 1), (0, what_0), (0, r_1), (0, hall_6), (0, hall_6)]) dX7_halves_79 rfl rfl (Nat.le_of_ble_eq_true rfl) rfl ?_
          exact J_K_7 _ _ hf)
      obtain ⟨K_10, J_K_10, hf⟩ := jn_ex (P := fun K => ∀ (h_11 : Mem), K h_11 = some r → AJ X MX7_halves (rmD 2) 80 [(2, 1), (0, what_0), (0, r_1), (0, best_5), (0, hall_6)] [] h_11 (PH 0 r)) hf (by
          intro h_11 hf
          exact J_K_7 _ _ hf)
      refine q_aload_n dX7_halves_45 rfl rfl ?_
      refine q_iload dX7_halves_46 rfl rfl ?_
      refine q_iload_n dX7_halves_48 rfl rfl ?_
      obtain ⟨r_12, h_13, e_14, hf⟩ := bd_ex hf
      refine g_Vb (vs := [(0, hall_6), (0, r_1)]) (st := []) dX7_halves_49 rfl (S_X7_isHall X hall_6 r_1 h_4) e_14 mf_X7_isHall ml_X7_238 rfl rfl rfl rfl (fun b_15 => ?_)
      refine q_if_eq (tgt := 80) dX7_halves_52 rfl (by decide) (fun c_16 => ?_) (fun c_16 => ?_)
      · replace hf := it_f hf (by omega)
        exact J_K_10 _ hf
      · replace hf := it_t hf (by omega)
        refine q_iload_n dX7_halves_55 rfl rfl ?_
        refine q_bipush dX7_halves_56 rfl (by decide) ?_
        refine q_icmp_eq (tgt := 77) dX7_halves_58 rfl (by decide) (fun c_17 => ?_) (fun c_17 => ?_)
        · replace hf := it_t hf (by omega)
          exact J_K_8 _ hf
        · replace hf := it_f hf (by omega)
          refine q_aload_n dX7_halves_61 rfl rfl ?_
          refine q_iload dX7_halves_62 rfl rfl ?_
          refine q_iload_n dX7_halves_64 rfl rfl ?_
          obtain ⟨r_18, h_19, e_20, hf⟩ := bd_ex hf
          refine g_Vi (vs := [(0, hall_6), (0, r_1)]) (st := []) dX7_halves_65 rfl (S_X7_apart X hall_6 r_1 h_13) e_20 mf_X7_apart ml_X7_242 rfl rfl rfl rfl ?_
          refine q_aload_n dX7_halves_68 rfl rfl ?_
          refine q_iload_n dX7_halves_69 rfl rfl ?_
          refine q_iload_n dX7_halves_70 rfl rfl ?_
          obtain ⟨r_21, h_22, e_23, hf⟩ := bd_ex hf
          refine g_Vi (vs := [(0, best_5), (0, r_1)]) (st := [(0, r_18)]) dX7_halves_71 rfl (S_X7_apart X best_5 r_1 h_19) e_23 mf_X7_apart ml_X7_242 rfl rfl rfl rfl ?_
          refine q_icmp_ge (tgt := 80) dX7_halves_74 rfl (by decide) (fun c_24 => ?_) (fun c_24 => ?_)
          · replace hf := it_f hf (by omega)
            exact J_K_10 _ hf
          · replace hf := it_t hf (by omega)
            exact J_K_8 _ hf
theorem S_X7_halves (X : XS) (what_0 : Int) (h : Mem) : CT X yX7_halves MX7_halves (some .int) 0 2 [(2, 1), (0, what_0)] h (F_X7_halves what_0 h) := by
  refine CT.ofI (by decide) rfl (Nat.le_of_ble_eq_true rfl) (fun r hf => ?_)
  unfold F_X7_halves at hf
  show AJ X MX7_halves (rmD 2) 0 [(2, 1), (0, what_0), (3, 0), (3, 0), (3, 0)] [] h (PH 0 r)
  have HT_38 : ((what_0 < 0) ∨ (1 < what_0)) → AJ X MX7_halves (rmD 2) 9 [(2, 1), (0, what_0), (3, 0), (3, 0), (3, 0)] [] h (PH 0 r) := by
    intro hc
    replace hf := it_t hf hc
    refine q_iconst dX7_halves_9 rfl rfl ?_
    exact g_ireturn dX7_halves_10 rfl hf
  refine q_iload_n dX7_halves_0 rfl rfl ?_
  refine q_if_lt (tgt := 9) dX7_halves_1 rfl (by decide) (fun c_39 => ?_) (fun c_39 => ?_)
  · exact HT_38 (by omega)
  · refine q_iload_n dX7_halves_4 rfl rfl ?_
    refine q_iconst dX7_halves_5 rfl rfl ?_
    refine q_icmp_le (tgt := 11) dX7_halves_6 rfl (by decide) (fun c_40 => ?_) (fun c_40 => ?_)
    · replace hf := it_f hf (by omega)
      refine q_aload_n dX7_halves_11 rfl rfl ?_
      refine g_getF (k := 3) (o := 25) (z := 26) dX7_halves_12 rfl fg_X7_29 rfl rfl rfl ?_
      refine g_get (k := 1) (kz := 1) dX7_halves_15 rfl fg_X7_159 rfl rfl ?_
      refine q_iconst dX7_halves_18 rfl rfl ?_
      refine q_icmp_ge (tgt := 25) dX7_halves_19 rfl (by decide) (fun c_37 => ?_) (fun c_37 => ?_)
      · replace hf := it_f hf (by omega)
        refine q_aload_n dX7_halves_25 rfl rfl ?_
        refine g_getF (k := 3) (o := 25) (z := 26) dX7_halves_26 rfl fg_X7_29 rfl rfl rfl ?_
        obtain ⟨r_1, h_2, e_3, hf⟩ := bd_ex hf
        refine g_Vi (vs := []) (st := []) dX7_halves_29 rfl (S_X1_bits X 26 rfl h) e_3 mf_X1_bits ml_X7_235 rfl rfl rfl rfl ?_
        refine q_istore_n (ls' := [(2, 1), (0, what_0), (0, r_1), (3, 0), (3, 0)]) dX7_halves_32 rfl rfl (Nat.le_of_ble_eq_true rfl) rfl ?_
        refine q_bipush dX7_halves_33 rfl (by decide) ?_
        refine q_istore_n (ls' := [(2, 1), (0, what_0), (0, r_1), (0, (-9)), (3, 0)]) dX7_halves_35 rfl rfl (Nat.le_of_ble_eq_true rfl) rfl ?_
        refine q_iconst dX7_halves_36 rfl rfl ?_
        refine q_istore (ls' := [(2, 1), (0, what_0), (0, r_1), (0, (-9)), (0, 1)]) dX7_halves_37 rfl (Nat.le_of_ble_eq_true rfl) rfl ?_
        refine SL_X7_halves_1 X what_0 r_1  _ (fun best_30 hall_31 h_29 hf => ?_) FU _ _ _ hf
        refine q_iload_n dX7_halves_86 rfl rfl ?_
        refine q_bipush dX7_halves_87 rfl (by decide) ?_
        refine q_icmp_ne (tgt := 95) dX7_halves_89 rfl (by decide) (fun c_36 => ?_) (fun c_36 => ?_)
        · replace hf := it_f hf (by omega)
          refine q_iload_n dX7_halves_95 rfl rfl ?_
          refine q_if_ne (tgt := 103) dX7_halves_96 rfl (by decide) (fun c_35 => ?_) (fun c_35 => ?_)
          · replace hf := it_f hf (by omega)
            refine q_aload_n dX7_halves_103 rfl rfl ?_
            refine q_iload_n dX7_halves_104 rfl rfl ?_
            refine q_iload_n dX7_halves_105 rfl rfl ?_
            obtain ⟨r_32, h_33, e_34, hf⟩ := bd_ex hf
            refine g_Vi (vs := [(0, best_30), (0, r_1)]) (st := []) dX7_halves_106 rfl (S_X7_apart X best_30 r_1 h_29) e_34 mf_X7_apart ml_X7_242 rfl rfl rfl rfl ?_
            exact g_ireturn dX7_halves_109 rfl hf
          · replace hf := it_t hf (by omega)
            refine q_iload_n dX7_halves_99 rfl rfl ?_
            refine q_goto (tgt := 109) dX7_halves_100 rfl (by decide) ?_
            exact g_ireturn dX7_halves_109 rfl hf
        · replace hf := it_t hf (by omega)
          refine q_bipush dX7_halves_92 rfl (by decide) ?_
          exact g_ireturn dX7_halves_94 rfl hf
      · replace hf := it_t hf (by omega)
        refine q_bipush dX7_halves_22 rfl (by decide) ?_
        exact g_ireturn dX7_halves_24 rfl hf
    · exact HT_38 (by omega)
def L_X7_playWithGuest_2 (place_0 v_1 : Int) (Kx : Int → Mem → Res) : Nat → Int → Mem → Res
  | 0, _, _ => none
  | n + 1, p_29, h_28 => if (p_29 < (h_28 26 1)) then (nm (h_28 1 1) (fun cast_30 => gd (okO 2 cast_30 = true) (gd (0 ≤ p_29 ∧ p_29 < 9) (gd (0 ≤ (h_28 27 p_29) ∧ (h_28 27 p_29) < 9) (bd (F_X6_seat (w32 (p_29 + 1)) (cast_30 + 2 + (h_28 27 p_29)) h_28) (fun _ (h_35 : Mem) => bd (F_X6_applaud (w32 (p_29 + 1)) 0 h_35) (fun _ (h_38 : Mem) => nm (w32 (p_29 + 1)) (fun p_40 => L_X7_playWithGuest_2 place_0 v_1 Kx n p_40 h_38)))))))) else (Kx p_29 h_28)
def L_X7_playWithGuest_1 (place_0 v_1 : Int) (Kx : Int → Mem → Res) : Nat → Int → Mem → Res
  | 0, _, _ => none
  | n + 1, p_7, h_6 => if (p_7 < place_0) then (nm (h_6 1 1) (fun cast_8 => gd (okO 2 cast_8 = true) (gd (0 ≤ p_7 ∧ p_7 < 9) (gd (0 ≤ (h_6 27 p_7) ∧ (h_6 27 p_7) < 9) (bd (F_X6_seat p_7 (cast_8 + 2 + (h_6 27 p_7)) h_6) (fun _ (h_13 : Mem) => bd (F_X6_applaud p_7 0 h_13) (fun _ (h_16 : Mem) => nm (w32 (p_7 + 1)) (fun p_18 => L_X7_playWithGuest_1 place_0 v_1 Kx n p_18 h_16)))))))) else (Kx p_7 h_6)
def F_X7_playWithGuest (place_0 : Int) (h : Mem) : Res := nm (α := Int) (if (place_0 < (h 26 2)) then (w32 ((h 26 2) + 1)) else (h 26 2)) (fun v_1 => bd (F_X6_open (w32 ((h 26 1) + 1)) v_1 h) (fun _ (h_4 : Mem) => L_X7_playWithGuest_1 place_0 v_1 (fun p_21 (h_20 : Mem) => bd (F_X6_seat place_0 54 h_20) (fun _ (h_23 : Mem) => bd (F_X6_applaud place_0 0 h_23) (fun _ (h_26 : Mem) => L_X7_playWithGuest_2 place_0 v_1 (fun p_43 (h_42 : Mem) => some (0, h_42)) FU place_0 h_26))) FU 0 h_4))
theorem SL_X7_playWithGuest_2 (X : XS) (place_0 v_1 : Int) (Kx : Int → Mem → Res) {r : Int × Mem} (hK : ∀ (p_29 : Int) (h_28 : Mem), Kx p_29 h_28 = some r → AJ X MX7_playWithGuest (rmD 3) 173 [(2, 1), (0, place_0), (0, v_1), (0, p_29)] [] h_28 (PH 9 r)) :
    ∀ (n : Nat) (p_29 : Int) (h_28 : Mem), L_X7_playWithGuest_2 place_0 v_1 Kx n p_29 h_28 = some r → AJ X MX7_playWithGuest (rmD 3) 118 [(2, 1), (0, place_0), (0, v_1), (0, p_29)] [] h_28 (PH 9 r) := by
  intro n
  induction n with
  | zero => intro p_29 h_28 hf; cases hf
  | succ n ih =>
    intro p_29 h_28 hf
    rw [L_X7_playWithGuest_2] at hf
    refine q_iload_n dX7_playWithGuest_118 rfl rfl ?_
    refine q_aload_n dX7_playWithGuest_119 rfl rfl ?_
    refine g_getF (k := 3) (o := 25) (z := 26) dX7_playWithGuest_120 rfl fg_X7_29 rfl rfl rfl ?_
    refine g_get (k := 1) (kz := 1) dX7_playWithGuest_123 rfl fg_X7_159 rfl rfl ?_
    refine q_icmp_ge (tgt := 173) dX7_playWithGuest_126 rfl (by decide) (fun c_41 => ?_) (fun c_41 => ?_)
    · replace hf := it_f hf (by omega)
      exact hK _ _ hf
    · replace hf := it_t hf (by omega)
      refine q_aload_n dX7_playWithGuest_129 rfl rfl ?_
      refine g_getF (k := 5) (o := 32) (z := 33) dX7_playWithGuest_130 rfl fg_X7_40 rfl rfl rfl ?_
      refine q_iload_n dX7_playWithGuest_133 rfl rfl ?_
      refine q_iconst dX7_playWithGuest_134 rfl rfl ?_
      refine q_iadd dX7_playWithGuest_135 rfl ?_
      refine q_aload_n dX7_playWithGuest_136 rfl rfl ?_
      refine g_get (k := 1) (kz := 1) dX7_playWithGuest_137 rfl fg_X7_19 rfl rfl ?_
      obtain ⟨cast_30, e_cast_30, hf⟩ := nm_ex hf
      rw [← e_cast_30]
      obtain ⟨o_cast_31, hf⟩ := gd_ex hf
      refine g_getF (k := 0) (o := 1) (z := (cast_30 + 1)) dX7_playWithGuest_140 rfl fg_X7_110 rfl o_cast_31 rfl ?_
      refine q_aload_n dX7_playWithGuest_143 rfl rfl ?_
      refine g_getF (k := 3) (o := 25) (z := 26) dX7_playWithGuest_144 rfl fg_X7_29 rfl rfl rfl ?_
      refine g_getF (k := 0) (o := 1) (z := 27) dX7_playWithGuest_147 rfl fg_X7_168 rfl rfl rfl ?_
      refine q_iload_n dX7_playWithGuest_150 rfl rfl ?_
      obtain ⟨g_32, hf⟩ := gd_ex hf
      refine q_iaload dX7_playWithGuest_151 rfl rfl g_32 ?_
      obtain ⟨g_33, hf⟩ := gd_ex hf
      refine q_aaloadF (z := (cast_30 + 2 + (h_28 27 p_29))) dX7_playWithGuest_152 rfl (sf_2_0 o_cast_31) (by decide) g_33 rfl (by omega) ?_
      obtain ⟨r_34, h_35, e_36, hf⟩ := bd_ex hf
      refine g_Vv (vs := [(0, w32 (p_29 + 1)), (2, (cast_30 + 2 + (h_28 27 p_29)))]) (st := []) dX7_playWithGuest_153 rfl (S_X6_seat X (w32 (p_29 + 1)) (cast_30 + 2 + (h_28 27 p_29)) (ok_mem o_cast_31 g_33) h_28) e_36 mf_X6_seat ml_X7_279 rfl rfl rfl rfl ?_
      refine q_aload_n dX7_playWithGuest_156 rfl rfl ?_
      refine g_getF (k := 5) (o := 32) (z := 33) dX7_playWithGuest_157 rfl fg_X7_40 rfl rfl rfl ?_
      refine q_iload_n dX7_playWithGuest_160 rfl rfl ?_
      refine q_iconst dX7_playWithGuest_161 rfl rfl ?_
      refine q_iadd dX7_playWithGuest_162 rfl ?_
      refine q_iconst dX7_playWithGuest_163 rfl rfl ?_
      obtain ⟨r_37, h_38, e_39, hf⟩ := bd_ex hf
      refine g_Vv (vs := [(0, w32 (p_29 + 1)), (0, 0)]) (st := []) dX7_playWithGuest_164 rfl (S_X6_applaud X (w32 (p_29 + 1)) 0 h_35) e_39 mf_X6_applaud ml_X7_286 rfl rfl rfl rfl ?_
      refine q_iinc (ls' := [(2, 1), (0, place_0), (0, v_1), (0, w32 (p_29 + 1))]) dX7_playWithGuest_167 rfl rfl rfl ?_
      obtain ⟨p_40, e_p_40, hf⟩ := nm_ex hf
      rw [← e_p_40]
      refine q_goto (tgt := 118) dX7_playWithGuest_170 rfl (by decide) ?_
      exact ih _ _ hf
theorem SL_X7_playWithGuest_1 (X : XS) (place_0 v_1 : Int) (Kx : Int → Mem → Res) {r : Int × Mem} (hK : ∀ (p_7 : Int) (h_6 : Mem), Kx p_7 h_6 = some r → AJ X MX7_playWithGuest (rmD 3) 95 [(2, 1), (0, place_0), (0, v_1), (0, p_7)] [] h_6 (PH 9 r)) :
    ∀ (n : Nat) (p_7 : Int) (h_6 : Mem), L_X7_playWithGuest_1 place_0 v_1 Kx n p_7 h_6 = some r → AJ X MX7_playWithGuest (rmD 3) 50 [(2, 1), (0, place_0), (0, v_1), (0, p_7)] [] h_6 (PH 9 r) := by
  intro n
  induction n with
  | zero => intro p_7 h_6 hf; cases hf
  | succ n ih =>
    intro p_7 h_6 hf
    rw [L_X7_playWithGuest_1] at hf
    refine q_iload_n dX7_playWithGuest_50 rfl rfl ?_
    refine q_iload_n dX7_playWithGuest_51 rfl rfl ?_
    refine q_icmp_ge (tgt := 95) dX7_playWithGuest_52 rfl (by decide) (fun c_19 => ?_) (fun c_19 => ?_)
    · replace hf := it_f hf (by omega)
      exact hK _ _ hf
    · replace hf := it_t hf (by omega)
      refine q_aload_n dX7_playWithGuest_55 rfl rfl ?_
      refine g_getF (k := 5) (o := 32) (z := 33) dX7_playWithGuest_56 rfl fg_X7_40 rfl rfl rfl ?_
      refine q_iload_n dX7_playWithGuest_59 rfl rfl ?_
      refine q_aload_n dX7_playWithGuest_60 rfl rfl ?_
      refine g_get (k := 1) (kz := 1) dX7_playWithGuest_61 rfl fg_X7_19 rfl rfl ?_
      obtain ⟨cast_8, e_cast_8, hf⟩ := nm_ex hf
      rw [← e_cast_8]
      obtain ⟨o_cast_9, hf⟩ := gd_ex hf
      refine g_getF (k := 0) (o := 1) (z := (cast_8 + 1)) dX7_playWithGuest_64 rfl fg_X7_110 rfl o_cast_9 rfl ?_
      refine q_aload_n dX7_playWithGuest_67 rfl rfl ?_
      refine g_getF (k := 3) (o := 25) (z := 26) dX7_playWithGuest_68 rfl fg_X7_29 rfl rfl rfl ?_
      refine g_getF (k := 0) (o := 1) (z := 27) dX7_playWithGuest_71 rfl fg_X7_168 rfl rfl rfl ?_
      refine q_iload_n dX7_playWithGuest_74 rfl rfl ?_
      obtain ⟨g_10, hf⟩ := gd_ex hf
      refine q_iaload dX7_playWithGuest_75 rfl rfl g_10 ?_
      obtain ⟨g_11, hf⟩ := gd_ex hf
      refine q_aaloadF (z := (cast_8 + 2 + (h_6 27 p_7))) dX7_playWithGuest_76 rfl (sf_2_0 o_cast_9) (by decide) g_11 rfl (by omega) ?_
      obtain ⟨r_12, h_13, e_14, hf⟩ := bd_ex hf
      refine g_Vv (vs := [(0, p_7), (2, (cast_8 + 2 + (h_6 27 p_7)))]) (st := []) dX7_playWithGuest_77 rfl (S_X6_seat X p_7 (cast_8 + 2 + (h_6 27 p_7)) (ok_mem o_cast_9 g_11) h_6) e_14 mf_X6_seat ml_X7_279 rfl rfl rfl rfl ?_
      refine q_aload_n dX7_playWithGuest_80 rfl rfl ?_
      refine g_getF (k := 5) (o := 32) (z := 33) dX7_playWithGuest_81 rfl fg_X7_40 rfl rfl rfl ?_
      refine q_iload_n dX7_playWithGuest_84 rfl rfl ?_
      refine q_iconst dX7_playWithGuest_85 rfl rfl ?_
      obtain ⟨r_15, h_16, e_17, hf⟩ := bd_ex hf
      refine g_Vv (vs := [(0, p_7), (0, 0)]) (st := []) dX7_playWithGuest_86 rfl (S_X6_applaud X p_7 0 h_13) e_17 mf_X6_applaud ml_X7_286 rfl rfl rfl rfl ?_
      refine q_iinc (ls' := [(2, 1), (0, place_0), (0, v_1), (0, w32 (p_7 + 1))]) dX7_playWithGuest_89 rfl rfl rfl ?_
      obtain ⟨p_18, e_p_18, hf⟩ := nm_ex hf
      rw [← e_p_18]
      refine q_goto (tgt := 50) dX7_playWithGuest_92 rfl (by decide) ?_
      exact ih _ _ hf
theorem S_X7_playWithGuest (X : XS) (place_0 : Int) (h : Mem) : CT X yX7_playWithGuest MX7_playWithGuest none 9 3 [(2, 1), (0, place_0)] h (F_X7_playWithGuest place_0 h) := by
  refine CT.ofV (by decide) rfl (Nat.le_of_ble_eq_true rfl) (fun r hf => ?_)
  unfold F_X7_playWithGuest at hf
  show AJ X MX7_playWithGuest (rmD 3) 0 [(2, 1), (0, place_0), (3, 0), (3, 0)] [] h (PH 9 r)
  obtain ⟨v_1, e_v_1, hf⟩ := nm_ex hf
  have J_v_1 : AJ X MX7_playWithGuest (rmD 3) 30 [(2, 1), (0, place_0), (3, 0), (3, 0)] [(0, v_1)] h (PH 9 r) := by
    refine q_istore_n (ls' := [(2, 1), (0, place_0), (0, v_1), (3, 0)]) dX7_playWithGuest_30 rfl rfl (Nat.le_of_ble_eq_true rfl) rfl ?_
    refine q_aload_n dX7_playWithGuest_31 rfl rfl ?_
    refine g_getF (k := 5) (o := 32) (z := 33) dX7_playWithGuest_32 rfl fg_X7_40 rfl rfl rfl ?_
    refine q_aload_n dX7_playWithGuest_35 rfl rfl ?_
    refine g_getF (k := 3) (o := 25) (z := 26) dX7_playWithGuest_36 rfl fg_X7_29 rfl rfl rfl ?_
    refine g_get (k := 1) (kz := 1) dX7_playWithGuest_39 rfl fg_X7_159 rfl rfl ?_
    refine q_iconst dX7_playWithGuest_42 rfl rfl ?_
    refine q_iadd dX7_playWithGuest_43 rfl ?_
    refine q_iload_n dX7_playWithGuest_44 rfl rfl ?_
    obtain ⟨r_3, h_4, e_5, hf⟩ := bd_ex hf
    refine g_Vv (vs := [(0, w32 ((h 26 1) + 1)), (0, v_1)]) (st := []) dX7_playWithGuest_45 rfl (S_X6_open X (w32 ((h 26 1) + 1)) v_1 h) e_5 mf_X6_open ml_X7_276 rfl rfl rfl rfl ?_
    refine q_iconst dX7_playWithGuest_48 rfl rfl ?_
    refine q_istore_n (ls' := [(2, 1), (0, place_0), (0, v_1), (0, 0)]) dX7_playWithGuest_49 rfl rfl (Nat.le_of_ble_eq_true rfl) rfl ?_
    refine SL_X7_playWithGuest_1 X place_0 v_1  _ (fun p_21 h_20 hf => ?_) FU _ _ hf
    refine q_aload_n dX7_playWithGuest_95 rfl rfl ?_
    refine g_getF (k := 5) (o := 32) (z := 33) dX7_playWithGuest_96 rfl fg_X7_40 rfl rfl rfl ?_
    refine q_iload_n dX7_playWithGuest_99 rfl rfl ?_
    refine q_aload_n dX7_playWithGuest_100 rfl rfl ?_
    refine g_getF (k := 9) (o := 53) (z := 54) dX7_playWithGuest_101 rfl fg_X7_66 rfl rfl rfl ?_
    obtain ⟨r_22, h_23, e_24, hf⟩ := bd_ex hf
    refine g_Vv (vs := [(0, place_0), (2, 54)]) (st := []) dX7_playWithGuest_104 rfl (S_X6_seat X place_0 54 rfl h_20) e_24 mf_X6_seat ml_X7_279 rfl rfl rfl rfl ?_
    refine q_aload_n dX7_playWithGuest_107 rfl rfl ?_
    refine g_getF (k := 5) (o := 32) (z := 33) dX7_playWithGuest_108 rfl fg_X7_40 rfl rfl rfl ?_
    refine q_iload_n dX7_playWithGuest_111 rfl rfl ?_
    refine q_iconst dX7_playWithGuest_112 rfl rfl ?_
    obtain ⟨r_25, h_26, e_27, hf⟩ := bd_ex hf
    refine g_Vv (vs := [(0, place_0), (0, 0)]) (st := []) dX7_playWithGuest_113 rfl (S_X6_applaud X place_0 0 h_23) e_27 mf_X6_applaud ml_X7_286 rfl rfl rfl rfl ?_
    refine q_iload_n dX7_playWithGuest_116 rfl rfl ?_
    refine q_istore_n (ls' := [(2, 1), (0, place_0), (0, v_1), (0, place_0)]) dX7_playWithGuest_117 rfl rfl (Nat.le_of_ble_eq_true rfl) rfl ?_
    refine SL_X7_playWithGuest_2 X place_0 v_1  _ (fun p_43 h_42 hf => ?_) FU _ _ hf
    exact g_return dX7_playWithGuest_173 rfl hf
  clear hf
  refine q_aload_n dX7_playWithGuest_0 rfl rfl ?_
  refine g_getF (k := 3) (o := 25) (z := 26) dX7_playWithGuest_1 rfl fg_X7_29 rfl rfl rfl ?_
  refine g_get (k := 2) (kz := 2) dX7_playWithGuest_4 rfl fg_X7_162 rfl rfl ?_
  refine q_iload_n dX7_playWithGuest_7 rfl rfl ?_
  refine q_icmp_le (tgt := 23) dX7_playWithGuest_8 rfl (by decide) (fun c_2 => ?_) (fun c_2 => ?_)
  · refine q_aload_n dX7_playWithGuest_23 rfl rfl ?_
    refine g_getF (k := 3) (o := 25) (z := 26) dX7_playWithGuest_24 rfl fg_X7_29 rfl rfl rfl ?_
    refine g_get (k := 2) (kz := 2) dX7_playWithGuest_27 rfl fg_X7_162 rfl rfl ?_
    have e1 : v_1 = h 26 2 := by omega
    subst e1
    exact J_v_1
  · refine q_aload_n dX7_playWithGuest_11 rfl rfl ?_
    refine g_getF (k := 3) (o := 25) (z := 26) dX7_playWithGuest_12 rfl fg_X7_29 rfl rfl rfl ?_
    refine g_get (k := 2) (kz := 2) dX7_playWithGuest_15 rfl fg_X7_162 rfl rfl ?_
    refine q_iconst dX7_playWithGuest_18 rfl rfl ?_
    refine q_iadd dX7_playWithGuest_19 rfl ?_
    refine q_goto (tgt := 30) dX7_playWithGuest_20 rfl (by decide) ?_
    have e1 : v_1 = w32 ((h 26 2) + 1) := by omega
    subst e1
    exact J_v_1
def L_X7_tryout_1 (kind_0 minutes_0 strength_0 what_0 : Int) (Kx : Int → Int → Int → Mem → Res) : Nat → Int → Int → Int → Mem → Res
  | 0, _, _, _, _ => none
  | n + 1, best_5, most_6, p_7, h_4 => if (p_7 ≤ (h_4 26 1)) then (bd (F_X7_playWithGuest p_7 h_4) (fun _ (h_9 : Mem) => jn (fun (K_11 : Int → Int → Mem → Res) => jn (fun (K_12 : Mem → Res) => jn (fun (K_17 : Mem → Res) => bd (F_X6_isStaged  h_9) (fun r_19 (h_20 : Mem) => if (¬ r_19 = 0) then (if (best_5 = (-9)) then (K_12 h_20) else (bd (F_X6_total  h_20) (fun r_25 (h_26 : Mem) => if (most_6 < r_25) then (K_12 h_26) else (K_17 h_26)))) else (K_17 h_20))) (fun (h_18 : Mem) => K_11 best_5 most_6 h_18)) (fun (h_13 : Mem) => bd (F_X6_total  h_13) (fun r_14 (h_15 : Mem) => K_11 p_7 r_14 h_15))) (fun best_30 most_31 (h_29 : Mem) => nm (w32 (p_7 + 1)) (fun p_32 => L_X7_tryout_1 kind_0 minutes_0 strength_0 what_0 Kx n best_30 most_31 p_32 h_29)))) else (Kx best_5 most_6 p_7 h_4)
def F_X7_tryout (kind_0 minutes_0 strength_0 what_0 : Int) (h : Mem) : Res := if ((((kind_0 < 0) ∨ (5 < kind_0)) ∨ (minutes_0 < 1)) ∨ (30 < minutes_0)) then (some ((-1), h)) else (if ((((strength_0 < 0) ∨ (30 < strength_0)) ∨ (what_0 < 0)) ∨ (1 < what_0)) then (some ((-1), h)) else (nm (wr h 54 1 kind_0) (fun (h_1 : Mem) => nm (wr h_1 54 2 minutes_0) (fun (h_2 : Mem) => nm (wr h_2 54 3 strength_0) (fun (h_3 : Mem) => L_X7_tryout_1 kind_0 minutes_0 strength_0 what_0 (fun best_35 most_36 p_37 (h_34 : Mem) => if ((best_35 = (-9)) ∨ (what_0 = 0)) then (some (best_35, h_34)) else (some (most_36, h_34))) FU (-9) 0 0 h_3)))))
theorem SL_X7_tryout_1 (X : XS) (kind_0 minutes_0 strength_0 what_0 : Int) (Kx : Int → Int → Int → Mem → Res) {r : Int × Mem} (hK : ∀ (best_5 most_6 p_7 : Int) (h_4 : Mem), Kx best_5 most_6 p_7 h_4 = some r → AJ X MX7_tryout (rmD 4) 145 [(2, 1), (0, kind_0), (0, minutes_0), (0, strength_0), (0, what_0), (0, best_5), (0, most_6), (0, p_7)] [] h_4 (PH 0 r)) :
    ∀ (n : Nat) (best_5 most_6 p_7 : Int) (h_4 : Mem), L_X7_tryout_1 kind_0 minutes_0 strength_0 what_0 Kx n best_5 most_6 p_7 h_4 = some r → AJ X MX7_tryout (rmD 4) 79 [(2, 1), (0, kind_0), (0, minutes_0), (0, strength_0), (0, what_0), (0, best_5), (0, most_6), (0, p_7)] [] h_4 (PH 0 r) := by
  intro n
  induction n with
  | zero => intro best_5 most_6 p_7 h_4 hf; cases hf
  | succ n ih =>
    intro best_5 most_6 p_7 h_4 hf
    rw [L_X7_tryout_1] at hf
    refine q_iload dX7_tryout_79 rfl rfl ?_
    refine q_aload_n dX7_tryout_81 rfl rfl ?_
    refine g_getF (k := 3) (o := 25) (z := 26) dX7_tryout_82 rfl fg_X7_29 rfl rfl rfl ?_
    refine g_get (k := 1) (kz := 1) dX7_tryout_85 rfl fg_X7_159 rfl rfl ?_
    refine q_icmp_gt (tgt := 145) dX7_tryout_88 rfl (by decide) (fun c_33 => ?_) (fun c_33 => ?_)
    · replace hf := it_f hf (by omega)
      exact hK _ _ _ _ hf
    · replace hf := it_t hf (by omega)
      refine q_aload_n dX7_tryout_91 rfl rfl ?_
      refine q_iload dX7_tryout_92 rfl rfl ?_
      obtain ⟨r_8, h_9, e_10, hf⟩ := bd_ex hf
      refine g_Vv (vs := [(0, p_7)]) (st := []) dX7_tryout_94 rfl (S_X7_playWithGuest X p_7 h_4) e_10 mf_X7_playWithGuest ml_X7_246 rfl rfl rfl rfl ?_
      obtain ⟨K_11, J_K_11, hf⟩ := jn_ex (P := fun K => ∀ (best_30 most_31 : Int) (h_29 : Mem), K best_30 most_31 h_29 = some r → AJ X MX7_tryout (rmD 4) 139 [(2, 1), (0, kind_0), (0, minutes_0), (0, strength_0), (0, what_0), (0, best_30), (0, most_31), (0, p_7)] [] h_29 (PH 0 r)) hf (by
          intro best_30 most_31 h_29 hf
          refine q_iinc (ls' := [(2, 1), (0, kind_0), (0, minutes_0), (0, strength_0), (0, what_0), (0, best_30), (0, most_31), (0, w32 (p_7 + 1))]) dX7_tryout_139 rfl rfl rfl ?_
          obtain ⟨p_32, e_p_32, hf⟩ := nm_ex hf
          rw [← e_p_32]
          refine q_goto (tgt := 79) dX7_tryout_142 rfl (by decide) ?_
          exact ih _ _ _ _ hf)
      obtain ⟨K_12, J_K_12, hf⟩ := jn_ex (P := fun K => ∀ (h_13 : Mem), K h_13 = some r → AJ X MX7_tryout (rmD 4) 126 [(2, 1), (0, kind_0), (0, minutes_0), (0, strength_0), (0, what_0), (0, best_5), (0, most_6), (0, p_7)] [] h_13 (PH 0 r)) hf (by
          intro h_13 hf
          refine q_iload dX7_tryout_126 rfl rfl ?_
          refine q_istore (ls' := [(2, 1), (0, kind_0), (0, minutes_0), (0, strength_0), (0, what_0), (0, p_7), (0, most_6), (0, p_7)]) dX7_tryout_128 rfl (Nat.le_of_ble_eq_true rfl) rfl ?_
          refine q_aload_n dX7_tryout_130 rfl rfl ?_
          refine g_getF (k := 5) (o := 32) (z := 33) dX7_tryout_131 rfl fg_X7_40 rfl rfl rfl ?_
          obtain ⟨r_14, h_15, e_16, hf⟩ := bd_ex hf
          refine g_Vi (vs := []) (st := []) dX7_tryout_134 rfl (S_X6_total X  h_13) e_16 mf_X6_total ml_X7_199 rfl rfl rfl rfl ?_
          refine q_istore (ls' := [(2, 1), (0, kind_0), (0, minutes_0), (0, strength_0), (0, what_0), (0, p_7), (0, r_14), (0, p_7)]) dX7_tryout_137 rfl (Nat.le_of_ble_eq_true rfl) rfl ?_
          exact J_K_11 _ _ _ hf)
      obtain ⟨K_17, J_K_17, hf⟩ := jn_ex (P := fun K => ∀ (h_18 : Mem), K h_18 = some r → AJ X MX7_tryout (rmD 4) 139 [(2, 1), (0, kind_0), (0, minutes_0), (0, strength_0), (0, what_0), (0, best_5), (0, most_6), (0, p_7)] [] h_18 (PH 0 r)) hf (by
          intro h_18 hf
          exact J_K_11 _ _ _ hf)
      refine q_aload_n dX7_tryout_97 rfl rfl ?_
      refine g_getF (k := 5) (o := 32) (z := 33) dX7_tryout_98 rfl fg_X7_40 rfl rfl rfl ?_
      obtain ⟨r_19, h_20, e_21, hf⟩ := bd_ex hf
      refine g_Vb (vs := []) (st := []) dX7_tryout_101 rfl (S_X6_isStaged X  h_9) e_21 mf_X6_isStaged ml_X7_224 rfl rfl rfl rfl (fun b_22 => ?_)
      refine q_if_eq (tgt := 139) dX7_tryout_104 rfl (by decide) (fun c_23 => ?_) (fun c_23 => ?_)
      · replace hf := it_f hf (by omega)
        exact J_K_17 _ hf
      · replace hf := it_t hf (by omega)
        refine q_iload dX7_tryout_107 rfl rfl ?_
        refine q_bipush dX7_tryout_109 rfl (by decide) ?_
        refine q_icmp_eq (tgt := 126) dX7_tryout_111 rfl (by decide) (fun c_24 => ?_) (fun c_24 => ?_)
        · replace hf := it_t hf (by omega)
          exact J_K_12 _ hf
        · replace hf := it_f hf (by omega)
          refine q_aload_n dX7_tryout_114 rfl rfl ?_
          refine g_getF (k := 5) (o := 32) (z := 33) dX7_tryout_115 rfl fg_X7_40 rfl rfl rfl ?_
          obtain ⟨r_25, h_26, e_27, hf⟩ := bd_ex hf
          refine g_Vi (vs := []) (st := []) dX7_tryout_118 rfl (S_X6_total X  h_20) e_27 mf_X6_total ml_X7_199 rfl rfl rfl rfl ?_
          refine q_iload dX7_tryout_121 rfl rfl ?_
          refine q_icmp_le (tgt := 139) dX7_tryout_123 rfl (by decide) (fun c_28 => ?_) (fun c_28 => ?_)
          · replace hf := it_f hf (by omega)
            exact J_K_17 _ hf
          · replace hf := it_t hf (by omega)
            exact J_K_12 _ hf
theorem S_X7_tryout (X : XS) (kind_0 : Int) (minutes_0 : Int) (strength_0 : Int) (what_0 : Int) (h : Mem) : CT X yX7_tryout MX7_tryout (some .int) 0 4 [(2, 1), (0, kind_0), (0, minutes_0), (0, strength_0), (0, what_0)] h (F_X7_tryout kind_0 minutes_0 strength_0 what_0 h) := by
  refine CT.ofI (by decide) rfl (Nat.le_of_ble_eq_true rfl) (fun r hf => ?_)
  unfold F_X7_tryout at hf
  show AJ X MX7_tryout (rmD 4) 0 [(2, 1), (0, kind_0), (0, minutes_0), (0, strength_0), (0, what_0), (3, 0), (3, 0), (3, 0)] [] h (PH 0 r)
  have HT_46 : ((((kind_0 < 0) ∨ (5 < kind_0)) ∨ (minutes_0 < 1)) ∨ (30 < minutes_0)) → AJ X MX7_tryout (rmD 4) 20 [(2, 1), (0, kind_0), (0, minutes_0), (0, strength_0), (0, what_0), (3, 0), (3, 0), (3, 0)] [] h (PH 0 r) := by
    intro hc
    replace hf := it_t hf hc
    refine q_iconst dX7_tryout_20 rfl rfl ?_
    exact g_ireturn dX7_tryout_21 rfl hf
  refine q_iload_n dX7_tryout_0 rfl rfl ?_
  refine q_if_lt (tgt := 20) dX7_tryout_1 rfl (by decide) (fun c_47 => ?_) (fun c_47 => ?_)
  · exact HT_46 (by omega)
  · refine q_iload_n dX7_tryout_4 rfl rfl ?_
    refine q_iconst dX7_tryout_5 rfl rfl ?_
    refine q_icmp_gt (tgt := 20) dX7_tryout_6 rfl (by decide) (fun c_48 => ?_) (fun c_48 => ?_)
    · exact HT_46 (by omega)
    · refine q_iload_n dX7_tryout_9 rfl rfl ?_
      refine q_iconst dX7_tryout_10 rfl rfl ?_
      refine q_icmp_lt (tgt := 20) dX7_tryout_11 rfl (by decide) (fun c_49 => ?_) (fun c_49 => ?_)
      · exact HT_46 (by omega)
      · refine q_iload_n dX7_tryout_14 rfl rfl ?_
        refine q_bipush dX7_tryout_15 rfl (by decide) ?_
        refine q_icmp_le (tgt := 22) dX7_tryout_17 rfl (by decide) (fun c_50 => ?_) (fun c_50 => ?_)
        · replace hf := it_f hf (by omega)
          have HT_41 : ((((strength_0 < 0) ∨ (30 < strength_0)) ∨ (what_0 < 0)) ∨ (1 < what_0)) → AJ X MX7_tryout (rmD 4) 43 [(2, 1), (0, kind_0), (0, minutes_0), (0, strength_0), (0, what_0), (3, 0), (3, 0), (3, 0)] [] h (PH 0 r) := by
            intro hc
            replace hf := it_t hf hc
            refine q_iconst dX7_tryout_43 rfl rfl ?_
            exact g_ireturn dX7_tryout_44 rfl hf
          refine q_iload_n dX7_tryout_22 rfl rfl ?_
          refine q_if_lt (tgt := 43) dX7_tryout_23 rfl (by decide) (fun c_42 => ?_) (fun c_42 => ?_)
          · exact HT_41 (by omega)
          · refine q_iload_n dX7_tryout_26 rfl rfl ?_
            refine q_bipush dX7_tryout_27 rfl (by decide) ?_
            refine q_icmp_gt (tgt := 43) dX7_tryout_29 rfl (by decide) (fun c_43 => ?_) (fun c_43 => ?_)
            · exact HT_41 (by omega)
            · refine q_iload dX7_tryout_32 rfl rfl ?_
              refine q_if_lt (tgt := 43) dX7_tryout_34 rfl (by decide) (fun c_44 => ?_) (fun c_44 => ?_)
              · exact HT_41 (by omega)
              · refine q_iload dX7_tryout_37 rfl rfl ?_
                refine q_iconst dX7_tryout_39 rfl rfl ?_
                refine q_icmp_le (tgt := 45) dX7_tryout_40 rfl (by decide) (fun c_45 => ?_) (fun c_45 => ?_)
                · replace hf := it_f hf (by omega)
                  refine q_aload_n dX7_tryout_45 rfl rfl ?_
                  refine g_getF (k := 9) (o := 53) (z := 54) dX7_tryout_46 rfl fg_X7_66 rfl rfl rfl ?_
                  refine q_iload_n dX7_tryout_49 rfl rfl ?_
                  refine g_put (k := 1) (kz := 1) dX7_tryout_50 rfl fp_X7_114 rfl (fun q => q.1 rfl) rfl ?_
                  obtain ⟨h_1, e_h_1, hf⟩ := nm_ex hf
                  rw [← e_h_1]
                  refine q_aload_n dX7_tryout_53 rfl rfl ?_
                  refine g_getF (k := 9) (o := 53) (z := 54) dX7_tryout_54 rfl fg_X7_66 rfl rfl rfl ?_
                  refine q_iload_n dX7_tryout_57 rfl rfl ?_
                  refine g_put (k := 2) (kz := 2) dX7_tryout_58 rfl fp_X7_117 rfl (fun q => q.1 rfl) rfl ?_
                  obtain ⟨h_2, e_h_2, hf⟩ := nm_ex hf
                  rw [← e_h_2]
                  refine q_aload_n dX7_tryout_61 rfl rfl ?_
                  refine g_getF (k := 9) (o := 53) (z := 54) dX7_tryout_62 rfl fg_X7_66 rfl rfl rfl ?_
                  refine q_iload_n dX7_tryout_65 rfl rfl ?_
                  refine g_put (k := 3) (kz := 3) dX7_tryout_66 rfl fp_X7_120 rfl (fun q => q.1 rfl) rfl ?_
                  obtain ⟨h_3, e_h_3, hf⟩ := nm_ex hf
                  rw [← e_h_3]
                  refine q_bipush dX7_tryout_69 rfl (by decide) ?_
                  refine q_istore (ls' := [(2, 1), (0, kind_0), (0, minutes_0), (0, strength_0), (0, what_0), (0, (-9)), (3, 0), (3, 0)]) dX7_tryout_71 rfl (Nat.le_of_ble_eq_true rfl) rfl ?_
                  refine q_iconst dX7_tryout_73 rfl rfl ?_
                  refine q_istore (ls' := [(2, 1), (0, kind_0), (0, minutes_0), (0, strength_0), (0, what_0), (0, (-9)), (0, 0), (3, 0)]) dX7_tryout_74 rfl (Nat.le_of_ble_eq_true rfl) rfl ?_
                  refine q_iconst dX7_tryout_76 rfl rfl ?_
                  refine q_istore (ls' := [(2, 1), (0, kind_0), (0, minutes_0), (0, strength_0), (0, what_0), (0, (-9)), (0, 0), (0, 0)]) dX7_tryout_77 rfl (Nat.le_of_ble_eq_true rfl) rfl ?_
                  refine SL_X7_tryout_1 X kind_0 minutes_0 strength_0 what_0  _ (fun best_35 most_36 p_37 h_34 hf => ?_) FU _ _ _ _ hf
                  have HT_38 : ((best_35 = (-9)) ∨ (what_0 = 0)) → AJ X MX7_tryout (rmD 4) 157 [(2, 1), (0, kind_0), (0, minutes_0), (0, strength_0), (0, what_0), (0, best_35), (0, most_36), (0, p_37)] [] h_34 (PH 0 r) := by
                    intro hc
                    replace hf := it_t hf hc
                    refine q_iload dX7_tryout_157 rfl rfl ?_
                    refine q_goto (tgt := 164) dX7_tryout_159 rfl (by decide) ?_
                    exact g_ireturn dX7_tryout_164 rfl hf
                  refine q_iload dX7_tryout_145 rfl rfl ?_
                  refine q_bipush dX7_tryout_147 rfl (by decide) ?_
                  refine q_icmp_eq (tgt := 157) dX7_tryout_149 rfl (by decide) (fun c_39 => ?_) (fun c_39 => ?_)
                  · exact HT_38 (by omega)
                  · refine q_iload dX7_tryout_152 rfl rfl ?_
                    refine q_if_ne (tgt := 162) dX7_tryout_154 rfl (by decide) (fun c_40 => ?_) (fun c_40 => ?_)
                    · replace hf := it_f hf (by omega)
                      refine q_iload dX7_tryout_162 rfl rfl ?_
                      exact g_ireturn dX7_tryout_164 rfl hf
                    · exact HT_38 (by omega)
                · exact HT_41 (by omega)
        · exact HT_46 (by omega)
def F_X7_mark (i_0 p_0 claps_0 : Int) (h : Mem) : Res := jn (fun (K_1 : Mem → Res) => bd (F_X7_isAct i_0 h) (fun r_3 (h_4 : Mem) => if (¬ r_3 = 0) then (if (p_0 < 0) then (K_1 h_4) else (if (9 ≤ p_0) then (K_1 h_4) else (if (claps_0 < 0) then (K_1 h_4) else (if (99 < claps_0) then (K_1 h_4) else (if (60 ≤ (h_4 51 2)) then (some ((-3), h_4)) else (bd (F_X3_append i_0 p_0 claps_0 h_4) (fun _ (h_13 : Mem) => some (h_13 51 2, h_13)))))))) else (K_1 h_4))) (fun (h_2 : Mem) => some ((-1), h_2))
theorem S_X7_mark (X : XS) (i_0 : Int) (p_0 : Int) (claps_0 : Int) (h : Mem) : CT X yX7_mark MX7_mark (some .int) 0 1 [(2, 1), (0, i_0), (0, p_0), (0, claps_0)] h (F_X7_mark i_0 p_0 claps_0 h) := by
  refine CT.ofI (by decide) rfl (Nat.le_of_ble_eq_true rfl) (fun r hf => ?_)
  unfold F_X7_mark at hf
  show AJ X MX7_mark (rmD 1) 0 [(2, 1), (0, i_0), (0, p_0), (0, claps_0)] [] h (PH 0 r)
  obtain ⟨K_1, J_K_1, hf⟩ := jn_ex (P := fun K => ∀ (h_2 : Mem), K h_2 = some r → AJ X MX7_mark (rmD 1) 28 [(2, 1), (0, i_0), (0, p_0), (0, claps_0)] [] h_2 (PH 0 r)) hf (by
      intro h_2 hf
      refine q_iconst dX7_mark_28 rfl rfl ?_
      exact g_ireturn dX7_mark_29 rfl hf)
  refine q_aload_n dX7_mark_0 rfl rfl ?_
  refine q_iload_n dX7_mark_1 rfl rfl ?_
  obtain ⟨r_3, h_4, e_5, hf⟩ := bd_ex hf
  refine g_Vb (vs := [(0, i_0)]) (st := []) dX7_mark_2 rfl (S_X7_isAct X i_0 h) e_5 mf_X7_isAct ml_X7_106 rfl rfl rfl rfl (fun b_6 => ?_)
  refine q_if_eq (tgt := 28) dX7_mark_5 rfl (by decide) (fun c_7 => ?_) (fun c_7 => ?_)
  · replace hf := it_f hf (by omega)
    exact J_K_1 _ hf
  · replace hf := it_t hf (by omega)
    refine q_iload_n dX7_mark_8 rfl rfl ?_
    refine q_if_lt (tgt := 28) dX7_mark_9 rfl (by decide) (fun c_8 => ?_) (fun c_8 => ?_)
    · replace hf := it_t hf (by omega)
      exact J_K_1 _ hf
    · replace hf := it_f hf (by omega)
      refine q_iload_n dX7_mark_12 rfl rfl ?_
      refine q_bipush dX7_mark_13 rfl (by decide) ?_
      refine q_icmp_ge (tgt := 28) dX7_mark_15 rfl (by decide) (fun c_9 => ?_) (fun c_9 => ?_)
      · replace hf := it_t hf (by omega)
        exact J_K_1 _ hf
      · replace hf := it_f hf (by omega)
        refine q_iload_n dX7_mark_18 rfl rfl ?_
        refine q_if_lt (tgt := 28) dX7_mark_19 rfl (by decide) (fun c_10 => ?_) (fun c_10 => ?_)
        · replace hf := it_t hf (by omega)
          exact J_K_1 _ hf
        · replace hf := it_f hf (by omega)
          refine q_iload_n dX7_mark_22 rfl rfl ?_
          refine q_bipush dX7_mark_23 rfl (by decide) ?_
          refine q_icmp_le (tgt := 30) dX7_mark_25 rfl (by decide) (fun c_11 => ?_) (fun c_11 => ?_)
          · replace hf := it_f hf (by omega)
            refine q_aload_n dX7_mark_30 rfl rfl ?_
            refine g_getF (k := 8) (o := 50) (z := 51) dX7_mark_31 rfl fg_X7_57 rfl rfl rfl ?_
            refine g_get (k := 2) (kz := 2) dX7_mark_34 rfl fg_X7_249 rfl rfl ?_
            refine q_bipush dX7_mark_37 rfl (by decide) ?_
            refine q_icmp_lt (tgt := 45) dX7_mark_39 rfl (by decide) (fun c_15 => ?_) (fun c_15 => ?_)
            · replace hf := it_f hf (by omega)
              refine q_aload_n dX7_mark_45 rfl rfl ?_
              refine g_getF (k := 8) (o := 50) (z := 51) dX7_mark_46 rfl fg_X7_57 rfl rfl rfl ?_
              refine q_iload_n dX7_mark_49 rfl rfl ?_
              refine q_iload_n dX7_mark_50 rfl rfl ?_
              refine q_iload_n dX7_mark_51 rfl rfl ?_
              obtain ⟨r_12, h_13, e_14, hf⟩ := bd_ex hf
              refine g_Vv (vs := [(0, i_0), (0, p_0), (0, claps_0)]) (st := []) dX7_mark_52 rfl (S_X3_append X i_0 p_0 claps_0 h_4) e_14 mf_X3_append ml_X7_250 rfl rfl rfl rfl ?_
              refine q_aload_n dX7_mark_55 rfl rfl ?_
              refine g_getF (k := 8) (o := 50) (z := 51) dX7_mark_56 rfl fg_X7_57 rfl rfl rfl ?_
              refine g_get (k := 2) (kz := 2) dX7_mark_59 rfl fg_X7_249 rfl rfl ?_
              exact g_ireturn dX7_mark_62 rfl hf
            · replace hf := it_t hf (by omega)
              refine q_bipush dX7_mark_42 rfl (by decide) ?_
              exact g_ireturn dX7_mark_44 rfl hf
          · replace hf := it_t hf (by omega)
            exact J_K_1 _ hf
def F_X7_parted (i_0 what_0 : Int) (h : Mem) : Res := jn (fun (K_1 : Mem → Res) => bd (F_X7_isAct i_0 h) (fun r_3 (h_4 : Mem) => if (¬ r_3 = 0) then (if (what_0 < 0) then (K_1 h_4) else (if (1 < what_0) then (K_1 h_4) else (bd (F_X3_timesOf i_0 h_4) (fun r_10 (h_11 : Mem) => if (r_10 = 0) then (K_1 h_11) else (bd (F_X3_part i_0 h_11) (fun _ (h_15 : Mem) => nm (α := Int) (if (what_0 = 0) then (h_15 51 3) else (h_15 51 4)) (fun v_17 => some (w32 v_17, h_15)))))))) else (K_1 h_4))) (fun (h_2 : Mem) => some ((-1000000), h_2))
theorem S_X7_parted (X : XS) (i_0 : Int) (what_0 : Int) (h : Mem) : CT X yX7_parted MX7_parted (some .int) 0 4 [(2, 1), (0, i_0), (0, what_0)] h (F_X7_parted i_0 what_0 h) := by
  refine CT.ofI (by decide) rfl (Nat.le_of_ble_eq_true rfl) (fun r hf => ?_)
  unfold F_X7_parted at hf
  show AJ X MX7_parted (rmD 4) 0 [(2, 1), (0, i_0), (0, what_0)] [] h (PH 0 r)
  obtain ⟨K_1, J_K_1, hf⟩ := jn_ex (P := fun K => ∀ (h_2 : Mem), K h_2 = some r → AJ X MX7_parted (rmD 4) 28 [(2, 1), (0, i_0), (0, what_0)] [] h_2 (PH 0 r)) hf (by
      intro h_2 hf
      refine q_ldcw (z := (-1000000)) dX7_parted_28 rfl kc_X7_256 (by decide +kernel) ?_
      exact g_ireturn dX7_parted_31 rfl hf)
  refine q_aload_n dX7_parted_0 rfl rfl ?_
  refine q_iload_n dX7_parted_1 rfl rfl ?_
  obtain ⟨r_3, h_4, e_5, hf⟩ := bd_ex hf
  refine g_Vb (vs := [(0, i_0)]) (st := []) dX7_parted_2 rfl (S_X7_isAct X i_0 h) e_5 mf_X7_isAct ml_X7_106 rfl rfl rfl rfl (fun b_6 => ?_)
  refine q_if_eq (tgt := 28) dX7_parted_5 rfl (by decide) (fun c_7 => ?_) (fun c_7 => ?_)
  · replace hf := it_f hf (by omega)
    exact J_K_1 _ hf
  · replace hf := it_t hf (by omega)
    refine q_iload_n dX7_parted_8 rfl rfl ?_
    refine q_if_lt (tgt := 28) dX7_parted_9 rfl (by decide) (fun c_8 => ?_) (fun c_8 => ?_)
    · replace hf := it_t hf (by omega)
      exact J_K_1 _ hf
    · replace hf := it_f hf (by omega)
      refine q_iload_n dX7_parted_12 rfl rfl ?_
      refine q_iconst dX7_parted_13 rfl rfl ?_
      refine q_icmp_gt (tgt := 28) dX7_parted_14 rfl (by decide) (fun c_9 => ?_) (fun c_9 => ?_)
      · replace hf := it_t hf (by omega)
        exact J_K_1 _ hf
      · replace hf := it_f hf (by omega)
        refine q_aload_n dX7_parted_17 rfl rfl ?_
        refine g_getF (k := 8) (o := 50) (z := 51) dX7_parted_18 rfl fg_X7_57 rfl rfl rfl ?_
        refine q_iload_n dX7_parted_21 rfl rfl ?_
        obtain ⟨r_10, h_11, e_12, hf⟩ := bd_ex hf
        refine g_Vi (vs := [(0, i_0)]) (st := []) dX7_parted_22 rfl (S_X3_timesOf X i_0 h_4) e_12 mf_X3_timesOf ml_X7_253 rfl rfl rfl rfl ?_
        refine q_if_ne (tgt := 32) dX7_parted_25 rfl (by decide) (fun c_13 => ?_) (fun c_13 => ?_)
        · replace hf := it_f hf (by omega)
          refine q_aload_n dX7_parted_32 rfl rfl ?_
          refine g_getF (k := 8) (o := 50) (z := 51) dX7_parted_33 rfl fg_X7_57 rfl rfl rfl ?_
          refine q_iload_n dX7_parted_36 rfl rfl ?_
          obtain ⟨r_14, h_15, e_16, hf⟩ := bd_ex hf
          refine g_Vv (vs := [(0, i_0)]) (st := []) dX7_parted_37 rfl (S_X3_part X i_0 h_11) e_16 mf_X3_part ml_X7_257 rfl rfl rfl rfl ?_
          obtain ⟨v_17, e_v_17, hf⟩ := nm_ex hf
          have J_v_17 : AJ X MX7_parted (rmD 4) 61 [(2, 1), (0, i_0), (0, what_0)] [(1, v_17)] h_15 (PH 0 r) := by
            refine q_l2i dX7_parted_61 rfl ?_
            exact g_ireturn dX7_parted_62 rfl hf
          clear hf
          refine q_iload_n dX7_parted_40 rfl rfl ?_
          refine q_if_ne (tgt := 54) dX7_parted_41 rfl (by decide) (fun c_18 => ?_) (fun c_18 => ?_)
          · refine q_aload_n dX7_parted_54 rfl rfl ?_
            refine g_getF (k := 8) (o := 50) (z := 51) dX7_parted_55 rfl fg_X7_57 rfl rfl rfl ?_
            refine g_get (k := 4) (kz := 4) dX7_parted_58 rfl fg_X7_263 rfl rfl ?_
            have e1 : v_17 = h_15 51 4 := by omega
            subst e1
            exact J_v_17
          · refine q_aload_n dX7_parted_44 rfl rfl ?_
            refine g_getF (k := 8) (o := 50) (z := 51) dX7_parted_45 rfl fg_X7_57 rfl rfl rfl ?_
            refine g_get (k := 3) (kz := 3) dX7_parted_48 rfl fg_X7_260 rfl rfl ?_
            refine q_goto (tgt := 61) dX7_parted_51 rfl (by decide) ?_
            have e1 : v_17 = h_15 51 3 := by omega
            subst e1
            exact J_v_17
        · replace hf := it_t hf (by omega)
          exact J_K_1 _ hf
def F_X7_opensAhead (i_0 j_0 : Int) (h : Mem) : Res := gd (0 ≤ (w32 (i_0 * 9)) ∧ (w32 (i_0 * 9)) < 81) (gd (0 ≤ (w32 (j_0 * 9)) ∧ (w32 (j_0 * 9)) < 81) (nm (w32 ((h 52 (w32 (i_0 * 9))) - (h 52 (w32 (j_0 * 9))))) (fun fewer_3 => if (¬ fewer_3 = 0) then (if (fewer_3 < 0) then (some (1, h)) else (some (0, h))) else (nm (h 1 1) (fun cast_5 => gd (okO 2 cast_5 = true) (gd (0 ≤ i_0 ∧ i_0 < 9) (nm (h 1 1) (fun cast_8 => gd (okO 2 cast_8 = true) (gd (0 ≤ j_0 ∧ j_0 < 9) (if ((h (cast_5 + 2 + i_0) 3) < (h (cast_8 + 2 + j_0) 3)) then (some (1, h)) else (some (0, h))))))))))))
theorem S_X7_opensAhead (X : XS) (i_0 : Int) (j_0 : Int) (h : Mem) : CB X yX7_opensAhead MX7_opensAhead 0 [(2, 1), (0, i_0), (0, j_0)] h (F_X7_opensAhead i_0 j_0 h) := by
  refine CB.of (by decide) rfl (Nat.le_of_ble_eq_true rfl) (fun r hf => ?_)
  unfold F_X7_opensAhead at hf
  show AJ X MX7_opensAhead (rmD 0) 0 [(2, 1), (0, i_0), (0, j_0), (3, 0)] [] h (PB r)
  refine q_aload_n dX7_opensAhead_0 rfl rfl ?_
  refine g_getF (k := 8) (o := 50) (z := 51) dX7_opensAhead_1 rfl fg_X7_57 rfl rfl rfl ?_
  refine g_getF (k := 0) (o := 1) (z := 52) dX7_opensAhead_4 rfl fg_X7_338 rfl rfl rfl ?_
  refine q_iload_n dX7_opensAhead_7 rfl rfl ?_
  refine q_bipush dX7_opensAhead_8 rfl (by decide) ?_
  refine q_imul dX7_opensAhead_10 rfl ?_
  obtain ⟨g_1, hf⟩ := gd_ex hf
  refine q_iaload dX7_opensAhead_11 rfl rfl g_1 ?_
  refine q_aload_n dX7_opensAhead_12 rfl rfl ?_
  refine g_getF (k := 8) (o := 50) (z := 51) dX7_opensAhead_13 rfl fg_X7_57 rfl rfl rfl ?_
  refine g_getF (k := 0) (o := 1) (z := 52) dX7_opensAhead_16 rfl fg_X7_338 rfl rfl rfl ?_
  refine q_iload_n dX7_opensAhead_19 rfl rfl ?_
  refine q_bipush dX7_opensAhead_20 rfl (by decide) ?_
  refine q_imul dX7_opensAhead_22 rfl ?_
  obtain ⟨g_2, hf⟩ := gd_ex hf
  refine q_iaload dX7_opensAhead_23 rfl rfl g_2 ?_
  refine q_isub dX7_opensAhead_24 rfl ?_
  obtain ⟨fewer_3, e_fewer_3, hf⟩ := nm_ex hf
  rw [← e_fewer_3]
  refine q_istore_n (ls' := [(2, 1), (0, i_0), (0, j_0), (0, fewer_3)]) dX7_opensAhead_25 rfl rfl (Nat.le_of_ble_eq_true rfl) rfl ?_
  refine q_iload_n dX7_opensAhead_26 rfl rfl ?_
  refine q_if_eq (tgt := 40) dX7_opensAhead_27 rfl (by decide) (fun c_12 => ?_) (fun c_12 => ?_)
  · replace hf := it_f hf (by omega)
    refine q_aload_n dX7_opensAhead_40 rfl rfl ?_
    refine g_get (k := 1) (kz := 1) dX7_opensAhead_41 rfl fg_X7_19 rfl rfl ?_
    obtain ⟨cast_5, e_cast_5, hf⟩ := nm_ex hf
    rw [← e_cast_5]
    obtain ⟨o_cast_6, hf⟩ := gd_ex hf
    refine g_getF (k := 0) (o := 1) (z := (cast_5 + 1)) dX7_opensAhead_44 rfl fg_X7_110 rfl o_cast_6 rfl ?_
    refine q_iload_n dX7_opensAhead_47 rfl rfl ?_
    obtain ⟨g_7, hf⟩ := gd_ex hf
    refine q_aaloadF (z := (cast_5 + 2 + i_0)) dX7_opensAhead_48 rfl (sf_2_0 o_cast_6) (by decide) g_7 rfl (by omega) ?_
    refine g_get (k := 3) (kz := 3) dX7_opensAhead_49 rfl fg_X7_120 rfl (ok_mem o_cast_6 g_7) ?_
    refine q_aload_n dX7_opensAhead_52 rfl rfl ?_
    refine g_get (k := 1) (kz := 1) dX7_opensAhead_53 rfl fg_X7_19 rfl rfl ?_
    obtain ⟨cast_8, e_cast_8, hf⟩ := nm_ex hf
    rw [← e_cast_8]
    obtain ⟨o_cast_9, hf⟩ := gd_ex hf
    refine g_getF (k := 0) (o := 1) (z := (cast_8 + 1)) dX7_opensAhead_56 rfl fg_X7_110 rfl o_cast_9 rfl ?_
    refine q_iload_n dX7_opensAhead_59 rfl rfl ?_
    obtain ⟨g_10, hf⟩ := gd_ex hf
    refine q_aaloadF (z := (cast_8 + 2 + j_0)) dX7_opensAhead_60 rfl (sf_2_0 o_cast_9) (by decide) g_10 rfl (by omega) ?_
    refine g_get (k := 3) (kz := 3) dX7_opensAhead_61 rfl fg_X7_120 rfl (ok_mem o_cast_9 g_10) ?_
    refine q_icmp_ge (tgt := 71) dX7_opensAhead_64 rfl (by decide) (fun c_11 => ?_) (fun c_11 => ?_)
    · replace hf := it_f hf (by omega)
      refine q_iconst dX7_opensAhead_71 rfl rfl ?_
      exact g_breturn dX7_opensAhead_72 rfl (Or.inl rfl) hf
    · replace hf := it_t hf (by omega)
      refine q_iconst dX7_opensAhead_67 rfl rfl ?_
      refine q_goto (tgt := 72) dX7_opensAhead_68 rfl (by decide) ?_
      exact g_breturn dX7_opensAhead_72 rfl (Or.inr rfl) hf
  · replace hf := it_t hf (by omega)
    refine q_iload_n dX7_opensAhead_30 rfl rfl ?_
    refine q_if_ge (tgt := 38) dX7_opensAhead_31 rfl (by decide) (fun c_4 => ?_) (fun c_4 => ?_)
    · replace hf := it_f hf (by omega)
      refine q_iconst dX7_opensAhead_38 rfl rfl ?_
      exact g_breturn dX7_opensAhead_39 rfl (Or.inl rfl) hf
    · replace hf := it_t hf (by omega)
      refine q_iconst dX7_opensAhead_34 rfl rfl ?_
      refine q_goto (tgt := 39) dX7_opensAhead_35 rfl (by decide) ?_
      exact g_breturn dX7_opensAhead_39 rfl (Or.inr rfl) hf
def L_X7_opener_1 (Kx : Int → Int → Mem → Res) : Nat → Int → Int → Mem → Res
  | 0, _, _, _ => none
  | n + 1, best_2, i_3, h_1 => nm (h_1 1 1) (fun cast_4 => gd (okO 2 cast_4 = true) (if (i_3 < (h_1 cast_4 1)) then (jn (fun (K_7 : Int → Mem → Res) => jn (fun (K_8 : Mem → Res) => if (best_2 = (-9)) then (K_8 h_1) else (bd (F_X7_opensAhead i_3 best_2 h_1) (fun r_11 (h_12 : Mem) => if (¬ r_11 = 0) then (K_8 h_12) else (K_7 best_2 h_12)))) (fun (h_9 : Mem) => K_7 i_3 h_9)) (fun best_17 (h_16 : Mem) => nm (w32 (i_3 + 1)) (fun i_18 => L_X7_opener_1 Kx n best_17 i_18 h_16))) else (Kx best_2 i_3 h_1)))
def F_X7_opener (h : Mem) : Res := L_X7_opener_1 (fun best_20 i_21 (h_19 : Mem) => some (best_20, h_19)) FU (-9) 0 h
theorem SL_X7_opener_1 (X : XS) (Kx : Int → Int → Mem → Res) {r : Int × Mem} (hK : ∀ (best_2 i_3 : Int) (h_1 : Mem), Kx best_2 i_3 h_1 = some r → AJ X MX7_opener (rmD 1) 39 [(2, 1), (0, best_2), (0, i_3)] [] h_1 (PH 0 r)) :
    ∀ (n : Nat) (best_2 i_3 : Int) (h_1 : Mem), L_X7_opener_1 Kx n best_2 i_3 h_1 = some r → AJ X MX7_opener (rmD 1) 5 [(2, 1), (0, best_2), (0, i_3)] [] h_1 (PH 0 r) := by
  intro n
  induction n with
  | zero => intro best_2 i_3 h_1 hf; cases hf
  | succ n ih =>
    intro best_2 i_3 h_1 hf
    rw [L_X7_opener_1] at hf
    refine q_iload_n dX7_opener_5 rfl rfl ?_
    refine q_aload_n dX7_opener_6 rfl rfl ?_
    refine g_get (k := 1) (kz := 1) dX7_opener_7 rfl fg_X7_19 rfl rfl ?_
    obtain ⟨cast_4, e_cast_4, hf⟩ := nm_ex hf
    rw [← e_cast_4]
    obtain ⟨o_cast_5, hf⟩ := gd_ex hf
    refine g_get (k := 1) (kz := 1) dX7_opener_10 rfl fg_X7_266 rfl o_cast_5 ?_
    refine q_icmp_ge (tgt := 39) dX7_opener_13 rfl (by decide) (fun c_6 => ?_) (fun c_6 => ?_)
    · replace hf := it_f hf (by omega)
      exact hK _ _ _ hf
    · replace hf := it_t hf (by omega)
      obtain ⟨K_7, J_K_7, hf⟩ := jn_ex (P := fun K => ∀ (best_17 : Int) (h_16 : Mem), K best_17 h_16 = some r → AJ X MX7_opener (rmD 1) 33 [(2, 1), (0, best_17), (0, i_3)] [] h_16 (PH 0 r)) hf (by
          intro best_17 h_16 hf
          refine q_iinc (ls' := [(2, 1), (0, best_17), (0, w32 (i_3 + 1))]) dX7_opener_33 rfl rfl rfl ?_
          obtain ⟨i_18, e_i_18, hf⟩ := nm_ex hf
          rw [← e_i_18]
          refine q_goto (tgt := 5) dX7_opener_36 rfl (by decide) ?_
          exact ih _ _ _ hf)
      obtain ⟨K_8, J_K_8, hf⟩ := jn_ex (P := fun K => ∀ (h_9 : Mem), K h_9 = some r → AJ X MX7_opener (rmD 1) 31 [(2, 1), (0, best_2), (0, i_3)] [] h_9 (PH 0 r)) hf (by
          intro h_9 hf
          refine q_iload_n dX7_opener_31 rfl rfl ?_
          refine q_istore_n (ls' := [(2, 1), (0, i_3), (0, i_3)]) dX7_opener_32 rfl rfl (Nat.le_of_ble_eq_true rfl) rfl ?_
          exact J_K_7 _ _ hf)
      refine q_iload_n dX7_opener_16 rfl rfl ?_
      refine q_bipush dX7_opener_17 rfl (by decide) ?_
      refine q_icmp_eq (tgt := 31) dX7_opener_19 rfl (by decide) (fun c_10 => ?_) (fun c_10 => ?_)
      · replace hf := it_t hf (by omega)
        exact J_K_8 _ hf
      · replace hf := it_f hf (by omega)
        refine q_aload_n dX7_opener_22 rfl rfl ?_
        refine q_iload_n dX7_opener_23 rfl rfl ?_
        refine q_iload_n dX7_opener_24 rfl rfl ?_
        obtain ⟨r_11, h_12, e_13, hf⟩ := bd_ex hf
        refine g_Vb (vs := [(0, i_3), (0, best_2)]) (st := []) dX7_opener_25 rfl (S_X7_opensAhead X i_3 best_2 h_1) e_13 mf_X7_opensAhead ml_X7_267 rfl rfl rfl rfl (fun b_14 => ?_)
        refine q_if_eq (tgt := 33) dX7_opener_28 rfl (by decide) (fun c_15 => ?_) (fun c_15 => ?_)
        · replace hf := it_f hf (by omega)
          exact J_K_7 _ _ hf
        · replace hf := it_t hf (by omega)
          exact J_K_8 _ hf
theorem S_X7_opener (X : XS) (h : Mem) : CT X yX7_opener MX7_opener (some .int) 0 1 [(2, 1)] h (F_X7_opener h) := by
  refine CT.ofI (by decide) rfl (Nat.le_of_ble_eq_true rfl) (fun r hf => ?_)
  unfold F_X7_opener at hf
  show AJ X MX7_opener (rmD 1) 0 [(2, 1), (3, 0), (3, 0)] [] h (PH 0 r)
  refine q_bipush dX7_opener_0 rfl (by decide) ?_
  refine q_istore_n (ls' := [(2, 1), (0, (-9)), (3, 0)]) dX7_opener_2 rfl rfl (Nat.le_of_ble_eq_true rfl) rfl ?_
  refine q_iconst dX7_opener_3 rfl rfl ?_
  refine q_istore_n (ls' := [(2, 1), (0, (-9)), (0, 0)]) dX7_opener_4 rfl rfl (Nat.le_of_ble_eq_true rfl) rfl ?_
  refine SL_X7_opener_1 X   _ (fun best_20 i_21 h_19 hf => ?_) FU _ _ _ hf
  refine q_iload_n dX7_opener_39 rfl rfl ?_
  exact g_ireturn dX7_opener_40 rfl hf
def F_X7_holdsLess (i_0 j_0 : Int) (h : Mem) : Res := nm (h 1 1) (fun cast_1 => gd (okO 2 cast_1 = true) (gd (0 ≤ i_0 ∧ i_0 < 9) (nm ((cast_1 + 2 + i_0)) (fun one_4 => nm (h 1 1) (fun cast_5 => gd (okO 2 cast_5 = true) (gd (0 ≤ j_0 ∧ j_0 < 9) (nm ((cast_5 + 2 + j_0)) (fun other_8 => if ((w32 ((h one_4 9) * (h other_8 2))) < (w32 ((h other_8 9) * (h one_4 2)))) then (some (1, h)) else (some (0, h))))))))))
theorem S_X7_holdsLess (X : XS) (i_0 : Int) (j_0 : Int) (h : Mem) : CB X yX7_holdsLess MX7_holdsLess 0 [(2, 1), (0, i_0), (0, j_0)] h (F_X7_holdsLess i_0 j_0 h) := by
  refine CB.of (by decide) rfl (Nat.le_of_ble_eq_true rfl) (fun r hf => ?_)
  unfold F_X7_holdsLess at hf
  show AJ X MX7_holdsLess (rmD 0) 0 [(2, 1), (0, i_0), (0, j_0), (3, 0), (3, 0)] [] h (PB r)
  refine q_aload_n dX7_holdsLess_0 rfl rfl ?_
  refine g_get (k := 1) (kz := 1) dX7_holdsLess_1 rfl fg_X7_19 rfl rfl ?_
  obtain ⟨cast_1, e_cast_1, hf⟩ := nm_ex hf
  rw [← e_cast_1]
  obtain ⟨o_cast_2, hf⟩ := gd_ex hf
  refine g_getF (k := 0) (o := 1) (z := (cast_1 + 1)) dX7_holdsLess_4 rfl fg_X7_110 rfl o_cast_2 rfl ?_
  refine q_iload_n dX7_holdsLess_7 rfl rfl ?_
  obtain ⟨g_3, hf⟩ := gd_ex hf
  refine q_aaloadF (z := (cast_1 + 2 + i_0)) dX7_holdsLess_8 rfl (sf_2_0 o_cast_2) (by decide) g_3 rfl (by omega) ?_
  obtain ⟨one_4, e_one_4, hf⟩ := nm_ex hf
  rw [← e_one_4]
  have o_one_4 : okO 0 one_4 = true := by rw [e_one_4]; exact (ok_mem o_cast_2 g_3)
  refine q_astore_n (ls' := [(2, 1), (0, i_0), (0, j_0), (2, one_4), (3, 0)]) dX7_holdsLess_9 rfl rfl (okO_ne o_one_4) (Nat.le_of_ble_eq_true rfl) rfl ?_
  refine q_aload_n dX7_holdsLess_10 rfl rfl ?_
  refine g_get (k := 1) (kz := 1) dX7_holdsLess_11 rfl fg_X7_19 rfl rfl ?_
  obtain ⟨cast_5, e_cast_5, hf⟩ := nm_ex hf
  rw [← e_cast_5]
  obtain ⟨o_cast_6, hf⟩ := gd_ex hf
  refine g_getF (k := 0) (o := 1) (z := (cast_5 + 1)) dX7_holdsLess_14 rfl fg_X7_110 rfl o_cast_6 rfl ?_
  refine q_iload_n dX7_holdsLess_17 rfl rfl ?_
  obtain ⟨g_7, hf⟩ := gd_ex hf
  refine q_aaloadF (z := (cast_5 + 2 + j_0)) dX7_holdsLess_18 rfl (sf_2_0 o_cast_6) (by decide) g_7 rfl (by omega) ?_
  obtain ⟨other_8, e_other_8, hf⟩ := nm_ex hf
  rw [← e_other_8]
  have o_other_8 : okO 0 other_8 = true := by rw [e_other_8]; exact (ok_mem o_cast_6 g_7)
  refine q_astore (ls' := [(2, 1), (0, i_0), (0, j_0), (2, one_4), (2, other_8)]) dX7_holdsLess_19 rfl (okO_ne o_other_8) (Nat.le_of_ble_eq_true rfl) rfl ?_
  refine q_aload_n dX7_holdsLess_21 rfl rfl ?_
  refine g_get (k := 9) (kz := 9) dX7_holdsLess_22 rfl fg_X7_138 rfl o_one_4 ?_
  refine q_aload dX7_holdsLess_25 rfl rfl ?_
  refine g_get (k := 2) (kz := 2) dX7_holdsLess_27 rfl fg_X7_117 rfl o_other_8 ?_
  refine q_imul dX7_holdsLess_30 rfl ?_
  refine q_aload dX7_holdsLess_31 rfl rfl ?_
  refine g_get (k := 9) (kz := 9) dX7_holdsLess_33 rfl fg_X7_138 rfl o_other_8 ?_
  refine q_aload_n dX7_holdsLess_36 rfl rfl ?_
  refine g_get (k := 2) (kz := 2) dX7_holdsLess_37 rfl fg_X7_117 rfl o_one_4 ?_
  refine q_imul dX7_holdsLess_40 rfl ?_
  refine q_icmp_ge (tgt := 48) dX7_holdsLess_41 rfl (by decide) (fun c_9 => ?_) (fun c_9 => ?_)
  · replace hf := it_f hf (by omega)
    refine q_iconst dX7_holdsLess_48 rfl rfl ?_
    exact g_breturn dX7_holdsLess_49 rfl (Or.inl rfl) hf
  · replace hf := it_t hf (by omega)
    refine q_iconst dX7_holdsLess_44 rfl rfl ?_
    refine q_goto (tgt := 49) dX7_holdsLess_45 rfl (by decide) ?_
    exact g_breturn dX7_holdsLess_49 rfl (Or.inr rfl) hf
def L_X7_sortByFamilies_2 (k_2 : Int) (Kx : Int → Mem → Res) : Nat → Int → Mem → Res
  | 0, _, _ => none
  | n + 1, p_4, h_3 => jn (fun (K_5 : Mem → Res) => if (0 < p_4) then (gd (0 ≤ p_4 ∧ p_4 < 9) (gd (0 ≤ (w32 (p_4 - 1)) ∧ (w32 (p_4 - 1)) < 9) (bd (F_X7_holdsLess (h_3 55 p_4) (h_3 55 (w32 (p_4 - 1))) h_3) (fun r_10 (h_11 : Mem) => if (¬ r_10 = 0) then (bd (F_X7_swapAhead p_4 h_11) (fun _ (h_16 : Mem) => nm (w32 (p_4 + (-1))) (fun p_18 => L_X7_sortByFamilies_2 k_2 Kx n p_18 h_16))) else (K_5 h_11))))) else (K_5 h_3)) (fun (h_6 : Mem) => Kx p_4 h_6)
def L_X7_sortByFamilies_1 (Kx : Int → Mem → Res) : Nat → Int → Mem → Res
  | 0, _, _ => none
  | n + 1, k_2, h_1 => if (k_2 < (h_1 26 1)) then (L_X7_sortByFamilies_2 k_2 (fun p_20 (h_19 : Mem) => nm (w32 (k_2 + 1)) (fun k_21 => L_X7_sortByFamilies_1 Kx n k_21 h_19)) FU k_2 h_1) else (Kx k_2 h_1)
def F_X7_sortByFamilies (h : Mem) : Res := L_X7_sortByFamilies_1 (fun k_24 (h_23 : Mem) => some (0, h_23)) FU 1 h
theorem SL_X7_sortByFamilies_2 (X : XS) (k_2 : Int) (Kx : Int → Mem → Res) {r : Int × Mem} (hK : ∀ (p_4 : Int) (h_3 : Mem), Kx p_4 h_3 = some r → AJ X MX7_sortByFamilies (rmD 1) 51 [(2, 1), (0, k_2), (0, p_4)] [] h_3 (PH 9 r)) :
    ∀ (n : Nat) (p_4 : Int) (h_3 : Mem), L_X7_sortByFamilies_2 k_2 Kx n p_4 h_3 = some r → AJ X MX7_sortByFamilies (rmD 1) 15 [(2, 1), (0, k_2), (0, p_4)] [] h_3 (PH 9 r) := by
  intro n
  induction n with
  | zero => intro p_4 h_3 hf; cases hf
  | succ n ih =>
    intro p_4 h_3 hf
    rw [L_X7_sortByFamilies_2] at hf
    obtain ⟨K_5, J_K_5, hf⟩ := jn_ex (P := fun K => ∀ (h_6 : Mem), K h_6 = some r → AJ X MX7_sortByFamilies (rmD 1) 51 [(2, 1), (0, k_2), (0, p_4)] [] h_6 (PH 9 r)) hf (by
        intro h_6 hf
        exact hK _ _ hf)
    refine q_iload_n dX7_sortByFamilies_15 rfl rfl ?_
    refine q_if_le (tgt := 51) dX7_sortByFamilies_16 rfl (by decide) (fun c_7 => ?_) (fun c_7 => ?_)
    · replace hf := it_f hf (by omega)
      exact J_K_5 _ hf
    · replace hf := it_t hf (by omega)
      refine q_aload_n dX7_sortByFamilies_19 rfl rfl ?_
      refine q_aload_n dX7_sortByFamilies_20 rfl rfl ?_
      refine g_getF (k := 10) (o := 54) (z := 55) dX7_sortByFamilies_21 rfl fg_X7_70 rfl rfl rfl ?_
      refine q_iload_n dX7_sortByFamilies_24 rfl rfl ?_
      obtain ⟨g_8, hf⟩ := gd_ex hf
      refine q_iaload dX7_sortByFamilies_25 rfl rfl g_8 ?_
      refine q_aload_n dX7_sortByFamilies_26 rfl rfl ?_
      refine g_getF (k := 10) (o := 54) (z := 55) dX7_sortByFamilies_27 rfl fg_X7_70 rfl rfl rfl ?_
      refine q_iload_n dX7_sortByFamilies_30 rfl rfl ?_
      refine q_iconst dX7_sortByFamilies_31 rfl rfl ?_
      refine q_isub dX7_sortByFamilies_32 rfl ?_
      obtain ⟨g_9, hf⟩ := gd_ex hf
      refine q_iaload dX7_sortByFamilies_33 rfl rfl g_9 ?_
      obtain ⟨r_10, h_11, e_12, hf⟩ := bd_ex hf
      refine g_Vb (vs := [(0, h_3 55 p_4), (0, h_3 55 (w32 (p_4 - 1)))]) (st := []) dX7_sortByFamilies_34 rfl (S_X7_holdsLess X (h_3 55 p_4) (h_3 55 (w32 (p_4 - 1))) h_3) e_12 mf_X7_holdsLess ml_X7_347 rfl rfl rfl rfl (fun b_13 => ?_)
      refine q_if_eq (tgt := 51) dX7_sortByFamilies_37 rfl (by decide) (fun c_14 => ?_) (fun c_14 => ?_)
      · replace hf := it_f hf (by omega)
        exact J_K_5 _ hf
      · replace hf := it_t hf (by omega)
        refine q_aload_n dX7_sortByFamilies_40 rfl rfl ?_
        refine q_iload_n dX7_sortByFamilies_41 rfl rfl ?_
        obtain ⟨r_15, h_16, e_17, hf⟩ := bd_ex hf
        refine g_Vv (vs := [(0, p_4)]) (st := []) dX7_sortByFamilies_42 rfl (S_X7_swapAhead X p_4 h_11) e_17 mf_X7_swapAhead ml_X7_344 rfl rfl rfl rfl ?_
        refine q_iinc (ls' := [(2, 1), (0, k_2), (0, w32 (p_4 + (-1)))]) dX7_sortByFamilies_45 rfl rfl rfl ?_
        obtain ⟨p_18, e_p_18, hf⟩ := nm_ex hf
        rw [← e_p_18]
        refine q_goto (tgt := 15) dX7_sortByFamilies_48 rfl (by decide) ?_
        exact ih _ _ hf
theorem SL_X7_sortByFamilies_1 (X : XS) (Kx : Int → Mem → Res) {r : Int × Mem} (hK : ∀ (k_2 : Int) (h_1 : Mem), Kx k_2 h_1 = some r → AJ X MX7_sortByFamilies (rmD 1) 57 [(2, 1), (0, k_2), (3, 0)] [] h_1 (PH 9 r)) :
    ∀ (n : Nat) (k_2 : Int) (h_1 : Mem), L_X7_sortByFamilies_1 Kx n k_2 h_1 = some r → AJ X MX7_sortByFamilies (rmD 1) 2 [(2, 1), (0, k_2), (3, 0)] [] h_1 (PH 9 r) := by
  intro n
  induction n with
  | zero => intro k_2 h_1 hf; cases hf
  | succ n ih =>
    intro k_2 h_1 hf
    rw [L_X7_sortByFamilies_1] at hf
    refine q_iload_n dX7_sortByFamilies_2 rfl rfl ?_
    refine q_aload_n dX7_sortByFamilies_3 rfl rfl ?_
    refine g_getF (k := 3) (o := 25) (z := 26) dX7_sortByFamilies_4 rfl fg_X7_29 rfl rfl rfl ?_
    refine g_get (k := 1) (kz := 1) dX7_sortByFamilies_7 rfl fg_X7_159 rfl rfl ?_
    refine q_icmp_ge (tgt := 57) dX7_sortByFamilies_10 rfl (by decide) (fun c_22 => ?_) (fun c_22 => ?_)
    · replace hf := it_f hf (by omega)
      exact hK _ _ hf
    · replace hf := it_t hf (by omega)
      refine q_iload_n dX7_sortByFamilies_13 rfl rfl ?_
      refine q_istore_n (ls' := [(2, 1), (0, k_2), (0, k_2)]) dX7_sortByFamilies_14 rfl rfl (Nat.le_of_ble_eq_true rfl) rfl ?_
      refine SL_X7_sortByFamilies_2 X k_2  _ (fun p_20 h_19 hf => ?_) FU _ _ hf
      refine q_iinc (ls' := [(2, 1), (0, w32 (k_2 + 1)), (0, p_20)]) dX7_sortByFamilies_51 rfl rfl rfl ?_
      obtain ⟨k_21, e_k_21, hf⟩ := nm_ex hf
      rw [← e_k_21]
      refine q_goto (tgt := 2) dX7_sortByFamilies_54 rfl (by decide) ?_
      refine g_frg (ls' := [(2, 1), (0, k_21), (3, 0)]) [2] rfl ?_
      exact ih _ _ hf
theorem S_X7_sortByFamilies (X : XS) (h : Mem) : CT X yX7_sortByFamilies MX7_sortByFamilies none 9 1 [(2, 1)] h (F_X7_sortByFamilies h) := by
  refine CT.ofV (by decide) rfl (Nat.le_of_ble_eq_true rfl) (fun r hf => ?_)
  unfold F_X7_sortByFamilies at hf
  show AJ X MX7_sortByFamilies (rmD 1) 0 [(2, 1), (3, 0), (3, 0)] [] h (PH 9 r)
  refine q_iconst dX7_sortByFamilies_0 rfl rfl ?_
  refine q_istore_n (ls' := [(2, 1), (0, 1), (3, 0)]) dX7_sortByFamilies_1 rfl rfl (Nat.le_of_ble_eq_true rfl) rfl ?_
  refine SL_X7_sortByFamilies_1 X   _ (fun k_24 h_23 hf => ?_) FU _ _ hf
  exact g_return dX7_sortByFamilies_57 rfl hf
def L_X7_hold_1 (what_0 : Int) (Kx : Int → Int → Int → Int → Mem → Res) : Nat → Int → Int → Int → Int → Mem → Res
  | 0, _, _, _, _, _ => none
  | n + 1, clock_8, held_9, order_10, p_11, h_7 => if (p_11 < (h_7 26 1)) then (nm (h_7 1 1) (fun cast_12 => gd (okO 2 cast_12 = true) (gd (0 ≤ p_11 ∧ p_11 < 9) (gd (0 ≤ (h_7 55 p_11) ∧ (h_7 55 p_11) < 9) (nm ((cast_12 + 2 + (h_7 55 p_11))) (fun one_16 => nm (w32 (clock_8 + (h_7 one_16 2))) (fun clock_17 => nm (w32 (held_9 + (w32 ((h_7 one_16 9) * clock_17)))) (fun held_18 => nm (w32 ((w32 (order_10 * 10)) + (h_7 one_16 0))) (fun order_19 => nm (w32 (p_11 + 1)) (fun p_20 => L_X7_hold_1 what_0 Kx n clock_17 held_18 order_19 p_20 h_7)))))))))) else (Kx clock_8 held_9 order_10 p_11 h_7)
def F_X7_hold (what_0 : Int) (h : Mem) : Res := if ((what_0 < 0) ∨ (1 < what_0)) then (some ((-1), h)) else (if ((h 26 1) = 0) then (some ((-2), h)) else (bd (F_X7_lineUp (-9) h) (fun r_1 (h_2 : Mem) => bd (F_X7_sortByFamilies  h_2) (fun _ (h_5 : Mem) => L_X7_hold_1 what_0 (fun clock_23 held_24 order_25 p_26 (h_22 : Mem) => if (what_0 = 0) then (some (held_24, h_22)) else (some (order_25, h_22))) FU 0 0 0 0 h_5))))
theorem SL_X7_hold_1 (X : XS) (what_0 : Int) (Kx : Int → Int → Int → Int → Mem → Res) {r : Int × Mem} (hK : ∀ (clock_8 held_9 order_10 p_11 : Int) (h_7 : Mem), Kx clock_8 held_9 order_10 p_11 h_7 = some r → AJ X MX7_hold (rmD 2) 111 [(2, 1), (0, what_0), (0, clock_8), (0, held_9), (0, order_10), (0, p_11), (3, 0)] [] h_7 (PH 0 r)) :
    ∀ (n : Nat) (clock_8 held_9 order_10 p_11 : Int) (h_7 : Mem), L_X7_hold_1 what_0 Kx n clock_8 held_9 order_10 p_11 h_7 = some r → AJ X MX7_hold (rmD 2) 45 [(2, 1), (0, what_0), (0, clock_8), (0, held_9), (0, order_10), (0, p_11), (3, 0)] [] h_7 (PH 0 r) := by
  intro n
  induction n with
  | zero => intro clock_8 held_9 order_10 p_11 h_7 hf; cases hf
  | succ n ih =>
    intro clock_8 held_9 order_10 p_11 h_7 hf
    rw [L_X7_hold_1] at hf
    refine q_iload dX7_hold_45 rfl rfl ?_
    refine q_aload_n dX7_hold_47 rfl rfl ?_
    refine g_getF (k := 3) (o := 25) (z := 26) dX7_hold_48 rfl fg_X7_29 rfl rfl rfl ?_
    refine g_get (k := 1) (kz := 1) dX7_hold_51 rfl fg_X7_159 rfl rfl ?_
    refine q_icmp_ge (tgt := 111) dX7_hold_54 rfl (by decide) (fun c_21 => ?_) (fun c_21 => ?_)
    · replace hf := it_f hf (by omega)
      exact hK _ _ _ _ _ hf
    · replace hf := it_t hf (by omega)
      refine q_aload_n dX7_hold_57 rfl rfl ?_
      refine g_get (k := 1) (kz := 1) dX7_hold_58 rfl fg_X7_19 rfl rfl ?_
      obtain ⟨cast_12, e_cast_12, hf⟩ := nm_ex hf
      rw [← e_cast_12]
      obtain ⟨o_cast_13, hf⟩ := gd_ex hf
      refine g_getF (k := 0) (o := 1) (z := (cast_12 + 1)) dX7_hold_61 rfl fg_X7_110 rfl o_cast_13 rfl ?_
      refine q_aload_n dX7_hold_64 rfl rfl ?_
      refine g_getF (k := 10) (o := 54) (z := 55) dX7_hold_65 rfl fg_X7_70 rfl rfl rfl ?_
      refine q_iload dX7_hold_68 rfl rfl ?_
      obtain ⟨g_14, hf⟩ := gd_ex hf
      refine q_iaload dX7_hold_70 rfl rfl g_14 ?_
      obtain ⟨g_15, hf⟩ := gd_ex hf
      refine q_aaloadF (z := (cast_12 + 2 + (h_7 55 p_11))) dX7_hold_71 rfl (sf_2_0 o_cast_13) (by decide) g_15 rfl (by omega) ?_
      obtain ⟨one_16, e_one_16, hf⟩ := nm_ex hf
      rw [← e_one_16]
      have o_one_16 : okO 0 one_16 = true := by rw [e_one_16]; exact (ok_mem o_cast_13 g_15)
      refine q_astore (ls' := [(2, 1), (0, what_0), (0, clock_8), (0, held_9), (0, order_10), (0, p_11), (2, one_16)]) dX7_hold_72 rfl (okO_ne o_one_16) (Nat.le_of_ble_eq_true rfl) rfl ?_
      refine q_iload_n dX7_hold_74 rfl rfl ?_
      refine q_aload dX7_hold_75 rfl rfl ?_
      refine g_get (k := 2) (kz := 2) dX7_hold_77 rfl fg_X7_117 rfl o_one_16 ?_
      refine q_iadd dX7_hold_80 rfl ?_
      obtain ⟨clock_17, e_clock_17, hf⟩ := nm_ex hf
      rw [← e_clock_17]
      refine q_istore_n (ls' := [(2, 1), (0, what_0), (0, clock_17), (0, held_9), (0, order_10), (0, p_11), (2, one_16)]) dX7_hold_81 rfl rfl (Nat.le_of_ble_eq_true rfl) rfl ?_
      refine q_iload_n dX7_hold_82 rfl rfl ?_
      refine q_aload dX7_hold_83 rfl rfl ?_
      refine g_get (k := 9) (kz := 9) dX7_hold_85 rfl fg_X7_138 rfl o_one_16 ?_
      refine q_iload_n dX7_hold_88 rfl rfl ?_
      refine q_imul dX7_hold_89 rfl ?_
      refine q_iadd dX7_hold_90 rfl ?_
      obtain ⟨held_18, e_held_18, hf⟩ := nm_ex hf
      rw [← e_held_18]
      refine q_istore_n (ls' := [(2, 1), (0, what_0), (0, clock_17), (0, held_18), (0, order_10), (0, p_11), (2, one_16)]) dX7_hold_91 rfl rfl (Nat.le_of_ble_eq_true rfl) rfl ?_
      refine q_iload dX7_hold_92 rfl rfl ?_
      refine q_bipush dX7_hold_94 rfl (by decide) ?_
      refine q_imul dX7_hold_96 rfl ?_
      refine q_aload dX7_hold_97 rfl rfl ?_
      refine g_get (k := 0) (kz := 0) dX7_hold_99 rfl fg_X7_273 rfl o_one_16 ?_
      refine q_iadd dX7_hold_102 rfl ?_
      obtain ⟨order_19, e_order_19, hf⟩ := nm_ex hf
      rw [← e_order_19]
      refine q_istore (ls' := [(2, 1), (0, what_0), (0, clock_17), (0, held_18), (0, order_19), (0, p_11), (2, one_16)]) dX7_hold_103 rfl (Nat.le_of_ble_eq_true rfl) rfl ?_
      refine q_iinc (ls' := [(2, 1), (0, what_0), (0, clock_17), (0, held_18), (0, order_19), (0, w32 (p_11 + 1)), (2, one_16)]) dX7_hold_105 rfl rfl rfl ?_
      obtain ⟨p_20, e_p_20, hf⟩ := nm_ex hf
      rw [← e_p_20]
      refine q_goto (tgt := 45) dX7_hold_108 rfl (by decide) ?_
      refine g_frg (ls' := [(2, 1), (0, what_0), (0, clock_17), (0, held_18), (0, order_19), (0, p_20), (3, 0)]) [6] rfl ?_
      exact ih _ _ _ _ _ hf
theorem S_X7_hold (X : XS) (what_0 : Int) (h : Mem) : CT X yX7_hold MX7_hold (some .int) 0 2 [(2, 1), (0, what_0)] h (F_X7_hold what_0 h) := by
  refine CT.ofI (by decide) rfl (Nat.le_of_ble_eq_true rfl) (fun r hf => ?_)
  unfold F_X7_hold at hf
  show AJ X MX7_hold (rmD 2) 0 [(2, 1), (0, what_0), (3, 0), (3, 0), (3, 0), (3, 0), (3, 0)] [] h (PH 0 r)
  have HT_29 : ((what_0 < 0) ∨ (1 < what_0)) → AJ X MX7_hold (rmD 2) 9 [(2, 1), (0, what_0), (3, 0), (3, 0), (3, 0), (3, 0), (3, 0)] [] h (PH 0 r) := by
    intro hc
    replace hf := it_t hf hc
    refine q_iconst dX7_hold_9 rfl rfl ?_
    exact g_ireturn dX7_hold_10 rfl hf
  refine q_iload_n dX7_hold_0 rfl rfl ?_
  refine q_if_lt (tgt := 9) dX7_hold_1 rfl (by decide) (fun c_30 => ?_) (fun c_30 => ?_)
  · exact HT_29 (by omega)
  · refine q_iload_n dX7_hold_4 rfl rfl ?_
    refine q_iconst dX7_hold_5 rfl rfl ?_
    refine q_icmp_le (tgt := 11) dX7_hold_6 rfl (by decide) (fun c_31 => ?_) (fun c_31 => ?_)
    · replace hf := it_f hf (by omega)
      refine q_aload_n dX7_hold_11 rfl rfl ?_
      refine g_getF (k := 3) (o := 25) (z := 26) dX7_hold_12 rfl fg_X7_29 rfl rfl rfl ?_
      refine g_get (k := 1) (kz := 1) dX7_hold_15 rfl fg_X7_159 rfl rfl ?_
      refine q_if_ne (tgt := 24) dX7_hold_18 rfl (by decide) (fun c_28 => ?_) (fun c_28 => ?_)
      · replace hf := it_f hf (by omega)
        refine q_aload_n dX7_hold_24 rfl rfl ?_
        refine q_bipush dX7_hold_25 rfl (by decide) ?_
        obtain ⟨r_1, h_2, e_3, hf⟩ := bd_ex hf
        refine g_Vi (vs := [(0, (-9))]) (st := []) dX7_hold_27 rfl (S_X7_lineUp X (-9) h) e_3 mf_X7_lineUp ml_X7_218 rfl rfl rfl rfl ?_
        refine q_pop dX7_hold_30 rfl (by decide) ?_
        refine q_aload_n dX7_hold_31 rfl rfl ?_
        obtain ⟨r_4, h_5, e_6, hf⟩ := bd_ex hf
        refine g_Vv (vs := []) (st := []) dX7_hold_32 rfl (S_X7_sortByFamilies X  h_2) e_6 mf_X7_sortByFamilies ml_X7_270 rfl rfl rfl rfl ?_
        refine q_iconst dX7_hold_35 rfl rfl ?_
        refine q_istore_n (ls' := [(2, 1), (0, what_0), (0, 0), (3, 0), (3, 0), (3, 0), (3, 0)]) dX7_hold_36 rfl rfl (Nat.le_of_ble_eq_true rfl) rfl ?_
        refine q_iconst dX7_hold_37 rfl rfl ?_
        refine q_istore_n (ls' := [(2, 1), (0, what_0), (0, 0), (0, 0), (3, 0), (3, 0), (3, 0)]) dX7_hold_38 rfl rfl (Nat.le_of_ble_eq_true rfl) rfl ?_
        refine q_iconst dX7_hold_39 rfl rfl ?_
        refine q_istore (ls' := [(2, 1), (0, what_0), (0, 0), (0, 0), (0, 0), (3, 0), (3, 0)]) dX7_hold_40 rfl (Nat.le_of_ble_eq_true rfl) rfl ?_
        refine q_iconst dX7_hold_42 rfl rfl ?_
        refine q_istore (ls' := [(2, 1), (0, what_0), (0, 0), (0, 0), (0, 0), (0, 0), (3, 0)]) dX7_hold_43 rfl (Nat.le_of_ble_eq_true rfl) rfl ?_
        refine SL_X7_hold_1 X what_0  _ (fun clock_23 held_24 order_25 p_26 h_22 hf => ?_) FU _ _ _ _ _ hf
        refine q_iload_n dX7_hold_111 rfl rfl ?_
        refine q_if_ne (tgt := 119) dX7_hold_112 rfl (by decide) (fun c_27 => ?_) (fun c_27 => ?_)
        · replace hf := it_f hf (by omega)
          refine q_iload dX7_hold_119 rfl rfl ?_
          exact g_ireturn dX7_hold_121 rfl hf
        · replace hf := it_t hf (by omega)
          refine q_iload_n dX7_hold_115 rfl rfl ?_
          refine q_goto (tgt := 121) dX7_hold_116 rfl (by decide) ?_
          exact g_ireturn dX7_hold_121 rfl hf
      · replace hf := it_t hf (by omega)
        refine q_bipush dX7_hold_21 rfl (by decide) ?_
        exact g_ireturn dX7_hold_23 rfl hf
    · exact HT_29 (by omega)
def L_X7_drawn_1 (Kx : Int → Mem → Res) : Nat → Int → Mem → Res
  | 0, _, _ => none
  | n + 1, p_5, h_4 => if (p_5 < (h_4 26 1)) then (nm (h_4 1 1) (fun cast_6 => gd (okO 2 cast_6 = true) (gd (0 ≤ p_5 ∧ p_5 < 9) (gd (0 ≤ (h_4 27 p_5) ∧ (h_4 27 p_5) < 9) (bd (F_X6_seat p_5 (cast_6 + 2 + (h_4 27 p_5)) h_4) (fun _ (h_11 : Mem) => bd (F_X1_draw 26 h_11) (fun r_13 (h_14 : Mem) => bd (F_X6_applaud p_5 (w32 (r_13 - 2)) h_14) (fun _ (h_17 : Mem) => nm (w32 (p_5 + 1)) (fun p_19 => L_X7_drawn_1 Kx n p_19 h_17))))))))) else (Kx p_5 h_4)
def F_X7_drawn (h : Mem) : Res := if ((h 26 1) = 0) then (some ((-2), h)) else (bd (F_X6_open (h 26 1) (h 26 2) h) (fun _ (h_2 : Mem) => L_X7_drawn_1 (fun p_22 (h_21 : Mem) => bd (F_X6_total  h_21) (fun r_23 (h_24 : Mem) => some (r_23, h_24))) FU 0 h_2))
theorem SL_X7_drawn_1 (X : XS) (Kx : Int → Mem → Res) {r : Int × Mem} (hK : ∀ (p_5 : Int) (h_4 : Mem), Kx p_5 h_4 = some r → AJ X MX7_drawn (rmD 3) 95 [(2, 1), (0, p_5)] [] h_4 (PH 0 r)) :
    ∀ (n : Nat) (p_5 : Int) (h_4 : Mem), L_X7_drawn_1 Kx n p_5 h_4 = some r → AJ X MX7_drawn (rmD 3) 36 [(2, 1), (0, p_5)] [] h_4 (PH 0 r) := by
  intro n
  induction n with
  | zero => intro p_5 h_4 hf; cases hf
  | succ n ih =>
    intro p_5 h_4 hf
    rw [L_X7_drawn_1] at hf
    refine q_iload_n dX7_drawn_36 rfl rfl ?_
    refine q_aload_n dX7_drawn_37 rfl rfl ?_
    refine g_getF (k := 3) (o := 25) (z := 26) dX7_drawn_38 rfl fg_X7_29 rfl rfl rfl ?_
    refine g_get (k := 1) (kz := 1) dX7_drawn_41 rfl fg_X7_159 rfl rfl ?_
    refine q_icmp_ge (tgt := 95) dX7_drawn_44 rfl (by decide) (fun c_20 => ?_) (fun c_20 => ?_)
    · replace hf := it_f hf (by omega)
      exact hK _ _ hf
    · replace hf := it_t hf (by omega)
      refine q_aload_n dX7_drawn_47 rfl rfl ?_
      refine g_getF (k := 5) (o := 32) (z := 33) dX7_drawn_48 rfl fg_X7_40 rfl rfl rfl ?_
      refine q_iload_n dX7_drawn_51 rfl rfl ?_
      refine q_aload_n dX7_drawn_52 rfl rfl ?_
      refine g_get (k := 1) (kz := 1) dX7_drawn_53 rfl fg_X7_19 rfl rfl ?_
      obtain ⟨cast_6, e_cast_6, hf⟩ := nm_ex hf
      rw [← e_cast_6]
      obtain ⟨o_cast_7, hf⟩ := gd_ex hf
      refine g_getF (k := 0) (o := 1) (z := (cast_6 + 1)) dX7_drawn_56 rfl fg_X7_110 rfl o_cast_7 rfl ?_
      refine q_aload_n dX7_drawn_59 rfl rfl ?_
      refine g_getF (k := 3) (o := 25) (z := 26) dX7_drawn_60 rfl fg_X7_29 rfl rfl rfl ?_
      refine g_getF (k := 0) (o := 1) (z := 27) dX7_drawn_63 rfl fg_X7_168 rfl rfl rfl ?_
      refine q_iload_n dX7_drawn_66 rfl rfl ?_
      obtain ⟨g_8, hf⟩ := gd_ex hf
      refine q_iaload dX7_drawn_67 rfl rfl g_8 ?_
      obtain ⟨g_9, hf⟩ := gd_ex hf
      refine q_aaloadF (z := (cast_6 + 2 + (h_4 27 p_5))) dX7_drawn_68 rfl (sf_2_0 o_cast_7) (by decide) g_9 rfl (by omega) ?_
      obtain ⟨r_10, h_11, e_12, hf⟩ := bd_ex hf
      refine g_Vv (vs := [(0, p_5), (2, (cast_6 + 2 + (h_4 27 p_5)))]) (st := []) dX7_drawn_69 rfl (S_X6_seat X p_5 (cast_6 + 2 + (h_4 27 p_5)) (ok_mem o_cast_7 g_9) h_4) e_12 mf_X6_seat ml_X7_279 rfl rfl rfl rfl ?_
      refine q_aload_n dX7_drawn_72 rfl rfl ?_
      refine g_getF (k := 5) (o := 32) (z := 33) dX7_drawn_73 rfl fg_X7_40 rfl rfl rfl ?_
      refine q_iload_n dX7_drawn_76 rfl rfl ?_
      refine q_aload_n dX7_drawn_77 rfl rfl ?_
      refine g_getF (k := 3) (o := 25) (z := 26) dX7_drawn_78 rfl fg_X7_29 rfl rfl rfl ?_
      obtain ⟨r_13, h_14, e_15, hf⟩ := bd_ex hf
      refine g_Vi (vs := []) (st := [(0, p_5), (2, 33)]) dX7_drawn_81 rfl (S_X1_draw X 26 rfl h_11) e_15 mf_X1_draw ml_X7_283 rfl rfl rfl rfl ?_
      refine q_iconst dX7_drawn_84 rfl rfl ?_
      refine q_isub dX7_drawn_85 rfl ?_
      obtain ⟨r_16, h_17, e_18, hf⟩ := bd_ex hf
      refine g_Vv (vs := [(0, p_5), (0, w32 (r_13 - 2))]) (st := []) dX7_drawn_86 rfl (S_X6_applaud X p_5 (w32 (r_13 - 2)) h_14) e_18 mf_X6_applaud ml_X7_286 rfl rfl rfl rfl ?_
      refine q_iinc (ls' := [(2, 1), (0, w32 (p_5 + 1))]) dX7_drawn_89 rfl rfl rfl ?_
      obtain ⟨p_19, e_p_19, hf⟩ := nm_ex hf
      rw [← e_p_19]
      refine q_goto (tgt := 36) dX7_drawn_92 rfl (by decide) ?_
      exact ih _ _ hf
theorem S_X7_drawn (X : XS) (h : Mem) : CT X yX7_drawn MX7_drawn (some .int) 0 3 [(2, 1)] h (F_X7_drawn h) := by
  refine CT.ofI (by decide) rfl (Nat.le_of_ble_eq_true rfl) (fun r hf => ?_)
  unfold F_X7_drawn at hf
  show AJ X MX7_drawn (rmD 3) 0 [(2, 1), (3, 0)] [] h (PH 0 r)
  refine q_aload_n dX7_drawn_0 rfl rfl ?_
  refine g_getF (k := 3) (o := 25) (z := 26) dX7_drawn_1 rfl fg_X7_29 rfl rfl rfl ?_
  refine g_get (k := 1) (kz := 1) dX7_drawn_4 rfl fg_X7_159 rfl rfl ?_
  refine q_if_ne (tgt := 13) dX7_drawn_7 rfl (by decide) (fun c_26 => ?_) (fun c_26 => ?_)
  · replace hf := it_f hf (by omega)
    refine q_aload_n dX7_drawn_13 rfl rfl ?_
    refine g_getF (k := 5) (o := 32) (z := 33) dX7_drawn_14 rfl fg_X7_40 rfl rfl rfl ?_
    refine q_aload_n dX7_drawn_17 rfl rfl ?_
    refine g_getF (k := 3) (o := 25) (z := 26) dX7_drawn_18 rfl fg_X7_29 rfl rfl rfl ?_
    refine g_get (k := 1) (kz := 1) dX7_drawn_21 rfl fg_X7_159 rfl rfl ?_
    refine q_aload_n dX7_drawn_24 rfl rfl ?_
    refine g_getF (k := 3) (o := 25) (z := 26) dX7_drawn_25 rfl fg_X7_29 rfl rfl rfl ?_
    refine g_get (k := 2) (kz := 2) dX7_drawn_28 rfl fg_X7_162 rfl rfl ?_
    obtain ⟨r_1, h_2, e_3, hf⟩ := bd_ex hf
    refine g_Vv (vs := [(0, h 26 1), (0, h 26 2)]) (st := []) dX7_drawn_31 rfl (S_X6_open X (h 26 1) (h 26 2) h) e_3 mf_X6_open ml_X7_276 rfl rfl rfl rfl ?_
    refine q_iconst dX7_drawn_34 rfl rfl ?_
    refine q_istore_n (ls' := [(2, 1), (0, 0)]) dX7_drawn_35 rfl rfl (Nat.le_of_ble_eq_true rfl) rfl ?_
    refine SL_X7_drawn_1 X   _ (fun p_22 h_21 hf => ?_) FU _ _ hf
    refine q_aload_n dX7_drawn_95 rfl rfl ?_
    refine g_getF (k := 5) (o := 32) (z := 33) dX7_drawn_96 rfl fg_X7_40 rfl rfl rfl ?_
    obtain ⟨r_23, h_24, e_25, hf⟩ := bd_ex hf
    refine g_Vi (vs := []) (st := []) dX7_drawn_99 rfl (S_X6_total X  h_21) e_25 mf_X6_total ml_X7_199 rfl rfl rfl rfl ?_
    exact g_ireturn dX7_drawn_102 rfl hf
  · replace hf := it_t hf (by omega)
    refine q_bipush dX7_drawn_10 rfl (by decide) ?_
    exact g_ireturn dX7_drawn_12 rfl hf
def F_X7_lot (v_0 : Int) (h : Mem) : Res := nm (h 26 3) (fun old_1 => nm (wr h 26 3 v_0) (fun (h_2 : Mem) => some (old_1, h_2)))
theorem S_X7_lot (X : XS) (v_0 : Int) (h : Mem) : CT X yX7_lot MX7_lot (some .int) 0 0 [(2, 1), (0, v_0)] h (F_X7_lot v_0 h) := by
  refine CT.ofI (by decide) rfl (Nat.le_of_ble_eq_true rfl) (fun r hf => ?_)
  unfold F_X7_lot at hf
  show AJ X MX7_lot (rmD 0) 0 [(2, 1), (0, v_0), (3, 0)] [] h (PH 0 r)
  refine q_aload_n dX7_lot_0 rfl rfl ?_
  refine g_getF (k := 3) (o := 25) (z := 26) dX7_lot_1 rfl fg_X7_29 rfl rfl rfl ?_
  refine g_get (k := 3) (kz := 3) dX7_lot_4 rfl fg_X7_82 rfl rfl ?_
  obtain ⟨old_1, e_old_1, hf⟩ := nm_ex hf
  rw [← e_old_1]
  refine q_istore_n (ls' := [(2, 1), (0, v_0), (0, old_1)]) dX7_lot_7 rfl rfl (Nat.le_of_ble_eq_true rfl) rfl ?_
  refine q_aload_n dX7_lot_8 rfl rfl ?_
  refine g_getF (k := 3) (o := 25) (z := 26) dX7_lot_9 rfl fg_X7_29 rfl rfl rfl ?_
  refine q_iload_n dX7_lot_12 rfl rfl ?_
  refine g_put (k := 3) (kz := 3) dX7_lot_13 rfl fp_X7_82 rfl (fun q => q.1 rfl) rfl ?_
  obtain ⟨h_2, e_h_2, hf⟩ := nm_ex hf
  rw [← e_h_2]
  refine q_iload_n dX7_lot_16 rfl rfl ?_
  exact g_ireturn dX7_lot_17 rfl hf
def F_X7_ratePlace (one_0 : Int) (h : Mem) : Res := nm (wr h 1 12 (w64 ((h 1 12) + 1))) (fun (h_1 : Mem) => some (h_1 one_0 3, h_1))
theorem S_X7_ratePlace (X : XS) (one_0 : Int) (o_one_0 : okO 0 one_0 = true) (h : Mem) : CT X yX7_ratePlace MX7_ratePlace (some .int) 0 0 [(2, 1), (2, one_0)] h (F_X7_ratePlace one_0 h) := by
  refine CT.ofI (by decide) rfl (Nat.le_of_ble_eq_true rfl) (fun r hf => ?_)
  unfold F_X7_ratePlace at hf
  show AJ X MX7_ratePlace (rmD 0) 0 [(2, 1), (2, one_0)] [] h (PH 0 r)
  refine q_aload_n dX7_ratePlace_0 rfl rfl ?_
  refine q_dup dX7_ratePlace_1 rfl (by decide) ?_
  refine g_get (k := 12) (kz := 12) dX7_ratePlace_2 rfl fg_X7_78 rfl rfl ?_
  refine q_lconst1 dX7_ratePlace_5 rfl ?_
  refine q_ladd dX7_ratePlace_6 rfl ?_
  refine g_put (k := 12) (kz := 12) dX7_ratePlace_7 rfl fp_X7_78 rfl (fun q => q.2 rfl) rfl ?_
  obtain ⟨h_1, e_h_1, hf⟩ := nm_ex hf
  rw [← e_h_1]
  refine q_aload_n dX7_ratePlace_10 rfl rfl ?_
  refine g_get (k := 3) (kz := 3) dX7_ratePlace_11 rfl fg_X7_120 rfl o_one_0 ?_
  exact g_ireturn dX7_ratePlace_14 rfl hf
def F_X7_rateClosing (one_0 : Int) (h : Mem) : Res := nm (wr h 1 12 (w64 ((h 1 12) + 100000))) (fun (h_1 : Mem) => bd (F_X7_ratePlace one_0 h_1) (fun r_2 (h_3 : Mem) => some (w32 (r_2 - (w32 ((h_3 one_0 5) + (h_3 one_0 6)))), h_3)))
theorem S_X7_rateClosing (X : XS) (one_0 : Int) (o_one_0 : okO 0 one_0 = true) (h : Mem) : CT X yX7_rateClosing MX7_rateClosing (some .int) 0 1 [(2, 1), (2, one_0)] h (F_X7_rateClosing one_0 h) := by
  refine CT.ofI (by decide) rfl (Nat.le_of_ble_eq_true rfl) (fun r hf => ?_)
  unfold F_X7_rateClosing at hf
  show AJ X MX7_rateClosing (rmD 1) 0 [(2, 1), (2, one_0)] [] h (PH 0 r)
  refine q_aload_n dX7_rateClosing_0 rfl rfl ?_
  refine q_dup dX7_rateClosing_1 rfl (by decide) ?_
  refine g_get (k := 12) (kz := 12) dX7_rateClosing_2 rfl fg_X7_78 rfl rfl ?_
  refine q_ldc2 (z := 100000) dX7_rateClosing_5 rfl kl_X7_358 (by decide +kernel) ?_
  refine q_ladd dX7_rateClosing_8 rfl ?_
  refine g_put (k := 12) (kz := 12) dX7_rateClosing_9 rfl fp_X7_78 rfl (fun q => q.2 rfl) rfl ?_
  obtain ⟨h_1, e_h_1, hf⟩ := nm_ex hf
  rw [← e_h_1]
  refine q_aload_n dX7_rateClosing_12 rfl rfl ?_
  refine q_aload_n dX7_rateClosing_13 rfl rfl ?_
  obtain ⟨r_2, h_3, e_4, hf⟩ := bd_ex hf
  refine g_Vi (vs := [(2, one_0)]) (st := []) dX7_rateClosing_14 rfl (S_X7_ratePlace X one_0 o_one_0 h_1) e_4 mf_X7_ratePlace ml_X7_289 rfl rfl rfl rfl ?_
  refine q_aload_n dX7_rateClosing_17 rfl rfl ?_
  refine g_get (k := 5) (kz := 5) dX7_rateClosing_18 rfl fg_X7_126 rfl o_one_0 ?_
  refine q_aload_n dX7_rateClosing_21 rfl rfl ?_
  refine g_get (k := 6) (kz := 6) dX7_rateClosing_22 rfl fg_X7_129 rfl o_one_0 ?_
  refine q_iadd dX7_rateClosing_25 rfl ?_
  refine q_isub dX7_rateClosing_26 rfl ?_
  exact g_ireturn dX7_rateClosing_27 rfl hf
def F_X7_rateDraw (one_0 : Int) (h : Mem) : Res := nm (wr h 1 12 (w64 ((h 1 12) + 10000))) (fun (h_1 : Mem) => bd (F_X7_rateClosing one_0 h_1) (fun r_2 (h_3 : Mem) => some (w32 (r_2 + (h_3 one_0 9)), h_3)))
theorem S_X7_rateDraw (X : XS) (one_0 : Int) (o_one_0 : okO 0 one_0 = true) (h : Mem) : CT X yX7_rateDraw MX7_rateDraw (some .int) 0 2 [(2, 1), (2, one_0)] h (F_X7_rateDraw one_0 h) := by
  refine CT.ofI (by decide) rfl (Nat.le_of_ble_eq_true rfl) (fun r hf => ?_)
  unfold F_X7_rateDraw at hf
  show AJ X MX7_rateDraw (rmD 2) 0 [(2, 1), (2, one_0)] [] h (PH 0 r)
  refine q_aload_n dX7_rateDraw_0 rfl rfl ?_
  refine q_dup dX7_rateDraw_1 rfl (by decide) ?_
  refine g_get (k := 12) (kz := 12) dX7_rateDraw_2 rfl fg_X7_78 rfl rfl ?_
  refine q_ldc2 (z := 10000) dX7_rateDraw_5 rfl kl_X7_356 (by decide +kernel) ?_
  refine q_ladd dX7_rateDraw_8 rfl ?_
  refine g_put (k := 12) (kz := 12) dX7_rateDraw_9 rfl fp_X7_78 rfl (fun q => q.2 rfl) rfl ?_
  obtain ⟨h_1, e_h_1, hf⟩ := nm_ex hf
  rw [← e_h_1]
  refine q_aload_n dX7_rateDraw_12 rfl rfl ?_
  refine q_aload_n dX7_rateDraw_13 rfl rfl ?_
  obtain ⟨r_2, h_3, e_4, hf⟩ := bd_ex hf
  refine g_Vi (vs := [(2, one_0)]) (st := []) dX7_rateDraw_14 rfl (S_X7_rateClosing X one_0 o_one_0 h_1) e_4 mf_X7_rateClosing ml_X7_305 rfl rfl rfl rfl ?_
  refine q_aload_n dX7_rateDraw_17 rfl rfl ?_
  refine g_get (k := 9) (kz := 9) dX7_rateDraw_18 rfl fg_X7_138 rfl o_one_0 ?_
  refine q_iadd dX7_rateDraw_21 rfl ?_
  exact g_ireturn dX7_rateDraw_22 rfl hf
def F_X7_rateFrontCloth (one_0 : Int) (h : Mem) : Res := nm (wr h 1 12 (w64 ((h 1 12) + 100))) (fun (h_1 : Mem) => bd (F_X7_ratePlace one_0 h_1) (fun r_2 (h_3 : Mem) => some (w32 (r_2 + (h_3 one_0 2)), h_3)))
theorem S_X7_rateFrontCloth (X : XS) (one_0 : Int) (o_one_0 : okO 0 one_0 = true) (h : Mem) : CT X yX7_rateFrontCloth MX7_rateFrontCloth (some .int) 0 1 [(2, 1), (2, one_0)] h (F_X7_rateFrontCloth one_0 h) := by
  refine CT.ofI (by decide) rfl (Nat.le_of_ble_eq_true rfl) (fun r hf => ?_)
  unfold F_X7_rateFrontCloth at hf
  show AJ X MX7_rateFrontCloth (rmD 1) 0 [(2, 1), (2, one_0)] [] h (PH 0 r)
  refine q_aload_n dX7_rateFrontCloth_0 rfl rfl ?_
  refine q_dup dX7_rateFrontCloth_1 rfl (by decide) ?_
  refine g_get (k := 12) (kz := 12) dX7_rateFrontCloth_2 rfl fg_X7_78 rfl rfl ?_
  refine q_ldc2 (z := 100) dX7_rateFrontCloth_5 rfl kl_X7_352 (by decide +kernel) ?_
  refine q_ladd dX7_rateFrontCloth_8 rfl ?_
  refine g_put (k := 12) (kz := 12) dX7_rateFrontCloth_9 rfl fp_X7_78 rfl (fun q => q.2 rfl) rfl ?_
  obtain ⟨h_1, e_h_1, hf⟩ := nm_ex hf
  rw [← e_h_1]
  refine q_aload_n dX7_rateFrontCloth_12 rfl rfl ?_
  refine q_aload_n dX7_rateFrontCloth_13 rfl rfl ?_
  obtain ⟨r_2, h_3, e_4, hf⟩ := bd_ex hf
  refine g_Vi (vs := [(2, one_0)]) (st := []) dX7_rateFrontCloth_14 rfl (S_X7_ratePlace X one_0 o_one_0 h_1) e_4 mf_X7_ratePlace ml_X7_289 rfl rfl rfl rfl ?_
  refine q_aload_n dX7_rateFrontCloth_17 rfl rfl ?_
  refine g_get (k := 2) (kz := 2) dX7_rateFrontCloth_18 rfl fg_X7_117 rfl o_one_0 ?_
  refine q_iadd dX7_rateFrontCloth_21 rfl ?_
  exact g_ireturn dX7_rateFrontCloth_22 rfl hf
def F_X7_rateOpening (one_0 : Int) (h : Mem) : Res := nm (wr h 1 12 (w64 ((h 1 12) + 10))) (fun (h_1 : Mem) => bd (F_X7_ratePlace one_0 h_1) (fun r_2 (h_3 : Mem) => some (w32 (r_2 + (h_3 34 4)), h_3)))
theorem S_X7_rateOpening (X : XS) (one_0 : Int) (o_one_0 : okO 0 one_0 = true) (h : Mem) : CT X yX7_rateOpening MX7_rateOpening (some .int) 0 1 [(2, 1), (2, one_0)] h (F_X7_rateOpening one_0 h) := by
  refine CT.ofI (by decide) rfl (Nat.le_of_ble_eq_true rfl) (fun r hf => ?_)
  unfold F_X7_rateOpening at hf
  show AJ X MX7_rateOpening (rmD 1) 0 [(2, 1), (2, one_0)] [] h (PH 0 r)
  refine q_aload_n dX7_rateOpening_0 rfl rfl ?_
  refine q_dup dX7_rateOpening_1 rfl (by decide) ?_
  refine g_get (k := 12) (kz := 12) dX7_rateOpening_2 rfl fg_X7_78 rfl rfl ?_
  refine q_ldc2 (z := 10) dX7_rateOpening_5 rfl kl_X7_350 (by decide +kernel) ?_
  refine q_ladd dX7_rateOpening_8 rfl ?_
  refine g_put (k := 12) (kz := 12) dX7_rateOpening_9 rfl fp_X7_78 rfl (fun q => q.2 rfl) rfl ?_
  obtain ⟨h_1, e_h_1, hf⟩ := nm_ex hf
  rw [← e_h_1]
  refine q_aload_n dX7_rateOpening_12 rfl rfl ?_
  refine q_aload_n dX7_rateOpening_13 rfl rfl ?_
  obtain ⟨r_2, h_3, e_4, hf⟩ := bd_ex hf
  refine g_Vi (vs := [(2, one_0)]) (st := []) dX7_rateOpening_14 rfl (S_X7_ratePlace X one_0 o_one_0 h_1) e_4 mf_X7_ratePlace ml_X7_289 rfl rfl rfl rfl ?_
  refine q_aload_n dX7_rateOpening_17 rfl rfl ?_
  refine g_getF (k := 5) (o := 32) (z := 33) dX7_rateOpening_18 rfl fg_X7_40 rfl rfl rfl ?_
  refine g_getF (k := 0) (o := 1) (z := 34) dX7_rateOpening_21 rfl fg_X7_150 rfl rfl rfl ?_
  refine q_iconst dX7_rateOpening_24 rfl rfl ?_
  refine q_iaload dX7_rateOpening_25 rfl rfl (by decide) ?_
  refine q_iadd dX7_rateOpening_26 rfl ?_
  exact g_ireturn dX7_rateOpening_27 rfl hf
def F_X7_rateSecond (one_0 : Int) (h : Mem) : Res := nm (wr h 1 12 (w64 ((h 1 12) + 1000))) (fun (h_1 : Mem) => bd (F_X7_rateOpening one_0 h_1) (fun r_2 (h_3 : Mem) => some (w32 (2 * r_2), h_3)))
theorem S_X7_rateSecond (X : XS) (one_0 : Int) (o_one_0 : okO 0 one_0 = true) (h : Mem) : CT X yX7_rateSecond MX7_rateSecond (some .int) 0 2 [(2, 1), (2, one_0)] h (F_X7_rateSecond one_0 h) := by
  refine CT.ofI (by decide) rfl (Nat.le_of_ble_eq_true rfl) (fun r hf => ?_)
  unfold F_X7_rateSecond at hf
  show AJ X MX7_rateSecond (rmD 2) 0 [(2, 1), (2, one_0)] [] h (PH 0 r)
  refine q_aload_n dX7_rateSecond_0 rfl rfl ?_
  refine q_dup dX7_rateSecond_1 rfl (by decide) ?_
  refine g_get (k := 12) (kz := 12) dX7_rateSecond_2 rfl fg_X7_78 rfl rfl ?_
  refine q_ldc2 (z := 1000) dX7_rateSecond_5 rfl kl_X7_354 (by decide +kernel) ?_
  refine q_ladd dX7_rateSecond_8 rfl ?_
  refine g_put (k := 12) (kz := 12) dX7_rateSecond_9 rfl fp_X7_78 rfl (fun q => q.2 rfl) rfl ?_
  obtain ⟨h_1, e_h_1, hf⟩ := nm_ex hf
  rw [← e_h_1]
  refine q_iconst dX7_rateSecond_12 rfl rfl ?_
  refine q_aload_n dX7_rateSecond_13 rfl rfl ?_
  refine q_aload_n dX7_rateSecond_14 rfl rfl ?_
  obtain ⟨r_2, h_3, e_4, hf⟩ := bd_ex hf
  refine g_Vi (vs := [(2, one_0)]) (st := [(0, 2)]) dX7_rateSecond_15 rfl (S_X7_rateOpening X one_0 o_one_0 h_1) e_4 mf_X7_rateOpening ml_X7_293 rfl rfl rfl rfl ?_
  refine q_imul dX7_rateSecond_18 rfl ?_
  exact g_ireturn dX7_rateSecond_19 rfl hf
def F_X7_rate (kind_0 i_0 : Int) (h : Mem) : Res := bd (F_X7_isAct i_0 h) (fun r_1 (h_2 : Mem) => if (¬ r_1 = 0) then (nm (h_2 1 1) (fun cast_6 => gd (okO 2 cast_6 = true) (gd (0 ≤ i_0 ∧ i_0 < 9) (nm ((cast_6 + 2 + i_0)) (fun one_9 => if kind_0 = 0 then (bd (F_X7_ratePlace one_9 h_2) (fun r_12 (h_13 : Mem) => some (r_12, h_13))) else (if kind_0 = 1 then (bd (F_X7_rateOpening one_9 h_2) (fun r_16 (h_17 : Mem) => some (r_16, h_17))) else (if kind_0 = 2 then (bd (F_X7_rateFrontCloth one_9 h_2) (fun r_20 (h_21 : Mem) => some (r_20, h_21))) else (if kind_0 = 3 then (bd (F_X7_rateSecond one_9 h_2) (fun r_24 (h_25 : Mem) => some (r_24, h_25))) else (if kind_0 = 4 then (bd (F_X7_rateDraw one_9 h_2) (fun r_28 (h_29 : Mem) => some (r_28, h_29))) else (if kind_0 = 5 then (bd (F_X7_rateClosing one_9 h_2) (fun r_32 (h_33 : Mem) => some (r_32, h_33))) else (some ((-1000000), h_2)))))))))))) else (some ((-1000000), h_2)))
theorem S_X7_rate (X : XS) (kind_0 : Int) (i_0 : Int) (h : Mem) : CT X yX7_rate MX7_rate (some .int) 0 3 [(2, 1), (0, kind_0), (0, i_0)] h (F_X7_rate kind_0 i_0 h) := by
  refine CT.ofI (by decide) rfl (Nat.le_of_ble_eq_true rfl) (fun r hf => ?_)
  unfold F_X7_rate at hf
  show AJ X MX7_rate (rmD 3) 0 [(2, 1), (0, kind_0), (0, i_0), (3, 0)] [] h (PH 0 r)
  refine q_aload_n dX7_rate_0 rfl rfl ?_
  refine q_iload_n dX7_rate_1 rfl rfl ?_
  obtain ⟨r_1, h_2, e_3, hf⟩ := bd_ex hf
  refine g_Vb (vs := [(0, i_0)]) (st := []) dX7_rate_2 rfl (S_X7_isAct X i_0 h) e_3 mf_X7_isAct ml_X7_106 rfl rfl rfl rfl (fun b_4 => ?_)
  refine q_if_ne (tgt := 12) dX7_rate_5 rfl (by decide) (fun c_5 => ?_) (fun c_5 => ?_)
  · replace hf := it_t hf (by omega)
    refine q_aload_n dX7_rate_12 rfl rfl ?_
    refine g_get (k := 1) (kz := 1) dX7_rate_13 rfl fg_X7_19 rfl rfl ?_
    obtain ⟨cast_6, e_cast_6, hf⟩ := nm_ex hf
    rw [← e_cast_6]
    obtain ⟨o_cast_7, hf⟩ := gd_ex hf
    refine g_getF (k := 0) (o := 1) (z := (cast_6 + 1)) dX7_rate_16 rfl fg_X7_110 rfl o_cast_7 rfl ?_
    refine q_iload_n dX7_rate_19 rfl rfl ?_
    obtain ⟨g_8, hf⟩ := gd_ex hf
    refine q_aaloadF (z := (cast_6 + 2 + i_0)) dX7_rate_20 rfl (sf_2_0 o_cast_7) (by decide) g_8 rfl (by omega) ?_
    obtain ⟨one_9, e_one_9, hf⟩ := nm_ex hf
    rw [← e_one_9]
    have o_one_9 : okO 0 one_9 = true := by rw [e_one_9]; exact (ok_mem o_cast_7 g_8)
    refine q_astore_n (ls' := [(2, 1), (0, kind_0), (0, i_0), (2, one_9)]) dX7_rate_21 rfl rfl (okO_ne o_one_9) (Nat.le_of_ble_eq_true rfl) rfl ?_
    refine q_iload_n dX7_rate_22 rfl rfl ?_
    by_cases c_11 : kind_0 = 0
    · replace hf := it_t hf c_11
      refine g_tsw (c := 0) (off := 37) (tgt := 60) dX7_rate_23 c_11 (by decide) rfl (by decide) ?_
      refine q_aload_n dX7_rate_60 rfl rfl ?_
      refine q_aload_n dX7_rate_61 rfl rfl ?_
      obtain ⟨r_12, h_13, e_14, hf⟩ := bd_ex hf
      refine g_Vi (vs := [(2, one_9)]) (st := []) dX7_rate_62 rfl (S_X7_ratePlace X one_9 o_one_9 h_2) e_14 mf_X7_ratePlace ml_X7_289 rfl rfl rfl rfl ?_
      exact g_ireturn dX7_rate_65 rfl hf
    · replace hf := it_f hf c_11
      by_cases c_15 : kind_0 = 1
      · replace hf := it_t hf c_15
        refine g_tsw (c := 1) (off := 43) (tgt := 66) dX7_rate_23 c_15 (by decide) rfl (by decide) ?_
        refine q_aload_n dX7_rate_66 rfl rfl ?_
        refine q_aload_n dX7_rate_67 rfl rfl ?_
        obtain ⟨r_16, h_17, e_18, hf⟩ := bd_ex hf
        refine g_Vi (vs := [(2, one_9)]) (st := []) dX7_rate_68 rfl (S_X7_rateOpening X one_9 o_one_9 h_2) e_18 mf_X7_rateOpening ml_X7_293 rfl rfl rfl rfl ?_
        exact g_ireturn dX7_rate_71 rfl hf
      · replace hf := it_f hf c_15
        by_cases c_19 : kind_0 = 2
        · replace hf := it_t hf c_19
          refine g_tsw (c := 2) (off := 49) (tgt := 72) dX7_rate_23 c_19 (by decide) rfl (by decide) ?_
          refine q_aload_n dX7_rate_72 rfl rfl ?_
          refine q_aload_n dX7_rate_73 rfl rfl ?_
          obtain ⟨r_20, h_21, e_22, hf⟩ := bd_ex hf
          refine g_Vi (vs := [(2, one_9)]) (st := []) dX7_rate_74 rfl (S_X7_rateFrontCloth X one_9 o_one_9 h_2) e_22 mf_X7_rateFrontCloth ml_X7_296 rfl rfl rfl rfl ?_
          exact g_ireturn dX7_rate_77 rfl hf
        · replace hf := it_f hf c_19
          by_cases c_23 : kind_0 = 3
          · replace hf := it_t hf c_23
            refine g_tsw (c := 3) (off := 55) (tgt := 78) dX7_rate_23 c_23 (by decide) rfl (by decide) ?_
            refine q_aload_n dX7_rate_78 rfl rfl ?_
            refine q_aload_n dX7_rate_79 rfl rfl ?_
            obtain ⟨r_24, h_25, e_26, hf⟩ := bd_ex hf
            refine g_Vi (vs := [(2, one_9)]) (st := []) dX7_rate_80 rfl (S_X7_rateSecond X one_9 o_one_9 h_2) e_26 mf_X7_rateSecond ml_X7_299 rfl rfl rfl rfl ?_
            exact g_ireturn dX7_rate_83 rfl hf
          · replace hf := it_f hf c_23
            by_cases c_27 : kind_0 = 4
            · replace hf := it_t hf c_27
              refine g_tsw (c := 4) (off := 61) (tgt := 84) dX7_rate_23 c_27 (by decide) rfl (by decide) ?_
              refine q_aload_n dX7_rate_84 rfl rfl ?_
              refine q_aload_n dX7_rate_85 rfl rfl ?_
              obtain ⟨r_28, h_29, e_30, hf⟩ := bd_ex hf
              refine g_Vi (vs := [(2, one_9)]) (st := []) dX7_rate_86 rfl (S_X7_rateDraw X one_9 o_one_9 h_2) e_30 mf_X7_rateDraw ml_X7_302 rfl rfl rfl rfl ?_
              exact g_ireturn dX7_rate_89 rfl hf
            · replace hf := it_f hf c_27
              by_cases c_31 : kind_0 = 5
              · replace hf := it_t hf c_31
                refine g_tsw (c := 5) (off := 67) (tgt := 90) dX7_rate_23 c_31 (by decide) rfl (by decide) ?_
                refine q_aload_n dX7_rate_90 rfl rfl ?_
                refine q_aload_n dX7_rate_91 rfl rfl ?_
                obtain ⟨r_32, h_33, e_34, hf⟩ := bd_ex hf
                refine g_Vi (vs := [(2, one_9)]) (st := []) dX7_rate_92 rfl (S_X7_rateClosing X one_9 o_one_9 h_2) e_34 mf_X7_rateClosing ml_X7_305 rfl rfl rfl rfl ?_
                exact g_ireturn dX7_rate_95 rfl hf
              · replace hf := it_f hf c_31
                refine g_tswD (tgt := 96) dX7_rate_23 (by omega) (by decide) ?_
                refine q_ldcw (z := (-1000000)) dX7_rate_96 rfl kc_X7_256 (by decide +kernel) ?_
                exact g_ireturn dX7_rate_99 rfl hf
  · replace hf := it_f hf (by omega)
    refine q_ldcw (z := (-1000000)) dX7_rate_8 rfl kc_X7_256 (by decide +kernel) ?_
    exact g_ireturn dX7_rate_11 rfl hf
def F_X7_keep (image_0 : Int) (h : Mem) : Res := if ((image_0 < 0) ∨ (2 ≤ image_0)) then (some ((-1), h)) else (gd (0 ≤ image_0 ∧ image_0 < 2) (bd (F_X1_copy (29 + 2 * image_0) 26 h) (fun _ (h_3 : Mem) => nm (wr h_3 (29 + 2 * image_0) 4 1) (fun (h_5 : Mem) => some (h_5 26 1, h_5)))))
theorem S_X7_keep (X : XS) (image_0 : Int) (h : Mem) : CT X yX7_keep MX7_keep (some .int) 0 1 [(2, 1), (0, image_0)] h (F_X7_keep image_0 h) := by
  refine CT.ofI (by decide) rfl (Nat.le_of_ble_eq_true rfl) (fun r hf => ?_)
  unfold F_X7_keep at hf
  show AJ X MX7_keep (rmD 1) 0 [(2, 1), (0, image_0)] [] h (PH 0 r)
  have HT_6 : ((image_0 < 0) ∨ (2 ≤ image_0)) → AJ X MX7_keep (rmD 1) 9 [(2, 1), (0, image_0)] [] h (PH 0 r) := by
    intro hc
    replace hf := it_t hf hc
    refine q_iconst dX7_keep_9 rfl rfl ?_
    exact g_ireturn dX7_keep_10 rfl hf
  refine q_iload_n dX7_keep_0 rfl rfl ?_
  refine q_if_lt (tgt := 9) dX7_keep_1 rfl (by decide) (fun c_7 => ?_) (fun c_7 => ?_)
  · exact HT_6 (by omega)
  · refine q_iload_n dX7_keep_4 rfl rfl ?_
    refine q_iconst dX7_keep_5 rfl rfl ?_
    refine q_icmp_lt (tgt := 11) dX7_keep_6 rfl (by decide) (fun c_8 => ?_) (fun c_8 => ?_)
    · replace hf := it_f hf (by omega)
      refine q_aload_n dX7_keep_11 rfl rfl ?_
      refine g_getF (k := 4) (o := 27) (z := 28) dX7_keep_12 rfl fg_X7_33 rfl rfl rfl ?_
      refine q_iload_n dX7_keep_15 rfl rfl ?_
      obtain ⟨g_1, hf⟩ := gd_ex hf
      refine q_aaloadF (z := (29 + 2 * image_0)) dX7_keep_16 rfl rfl (by decide) g_1 rfl (by omega) ?_
      refine q_aload_n dX7_keep_17 rfl rfl ?_
      refine g_getF (k := 3) (o := 25) (z := 26) dX7_keep_18 rfl fg_X7_29 rfl rfl rfl ?_
      obtain ⟨r_2, h_3, e_4, hf⟩ := bd_ex hf
      refine g_Vv (vs := [(2, 26)]) (st := []) dX7_keep_21 rfl (S_X1_copy X (29 + 2 * image_0) (ok_img g_1) 26 rfl h) e_4 mf_X1_copy ml_X7_308 (ok_img g_1) rfl rfl rfl ?_
      refine q_aload_n dX7_keep_24 rfl rfl ?_
      refine g_getF (k := 4) (o := 27) (z := 28) dX7_keep_25 rfl fg_X7_33 rfl rfl rfl ?_
      refine q_iload_n dX7_keep_28 rfl rfl ?_
      refine q_aaloadF (z := (29 + 2 * image_0)) dX7_keep_29 rfl rfl (by decide) g_1 rfl (by omega) ?_
      refine q_iconst dX7_keep_30 rfl rfl ?_
      refine g_put (k := 4) (kz := 4) dX7_keep_31 rfl fp_X7_103 rfl (fun _ => Or.inr rfl) (ok_img g_1) ?_
      obtain ⟨h_5, e_h_5, hf⟩ := nm_ex hf
      rw [← e_h_5]
      refine q_aload_n dX7_keep_34 rfl rfl ?_
      refine g_getF (k := 3) (o := 25) (z := 26) dX7_keep_35 rfl fg_X7_29 rfl rfl rfl ?_
      refine g_get (k := 1) (kz := 1) dX7_keep_38 rfl fg_X7_159 rfl rfl ?_
      exact g_ireturn dX7_keep_41 rfl hf
    · exact HT_6 (by omega)
def F_X7_back (image_0 : Int) (h : Mem) : Res := if ((image_0 < 0) ∨ (2 ≤ image_0)) then (some ((-1), h)) else (gd (0 ≤ image_0 ∧ image_0 < 2) (if (¬ (h (29 + 2 * image_0) 4) = 0) then (bd (F_X1_copy 26 (29 + 2 * image_0) h) (fun _ (h_4 : Mem) => nm (wr h_4 1 11 0) (fun (h_6 : Mem) => some (h_6 26 1, h_6)))) else (some ((-2), h))))
theorem S_X7_back (X : XS) (image_0 : Int) (h : Mem) : CT X yX7_back MX7_back (some .int) 0 1 [(2, 1), (0, image_0)] h (F_X7_back image_0 h) := by
  refine CT.ofI (by decide) rfl (Nat.le_of_ble_eq_true rfl) (fun r hf => ?_)
  unfold F_X7_back at hf
  show AJ X MX7_back (rmD 1) 0 [(2, 1), (0, image_0)] [] h (PH 0 r)
  have HT_7 : ((image_0 < 0) ∨ (2 ≤ image_0)) → AJ X MX7_back (rmD 1) 9 [(2, 1), (0, image_0)] [] h (PH 0 r) := by
    intro hc
    replace hf := it_t hf hc
    refine q_iconst dX7_back_9 rfl rfl ?_
    exact g_ireturn dX7_back_10 rfl hf
  refine q_iload_n dX7_back_0 rfl rfl ?_
  refine q_if_lt (tgt := 9) dX7_back_1 rfl (by decide) (fun c_8 => ?_) (fun c_8 => ?_)
  · exact HT_7 (by omega)
  · refine q_iload_n dX7_back_4 rfl rfl ?_
    refine q_iconst dX7_back_5 rfl rfl ?_
    refine q_icmp_lt (tgt := 11) dX7_back_6 rfl (by decide) (fun c_9 => ?_) (fun c_9 => ?_)
    · replace hf := it_f hf (by omega)
      refine q_aload_n dX7_back_11 rfl rfl ?_
      refine g_getF (k := 4) (o := 27) (z := 28) dX7_back_12 rfl fg_X7_33 rfl rfl rfl ?_
      refine q_iload_n dX7_back_15 rfl rfl ?_
      obtain ⟨g_1, hf⟩ := gd_ex hf
      refine q_aaloadF (z := (29 + 2 * image_0)) dX7_back_16 rfl rfl (by decide) g_1 rfl (by omega) ?_
      refine g_get (k := 4) (kz := 4) dX7_back_17 rfl fg_X7_103 rfl (ok_img g_1) ?_
      refine q_if_ne (tgt := 26) dX7_back_20 rfl (by decide) (fun c_2 => ?_) (fun c_2 => ?_)
      · replace hf := it_t hf (by omega)
        refine q_aload_n dX7_back_26 rfl rfl ?_
        refine g_getF (k := 3) (o := 25) (z := 26) dX7_back_27 rfl fg_X7_29 rfl rfl rfl ?_
        refine q_aload_n dX7_back_30 rfl rfl ?_
        refine g_getF (k := 4) (o := 27) (z := 28) dX7_back_31 rfl fg_X7_33 rfl rfl rfl ?_
        refine q_iload_n dX7_back_34 rfl rfl ?_
        refine q_aaloadF (z := (29 + 2 * image_0)) dX7_back_35 rfl rfl (by decide) g_1 rfl (by omega) ?_
        obtain ⟨r_3, h_4, e_5, hf⟩ := bd_ex hf
        refine g_Vv (vs := [(2, (29 + 2 * image_0))]) (st := []) dX7_back_36 rfl (S_X1_copy X 26 rfl (29 + 2 * image_0) (ok_img g_1) h) e_5 mf_X1_copy ml_X7_308 rfl rfl rfl rfl ?_
        refine q_aload_n dX7_back_39 rfl rfl ?_
        refine q_iconst dX7_back_40 rfl rfl ?_
        refine g_put (k := 11) (kz := 11) dX7_back_41 rfl fp_X7_74 rfl (fun _ => Or.inl rfl) rfl ?_
        obtain ⟨h_6, e_h_6, hf⟩ := nm_ex hf
        rw [← e_h_6]
        refine q_aload_n dX7_back_44 rfl rfl ?_
        refine g_getF (k := 3) (o := 25) (z := 26) dX7_back_45 rfl fg_X7_29 rfl rfl rfl ?_
        refine g_get (k := 1) (kz := 1) dX7_back_48 rfl fg_X7_159 rfl rfl ?_
        exact g_ireturn dX7_back_51 rfl hf
      · replace hf := it_f hf (by omega)
        refine q_bipush dX7_back_23 rfl (by decide) ?_
        exact g_ireturn dX7_back_25 rfl hf
    · exact HT_7 (by omega)
def F_X7_count (what_0 : Int) (h : Mem) : Res := if what_0 = 0 then (nm (h 1 1) (fun cast_3 => gd (okO 2 cast_3 = true) (some (h cast_3 1, h)))) else (if what_0 = 1 then (some (h 26 1, h)) else (if what_0 = 2 then (some (h 26 2, h)) else (if what_0 = 3 then (some (h 51 2, h)) else (if what_0 = 4 then (some (h 2 1, h)) else (some ((-1), h))))))
theorem S_X7_count (X : XS) (what_0 : Int) (h : Mem) : CT X yX7_count MX7_count (some .int) 0 0 [(2, 1), (0, what_0)] h (F_X7_count what_0 h) := by
  refine CT.ofI (by decide) rfl (Nat.le_of_ble_eq_true rfl) (fun r hf => ?_)
  unfold F_X7_count at hf
  show AJ X MX7_count (rmD 0) 0 [(2, 1), (0, what_0)] [] h (PH 0 r)
  refine q_iload_n dX7_count_0 rfl rfl ?_
  by_cases c_2 : what_0 = 0
  · replace hf := it_t hf c_2
    refine g_tsw (c := 0) (off := 35) (tgt := 36) dX7_count_1 c_2 (by decide) rfl (by decide) ?_
    refine q_aload_n dX7_count_36 rfl rfl ?_
    refine g_get (k := 1) (kz := 1) dX7_count_37 rfl fg_X7_19 rfl rfl ?_
    obtain ⟨cast_3, e_cast_3, hf⟩ := nm_ex hf
    rw [← e_cast_3]
    obtain ⟨o_cast_4, hf⟩ := gd_ex hf
    refine g_get (k := 1) (kz := 1) dX7_count_40 rfl fg_X7_266 rfl o_cast_4 ?_
    exact g_ireturn dX7_count_43 rfl hf
  · replace hf := it_f hf c_2
    by_cases c_5 : what_0 = 1
    · replace hf := it_t hf c_5
      refine g_tsw (c := 1) (off := 43) (tgt := 44) dX7_count_1 c_5 (by decide) rfl (by decide) ?_
      refine q_aload_n dX7_count_44 rfl rfl ?_
      refine g_getF (k := 3) (o := 25) (z := 26) dX7_count_45 rfl fg_X7_29 rfl rfl rfl ?_
      refine g_get (k := 1) (kz := 1) dX7_count_48 rfl fg_X7_159 rfl rfl ?_
      exact g_ireturn dX7_count_51 rfl hf
    · replace hf := it_f hf c_5
      by_cases c_6 : what_0 = 2
      · replace hf := it_t hf c_6
        refine g_tsw (c := 2) (off := 51) (tgt := 52) dX7_count_1 c_6 (by decide) rfl (by decide) ?_
        refine q_aload_n dX7_count_52 rfl rfl ?_
        refine g_getF (k := 3) (o := 25) (z := 26) dX7_count_53 rfl fg_X7_29 rfl rfl rfl ?_
        refine g_get (k := 2) (kz := 2) dX7_count_56 rfl fg_X7_162 rfl rfl ?_
        exact g_ireturn dX7_count_59 rfl hf
      · replace hf := it_f hf c_6
        by_cases c_7 : what_0 = 3
        · replace hf := it_t hf c_7
          refine g_tsw (c := 3) (off := 59) (tgt := 60) dX7_count_1 c_7 (by decide) rfl (by decide) ?_
          refine q_aload_n dX7_count_60 rfl rfl ?_
          refine g_getF (k := 8) (o := 50) (z := 51) dX7_count_61 rfl fg_X7_57 rfl rfl rfl ?_
          refine g_get (k := 2) (kz := 2) dX7_count_64 rfl fg_X7_249 rfl rfl ?_
          exact g_ireturn dX7_count_67 rfl hf
        · replace hf := it_f hf c_7
          by_cases c_8 : what_0 = 4
          · replace hf := it_t hf c_8
            refine g_tsw (c := 4) (off := 67) (tgt := 68) dX7_count_1 c_8 (by decide) rfl (by decide) ?_
            refine q_aload_n dX7_count_68 rfl rfl ?_
            refine g_getF (k := 0) (o := 1) (z := 2) dX7_count_69 rfl fg_X7_10 rfl rfl rfl ?_
            refine g_get (k := 1) (kz := 1) dX7_count_72 rfl fg_X7_86 rfl rfl ?_
            exact g_ireturn dX7_count_75 rfl hf
          · replace hf := it_f hf c_8
            refine g_tswD (tgt := 76) dX7_count_1 (by omega) (by decide) ?_
            refine q_iconst dX7_count_76 rfl rfl ?_
            exact g_ireturn dX7_count_77 rfl hf
def F_X7_trace (h : Mem) : Res := some (h 1 12, h)
theorem S_X7_trace (X : XS) (h : Mem) : CT X yX7_trace MX7_trace (some .long) 1 0 [(2, 1)] h (F_X7_trace h) := by
  refine CT.ofL (by decide) rfl (Nat.le_of_ble_eq_true rfl) (fun r hf => ?_)
  unfold F_X7_trace at hf
  show AJ X MX7_trace (rmD 0) 0 [(2, 1)] [] h (PH 1 r)
  refine q_aload_n dX7_trace_0 rfl rfl ?_
  refine g_get (k := 12) (kz := 12) dX7_trace_1 rfl fg_X7_78 rfl rfl ?_
  exact g_lreturn dX7_trace_4 rfl hf
