def L_X4_append_1 (v_0 n_0 : Int) (Kx : Int → Mem → Res) : Nat → Int → Mem → Res
  | 0, _, _ => none
  | n + 1, k_3, h_2 => if ((0 ≤ k_3) ∧ ((h_2 2 1) < 400)) then (gd (0 ≤ (h_2 2 1) ∧ (h_2 2 1) < 400) (nm (wr h_2 3 (h_2 2 1) (i2c (w32 (land (lushr v_0 (w32 (8 * k_3))) 255)))) (fun (h_5 : Mem) => nm (wr h_5 2 1 (w32 ((h_5 2 1) + 1))) (fun (h_6 : Mem) => nm (w32 (k_3 + (-1))) (fun k_7 => L_X4_append_1 v_0 n_0 Kx n k_7 h_6))))) else (Kx k_3 h_2)
def F_X4_append (v_0 n_0 : Int) (h : Mem) : Res := nm (w32 (n_0 - 1)) (fun k_1 => L_X4_append_1 v_0 n_0 (fun k_12 (h_11 : Mem) => some (0, h_11)) FU k_1 h)
theorem SL_X4_append_1 (X : XS) (v_0 n_0 : Int) (Kx : Int → Mem → Res) {r : Int × Mem} (hK : ∀ (k_3 : Int) (h_2 : Mem), Kx k_3 h_2 = some r → AJ X MX4_append (rmD 0) 58 [(2, 2), (1, v_0), (3, 0), (0, n_0), (0, k_3)] [] h_2 (PH 9 r)) :
    ∀ (n : Nat) (k_3 : Int) (h_2 : Mem), L_X4_append_1 v_0 n_0 Kx n k_3 h_2 = some r → AJ X MX4_append (rmD 0) 5 [(2, 2), (1, v_0), (3, 0), (0, n_0), (0, k_3)] [] h_2 (PH 9 r) := by
  intro n
  induction n with
  | zero => intro k_3 h_2 hf; cases hf
  | succ n ih =>
    intro k_3 h_2 hf
    rw [L_X4_append_1] at hf
    have HF_8 : ¬ ((0 ≤ k_3) ∧ ((h_2 2 1) < 400)) → AJ X MX4_append (rmD 0) 58 [(2, 2), (1, v_0), (3, 0), (0, n_0), (0, k_3)] [] h_2 (PH 9 r) := by
      intro hc
      replace hf := it_f hf hc
      exact hK _ _ hf
    refine q_iload dX4_append_5 rfl rfl ?_
    refine q_if_lt (tgt := 58) dX4_append_7 rfl (by decide) (fun c_9 => ?_) (fun c_9 => ?_)
    · exact HF_8 (by omega)
    · refine q_aload_n dX4_append_10 rfl rfl ?_
      refine g_get (k := 1) (kz := 1) dX4_append_11 rfl fg_X4_15 rfl rfl ?_
      refine q_sipush dX4_append_14 rfl (by decide) ?_
      refine q_icmp_ge (tgt := 58) dX4_append_17 rfl (by decide) (fun c_10 => ?_) (fun c_10 => ?_)
      · exact HF_8 (by omega)
      · replace hf := it_t hf (by omega)
        refine q_aload_n dX4_append_20 rfl rfl ?_
        refine g_getF (k := 0) (o := 1) (z := 3) dX4_append_21 rfl fg_X4_9 rfl rfl rfl ?_
        refine q_aload_n dX4_append_24 rfl rfl ?_
        refine g_get (k := 1) (kz := 1) dX4_append_25 rfl fg_X4_15 rfl rfl ?_
        refine q_lload_n dX4_append_28 rfl rfl ?_
        refine q_bipush dX4_append_29 rfl (by decide) ?_
        refine q_iload dX4_append_31 rfl rfl ?_
        refine q_imul dX4_append_33 rfl ?_
        refine q_lushr dX4_append_34 rfl ?_
        refine q_ldc2 (z := 255) dX4_append_35 rfl kl_X4_19 (by decide +kernel) ?_
        refine q_land dX4_append_38 rfl ?_
        refine q_l2i dX4_append_39 rfl ?_
        refine q_i2c dX4_append_40 rfl ?_
        obtain ⟨g_4, hf⟩ := gd_ex hf
        refine q_castore dX4_append_41 rfl rfl g_4 (i2c_in _) ?_
        obtain ⟨h_5, e_h_5, hf⟩ := nm_ex hf
        rw [← e_h_5]
        refine q_aload_n dX4_append_42 rfl rfl ?_
        refine q_dup dX4_append_43 rfl (by decide) ?_
        refine g_get (k := 1) (kz := 1) dX4_append_44 rfl fg_X4_15 rfl rfl ?_
        refine q_iconst dX4_append_47 rfl rfl ?_
        refine q_iadd dX4_append_48 rfl ?_
        refine g_put (k := 1) (kz := 1) dX4_append_49 rfl fp_X4_15 rfl (fun q => q.1 rfl) rfl ?_
        obtain ⟨h_6, e_h_6, hf⟩ := nm_ex hf
        rw [← e_h_6]
        refine q_iinc (ls' := [(2, 2), (1, v_0), (3, 0), (0, n_0), (0, w32 (k_3 + (-1)))]) dX4_append_52 rfl rfl rfl ?_
        obtain ⟨k_7, e_k_7, hf⟩ := nm_ex hf
        rw [← e_k_7]
        refine q_goto (tgt := 5) dX4_append_55 rfl (by decide) ?_
        exact ih _ _ hf
theorem S_X4_append (X : XS) (v_0 : Int) (n_0 : Int) (h : Mem) : CT X yX4_append MX4_append none 9 0 [(2, 2), (1, v_0), (0, n_0)] h (F_X4_append v_0 n_0 h) := by
  refine CT.ofV (by decide) rfl (Nat.le_of_ble_eq_true rfl) (fun r hf => ?_)
  unfold F_X4_append at hf
  show AJ X MX4_append (rmD 0) 0 [(2, 2), (1, v_0), (3, 0), (0, n_0), (3, 0)] [] h (PH 9 r)
  refine q_iload_n dX4_append_0 rfl rfl ?_
  refine q_iconst dX4_append_1 rfl rfl ?_
  refine q_isub dX4_append_2 rfl ?_
  obtain ⟨k_1, e_k_1, hf⟩ := nm_ex hf
  rw [← e_k_1]
  refine q_istore (ls' := [(2, 2), (1, v_0), (3, 0), (0, n_0), (0, k_1)]) dX4_append_3 rfl (Nat.le_of_ble_eq_true rfl) rfl ?_
  refine SL_X4_append_1 X v_0 n_0  _ (fun k_12 h_11 hf => ?_) FU _ _ hf
  exact g_return dX4_append_58 rfl hf
def F_X4_isDigit (sign_0 : Int) (h : Mem) : Res := if ((48 ≤ sign_0) ∧ (sign_0 ≤ 57)) then (some (1, h)) else (some (0, h))
theorem S_X4_isDigit (X : XS) (sign_0 : Int) (h : Mem) : CB X yX4_isDigit MX4_isDigit 0 [(0, sign_0)] h (F_X4_isDigit sign_0 h) := by
  refine CB.of (by decide) rfl (Nat.le_of_ble_eq_true rfl) (fun r hf => ?_)
  unfold F_X4_isDigit at hf
  show AJ X MX4_isDigit (rmD 0) 0 [(0, sign_0)] [] h (PB r)
  have HF_1 : ¬ ((48 ≤ sign_0) ∧ (sign_0 ≤ 57)) → AJ X MX4_isDigit (rmD 0) 16 [(0, sign_0)] [] h (PB r) := by
    intro hc
    replace hf := it_f hf hc
    refine q_iconst dX4_isDigit_16 rfl rfl ?_
    exact g_breturn dX4_isDigit_17 rfl (Or.inl rfl) hf
  refine q_iload_n dX4_isDigit_0 rfl rfl ?_
  refine q_bipush dX4_isDigit_1 rfl (by decide) ?_
  refine q_icmp_lt (tgt := 16) dX4_isDigit_3 rfl (by decide) (fun c_2 => ?_) (fun c_2 => ?_)
  · exact HF_1 (by omega)
  · refine q_iload_n dX4_isDigit_6 rfl rfl ?_
    refine q_bipush dX4_isDigit_7 rfl (by decide) ?_
    refine q_icmp_gt (tgt := 16) dX4_isDigit_9 rfl (by decide) (fun c_3 => ?_) (fun c_3 => ?_)
    · exact HF_1 (by omega)
    · replace hf := it_t hf (by omega)
      refine q_iconst dX4_isDigit_12 rfl rfl ?_
      refine q_goto (tgt := 17) dX4_isDigit_13 rfl (by decide) ?_
      exact g_breturn dX4_isDigit_17 rfl (Or.inr rfl) hf
def F_X4_isLetter (sign_0 : Int) (h : Mem) : Res := if ((97 ≤ sign_0) ∧ (sign_0 ≤ 122)) then (some (1, h)) else (some (0, h))
theorem S_X4_isLetter (X : XS) (sign_0 : Int) (h : Mem) : CB X yX4_isLetter MX4_isLetter 0 [(0, sign_0)] h (F_X4_isLetter sign_0 h) := by
  refine CB.of (by decide) rfl (Nat.le_of_ble_eq_true rfl) (fun r hf => ?_)
  unfold F_X4_isLetter at hf
  show AJ X MX4_isLetter (rmD 0) 0 [(0, sign_0)] [] h (PB r)
  have HF_1 : ¬ ((97 ≤ sign_0) ∧ (sign_0 ≤ 122)) → AJ X MX4_isLetter (rmD 0) 16 [(0, sign_0)] [] h (PB r) := by
    intro hc
    replace hf := it_f hf hc
    refine q_iconst dX4_isLetter_16 rfl rfl ?_
    exact g_breturn dX4_isLetter_17 rfl (Or.inl rfl) hf
  refine q_iload_n dX4_isLetter_0 rfl rfl ?_
  refine q_bipush dX4_isLetter_1 rfl (by decide) ?_
  refine q_icmp_lt (tgt := 16) dX4_isLetter_3 rfl (by decide) (fun c_2 => ?_) (fun c_2 => ?_)
  · exact HF_1 (by omega)
  · refine q_iload_n dX4_isLetter_6 rfl rfl ?_
    refine q_bipush dX4_isLetter_7 rfl (by decide) ?_
    refine q_icmp_gt (tgt := 16) dX4_isLetter_9 rfl (by decide) (fun c_3 => ?_) (fun c_3 => ?_)
    · exact HF_1 (by omega)
    · replace hf := it_t hf (by omega)
      refine q_iconst dX4_isLetter_12 rfl rfl ?_
      refine q_goto (tgt := 17) dX4_isLetter_13 rfl (by decide) ?_
      exact g_breturn dX4_isLetter_17 rfl (Or.inr rfl) hf
def L_X4_readNumber_1 (Kx : Mem → Res) : Nat → Mem → Res
  | 0, _ => none
  | n + 1, h_2 => jn (fun (K_3 : Mem → Res) => if ((h_2 2 5) < (h_2 2 1)) then (gd (0 ≤ (h_2 2 5) ∧ (h_2 2 5) < 400) (bd (F_X4_isDigit (h_2 3 (h_2 2 5)) h_2) (fun r_7 (h_8 : Mem) => if (¬ r_7 = 0) then (gd (0 ≤ (h_8 2 5) ∧ (h_8 2 5) < 400) (nm (wr h_8 2 4 (mnI (w32 ((w32 ((h_8 2 4) * 10)) + (w32 ((h_8 3 (h_8 2 5)) - 48)))) 1000)) (fun (h_13 : Mem) => nm (wr h_13 2 5 (w32 ((h_13 2 5) + 1))) (fun (h_14 : Mem) => L_X4_readNumber_1 Kx n h_14)))) else (K_3 h_8)))) else (K_3 h_2)) (fun (h_4 : Mem) => Kx h_4)
def F_X4_readNumber (h : Mem) : Res := nm (wr h 2 4 0) (fun (h_1 : Mem) => L_X4_readNumber_1 (fun  (h_15 : Mem) => jn (fun (K_16 : Int → Mem → Res) => jn (fun (K_17 : Mem → Res) => gd (0 ≤ (h_15 2 3) ∧ (h_15 2 3) < 400) (if ((h_15 3 (h_15 2 3)) = 48) then (if (1 < (w32 ((h_15 2 5) - (h_15 2 3)))) then (K_16 1 h_15) else (K_17 h_15)) else (K_17 h_15))) (fun (h_18 : Mem) => K_16 0 h_18)) (fun v_23 (h_22 : Mem) => nm (α := Int) (if ((¬ v_23 = 0) ∨ (250 < (h_22 2 4))) then 1 else 2) (fun v_24 => nm (wr h_22 2 2 v_24) (fun (h_27 : Mem) => some (0, h_27))))) FU h_1)
theorem SL_X4_readNumber_1 (X : XS) (Kx : Mem → Res) {r : Int × Mem} (hK : ∀ (h_2 : Mem), Kx  h_2 = some r → AJ X MX4_readNumber (rmD 1) 74 [(2, 2), (3, 0)] [] h_2 (PH 9 r)) :
    ∀ (n : Nat) (h_2 : Mem), L_X4_readNumber_1 Kx n h_2 = some r → AJ X MX4_readNumber (rmD 1) 5 [(2, 2), (3, 0)] [] h_2 (PH 9 r) := by
  intro n
  induction n with
  | zero => intro  h_2 hf; cases hf
  | succ n ih =>
    intro  h_2 hf
    rw [L_X4_readNumber_1] at hf
    obtain ⟨K_3, J_K_3, hf⟩ := jn_ex (P := fun K => ∀ (h_4 : Mem), K h_4 = some r → AJ X MX4_readNumber (rmD 1) 74 [(2, 2), (3, 0)] [] h_4 (PH 9 r)) hf (by
        intro h_4 hf
        exact hK  _ hf)
    refine q_aload_n dX4_readNumber_5 rfl rfl ?_
    refine g_get (k := 5) (kz := 5) dX4_readNumber_6 rfl fg_X4_26 rfl rfl ?_
    refine q_aload_n dX4_readNumber_9 rfl rfl ?_
    refine g_get (k := 1) (kz := 1) dX4_readNumber_10 rfl fg_X4_15 rfl rfl ?_
    refine q_icmp_ge (tgt := 74) dX4_readNumber_13 rfl (by decide) (fun c_5 => ?_) (fun c_5 => ?_)
    · replace hf := it_f hf (by omega)
      exact J_K_3 _ hf
    · replace hf := it_t hf (by omega)
      refine q_aload_n dX4_readNumber_16 rfl rfl ?_
      refine g_getF (k := 0) (o := 1) (z := 3) dX4_readNumber_17 rfl fg_X4_9 rfl rfl rfl ?_
      refine q_aload_n dX4_readNumber_20 rfl rfl ?_
      refine g_get (k := 5) (kz := 5) dX4_readNumber_21 rfl fg_X4_26 rfl rfl ?_
      obtain ⟨g_6, hf⟩ := gd_ex hf
      refine q_caload dX4_readNumber_24 rfl rfl g_6 ?_
      obtain ⟨r_7, h_8, e_9, hf⟩ := bd_ex hf
      refine g_Sb (vs := [(0, h_2 3 (h_2 2 5))]) (st := []) dX4_readNumber_25 rfl (S_X4_isDigit X (h_2 3 (h_2 2 5)) h_2) e_9 mf_X4_isDigit ml_X4_111 rfl rfl rfl (fun b_10 => ?_)
      refine q_if_eq (tgt := 74) dX4_readNumber_28 rfl (by decide) (fun c_11 => ?_) (fun c_11 => ?_)
      · replace hf := it_f hf (by omega)
        exact J_K_3 _ hf
      · replace hf := it_t hf (by omega)
        refine q_aload_n dX4_readNumber_31 rfl rfl ?_
        refine q_aload_n dX4_readNumber_32 rfl rfl ?_
        refine g_get (k := 4) (kz := 4) dX4_readNumber_33 rfl fg_X4_72 rfl rfl ?_
        refine q_bipush dX4_readNumber_36 rfl (by decide) ?_
        refine q_imul dX4_readNumber_38 rfl ?_
        refine q_aload_n dX4_readNumber_39 rfl rfl ?_
        refine g_getF (k := 0) (o := 1) (z := 3) dX4_readNumber_40 rfl fg_X4_9 rfl rfl rfl ?_
        refine q_aload_n dX4_readNumber_43 rfl rfl ?_
        refine g_get (k := 5) (kz := 5) dX4_readNumber_44 rfl fg_X4_26 rfl rfl ?_
        obtain ⟨g_12, hf⟩ := gd_ex hf
        refine q_caload dX4_readNumber_47 rfl rfl g_12 ?_
        refine q_bipush dX4_readNumber_48 rfl (by decide) ?_
        refine q_isub dX4_readNumber_50 rfl ?_
        refine q_iadd dX4_readNumber_51 rfl ?_
        refine q_sipush dX4_readNumber_52 rfl (by decide) ?_
        refine g_min dX4_readNumber_55 rfl ml_X4_141 mw_min rfl rfl ?_
        refine g_put (k := 4) (kz := 4) dX4_readNumber_58 rfl fp_X4_72 rfl (fun q => q.1 rfl) rfl ?_
        obtain ⟨h_13, e_h_13, hf⟩ := nm_ex hf
        rw [← e_h_13]
        refine q_aload_n dX4_readNumber_61 rfl rfl ?_
        refine q_dup dX4_readNumber_62 rfl (by decide) ?_
        refine g_get (k := 5) (kz := 5) dX4_readNumber_63 rfl fg_X4_26 rfl rfl ?_
        refine q_iconst dX4_readNumber_66 rfl rfl ?_
        refine q_iadd dX4_readNumber_67 rfl ?_
        refine g_put (k := 5) (kz := 5) dX4_readNumber_68 rfl fp_X4_26 rfl (fun q => q.1 rfl) rfl ?_
        obtain ⟨h_14, e_h_14, hf⟩ := nm_ex hf
        rw [← e_h_14]
        refine q_goto (tgt := 5) dX4_readNumber_71 rfl (by decide) ?_
        exact ih  _ hf
theorem S_X4_readNumber (X : XS) (h : Mem) : CT X yX4_readNumber MX4_readNumber none 9 1 [(2, 2)] h (F_X4_readNumber h) := by
  refine CT.ofV (by decide) rfl (Nat.le_of_ble_eq_true rfl) (fun r hf => ?_)
  unfold F_X4_readNumber at hf
  show AJ X MX4_readNumber (rmD 1) 0 [(2, 2), (3, 0)] [] h (PH 9 r)
  refine q_aload_n dX4_readNumber_0 rfl rfl ?_
  refine q_iconst dX4_readNumber_1 rfl rfl ?_
  refine g_put (k := 4) (kz := 4) dX4_readNumber_2 rfl fp_X4_72 rfl (fun q => q.1 rfl) rfl ?_
  obtain ⟨h_1, e_h_1, hf⟩ := nm_ex hf
  rw [← e_h_1]
  refine SL_X4_readNumber_1 X   _ (fun  h_15 hf => ?_) FU  _ hf
  obtain ⟨K_16, J_K_16, hf⟩ := jn_ex (P := fun K => ∀ (v_23 : Int) (h_22 : Mem), K v_23 h_22 = some r → AJ X MX4_readNumber (rmD 1) 106 [(2, 2), (3, 0)] [(0, v_23)] h_22 (PH 9 r)) hf (by
      intro v_23 h_22 hf
      refine q_istore_n (ls' := [(2, 2), (0, v_23)]) dX4_readNumber_106 rfl rfl (Nat.le_of_ble_eq_true rfl) rfl ?_
      refine q_aload_n dX4_readNumber_107 rfl rfl ?_
      obtain ⟨v_24, e_v_24, hf⟩ := nm_ex hf
      have J_v_24 : AJ X MX4_readNumber (rmD 1) 127 [(2, 2), (0, v_23)] [(0, v_24), (2, 2)] h_22 (PH 9 r) := by
        refine g_put (k := 2) (kz := 2) dX4_readNumber_127 rfl fp_X4_32 rfl (fun q => q.1 rfl) rfl ?_
        obtain ⟨h_27, e_h_27, hf⟩ := nm_ex hf
        rw [← e_h_27]
        exact g_return dX4_readNumber_130 rfl hf
      clear hf
      refine q_iload_n dX4_readNumber_108 rfl rfl ?_
      refine q_if_ne (tgt := 122) dX4_readNumber_109 rfl (by decide) (fun c_25 => ?_) (fun c_25 => ?_)
      · refine q_iconst dX4_readNumber_122 rfl rfl ?_
        refine q_goto (tgt := 127) dX4_readNumber_123 rfl (by decide) ?_
        have e1 : v_24 = 1 := by omega
        subst e1
        exact J_v_24
      · refine q_aload_n dX4_readNumber_112 rfl rfl ?_
        refine g_get (k := 4) (kz := 4) dX4_readNumber_113 rfl fg_X4_72 rfl rfl ?_
        refine q_sipush dX4_readNumber_116 rfl (by decide) ?_
        refine q_icmp_le (tgt := 126) dX4_readNumber_119 rfl (by decide) (fun c_26 => ?_) (fun c_26 => ?_)
        · refine q_iconst dX4_readNumber_126 rfl rfl ?_
          have e1 : v_24 = 2 := by omega
          subst e1
          exact J_v_24
        · refine q_iconst dX4_readNumber_122 rfl rfl ?_
          refine q_goto (tgt := 127) dX4_readNumber_123 rfl (by decide) ?_
          have e1 : v_24 = 1 := by omega
          subst e1
          exact J_v_24)
  obtain ⟨K_17, J_K_17, hf⟩ := jn_ex (P := fun K => ∀ (h_18 : Mem), K h_18 = some r → AJ X MX4_readNumber (rmD 1) 105 [(2, 2), (3, 0)] [] h_18 (PH 9 r)) hf (by
      intro h_18 hf
      refine q_iconst dX4_readNumber_105 rfl rfl ?_
      exact J_K_16 _ _ hf)
  refine q_aload_n dX4_readNumber_74 rfl rfl ?_
  refine g_getF (k := 0) (o := 1) (z := 3) dX4_readNumber_75 rfl fg_X4_9 rfl rfl rfl ?_
  refine q_aload_n dX4_readNumber_78 rfl rfl ?_
  refine g_get (k := 3) (kz := 3) dX4_readNumber_79 rfl fg_X4_42 rfl rfl ?_
  obtain ⟨g_19, hf⟩ := gd_ex hf
  refine q_caload dX4_readNumber_82 rfl rfl g_19 ?_
  refine q_bipush dX4_readNumber_83 rfl (by decide) ?_
  refine q_icmp_ne (tgt := 105) dX4_readNumber_85 rfl (by decide) (fun c_20 => ?_) (fun c_20 => ?_)
  · replace hf := it_f hf (by omega)
    exact J_K_17 _ hf
  · replace hf := it_t hf (by omega)
    refine q_aload_n dX4_readNumber_88 rfl rfl ?_
    refine g_get (k := 5) (kz := 5) dX4_readNumber_89 rfl fg_X4_26 rfl rfl ?_
    refine q_aload_n dX4_readNumber_92 rfl rfl ?_
    refine g_get (k := 3) (kz := 3) dX4_readNumber_93 rfl fg_X4_42 rfl rfl ?_
    refine q_isub dX4_readNumber_96 rfl ?_
    refine q_iconst dX4_readNumber_97 rfl rfl ?_
    refine q_icmp_le (tgt := 105) dX4_readNumber_98 rfl (by decide) (fun c_21 => ?_) (fun c_21 => ?_)
    · replace hf := it_f hf (by omega)
      exact J_K_17 _ hf
    · replace hf := it_t hf (by omega)
      refine q_iconst dX4_readNumber_101 rfl rfl ?_
      refine q_goto (tgt := 106) dX4_readNumber_102 rfl (by decide) ?_
      exact J_K_16 _ _ hf
def L_X4_spells_1 (word_0 : Int) (Kx : Int → Mem → Res) : Nat → Int → Mem → Res
  | 0, _, _ => none
  | n + 1, k_3, h_2 => if (k_3 < (sLn word_0)) then (gd (0 ≤ (w32 ((h_2 2 3) + k_3)) ∧ (w32 ((h_2 2 3) + k_3)) < 400) (gd (0 ≤ k_3 ∧ k_3 < sLn word_0) (if (¬ (h_2 3 (w32 ((h_2 2 3) + k_3))) = (sCh word_0 k_3)) then (some (0, h_2)) else (nm (w32 (k_3 + 1)) (fun k_8 => L_X4_spells_1 word_0 Kx n k_8 h_2))))) else (Kx k_3 h_2)
def F_X4_spells (word_0 : Int) (h : Mem) : Res := if (¬ (w32 ((h 2 5) - (h 2 3))) = (sLn word_0)) then (some (0, h)) else (L_X4_spells_1 word_0 (fun k_10 (h_9 : Mem) => some (1, h_9)) FU 0 h)
theorem SL_X4_spells_1 (X : XS) (word_0 : Int) (w_word_0 : isS word_0) (Kx : Int → Mem → Res) {r : Int × Mem} (hK : ∀ (k_3 : Int) (h_2 : Mem), Kx k_3 h_2 = some r → AJ X MX4_spells (rmD 8) 55 [(2, 2), (2, word_0), (0, k_3)] [] h_2 (PB r)) :
    ∀ (n : Nat) (k_3 : Int) (h_2 : Mem), L_X4_spells_1 word_0 Kx n k_3 h_2 = some r → AJ X MX4_spells (rmD 8) 20 [(2, 2), (2, word_0), (0, k_3)] [] h_2 (PB r) := by
  intro n
  induction n with
  | zero => intro k_3 h_2 hf; cases hf
  | succ n ih =>
    intro k_3 h_2 hf
    rw [L_X4_spells_1] at hf
    refine q_iload_n dX4_spells_20 rfl rfl ?_
    refine q_aload_n dX4_spells_21 rfl rfl ?_
    refine g_slen dX4_spells_22 rfl w_word_0 ml_X4_132 rfl rfl ?_
    refine q_icmp_ge (tgt := 55) dX4_spells_25 rfl (by decide) (fun c_4 => ?_) (fun c_4 => ?_)
    · replace hf := it_f hf (by omega)
      exact hK _ _ hf
    · replace hf := it_t hf (by omega)
      refine q_aload_n dX4_spells_28 rfl rfl ?_
      refine g_getF (k := 0) (o := 1) (z := 3) dX4_spells_29 rfl fg_X4_9 rfl rfl rfl ?_
      refine q_aload_n dX4_spells_32 rfl rfl ?_
      refine g_get (k := 3) (kz := 3) dX4_spells_33 rfl fg_X4_42 rfl rfl ?_
      refine q_iload_n dX4_spells_36 rfl rfl ?_
      refine q_iadd dX4_spells_37 rfl ?_
      obtain ⟨g_5, hf⟩ := gd_ex hf
      refine q_caload dX4_spells_38 rfl rfl g_5 ?_
      refine q_aload_n dX4_spells_39 rfl rfl ?_
      refine q_iload_n dX4_spells_40 rfl rfl ?_
      obtain ⟨g_6, hf⟩ := gd_ex hf
      refine g_scha dX4_spells_41 rfl w_word_0 g_6 ml_X4_137 rfl rfl ?_
      refine q_icmp_eq (tgt := 49) dX4_spells_44 rfl (by decide) (fun c_7 => ?_) (fun c_7 => ?_)
      · replace hf := it_f hf (by omega)
        refine q_iinc (ls' := [(2, 2), (2, word_0), (0, w32 (k_3 + 1))]) dX4_spells_49 rfl rfl rfl ?_
        obtain ⟨k_8, e_k_8, hf⟩ := nm_ex hf
        rw [← e_k_8]
        refine q_goto (tgt := 20) dX4_spells_52 rfl (by decide) ?_
        exact ih _ _ hf
      · replace hf := it_t hf (by omega)
        refine q_iconst dX4_spells_47 rfl rfl ?_
        exact g_breturn dX4_spells_48 rfl (Or.inl rfl) hf
theorem S_X4_spells (X : XS) (word_0 : Int) (w_word_0 : isS word_0) (h : Mem) : CB X yX4_spells MX4_spells 8 [(2, 2), (2, word_0)] h (F_X4_spells word_0 h) := by
  refine CB.of (by decide) rfl (Nat.le_of_ble_eq_true rfl) (fun r hf => ?_)
  unfold F_X4_spells at hf
  show AJ X MX4_spells (rmD 8) 0 [(2, 2), (2, word_0), (3, 0)] [] h (PB r)
  refine q_aload_n dX4_spells_0 rfl rfl ?_
  refine g_get (k := 5) (kz := 5) dX4_spells_1 rfl fg_X4_26 rfl rfl ?_
  refine q_aload_n dX4_spells_4 rfl rfl ?_
  refine g_get (k := 3) (kz := 3) dX4_spells_5 rfl fg_X4_42 rfl rfl ?_
  refine q_isub dX4_spells_8 rfl ?_
  refine q_aload_n dX4_spells_9 rfl rfl ?_
  refine g_slen dX4_spells_10 rfl w_word_0 ml_X4_132 rfl rfl ?_
  refine q_icmp_eq (tgt := 18) dX4_spells_13 rfl (by decide) (fun c_1 => ?_) (fun c_1 => ?_)
  · replace hf := it_f hf (by omega)
    refine q_iconst dX4_spells_18 rfl rfl ?_
    refine q_istore_n (ls' := [(2, 2), (2, word_0), (0, 0)]) dX4_spells_19 rfl rfl (Nat.le_of_ble_eq_true rfl) rfl ?_
    refine SL_X4_spells_1 X word_0 w_word_0 _ (fun k_10 h_9 hf => ?_) FU _ _ hf
    refine q_iconst dX4_spells_55 rfl rfl ?_
    exact g_breturn dX4_spells_56 rfl (Or.inr rfl) hf
  · replace hf := it_t hf (by omega)
    refine q_iconst dX4_spells_16 rfl rfl ?_
    exact g_breturn dX4_spells_17 rfl (Or.inl rfl) hf
def L_X4_readWord_1 (Kx : Mem → Res) : Nat → Mem → Res
  | 0, _ => none
  | n + 1, h_1 => jn (fun (K_2 : Mem → Res) => if ((h_1 2 5) < (h_1 2 1)) then (gd (0 ≤ (h_1 2 5) ∧ (h_1 2 5) < 400) (bd (F_X4_isLetter (h_1 3 (h_1 2 5)) h_1) (fun r_6 (h_7 : Mem) => if (¬ r_6 = 0) then (nm (wr h_7 2 5 (w32 ((h_7 2 5) + 1))) (fun (h_11 : Mem) => L_X4_readWord_1 Kx n h_11)) else (K_2 h_7)))) else (K_2 h_1)) (fun (h_3 : Mem) => Kx h_3)
def F_X4_readWord (h : Mem) : Res := L_X4_readWord_1 (fun  (h_12 : Mem) => bd (F_X4_spells (-10) h_12) (fun r_13 (h_14 : Mem) => if (¬ r_13 = 0) then (nm (wr h_14 2 2 4) (fun (h_18 : Mem) => some (0, h_18))) else (jn (fun (K_19 : Mem → Res) => bd (F_X4_spells (-11) h_14) (fun r_20 (h_21 : Mem) => if (¬ r_20 = 0) then (nm (wr h_21 2 2 5) (fun (h_25 : Mem) => K_19 h_25)) else (jn (fun (K_26 : Mem → Res) => bd (F_X4_spells (-12) h_21) (fun r_27 (h_28 : Mem) => if (¬ r_27 = 0) then (nm (wr h_28 2 2 6) (fun (h_32 : Mem) => K_26 h_32)) else (jn (fun (K_33 : Mem → Res) => bd (F_X4_spells (-13) h_28) (fun r_34 (h_35 : Mem) => if (¬ r_34 = 0) then (nm (wr h_35 2 2 7) (fun (h_39 : Mem) => K_33 h_39)) else (jn (fun (K_40 : Mem → Res) => bd (F_X4_spells (-14) h_35) (fun r_41 (h_42 : Mem) => if (¬ r_41 = 0) then (nm (wr h_42 2 2 8) (fun (h_46 : Mem) => K_40 h_46)) else (jn (fun (K_47 : Mem → Res) => bd (F_X4_spells (-15) h_42) (fun r_48 (h_49 : Mem) => if (¬ r_48 = 0) then (nm (wr h_49 2 2 9) (fun (h_53 : Mem) => K_47 h_53)) else (jn (fun (K_54 : Int → Mem → Res) => bd (F_X4_spells (-16) h_49) (fun r_55 (h_56 : Mem) => if (¬ r_55 = 0) then (K_54 10 h_56) else (K_54 1 h_56))) (fun v_61 (h_60 : Mem) => nm (wr h_60 2 2 v_61) (fun (h_62 : Mem) => K_47 h_62))))) (fun  (h_63 : Mem) => K_40 h_63)))) (fun  (h_64 : Mem) => K_33 h_64)))) (fun  (h_65 : Mem) => K_26 h_65)))) (fun  (h_66 : Mem) => K_19 h_66)))) (fun  (h_67 : Mem) => some (0, h_67))))) FU h
theorem SL_X4_readWord_1 (X : XS) (Kx : Mem → Res) {r : Int × Mem} (hK : ∀ (h_1 : Mem), Kx  h_1 = some r → AJ X MX4_readWord (rmD 9) 39 [(2, 2)] [] h_1 (PH 9 r)) :
    ∀ (n : Nat) (h_1 : Mem), L_X4_readWord_1 Kx n h_1 = some r → AJ X MX4_readWord (rmD 9) 0 [(2, 2)] [] h_1 (PH 9 r) := by
  intro n
  induction n with
  | zero => intro  h_1 hf; cases hf
  | succ n ih =>
    intro  h_1 hf
    rw [L_X4_readWord_1] at hf
    obtain ⟨K_2, J_K_2, hf⟩ := jn_ex (P := fun K => ∀ (h_3 : Mem), K h_3 = some r → AJ X MX4_readWord (rmD 9) 39 [(2, 2)] [] h_3 (PH 9 r)) hf (by
        intro h_3 hf
        exact hK  _ hf)
    refine q_aload_n dX4_readWord_0 rfl rfl ?_
    refine g_get (k := 5) (kz := 5) dX4_readWord_1 rfl fg_X4_26 rfl rfl ?_
    refine q_aload_n dX4_readWord_4 rfl rfl ?_
    refine g_get (k := 1) (kz := 1) dX4_readWord_5 rfl fg_X4_15 rfl rfl ?_
    refine q_icmp_ge (tgt := 39) dX4_readWord_8 rfl (by decide) (fun c_4 => ?_) (fun c_4 => ?_)
    · replace hf := it_f hf (by omega)
      exact J_K_2 _ hf
    · replace hf := it_t hf (by omega)
      refine q_aload_n dX4_readWord_11 rfl rfl ?_
      refine g_getF (k := 0) (o := 1) (z := 3) dX4_readWord_12 rfl fg_X4_9 rfl rfl rfl ?_
      refine q_aload_n dX4_readWord_15 rfl rfl ?_
      refine g_get (k := 5) (kz := 5) dX4_readWord_16 rfl fg_X4_26 rfl rfl ?_
      obtain ⟨g_5, hf⟩ := gd_ex hf
      refine q_caload dX4_readWord_19 rfl rfl g_5 ?_
      obtain ⟨r_6, h_7, e_8, hf⟩ := bd_ex hf
      refine g_Sb (vs := [(0, h_1 3 (h_1 2 5))]) (st := []) dX4_readWord_20 rfl (S_X4_isLetter X (h_1 3 (h_1 2 5)) h_1) e_8 mf_X4_isLetter ml_X4_104 rfl rfl rfl (fun b_9 => ?_)
      refine q_if_eq (tgt := 39) dX4_readWord_23 rfl (by decide) (fun c_10 => ?_) (fun c_10 => ?_)
      · replace hf := it_f hf (by omega)
        exact J_K_2 _ hf
      · replace hf := it_t hf (by omega)
        refine q_aload_n dX4_readWord_26 rfl rfl ?_
        refine q_dup dX4_readWord_27 rfl (by decide) ?_
        refine g_get (k := 5) (kz := 5) dX4_readWord_28 rfl fg_X4_26 rfl rfl ?_
        refine q_iconst dX4_readWord_31 rfl rfl ?_
        refine q_iadd dX4_readWord_32 rfl ?_
        refine g_put (k := 5) (kz := 5) dX4_readWord_33 rfl fp_X4_26 rfl (fun q => q.1 rfl) rfl ?_
        obtain ⟨h_11, e_h_11, hf⟩ := nm_ex hf
        rw [← e_h_11]
        refine q_goto (tgt := 0) dX4_readWord_36 rfl (by decide) ?_
        exact ih  _ hf
theorem S_X4_readWord (X : XS) (h : Mem) : CT X yX4_readWord MX4_readWord none 9 9 [(2, 2)] h (F_X4_readWord h) := by
  refine CT.ofV (by decide) rfl (Nat.le_of_ble_eq_true rfl) (fun r hf => ?_)
  unfold F_X4_readWord at hf
  show AJ X MX4_readWord (rmD 9) 0 [(2, 2)] [] h (PH 9 r)
  refine SL_X4_readWord_1 X   _ (fun  h_12 hf => ?_) FU  _ hf
  refine q_aload_n dX4_readWord_39 rfl rfl ?_
  refine q_ldcS (i := 0) (z := (-10)) dX4_readWord_40 rfl (by decide) rfl rfl rfl ?_
  obtain ⟨r_13, h_14, e_15, hf⟩ := bd_ex hf
  refine g_Vb (vs := [(2, (-10))]) (st := []) dX4_readWord_42 rfl (S_X4_spells X (-10) (isS_lit 0 (by decide) (by decide)) h_12) e_15 mf_X4_spells ml_X4_119 rfl rfl rfl rfl (fun b_16 => ?_)
  refine q_if_eq (tgt := 56) dX4_readWord_45 rfl (by decide) (fun c_17 => ?_) (fun c_17 => ?_)
  · replace hf := it_f hf (by omega)
    obtain ⟨K_19, J_K_19, hf⟩ := jn_ex (P := fun K => ∀ (h_67 : Mem), K  h_67 = some r → AJ X MX4_readWord (rmD 9) 164 [(2, 2)] [] h_67 (PH 9 r)) hf (by
        intro  h_67 hf
        exact g_return dX4_readWord_164 rfl hf)
    refine q_aload_n dX4_readWord_56 rfl rfl ?_
    refine q_ldcS (i := 1) (z := (-11)) dX4_readWord_57 rfl (by decide) rfl rfl rfl ?_
    obtain ⟨r_20, h_21, e_22, hf⟩ := bd_ex hf
    refine g_Vb (vs := [(2, (-11))]) (st := []) dX4_readWord_59 rfl (S_X4_spells X (-11) (isS_lit 1 (by decide) (by decide)) h_14) e_22 mf_X4_spells ml_X4_119 rfl rfl rfl rfl (fun b_23 => ?_)
    refine q_if_eq (tgt := 73) dX4_readWord_62 rfl (by decide) (fun c_24 => ?_) (fun c_24 => ?_)
    · replace hf := it_f hf (by omega)
      obtain ⟨K_26, J_K_26, hf⟩ := jn_ex (P := fun K => ∀ (h_66 : Mem), K  h_66 = some r → AJ X MX4_readWord (rmD 9) 164 [(2, 2)] [] h_66 (PH 9 r)) hf (by
          intro  h_66 hf
          exact J_K_19 _ hf)
      refine q_aload_n dX4_readWord_73 rfl rfl ?_
      refine q_ldcS (i := 2) (z := (-12)) dX4_readWord_74 rfl (by decide) rfl rfl rfl ?_
      obtain ⟨r_27, h_28, e_29, hf⟩ := bd_ex hf
      refine g_Vb (vs := [(2, (-12))]) (st := []) dX4_readWord_76 rfl (S_X4_spells X (-12) (isS_lit 2 (by decide) (by decide)) h_21) e_29 mf_X4_spells ml_X4_119 rfl rfl rfl rfl (fun b_30 => ?_)
      refine q_if_eq (tgt := 91) dX4_readWord_79 rfl (by decide) (fun c_31 => ?_) (fun c_31 => ?_)
      · replace hf := it_f hf (by omega)
        obtain ⟨K_33, J_K_33, hf⟩ := jn_ex (P := fun K => ∀ (h_65 : Mem), K  h_65 = some r → AJ X MX4_readWord (rmD 9) 164 [(2, 2)] [] h_65 (PH 9 r)) hf (by
            intro  h_65 hf
            exact J_K_26 _ hf)
        refine q_aload_n dX4_readWord_91 rfl rfl ?_
        refine q_ldcS (i := 3) (z := (-13)) dX4_readWord_92 rfl (by decide) rfl rfl rfl ?_
        obtain ⟨r_34, h_35, e_36, hf⟩ := bd_ex hf
        refine g_Vb (vs := [(2, (-13))]) (st := []) dX4_readWord_94 rfl (S_X4_spells X (-13) (isS_lit 3 (by decide) (by decide)) h_28) e_36 mf_X4_spells ml_X4_119 rfl rfl rfl rfl (fun b_37 => ?_)
        refine q_if_eq (tgt := 109) dX4_readWord_97 rfl (by decide) (fun c_38 => ?_) (fun c_38 => ?_)
        · replace hf := it_f hf (by omega)
          obtain ⟨K_40, J_K_40, hf⟩ := jn_ex (P := fun K => ∀ (h_64 : Mem), K  h_64 = some r → AJ X MX4_readWord (rmD 9) 164 [(2, 2)] [] h_64 (PH 9 r)) hf (by
              intro  h_64 hf
              exact J_K_33 _ hf)
          refine q_aload_n dX4_readWord_109 rfl rfl ?_
          refine q_ldcS (i := 4) (z := (-14)) dX4_readWord_110 rfl (by decide) rfl rfl rfl ?_
          obtain ⟨r_41, h_42, e_43, hf⟩ := bd_ex hf
          refine g_Vb (vs := [(2, (-14))]) (st := []) dX4_readWord_112 rfl (S_X4_spells X (-14) (isS_lit 4 (by decide) (by decide)) h_35) e_43 mf_X4_spells ml_X4_119 rfl rfl rfl rfl (fun b_44 => ?_)
          refine q_if_eq (tgt := 127) dX4_readWord_115 rfl (by decide) (fun c_45 => ?_) (fun c_45 => ?_)
          · replace hf := it_f hf (by omega)
            obtain ⟨K_47, J_K_47, hf⟩ := jn_ex (P := fun K => ∀ (h_63 : Mem), K  h_63 = some r → AJ X MX4_readWord (rmD 9) 164 [(2, 2)] [] h_63 (PH 9 r)) hf (by
                intro  h_63 hf
                exact J_K_40 _ hf)
            refine q_aload_n dX4_readWord_127 rfl rfl ?_
            refine q_ldcS (i := 5) (z := (-15)) dX4_readWord_128 rfl (by decide) rfl rfl rfl ?_
            obtain ⟨r_48, h_49, e_50, hf⟩ := bd_ex hf
            refine g_Vb (vs := [(2, (-15))]) (st := []) dX4_readWord_130 rfl (S_X4_spells X (-15) (isS_lit 5 (by decide) (by decide)) h_42) e_50 mf_X4_spells ml_X4_119 rfl rfl rfl rfl (fun b_51 => ?_)
            refine q_if_eq (tgt := 145) dX4_readWord_133 rfl (by decide) (fun c_52 => ?_) (fun c_52 => ?_)
            · replace hf := it_f hf (by omega)
              refine q_aload_n dX4_readWord_145 rfl rfl ?_
              obtain ⟨K_54, J_K_54, hf⟩ := jn_ex (P := fun K => ∀ (v_61 : Int) (h_60 : Mem), K v_61 h_60 = some r → AJ X MX4_readWord (rmD 9) 161 [(2, 2)] [(0, v_61), (2, 2)] h_60 (PH 9 r)) hf (by
                  intro v_61 h_60 hf
                  refine g_put (k := 2) (kz := 2) dX4_readWord_161 rfl fp_X4_32 rfl (fun q => q.1 rfl) rfl ?_
                  obtain ⟨h_62, e_h_62, hf⟩ := nm_ex hf
                  rw [← e_h_62]
                  exact J_K_47 _ hf)
              refine q_aload_n dX4_readWord_146 rfl rfl ?_
              refine q_ldcS (i := 6) (z := (-16)) dX4_readWord_147 rfl (by decide) rfl rfl rfl ?_
              obtain ⟨r_55, h_56, e_57, hf⟩ := bd_ex hf
              refine g_Vb (vs := [(2, (-16))]) (st := [(2, 2)]) dX4_readWord_149 rfl (S_X4_spells X (-16) (isS_lit 6 (by decide) (by decide)) h_49) e_57 mf_X4_spells ml_X4_119 rfl rfl rfl rfl (fun b_58 => ?_)
              refine q_if_eq (tgt := 160) dX4_readWord_152 rfl (by decide) (fun c_59 => ?_) (fun c_59 => ?_)
              · replace hf := it_f hf (by omega)
                refine q_iconst dX4_readWord_160 rfl rfl ?_
                exact J_K_54 _ _ hf
              · replace hf := it_t hf (by omega)
                refine q_bipush dX4_readWord_155 rfl (by decide) ?_
                refine q_goto (tgt := 161) dX4_readWord_157 rfl (by decide) ?_
                exact J_K_54 _ _ hf
            · replace hf := it_t hf (by omega)
              refine q_aload_n dX4_readWord_136 rfl rfl ?_
              refine q_bipush dX4_readWord_137 rfl (by decide) ?_
              refine g_put (k := 2) (kz := 2) dX4_readWord_139 rfl fp_X4_32 rfl (fun q => q.1 rfl) rfl ?_
              obtain ⟨h_53, e_h_53, hf⟩ := nm_ex hf
              rw [← e_h_53]
              refine q_goto (tgt := 164) dX4_readWord_142 rfl (by decide) ?_
              exact J_K_47 _ hf
          · replace hf := it_t hf (by omega)
            refine q_aload_n dX4_readWord_118 rfl rfl ?_
            refine q_bipush dX4_readWord_119 rfl (by decide) ?_
            refine g_put (k := 2) (kz := 2) dX4_readWord_121 rfl fp_X4_32 rfl (fun q => q.1 rfl) rfl ?_
            obtain ⟨h_46, e_h_46, hf⟩ := nm_ex hf
            rw [← e_h_46]
            refine q_goto (tgt := 164) dX4_readWord_124 rfl (by decide) ?_
            exact J_K_40 _ hf
        · replace hf := it_t hf (by omega)
          refine q_aload_n dX4_readWord_100 rfl rfl ?_
          refine q_bipush dX4_readWord_101 rfl (by decide) ?_
          refine g_put (k := 2) (kz := 2) dX4_readWord_103 rfl fp_X4_32 rfl (fun q => q.1 rfl) rfl ?_
          obtain ⟨h_39, e_h_39, hf⟩ := nm_ex hf
          rw [← e_h_39]
          refine q_goto (tgt := 164) dX4_readWord_106 rfl (by decide) ?_
          exact J_K_33 _ hf
      · replace hf := it_t hf (by omega)
        refine q_aload_n dX4_readWord_82 rfl rfl ?_
        refine q_bipush dX4_readWord_83 rfl (by decide) ?_
        refine g_put (k := 2) (kz := 2) dX4_readWord_85 rfl fp_X4_32 rfl (fun q => q.1 rfl) rfl ?_
        obtain ⟨h_32, e_h_32, hf⟩ := nm_ex hf
        rw [← e_h_32]
        refine q_goto (tgt := 164) dX4_readWord_88 rfl (by decide) ?_
        exact J_K_26 _ hf
    · replace hf := it_t hf (by omega)
      refine q_aload_n dX4_readWord_65 rfl rfl ?_
      refine q_iconst dX4_readWord_66 rfl rfl ?_
      refine g_put (k := 2) (kz := 2) dX4_readWord_67 rfl fp_X4_32 rfl (fun q => q.1 rfl) rfl ?_
      obtain ⟨h_25, e_h_25, hf⟩ := nm_ex hf
      rw [← e_h_25]
      refine q_goto (tgt := 164) dX4_readWord_70 rfl (by decide) ?_
      exact J_K_19 _ hf
  · replace hf := it_t hf (by omega)
    refine q_aload_n dX4_readWord_48 rfl rfl ?_
    refine q_iconst dX4_readWord_49 rfl rfl ?_
    refine g_put (k := 2) (kz := 2) dX4_readWord_50 rfl fp_X4_32 rfl (fun q => q.1 rfl) rfl ?_
    obtain ⟨h_18, e_h_18, hf⟩ := nm_ex hf
    rw [← e_h_18]
    refine q_goto (tgt := 164) dX4_readWord_53 rfl (by decide) ?_
    exact g_return dX4_readWord_164 rfl hf
def L_X4_advance_1 (Kx : Mem → Res) : Nat → Mem → Res
  | 0, _ => none
  | n + 1, h_1 => jn (fun (K_2 : Mem → Res) => if ((h_1 2 5) < (h_1 2 1)) then (gd (0 ≤ (h_1 2 5) ∧ (h_1 2 5) < 400) (if ((h_1 3 (h_1 2 5)) = 32) then (nm (wr h_1 2 5 (w32 ((h_1 2 5) + 1))) (fun (h_7 : Mem) => L_X4_advance_1 Kx n h_7)) else (K_2 h_1))) else (K_2 h_1)) (fun (h_3 : Mem) => Kx h_3)
def F_X4_advance (h : Mem) : Res := L_X4_advance_1 (fun  (h_8 : Mem) => nm (wr h_8 2 3 (h_8 2 5)) (fun (h_9 : Mem) => if ((h_9 2 1) ≤ (h_9 2 5)) then (nm (wr h_9 2 2 0) (fun (h_10 : Mem) => some (0, h_10))) else (jn (fun (K_11 : Mem → Res) => gd (0 ≤ (h_9 2 5) ∧ (h_9 2 5) < 400) (bd (F_X4_isLetter (h_9 3 (h_9 2 5)) h_9) (fun r_13 (h_14 : Mem) => if (¬ r_13 = 0) then (bd (F_X4_readWord  h_14) (fun _ (h_19 : Mem) => K_11 h_19)) else (jn (fun (K_21 : Mem → Res) => gd (0 ≤ (h_14 2 5) ∧ (h_14 2 5) < 400) (bd (F_X4_isDigit (h_14 3 (h_14 2 5)) h_14) (fun r_23 (h_24 : Mem) => if (¬ r_23 = 0) then (bd (F_X4_readNumber  h_24) (fun _ (h_29 : Mem) => K_21 h_29)) else (jn (fun (K_31 : Int → Mem → Res) => gd (0 ≤ (h_24 2 5) ∧ (h_24 2 5) < 400) (if ((h_24 3 (h_24 2 5)) = 59) then (K_31 3 h_24) else (K_31 1 h_24))) (fun v_35 (h_34 : Mem) => nm (wr h_34 2 2 v_35) (fun (h_36 : Mem) => nm (wr h_36 2 5 (w32 ((h_36 2 5) + 1))) (fun (h_37 : Mem) => K_21 h_37))))))) (fun  (h_38 : Mem) => K_11 h_38))))) (fun  (h_39 : Mem) => some (0, h_39))))) FU h
theorem SL_X4_advance_1 (X : XS) (Kx : Mem → Res) {r : Int × Mem} (hK : ∀ (h_1 : Mem), Kx  h_1 = some r → AJ X MX4_advance (rmD 10) 38 [(2, 2)] [] h_1 (PH 9 r)) :
    ∀ (n : Nat) (h_1 : Mem), L_X4_advance_1 Kx n h_1 = some r → AJ X MX4_advance (rmD 10) 0 [(2, 2)] [] h_1 (PH 9 r) := by
  intro n
  induction n with
  | zero => intro  h_1 hf; cases hf
  | succ n ih =>
    intro  h_1 hf
    rw [L_X4_advance_1] at hf
    obtain ⟨K_2, J_K_2, hf⟩ := jn_ex (P := fun K => ∀ (h_3 : Mem), K h_3 = some r → AJ X MX4_advance (rmD 10) 38 [(2, 2)] [] h_3 (PH 9 r)) hf (by
        intro h_3 hf
        exact hK  _ hf)
    refine q_aload_n dX4_advance_0 rfl rfl ?_
    refine g_get (k := 5) (kz := 5) dX4_advance_1 rfl fg_X4_26 rfl rfl ?_
    refine q_aload_n dX4_advance_4 rfl rfl ?_
    refine g_get (k := 1) (kz := 1) dX4_advance_5 rfl fg_X4_15 rfl rfl ?_
    refine q_icmp_ge (tgt := 38) dX4_advance_8 rfl (by decide) (fun c_4 => ?_) (fun c_4 => ?_)
    · replace hf := it_f hf (by omega)
      exact J_K_2 _ hf
    · replace hf := it_t hf (by omega)
      refine q_aload_n dX4_advance_11 rfl rfl ?_
      refine g_getF (k := 0) (o := 1) (z := 3) dX4_advance_12 rfl fg_X4_9 rfl rfl rfl ?_
      refine q_aload_n dX4_advance_15 rfl rfl ?_
      refine g_get (k := 5) (kz := 5) dX4_advance_16 rfl fg_X4_26 rfl rfl ?_
      obtain ⟨g_5, hf⟩ := gd_ex hf
      refine q_caload dX4_advance_19 rfl rfl g_5 ?_
      refine q_bipush dX4_advance_20 rfl (by decide) ?_
      refine q_icmp_ne (tgt := 38) dX4_advance_22 rfl (by decide) (fun c_6 => ?_) (fun c_6 => ?_)
      · replace hf := it_f hf (by omega)
        exact J_K_2 _ hf
      · replace hf := it_t hf (by omega)
        refine q_aload_n dX4_advance_25 rfl rfl ?_
        refine q_dup dX4_advance_26 rfl (by decide) ?_
        refine g_get (k := 5) (kz := 5) dX4_advance_27 rfl fg_X4_26 rfl rfl ?_
        refine q_iconst dX4_advance_30 rfl rfl ?_
        refine q_iadd dX4_advance_31 rfl ?_
        refine g_put (k := 5) (kz := 5) dX4_advance_32 rfl fp_X4_26 rfl (fun q => q.1 rfl) rfl ?_
        obtain ⟨h_7, e_h_7, hf⟩ := nm_ex hf
        rw [← e_h_7]
        refine q_goto (tgt := 0) dX4_advance_35 rfl (by decide) ?_
        exact ih  _ hf
theorem S_X4_advance (X : XS) (h : Mem) : CT X yX4_advance MX4_advance none 9 10 [(2, 2)] h (F_X4_advance h) := by
  refine CT.ofV (by decide) rfl (Nat.le_of_ble_eq_true rfl) (fun r hf => ?_)
  unfold F_X4_advance at hf
  show AJ X MX4_advance (rmD 10) 0 [(2, 2)] [] h (PH 9 r)
  refine SL_X4_advance_1 X   _ (fun  h_8 hf => ?_) FU  _ hf
  refine q_aload_n dX4_advance_38 rfl rfl ?_
  refine q_aload_n dX4_advance_39 rfl rfl ?_
  refine g_get (k := 5) (kz := 5) dX4_advance_40 rfl fg_X4_26 rfl rfl ?_
  refine g_put (k := 3) (kz := 3) dX4_advance_43 rfl fp_X4_42 rfl (fun q => q.1 rfl) rfl ?_
  obtain ⟨h_9, e_h_9, hf⟩ := nm_ex hf
  rw [← e_h_9]
  refine q_aload_n dX4_advance_46 rfl rfl ?_
  refine g_get (k := 5) (kz := 5) dX4_advance_47 rfl fg_X4_26 rfl rfl ?_
  refine q_aload_n dX4_advance_50 rfl rfl ?_
  refine g_get (k := 1) (kz := 1) dX4_advance_51 rfl fg_X4_15 rfl rfl ?_
  refine q_icmp_lt (tgt := 65) dX4_advance_54 rfl (by decide) (fun c_40 => ?_) (fun c_40 => ?_)
  · replace hf := it_f hf (by omega)
    obtain ⟨K_11, J_K_11, hf⟩ := jn_ex (P := fun K => ∀ (h_39 : Mem), K  h_39 = some r → AJ X MX4_advance (rmD 10) 142 [(2, 2)] [] h_39 (PH 9 r)) hf (by
        intro  h_39 hf
        exact g_return dX4_advance_142 rfl hf)
    refine q_aload_n dX4_advance_65 rfl rfl ?_
    refine g_getF (k := 0) (o := 1) (z := 3) dX4_advance_66 rfl fg_X4_9 rfl rfl rfl ?_
    refine q_aload_n dX4_advance_69 rfl rfl ?_
    refine g_get (k := 5) (kz := 5) dX4_advance_70 rfl fg_X4_26 rfl rfl ?_
    obtain ⟨g_12, hf⟩ := gd_ex hf
    refine q_caload dX4_advance_73 rfl rfl g_12 ?_
    obtain ⟨r_13, h_14, e_15, hf⟩ := bd_ex hf
    refine g_Sb (vs := [(0, h_9 3 (h_9 2 5))]) (st := []) dX4_advance_74 rfl (S_X4_isLetter X (h_9 3 (h_9 2 5)) h_9) e_15 mf_X4_isLetter ml_X4_104 rfl rfl rfl (fun b_16 => ?_)
    refine q_if_eq (tgt := 87) dX4_advance_77 rfl (by decide) (fun c_17 => ?_) (fun c_17 => ?_)
    · replace hf := it_f hf (by omega)
      obtain ⟨K_21, J_K_21, hf⟩ := jn_ex (P := fun K => ∀ (h_38 : Mem), K  h_38 = some r → AJ X MX4_advance (rmD 10) 142 [(2, 2)] [] h_38 (PH 9 r)) hf (by
          intro  h_38 hf
          exact J_K_11 _ hf)
      refine q_aload_n dX4_advance_87 rfl rfl ?_
      refine g_getF (k := 0) (o := 1) (z := 3) dX4_advance_88 rfl fg_X4_9 rfl rfl rfl ?_
      refine q_aload_n dX4_advance_91 rfl rfl ?_
      refine g_get (k := 5) (kz := 5) dX4_advance_92 rfl fg_X4_26 rfl rfl ?_
      obtain ⟨g_22, hf⟩ := gd_ex hf
      refine q_caload dX4_advance_95 rfl rfl g_22 ?_
      obtain ⟨r_23, h_24, e_25, hf⟩ := bd_ex hf
      refine g_Sb (vs := [(0, h_14 3 (h_14 2 5))]) (st := []) dX4_advance_96 rfl (S_X4_isDigit X (h_14 3 (h_14 2 5)) h_14) e_25 mf_X4_isDigit ml_X4_111 rfl rfl rfl (fun b_26 => ?_)
      refine q_if_eq (tgt := 109) dX4_advance_99 rfl (by decide) (fun c_27 => ?_) (fun c_27 => ?_)
      · replace hf := it_f hf (by omega)
        refine q_aload_n dX4_advance_109 rfl rfl ?_
        obtain ⟨K_31, J_K_31, hf⟩ := jn_ex (P := fun K => ∀ (v_35 : Int) (h_34 : Mem), K v_35 h_34 = some r → AJ X MX4_advance (rmD 10) 129 [(2, 2)] [(0, v_35), (2, 2)] h_34 (PH 9 r)) hf (by
            intro v_35 h_34 hf
            refine g_put (k := 2) (kz := 2) dX4_advance_129 rfl fp_X4_32 rfl (fun q => q.1 rfl) rfl ?_
            obtain ⟨h_36, e_h_36, hf⟩ := nm_ex hf
            rw [← e_h_36]
            refine q_aload_n dX4_advance_132 rfl rfl ?_
            refine q_dup dX4_advance_133 rfl (by decide) ?_
            refine g_get (k := 5) (kz := 5) dX4_advance_134 rfl fg_X4_26 rfl rfl ?_
            refine q_iconst dX4_advance_137 rfl rfl ?_
            refine q_iadd dX4_advance_138 rfl ?_
            refine g_put (k := 5) (kz := 5) dX4_advance_139 rfl fp_X4_26 rfl (fun q => q.1 rfl) rfl ?_
            obtain ⟨h_37, e_h_37, hf⟩ := nm_ex hf
            rw [← e_h_37]
            exact J_K_21 _ hf)
        refine q_aload_n dX4_advance_110 rfl rfl ?_
        refine g_getF (k := 0) (o := 1) (z := 3) dX4_advance_111 rfl fg_X4_9 rfl rfl rfl ?_
        refine q_aload_n dX4_advance_114 rfl rfl ?_
        refine g_get (k := 5) (kz := 5) dX4_advance_115 rfl fg_X4_26 rfl rfl ?_
        obtain ⟨g_32, hf⟩ := gd_ex hf
        refine q_caload dX4_advance_118 rfl rfl g_32 ?_
        refine q_bipush dX4_advance_119 rfl (by decide) ?_
        refine q_icmp_ne (tgt := 128) dX4_advance_121 rfl (by decide) (fun c_33 => ?_) (fun c_33 => ?_)
        · replace hf := it_f hf (by omega)
          refine q_iconst dX4_advance_128 rfl rfl ?_
          exact J_K_31 _ _ hf
        · replace hf := it_t hf (by omega)
          refine q_iconst dX4_advance_124 rfl rfl ?_
          refine q_goto (tgt := 129) dX4_advance_125 rfl (by decide) ?_
          exact J_K_31 _ _ hf
      · replace hf := it_t hf (by omega)
        refine q_aload_n dX4_advance_102 rfl rfl ?_
        obtain ⟨r_28, h_29, e_30, hf⟩ := bd_ex hf
        refine g_Vv (vs := []) (st := []) dX4_advance_103 rfl (S_X4_readNumber X  h_24) e_30 mf_X4_readNumber ml_X4_114 rfl rfl rfl rfl ?_
        refine q_goto (tgt := 142) dX4_advance_106 rfl (by decide) ?_
        exact J_K_21 _ hf
    · replace hf := it_t hf (by omega)
      refine q_aload_n dX4_advance_80 rfl rfl ?_
      obtain ⟨r_18, h_19, e_20, hf⟩ := bd_ex hf
      refine g_Vv (vs := []) (st := []) dX4_advance_81 rfl (S_X4_readWord X  h_14) e_20 mf_X4_readWord ml_X4_108 rfl rfl rfl rfl ?_
      refine q_goto (tgt := 142) dX4_advance_84 rfl (by decide) ?_
      exact J_K_11 _ hf
  · replace hf := it_t hf (by omega)
    refine q_aload_n dX4_advance_57 rfl rfl ?_
    refine q_iconst dX4_advance_58 rfl rfl ?_
    refine g_put (k := 2) (kz := 2) dX4_advance_59 rfl fp_X4_32 rfl (fun q => q.1 rfl) rfl ?_
    obtain ⟨h_10, e_h_10, hf⟩ := nm_ex hf
    rw [← e_h_10]
    refine q_goto (tgt := 142) dX4_advance_62 rfl (by decide) ?_
    exact g_return dX4_advance_142 rfl hf
def F_X4_isNumber (least_0 most_0 : Int) (h : Mem) : Res := if ((((h 2 2) = 2) ∧ (least_0 ≤ (h 2 4))) ∧ ((h 2 4) ≤ most_0)) then (some (1, h)) else (some (0, h))
theorem S_X4_isNumber (X : XS) (least_0 : Int) (most_0 : Int) (h : Mem) : CB X yX4_isNumber MX4_isNumber 0 [(2, 2), (0, least_0), (0, most_0)] h (F_X4_isNumber least_0 most_0 h) := by
  refine CB.of (by decide) rfl (Nat.le_of_ble_eq_true rfl) (fun r hf => ?_)
  unfold F_X4_isNumber at hf
  show AJ X MX4_isNumber (rmD 0) 0 [(2, 2), (0, least_0), (0, most_0)] [] h (PB r)
  have HF_1 : ¬ ((((h 2 2) = 2) ∧ (least_0 ≤ (h 2 4))) ∧ ((h 2 4) ≤ most_0)) → AJ X MX4_isNumber (rmD 0) 28 [(2, 2), (0, least_0), (0, most_0)] [] h (PB r) := by
    intro hc
    replace hf := it_f hf hc
    refine q_iconst dX4_isNumber_28 rfl rfl ?_
    exact g_breturn dX4_isNumber_29 rfl (Or.inl rfl) hf
  refine q_aload_n dX4_isNumber_0 rfl rfl ?_
  refine g_get (k := 2) (kz := 2) dX4_isNumber_1 rfl fg_X4_32 rfl rfl ?_
  refine q_iconst dX4_isNumber_4 rfl rfl ?_
  refine q_icmp_ne (tgt := 28) dX4_isNumber_5 rfl (by decide) (fun c_2 => ?_) (fun c_2 => ?_)
  · exact HF_1 (by omega)
  · refine q_aload_n dX4_isNumber_8 rfl rfl ?_
    refine g_get (k := 4) (kz := 4) dX4_isNumber_9 rfl fg_X4_72 rfl rfl ?_
    refine q_iload_n dX4_isNumber_12 rfl rfl ?_
    refine q_icmp_lt (tgt := 28) dX4_isNumber_13 rfl (by decide) (fun c_3 => ?_) (fun c_3 => ?_)
    · exact HF_1 (by omega)
    · refine q_aload_n dX4_isNumber_16 rfl rfl ?_
      refine g_get (k := 4) (kz := 4) dX4_isNumber_17 rfl fg_X4_72 rfl rfl ?_
      refine q_iload_n dX4_isNumber_20 rfl rfl ?_
      refine q_icmp_gt (tgt := 28) dX4_isNumber_21 rfl (by decide) (fun c_4 => ?_) (fun c_4 => ?_)
      · exact HF_1 (by omega)
      · replace hf := it_t hf (by omega)
        refine q_iconst dX4_isNumber_24 rfl rfl ?_
        refine q_goto (tgt := 29) dX4_isNumber_25 rfl (by decide) ?_
        exact g_breturn dX4_isNumber_29 rfl (Or.inr rfl) hf
def F_X4_tellFigures (one_0 : Int) (h : Mem) : Res := bd (F_X4_isNumber 0 5 h) (fun r_1 (h_2 : Mem) => if (¬ r_1 = 0) then (nm (wr h_2 one_0 1 (h_2 2 4)) (fun (h_6 : Mem) => bd (F_X4_advance  h_6) (fun _ (h_8 : Mem) => bd (F_X4_isNumber 1 30 h_8) (fun r_10 (h_11 : Mem) => if (¬ r_10 = 0) then (nm (wr h_11 one_0 2 (h_11 2 4)) (fun (h_15 : Mem) => bd (F_X4_advance  h_15) (fun _ (h_17 : Mem) => bd (F_X4_isNumber 0 30 h_17) (fun r_19 (h_20 : Mem) => if (¬ r_19 = 0) then (nm (wr h_20 one_0 3 (h_20 2 4)) (fun (h_24 : Mem) => bd (F_X4_advance  h_24) (fun _ (h_26 : Mem) => some (1, h_26)))) else (some (0, h_20)))))) else (some (0, h_11)))))) else (some (0, h_2)))
theorem S_X4_tellFigures (X : XS) (one_0 : Int) (o_one_0 : okO 0 one_0 = true) (h : Mem) : CB X yX4_tellFigures MX4_tellFigures 11 [(2, 2), (2, one_0)] h (F_X4_tellFigures one_0 h) := by
  refine CB.of (by decide) rfl (Nat.le_of_ble_eq_true rfl) (fun r hf => ?_)
  unfold F_X4_tellFigures at hf
  show AJ X MX4_tellFigures (rmD 11) 0 [(2, 2), (2, one_0)] [] h (PB r)
  refine q_aload_n dX4_tellFigures_0 rfl rfl ?_
  refine q_iconst dX4_tellFigures_1 rfl rfl ?_
  refine q_iconst dX4_tellFigures_2 rfl rfl ?_
  obtain ⟨r_1, h_2, e_3, hf⟩ := bd_ex hf
  refine g_Vb (vs := [(0, 0), (0, 5)]) (st := []) dX4_tellFigures_3 rfl (S_X4_isNumber X 0 5 h) e_3 mf_X4_isNumber ml_X4_68 rfl rfl rfl rfl (fun b_4 => ?_)
  refine q_if_ne (tgt := 11) dX4_tellFigures_6 rfl (by decide) (fun c_5 => ?_) (fun c_5 => ?_)
  · replace hf := it_t hf (by omega)
    refine q_aload_n dX4_tellFigures_11 rfl rfl ?_
    refine q_aload_n dX4_tellFigures_12 rfl rfl ?_
    refine g_get (k := 4) (kz := 4) dX4_tellFigures_13 rfl fg_X4_72 rfl rfl ?_
    refine g_put (k := 1) (kz := 1) dX4_tellFigures_16 rfl fp_X4_75 rfl (fun q => q.1 rfl) o_one_0 ?_
    obtain ⟨h_6, e_h_6, hf⟩ := nm_ex hf
    rw [← e_h_6]
    refine q_aload_n dX4_tellFigures_19 rfl rfl ?_
    obtain ⟨r_7, h_8, e_9, hf⟩ := bd_ex hf
    refine g_Vv (vs := []) (st := []) dX4_tellFigures_20 rfl (S_X4_advance X  h_6) e_9 mf_X4_advance ml_X4_29 rfl rfl rfl rfl ?_
    refine q_aload_n dX4_tellFigures_23 rfl rfl ?_
    refine q_iconst dX4_tellFigures_24 rfl rfl ?_
    refine q_bipush dX4_tellFigures_25 rfl (by decide) ?_
    obtain ⟨r_10, h_11, e_12, hf⟩ := bd_ex hf
    refine g_Vb (vs := [(0, 1), (0, 30)]) (st := []) dX4_tellFigures_27 rfl (S_X4_isNumber X 1 30 h_8) e_12 mf_X4_isNumber ml_X4_68 rfl rfl rfl rfl (fun b_13 => ?_)
    refine q_if_ne (tgt := 35) dX4_tellFigures_30 rfl (by decide) (fun c_14 => ?_) (fun c_14 => ?_)
    · replace hf := it_t hf (by omega)
      refine q_aload_n dX4_tellFigures_35 rfl rfl ?_
      refine q_aload_n dX4_tellFigures_36 rfl rfl ?_
      refine g_get (k := 4) (kz := 4) dX4_tellFigures_37 rfl fg_X4_72 rfl rfl ?_
      refine g_put (k := 2) (kz := 2) dX4_tellFigures_40 rfl fp_X4_78 rfl (fun q => q.1 rfl) o_one_0 ?_
      obtain ⟨h_15, e_h_15, hf⟩ := nm_ex hf
      rw [← e_h_15]
      refine q_aload_n dX4_tellFigures_43 rfl rfl ?_
      obtain ⟨r_16, h_17, e_18, hf⟩ := bd_ex hf
      refine g_Vv (vs := []) (st := []) dX4_tellFigures_44 rfl (S_X4_advance X  h_15) e_18 mf_X4_advance ml_X4_29 rfl rfl rfl rfl ?_
      refine q_aload_n dX4_tellFigures_47 rfl rfl ?_
      refine q_iconst dX4_tellFigures_48 rfl rfl ?_
      refine q_bipush dX4_tellFigures_49 rfl (by decide) ?_
      obtain ⟨r_19, h_20, e_21, hf⟩ := bd_ex hf
      refine g_Vb (vs := [(0, 0), (0, 30)]) (st := []) dX4_tellFigures_51 rfl (S_X4_isNumber X 0 30 h_17) e_21 mf_X4_isNumber ml_X4_68 rfl rfl rfl rfl (fun b_22 => ?_)
      refine q_if_ne (tgt := 59) dX4_tellFigures_54 rfl (by decide) (fun c_23 => ?_) (fun c_23 => ?_)
      · replace hf := it_t hf (by omega)
        refine q_aload_n dX4_tellFigures_59 rfl rfl ?_
        refine q_aload_n dX4_tellFigures_60 rfl rfl ?_
        refine g_get (k := 4) (kz := 4) dX4_tellFigures_61 rfl fg_X4_72 rfl rfl ?_
        refine g_put (k := 3) (kz := 3) dX4_tellFigures_64 rfl fp_X4_81 rfl (fun q => q.1 rfl) o_one_0 ?_
        obtain ⟨h_24, e_h_24, hf⟩ := nm_ex hf
        rw [← e_h_24]
        refine q_aload_n dX4_tellFigures_67 rfl rfl ?_
        obtain ⟨r_25, h_26, e_27, hf⟩ := bd_ex hf
        refine g_Vv (vs := []) (st := []) dX4_tellFigures_68 rfl (S_X4_advance X  h_24) e_27 mf_X4_advance ml_X4_29 rfl rfl rfl rfl ?_
        refine q_iconst dX4_tellFigures_71 rfl rfl ?_
        exact g_breturn dX4_tellFigures_72 rfl (Or.inr rfl) hf
      · replace hf := it_f hf (by omega)
        refine q_iconst dX4_tellFigures_57 rfl rfl ?_
        exact g_breturn dX4_tellFigures_58 rfl (Or.inl rfl) hf
    · replace hf := it_f hf (by omega)
      refine q_iconst dX4_tellFigures_33 rfl rfl ?_
      exact g_breturn dX4_tellFigures_34 rfl (Or.inl rfl) hf
  · replace hf := it_f hf (by omega)
    refine q_iconst dX4_tellFigures_9 rfl rfl ?_
    exact g_breturn dX4_tellFigures_10 rfl (Or.inl rfl) hf
def F_X4_tellStage (one_0 : Int) (h : Mem) : Res := if ((h 2 2) = 5) then (nm (wr h one_0 4 1) (fun (h_1 : Mem) => bd (F_X4_advance  h_1) (fun _ (h_3 : Mem) => some (1, h_3)))) else (if (¬ (h 2 2) = 6) then (some (1, h)) else (bd (F_X4_advance  h) (fun _ (h_6 : Mem) => bd (F_X4_isNumber 0 9 h_6) (fun r_8 (h_9 : Mem) => if (¬ r_8 = 0) then (nm (wr h_9 one_0 5 (h_9 2 4)) (fun (h_13 : Mem) => bd (F_X4_advance  h_13) (fun _ (h_15 : Mem) => bd (F_X4_isNumber 0 9 h_15) (fun r_17 (h_18 : Mem) => if (¬ r_17 = 0) then (nm (wr h_18 one_0 6 (h_18 2 4)) (fun (h_22 : Mem) => bd (F_X4_advance  h_22) (fun _ (h_24 : Mem) => some (1, h_24)))) else (some (0, h_18)))))) else (some (0, h_9))))))
theorem S_X4_tellStage (X : XS) (one_0 : Int) (o_one_0 : okO 0 one_0 = true) (h : Mem) : CB X yX4_tellStage MX4_tellStage 11 [(2, 2), (2, one_0)] h (F_X4_tellStage one_0 h) := by
  refine CB.of (by decide) rfl (Nat.le_of_ble_eq_true rfl) (fun r hf => ?_)
  unfold F_X4_tellStage at hf
  show AJ X MX4_tellStage (rmD 11) 0 [(2, 2), (2, one_0)] [] h (PB r)
  refine q_aload_n dX4_tellStage_0 rfl rfl ?_
  refine g_get (k := 2) (kz := 2) dX4_tellStage_1 rfl fg_X4_32 rfl rfl ?_
  refine q_iconst dX4_tellStage_4 rfl rfl ?_
  refine q_icmp_ne (tgt := 19) dX4_tellStage_5 rfl (by decide) (fun c_27 => ?_) (fun c_27 => ?_)
  · replace hf := it_f hf (by omega)
    refine q_aload_n dX4_tellStage_19 rfl rfl ?_
    refine g_get (k := 2) (kz := 2) dX4_tellStage_20 rfl fg_X4_32 rfl rfl ?_
    refine q_bipush dX4_tellStage_23 rfl (by decide) ?_
    refine q_icmp_eq (tgt := 30) dX4_tellStage_25 rfl (by decide) (fun c_26 => ?_) (fun c_26 => ?_)
    · replace hf := it_f hf (by omega)
      refine q_aload_n dX4_tellStage_30 rfl rfl ?_
      obtain ⟨r_5, h_6, e_7, hf⟩ := bd_ex hf
      refine g_Vv (vs := []) (st := []) dX4_tellStage_31 rfl (S_X4_advance X  h) e_7 mf_X4_advance ml_X4_29 rfl rfl rfl rfl ?_
      refine q_aload_n dX4_tellStage_34 rfl rfl ?_
      refine q_iconst dX4_tellStage_35 rfl rfl ?_
      refine q_bipush dX4_tellStage_36 rfl (by decide) ?_
      obtain ⟨r_8, h_9, e_10, hf⟩ := bd_ex hf
      refine g_Vb (vs := [(0, 0), (0, 9)]) (st := []) dX4_tellStage_38 rfl (S_X4_isNumber X 0 9 h_6) e_10 mf_X4_isNumber ml_X4_68 rfl rfl rfl rfl (fun b_11 => ?_)
      refine q_if_ne (tgt := 46) dX4_tellStage_41 rfl (by decide) (fun c_12 => ?_) (fun c_12 => ?_)
      · replace hf := it_t hf (by omega)
        refine q_aload_n dX4_tellStage_46 rfl rfl ?_
        refine q_aload_n dX4_tellStage_47 rfl rfl ?_
        refine g_get (k := 4) (kz := 4) dX4_tellStage_48 rfl fg_X4_72 rfl rfl ?_
        refine g_put (k := 5) (kz := 5) dX4_tellStage_51 rfl fp_X4_88 rfl (fun q => q.1 rfl) o_one_0 ?_
        obtain ⟨h_13, e_h_13, hf⟩ := nm_ex hf
        rw [← e_h_13]
        refine q_aload_n dX4_tellStage_54 rfl rfl ?_
        obtain ⟨r_14, h_15, e_16, hf⟩ := bd_ex hf
        refine g_Vv (vs := []) (st := []) dX4_tellStage_55 rfl (S_X4_advance X  h_13) e_16 mf_X4_advance ml_X4_29 rfl rfl rfl rfl ?_
        refine q_aload_n dX4_tellStage_58 rfl rfl ?_
        refine q_iconst dX4_tellStage_59 rfl rfl ?_
        refine q_bipush dX4_tellStage_60 rfl (by decide) ?_
        obtain ⟨r_17, h_18, e_19, hf⟩ := bd_ex hf
        refine g_Vb (vs := [(0, 0), (0, 9)]) (st := []) dX4_tellStage_62 rfl (S_X4_isNumber X 0 9 h_15) e_19 mf_X4_isNumber ml_X4_68 rfl rfl rfl rfl (fun b_20 => ?_)
        refine q_if_ne (tgt := 70) dX4_tellStage_65 rfl (by decide) (fun c_21 => ?_) (fun c_21 => ?_)
        · replace hf := it_t hf (by omega)
          refine q_aload_n dX4_tellStage_70 rfl rfl ?_
          refine q_aload_n dX4_tellStage_71 rfl rfl ?_
          refine g_get (k := 4) (kz := 4) dX4_tellStage_72 rfl fg_X4_72 rfl rfl ?_
          refine g_put (k := 6) (kz := 6) dX4_tellStage_75 rfl fp_X4_91 rfl (fun q => q.1 rfl) o_one_0 ?_
          obtain ⟨h_22, e_h_22, hf⟩ := nm_ex hf
          rw [← e_h_22]
          refine q_aload_n dX4_tellStage_78 rfl rfl ?_
          obtain ⟨r_23, h_24, e_25, hf⟩ := bd_ex hf
          refine g_Vv (vs := []) (st := []) dX4_tellStage_79 rfl (S_X4_advance X  h_22) e_25 mf_X4_advance ml_X4_29 rfl rfl rfl rfl ?_
          refine q_iconst dX4_tellStage_82 rfl rfl ?_
          exact g_breturn dX4_tellStage_83 rfl (Or.inr rfl) hf
        · replace hf := it_f hf (by omega)
          refine q_iconst dX4_tellStage_68 rfl rfl ?_
          exact g_breturn dX4_tellStage_69 rfl (Or.inl rfl) hf
      · replace hf := it_f hf (by omega)
        refine q_iconst dX4_tellStage_44 rfl rfl ?_
        exact g_breturn dX4_tellStage_45 rfl (Or.inl rfl) hf
    · replace hf := it_t hf (by omega)
      refine q_iconst dX4_tellStage_28 rfl rfl ?_
      exact g_breturn dX4_tellStage_29 rfl (Or.inr rfl) hf
  · replace hf := it_t hf (by omega)
    refine q_aload_n dX4_tellStage_8 rfl rfl ?_
    refine q_iconst dX4_tellStage_9 rfl rfl ?_
    refine g_put (k := 4) (kz := 4) dX4_tellStage_10 rfl fp_X4_84 rfl (fun _ => Or.inr rfl) o_one_0 ?_
    obtain ⟨h_1, e_h_1, hf⟩ := nm_ex hf
    rw [← e_h_1]
    refine q_aload_n dX4_tellStage_13 rfl rfl ?_
    obtain ⟨r_2, h_3, e_4, hf⟩ := bd_ex hf
    refine g_Vv (vs := []) (st := []) dX4_tellStage_14 rfl (S_X4_advance X  h_1) e_4 mf_X4_advance ml_X4_29 rfl rfl rfl rfl ?_
    refine q_iconst dX4_tellStage_17 rfl rfl ?_
    exact g_breturn dX4_tellStage_18 rfl (Or.inr rfl) hf
def F_X4_tellTone (one_0 : Int) (h : Mem) : Res := if (((h 2 2) = 7) ∨ ((h 2 2) = 8)) then (nm (α := Int) (if ((h 2 2) = 7) then 1 else 2) (fun v_1 => nm (wr h one_0 7 v_1) (fun (h_3 : Mem) => bd (F_X4_advance  h_3) (fun _ (h_5 : Mem) => some (0, h_5))))) else (some (0, h))
theorem S_X4_tellTone (X : XS) (one_0 : Int) (o_one_0 : okO 0 one_0 = true) (h : Mem) : CT X yX4_tellTone MX4_tellTone none 9 11 [(2, 2), (2, one_0)] h (F_X4_tellTone one_0 h) := by
  refine CT.ofV (by decide) rfl (Nat.le_of_ble_eq_true rfl) (fun r hf => ?_)
  unfold F_X4_tellTone at hf
  show AJ X MX4_tellTone (rmD 11) 0 [(2, 2), (2, one_0)] [] h (PH 9 r)
  have HT_7 : (((h 2 2) = 7) ∨ ((h 2 2) = 8)) → AJ X MX4_tellTone (rmD 11) 18 [(2, 2), (2, one_0)] [] h (PH 9 r) := by
    intro hc
    replace hf := it_t hf hc
    refine q_aload_n dX4_tellTone_18 rfl rfl ?_
    obtain ⟨v_1, e_v_1, hf⟩ := nm_ex hf
    have J_v_1 : AJ X MX4_tellTone (rmD 11) 33 [(2, 2), (2, one_0)] [(0, v_1), (2, one_0)] h (PH 9 r) := by
      refine g_put (k := 7) (kz := 7) dX4_tellTone_33 rfl fp_X4_94 rfl (fun q => q.1 rfl) o_one_0 ?_
      obtain ⟨h_3, e_h_3, hf⟩ := nm_ex hf
      rw [← e_h_3]
      refine q_aload_n dX4_tellTone_36 rfl rfl ?_
      obtain ⟨r_4, h_5, e_6, hf⟩ := bd_ex hf
      refine g_Vv (vs := []) (st := []) dX4_tellTone_37 rfl (S_X4_advance X  h_3) e_6 mf_X4_advance ml_X4_29 rfl rfl rfl rfl ?_
      exact g_return dX4_tellTone_40 rfl hf
    clear hf
    refine q_aload_n dX4_tellTone_19 rfl rfl ?_
    refine g_get (k := 2) (kz := 2) dX4_tellTone_20 rfl fg_X4_32 rfl rfl ?_
    refine q_bipush dX4_tellTone_23 rfl (by decide) ?_
    refine q_icmp_ne (tgt := 32) dX4_tellTone_25 rfl (by decide) (fun c_2 => ?_) (fun c_2 => ?_)
    · refine q_iconst dX4_tellTone_32 rfl rfl ?_
      have e1 : v_1 = 2 := by omega
      subst e1
      exact J_v_1
    · refine q_iconst dX4_tellTone_28 rfl rfl ?_
      refine q_goto (tgt := 33) dX4_tellTone_29 rfl (by decide) ?_
      have e1 : v_1 = 1 := by omega
      subst e1
      exact J_v_1
  refine q_aload_n dX4_tellTone_0 rfl rfl ?_
  refine g_get (k := 2) (kz := 2) dX4_tellTone_1 rfl fg_X4_32 rfl rfl ?_
  refine q_bipush dX4_tellTone_4 rfl (by decide) ?_
  refine q_icmp_eq (tgt := 18) dX4_tellTone_6 rfl (by decide) (fun c_8 => ?_) (fun c_8 => ?_)
  · exact HT_7 (by omega)
  · refine q_aload_n dX4_tellTone_9 rfl rfl ?_
    refine g_get (k := 2) (kz := 2) dX4_tellTone_10 rfl fg_X4_32 rfl rfl ?_
    refine q_bipush dX4_tellTone_13 rfl (by decide) ?_
    refine q_icmp_ne (tgt := 40) dX4_tellTone_15 rfl (by decide) (fun c_9 => ?_) (fun c_9 => ?_)
    · replace hf := it_f hf (by omega)
      exact g_return dX4_tellTone_40 rfl hf
    · exact HT_7 (by omega)
def F_X4_tellTrain (one_0 : Int) (h : Mem) : Res := if (¬ (h 2 2) = 9) then (some (1, h)) else (bd (F_X4_advance  h) (fun _ (h_2 : Mem) => bd (F_X4_isNumber 1 250 h_2) (fun r_4 (h_5 : Mem) => if (¬ r_4 = 0) then (nm (wr h_5 one_0 8 (h_5 2 4)) (fun (h_9 : Mem) => bd (F_X4_advance  h_9) (fun _ (h_11 : Mem) => some (1, h_11)))) else (some (0, h_5)))))
theorem S_X4_tellTrain (X : XS) (one_0 : Int) (o_one_0 : okO 0 one_0 = true) (h : Mem) : CB X yX4_tellTrain MX4_tellTrain 11 [(2, 2), (2, one_0)] h (F_X4_tellTrain one_0 h) := by
  refine CB.of (by decide) rfl (Nat.le_of_ble_eq_true rfl) (fun r hf => ?_)
  unfold F_X4_tellTrain at hf
  show AJ X MX4_tellTrain (rmD 11) 0 [(2, 2), (2, one_0)] [] h (PB r)
  refine q_aload_n dX4_tellTrain_0 rfl rfl ?_
  refine g_get (k := 2) (kz := 2) dX4_tellTrain_1 rfl fg_X4_32 rfl rfl ?_
  refine q_bipush dX4_tellTrain_4 rfl (by decide) ?_
  refine q_icmp_eq (tgt := 11) dX4_tellTrain_6 rfl (by decide) (fun c_13 => ?_) (fun c_13 => ?_)
  · replace hf := it_f hf (by omega)
    refine q_aload_n dX4_tellTrain_11 rfl rfl ?_
    obtain ⟨r_1, h_2, e_3, hf⟩ := bd_ex hf
    refine g_Vv (vs := []) (st := []) dX4_tellTrain_12 rfl (S_X4_advance X  h) e_3 mf_X4_advance ml_X4_29 rfl rfl rfl rfl ?_
    refine q_aload_n dX4_tellTrain_15 rfl rfl ?_
    refine q_iconst dX4_tellTrain_16 rfl rfl ?_
    refine q_sipush dX4_tellTrain_17 rfl (by decide) ?_
    obtain ⟨r_4, h_5, e_6, hf⟩ := bd_ex hf
    refine g_Vb (vs := [(0, 1), (0, 250)]) (st := []) dX4_tellTrain_20 rfl (S_X4_isNumber X 1 250 h_2) e_6 mf_X4_isNumber ml_X4_68 rfl rfl rfl rfl (fun b_7 => ?_)
    refine q_if_ne (tgt := 28) dX4_tellTrain_23 rfl (by decide) (fun c_8 => ?_) (fun c_8 => ?_)
    · replace hf := it_t hf (by omega)
      refine q_aload_n dX4_tellTrain_28 rfl rfl ?_
      refine q_aload_n dX4_tellTrain_29 rfl rfl ?_
      refine g_get (k := 4) (kz := 4) dX4_tellTrain_30 rfl fg_X4_72 rfl rfl ?_
      refine g_put (k := 8) (kz := 8) dX4_tellTrain_33 rfl fp_X4_97 rfl (fun q => q.1 rfl) o_one_0 ?_
      obtain ⟨h_9, e_h_9, hf⟩ := nm_ex hf
      rw [← e_h_9]
      refine q_aload_n dX4_tellTrain_36 rfl rfl ?_
      obtain ⟨r_10, h_11, e_12, hf⟩ := bd_ex hf
      refine g_Vv (vs := []) (st := []) dX4_tellTrain_37 rfl (S_X4_advance X  h_9) e_12 mf_X4_advance ml_X4_29 rfl rfl rfl rfl ?_
      refine q_iconst dX4_tellTrain_40 rfl rfl ?_
      exact g_breturn dX4_tellTrain_41 rfl (Or.inr rfl) hf
    · replace hf := it_f hf (by omega)
      refine q_iconst dX4_tellTrain_26 rfl rfl ?_
      exact g_breturn dX4_tellTrain_27 rfl (Or.inl rfl) hf
  · replace hf := it_t hf (by omega)
    refine q_iconst dX4_tellTrain_9 rfl rfl ?_
    exact g_breturn dX4_tellTrain_10 rfl (Or.inr rfl) hf
def F_X4_tellAct (draft_0 : Int) (h : Mem) : Res := gd (0 ≤ (h draft_0 1) ∧ (h draft_0 1) < 9) (nm ((draft_0 + 2 + (h draft_0 1))) (fun one_2 => bd (F_X0_forget one_2 h) (fun _ (h_4 : Mem) => bd (F_X4_advance  h_4) (fun _ (h_7 : Mem) => jn (fun (K_9 : Mem → Res) => bd (F_X4_tellFigures one_2 h_7) (fun r_11 (h_12 : Mem) => if (¬ r_11 = 0) then (bd (F_X4_tellStage one_2 h_12) (fun r_16 (h_17 : Mem) => if (¬ r_16 = 0) then (bd (F_X4_tellTone one_2 h_17) (fun _ (h_22 : Mem) => jn (fun (K_24 : Mem → Res) => bd (F_X4_tellTrain one_2 h_22) (fun r_26 (h_27 : Mem) => if (¬ r_26 = 0) then (if (¬ (h_27 2 2) = 3) then (K_24 h_27) else (nm (wr h_27 draft_0 1 (w32 ((h_27 draft_0 1) + 1))) (fun (h_32 : Mem) => bd (F_X4_advance  h_32) (fun _ (h_34 : Mem) => some (1, h_34))))) else (K_24 h_27))) (fun (h_25 : Mem) => some (0, h_25)))) else (K_9 h_17))) else (K_9 h_12))) (fun (h_10 : Mem) => some (0, h_10))))))
theorem S_X4_tellAct (X : XS) (draft_0 : Int) (o_draft_0 : okO 2 draft_0 = true) (h : Mem) : CB X yX4_tellAct MX4_tellAct 12 [(2, 2), (2, draft_0)] h (F_X4_tellAct draft_0 h) := by
  refine CB.of (by decide) rfl (Nat.le_of_ble_eq_true rfl) (fun r hf => ?_)
  unfold F_X4_tellAct at hf
  show AJ X MX4_tellAct (rmD 12) 0 [(2, 2), (2, draft_0), (3, 0)] [] h (PB r)
  refine q_aload_n dX4_tellAct_0 rfl rfl ?_
  refine g_getF (k := 0) (o := 1) (z := (draft_0 + 1)) dX4_tellAct_1 rfl fg_X4_45 rfl o_draft_0 rfl ?_
  refine q_aload_n dX4_tellAct_4 rfl rfl ?_
  refine g_get (k := 1) (kz := 1) dX4_tellAct_5 rfl fg_X4_21 rfl o_draft_0 ?_
  obtain ⟨g_1, hf⟩ := gd_ex hf
  refine q_aaloadF (z := (draft_0 + 2 + (h draft_0 1))) dX4_tellAct_8 rfl (sf_2_0 o_draft_0) (by decide) g_1 rfl (by omega) ?_
  obtain ⟨one_2, e_one_2, hf⟩ := nm_ex hf
  rw [← e_one_2]
  have o_one_2 : okO 0 one_2 = true := by rw [e_one_2]; exact (ok_mem o_draft_0 g_1)
  refine q_astore_n (ls' := [(2, 2), (2, draft_0), (2, one_2)]) dX4_tellAct_9 rfl rfl (okO_ne o_one_2) (Nat.le_of_ble_eq_true rfl) rfl ?_
  refine q_aload_n dX4_tellAct_10 rfl rfl ?_
  obtain ⟨r_3, h_4, e_5, hf⟩ := bd_ex hf
  refine g_Vv (vs := []) (st := []) dX4_tellAct_11 rfl (S_X0_forget X one_2 o_one_2 h) e_5 mf_X0_forget ml_X4_49 o_one_2 rfl rfl rfl ?_
  refine q_aload_n dX4_tellAct_14 rfl rfl ?_
  obtain ⟨r_6, h_7, e_8, hf⟩ := bd_ex hf
  refine g_Vv (vs := []) (st := []) dX4_tellAct_15 rfl (S_X4_advance X  h_4) e_8 mf_X4_advance ml_X4_29 rfl rfl rfl rfl ?_
  obtain ⟨K_9, J_K_9, hf⟩ := jn_ex (P := fun K => ∀ (h_10 : Mem), K h_10 = some r → AJ X MX4_tellAct (rmD 12) 34 [(2, 2), (2, draft_0), (2, one_2)] [] h_10 (PB r)) hf (by
      intro h_10 hf
      refine q_iconst dX4_tellAct_34 rfl rfl ?_
      exact g_breturn dX4_tellAct_35 rfl (Or.inl rfl) hf)
  refine q_aload_n dX4_tellAct_18 rfl rfl ?_
  refine q_aload_n dX4_tellAct_19 rfl rfl ?_
  obtain ⟨r_11, h_12, e_13, hf⟩ := bd_ex hf
  refine g_Vb (vs := [(2, one_2)]) (st := []) dX4_tellAct_20 rfl (S_X4_tellFigures X one_2 o_one_2 h_7) e_13 mf_X4_tellFigures ml_X4_54 rfl rfl rfl rfl (fun b_14 => ?_)
  refine q_if_eq (tgt := 34) dX4_tellAct_23 rfl (by decide) (fun c_15 => ?_) (fun c_15 => ?_)
  · replace hf := it_f hf (by omega)
    exact J_K_9 _ hf
  · replace hf := it_t hf (by omega)
    refine q_aload_n dX4_tellAct_26 rfl rfl ?_
    refine q_aload_n dX4_tellAct_27 rfl rfl ?_
    obtain ⟨r_16, h_17, e_18, hf⟩ := bd_ex hf
    refine g_Vb (vs := [(2, one_2)]) (st := []) dX4_tellAct_28 rfl (S_X4_tellStage X one_2 o_one_2 h_12) e_18 mf_X4_tellStage ml_X4_58 rfl rfl rfl rfl (fun b_19 => ?_)
    refine q_if_ne (tgt := 36) dX4_tellAct_31 rfl (by decide) (fun c_20 => ?_) (fun c_20 => ?_)
    · replace hf := it_t hf (by omega)
      refine q_aload_n dX4_tellAct_36 rfl rfl ?_
      refine q_aload_n dX4_tellAct_37 rfl rfl ?_
      obtain ⟨r_21, h_22, e_23, hf⟩ := bd_ex hf
      refine g_Vv (vs := [(2, one_2)]) (st := []) dX4_tellAct_38 rfl (S_X4_tellTone X one_2 o_one_2 h_17) e_23 mf_X4_tellTone ml_X4_61 rfl rfl rfl rfl ?_
      obtain ⟨K_24, J_K_24, hf⟩ := jn_ex (P := fun K => ∀ (h_25 : Mem), K h_25 = some r → AJ X MX4_tellAct (rmD 12) 57 [(2, 2), (2, draft_0), (2, one_2)] [] h_25 (PB r)) hf (by
          intro h_25 hf
          refine q_iconst dX4_tellAct_57 rfl rfl ?_
          exact g_breturn dX4_tellAct_58 rfl (Or.inl rfl) hf)
      refine q_aload_n dX4_tellAct_41 rfl rfl ?_
      refine q_aload_n dX4_tellAct_42 rfl rfl ?_
      obtain ⟨r_26, h_27, e_28, hf⟩ := bd_ex hf
      refine g_Vb (vs := [(2, one_2)]) (st := []) dX4_tellAct_43 rfl (S_X4_tellTrain X one_2 o_one_2 h_22) e_28 mf_X4_tellTrain ml_X4_65 rfl rfl rfl rfl (fun b_29 => ?_)
      refine q_if_eq (tgt := 57) dX4_tellAct_46 rfl (by decide) (fun c_30 => ?_) (fun c_30 => ?_)
      · replace hf := it_f hf (by omega)
        exact J_K_24 _ hf
      · replace hf := it_t hf (by omega)
        refine q_aload_n dX4_tellAct_49 rfl rfl ?_
        refine g_get (k := 2) (kz := 2) dX4_tellAct_50 rfl fg_X4_32 rfl rfl ?_
        refine q_iconst dX4_tellAct_53 rfl rfl ?_
        refine q_icmp_eq (tgt := 59) dX4_tellAct_54 rfl (by decide) (fun c_31 => ?_) (fun c_31 => ?_)
        · replace hf := it_f hf (by omega)
          refine q_aload_n dX4_tellAct_59 rfl rfl ?_
          refine q_dup dX4_tellAct_60 rfl (by decide) ?_
          refine g_get (k := 1) (kz := 1) dX4_tellAct_61 rfl fg_X4_21 rfl o_draft_0 ?_
          refine q_iconst dX4_tellAct_64 rfl rfl ?_
          refine q_iadd dX4_tellAct_65 rfl ?_
          refine g_put (k := 1) (kz := 1) dX4_tellAct_66 rfl fp_X4_21 rfl (fun q => q.1 rfl) o_draft_0 ?_
          obtain ⟨h_32, e_h_32, hf⟩ := nm_ex hf
          rw [← e_h_32]
          refine q_aload_n dX4_tellAct_69 rfl rfl ?_
          obtain ⟨r_33, h_34, e_35, hf⟩ := bd_ex hf
          refine g_Vv (vs := []) (st := []) dX4_tellAct_70 rfl (S_X4_advance X  h_32) e_35 mf_X4_advance ml_X4_29 rfl rfl rfl rfl ?_
          refine q_iconst dX4_tellAct_73 rfl rfl ?_
          exact g_breturn dX4_tellAct_74 rfl (Or.inr rfl) hf
        · replace hf := it_t hf (by omega)
          exact J_K_24 _ hf
    · replace hf := it_f hf (by omega)
      exact J_K_9 _ hf
def F_X4_tellFeud (draft_0 : Int) (h : Mem) : Res := if (¬ (h 2 2) = 10) then (some (0, h)) else (bd (F_X4_advance  h) (fun _ (h_2 : Mem) => bd (F_X4_isNumber 0 (w32 ((h_2 draft_0 1) - 1)) h_2) (fun r_4 (h_5 : Mem) => if (¬ r_4 = 0) then (nm (h_5 2 4) (fun first_9 => bd (F_X4_advance  h_5) (fun _ (h_11 : Mem) => jn (fun (K_13 : Mem → Res) => bd (F_X4_isNumber 0 (w32 ((h_11 draft_0 1) - 1)) h_11) (fun r_15 (h_16 : Mem) => if (¬ r_15 = 0) then (if ((h_16 2 4) = first_9) then (K_13 h_16) else (nm (h_16 2 4) (fun second_21 => bd (F_X4_advance  h_16) (fun _ (h_23 : Mem) => if (¬ (h_23 2 2) = 3) then (some (0, h_23)) else (bd (F_X2_fallOut draft_0 first_9 second_21 h_23) (fun _ (h_26 : Mem) => bd (F_X4_advance  h_26) (fun _ (h_29 : Mem) => some (1, h_29)))))))) else (K_13 h_16))) (fun (h_14 : Mem) => some (0, h_14))))) else (some (0, h_5)))))
theorem S_X4_tellFeud (X : XS) (draft_0 : Int) (o_draft_0 : okO 2 draft_0 = true) (h : Mem) : CB X yX4_tellFeud MX4_tellFeud 11 [(2, 2), (2, draft_0)] h (F_X4_tellFeud draft_0 h) := by
  refine CB.of (by decide) rfl (Nat.le_of_ble_eq_true rfl) (fun r hf => ?_)
  unfold F_X4_tellFeud at hf
  show AJ X MX4_tellFeud (rmD 11) 0 [(2, 2), (2, draft_0), (3, 0), (3, 0)] [] h (PB r)
  refine q_aload_n dX4_tellFeud_0 rfl rfl ?_
  refine g_get (k := 2) (kz := 2) dX4_tellFeud_1 rfl fg_X4_32 rfl rfl ?_
  refine q_bipush dX4_tellFeud_4 rfl (by decide) ?_
  refine q_icmp_eq (tgt := 11) dX4_tellFeud_6 rfl (by decide) (fun c_32 => ?_) (fun c_32 => ?_)
  · replace hf := it_f hf (by omega)
    refine q_aload_n dX4_tellFeud_11 rfl rfl ?_
    obtain ⟨r_1, h_2, e_3, hf⟩ := bd_ex hf
    refine g_Vv (vs := []) (st := []) dX4_tellFeud_12 rfl (S_X4_advance X  h) e_3 mf_X4_advance ml_X4_29 rfl rfl rfl rfl ?_
    refine q_aload_n dX4_tellFeud_15 rfl rfl ?_
    refine q_iconst dX4_tellFeud_16 rfl rfl ?_
    refine q_aload_n dX4_tellFeud_17 rfl rfl ?_
    refine g_get (k := 1) (kz := 1) dX4_tellFeud_18 rfl fg_X4_21 rfl o_draft_0 ?_
    refine q_iconst dX4_tellFeud_21 rfl rfl ?_
    refine q_isub dX4_tellFeud_22 rfl ?_
    obtain ⟨r_4, h_5, e_6, hf⟩ := bd_ex hf
    refine g_Vb (vs := [(0, 0), (0, w32 ((h_2 draft_0 1) - 1))]) (st := []) dX4_tellFeud_23 rfl (S_X4_isNumber X 0 (w32 ((h_2 draft_0 1) - 1)) h_2) e_6 mf_X4_isNumber ml_X4_68 rfl rfl rfl rfl (fun b_7 => ?_)
    refine q_if_ne (tgt := 31) dX4_tellFeud_26 rfl (by decide) (fun c_8 => ?_) (fun c_8 => ?_)
    · replace hf := it_t hf (by omega)
      refine q_aload_n dX4_tellFeud_31 rfl rfl ?_
      refine g_get (k := 4) (kz := 4) dX4_tellFeud_32 rfl fg_X4_72 rfl rfl ?_
      obtain ⟨first_9, e_first_9, hf⟩ := nm_ex hf
      rw [← e_first_9]
      refine q_istore_n (ls' := [(2, 2), (2, draft_0), (0, first_9), (3, 0)]) dX4_tellFeud_35 rfl rfl (Nat.le_of_ble_eq_true rfl) rfl ?_
      refine q_aload_n dX4_tellFeud_36 rfl rfl ?_
      obtain ⟨r_10, h_11, e_12, hf⟩ := bd_ex hf
      refine g_Vv (vs := []) (st := []) dX4_tellFeud_37 rfl (S_X4_advance X  h_5) e_12 mf_X4_advance ml_X4_29 rfl rfl rfl rfl ?_
      obtain ⟨K_13, J_K_13, hf⟩ := jn_ex (P := fun K => ∀ (h_14 : Mem), K h_14 = some r → AJ X MX4_tellFeud (rmD 11) 62 [(2, 2), (2, draft_0), (0, first_9), (3, 0)] [] h_14 (PB r)) hf (by
          intro h_14 hf
          refine q_iconst dX4_tellFeud_62 rfl rfl ?_
          exact g_breturn dX4_tellFeud_63 rfl (Or.inl rfl) hf)
      refine q_aload_n dX4_tellFeud_40 rfl rfl ?_
      refine q_iconst dX4_tellFeud_41 rfl rfl ?_
      refine q_aload_n dX4_tellFeud_42 rfl rfl ?_
      refine g_get (k := 1) (kz := 1) dX4_tellFeud_43 rfl fg_X4_21 rfl o_draft_0 ?_
      refine q_iconst dX4_tellFeud_46 rfl rfl ?_
      refine q_isub dX4_tellFeud_47 rfl ?_
      obtain ⟨r_15, h_16, e_17, hf⟩ := bd_ex hf
      refine g_Vb (vs := [(0, 0), (0, w32 ((h_11 draft_0 1) - 1))]) (st := []) dX4_tellFeud_48 rfl (S_X4_isNumber X 0 (w32 ((h_11 draft_0 1) - 1)) h_11) e_17 mf_X4_isNumber ml_X4_68 rfl rfl rfl rfl (fun b_18 => ?_)
      refine q_if_eq (tgt := 62) dX4_tellFeud_51 rfl (by decide) (fun c_19 => ?_) (fun c_19 => ?_)
      · replace hf := it_f hf (by omega)
        exact J_K_13 _ hf
      · replace hf := it_t hf (by omega)
        refine q_aload_n dX4_tellFeud_54 rfl rfl ?_
        refine g_get (k := 4) (kz := 4) dX4_tellFeud_55 rfl fg_X4_72 rfl rfl ?_
        refine q_iload_n dX4_tellFeud_58 rfl rfl ?_
        refine q_icmp_ne (tgt := 64) dX4_tellFeud_59 rfl (by decide) (fun c_20 => ?_) (fun c_20 => ?_)
        · replace hf := it_f hf (by omega)
          refine q_aload_n dX4_tellFeud_64 rfl rfl ?_
          refine g_get (k := 4) (kz := 4) dX4_tellFeud_65 rfl fg_X4_72 rfl rfl ?_
          obtain ⟨second_21, e_second_21, hf⟩ := nm_ex hf
          rw [← e_second_21]
          refine q_istore_n (ls' := [(2, 2), (2, draft_0), (0, first_9), (0, second_21)]) dX4_tellFeud_68 rfl rfl (Nat.le_of_ble_eq_true rfl) rfl ?_
          refine q_aload_n dX4_tellFeud_69 rfl rfl ?_
          obtain ⟨r_22, h_23, e_24, hf⟩ := bd_ex hf
          refine g_Vv (vs := []) (st := []) dX4_tellFeud_70 rfl (S_X4_advance X  h_16) e_24 mf_X4_advance ml_X4_29 rfl rfl rfl rfl ?_
          refine q_aload_n dX4_tellFeud_73 rfl rfl ?_
          refine g_get (k := 2) (kz := 2) dX4_tellFeud_74 rfl fg_X4_32 rfl rfl ?_
          refine q_iconst dX4_tellFeud_77 rfl rfl ?_
          refine q_icmp_eq (tgt := 83) dX4_tellFeud_78 rfl (by decide) (fun c_31 => ?_) (fun c_31 => ?_)
          · replace hf := it_f hf (by omega)
            refine q_aload_n dX4_tellFeud_83 rfl rfl ?_
            refine q_iload_n dX4_tellFeud_84 rfl rfl ?_
            refine q_iload_n dX4_tellFeud_85 rfl rfl ?_
            obtain ⟨r_25, h_26, e_27, hf⟩ := bd_ex hf
            refine g_Vv (vs := [(0, first_9), (0, second_21)]) (st := []) dX4_tellFeud_86 rfl (S_X2_fallOut X draft_0 o_draft_0 first_9 second_21 h_23) e_27 mf_X2_fallOut ml_X4_100 o_draft_0 rfl rfl rfl ?_
            refine q_aload_n dX4_tellFeud_89 rfl rfl ?_
            obtain ⟨r_28, h_29, e_30, hf⟩ := bd_ex hf
            refine g_Vv (vs := []) (st := []) dX4_tellFeud_90 rfl (S_X4_advance X  h_26) e_30 mf_X4_advance ml_X4_29 rfl rfl rfl rfl ?_
            refine q_iconst dX4_tellFeud_93 rfl rfl ?_
            exact g_breturn dX4_tellFeud_94 rfl (Or.inr rfl) hf
          · replace hf := it_t hf (by omega)
            refine q_iconst dX4_tellFeud_81 rfl rfl ?_
            exact g_breturn dX4_tellFeud_82 rfl (Or.inl rfl) hf
        · replace hf := it_t hf (by omega)
          exact J_K_13 _ hf
    · replace hf := it_f hf (by omega)
      refine q_iconst dX4_tellFeud_29 rfl rfl ?_
      exact g_breturn dX4_tellFeud_30 rfl (Or.inl rfl) hf
  · replace hf := it_t hf (by omega)
    refine q_iconst dX4_tellFeud_9 rfl rfl ?_
    exact g_breturn dX4_tellFeud_10 rfl (Or.inl rfl) hf
def L_X4_tell_1 (draft_0 : Int) (Kx : Int → Mem → Res) : Nat → Int → Mem → Res
  | 0, _, _ => none
  | n + 1, items_7, h_6 => if ((¬ (h_6 2 2) = 0) ∧ (items_7 < 400)) then (nm (α := Int) (if (((h_6 2 2) = 4) ∧ ((h_6 draft_0 1) < 9)) then 1 else 0) (fun v_8 => jn (fun (K_11 : Int → Mem → Res) => if (¬ v_8 = 0) then (bd (F_X4_tellAct draft_0 h_6) (fun r_12 (h_13 : Mem) => K_11 r_12 h_13)) else (bd (F_X4_tellFeud draft_0 h_6) (fun r_16 (h_17 : Mem) => K_11 r_16 h_17))) (fun v_22 (h_21 : Mem) => if (¬ (¬ v_22 = 0)) then (some (w32 ((-10) - (h_21 2 3)), h_21)) else (nm (w32 (items_7 + 1)) (fun items_23 => L_X4_tell_1 draft_0 Kx n items_23 h_21))))) else (Kx items_7 h_6)
def F_X4_tell (draft_0 : Int) (h : Mem) : Res := nm (wr h draft_0 1 0) (fun (h_1 : Mem) => nm (wr h_1 2 5 0) (fun (h_2 : Mem) => bd (F_X4_advance  h_2) (fun _ (h_4 : Mem) => L_X4_tell_1 draft_0 (fun items_29 (h_28 : Mem) => some (items_29, h_28)) FU 0 h_4)))
theorem SL_X4_tell_1 (X : XS) (draft_0 : Int) (o_draft_0 : okO 2 draft_0 = true) (Kx : Int → Mem → Res) {r : Int × Mem} (hK : ∀ (items_7 : Int) (h_6 : Mem), Kx items_7 h_6 = some r → AJ X MX4_tell (rmD 13) 91 [(2, 2), (2, draft_0), (0, items_7), (3, 0), (3, 0)] [] h_6 (PH 0 r)) :
    ∀ (n : Nat) (items_7 : Int) (h_6 : Mem), L_X4_tell_1 draft_0 Kx n items_7 h_6 = some r → AJ X MX4_tell (rmD 13) 16 [(2, 2), (2, draft_0), (0, items_7), (3, 0), (3, 0)] [] h_6 (PH 0 r) := by
  intro n
  induction n with
  | zero => intro items_7 h_6 hf; cases hf
  | succ n ih =>
    intro items_7 h_6 hf
    rw [L_X4_tell_1] at hf
    have HF_25 : ¬ ((¬ (h_6 2 2) = 0) ∧ (items_7 < 400)) → AJ X MX4_tell (rmD 13) 91 [(2, 2), (2, draft_0), (0, items_7), (3, 0), (3, 0)] [] h_6 (PH 0 r) := by
      intro hc
      replace hf := it_f hf hc
      exact hK _ _ hf
    refine q_aload_n dX4_tell_16 rfl rfl ?_
    refine g_get (k := 2) (kz := 2) dX4_tell_17 rfl fg_X4_32 rfl rfl ?_
    refine q_if_eq (tgt := 91) dX4_tell_20 rfl (by decide) (fun c_26 => ?_) (fun c_26 => ?_)
    · exact HF_25 (by omega)
    · refine q_iload_n dX4_tell_23 rfl rfl ?_
      refine q_sipush dX4_tell_24 rfl (by decide) ?_
      refine q_icmp_ge (tgt := 91) dX4_tell_27 rfl (by decide) (fun c_27 => ?_) (fun c_27 => ?_)
      · exact HF_25 (by omega)
      · replace hf := it_t hf (by omega)
        obtain ⟨v_8, e_v_8, hf⟩ := nm_ex hf
        have J_v_8 : AJ X MX4_tell (rmD 13) 52 [(2, 2), (2, draft_0), (0, items_7), (3, 0), (3, 0)] [(0, v_8)] h_6 (PH 0 r) := by
          refine q_istore_n (ls' := [(2, 2), (2, draft_0), (0, items_7), (0, v_8), (3, 0)]) dX4_tell_52 rfl rfl (Nat.le_of_ble_eq_true rfl) rfl ?_
          obtain ⟨K_11, J_K_11, hf⟩ := jn_ex (P := fun K => ∀ (v_22 : Int) (h_21 : Mem), K v_22 h_21 = some r → AJ X MX4_tell (rmD 13) 70 [(2, 2), (2, draft_0), (0, items_7), (0, v_8), (3, 0)] [(0, v_22)] h_21 (PH 0 r)) hf (by
              intro v_22 h_21 hf
              refine q_istore (ls' := [(2, 2), (2, draft_0), (0, items_7), (0, v_8), (0, v_22)]) dX4_tell_70 rfl (Nat.le_of_ble_eq_true rfl) rfl ?_
              refine q_iload dX4_tell_72 rfl rfl ?_
              refine q_if_ne (tgt := 85) dX4_tell_74 rfl (by decide) (fun c_24 => ?_) (fun c_24 => ?_)
              · replace hf := it_f hf (by omega)
                refine q_iinc (ls' := [(2, 2), (2, draft_0), (0, w32 (items_7 + 1)), (0, v_8), (0, v_22)]) dX4_tell_85 rfl rfl rfl ?_
                obtain ⟨items_23, e_items_23, hf⟩ := nm_ex hf
                rw [← e_items_23]
                refine q_goto (tgt := 16) dX4_tell_88 rfl (by decide) ?_
                refine g_frg (ls' := [(2, 2), (2, draft_0), (0, items_23), (3, 0), (3, 0)]) [3, 4] rfl ?_
                exact ih _ _ hf
              · replace hf := it_t hf (by omega)
                refine q_bipush dX4_tell_77 rfl (by decide) ?_
                refine q_aload_n dX4_tell_79 rfl rfl ?_
                refine g_get (k := 3) (kz := 3) dX4_tell_80 rfl fg_X4_42 rfl rfl ?_
                refine q_isub dX4_tell_83 rfl ?_
                exact g_ireturn dX4_tell_84 rfl hf)
          refine q_iload_n dX4_tell_53 rfl rfl ?_
          refine q_if_eq (tgt := 65) dX4_tell_54 rfl (by decide) (fun c_20 => ?_) (fun c_20 => ?_)
          · replace hf := it_f hf (by omega)
            refine q_aload_n dX4_tell_65 rfl rfl ?_
            refine q_aload_n dX4_tell_66 rfl rfl ?_
            obtain ⟨r_16, h_17, e_18, hf⟩ := bd_ex hf
            refine g_Vb (vs := [(2, draft_0)]) (st := []) dX4_tell_67 rfl (S_X4_tellFeud X draft_0 o_draft_0 h_6) e_18 mf_X4_tellFeud ml_X4_39 rfl rfl rfl rfl (fun b_19 => ?_)
            exact J_K_11 _ _ hf
          · replace hf := it_t hf (by omega)
            refine q_aload_n dX4_tell_57 rfl rfl ?_
            refine q_aload_n dX4_tell_58 rfl rfl ?_
            obtain ⟨r_12, h_13, e_14, hf⟩ := bd_ex hf
            refine g_Vb (vs := [(2, draft_0)]) (st := []) dX4_tell_59 rfl (S_X4_tellAct X draft_0 o_draft_0 h_6) e_14 mf_X4_tellAct ml_X4_35 rfl rfl rfl rfl (fun b_15 => ?_)
            refine q_goto (tgt := 70) dX4_tell_62 rfl (by decide) ?_
            exact J_K_11 _ _ hf
        clear hf
        refine q_aload_n dX4_tell_30 rfl rfl ?_
        refine g_get (k := 2) (kz := 2) dX4_tell_31 rfl fg_X4_32 rfl rfl ?_
        refine q_iconst dX4_tell_34 rfl rfl ?_
        refine q_icmp_ne (tgt := 51) dX4_tell_35 rfl (by decide) (fun c_9 => ?_) (fun c_9 => ?_)
        · refine q_iconst dX4_tell_51 rfl rfl ?_
          have e1 : v_8 = 0 := by omega
          subst e1
          exact J_v_8
        · refine q_aload_n dX4_tell_38 rfl rfl ?_
          refine g_get (k := 1) (kz := 1) dX4_tell_39 rfl fg_X4_21 rfl o_draft_0 ?_
          refine q_bipush dX4_tell_42 rfl (by decide) ?_
          refine q_icmp_ge (tgt := 51) dX4_tell_44 rfl (by decide) (fun c_10 => ?_) (fun c_10 => ?_)
          · refine q_iconst dX4_tell_51 rfl rfl ?_
            have e1 : v_8 = 0 := by omega
            subst e1
            exact J_v_8
          · refine q_iconst dX4_tell_47 rfl rfl ?_
            refine q_goto (tgt := 52) dX4_tell_48 rfl (by decide) ?_
            have e1 : v_8 = 1 := by omega
            subst e1
            exact J_v_8
theorem S_X4_tell (X : XS) (draft_0 : Int) (o_draft_0 : okO 2 draft_0 = true) (h : Mem) : CT X yX4_tell MX4_tell (some .int) 0 13 [(2, 2), (2, draft_0)] h (F_X4_tell draft_0 h) := by
  refine CT.ofI (by decide) rfl (Nat.le_of_ble_eq_true rfl) (fun r hf => ?_)
  unfold F_X4_tell at hf
  show AJ X MX4_tell (rmD 13) 0 [(2, 2), (2, draft_0), (3, 0), (3, 0), (3, 0)] [] h (PH 0 r)
  refine q_aload_n dX4_tell_0 rfl rfl ?_
  refine q_iconst dX4_tell_1 rfl rfl ?_
  refine g_put (k := 1) (kz := 1) dX4_tell_2 rfl fp_X4_21 rfl (fun q => q.1 rfl) o_draft_0 ?_
  obtain ⟨h_1, e_h_1, hf⟩ := nm_ex hf
  rw [← e_h_1]
  refine q_aload_n dX4_tell_5 rfl rfl ?_
  refine q_iconst dX4_tell_6 rfl rfl ?_
  refine g_put (k := 5) (kz := 5) dX4_tell_7 rfl fp_X4_26 rfl (fun q => q.1 rfl) rfl ?_
  obtain ⟨h_2, e_h_2, hf⟩ := nm_ex hf
  rw [← e_h_2]
  refine q_aload_n dX4_tell_10 rfl rfl ?_
  obtain ⟨r_3, h_4, e_5, hf⟩ := bd_ex hf
  refine g_Vv (vs := []) (st := []) dX4_tell_11 rfl (S_X4_advance X  h_2) e_5 mf_X4_advance ml_X4_29 rfl rfl rfl rfl ?_
  refine q_iconst dX4_tell_14 rfl rfl ?_
  refine q_istore_n (ls' := [(2, 2), (2, draft_0), (0, 0), (3, 0), (3, 0)]) dX4_tell_15 rfl rfl (Nat.le_of_ble_eq_true rfl) rfl ?_
  refine SL_X4_tell_1 X draft_0 o_draft_0 _ (fun items_29 h_28 hf => ?_) FU _ _ hf
  refine q_iload_n dX4_tell_91 rfl rfl ?_
  exact g_ireturn dX4_tell_92 rfl hf
