def F_X6_clapsBy (p_0 heat_0 : Int) (h : Mem) : Res := jn (fun (K_1 : Int → Mem → Res) => if (p_0 < 2) then (nm (α := Int) (if (p_0 = 0) then (h 34 4) else (idv (w32 ((h 34 4) + 10)) 2)) (fun v_2 => K_1 v_2 h)) else (K_1 10 h)) (fun seats_6 (h_5 : Mem) => gd (0 ≤ p_0 ∧ p_0 < 10) (nm (h_5 35 p_0) (fun act_8 => gd (okO 0 act_8 = true) (nm (idv (w32 ((h_5 act_8 3) * (w32 (100 + heat_0)))) 100) (fun warm_10 => nm (α := Int) (if (5 < p_0) then (w32 ((h_5 34 5) * (w32 (p_0 - 5)))) else 0) (fun v_11 => some (mxI 0 (w32 ((idv (w32 (warm_10 * seats_6)) 10) - v_11)), h_5)))))))
theorem S_X6_clapsBy (X : XS) (p_0 : Int) (heat_0 : Int) (h : Mem) : CT X yX6_clapsBy MX6_clapsBy (some .int) 0 1 [(2, 33), (0, p_0), (0, heat_0)] h (F_X6_clapsBy p_0 heat_0 h) := by
  refine CT.ofI (by decide) rfl (Nat.le_of_ble_eq_true rfl) (fun r hf => ?_)
  unfold F_X6_clapsBy at hf
  show AJ X MX6_clapsBy (rmD 1) 0 [(2, 33), (0, p_0), (0, heat_0), (3, 0), (3, 0), (3, 0)] [] h (PH 0 r)
  refine q_bipush dX6_clapsBy_0 rfl (by decide) ?_
  refine q_istore_n (ls' := [(2, 33), (0, p_0), (0, heat_0), (0, 10), (3, 0), (3, 0)]) dX6_clapsBy_2 rfl rfl (Nat.le_of_ble_eq_true rfl) rfl ?_
  obtain ⟨K_1, J_K_1, hf⟩ := jn_ex (P := fun K => ∀ (seats_6 : Int) (h_5 : Mem), K seats_6 h_5 = some r → AJ X MX6_clapsBy (rmD 1) 33 [(2, 33), (0, p_0), (0, heat_0), (0, seats_6), (3, 0), (3, 0)] [] h_5 (PH 0 r)) hf (by
      intro seats_6 h_5 hf
      refine q_aload_n dX6_clapsBy_33 rfl rfl ?_
      refine g_getF (k := 1) (o := 2) (z := 35) dX6_clapsBy_34 rfl fg_X6_25 rfl rfl rfl ?_
      refine q_iload_n dX6_clapsBy_37 rfl rfl ?_
      obtain ⟨g_7, hf⟩ := gd_ex hf
      refine q_aaload dX6_clapsBy_38 rfl rfl (by decide) g_7 ?_
      obtain ⟨act_8, e_act_8, hf⟩ := nm_ex hf
      rw [← e_act_8]
      obtain ⟨o_act_9, hf⟩ := gd_ex hf
      refine g_get (k := 3) (kz := 3) dX6_clapsBy_39 rfl fg_X6_104 rfl o_act_9 ?_
      refine q_bipush dX6_clapsBy_42 rfl (by decide) ?_
      refine q_iload_n dX6_clapsBy_44 rfl rfl ?_
      refine q_iadd dX6_clapsBy_45 rfl ?_
      refine q_imul dX6_clapsBy_46 rfl ?_
      refine q_bipush dX6_clapsBy_47 rfl (by decide) ?_
      refine q_idiv dX6_clapsBy_49 rfl (by decide) ?_
      obtain ⟨warm_10, e_warm_10, hf⟩ := nm_ex hf
      rw [← e_warm_10]
      refine q_istore (ls' := [(2, 33), (0, p_0), (0, heat_0), (0, seats_6), (0, warm_10), (3, 0)]) dX6_clapsBy_50 rfl (Nat.le_of_ble_eq_true rfl) rfl ?_
      obtain ⟨v_11, e_v_11, hf⟩ := nm_ex hf
      have J_v_11 : AJ X MX6_clapsBy (rmD 1) 71 [(2, 33), (0, p_0), (0, heat_0), (0, seats_6), (0, warm_10), (3, 0)] [(0, v_11)] h_5 (PH 0 r) := by
        refine q_istore (ls' := [(2, 33), (0, p_0), (0, heat_0), (0, seats_6), (0, warm_10), (0, v_11)]) dX6_clapsBy_71 rfl (Nat.le_of_ble_eq_true rfl) rfl ?_
        refine q_iconst dX6_clapsBy_73 rfl rfl ?_
        refine q_iload dX6_clapsBy_74 rfl rfl ?_
        refine q_iload_n dX6_clapsBy_76 rfl rfl ?_
        refine q_imul dX6_clapsBy_77 rfl ?_
        refine q_bipush dX6_clapsBy_78 rfl (by decide) ?_
        refine q_idiv dX6_clapsBy_80 rfl (by decide) ?_
        refine q_iload dX6_clapsBy_81 rfl rfl ?_
        refine q_isub dX6_clapsBy_83 rfl ?_
        refine g_max dX6_clapsBy_84 rfl ml_X6_80 mw_max rfl rfl ?_
        exact g_ireturn dX6_clapsBy_87 rfl hf
      clear hf
      refine q_iload_n dX6_clapsBy_52 rfl rfl ?_
      refine q_iconst dX6_clapsBy_53 rfl rfl ?_
      refine q_icmp_le (tgt := 70) dX6_clapsBy_54 rfl (by decide) (fun c_12 => ?_) (fun c_12 => ?_)
      · refine q_iconst dX6_clapsBy_70 rfl rfl ?_
        have e1 : v_11 = 0 := by omega
        subst e1
        exact J_v_11
      · refine q_aload_n dX6_clapsBy_57 rfl rfl ?_
        refine g_getF (k := 0) (o := 1) (z := 34) dX6_clapsBy_58 rfl fg_X6_18 rfl rfl rfl ?_
        refine q_iconst dX6_clapsBy_61 rfl rfl ?_
        refine q_iaload dX6_clapsBy_62 rfl rfl (by decide) ?_
        refine q_iload_n dX6_clapsBy_63 rfl rfl ?_
        refine q_iconst dX6_clapsBy_64 rfl rfl ?_
        refine q_isub dX6_clapsBy_65 rfl ?_
        refine q_imul dX6_clapsBy_66 rfl ?_
        refine q_goto (tgt := 71) dX6_clapsBy_67 rfl (by decide) ?_
        have e1 : v_11 = w32 ((h_5 34 5) * (w32 (p_0 - 5))) := by omega
        subst e1
        exact J_v_11)
  refine q_iload_n dX6_clapsBy_3 rfl rfl ?_
  refine q_iconst dX6_clapsBy_4 rfl rfl ?_
  refine q_icmp_ge (tgt := 33) dX6_clapsBy_5 rfl (by decide) (fun c_4 => ?_) (fun c_4 => ?_)
  · replace hf := it_f hf (by omega)
    exact J_K_1 _ _ hf
  · replace hf := it_t hf (by omega)
    obtain ⟨v_2, e_v_2, hf⟩ := nm_ex hf
    have J_v_2 : AJ X MX6_clapsBy (rmD 1) 32 [(2, 33), (0, p_0), (0, heat_0), (0, 10), (3, 0), (3, 0)] [(0, v_2)] h (PH 0 r) := by
      refine q_istore_n (ls' := [(2, 33), (0, p_0), (0, heat_0), (0, v_2), (3, 0), (3, 0)]) dX6_clapsBy_32 rfl rfl (Nat.le_of_ble_eq_true rfl) rfl ?_
      exact J_K_1 _ _ hf
    clear hf
    refine q_iload_n dX6_clapsBy_8 rfl rfl ?_
    refine q_if_ne (tgt := 21) dX6_clapsBy_9 rfl (by decide) (fun c_3 => ?_) (fun c_3 => ?_)
    · refine q_aload_n dX6_clapsBy_21 rfl rfl ?_
      refine g_getF (k := 0) (o := 1) (z := 34) dX6_clapsBy_22 rfl fg_X6_18 rfl rfl rfl ?_
      refine q_iconst dX6_clapsBy_25 rfl rfl ?_
      refine q_iaload dX6_clapsBy_26 rfl rfl (by decide) ?_
      refine q_bipush dX6_clapsBy_27 rfl (by decide) ?_
      refine q_iadd dX6_clapsBy_29 rfl ?_
      refine q_iconst dX6_clapsBy_30 rfl rfl ?_
      refine q_idiv dX6_clapsBy_31 rfl (by decide) ?_
      have e1 : v_2 = idv (w32 ((h 34 4) + 10)) 2 := by omega
      subst e1
      exact J_v_2
    · refine q_aload_n dX6_clapsBy_12 rfl rfl ?_
      refine g_getF (k := 0) (o := 1) (z := 34) dX6_clapsBy_13 rfl fg_X6_18 rfl rfl rfl ?_
      refine q_iconst dX6_clapsBy_16 rfl rfl ?_
      refine q_iaload dX6_clapsBy_17 rfl rfl (by decide) ?_
      refine q_goto (tgt := 32) dX6_clapsBy_18 rfl (by decide) ?_
      have e1 : v_2 = h 34 4 := by omega
      subst e1
      exact J_v_2
def F_X6_damping (ahead_0 tone_0 : Int) (h : Mem) : Res := if ((tone_0 = ahead_0) ∧ (¬ tone_0 = 0)) then (some (10, h)) else (if ((tone_0 = 2) ∧ (ahead_0 = 1)) then (some (5, h)) else (some (0, h)))
theorem S_X6_damping (X : XS) (ahead_0 : Int) (tone_0 : Int) (h : Mem) : CT X yX6_damping MX6_damping (some .int) 0 0 [(0, ahead_0), (0, tone_0)] h (F_X6_damping ahead_0 tone_0 h) := by
  refine CT.ofI (by decide) rfl (Nat.le_of_ble_eq_true rfl) (fun r hf => ?_)
  unfold F_X6_damping at hf
  show AJ X MX6_damping (rmD 0) 0 [(0, ahead_0), (0, tone_0)] [] h (PH 0 r)
  have HF_4 : ¬ ((tone_0 = ahead_0) ∧ (¬ tone_0 = 0)) → AJ X MX6_damping (rmD 0) 12 [(0, ahead_0), (0, tone_0)] [] h (PH 0 r) := by
    intro hc
    replace hf := it_f hf hc
    have HF_1 : ¬ ((tone_0 = 2) ∧ (ahead_0 = 1)) → AJ X MX6_damping (rmD 0) 26 [(0, ahead_0), (0, tone_0)] [] h (PH 0 r) := by
      intro hc
      replace hf := it_f hf hc
      refine q_iconst dX6_damping_26 rfl rfl ?_
      exact g_ireturn dX6_damping_27 rfl hf
    refine q_iload_n dX6_damping_12 rfl rfl ?_
    refine q_iconst dX6_damping_13 rfl rfl ?_
    refine q_icmp_ne (tgt := 26) dX6_damping_14 rfl (by decide) (fun c_2 => ?_) (fun c_2 => ?_)
    · exact HF_1 (by omega)
    · refine q_iload_n dX6_damping_17 rfl rfl ?_
      refine q_iconst dX6_damping_18 rfl rfl ?_
      refine q_icmp_ne (tgt := 26) dX6_damping_19 rfl (by decide) (fun c_3 => ?_) (fun c_3 => ?_)
      · exact HF_1 (by omega)
      · replace hf := it_t hf (by omega)
        refine q_iconst dX6_damping_22 rfl rfl ?_
        refine q_goto (tgt := 27) dX6_damping_23 rfl (by decide) ?_
        exact g_ireturn dX6_damping_27 rfl hf
  refine q_iload_n dX6_damping_0 rfl rfl ?_
  refine q_iload_n dX6_damping_1 rfl rfl ?_
  refine q_icmp_ne (tgt := 12) dX6_damping_2 rfl (by decide) (fun c_5 => ?_) (fun c_5 => ?_)
  · exact HF_4 (by omega)
  · refine q_iload_n dX6_damping_5 rfl rfl ?_
    refine q_if_eq (tgt := 12) dX6_damping_6 rfl (by decide) (fun c_6 => ?_) (fun c_6 => ?_)
    · exact HF_4 (by omega)
    · replace hf := it_t hf (by omega)
      refine q_bipush dX6_damping_9 rfl (by decide) ?_
      exact g_ireturn dX6_damping_11 rfl hf
def F_X6_pausesAhead (p_0 : Int) (h : Mem) : Res := if ((0 < p_0) ∧ (p_0 = (h 33 12))) then (some (1, h)) else (some (0, h))
theorem S_X6_pausesAhead (X : XS) (p_0 : Int) (h : Mem) : CB X yX6_pausesAhead MX6_pausesAhead 0 [(2, 33), (0, p_0)] h (F_X6_pausesAhead p_0 h) := by
  refine CB.of (by decide) rfl (Nat.le_of_ble_eq_true rfl) (fun r hf => ?_)
  unfold F_X6_pausesAhead at hf
  show AJ X MX6_pausesAhead (rmD 0) 0 [(2, 33), (0, p_0)] [] h (PB r)
  have HF_1 : ¬ ((0 < p_0) ∧ (p_0 = (h 33 12))) → AJ X MX6_pausesAhead (rmD 0) 16 [(2, 33), (0, p_0)] [] h (PB r) := by
    intro hc
    replace hf := it_f hf hc
    refine q_iconst dX6_pausesAhead_16 rfl rfl ?_
    exact g_breturn dX6_pausesAhead_17 rfl (Or.inl rfl) hf
  refine q_iload_n dX6_pausesAhead_0 rfl rfl ?_
  refine q_if_le (tgt := 16) dX6_pausesAhead_1 rfl (by decide) (fun c_2 => ?_) (fun c_2 => ?_)
  · exact HF_1 (by omega)
  · refine q_iload_n dX6_pausesAhead_4 rfl rfl ?_
    refine q_aload_n dX6_pausesAhead_5 rfl rfl ?_
    refine g_get (k := 12) (kz := 12) dX6_pausesAhead_6 rfl fg_X6_63 rfl rfl ?_
    refine q_icmp_ne (tgt := 16) dX6_pausesAhead_9 rfl (by decide) (fun c_3 => ?_) (fun c_3 => ?_)
    · exact HF_1 (by omega)
    · replace hf := it_t hf (by omega)
      refine q_iconst dX6_pausesAhead_12 rfl rfl ?_
      refine q_goto (tgt := 17) dX6_pausesAhead_13 rfl (by decide) ?_
      exact g_breturn dX6_pausesAhead_17 rfl (Or.inr rfl) hf
def F_X6_applaud (p_0 luck_0 : Int) (h : Mem) : Res := jn (fun (K_1 : Int → Mem → Res) => if (0 < p_0) then (gd (0 ≤ (w32 (p_0 - 1)) ∧ (w32 (p_0 - 1)) < 10) (K_1 (h 42 (w32 (p_0 - 1))) h)) else (K_1 (h 34 6) h)) (fun v_5 (h_4 : Mem) => jn (fun (K_6 : Int → Mem → Res) => if (0 < p_0) then (gd (0 ≤ (w32 (p_0 - 1)) ∧ (w32 (p_0 - 1)) < 10) (K_6 (h_4 43 (w32 (p_0 - 1))) h_4)) else (K_6 (h_4 34 7) h_4)) (fun v_10 (h_9 : Mem) => bd (F_X6_pausesAhead p_0 h_9) (fun r_11 (h_12 : Mem) => jn (fun (K_15 : Int → Mem → Res) => if (¬ r_11 = 0) then (nm (wr h_12 33 13 (idv (w32 (v_10 * v_5)) 1000)) (fun (h_16 : Mem) => nm (idv v_5 2) (fun heat_17 => K_15 heat_17 h_16))) else (K_15 v_5 h_12)) (fun heat_20 (h_19 : Mem) => gd (0 ≤ p_0 ∧ p_0 < 10) (nm (mxI 0 (w32 (heat_20 - (w32 ((h_19 34 3) * (h_19 36 p_0)))))) (fun heat_22 => jn (fun (K_23 : Int → Mem → Res) => if ((0 < p_0) ∧ (¬ (¬ r_11 = 0))) then (gd (0 ≤ (w32 (p_0 - 1)) ∧ (w32 (p_0 - 1)) < 10) (nm (h_19 35 (w32 (p_0 - 1))) (fun act_25 => gd (okO 0 act_25 = true) (nm (h_19 35 p_0) (fun act_27 => gd (okO 0 act_27 = true) (bd (F_X6_damping (h_19 act_25 7) (h_19 act_27 7) h_19) (fun r_29 (h_30 : Mem) => nm (mxI 0 (w32 (heat_22 - r_29))) (fun heat_32 => K_23 heat_32 h_30)))))))) else (K_23 heat_22 h_19)) (fun heat_37 (h_36 : Mem) => bd (F_X6_clapsBy p_0 heat_37 h_36) (fun r_38 (h_39 : Mem) => nm (mxI 0 (w32 (r_38 + luck_0))) (fun loudness_41 => nm (wr h_39 40 p_0 heat_37) (fun (h_42 : Mem) => nm (wr h_42 41 p_0 loudness_41) (fun (h_43 : Mem) => nm (wr h_43 42 p_0 (mxI 0 (mnI 100 (w32 ((w32 (heat_37 + loudness_41)) - 12))))) (fun (h_44 : Mem) => nm (α := Int) (if (loudness_41 < 8) then (w32 (v_10 - (idv (w32 (v_10 * (w32 (8 - loudness_41)))) 100))) else v_10) (fun v_45 => nm (wr h_44 43 p_0 v_45) (fun (h_47 : Mem) => jn (fun (K_48 : Int → Mem → Res) => if (0 < p_0) then (gd (0 ≤ (w32 (p_0 - 1)) ∧ (w32 (p_0 - 1)) < 10) (K_48 (h_47 44 (w32 (p_0 - 1))) h_47)) else (K_48 0 h_47)) (fun v_52 (h_51 : Mem) => nm (wr h_51 44 p_0 (w32 (loudness_41 + v_52))) (fun (h_53 : Mem) => some (0, h_53)))))))))))))))))
theorem S_X6_applaud (X : XS) (p_0 : Int) (luck_0 : Int) (h : Mem) : CT X yX6_applaud MX6_applaud none 9 2 [(2, 33), (0, p_0), (0, luck_0)] h (F_X6_applaud p_0 luck_0 h) := by
  refine CT.ofV (by decide) rfl (Nat.le_of_ble_eq_true rfl) (fun r hf => ?_)
  unfold F_X6_applaud at hf
  show AJ X MX6_applaud (rmD 2) 0 [(2, 33), (0, p_0), (0, luck_0), (3, 0), (3, 0), (3, 0), (3, 0)] [] h (PH 9 r)
  obtain ⟨K_1, J_K_1, hf⟩ := jn_ex (P := fun K => ∀ (v_5 : Int) (h_4 : Mem), K v_5 h_4 = some r → AJ X MX6_applaud (rmD 2) 22 [(2, 33), (0, p_0), (0, luck_0), (3, 0), (3, 0), (3, 0), (3, 0)] [(0, v_5)] h_4 (PH 9 r)) hf (by
      intro v_5 h_4 hf
      refine q_istore_n (ls' := [(2, 33), (0, p_0), (0, luck_0), (0, v_5), (3, 0), (3, 0), (3, 0)]) dX6_applaud_22 rfl rfl (Nat.le_of_ble_eq_true rfl) rfl ?_
      obtain ⟨K_6, J_K_6, hf⟩ := jn_ex (P := fun K => ∀ (v_10 : Int) (h_9 : Mem), K v_10 h_9 = some r → AJ X MX6_applaud (rmD 2) 45 [(2, 33), (0, p_0), (0, luck_0), (0, v_5), (3, 0), (3, 0), (3, 0)] [(0, v_10)] h_9 (PH 9 r)) hf (by
          intro v_10 h_9 hf
          refine q_istore (ls' := [(2, 33), (0, p_0), (0, luck_0), (0, v_5), (0, v_10), (3, 0), (3, 0)]) dX6_applaud_45 rfl (Nat.le_of_ble_eq_true rfl) rfl ?_
          refine q_aload_n dX6_applaud_47 rfl rfl ?_
          refine q_iload_n dX6_applaud_48 rfl rfl ?_
          obtain ⟨r_11, h_12, e_13, hf⟩ := bd_ex hf
          refine g_Vb (vs := [(0, p_0)]) (st := []) dX6_applaud_49 rfl (S_X6_pausesAhead X p_0 h_9) e_13 mf_X6_pausesAhead ml_X6_69 rfl rfl rfl rfl (fun b_14 => ?_)
          refine q_istore (ls' := [(2, 33), (0, p_0), (0, luck_0), (0, v_5), (0, v_10), (0, r_11), (3, 0)]) dX6_applaud_52 rfl (Nat.le_of_ble_eq_true rfl) rfl ?_
          obtain ⟨K_15, J_K_15, hf⟩ := jn_ex (P := fun K => ∀ (heat_20 : Int) (h_19 : Mem), K heat_20 h_19 = some r → AJ X MX6_applaud (rmD 2) 75 [(2, 33), (0, p_0), (0, luck_0), (0, heat_20), (0, v_10), (0, r_11), (3, 0)] [] h_19 (PH 9 r)) hf (by
              intro heat_20 h_19 hf
              refine q_iconst dX6_applaud_75 rfl rfl ?_
              refine q_iload_n dX6_applaud_76 rfl rfl ?_
              refine q_aload_n dX6_applaud_77 rfl rfl ?_
              refine g_getF (k := 0) (o := 1) (z := 34) dX6_applaud_78 rfl fg_X6_18 rfl rfl rfl ?_
              refine q_iconst dX6_applaud_81 rfl rfl ?_
              refine q_iaload dX6_applaud_82 rfl rfl (by decide) ?_
              refine q_aload_n dX6_applaud_83 rfl rfl ?_
              refine g_getF (k := 2) (o := 3) (z := 36) dX6_applaud_84 rfl fg_X6_32 rfl rfl rfl ?_
              refine q_iload_n dX6_applaud_87 rfl rfl ?_
              obtain ⟨g_21, hf⟩ := gd_ex hf
              refine q_iaload dX6_applaud_88 rfl rfl g_21 ?_
              refine q_imul dX6_applaud_89 rfl ?_
              refine q_isub dX6_applaud_90 rfl ?_
              refine g_max dX6_applaud_91 rfl ml_X6_80 mw_max rfl rfl ?_
              obtain ⟨heat_22, e_heat_22, hf⟩ := nm_ex hf
              rw [← e_heat_22]
              refine q_istore_n (ls' := [(2, 33), (0, p_0), (0, luck_0), (0, heat_22), (0, v_10), (0, r_11), (3, 0)]) dX6_applaud_94 rfl rfl (Nat.le_of_ble_eq_true rfl) rfl ?_
              obtain ⟨K_23, J_K_23, hf⟩ := jn_ex (P := fun K => ∀ (heat_37 : Int) (h_36 : Mem), K heat_37 h_36 = some r → AJ X MX6_applaud (rmD 2) 134 [(2, 33), (0, p_0), (0, luck_0), (0, heat_37), (0, v_10), (0, r_11), (3, 0)] [] h_36 (PH 9 r)) hf (by
                  intro heat_37 h_36 hf
                  refine q_iconst dX6_applaud_134 rfl rfl ?_
                  refine q_aload_n dX6_applaud_135 rfl rfl ?_
                  refine q_iload_n dX6_applaud_136 rfl rfl ?_
                  refine q_iload_n dX6_applaud_137 rfl rfl ?_
                  obtain ⟨r_38, h_39, e_40, hf⟩ := bd_ex hf
                  refine g_Vi (vs := [(0, p_0), (0, heat_37)]) (st := [(0, 0)]) dX6_applaud_138 rfl (S_X6_clapsBy X p_0 heat_37 h_36) e_40 mf_X6_clapsBy ml_X6_98 rfl rfl rfl rfl ?_
                  refine q_iload_n dX6_applaud_141 rfl rfl ?_
                  refine q_iadd dX6_applaud_142 rfl ?_
                  refine g_max dX6_applaud_143 rfl ml_X6_80 mw_max rfl rfl ?_
                  obtain ⟨loudness_41, e_loudness_41, hf⟩ := nm_ex hf
                  rw [← e_loudness_41]
                  refine q_istore (ls' := [(2, 33), (0, p_0), (0, luck_0), (0, heat_37), (0, v_10), (0, r_11), (0, loudness_41)]) dX6_applaud_146 rfl (Nat.le_of_ble_eq_true rfl) rfl ?_
                  refine q_aload_n dX6_applaud_148 rfl rfl ?_
                  refine g_getF (k := 6) (o := 7) (z := 40) dX6_applaud_149 rfl fg_X6_44 rfl rfl rfl ?_
                  refine q_iload_n dX6_applaud_152 rfl rfl ?_
                  refine q_iload_n dX6_applaud_153 rfl rfl ?_
                  refine q_iastore dX6_applaud_154 rfl rfl g_21 ?_
                  obtain ⟨h_42, e_h_42, hf⟩ := nm_ex hf
                  rw [← e_h_42]
                  refine q_aload_n dX6_applaud_155 rfl rfl ?_
                  refine g_getF (k := 7) (o := 8) (z := 41) dX6_applaud_156 rfl fg_X6_47 rfl rfl rfl ?_
                  refine q_iload_n dX6_applaud_159 rfl rfl ?_
                  refine q_iload dX6_applaud_160 rfl rfl ?_
                  refine q_iastore dX6_applaud_162 rfl rfl g_21 ?_
                  obtain ⟨h_43, e_h_43, hf⟩ := nm_ex hf
                  rw [← e_h_43]
                  refine q_aload_n dX6_applaud_163 rfl rfl ?_
                  refine g_getF (k := 8) (o := 9) (z := 42) dX6_applaud_164 rfl fg_X6_50 rfl rfl rfl ?_
                  refine q_iload_n dX6_applaud_167 rfl rfl ?_
                  refine q_iconst dX6_applaud_168 rfl rfl ?_
                  refine q_bipush dX6_applaud_169 rfl (by decide) ?_
                  refine q_iload_n dX6_applaud_171 rfl rfl ?_
                  refine q_iload dX6_applaud_172 rfl rfl ?_
                  refine q_iadd dX6_applaud_174 rfl ?_
                  refine q_bipush dX6_applaud_175 rfl (by decide) ?_
                  refine q_isub dX6_applaud_177 rfl ?_
                  refine g_min dX6_applaud_178 rfl ml_X6_101 mw_min rfl rfl ?_
                  refine g_max dX6_applaud_181 rfl ml_X6_80 mw_max rfl rfl ?_
                  refine q_iastore dX6_applaud_184 rfl rfl g_21 ?_
                  obtain ⟨h_44, e_h_44, hf⟩ := nm_ex hf
                  rw [← e_h_44]
                  refine q_aload_n dX6_applaud_185 rfl rfl ?_
                  refine g_getF (k := 9) (o := 10) (z := 43) dX6_applaud_186 rfl fg_X6_53 rfl rfl rfl ?_
                  refine q_iload_n dX6_applaud_189 rfl rfl ?_
                  obtain ⟨v_45, e_v_45, hf⟩ := nm_ex hf
                  have J_v_45 : AJ X MX6_applaud (rmD 2) 216 [(2, 33), (0, p_0), (0, luck_0), (0, heat_37), (0, v_10), (0, r_11), (0, loudness_41)] [(0, v_45), (0, p_0), (2, 43)] h_44 (PH 9 r) := by
                    refine q_iastore dX6_applaud_216 rfl rfl g_21 ?_
                    obtain ⟨h_47, e_h_47, hf⟩ := nm_ex hf
                    rw [← e_h_47]
                    refine q_aload_n dX6_applaud_217 rfl rfl ?_
                    refine g_getF (k := 10) (o := 11) (z := 44) dX6_applaud_218 rfl fg_X6_56 rfl rfl rfl ?_
                    refine q_iload_n dX6_applaud_221 rfl rfl ?_
                    refine q_iload dX6_applaud_222 rfl rfl ?_
                    obtain ⟨K_48, J_K_48, hf⟩ := jn_ex (P := fun K => ∀ (v_52 : Int) (h_51 : Mem), K v_52 h_51 = some r → AJ X MX6_applaud (rmD 2) 240 [(2, 33), (0, p_0), (0, luck_0), (0, heat_37), (0, v_10), (0, r_11), (0, loudness_41)] [(0, v_52), (0, loudness_41), (0, p_0), (2, 44)] h_51 (PH 9 r)) hf (by
                        intro v_52 h_51 hf
                        refine q_iadd dX6_applaud_240 rfl ?_
                        refine q_iastore dX6_applaud_241 rfl rfl g_21 ?_
                        obtain ⟨h_53, e_h_53, hf⟩ := nm_ex hf
                        rw [← e_h_53]
                        exact g_return dX6_applaud_242 rfl hf)
                    refine q_iload_n dX6_applaud_224 rfl rfl ?_
                    refine q_if_le (tgt := 239) dX6_applaud_225 rfl (by decide) (fun c_50 => ?_) (fun c_50 => ?_)
                    · replace hf := it_f hf (by omega)
                      refine q_iconst dX6_applaud_239 rfl rfl ?_
                      exact J_K_48 _ _ hf
                    · replace hf := it_t hf (by omega)
                      refine q_aload_n dX6_applaud_228 rfl rfl ?_
                      refine g_getF (k := 10) (o := 11) (z := 44) dX6_applaud_229 rfl fg_X6_56 rfl rfl rfl ?_
                      refine q_iload_n dX6_applaud_232 rfl rfl ?_
                      refine q_iconst dX6_applaud_233 rfl rfl ?_
                      refine q_isub dX6_applaud_234 rfl ?_
                      obtain ⟨g_49, hf⟩ := gd_ex hf
                      refine q_iaload dX6_applaud_235 rfl rfl g_49 ?_
                      refine q_goto (tgt := 240) dX6_applaud_236 rfl (by decide) ?_
                      exact J_K_48 _ _ hf
                  clear hf
                  refine q_iload dX6_applaud_190 rfl rfl ?_
                  refine q_bipush dX6_applaud_192 rfl (by decide) ?_
                  refine q_icmp_ge (tgt := 214) dX6_applaud_194 rfl (by decide) (fun c_46 => ?_) (fun c_46 => ?_)
                  · refine q_iload dX6_applaud_214 rfl rfl ?_
                    have e1 : v_45 = v_10 := by omega
                    subst e1
                    exact J_v_45
                  · refine q_iload dX6_applaud_197 rfl rfl ?_
                    refine q_iload dX6_applaud_199 rfl rfl ?_
                    refine q_bipush dX6_applaud_201 rfl (by decide) ?_
                    refine q_iload dX6_applaud_203 rfl rfl ?_
                    refine q_isub dX6_applaud_205 rfl ?_
                    refine q_imul dX6_applaud_206 rfl ?_
                    refine q_bipush dX6_applaud_207 rfl (by decide) ?_
                    refine q_idiv dX6_applaud_209 rfl (by decide) ?_
                    refine q_isub dX6_applaud_210 rfl ?_
                    refine q_goto (tgt := 216) dX6_applaud_211 rfl (by decide) ?_
                    have e1 : v_45 = w32 (v_10 - (idv (w32 (v_10 * (w32 (8 - loudness_41)))) 100)) := by omega
                    subst e1
                    exact J_v_45)
              have HF_33 : ¬ ((0 < p_0) ∧ (¬ (¬ r_11 = 0))) → AJ X MX6_applaud (rmD 2) 134 [(2, 33), (0, p_0), (0, luck_0), (0, heat_22), (0, v_10), (0, r_11), (3, 0)] [] h_19 (PH 9 r) := by
                intro hc
                replace hf := it_f hf hc
                exact J_K_23 _ _ hf
              refine q_iload_n dX6_applaud_95 rfl rfl ?_
              refine q_if_le (tgt := 134) dX6_applaud_96 rfl (by decide) (fun c_34 => ?_) (fun c_34 => ?_)
              · exact HF_33 (by omega)
              · refine q_iload dX6_applaud_99 rfl rfl ?_
                refine q_if_ne (tgt := 134) dX6_applaud_101 rfl (by decide) (fun c_35 => ?_) (fun c_35 => ?_)
                · exact HF_33 (by omega)
                · replace hf := it_t hf (by omega)
                  refine q_iconst dX6_applaud_104 rfl rfl ?_
                  refine q_iload_n dX6_applaud_105 rfl rfl ?_
                  refine q_aload_n dX6_applaud_106 rfl rfl ?_
                  refine g_getF (k := 1) (o := 2) (z := 35) dX6_applaud_107 rfl fg_X6_25 rfl rfl rfl ?_
                  refine q_iload_n dX6_applaud_110 rfl rfl ?_
                  refine q_iconst dX6_applaud_111 rfl rfl ?_
                  refine q_isub dX6_applaud_112 rfl ?_
                  obtain ⟨g_24, hf⟩ := gd_ex hf
                  refine q_aaload dX6_applaud_113 rfl rfl (by decide) g_24 ?_
                  obtain ⟨act_25, e_act_25, hf⟩ := nm_ex hf
                  rw [← e_act_25]
                  obtain ⟨o_act_26, hf⟩ := gd_ex hf
                  refine g_get (k := 7) (kz := 7) dX6_applaud_114 rfl fg_X6_92 rfl o_act_26 ?_
                  refine q_aload_n dX6_applaud_117 rfl rfl ?_
                  refine g_getF (k := 1) (o := 2) (z := 35) dX6_applaud_118 rfl fg_X6_25 rfl rfl rfl ?_
                  refine q_iload_n dX6_applaud_121 rfl rfl ?_
                  refine q_aaload dX6_applaud_122 rfl rfl (by decide) g_21 ?_
                  obtain ⟨act_27, e_act_27, hf⟩ := nm_ex hf
                  rw [← e_act_27]
                  obtain ⟨o_act_28, hf⟩ := gd_ex hf
                  refine g_get (k := 7) (kz := 7) dX6_applaud_123 rfl fg_X6_92 rfl o_act_28 ?_
                  obtain ⟨r_29, h_30, e_31, hf⟩ := bd_ex hf
                  refine g_Si (vs := [(0, h_19 act_25 7), (0, h_19 act_27 7)]) (st := [(0, heat_22), (0, 0)]) dX6_applaud_126 rfl (S_X6_damping X (h_19 act_25 7) (h_19 act_27 7) h_19) e_31 mf_X6_damping ml_X6_95 rfl rfl rfl ?_
                  refine q_isub dX6_applaud_129 rfl ?_
                  refine g_max dX6_applaud_130 rfl ml_X6_80 mw_max rfl rfl ?_
                  obtain ⟨heat_32, e_heat_32, hf⟩ := nm_ex hf
                  rw [← e_heat_32]
                  refine q_istore_n (ls' := [(2, 33), (0, p_0), (0, luck_0), (0, heat_32), (0, v_10), (0, r_11), (3, 0)]) dX6_applaud_133 rfl rfl (Nat.le_of_ble_eq_true rfl) rfl ?_
                  exact J_K_23 _ _ hf)
          refine q_iload dX6_applaud_54 rfl rfl ?_
          refine q_if_eq (tgt := 75) dX6_applaud_56 rfl (by decide) (fun c_18 => ?_) (fun c_18 => ?_)
          · replace hf := it_f hf (by omega)
            exact J_K_15 _ _ hf
          · replace hf := it_t hf (by omega)
            refine q_aload_n dX6_applaud_59 rfl rfl ?_
            refine q_iload dX6_applaud_60 rfl rfl ?_
            refine q_iload_n dX6_applaud_62 rfl rfl ?_
            refine q_imul dX6_applaud_63 rfl ?_
            refine q_sipush dX6_applaud_64 rfl (by decide) ?_
            refine q_idiv dX6_applaud_67 rfl (by decide) ?_
            refine g_put (k := 13) (kz := 13) dX6_applaud_68 rfl fp_X6_66 rfl (fun q => q.1 rfl) rfl ?_
            obtain ⟨h_16, e_h_16, hf⟩ := nm_ex hf
            rw [← e_h_16]
            refine q_iload_n dX6_applaud_71 rfl rfl ?_
            refine q_iconst dX6_applaud_72 rfl rfl ?_
            refine q_idiv dX6_applaud_73 rfl (by decide) ?_
            obtain ⟨heat_17, e_heat_17, hf⟩ := nm_ex hf
            rw [← e_heat_17]
            refine q_istore_n (ls' := [(2, 33), (0, p_0), (0, luck_0), (0, heat_17), (0, v_10), (0, r_11), (3, 0)]) dX6_applaud_74 rfl rfl (Nat.le_of_ble_eq_true rfl) rfl ?_
            exact J_K_15 _ _ hf)
      refine q_iload_n dX6_applaud_23 rfl rfl ?_
      refine q_if_le (tgt := 38) dX6_applaud_24 rfl (by decide) (fun c_8 => ?_) (fun c_8 => ?_)
      · replace hf := it_f hf (by omega)
        refine q_aload_n dX6_applaud_38 rfl rfl ?_
        refine g_getF (k := 0) (o := 1) (z := 34) dX6_applaud_39 rfl fg_X6_18 rfl rfl rfl ?_
        refine q_bipush dX6_applaud_42 rfl (by decide) ?_
        refine q_iaload dX6_applaud_44 rfl rfl (by decide) ?_
        exact J_K_6 _ _ hf
      · replace hf := it_t hf (by omega)
        refine q_aload_n dX6_applaud_27 rfl rfl ?_
        refine g_getF (k := 9) (o := 10) (z := 43) dX6_applaud_28 rfl fg_X6_53 rfl rfl rfl ?_
        refine q_iload_n dX6_applaud_31 rfl rfl ?_
        refine q_iconst dX6_applaud_32 rfl rfl ?_
        refine q_isub dX6_applaud_33 rfl ?_
        obtain ⟨g_7, hf⟩ := gd_ex hf
        refine q_iaload dX6_applaud_34 rfl rfl g_7 ?_
        refine q_goto (tgt := 45) dX6_applaud_35 rfl (by decide) ?_
        exact J_K_6 _ _ hf)
  refine q_iload_n dX6_applaud_0 rfl rfl ?_
  refine q_if_le (tgt := 15) dX6_applaud_1 rfl (by decide) (fun c_3 => ?_) (fun c_3 => ?_)
  · replace hf := it_f hf (by omega)
    refine q_aload_n dX6_applaud_15 rfl rfl ?_
    refine g_getF (k := 0) (o := 1) (z := 34) dX6_applaud_16 rfl fg_X6_18 rfl rfl rfl ?_
    refine q_bipush dX6_applaud_19 rfl (by decide) ?_
    refine q_iaload dX6_applaud_21 rfl rfl (by decide) ?_
    exact J_K_1 _ _ hf
  · replace hf := it_t hf (by omega)
    refine q_aload_n dX6_applaud_4 rfl rfl ?_
    refine g_getF (k := 8) (o := 9) (z := 42) dX6_applaud_5 rfl fg_X6_50 rfl rfl rfl ?_
    refine q_iload_n dX6_applaud_8 rfl rfl ?_
    refine q_iconst dX6_applaud_9 rfl rfl ?_
    refine q_isub dX6_applaud_10 rfl ?_
    obtain ⟨g_2, hf⟩ := gd_ex hf
    refine q_iaload dX6_applaud_11 rfl rfl g_2 ?_
    refine q_goto (tgt := 22) dX6_applaud_12 rfl (by decide) ?_
    exact J_K_1 _ _ hf
def F_X6_open (newSize_0 newPause_0 : Int) (h : Mem) : Res := nm (wr h 33 11 newSize_0) (fun (h_1 : Mem) => nm (wr h_1 33 12 newPause_0) (fun (h_2 : Mem) => nm (wr h_2 33 13 0) (fun (h_3 : Mem) => some (0, h_3))))
theorem S_X6_open (X : XS) (newSize_0 : Int) (newPause_0 : Int) (h : Mem) : CT X yX6_open MX6_open none 9 0 [(2, 33), (0, newSize_0), (0, newPause_0)] h (F_X6_open newSize_0 newPause_0 h) := by
  refine CT.ofV (by decide) rfl (Nat.le_of_ble_eq_true rfl) (fun r hf => ?_)
  unfold F_X6_open at hf
  show AJ X MX6_open (rmD 0) 0 [(2, 33), (0, newSize_0), (0, newPause_0)] [] h (PH 9 r)
  refine q_aload_n dX6_open_0 rfl rfl ?_
  refine q_iload_n dX6_open_1 rfl rfl ?_
  refine g_put (k := 11) (kz := 11) dX6_open_2 rfl fp_X6_59 rfl (fun q => q.1 rfl) rfl ?_
  obtain ⟨h_1, e_h_1, hf⟩ := nm_ex hf
  rw [← e_h_1]
  refine q_aload_n dX6_open_5 rfl rfl ?_
  refine q_iload_n dX6_open_6 rfl rfl ?_
  refine g_put (k := 12) (kz := 12) dX6_open_7 rfl fp_X6_63 rfl (fun q => q.1 rfl) rfl ?_
  obtain ⟨h_2, e_h_2, hf⟩ := nm_ex hf
  rw [← e_h_2]
  refine q_aload_n dX6_open_10 rfl rfl ?_
  refine q_iconst dX6_open_11 rfl rfl ?_
  refine g_put (k := 13) (kz := 13) dX6_open_12 rfl fp_X6_66 rfl (fun q => q.1 rfl) rfl ?_
  obtain ⟨h_3, e_h_3, hf⟩ := nm_ex hf
  rw [← e_h_3]
  exact g_return dX6_open_15 rfl hf
def F_X6_seat (p_0 one_0 : Int) (h : Mem) : Res := gd (0 ≤ p_0 ∧ p_0 < 10) (nm (wr h 35 p_0 one_0) (fun (h_2 : Mem) => jn (fun (K_3 : Int → Mem → Res) => if (0 < p_0) then (gd (0 ≤ (w32 (p_0 - 1)) ∧ (w32 (p_0 - 1)) < 10) (K_3 (h_2 38 (w32 (p_0 - 1))) h_2)) else (K_3 0 h_2)) (fun v_7 (h_6 : Mem) => jn (fun (K_8 : Int → Mem → Res) => if (0 < p_0) then (gd (0 ≤ (w32 (p_0 - 1)) ∧ (w32 (p_0 - 1)) < 10) (K_8 (h_6 39 (w32 (p_0 - 1))) h_6)) else (K_8 0 h_6)) (fun v_12 (h_11 : Mem) => jn (fun (K_13 : Int → Int → Mem → Res) => bd (F_X6_pausesAhead p_0 h_11) (fun r_14 (h_15 : Mem) => if (¬ r_14 = 0) then (nm (w32 (v_7 + (h_15 34 2))) (fun clock_19 => nm (w32 (v_12 - (h_15 34 2))) (fun left_20 => K_13 clock_19 left_20 h_15))) else (K_13 v_7 v_12 h_15))) (fun clock_22 left_23 (h_21 : Mem) => nm (α := Int) (if (¬ (h_21 one_0 4) = 0) then 0 else (mxI 0 (w32 ((h_21 one_0 5) + left_23)))) (fun v_24 => nm (wr h_21 36 p_0 v_24) (fun (h_26 : Mem) => nm (wr h_26 37 p_0 (w32 (clock_22 + (h_26 36 p_0)))) (fun (h_27 : Mem) => nm (wr h_27 38 p_0 (w32 ((h_27 37 p_0) + (h_27 one_0 2)))) (fun (h_28 : Mem) => nm (α := Int) (if (¬ (h_28 one_0 4) = 0) then (w32 (left_23 - (h_28 one_0 2))) else (h_28 one_0 6)) (fun v_29 => nm (wr h_28 39 p_0 v_29) (fun (h_31 : Mem) => some (0, h_31))))))))))))
theorem S_X6_seat (X : XS) (p_0 : Int) (one_0 : Int) (o_one_0 : okO 0 one_0 = true) (h : Mem) : CT X yX6_seat MX6_seat none 9 1 [(2, 33), (0, p_0), (2, one_0)] h (F_X6_seat p_0 one_0 h) := by
  refine CT.ofV (by decide) rfl (Nat.le_of_ble_eq_true rfl) (fun r hf => ?_)
  unfold F_X6_seat at hf
  show AJ X MX6_seat (rmD 1) 0 [(2, 33), (0, p_0), (2, one_0), (3, 0), (3, 0)] [] h (PH 9 r)
  refine q_aload_n dX6_seat_0 rfl rfl ?_
  refine g_getF (k := 1) (o := 2) (z := 35) dX6_seat_1 rfl fg_X6_25 rfl rfl rfl ?_
  refine q_iload_n dX6_seat_4 rfl rfl ?_
  refine q_aload_n dX6_seat_5 rfl rfl ?_
  obtain ⟨g_1, hf⟩ := gd_ex hf
  refine q_aastore dX6_seat_6 rfl rfl g_1 o_one_0 ?_
  obtain ⟨h_2, e_h_2, hf⟩ := nm_ex hf
  rw [← e_h_2]
  obtain ⟨K_3, J_K_3, hf⟩ := jn_ex (P := fun K => ∀ (v_7 : Int) (h_6 : Mem), K v_7 h_6 = some r → AJ X MX6_seat (rmD 1) 23 [(2, 33), (0, p_0), (2, one_0), (3, 0), (3, 0)] [(0, v_7)] h_6 (PH 9 r)) hf (by
      intro v_7 h_6 hf
      refine q_istore_n (ls' := [(2, 33), (0, p_0), (2, one_0), (0, v_7), (3, 0)]) dX6_seat_23 rfl rfl (Nat.le_of_ble_eq_true rfl) rfl ?_
      obtain ⟨K_8, J_K_8, hf⟩ := jn_ex (P := fun K => ∀ (v_12 : Int) (h_11 : Mem), K v_12 h_11 = some r → AJ X MX6_seat (rmD 1) 40 [(2, 33), (0, p_0), (2, one_0), (0, v_7), (3, 0)] [(0, v_12)] h_11 (PH 9 r)) hf (by
          intro v_12 h_11 hf
          refine q_istore (ls' := [(2, 33), (0, p_0), (2, one_0), (0, v_7), (0, v_12)]) dX6_seat_40 rfl (Nat.le_of_ble_eq_true rfl) rfl ?_
          obtain ⟨K_13, J_K_13, hf⟩ := jn_ex (P := fun K => ∀ (clock_22 left_23 : Int) (h_21 : Mem), K clock_22 left_23 h_21 = some r → AJ X MX6_seat (rmD 1) 70 [(2, 33), (0, p_0), (2, one_0), (0, clock_22), (0, left_23)] [] h_21 (PH 9 r)) hf (by
              intro clock_22 left_23 h_21 hf
              refine q_aload_n dX6_seat_70 rfl rfl ?_
              refine g_getF (k := 2) (o := 3) (z := 36) dX6_seat_71 rfl fg_X6_32 rfl rfl rfl ?_
              refine q_iload_n dX6_seat_74 rfl rfl ?_
              obtain ⟨v_24, e_v_24, hf⟩ := nm_ex hf
              have J_v_24 : AJ X MX6_seat (rmD 1) 97 [(2, 33), (0, p_0), (2, one_0), (0, clock_22), (0, left_23)] [(0, v_24), (0, p_0), (2, 36)] h_21 (PH 9 r) := by
                refine q_iastore dX6_seat_97 rfl rfl g_1 ?_
                obtain ⟨h_26, e_h_26, hf⟩ := nm_ex hf
                rw [← e_h_26]
                refine q_aload_n dX6_seat_98 rfl rfl ?_
                refine g_getF (k := 3) (o := 4) (z := 37) dX6_seat_99 rfl fg_X6_35 rfl rfl rfl ?_
                refine q_iload_n dX6_seat_102 rfl rfl ?_
                refine q_iload_n dX6_seat_103 rfl rfl ?_
                refine q_aload_n dX6_seat_104 rfl rfl ?_
                refine g_getF (k := 2) (o := 3) (z := 36) dX6_seat_105 rfl fg_X6_32 rfl rfl rfl ?_
                refine q_iload_n dX6_seat_108 rfl rfl ?_
                refine q_iaload dX6_seat_109 rfl rfl g_1 ?_
                refine q_iadd dX6_seat_110 rfl ?_
                refine q_iastore dX6_seat_111 rfl rfl g_1 ?_
                obtain ⟨h_27, e_h_27, hf⟩ := nm_ex hf
                rw [← e_h_27]
                refine q_aload_n dX6_seat_112 rfl rfl ?_
                refine g_getF (k := 4) (o := 5) (z := 38) dX6_seat_113 rfl fg_X6_38 rfl rfl rfl ?_
                refine q_iload_n dX6_seat_116 rfl rfl ?_
                refine q_aload_n dX6_seat_117 rfl rfl ?_
                refine g_getF (k := 3) (o := 4) (z := 37) dX6_seat_118 rfl fg_X6_35 rfl rfl rfl ?_
                refine q_iload_n dX6_seat_121 rfl rfl ?_
                refine q_iaload dX6_seat_122 rfl rfl g_1 ?_
                refine q_aload_n dX6_seat_123 rfl rfl ?_
                refine g_get (k := 2) (kz := 2) dX6_seat_124 rfl fg_X6_86 rfl o_one_0 ?_
                refine q_iadd dX6_seat_127 rfl ?_
                refine q_iastore dX6_seat_128 rfl rfl g_1 ?_
                obtain ⟨h_28, e_h_28, hf⟩ := nm_ex hf
                rw [← e_h_28]
                refine q_aload_n dX6_seat_129 rfl rfl ?_
                refine g_getF (k := 5) (o := 6) (z := 39) dX6_seat_130 rfl fg_X6_41 rfl rfl rfl ?_
                refine q_iload_n dX6_seat_133 rfl rfl ?_
                obtain ⟨v_29, e_v_29, hf⟩ := nm_ex hf
                have J_v_29 : AJ X MX6_seat (rmD 1) 155 [(2, 33), (0, p_0), (2, one_0), (0, clock_22), (0, left_23)] [(0, v_29), (0, p_0), (2, 39)] h_28 (PH 9 r) := by
                  refine q_iastore dX6_seat_155 rfl rfl g_1 ?_
                  obtain ⟨h_31, e_h_31, hf⟩ := nm_ex hf
                  rw [← e_h_31]
                  exact g_return dX6_seat_156 rfl hf
                clear hf
                refine q_aload_n dX6_seat_134 rfl rfl ?_
                refine g_get (k := 4) (kz := 4) dX6_seat_135 rfl fg_X6_73 rfl o_one_0 ?_
                refine q_if_eq (tgt := 151) dX6_seat_138 rfl (by decide) (fun c_30 => ?_) (fun c_30 => ?_)
                · refine q_aload_n dX6_seat_151 rfl rfl ?_
                  refine g_get (k := 6) (kz := 6) dX6_seat_152 rfl fg_X6_89 rfl o_one_0 ?_
                  have e1 : v_29 = h_28 one_0 6 := by omega
                  subst e1
                  exact J_v_29
                · refine q_iload dX6_seat_141 rfl rfl ?_
                  refine q_aload_n dX6_seat_143 rfl rfl ?_
                  refine g_get (k := 2) (kz := 2) dX6_seat_144 rfl fg_X6_86 rfl o_one_0 ?_
                  refine q_isub dX6_seat_147 rfl ?_
                  refine q_goto (tgt := 155) dX6_seat_148 rfl (by decide) ?_
                  have e1 : v_29 = w32 (left_23 - (h_28 one_0 2)) := by omega
                  subst e1
                  exact J_v_29
              clear hf
              refine q_aload_n dX6_seat_75 rfl rfl ?_
              refine g_get (k := 4) (kz := 4) dX6_seat_76 rfl fg_X6_73 rfl o_one_0 ?_
              refine q_if_eq (tgt := 86) dX6_seat_79 rfl (by decide) (fun c_25 => ?_) (fun c_25 => ?_)
              · refine q_iconst dX6_seat_86 rfl rfl ?_
                refine q_aload_n dX6_seat_87 rfl rfl ?_
                refine g_get (k := 5) (kz := 5) dX6_seat_88 rfl fg_X6_77 rfl o_one_0 ?_
                refine q_iload dX6_seat_91 rfl rfl ?_
                refine q_iadd dX6_seat_93 rfl ?_
                refine g_max dX6_seat_94 rfl ml_X6_80 mw_max rfl rfl ?_
                have e1 : v_24 = mxI 0 (w32 ((h_21 one_0 5) + left_23)) := by omega
                subst e1
                exact J_v_24
              · refine q_iconst dX6_seat_82 rfl rfl ?_
                refine q_goto (tgt := 97) dX6_seat_83 rfl (by decide) ?_
                have e1 : v_24 = 0 := by omega
                subst e1
                exact J_v_24)
          refine q_aload_n dX6_seat_42 rfl rfl ?_
          refine q_iload_n dX6_seat_43 rfl rfl ?_
          obtain ⟨r_14, h_15, e_16, hf⟩ := bd_ex hf
          refine g_Vb (vs := [(0, p_0)]) (st := []) dX6_seat_44 rfl (S_X6_pausesAhead X p_0 h_11) e_16 mf_X6_pausesAhead ml_X6_69 rfl rfl rfl rfl (fun b_17 => ?_)
          refine q_if_eq (tgt := 70) dX6_seat_47 rfl (by decide) (fun c_18 => ?_) (fun c_18 => ?_)
          · replace hf := it_f hf (by omega)
            exact J_K_13 _ _ _ hf
          · replace hf := it_t hf (by omega)
            refine q_iload_n dX6_seat_50 rfl rfl ?_
            refine q_aload_n dX6_seat_51 rfl rfl ?_
            refine g_getF (k := 0) (o := 1) (z := 34) dX6_seat_52 rfl fg_X6_18 rfl rfl rfl ?_
            refine q_iconst dX6_seat_55 rfl rfl ?_
            refine q_iaload dX6_seat_56 rfl rfl (by decide) ?_
            refine q_iadd dX6_seat_57 rfl ?_
            obtain ⟨clock_19, e_clock_19, hf⟩ := nm_ex hf
            rw [← e_clock_19]
            refine q_istore_n (ls' := [(2, 33), (0, p_0), (2, one_0), (0, clock_19), (0, v_12)]) dX6_seat_58 rfl rfl (Nat.le_of_ble_eq_true rfl) rfl ?_
            refine q_iload dX6_seat_59 rfl rfl ?_
            refine q_aload_n dX6_seat_61 rfl rfl ?_
            refine g_getF (k := 0) (o := 1) (z := 34) dX6_seat_62 rfl fg_X6_18 rfl rfl rfl ?_
            refine q_iconst dX6_seat_65 rfl rfl ?_
            refine q_iaload dX6_seat_66 rfl rfl (by decide) ?_
            refine q_isub dX6_seat_67 rfl ?_
            obtain ⟨left_20, e_left_20, hf⟩ := nm_ex hf
            rw [← e_left_20]
            refine q_istore (ls' := [(2, 33), (0, p_0), (2, one_0), (0, clock_19), (0, left_20)]) dX6_seat_68 rfl (Nat.le_of_ble_eq_true rfl) rfl ?_
            exact J_K_13 _ _ _ hf)
      refine q_iload_n dX6_seat_24 rfl rfl ?_
      refine q_if_le (tgt := 39) dX6_seat_25 rfl (by decide) (fun c_10 => ?_) (fun c_10 => ?_)
      · replace hf := it_f hf (by omega)
        refine q_iconst dX6_seat_39 rfl rfl ?_
        exact J_K_8 _ _ hf
      · replace hf := it_t hf (by omega)
        refine q_aload_n dX6_seat_28 rfl rfl ?_
        refine g_getF (k := 5) (o := 6) (z := 39) dX6_seat_29 rfl fg_X6_41 rfl rfl rfl ?_
        refine q_iload_n dX6_seat_32 rfl rfl ?_
        refine q_iconst dX6_seat_33 rfl rfl ?_
        refine q_isub dX6_seat_34 rfl ?_
        obtain ⟨g_9, hf⟩ := gd_ex hf
        refine q_iaload dX6_seat_35 rfl rfl g_9 ?_
        refine q_goto (tgt := 40) dX6_seat_36 rfl (by decide) ?_
        exact J_K_8 _ _ hf)
  refine q_iload_n dX6_seat_7 rfl rfl ?_
  refine q_if_le (tgt := 22) dX6_seat_8 rfl (by decide) (fun c_5 => ?_) (fun c_5 => ?_)
  · replace hf := it_f hf (by omega)
    refine q_iconst dX6_seat_22 rfl rfl ?_
    exact J_K_3 _ _ hf
  · replace hf := it_t hf (by omega)
    refine q_aload_n dX6_seat_11 rfl rfl ?_
    refine g_getF (k := 4) (o := 5) (z := 38) dX6_seat_12 rfl fg_X6_38 rfl rfl rfl ?_
    refine q_iload_n dX6_seat_15 rfl rfl ?_
    refine q_iconst dX6_seat_16 rfl rfl ?_
    refine q_isub dX6_seat_17 rfl ?_
    obtain ⟨g_4, hf⟩ := gd_ex hf
    refine q_iaload dX6_seat_18 rfl rfl g_4 ?_
    refine q_goto (tgt := 23) dX6_seat_19 rfl (by decide) ?_
    exact J_K_3 _ _ hf
def F_X6_fails (rule_0 p_0 : Int) (h : Mem) : Res := if rule_0 = 1 then (gd (0 ≤ p_0 ∧ p_0 < 10) (if ((h 34 0) < (h 36 p_0)) then (some (1, h)) else (some (0, h)))) else (if rule_0 = 2 then (jn (fun (K_6 : Mem → Res) => if (0 < p_0) then (bd (F_X6_pausesAhead p_0 h) (fun r_9 (h_10 : Mem) => if (¬ r_9 = 0) then (K_6 h_10) else (gd (0 ≤ p_0 ∧ p_0 < 10) (nm (h_10 35 p_0) (fun act_15 => gd (okO 0 act_15 = true) (gd (0 ≤ (w32 (p_0 - 1)) ∧ (w32 (p_0 - 1)) < 10) (nm (h_10 35 (w32 (p_0 - 1))) (fun act_18 => gd (okO 0 act_18 = true) (if ((h_10 act_15 1) = (h_10 act_18 1)) then (some (1, h_10)) else (K_6 h_10)))))))))) else (K_6 h)) (fun (h_7 : Mem) => some (0, h_7))) else (if rule_0 = 3 then (jn (fun (K_22 : Mem → Res) => if (0 < p_0) then (gd (0 ≤ p_0 ∧ p_0 < 10) (nm (h 35 p_0) (fun act_26 => gd (okO 0 act_26 = true) (gd (0 ≤ (w32 (p_0 - 1)) ∧ (w32 (p_0 - 1)) < 10) (nm (h 35 (w32 (p_0 - 1))) (fun act_29 => gd (okO 0 act_29 = true) (bd (F_X0_hates act_26 (h act_29 0) h) (fun r_31 (h_32 : Mem) => if (¬ r_31 = 0) then (some (1, h_32)) else (K_22 h_32))))))))) else (K_22 h)) (fun (h_23 : Mem) => some (0, h_23))) else (if rule_0 = 4 then (jn (fun (K_37 : Mem → Res) => gd (0 ≤ p_0 ∧ p_0 < 10) (nm (h 35 p_0) (fun act_40 => gd (okO 0 act_40 = true) (if (0 < (h act_40 8)) then (nm (h 35 p_0) (fun act_43 => gd (okO 0 act_43 = true) (if ((h act_43 8) < (h 38 p_0)) then (some (1, h)) else (K_37 h)))) else (K_37 h))))) (fun (h_38 : Mem) => some (0, h_38))) else (jn (fun (K_46 : Mem → Res) => if (p_0 = (w32 ((h 33 11) - 1))) then (gd (0 ≤ p_0 ∧ p_0 < 10) (if ((h 34 1) < (h 38 p_0)) then (some (1, h)) else (K_46 h))) else (K_46 h)) (fun (h_47 : Mem) => some (0, h_47))))))
theorem S_X6_fails (X : XS) (rule_0 : Int) (p_0 : Int) (h : Mem) : CB X yX6_fails MX6_fails 1 [(2, 33), (0, rule_0), (0, p_0)] h (F_X6_fails rule_0 p_0 h) := by
  refine CB.of (by decide) rfl (Nat.le_of_ble_eq_true rfl) (fun r hf => ?_)
  unfold F_X6_fails at hf
  show AJ X MX6_fails (rmD 1) 0 [(2, 33), (0, rule_0), (0, p_0)] [] h (PB r)
  refine q_iload_n dX6_fails_0 rfl rfl ?_
  by_cases c_2 : rule_0 = 1
  · replace hf := it_t hf c_2
    refine g_tsw (c := 1) (off := 31) (tgt := 32) dX6_fails_1 c_2 (by decide) rfl (by decide) ?_
    refine q_aload_n dX6_fails_32 rfl rfl ?_
    refine g_getF (k := 2) (o := 3) (z := 36) dX6_fails_33 rfl fg_X6_32 rfl rfl rfl ?_
    refine q_iload_n dX6_fails_36 rfl rfl ?_
    obtain ⟨g_3, hf⟩ := gd_ex hf
    refine q_iaload dX6_fails_37 rfl rfl g_3 ?_
    refine q_aload_n dX6_fails_38 rfl rfl ?_
    refine g_getF (k := 0) (o := 1) (z := 34) dX6_fails_39 rfl fg_X6_18 rfl rfl rfl ?_
    refine q_iconst dX6_fails_42 rfl rfl ?_
    refine q_iaload dX6_fails_43 rfl rfl (by decide) ?_
    refine q_icmp_le (tgt := 51) dX6_fails_44 rfl (by decide) (fun c_4 => ?_) (fun c_4 => ?_)
    · replace hf := it_f hf (by omega)
      refine q_iconst dX6_fails_51 rfl rfl ?_
      exact g_breturn dX6_fails_52 rfl (Or.inl rfl) hf
    · replace hf := it_t hf (by omega)
      refine q_iconst dX6_fails_47 rfl rfl ?_
      refine q_goto (tgt := 52) dX6_fails_48 rfl (by decide) ?_
      exact g_breturn dX6_fails_52 rfl (Or.inr rfl) hf
  · replace hf := it_f hf c_2
    by_cases c_5 : rule_0 = 2
    · replace hf := it_t hf c_5
      refine g_tsw (c := 2) (off := 52) (tgt := 53) dX6_fails_1 c_5 (by decide) rfl (by decide) ?_
      obtain ⟨K_6, J_K_6, hf⟩ := jn_ex (P := fun K => ∀ (h_7 : Mem), K h_7 = some r → AJ X MX6_fails (rmD 1) 92 [(2, 33), (0, rule_0), (0, p_0)] [] h_7 (PB r)) hf (by
          intro h_7 hf
          refine q_iconst dX6_fails_92 rfl rfl ?_
          exact g_breturn dX6_fails_93 rfl (Or.inl rfl) hf)
      refine q_iload_n dX6_fails_53 rfl rfl ?_
      refine q_if_le (tgt := 92) dX6_fails_54 rfl (by decide) (fun c_8 => ?_) (fun c_8 => ?_)
      · replace hf := it_f hf (by omega)
        exact J_K_6 _ hf
      · replace hf := it_t hf (by omega)
        refine q_aload_n dX6_fails_57 rfl rfl ?_
        refine q_iload_n dX6_fails_58 rfl rfl ?_
        obtain ⟨r_9, h_10, e_11, hf⟩ := bd_ex hf
        refine g_Vb (vs := [(0, p_0)]) (st := []) dX6_fails_59 rfl (S_X6_pausesAhead X p_0 h) e_11 mf_X6_pausesAhead ml_X6_69 rfl rfl rfl rfl (fun b_12 => ?_)
        refine q_if_ne (tgt := 92) dX6_fails_62 rfl (by decide) (fun c_13 => ?_) (fun c_13 => ?_)
        · replace hf := it_t hf (by omega)
          exact J_K_6 _ hf
        · replace hf := it_f hf (by omega)
          refine q_aload_n dX6_fails_65 rfl rfl ?_
          refine g_getF (k := 1) (o := 2) (z := 35) dX6_fails_66 rfl fg_X6_25 rfl rfl rfl ?_
          refine q_iload_n dX6_fails_69 rfl rfl ?_
          obtain ⟨g_14, hf⟩ := gd_ex hf
          refine q_aaload dX6_fails_70 rfl rfl (by decide) g_14 ?_
          obtain ⟨act_15, e_act_15, hf⟩ := nm_ex hf
          rw [← e_act_15]
          obtain ⟨o_act_16, hf⟩ := gd_ex hf
          refine g_get (k := 1) (kz := 1) dX6_fails_71 rfl fg_X6_111 rfl o_act_16 ?_
          refine q_aload_n dX6_fails_74 rfl rfl ?_
          refine g_getF (k := 1) (o := 2) (z := 35) dX6_fails_75 rfl fg_X6_25 rfl rfl rfl ?_
          refine q_iload_n dX6_fails_78 rfl rfl ?_
          refine q_iconst dX6_fails_79 rfl rfl ?_
          refine q_isub dX6_fails_80 rfl ?_
          obtain ⟨g_17, hf⟩ := gd_ex hf
          refine q_aaload dX6_fails_81 rfl rfl (by decide) g_17 ?_
          obtain ⟨act_18, e_act_18, hf⟩ := nm_ex hf
          rw [← e_act_18]
          obtain ⟨o_act_19, hf⟩ := gd_ex hf
          refine g_get (k := 1) (kz := 1) dX6_fails_82 rfl fg_X6_111 rfl o_act_19 ?_
          refine q_icmp_ne (tgt := 92) dX6_fails_85 rfl (by decide) (fun c_20 => ?_) (fun c_20 => ?_)
          · replace hf := it_f hf (by omega)
            exact J_K_6 _ hf
          · replace hf := it_t hf (by omega)
            refine q_iconst dX6_fails_88 rfl rfl ?_
            refine q_goto (tgt := 93) dX6_fails_89 rfl (by decide) ?_
            exact g_breturn dX6_fails_93 rfl (Or.inr rfl) hf
    · replace hf := it_f hf c_5
      by_cases c_21 : rule_0 = 3
      · replace hf := it_t hf c_21
        refine g_tsw (c := 3) (off := 93) (tgt := 94) dX6_fails_1 c_21 (by decide) rfl (by decide) ?_
        obtain ⟨K_22, J_K_22, hf⟩ := jn_ex (P := fun K => ∀ (h_23 : Mem), K h_23 = some r → AJ X MX6_fails (rmD 1) 125 [(2, 33), (0, rule_0), (0, p_0)] [] h_23 (PB r)) hf (by
            intro h_23 hf
            refine q_iconst dX6_fails_125 rfl rfl ?_
            exact g_breturn dX6_fails_126 rfl (Or.inl rfl) hf)
        refine q_iload_n dX6_fails_94 rfl rfl ?_
        refine q_if_le (tgt := 125) dX6_fails_95 rfl (by decide) (fun c_24 => ?_) (fun c_24 => ?_)
        · replace hf := it_f hf (by omega)
          exact J_K_22 _ hf
        · replace hf := it_t hf (by omega)
          refine q_aload_n dX6_fails_98 rfl rfl ?_
          refine g_getF (k := 1) (o := 2) (z := 35) dX6_fails_99 rfl fg_X6_25 rfl rfl rfl ?_
          refine q_iload_n dX6_fails_102 rfl rfl ?_
          obtain ⟨g_25, hf⟩ := gd_ex hf
          refine q_aaload dX6_fails_103 rfl rfl (by decide) g_25 ?_
          obtain ⟨act_26, e_act_26, hf⟩ := nm_ex hf
          rw [← e_act_26]
          obtain ⟨o_act_27, hf⟩ := gd_ex hf
          refine q_aload_n dX6_fails_104 rfl rfl ?_
          refine g_getF (k := 1) (o := 2) (z := 35) dX6_fails_105 rfl fg_X6_25 rfl rfl rfl ?_
          refine q_iload_n dX6_fails_108 rfl rfl ?_
          refine q_iconst dX6_fails_109 rfl rfl ?_
          refine q_isub dX6_fails_110 rfl ?_
          obtain ⟨g_28, hf⟩ := gd_ex hf
          refine q_aaload dX6_fails_111 rfl rfl (by decide) g_28 ?_
          obtain ⟨act_29, e_act_29, hf⟩ := nm_ex hf
          rw [← e_act_29]
          obtain ⟨o_act_30, hf⟩ := gd_ex hf
          refine g_get (k := 0) (kz := 0) dX6_fails_112 rfl fg_X6_114 rfl o_act_30 ?_
          obtain ⟨r_31, h_32, e_33, hf⟩ := bd_ex hf
          refine g_Vb (vs := [(0, h act_29 0)]) (st := []) dX6_fails_115 rfl (S_X0_hates X act_26 o_act_27 (h act_29 0) h) e_33 mf_X0_hates ml_X6_117 o_act_27 rfl rfl rfl (fun b_34 => ?_)
          refine q_if_eq (tgt := 125) dX6_fails_118 rfl (by decide) (fun c_35 => ?_) (fun c_35 => ?_)
          · replace hf := it_f hf (by omega)
            exact J_K_22 _ hf
          · replace hf := it_t hf (by omega)
            refine q_iconst dX6_fails_121 rfl rfl ?_
            refine q_goto (tgt := 126) dX6_fails_122 rfl (by decide) ?_
            exact g_breturn dX6_fails_126 rfl (Or.inr rfl) hf
      · replace hf := it_f hf c_21
        by_cases c_36 : rule_0 = 4
        · replace hf := it_t hf c_36
          refine g_tsw (c := 4) (off := 126) (tgt := 127) dX6_fails_1 c_36 (by decide) rfl (by decide) ?_
          obtain ⟨K_37, J_K_37, hf⟩ := jn_ex (P := fun K => ∀ (h_38 : Mem), K h_38 = some r → AJ X MX6_fails (rmD 1) 161 [(2, 33), (0, rule_0), (0, p_0)] [] h_38 (PB r)) hf (by
              intro h_38 hf
              refine q_iconst dX6_fails_161 rfl rfl ?_
              exact g_breturn dX6_fails_162 rfl (Or.inl rfl) hf)
          refine q_aload_n dX6_fails_127 rfl rfl ?_
          refine g_getF (k := 1) (o := 2) (z := 35) dX6_fails_128 rfl fg_X6_25 rfl rfl rfl ?_
          refine q_iload_n dX6_fails_131 rfl rfl ?_
          obtain ⟨g_39, hf⟩ := gd_ex hf
          refine q_aaload dX6_fails_132 rfl rfl (by decide) g_39 ?_
          obtain ⟨act_40, e_act_40, hf⟩ := nm_ex hf
          rw [← e_act_40]
          obtain ⟨o_act_41, hf⟩ := gd_ex hf
          refine g_get (k := 8) (kz := 8) dX6_fails_133 rfl fg_X6_120 rfl o_act_41 ?_
          refine q_if_le (tgt := 161) dX6_fails_136 rfl (by decide) (fun c_42 => ?_) (fun c_42 => ?_)
          · replace hf := it_f hf (by omega)
            exact J_K_37 _ hf
          · replace hf := it_t hf (by omega)
            refine q_aload_n dX6_fails_139 rfl rfl ?_
            refine g_getF (k := 4) (o := 5) (z := 38) dX6_fails_140 rfl fg_X6_38 rfl rfl rfl ?_
            refine q_iload_n dX6_fails_143 rfl rfl ?_
            refine q_iaload dX6_fails_144 rfl rfl g_39 ?_
            refine q_aload_n dX6_fails_145 rfl rfl ?_
            refine g_getF (k := 1) (o := 2) (z := 35) dX6_fails_146 rfl fg_X6_25 rfl rfl rfl ?_
            refine q_iload_n dX6_fails_149 rfl rfl ?_
            refine q_aaload dX6_fails_150 rfl rfl (by decide) g_39 ?_
            obtain ⟨act_43, e_act_43, hf⟩ := nm_ex hf
            rw [← e_act_43]
            obtain ⟨o_act_44, hf⟩ := gd_ex hf
            refine g_get (k := 8) (kz := 8) dX6_fails_151 rfl fg_X6_120 rfl o_act_44 ?_
            refine q_icmp_le (tgt := 161) dX6_fails_154 rfl (by decide) (fun c_45 => ?_) (fun c_45 => ?_)
            · replace hf := it_f hf (by omega)
              exact J_K_37 _ hf
            · replace hf := it_t hf (by omega)
              refine q_iconst dX6_fails_157 rfl rfl ?_
              refine q_goto (tgt := 162) dX6_fails_158 rfl (by decide) ?_
              exact g_breturn dX6_fails_162 rfl (Or.inr rfl) hf
        · replace hf := it_f hf c_36
          refine g_tswD (tgt := 163) dX6_fails_1 (by omega) (by decide) ?_
          obtain ⟨K_46, J_K_46, hf⟩ := jn_ex (P := fun K => ∀ (h_47 : Mem), K h_47 = some r → AJ X MX6_fails (rmD 1) 192 [(2, 33), (0, rule_0), (0, p_0)] [] h_47 (PB r)) hf (by
              intro h_47 hf
              refine q_iconst dX6_fails_192 rfl rfl ?_
              exact g_breturn dX6_fails_193 rfl (Or.inl rfl) hf)
          refine q_iload_n dX6_fails_163 rfl rfl ?_
          refine q_aload_n dX6_fails_164 rfl rfl ?_
          refine g_get (k := 11) (kz := 11) dX6_fails_165 rfl fg_X6_59 rfl rfl ?_
          refine q_iconst dX6_fails_168 rfl rfl ?_
          refine q_isub dX6_fails_169 rfl ?_
          refine q_icmp_ne (tgt := 192) dX6_fails_170 rfl (by decide) (fun c_48 => ?_) (fun c_48 => ?_)
          · replace hf := it_f hf (by omega)
            exact J_K_46 _ hf
          · replace hf := it_t hf (by omega)
            refine q_aload_n dX6_fails_173 rfl rfl ?_
            refine g_getF (k := 4) (o := 5) (z := 38) dX6_fails_174 rfl fg_X6_38 rfl rfl rfl ?_
            refine q_iload_n dX6_fails_177 rfl rfl ?_
            obtain ⟨g_49, hf⟩ := gd_ex hf
            refine q_iaload dX6_fails_178 rfl rfl g_49 ?_
            refine q_aload_n dX6_fails_179 rfl rfl ?_
            refine g_getF (k := 0) (o := 1) (z := 34) dX6_fails_180 rfl fg_X6_18 rfl rfl rfl ?_
            refine q_iconst dX6_fails_183 rfl rfl ?_
            refine q_iaload dX6_fails_184 rfl rfl (by decide) ?_
            refine q_icmp_le (tgt := 192) dX6_fails_185 rfl (by decide) (fun c_50 => ?_) (fun c_50 => ?_)
            · replace hf := it_f hf (by omega)
              exact J_K_46 _ hf
            · replace hf := it_t hf (by omega)
              refine q_iconst dX6_fails_188 rfl rfl ?_
              refine q_goto (tgt := 193) dX6_fails_189 rfl (by decide) ?_
              exact g_breturn dX6_fails_193 rfl (Or.inr rfl) hf
def L_X6_firstFailing_1 (rule_0 : Int) (Kx : Int → Mem → Res) : Nat → Int → Mem → Res
  | 0, _, _ => none
  | n + 1, p_2, h_1 => if (p_2 < (h_1 33 11)) then (bd (F_X6_fails rule_0 p_2 h_1) (fun r_3 (h_4 : Mem) => if (¬ r_3 = 0) then (some (p_2, h_4)) else (nm (w32 (p_2 + 1)) (fun p_8 => L_X6_firstFailing_1 rule_0 Kx n p_8 h_4)))) else (Kx p_2 h_1)
def F_X6_firstFailing (rule_0 : Int) (h : Mem) : Res := L_X6_firstFailing_1 rule_0 (fun p_11 (h_10 : Mem) => some ((-9), h_10)) FU 0 h
theorem SL_X6_firstFailing_1 (X : XS) (rule_0 : Int) (Kx : Int → Mem → Res) {r : Int × Mem} (hK : ∀ (p_2 : Int) (h_1 : Mem), Kx p_2 h_1 = some r → AJ X MX6_firstFailing (rmD 2) 27 [(2, 33), (0, rule_0), (0, p_2)] [] h_1 (PH 0 r)) :
    ∀ (n : Nat) (p_2 : Int) (h_1 : Mem), L_X6_firstFailing_1 rule_0 Kx n p_2 h_1 = some r → AJ X MX6_firstFailing (rmD 2) 2 [(2, 33), (0, rule_0), (0, p_2)] [] h_1 (PH 0 r) := by
  intro n
  induction n with
  | zero => intro p_2 h_1 hf; cases hf
  | succ n ih =>
    intro p_2 h_1 hf
    rw [L_X6_firstFailing_1] at hf
    refine q_iload_n dX6_firstFailing_2 rfl rfl ?_
    refine q_aload_n dX6_firstFailing_3 rfl rfl ?_
    refine g_get (k := 11) (kz := 11) dX6_firstFailing_4 rfl fg_X6_59 rfl rfl ?_
    refine q_icmp_ge (tgt := 27) dX6_firstFailing_7 rfl (by decide) (fun c_9 => ?_) (fun c_9 => ?_)
    · replace hf := it_f hf (by omega)
      exact hK _ _ hf
    · replace hf := it_t hf (by omega)
      refine q_aload_n dX6_firstFailing_10 rfl rfl ?_
      refine q_iload_n dX6_firstFailing_11 rfl rfl ?_
      refine q_iload_n dX6_firstFailing_12 rfl rfl ?_
      obtain ⟨r_3, h_4, e_5, hf⟩ := bd_ex hf
      refine g_Vb (vs := [(0, rule_0), (0, p_2)]) (st := []) dX6_firstFailing_13 rfl (S_X6_fails X rule_0 p_2 h_1) e_5 mf_X6_fails ml_X6_107 rfl rfl rfl rfl (fun b_6 => ?_)
      refine q_if_eq (tgt := 21) dX6_firstFailing_16 rfl (by decide) (fun c_7 => ?_) (fun c_7 => ?_)
      · replace hf := it_f hf (by omega)
        refine q_iinc (ls' := [(2, 33), (0, rule_0), (0, w32 (p_2 + 1))]) dX6_firstFailing_21 rfl rfl rfl ?_
        obtain ⟨p_8, e_p_8, hf⟩ := nm_ex hf
        rw [← e_p_8]
        refine q_goto (tgt := 2) dX6_firstFailing_24 rfl (by decide) ?_
        exact ih _ _ hf
      · replace hf := it_t hf (by omega)
        refine q_iload_n dX6_firstFailing_19 rfl rfl ?_
        exact g_ireturn dX6_firstFailing_20 rfl hf
theorem S_X6_firstFailing (X : XS) (rule_0 : Int) (h : Mem) : CT X yX6_firstFailing MX6_firstFailing (some .int) 0 2 [(2, 33), (0, rule_0)] h (F_X6_firstFailing rule_0 h) := by
  refine CT.ofI (by decide) rfl (Nat.le_of_ble_eq_true rfl) (fun r hf => ?_)
  unfold F_X6_firstFailing at hf
  show AJ X MX6_firstFailing (rmD 2) 0 [(2, 33), (0, rule_0), (3, 0)] [] h (PH 0 r)
  refine q_iconst dX6_firstFailing_0 rfl rfl ?_
  refine q_istore_n (ls' := [(2, 33), (0, rule_0), (0, 0)]) dX6_firstFailing_1 rfl rfl (Nat.le_of_ble_eq_true rfl) rfl ?_
  refine SL_X6_firstFailing_1 X rule_0  _ (fun p_11 h_10 hf => ?_) FU _ _ hf
  refine q_bipush dX6_firstFailing_27 rfl (by decide) ?_
  exact g_ireturn dX6_firstFailing_29 rfl hf
def F_X6_total (h : Mem) : Res := if ((h 33 11) < 1) then (some (0, h)) else (gd (0 ≤ (w32 ((h 33 11) - 1)) ∧ (w32 ((h 33 11) - 1)) < 10) (some (w32 ((w32 ((h 44 (w32 ((h 33 11) - 1))) + (h 41 (w32 ((h 33 11) - 1))))) + (h 33 13)), h)))
theorem S_X6_total (X : XS) (h : Mem) : CT X yX6_total MX6_total (some .int) 0 0 [(2, 33)] h (F_X6_total h) := by
  refine CT.ofI (by decide) rfl (Nat.le_of_ble_eq_true rfl) (fun r hf => ?_)
  unfold F_X6_total at hf
  show AJ X MX6_total (rmD 0) 0 [(2, 33)] [] h (PH 0 r)
  refine q_aload_n dX6_total_0 rfl rfl ?_
  refine g_get (k := 11) (kz := 11) dX6_total_1 rfl fg_X6_59 rfl rfl ?_
  refine q_iconst dX6_total_4 rfl rfl ?_
  refine q_icmp_ge (tgt := 10) dX6_total_5 rfl (by decide) (fun c_2 => ?_) (fun c_2 => ?_)
  · replace hf := it_f hf (by omega)
    refine q_aload_n dX6_total_10 rfl rfl ?_
    refine g_getF (k := 10) (o := 11) (z := 44) dX6_total_11 rfl fg_X6_56 rfl rfl rfl ?_
    refine q_aload_n dX6_total_14 rfl rfl ?_
    refine g_get (k := 11) (kz := 11) dX6_total_15 rfl fg_X6_59 rfl rfl ?_
    refine q_iconst dX6_total_18 rfl rfl ?_
    refine q_isub dX6_total_19 rfl ?_
    obtain ⟨g_1, hf⟩ := gd_ex hf
    refine q_iaload dX6_total_20 rfl rfl g_1 ?_
    refine q_aload_n dX6_total_21 rfl rfl ?_
    refine g_getF (k := 7) (o := 8) (z := 41) dX6_total_22 rfl fg_X6_47 rfl rfl rfl ?_
    refine q_aload_n dX6_total_25 rfl rfl ?_
    refine g_get (k := 11) (kz := 11) dX6_total_26 rfl fg_X6_59 rfl rfl ?_
    refine q_iconst dX6_total_29 rfl rfl ?_
    refine q_isub dX6_total_30 rfl ?_
    refine q_iaload dX6_total_31 rfl rfl g_1 ?_
    refine q_iadd dX6_total_32 rfl ?_
    refine q_aload_n dX6_total_33 rfl rfl ?_
    refine g_get (k := 13) (kz := 13) dX6_total_34 rfl fg_X6_66 rfl rfl ?_
    refine q_iadd dX6_total_37 rfl ?_
    exact g_ireturn dX6_total_38 rfl hf
  · replace hf := it_t hf (by omega)
    refine q_iconst dX6_total_8 rfl rfl ?_
    exact g_ireturn dX6_total_9 rfl hf
def F_X5_begin (o0 newSize_0 : Int) (h : Mem) : Res := nm (wr h o0 2 (mnI newSize_0 7)) (fun (h_1 : Mem) => nm (wr h_1 o0 3 0) (fun (h_2 : Mem) => some (0, h_2)))
theorem S_X5_begin (X : XS) (o0 : Int) (o_o0 : okO 5 o0 = true) (newSize_0 : Int) (h : Mem) : CT X yX5_begin MX5_begin none 9 1 [(2, o0), (0, newSize_0)] h (F_X5_begin o0 newSize_0 h) := by
  refine CT.ofV (by decide) rfl (Nat.le_of_ble_eq_true rfl) (fun r hf => ?_)
  unfold F_X5_begin at hf
  show AJ X MX5_begin (rmD 1) 0 [(2, o0), (0, newSize_0)] [] h (PH 9 r)
  refine q_aload_n dX5_begin_0 rfl rfl ?_
  refine q_iload_n dX5_begin_1 rfl rfl ?_
  refine q_bipush dX5_begin_2 rfl (by decide) ?_
  refine g_min dX5_begin_4 rfl ml_X5_24 mw_min rfl rfl ?_
  refine g_put (k := 2) (kz := 2) dX5_begin_7 rfl fp_X5_30 rfl (fun q => q.1 rfl) o_o0 ?_
  obtain ⟨h_1, e_h_1, hf⟩ := nm_ex hf
  rw [← e_h_1]
  refine q_aload_n dX5_begin_10 rfl rfl ?_
  refine q_iconst dX5_begin_11 rfl rfl ?_
  refine g_put (k := 3) (kz := 3) dX5_begin_12 rfl fp_X5_34 rfl (fun q => q.1 rfl) o_o0 ?_
  obtain ⟨h_2, e_h_2, hf⟩ := nm_ex hf
  rw [← e_h_2]
  exact g_return dX5_begin_15 rfl hf
def F_X6_fits (p_0 : Int) (h : Mem) : Res := jn (fun (K_1 : Mem → Res) => bd (F_X6_fails 1 p_0 h) (fun r_3 (h_4 : Mem) => if (¬ r_3 = 0) then (K_1 h_4) else (bd (F_X6_fails 2 p_0 h_4) (fun r_8 (h_9 : Mem) => if (¬ r_8 = 0) then (K_1 h_9) else (bd (F_X6_fails 3 p_0 h_9) (fun r_13 (h_14 : Mem) => if (¬ r_13 = 0) then (K_1 h_14) else (bd (F_X6_fails 4 p_0 h_14) (fun r_18 (h_19 : Mem) => if (¬ r_18 = 0) then (K_1 h_19) else (gd (0 ≤ p_0 ∧ p_0 < 10) (if ((h_19 38 p_0) ≤ (h_19 34 1)) then (some (1, h_19)) else (K_1 h_19))))))))))) (fun (h_2 : Mem) => some (0, h_2))
theorem S_X6_fits (X : XS) (p_0 : Int) (h : Mem) : CB X yX6_fits MX6_fits 2 [(2, 33), (0, p_0)] h (F_X6_fits p_0 h) := by
  refine CB.of (by decide) rfl (Nat.le_of_ble_eq_true rfl) (fun r hf => ?_)
  unfold F_X6_fits at hf
  show AJ X MX6_fits (rmD 2) 0 [(2, 33), (0, p_0)] [] h (PB r)
  obtain ⟨K_1, J_K_1, hf⟩ := jn_ex (P := fun K => ∀ (h_2 : Mem), K h_2 = some r → AJ X MX6_fits (rmD 2) 55 [(2, 33), (0, p_0)] [] h_2 (PB r)) hf (by
      intro h_2 hf
      refine q_iconst dX6_fits_55 rfl rfl ?_
      exact g_breturn dX6_fits_56 rfl (Or.inl rfl) hf)
  refine q_aload_n dX6_fits_0 rfl rfl ?_
  refine q_iconst dX6_fits_1 rfl rfl ?_
  refine q_iload_n dX6_fits_2 rfl rfl ?_
  obtain ⟨r_3, h_4, e_5, hf⟩ := bd_ex hf
  refine g_Vb (vs := [(0, 1), (0, p_0)]) (st := []) dX6_fits_3 rfl (S_X6_fails X 1 p_0 h) e_5 mf_X6_fails ml_X6_107 rfl rfl rfl rfl (fun b_6 => ?_)
  refine q_if_ne (tgt := 55) dX6_fits_6 rfl (by decide) (fun c_7 => ?_) (fun c_7 => ?_)
  · replace hf := it_t hf (by omega)
    exact J_K_1 _ hf
  · replace hf := it_f hf (by omega)
    refine q_aload_n dX6_fits_9 rfl rfl ?_
    refine q_iconst dX6_fits_10 rfl rfl ?_
    refine q_iload_n dX6_fits_11 rfl rfl ?_
    obtain ⟨r_8, h_9, e_10, hf⟩ := bd_ex hf
    refine g_Vb (vs := [(0, 2), (0, p_0)]) (st := []) dX6_fits_12 rfl (S_X6_fails X 2 p_0 h_4) e_10 mf_X6_fails ml_X6_107 rfl rfl rfl rfl (fun b_11 => ?_)
    refine q_if_ne (tgt := 55) dX6_fits_15 rfl (by decide) (fun c_12 => ?_) (fun c_12 => ?_)
    · replace hf := it_t hf (by omega)
      exact J_K_1 _ hf
    · replace hf := it_f hf (by omega)
      refine q_aload_n dX6_fits_18 rfl rfl ?_
      refine q_iconst dX6_fits_19 rfl rfl ?_
      refine q_iload_n dX6_fits_20 rfl rfl ?_
      obtain ⟨r_13, h_14, e_15, hf⟩ := bd_ex hf
      refine g_Vb (vs := [(0, 3), (0, p_0)]) (st := []) dX6_fits_21 rfl (S_X6_fails X 3 p_0 h_9) e_15 mf_X6_fails ml_X6_107 rfl rfl rfl rfl (fun b_16 => ?_)
      refine q_if_ne (tgt := 55) dX6_fits_24 rfl (by decide) (fun c_17 => ?_) (fun c_17 => ?_)
      · replace hf := it_t hf (by omega)
        exact J_K_1 _ hf
      · replace hf := it_f hf (by omega)
        refine q_aload_n dX6_fits_27 rfl rfl ?_
        refine q_iconst dX6_fits_28 rfl rfl ?_
        refine q_iload_n dX6_fits_29 rfl rfl ?_
        obtain ⟨r_18, h_19, e_20, hf⟩ := bd_ex hf
        refine g_Vb (vs := [(0, 4), (0, p_0)]) (st := []) dX6_fits_30 rfl (S_X6_fails X 4 p_0 h_14) e_20 mf_X6_fails ml_X6_107 rfl rfl rfl rfl (fun b_21 => ?_)
        refine q_if_ne (tgt := 55) dX6_fits_33 rfl (by decide) (fun c_22 => ?_) (fun c_22 => ?_)
        · replace hf := it_t hf (by omega)
          exact J_K_1 _ hf
        · replace hf := it_f hf (by omega)
          refine q_aload_n dX6_fits_36 rfl rfl ?_
          refine g_getF (k := 4) (o := 5) (z := 38) dX6_fits_37 rfl fg_X6_38 rfl rfl rfl ?_
          refine q_iload_n dX6_fits_40 rfl rfl ?_
          obtain ⟨g_23, hf⟩ := gd_ex hf
          refine q_iaload dX6_fits_41 rfl rfl g_23 ?_
          refine q_aload_n dX6_fits_42 rfl rfl ?_
          refine g_getF (k := 0) (o := 1) (z := 34) dX6_fits_43 rfl fg_X6_18 rfl rfl rfl ?_
          refine q_iconst dX6_fits_46 rfl rfl ?_
          refine q_iaload dX6_fits_47 rfl rfl (by decide) ?_
          refine q_icmp_gt (tgt := 55) dX6_fits_48 rfl (by decide) (fun c_24 => ?_) (fun c_24 => ?_)
          · replace hf := it_f hf (by omega)
            exact J_K_1 _ hf
          · replace hf := it_t hf (by omega)
            refine q_iconst dX6_fits_51 rfl rfl ?_
            refine q_goto (tgt := 56) dX6_fits_52 rfl (by decide) ?_
            exact g_breturn dX6_fits_56 rfl (Or.inr rfl) hf
def F_X5_attemptO (ext : Int → Int → Int → Int → Int → Mem → Res) (o0 p_0 k_0 used_0 away_0 figures_0 : Int) (h : Mem) : Res := gd (0 ≤ k_0 ∧ k_0 < 7) (nm (h (o0 + 1) k_0) (fun act_2 => gd (okO 0 act_2 = true) (bd (F_X6_seat p_0 act_2 h) (fun _ (h_5 : Mem) => bd (F_X6_fits p_0 h_5) (fun r_7 (h_8 : Mem) => if (¬ r_7 = 0) then (bd (F_X6_applaud p_0 0 h_8) (fun _ (h_13 : Mem) => jn (fun (K_15 : Int → Mem → Res) => jn (fun (K_16 : Mem → Res) => gd (0 ≤ p_0 ∧ p_0 < 7) (if ((h_13 (o0 + 2) p_0) = (-9)) then (K_16 h_13) else (if ((h_13 (o0 + 2) p_0) = (h_13 act_2 0)) then (K_16 h_13) else (K_15 1 h_13)))) (fun (h_17 : Mem) => K_15 0 h_17)) (fun v_22 (h_21 : Mem) => bd (ext o0 (w32 (p_0 + 1)) (ior used_0 (ishl 1 k_0)) (w32 (away_0 + v_22)) (w32 ((w32 (figures_0 * 10)) + (h_21 act_2 0))) h_21) (fun _ (h_24 : Mem) => some (0, h_24))))) else (some (0, h_8)))))))
theorem S_X5_attemptO (X : XS) (d : Nat) (hd : 9 ≤ d) (ext : Int → Int → Int → Int → Int → Mem → Res) (hext : ∀ (o0 : Int) (o_o0 : okO 5 o0 = true) (p used away figures : Int) (h : Mem), CT X yX5_extend MX5_extend none 9 d [(2, o0), (2, 33), (0, p), (0, used), (0, away), (0, figures)] h (ext o0 p used away figures h)) (o0 : Int) (o_o0 : okO 5 o0 = true) (p_0 : Int) (k_0 : Int) (used_0 : Int) (away_0 : Int) (figures_0 : Int) (h : Mem) : CT X yX5_attempt MX5_attempt none 9 (d + 1) [(2, o0), (2, 33), (0, p_0), (0, k_0), (0, used_0), (0, away_0), (0, figures_0)] h (F_X5_attemptO ext o0 p_0 k_0 used_0 away_0 figures_0 h) := by
  refine CT.ofV (by decide) rfl (Nat.le_of_ble_eq_true rfl) (fun r hf => ?_)
  unfold F_X5_attemptO at hf
  show AJ X MX5_attempt (rmD (d + 1)) 0 [(2, o0), (2, 33), (0, p_0), (0, k_0), (0, used_0), (0, away_0), (0, figures_0), (3, 0), (3, 0)] [] h (PH 9 r)
  refine q_aload_n dX5_attempt_0 rfl rfl ?_
  refine g_getF (k := 0) (o := 1) (z := (o0 + 1)) dX5_attempt_1 rfl fg_X5_11 rfl o_o0 rfl ?_
  refine q_iload_n dX5_attempt_4 rfl rfl ?_
  obtain ⟨g_1, hf⟩ := gd_ex hf
  refine q_aaload dX5_attempt_5 rfl (sf_5_0 o_o0) (by decide) g_1 ?_
  obtain ⟨act_2, e_act_2, hf⟩ := nm_ex hf
  rw [← e_act_2]
  obtain ⟨o_act_3, hf⟩ := gd_ex hf
  refine q_astore (ls' := [(2, o0), (2, 33), (0, p_0), (0, k_0), (0, used_0), (0, away_0), (0, figures_0), (2, act_2), (3, 0)]) dX5_attempt_6 rfl (okO_ne o_act_3) (Nat.le_of_ble_eq_true rfl) rfl ?_
  refine q_aload_n dX5_attempt_8 rfl rfl ?_
  refine q_iload_n dX5_attempt_9 rfl rfl ?_
  refine q_aload dX5_attempt_10 rfl rfl ?_
  obtain ⟨r_4, h_5, e_6, hf⟩ := bd_ex hf
  refine g_Vv (vs := [(0, p_0), (2, act_2)]) (st := []) dX5_attempt_12 rfl (S_X6_seat X p_0 act_2 o_act_3 h) e_6 mf_X6_seat ml_X5_49 rfl rfl (rm_ge (by omega)) rfl ?_
  refine q_aload_n dX5_attempt_15 rfl rfl ?_
  refine q_iload_n dX5_attempt_16 rfl rfl ?_
  obtain ⟨r_7, h_8, e_9, hf⟩ := bd_ex hf
  refine g_Vb (vs := [(0, p_0)]) (st := []) dX5_attempt_17 rfl (S_X6_fits X p_0 h_5) e_9 mf_X6_fits ml_X5_55 rfl rfl (rm_ge (by omega)) rfl (fun b_10 => ?_)
  refine q_if_ne (tgt := 24) dX5_attempt_20 rfl (by decide) (fun c_11 => ?_) (fun c_11 => ?_)
  · replace hf := it_t hf (by omega)
    refine q_aload_n dX5_attempt_24 rfl rfl ?_
    refine q_iload_n dX5_attempt_25 rfl rfl ?_
    refine q_iconst dX5_attempt_26 rfl rfl ?_
    obtain ⟨r_12, h_13, e_14, hf⟩ := bd_ex hf
    refine g_Vv (vs := [(0, p_0), (0, 0)]) (st := []) dX5_attempt_27 rfl (S_X6_applaud X p_0 0 h_8) e_14 mf_X6_applaud ml_X5_59 rfl rfl (rm_ge (by omega)) rfl ?_
    obtain ⟨K_15, J_K_15, hf⟩ := jn_ex (P := fun K => ∀ (v_22 : Int) (h_21 : Mem), K v_22 h_21 = some r → AJ X MX5_attempt (rmD (d + 1)) 60 [(2, o0), (2, 33), (0, p_0), (0, k_0), (0, used_0), (0, away_0), (0, figures_0), (2, act_2), (3, 0)] [(0, v_22)] h_21 (PH 9 r)) hf (by
        intro v_22 h_21 hf
        refine q_istore (ls' := [(2, o0), (2, 33), (0, p_0), (0, k_0), (0, used_0), (0, away_0), (0, figures_0), (2, act_2), (0, v_22)]) dX5_attempt_60 rfl (Nat.le_of_ble_eq_true rfl) rfl ?_
        refine q_aload_n dX5_attempt_62 rfl rfl ?_
        refine q_aload_n dX5_attempt_63 rfl rfl ?_
        refine q_iload_n dX5_attempt_64 rfl rfl ?_
        refine q_iconst dX5_attempt_65 rfl rfl ?_
        refine q_iadd dX5_attempt_66 rfl ?_
        refine q_iload dX5_attempt_67 rfl rfl ?_
        refine q_iconst dX5_attempt_69 rfl rfl ?_
        refine q_iload_n dX5_attempt_70 rfl rfl ?_
        refine q_ishl dX5_attempt_71 rfl ?_
        refine q_ior dX5_attempt_72 rfl ?_
        refine q_iload dX5_attempt_73 rfl rfl ?_
        refine q_iload dX5_attempt_75 rfl rfl ?_
        refine q_iadd dX5_attempt_77 rfl ?_
        refine q_iload dX5_attempt_78 rfl rfl ?_
        refine q_bipush dX5_attempt_80 rfl (by decide) ?_
        refine q_imul dX5_attempt_82 rfl ?_
        refine q_aload dX5_attempt_83 rfl rfl ?_
        refine g_get (k := 0) (kz := 0) dX5_attempt_85 rfl fg_X5_63 rfl o_act_3 ?_
        refine q_iadd dX5_attempt_88 rfl ?_
        obtain ⟨r_23, h_24, e_25, hf⟩ := bd_ex hf
        refine g_Vv (vs := [(2, 33), (0, w32 (p_0 + 1)), (0, ior used_0 (ishl 1 k_0)), (0, w32 (away_0 + v_22)), (0, w32 ((w32 (figures_0 * 10)) + (h_21 act_2 0)))]) (st := []) dX5_attempt_89 rfl (hext o0 o_o0 (w32 (p_0 + 1)) (ior used_0 (ishl 1 k_0)) (w32 (away_0 + v_22)) (w32 ((w32 (figures_0 * 10)) + (h_21 act_2 0))) h_21) e_25 mf_X5_extend ml_X5_37 o_o0 rfl (rm_ge (by omega)) rfl ?_
        exact g_return dX5_attempt_92 rfl hf)
    obtain ⟨K_16, J_K_16, hf⟩ := jn_ex (P := fun K => ∀ (h_17 : Mem), K h_17 = some r → AJ X MX5_attempt (rmD (d + 1)) 55 [(2, o0), (2, 33), (0, p_0), (0, k_0), (0, used_0), (0, away_0), (0, figures_0), (2, act_2), (3, 0)] [] h_17 (PH 9 r)) hf (by
        intro h_17 hf
        refine q_iconst dX5_attempt_55 rfl rfl ?_
        refine q_goto (tgt := 60) dX5_attempt_56 rfl (by decide) ?_
        exact J_K_15 _ _ hf)
    refine q_aload_n dX5_attempt_30 rfl rfl ?_
    refine g_getF (k := 1) (o := 2) (z := (o0 + 2)) dX5_attempt_31 rfl fg_X5_20 rfl o_o0 rfl ?_
    refine q_iload_n dX5_attempt_34 rfl rfl ?_
    obtain ⟨g_18, hf⟩ := gd_ex hf
    refine q_iaload dX5_attempt_35 rfl (sf_5_1 o_o0) g_18 ?_
    refine q_bipush dX5_attempt_36 rfl (by decide) ?_
    refine q_icmp_eq (tgt := 55) dX5_attempt_38 rfl (by decide) (fun c_19 => ?_) (fun c_19 => ?_)
    · replace hf := it_t hf (by omega)
      exact J_K_16 _ hf
    · replace hf := it_f hf (by omega)
      refine q_aload_n dX5_attempt_41 rfl rfl ?_
      refine g_getF (k := 1) (o := 2) (z := (o0 + 2)) dX5_attempt_42 rfl fg_X5_20 rfl o_o0 rfl ?_
      refine q_iload_n dX5_attempt_45 rfl rfl ?_
      refine q_iaload dX5_attempt_46 rfl (sf_5_1 o_o0) g_18 ?_
      refine q_aload dX5_attempt_47 rfl rfl ?_
      refine g_get (k := 0) (kz := 0) dX5_attempt_49 rfl fg_X5_63 rfl o_act_3 ?_
      refine q_icmp_ne (tgt := 59) dX5_attempt_52 rfl (by decide) (fun c_20 => ?_) (fun c_20 => ?_)
      · replace hf := it_f hf (by omega)
        refine q_iconst dX5_attempt_59 rfl rfl ?_
        exact J_K_15 _ _ hf
      · replace hf := it_t hf (by omega)
        exact J_K_16 _ hf
  · replace hf := it_f hf (by omega)
    exact g_return dX5_attempt_23 rfl hf
def F_X5_isBetter (o0 away_0 value_0 figures_0 : Int) (h : Mem) : Res := if (¬ away_0 = (h o0 4)) then (if (away_0 < (h o0 4)) then (some (1, h)) else (some (0, h))) else (if (¬ value_0 = (h o0 5)) then (if ((h o0 5) < value_0) then (some (1, h)) else (some (0, h))) else (if (figures_0 < (h o0 6)) then (some (1, h)) else (some (0, h))))
theorem S_X5_isBetter (X : XS) (o0 : Int) (o_o0 : okO 5 o0 = true) (away_0 : Int) (value_0 : Int) (figures_0 : Int) (h : Mem) : CB X yX5_isBetter MX5_isBetter 0 [(2, o0), (0, away_0), (0, value_0), (0, figures_0)] h (F_X5_isBetter o0 away_0 value_0 figures_0 h) := by
  refine CB.of (by decide) rfl (Nat.le_of_ble_eq_true rfl) (fun r hf => ?_)
  unfold F_X5_isBetter at hf
  show AJ X MX5_isBetter (rmD 0) 0 [(2, o0), (0, away_0), (0, value_0), (0, figures_0)] [] h (PB r)
  refine q_iload_n dX5_isBetter_0 rfl rfl ?_
  refine q_aload_n dX5_isBetter_1 rfl rfl ?_
  refine g_get (k := 4) (kz := 4) dX5_isBetter_2 rfl fg_X5_74 rfl o_o0 ?_
  refine q_icmp_eq (tgt := 22) dX5_isBetter_5 rfl (by decide) (fun c_5 => ?_) (fun c_5 => ?_)
  · replace hf := it_f hf (by omega)
    refine q_iload_n dX5_isBetter_22 rfl rfl ?_
    refine q_aload_n dX5_isBetter_23 rfl rfl ?_
    refine g_get (k := 5) (kz := 5) dX5_isBetter_24 rfl fg_X5_77 rfl o_o0 ?_
    refine q_icmp_eq (tgt := 44) dX5_isBetter_27 rfl (by decide) (fun c_4 => ?_) (fun c_4 => ?_)
    · replace hf := it_f hf (by omega)
      refine q_iload_n dX5_isBetter_44 rfl rfl ?_
      refine q_aload_n dX5_isBetter_45 rfl rfl ?_
      refine g_get (k := 6) (kz := 6) dX5_isBetter_46 rfl fg_X5_79 rfl o_o0 ?_
      refine q_icmp_ge (tgt := 56) dX5_isBetter_49 rfl (by decide) (fun c_3 => ?_) (fun c_3 => ?_)
      · replace hf := it_f hf (by omega)
        refine q_iconst dX5_isBetter_56 rfl rfl ?_
        exact g_breturn dX5_isBetter_57 rfl (Or.inl rfl) hf
      · replace hf := it_t hf (by omega)
        refine q_iconst dX5_isBetter_52 rfl rfl ?_
        refine q_goto (tgt := 57) dX5_isBetter_53 rfl (by decide) ?_
        exact g_breturn dX5_isBetter_57 rfl (Or.inr rfl) hf
    · replace hf := it_t hf (by omega)
      refine q_iload_n dX5_isBetter_30 rfl rfl ?_
      refine q_aload_n dX5_isBetter_31 rfl rfl ?_
      refine g_get (k := 5) (kz := 5) dX5_isBetter_32 rfl fg_X5_77 rfl o_o0 ?_
      refine q_icmp_le (tgt := 42) dX5_isBetter_35 rfl (by decide) (fun c_2 => ?_) (fun c_2 => ?_)
      · replace hf := it_f hf (by omega)
        refine q_iconst dX5_isBetter_42 rfl rfl ?_
        exact g_breturn dX5_isBetter_43 rfl (Or.inl rfl) hf
      · replace hf := it_t hf (by omega)
        refine q_iconst dX5_isBetter_38 rfl rfl ?_
        refine q_goto (tgt := 43) dX5_isBetter_39 rfl (by decide) ?_
        exact g_breturn dX5_isBetter_43 rfl (Or.inr rfl) hf
  · replace hf := it_t hf (by omega)
    refine q_iload_n dX5_isBetter_8 rfl rfl ?_
    refine q_aload_n dX5_isBetter_9 rfl rfl ?_
    refine g_get (k := 4) (kz := 4) dX5_isBetter_10 rfl fg_X5_74 rfl o_o0 ?_
    refine q_icmp_ge (tgt := 20) dX5_isBetter_13 rfl (by decide) (fun c_1 => ?_) (fun c_1 => ?_)
    · replace hf := it_f hf (by omega)
      refine q_iconst dX5_isBetter_20 rfl rfl ?_
      exact g_breturn dX5_isBetter_21 rfl (Or.inl rfl) hf
    · replace hf := it_t hf (by omega)
      refine q_iconst dX5_isBetter_16 rfl rfl ?_
      refine q_goto (tgt := 21) dX5_isBetter_17 rfl (by decide) ?_
      exact g_breturn dX5_isBetter_21 rfl (Or.inr rfl) hf
def F_X5_weigh (o0 away_0 figures_0 : Int) (h : Mem) : Res := bd (F_X6_total  h) (fun r_1 (h_2 : Mem) => jn (fun (K_4 : Mem → Res) => jn (fun (K_5 : Mem → Res) => if ((h_2 o0 3) = 0) then (K_5 h_2) else (bd (F_X5_isBetter o0 away_0 r_1 figures_0 h_2) (fun r_12 (h_13 : Mem) => if (¬ r_12 = 0) then (K_5 h_13) else (K_4 h_13)))) (fun (h_6 : Mem) => nm (wr h_6 o0 4 away_0) (fun (h_7 : Mem) => nm (wr h_7 o0 5 r_1) (fun (h_8 : Mem) => nm (wr h_8 o0 6 figures_0) (fun (h_9 : Mem) => nm (wr h_9 o0 7 (h_9 33 12)) (fun (h_10 : Mem) => K_4 h_10)))))) (fun  (h_17 : Mem) => nm (wr h_17 o0 3 (w32 ((h_17 o0 3) + 1))) (fun (h_18 : Mem) => some (0, h_18))))
theorem S_X5_weigh (X : XS) (o0 : Int) (o_o0 : okO 5 o0 = true) (away_0 : Int) (figures_0 : Int) (h : Mem) : CT X yX5_weigh MX5_weigh none 9 1 [(2, o0), (2, 33), (0, away_0), (0, figures_0)] h (F_X5_weigh o0 away_0 figures_0 h) := by
  refine CT.ofV (by decide) rfl (Nat.le_of_ble_eq_true rfl) (fun r hf => ?_)
  unfold F_X5_weigh at hf
  show AJ X MX5_weigh (rmD 1) 0 [(2, o0), (2, 33), (0, away_0), (0, figures_0), (3, 0)] [] h (PH 9 r)
  refine q_aload_n dX5_weigh_0 rfl rfl ?_
  obtain ⟨r_1, h_2, e_3, hf⟩ := bd_ex hf
  refine g_Vi (vs := []) (st := []) dX5_weigh_1 rfl (S_X6_total X  h) e_3 mf_X6_total ml_X5_66 rfl rfl rfl rfl ?_
  refine q_istore (ls' := [(2, o0), (2, 33), (0, away_0), (0, figures_0), (0, r_1)]) dX5_weigh_4 rfl (Nat.le_of_ble_eq_true rfl) rfl ?_
  obtain ⟨K_4, J_K_4, hf⟩ := jn_ex (P := fun K => ∀ (h_17 : Mem), K  h_17 = some r → AJ X MX5_weigh (rmD 1) 48 [(2, o0), (2, 33), (0, away_0), (0, figures_0), (0, r_1)] [] h_17 (PH 9 r)) hf (by
      intro  h_17 hf
      refine q_aload_n dX5_weigh_48 rfl rfl ?_
      refine q_dup dX5_weigh_49 rfl (by decide) ?_
      refine g_get (k := 3) (kz := 3) dX5_weigh_50 rfl fg_X5_34 rfl o_o0 ?_
      refine q_iconst dX5_weigh_53 rfl rfl ?_
      refine q_iadd dX5_weigh_54 rfl ?_
      refine g_put (k := 3) (kz := 3) dX5_weigh_55 rfl fp_X5_34 rfl (fun q => q.1 rfl) o_o0 ?_
      obtain ⟨h_18, e_h_18, hf⟩ := nm_ex hf
      rw [← e_h_18]
      exact g_return dX5_weigh_58 rfl hf)
  obtain ⟨K_5, J_K_5, hf⟩ := jn_ex (P := fun K => ∀ (h_6 : Mem), K h_6 = some r → AJ X MX5_weigh (rmD 1) 24 [(2, o0), (2, 33), (0, away_0), (0, figures_0), (0, r_1)] [] h_6 (PH 9 r)) hf (by
      intro h_6 hf
      refine q_aload_n dX5_weigh_24 rfl rfl ?_
      refine q_iload_n dX5_weigh_25 rfl rfl ?_
      refine g_put (k := 4) (kz := 4) dX5_weigh_26 rfl fp_X5_74 rfl (fun q => q.1 rfl) o_o0 ?_
      obtain ⟨h_7, e_h_7, hf⟩ := nm_ex hf
      rw [← e_h_7]
      refine q_aload_n dX5_weigh_29 rfl rfl ?_
      refine q_iload dX5_weigh_30 rfl rfl ?_
      refine g_put (k := 5) (kz := 5) dX5_weigh_32 rfl fp_X5_77 rfl (fun q => q.1 rfl) o_o0 ?_
      obtain ⟨h_8, e_h_8, hf⟩ := nm_ex hf
      rw [← e_h_8]
      refine q_aload_n dX5_weigh_35 rfl rfl ?_
      refine q_iload_n dX5_weigh_36 rfl rfl ?_
      refine g_put (k := 6) (kz := 6) dX5_weigh_37 rfl fp_X5_79 rfl (fun q => q.1 rfl) o_o0 ?_
      obtain ⟨h_9, e_h_9, hf⟩ := nm_ex hf
      rw [← e_h_9]
      refine q_aload_n dX5_weigh_40 rfl rfl ?_
      refine q_aload_n dX5_weigh_41 rfl rfl ?_
      refine g_get (k := 12) (kz := 12) dX5_weigh_42 rfl fg_X5_82 rfl rfl ?_
      refine g_put (k := 7) (kz := 7) dX5_weigh_45 rfl fp_X5_85 rfl (fun q => q.1 rfl) o_o0 ?_
      obtain ⟨h_10, e_h_10, hf⟩ := nm_ex hf
      rw [← e_h_10]
      exact J_K_4 _ hf)
  refine q_aload_n dX5_weigh_6 rfl rfl ?_
  refine g_get (k := 3) (kz := 3) dX5_weigh_7 rfl fg_X5_34 rfl o_o0 ?_
  refine q_if_eq (tgt := 24) dX5_weigh_10 rfl (by decide) (fun c_11 => ?_) (fun c_11 => ?_)
  · replace hf := it_t hf (by omega)
    exact J_K_5 _ hf
  · replace hf := it_f hf (by omega)
    refine q_aload_n dX5_weigh_13 rfl rfl ?_
    refine q_iload_n dX5_weigh_14 rfl rfl ?_
    refine q_iload dX5_weigh_15 rfl rfl ?_
    refine q_iload_n dX5_weigh_17 rfl rfl ?_
    obtain ⟨r_12, h_13, e_14, hf⟩ := bd_ex hf
    refine g_Vb (vs := [(0, away_0), (0, r_1), (0, figures_0)]) (st := []) dX5_weigh_18 rfl (S_X5_isBetter X o0 o_o0 away_0 r_1 figures_0 h_2) e_14 mf_X5_isBetter ml_X5_70 o_o0 rfl rfl rfl (fun b_15 => ?_)
    refine q_if_eq (tgt := 48) dX5_weigh_21 rfl (by decide) (fun c_16 => ?_) (fun c_16 => ?_)
    · replace hf := it_f hf (by omega)
      exact J_K_4 _ hf
    · replace hf := it_t hf (by omega)
      exact J_K_5 _ hf
def L_X5_extendO_1 (att : Int → Int → Int → Int → Int → Int → Mem → Res) (p_0 used_0 away_0 figures_0 o0 : Int) (Kx : Int → Mem → Res) : Nat → Int → Mem → Res
  | 0, _, _ => none
  | n + 1, k_5, h_4 => if (k_5 < (h_4 o0 2)) then (jn (fun (K_6 : Mem → Res) => if ((iand (ishr used_0 k_5) 1) = 0) then (bd (att o0 p_0 k_5 used_0 away_0 figures_0 h_4) (fun _ (h_8 : Mem) => K_6 h_8)) else (K_6 h_4)) (fun  (h_11 : Mem) => nm (w32 (k_5 + 1)) (fun k_12 => L_X5_extendO_1 att p_0 used_0 away_0 figures_0 o0 Kx n k_12 h_11))) else (Kx k_5 h_4)
def F_X5_extendO (att : Int → Int → Int → Int → Int → Int → Mem → Res) (o0 p_0 used_0 away_0 figures_0 : Int) (h : Mem) : Res := if ((h o0 2) ≤ p_0) then (bd (F_X5_weigh o0 away_0 figures_0 h) (fun _ (h_2 : Mem) => some (0, h_2))) else (L_X5_extendO_1 att p_0 used_0 away_0 figures_0 o0 (fun k_15 (h_14 : Mem) => some (0, h_14)) FU 0 h)
theorem SL_X5_extendO_1 (X : XS) (d : Nat) (hd : 9 ≤ d) (att : Int → Int → Int → Int → Int → Int → Mem → Res) (hatt : ∀ (o0 : Int) (o_o0 : okO 5 o0 = true) (p k used away figures : Int) (h : Mem), CT X yX5_attempt MX5_attempt none 9 d [(2, o0), (2, 33), (0, p), (0, k), (0, used), (0, away), (0, figures)] h (att o0 p k used away figures h)) (p_0 used_0 away_0 figures_0 o0 : Int) (o_o0 : okO 5 o0 = true) (Kx : Int → Mem → Res) {r : Int × Mem} (hK : ∀ (k_5 : Int) (h_4 : Mem), Kx k_5 h_4 = some r → AJ X MX5_extend (rmD (d + 1)) 58 [(2, o0), (2, 33), (0, p_0), (0, used_0), (0, away_0), (0, figures_0), (0, k_5)] [] h_4 (PH 9 r)) :
    ∀ (n : Nat) (k_5 : Int) (h_4 : Mem), L_X5_extendO_1 att p_0 used_0 away_0 figures_0 o0 Kx n k_5 h_4 = some r → AJ X MX5_extend (rmD (d + 1)) 21 [(2, o0), (2, 33), (0, p_0), (0, used_0), (0, away_0), (0, figures_0), (0, k_5)] [] h_4 (PH 9 r) := by
  intro n
  induction n with
  | zero => intro k_5 h_4 hf; cases hf
  | succ n ih =>
    intro k_5 h_4 hf
    rw [L_X5_extendO_1] at hf
    refine q_iload dX5_extend_21 rfl rfl ?_
    refine q_aload_n dX5_extend_23 rfl rfl ?_
    refine g_get (k := 2) (kz := 2) dX5_extend_24 rfl fg_X5_30 rfl o_o0 ?_
    refine q_icmp_ge (tgt := 58) dX5_extend_27 rfl (by decide) (fun c_13 => ?_) (fun c_13 => ?_)
    · replace hf := it_f hf (by omega)
      exact hK _ _ hf
    · replace hf := it_t hf (by omega)
      obtain ⟨K_6, J_K_6, hf⟩ := jn_ex (P := fun K => ∀ (h_11 : Mem), K  h_11 = some r → AJ X MX5_extend (rmD (d + 1)) 52 [(2, o0), (2, 33), (0, p_0), (0, used_0), (0, away_0), (0, figures_0), (0, k_5)] [] h_11 (PH 9 r)) hf (by
          intro  h_11 hf
          refine q_iinc (ls' := [(2, o0), (2, 33), (0, p_0), (0, used_0), (0, away_0), (0, figures_0), (0, w32 (k_5 + 1))]) dX5_extend_52 rfl rfl rfl ?_
          obtain ⟨k_12, e_k_12, hf⟩ := nm_ex hf
          rw [← e_k_12]
          refine q_goto (tgt := 21) dX5_extend_55 rfl (by decide) ?_
          exact ih _ _ hf)
      refine q_iload_n dX5_extend_30 rfl rfl ?_
      refine q_iload dX5_extend_31 rfl rfl ?_
      refine q_ishr dX5_extend_33 rfl ?_
      refine q_iconst dX5_extend_34 rfl rfl ?_
      refine q_iand dX5_extend_35 rfl ?_
      refine q_if_ne (tgt := 52) dX5_extend_36 rfl (by decide) (fun c_10 => ?_) (fun c_10 => ?_)
      · replace hf := it_f hf (by omega)
        exact J_K_6 _ hf
      · replace hf := it_t hf (by omega)
        refine q_aload_n dX5_extend_39 rfl rfl ?_
        refine q_aload_n dX5_extend_40 rfl rfl ?_
        refine q_iload_n dX5_extend_41 rfl rfl ?_
        refine q_iload dX5_extend_42 rfl rfl ?_
        refine q_iload_n dX5_extend_44 rfl rfl ?_
        refine q_iload dX5_extend_45 rfl rfl ?_
        refine q_iload dX5_extend_47 rfl rfl ?_
        obtain ⟨r_7, h_8, e_9, hf⟩ := bd_ex hf
        refine g_Vv (vs := [(2, 33), (0, p_0), (0, k_5), (0, used_0), (0, away_0), (0, figures_0)]) (st := []) dX5_extend_49 rfl (hatt o0 o_o0 p_0 k_5 used_0 away_0 figures_0 h_4) e_9 mf_X5_attempt ml_X5_45 o_o0 rfl (rm_ge (by omega)) rfl ?_
        exact J_K_6 _ hf
theorem S_X5_extendO (X : XS) (d : Nat) (hd : 9 ≤ d) (att : Int → Int → Int → Int → Int → Int → Mem → Res) (hatt : ∀ (o0 : Int) (o_o0 : okO 5 o0 = true) (p k used away figures : Int) (h : Mem), CT X yX5_attempt MX5_attempt none 9 d [(2, o0), (2, 33), (0, p), (0, k), (0, used), (0, away), (0, figures)] h (att o0 p k used away figures h)) (o0 : Int) (o_o0 : okO 5 o0 = true) (p_0 : Int) (used_0 : Int) (away_0 : Int) (figures_0 : Int) (h : Mem) : CT X yX5_extend MX5_extend none 9 (d + 1) [(2, o0), (2, 33), (0, p_0), (0, used_0), (0, away_0), (0, figures_0)] h (F_X5_extendO att o0 p_0 used_0 away_0 figures_0 h) := by
  refine CT.ofV (by decide) rfl (Nat.le_of_ble_eq_true rfl) (fun r hf => ?_)
  unfold F_X5_extendO at hf
  show AJ X MX5_extend (rmD (d + 1)) 0 [(2, o0), (2, 33), (0, p_0), (0, used_0), (0, away_0), (0, figures_0), (3, 0)] [] h (PH 9 r)
  refine q_iload_n dX5_extend_0 rfl rfl ?_
  refine q_aload_n dX5_extend_1 rfl rfl ?_
  refine g_get (k := 2) (kz := 2) dX5_extend_2 rfl fg_X5_30 rfl o_o0 ?_
  refine q_icmp_lt (tgt := 18) dX5_extend_5 rfl (by decide) (fun c_16 => ?_) (fun c_16 => ?_)
  · replace hf := it_f hf (by omega)
    refine q_iconst dX5_extend_18 rfl rfl ?_
    refine q_istore (ls' := [(2, o0), (2, 33), (0, p_0), (0, used_0), (0, away_0), (0, figures_0), (0, 0)]) dX5_extend_19 rfl (Nat.le_of_ble_eq_true rfl) rfl ?_
    refine SL_X5_extendO_1 X d hd att hatt p_0 used_0 away_0 figures_0 o0 o_o0 _ (fun k_15 h_14 hf => ?_) FU _ _ hf
    exact g_return dX5_extend_58 rfl hf
  · replace hf := it_t hf (by omega)
    refine q_aload_n dX5_extend_8 rfl rfl ?_
    refine q_aload_n dX5_extend_9 rfl rfl ?_
    refine q_iload dX5_extend_10 rfl rfl ?_
    refine q_iload dX5_extend_12 rfl rfl ?_
    obtain ⟨r_1, h_2, e_3, hf⟩ := bd_ex hf
    refine g_Vv (vs := [(2, 33), (0, away_0), (0, figures_0)]) (st := []) dX5_extend_14 rfl (S_X5_weigh X o0 o_o0 away_0 figures_0 h) e_3 mf_X5_weigh ml_X5_41 o_o0 rfl (rm_ge (by omega)) rfl ?_
    exact g_return dX5_extend_17 rfl hf
/-- the search closes over its own depth -/
def FxE : Nat → Int → Int → Int → Int → Int → Mem → Res
  | 0, _, _, _, _, _, _ => none
  | n + 1, o0, p, used, away, figures, h => F_X5_extendO (F_X5_attemptO (FxE n)) o0 p used away figures h
def F_X5_extend (o0 p used away figures : Int) (h : Mem) : Res := FxE 9 o0 p used away figures h
theorem S_FxE (X : XS) : ∀ (n : Nat) (o0 : Int) (o_o0 : okO 5 o0 = true) (p used away figures : Int) (h : Mem), CT X yX5_extend MX5_extend none 9 (10 + 2 * n) [(2, o0), (2, 33), (0, p), (0, used), (0, away), (0, figures)] h (FxE n o0 p used away figures h)
  | 0, _, _, _, _, _, _, _ => fun r hf => by cases hf
  | n + 1, o0, o_o0, p, used, away, figures, h => by
    have h1 := S_X5_extendO X (11 + 2 * n) (by omega) (F_X5_attemptO (FxE n)) (fun o0 o_o0 p k used away figures h => by
      have h2 := S_X5_attemptO X (10 + 2 * n) (by omega) (FxE n) (fun o0 o_o0 p used away figures h => S_FxE X n o0 o_o0 p used away figures h) o0 o_o0 p k used away figures h
      rwa [show 10 + 2 * n + 1 = 11 + 2 * n by omega] at h2) o0 o_o0 p used away figures h
    rw [show 10 + 2 * (n + 1) = 11 + 2 * n + 1 by omega]
    exact h1
theorem S_X5_extend (X : XS) (o0 : Int) (o_o0 : okO 5 o0 = true) (p used away figures : Int) (h : Mem) : CT X yX5_extend MX5_extend none 9 28 [(2, o0), (2, 33), (0, p), (0, used), (0, away), (0, figures)] h (F_X5_extend o0 p used away figures h) := S_FxE X 9 o0 o_o0 p used away figures h
def F_X5_run (o0 : Int) (h : Mem) : Res := bd (F_X5_extend o0 0 0 0 0 h) (fun _ (h_2 : Mem) => some (0, h_2))
theorem S_X5_run (X : XS) (o0 : Int) (o_o0 : okO 5 o0 = true) (h : Mem) : CT X yX5_run MX5_run none 9 29 [(2, o0), (2, 33)] h (F_X5_run o0 h) := by
  refine CT.ofV (by decide) rfl (Nat.le_of_ble_eq_true rfl) (fun r hf => ?_)
  unfold F_X5_run at hf
  show AJ X MX5_run (rmD 29) 0 [(2, o0), (2, 33)] [] h (PH 9 r)
  refine q_aload_n dX5_run_0 rfl rfl ?_
  refine q_aload_n dX5_run_1 rfl rfl ?_
  refine q_iconst dX5_run_2 rfl rfl ?_
  refine q_iconst dX5_run_3 rfl rfl ?_
  refine q_iconst dX5_run_4 rfl rfl ?_
  refine q_iconst dX5_run_5 rfl rfl ?_
  obtain ⟨r_1, h_2, e_3, hf⟩ := bd_ex hf
  refine g_Vv (vs := [(2, 33), (0, 0), (0, 0), (0, 0), (0, 0)]) (st := []) dX5_run_6 rfl (S_X5_extend X o0 o_o0 0 0 0 0 h) e_3 mf_X5_extend ml_X5_37 o_o0 rfl rfl rfl ?_
  exact g_return dX5_run_9 rfl hf
def L_X6_isStaged_1 (Kx : Int → Mem → Res) : Nat → Int → Mem → Res
  | 0, _, _ => none
  | n + 1, p_2, h_1 => if (p_2 < (h_1 33 11)) then (bd (F_X6_fits p_2 h_1) (fun r_3 (h_4 : Mem) => if (¬ r_3 = 0) then (nm (w32 (p_2 + 1)) (fun p_8 => L_X6_isStaged_1 Kx n p_8 h_4)) else (some (0, h_4)))) else (Kx p_2 h_1)
def F_X6_isStaged (h : Mem) : Res := L_X6_isStaged_1 (fun p_11 (h_10 : Mem) => some (1, h_10)) FU 0 h
theorem SL_X6_isStaged_1 (X : XS) (Kx : Int → Mem → Res) {r : Int × Mem} (hK : ∀ (p_2 : Int) (h_1 : Mem), Kx p_2 h_1 = some r → AJ X MX6_isStaged (rmD 3) 26 [(2, 33), (0, p_2)] [] h_1 (PB r)) :
    ∀ (n : Nat) (p_2 : Int) (h_1 : Mem), L_X6_isStaged_1 Kx n p_2 h_1 = some r → AJ X MX6_isStaged (rmD 3) 2 [(2, 33), (0, p_2)] [] h_1 (PB r) := by
  intro n
  induction n with
  | zero => intro p_2 h_1 hf; cases hf
  | succ n ih =>
    intro p_2 h_1 hf
    rw [L_X6_isStaged_1] at hf
    refine q_iload_n dX6_isStaged_2 rfl rfl ?_
    refine q_aload_n dX6_isStaged_3 rfl rfl ?_
    refine g_get (k := 11) (kz := 11) dX6_isStaged_4 rfl fg_X6_59 rfl rfl ?_
    refine q_icmp_ge (tgt := 26) dX6_isStaged_7 rfl (by decide) (fun c_9 => ?_) (fun c_9 => ?_)
    · replace hf := it_f hf (by omega)
      exact hK _ _ hf
    · replace hf := it_t hf (by omega)
      refine q_aload_n dX6_isStaged_10 rfl rfl ?_
      refine q_iload_n dX6_isStaged_11 rfl rfl ?_
      obtain ⟨r_3, h_4, e_5, hf⟩ := bd_ex hf
      refine g_Vb (vs := [(0, p_2)]) (st := []) dX6_isStaged_12 rfl (S_X6_fits X p_2 h_1) e_5 mf_X6_fits ml_X6_123 rfl rfl rfl rfl (fun b_6 => ?_)
      refine q_if_ne (tgt := 20) dX6_isStaged_15 rfl (by decide) (fun c_7 => ?_) (fun c_7 => ?_)
      · replace hf := it_t hf (by omega)
        refine q_iinc (ls' := [(2, 33), (0, w32 (p_2 + 1))]) dX6_isStaged_20 rfl rfl rfl ?_
        obtain ⟨p_8, e_p_8, hf⟩ := nm_ex hf
        rw [← e_p_8]
        refine q_goto (tgt := 2) dX6_isStaged_23 rfl (by decide) ?_
        exact ih _ _ hf
      · replace hf := it_f hf (by omega)
        refine q_iconst dX6_isStaged_18 rfl rfl ?_
        exact g_breturn dX6_isStaged_19 rfl (Or.inl rfl) hf
theorem S_X6_isStaged (X : XS) (h : Mem) : CB X yX6_isStaged MX6_isStaged 3 [(2, 33)] h (F_X6_isStaged h) := by
  refine CB.of (by decide) rfl (Nat.le_of_ble_eq_true rfl) (fun r hf => ?_)
  unfold F_X6_isStaged at hf
  show AJ X MX6_isStaged (rmD 3) 0 [(2, 33), (3, 0)] [] h (PB r)
  refine q_iconst dX6_isStaged_0 rfl rfl ?_
  refine q_istore_n (ls' := [(2, 33), (0, 0)]) dX6_isStaged_1 rfl rfl (Nat.le_of_ble_eq_true rfl) rfl ?_
  refine SL_X6_isStaged_1 X   _ (fun p_11 h_10 hf => ?_) FU _ _ hf
  refine q_iconst dX6_isStaged_26 rfl rfl ?_
  exact g_breturn dX6_isStaged_27 rfl (Or.inr rfl) hf
