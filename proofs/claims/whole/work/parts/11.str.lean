/-! text constants: length and charAt, the JDK's own methods walked -/
def isS (x : Int) : Prop := ∃ i : Nat, i < 7 ∧ x = -10 - (i : Int)
theorem isS_lit (i : Nat) {x : Int} (hi : i < 7) (hx : x = -10 - (i : Int)) : isS x := ⟨i, hi, hx⟩
def sLn (x : Int) : Int := ((sLen.getD (-10 - x).toNat 0 : Nat) : Int)
def sCh (x k : Int) : Int := ((sByt.getD (-10 - x).toNat []).getD k.toNat 0).toInt
abbrev MJ_length : MD := (RJ0, cJ0_length_8abf5, 1)
abbrev MJ_charAt : MD := (RJ0, cJ0_charAt_5068e, 2)
abbrev MJ_coder : MD := (RJ0, cJ0_coder_7d493, 1)
abbrev MJ_isLatin1 : MD := (RJ0, cJ0_isLatin1_aae02, 1)
abbrev MJ_checkIndex : MD := (RJ0, cJ0_checkIndex_df160, 2)
abbrev MJ1_charAt : MD := (RJ1, cJ1_charAt_3b067, 2)
abbrev MJ3_checkIndex : MD := (RJ3, cJ3_checkIndex_8e157, 3)
theorem jp_check3 : decide (yJ3_checkIndex_8e157.cls ≠ "java/lang/invoke/MethodHandle" ∧ yJ3_checkIndex_8e157.cls ≠ "java/lang/invoke/VarHandle" ∧ (parseMethodDescriptor yJ3_checkIndex_8e157.desc).map (fun d => d.parameters.length) = some 3) = true := by decide +kernel
theorem jp_check : decide (yJ0_checkIndex_df160.cls ≠ "java/lang/invoke/MethodHandle" ∧ yJ0_checkIndex_df160.cls ≠ "java/lang/invoke/VarHandle" ∧ (parseMethodDescriptor yJ0_checkIndex_df160.desc).map (fun d => d.parameters.length) = some 2) = true := by decide +kernel
theorem jp_latin : decide (yJ1_charAt_3b067.cls ≠ "java/lang/invoke/MethodHandle" ∧ yJ1_charAt_3b067.cls ≠ "java/lang/invoke/VarHandle" ∧ (parseMethodDescriptor yJ1_charAt_3b067.desc).map (fun d => d.parameters.length) = some 2) = true := by decide +kernel
theorem jp_charAt : decide (yJ0_charAt_5068e.cls ≠ "java/lang/invoke/MethodHandle" ∧ yJ0_charAt_5068e.cls ≠ "java/lang/invoke/VarHandle" ∧ (parseMethodDescriptor yJ0_charAt_5068e.desc).map (fun d => d.parameters.length) = some 1) = true := by decide +kernel
section StrRules
variable {X : XS} {Y : MD} {R : Room} {pc n : Nat} {ls st : List AV} {h : Mem} {Φ : Option AV → Mem → Prop}
theorem q_ldcS {i idx : Nat} {z : Int} (hd : dcd Y.2.1 pc = some (.ldc idx, n)) (hn : n = pc + 2) (hi : i < 7) (hx : sIdx.getD i 0 = idx) (hz : -10 - (i : Int) = z) (hY : Y.1 = "NineActs$Script") (k : AJ X Y R n ls ((2, z) :: st) h Φ) : AJ X Y R pc ls st h Φ := by
  subst hn; subst hx; subst hz
  refine AJ.op (fun p l e s m args below meth c H locs cells slots Q D ad aC A lsm C hS hL cl cs _ _ K => va_ldcS (q := ad (-10 - (i : Int))) (tx := sTxt.getD i "") C.1 C.2.1 C.2.2.2.1 (by rw [hY]; exact C.2.2.2.2.2.2.2.cst i hi) (dcd1 hd rfl) ?_) (fun _ cs => cs.r) k
  have e1 : av ad (2, -10 - (i : Int)) = .ref (ad (-10 - (i : Int))) := if_neg (by omega)
  rw [List.map_cons, e1] at K
  exact K
theorem q_strv {i idx : Nat} (hd : dcd Y.2.1 pc = some (.getfield idx, n)) (hn : n = pc + 3) (hi : i < 7) (hl : Cond.fieldLink Y.1 idx "java/lang/String" "value" "[B" ∈ gtb) (k : AJ X Y R n ls ((2, -20 - (i : Int)) :: st) h Φ) : AJ X Y R pc ls ((2, -10 - (i : Int)) :: st) h Φ := by
  subst hn
  refine AJ.op (fun p l e s m args below meth c H locs cells slots Q D ad aC A lsm C hS hL cl cs _ _ K => ?_) (fun _ cs => cs.tl.r) k
  have e1 : av ad (2, -10 - (i : Int)) = .ref (ad (-10 - (i : Int))) := if_neg (by omega)
  have e2 : av ad (2, -20 - (i : Int)) = .ref (ad (-20 - (i : Int))) := if_neg (by omega)
  rw [List.map_cons, e1]
  rw [List.map_cons, e2] at K
  exact vk_getf C.1 C.2.1 ((C.2.2.2.2.2.2.2.2.2.2.2.2.2.2.2.2.1).1 i hi).2.2.1 hS C.2.2.2.1 (C.2.2.2.2.1 _ hl) (fun x hx => hx) (dcd1 hd rfl) K
theorem q_strc {i idx : Nat} (hd : dcd Y.2.1 pc = some (.getfield idx, n)) (hn : n = pc + 3) (hi : i < 7) (hl : Cond.fieldLink Y.1 idx "java/lang/String" "coder" "B" ∈ gtb) (k : AJ X Y R n ls ((0, 0) :: st) h Φ) : AJ X Y R pc ls ((2, -10 - (i : Int)) :: st) h Φ := by
  subst hn
  refine AJ.op (fun p l e s m args below meth c H locs cells slots Q D ad aC A lsm C hS hL cl cs _ _ K => ?_) (fun _ cs => cs.tl.i in32_0) k
  have e1 : av ad (2, -10 - (i : Int)) = .ref (ad (-10 - (i : Int))) := if_neg (by omega)
  rw [List.map_cons, e1]
  exact vk_getf C.1 C.2.1 ((C.2.2.2.2.2.2.2.2.2.2.2.2.2.2.2.2.1).1 i hi).2.1 hS C.2.2.2.1 (C.2.2.2.2.1 _ hl) (fun x hx => hx) (dcd1 hd rfl) K
theorem sl_in : ∀ i : Nat, i < 7 → sLen.getD i 0 < 10 := by decide
theorem q_blen {i : Nat} (hd : dcd Y.2.1 pc = some (.arraylength, n)) (hn : n = pc + 1) (hi : i < 7) (k : AJ X Y R n ls ((0, ((sLen.getD i 0 : Nat) : Int)) :: st) h Φ) : AJ X Y R pc ls ((2, -20 - (i : Int)) :: st) h Φ := by
  subst hn
  have b := sl_in i hi
  refine AJ.op (fun p l e s m args below meth c H locs cells slots Q D ad aC A lsm C hS hL cl cs _ _ K => ?_) (fun _ cs => cs.tl.i ⟨by omega, by omega⟩) k
  have e2 : av ad (2, -20 - (i : Int)) = .ref (ad (-20 - (i : Int))) := if_neg (by omega)
  rw [List.map_cons, e2]
  exact va_tlen C.1 C.2.1 ((C.2.2.2.2.2.2.2.2.2.2.2.2.2.2.2.2.1).1 i hi).2.2.2 hS (Int32.ofInt_eq_ofNat).symm (dcd1 hd rfl) K
theorem q_bld {i : Nat} {k : Int} (hd : dcd Y.2.1 pc = some (.baload, n)) (hn : n = pc + 1) (hi : i < 7) (hk : 0 ≤ k ∧ k < ((sLen.getD i 0 : Nat) : Int)) (kk : AJ X Y R n ls ((0, ((sByt.getD i []).getD k.toNat 0).toInt) :: st) h Φ) : AJ X Y R pc ls ((0, k) :: (2, -20 - (i : Int)) :: st) h Φ := by
  subst hn
  refine AJ.op (fun p l e s m args below meth c H locs cells slots Q D ad aC A lsm C hS hL cl cs _ _ K => ?_) (fun _ cs => cs.tl.tl.i (n_in32 _)) kk
  have e2 : av ad (2, -20 - (i : Int)) = .ref (ad (-20 - (i : Int))) := if_neg (by omega)
  rw [List.map_cons, List.map_cons, e2]
  refine va_tb (v := .int ((sByt.getD i []).getD k.toNat 0)) C.1 C.2.1 ((C.2.2.2.2.2.2.2.2.2.2.2.2.2.2.2.2.1).1 i hi).2.2.2 hS (n_vpin cs.i1 hk.1 hk.2) (by rw [n_clamp cs.i1]) (dcd1 hd rfl) ?_
  have e3 : av ad (0, ((sByt.getD i []).getD k.toNat 0).toInt) = .int ((sByt.getD i []).getD k.toNat 0) := congrArg Value.int (Int32.ofInt_toInt _)
  rw [List.map_cons, e3] at K
  exact K
theorem q_getsC {idx : Nat} (hd : dcd Y.2.1 pc = some (.getstatic idx, n)) (hn : n = pc + 3) (hl : Cond.fieldLink Y.1 idx "java/lang/String" "COMPACT_STRINGS" "Z" ∈ gtb) (k : AJ X Y R n ls ((0, 1) :: st) h Φ) : AJ X Y R pc ls st h Φ := by
  subst hn
  exact AJ.op (fun p l e s m args below meth c H locs cells slots Q D ad aC A lsm C hS hL cl cs _ _ K => va_gets C.1 C.2.1 C.2.2.2.2.2.2.2.2.2.2.2.2.2.2.1 hS C.2.2.2.1 (C.2.2.2.2.1 _ hl) (fun x hx => hx) (dcd1 hd rfl) K) (fun _ cs => cs.i (by unfold in32; omega)) k
theorem q_getsF {idx : Nat} (hd : dcd Y.2.1 pc = some (.getstatic idx, n)) (hn : n = pc + 3) (hl : Cond.fieldLink Y.1 idx "jdk/internal/util/Preconditions" "SIOOBE_FORMATTER" "Ljava/util/function/BiFunction;" ∈ gtb) (k : ∀ z, AJ X Y R n ls ((2, z) :: st) h Φ) : AJ X Y R pc ls st h Φ := by
  subst hn
  intro p l e s m args below meth c H locs cells slots Q D ad aC A lsm C hP hD hS hL cl cs ho hc1 hc2 ret
  rcases C.2.2.2.2.2.2.2.2.2.2.2.2.2.2.2.1 with hZ | hZ
  · refine va_gets C.1 C.2.1 hZ hS C.2.2.2.1 (C.2.2.2.2.1 _ hl) (fun x hx => hx) (dcd1 hd rfl) ?_
    exact k 0 p l e s m args below meth c H locs cells slots Q D ad aC A lsm C hP hD hS hL cl cs.r ho hc1 hc2 ret
  · refine va_gets C.1 C.2.1 hZ hS C.2.2.2.1 (C.2.2.2.2.1 _ hl) (fun x hx => hx) (dcd1 hd rfl) ?_
    exact k (-30) p l e s m args below meth c H locs cells slots Q D ad aC A lsm C hP hD hS hL cl cs.r ho hc1 hc2 ret
/-- a call of a text's own method -/
theorem q_callT {i idx d : Nat} {y : MethodName} {Yc : MD} {ret : Option FieldType} {vs st0 : List AV} {Ψ : Option AV → Mem → Prop} (hd : dcd Y.2.1 pc = some (.invokevirtual idx, n)) (hn : n = pc + 3) (hi : i < 7) (hyc : y.cls = "java/lang/String") (hM : AM X y Yc ret 0 d ((2, -10 - (i : Int)) :: vs) h Ψ) (hl : Cond.methodLink Y.1 idx y ∈ gtb) (hinst : Cond.instanceMethod y ∈ gtb) (hsel : Cond.selects y.cls y y ∈ gtb) (hini : Cond.initialized y.cls ∈ gtb) (hcode : Cond.code y Yc.2.1 Yc.2.2 ret ∈ gtb)
    (hp : decide (y.cls ≠ "java/lang/invoke/MethodHandle" ∧ y.cls ≠ "java/lang/invoke/VarHandle" ∧ (parseMethodDescriptor y.desc).map (fun d => d.parameters.length) = some vs.length) = true) (hm : decide (Yc.2.2 ≤ 41 ∧ cats st ≤ 8) = true) (hR : d + 1 ≤ R.frames ∧ 60 * (d + 1) ≤ R.locals) (hst : st0 = vs.reverse ++ (2, -10 - (i : Int)) :: st)
    (kk : ∀ (z : Int) (h' : Mem), Ψ (some (0, z)) h' → AJ X Y R n ls ((0, z) :: st) h' Φ) : AJ X Y R pc ls st0 h Φ := by
  subst hn; subst hst
  intro p l e s m args below meth c H locs cells slots Q D ad aC A lsm C0 hP hD hS hL cl cs hh hc1 hc2 ret0
  have hp := of_decide_eq_true hp
  have hm := of_decide_eq_true hm
  have e1 : av ad (2, -10 - (i : Int)) = .ref (ad (-10 - (i : Int))) := if_neg (by omega)
  have hcv : Can ((2, -10 - (i : Int)) :: vs) := Can.r (fun v hv => cs v (List.mem_append_left _ (List.mem_reverse.mpr hv)))
  have hcst : Can st := fun v hv => cs v (List.mem_append_right _ (List.mem_cons_of_mem _ hv))
  have hFc : ∀ q, va_A (wsOf SH ad aC h) H.size q → A q := by
    intro q hq
    rcases hq with ⟨k, e1, hk⟩ | hq
    · exact hD.2 k _ hk
    · exact C0.2.2.2.2.2.2.1 q (Nat.le_trans hS.1 hq)
  have hM := hM hcv hh l D ad aC H.size
  have hroom : 2 * (F0 m pc lsm ((vs.reverse ++ (2, -10 - (i : Int)) :: st).map (av ad))).monitorRoom + ((st.map (av ad)).map fun v => v.category).sum ≤ 8 := lv_room (by rw [cats_eq]; exact hm.2)
  have hrc : ∃ cell : Cell, H[ad (-10 - (i : Int))]? = some cell ∧ cell.vm.isStatics = false ∧ s.vm.findClass y.cls = some cell.cls := by
    rw [hyc]; exact vk_recv (C0.2.2.2.2.2.2.2.2.2.2.2.2.2.2.2.2.1) hi hS
  refine va_calli (a := _) (va_runV (As := vs.map (av ad)) (rest := st.map (av ad)) (b := ad (-10 - (i : Int))) ⟨C0.1, C0.2.1, C0.2.2.1, C0.2.2.2.1, C0.2.2.2.2.1⟩ hM ⟨callB_of (ws' := gtb) vs.length C0.2.2.2.2.1 (gtb_good hcode) rfl rfl rfl (C0.2.2.2.2.1 _ hini) (C0.2.2.2.2.1 _ hl) hp ⟨hR.1, by show 8 + (Yc.2.2 + 11) + 60 * d ≤ R.locals; omega⟩, C0.2.2.2.2.1 _ hinst, C0.2.2.2.2.1 _ hsel⟩ ⟨fun a U g mk q => ⟨q.1, q.2.1, q.2.2.1, va_K.moved (u := U) (U := U.calling g mk a) (Vm.Alike.refl U.vm) q.2.2.2.1, q.2.2.2.2.1, Cst.same (u := U) (U := U.calling g mk a) rfl q.2.2.2.2.2⟩, hrc, fun U hU hW => ⟨by rw [List.map_cons, e1], by rw [hU], by rw [hU]; exact hP, va_K.moved hW.alike C0.2.2.2.2.2.1, hD.weaken (fun _ _ _ _ => trivial), by rw [hU]; exact (C0.2.2.2.2.2.2.2.next hS hFc).warm hW⟩⟩ rfl (List.length_map _) hL.1 (by rw [List.map_append, List.map_cons, List.map_reverse, e1]) hroom (dcd1 hd rfl) ⟨hc1, hc2⟩) hS (fun q _ hq => hFc q hq) hFc (fun r u T H1 locs1 hT hvm hpost hB hz1 hk1 hS1 => ?_)
  obtain ⟨z, h1⟩ := u
  obtain ⟨rfl, hz, ho1, hΨ⟩ := hpost
  rw [hT] at hB
  exact kk z h1 hΨ p l e s m args below meth c H1 locs1 cells slots Q D ad aC A lsm C0 hB (ws_D hD _) hS1 hL cl (hcst.i hz) ho1 hc1 hc2 ret0
end StrRules
theorem js_coder (X : XS) (i : Nat) (hi : i < 7) (h : Mem) : AM X yJ0_coder_7d493 MJ_coder (some .byte) 0 0 [(2, -10 - (i : Int))] h (PH 0 (0, h)) := by
  refine AM.of (by decide) rfl (Nat.le_of_ble_eq_true rfl) (Or.inl ⟨rfl, .byte, rfl, fun _ _ q => ⟨0, q.1, by decide +kernel⟩⟩) ?_
  show AJ X MJ_coder (rmD 0) 0 [(2, -10 - (i : Int))] [] h (PH 0 (0, h))
  refine q_getsC dJ0_coder_7d493_0 rfl (gt_of 457 (by decide +kernel) (by decide +kernel)) ?_
  refine q_if_eq (tgt := 13) dJ0_coder_7d493_3 rfl (by decide) (fun c => ?_) (fun c => ?_)
  · exact absurd c (by decide)
  · refine q_aload_n dJ0_coder_7d493_6 rfl rfl ?_
    refine q_strc dJ0_coder_7d493_7 rfl hi (gt_of 1305 (by decide +kernel) (by decide +kernel)) ?_
    refine q_goto (tgt := 14) dJ0_coder_7d493_10 rfl (by decide) ?_
    exact q_ireturn dJ0_coder_7d493_14 rfl ⟨rfl, rfl⟩
theorem sh0 : ∀ i : Nat, i < 7 → ishr ((sLen.getD i 0 : Nat) : Int) 0 = ((sLen.getD i 0 : Nat) : Int) := by decide +kernel
theorem js_length (X : XS) (i : Nat) (hi : i < 7) (h : Mem) : AM X yJ0_length_8abf5 MJ_length (some .int) 0 1 [(2, -10 - (i : Int))] h (PH 0 (((sLen.getD i 0 : Nat) : Int), h)) := by
  refine AM.of (by decide) rfl (Nat.le_of_ble_eq_true rfl) (Or.inl ⟨rfl, .int, rfl, fun _ _ q => ⟨_, q.1, rfl⟩⟩) ?_
  show AJ X MJ_length (rmD 1) 0 [(2, -10 - (i : Int))] [] h (PH 0 (((sLen.getD i 0 : Nat) : Int), h))
  refine q_aload_n dJ0_length_8abf5_0 rfl rfl ?_
  refine q_strv dJ0_length_8abf5_1 rfl hi (gt_of 1304 (by decide +kernel) (by decide +kernel)) ?_
  refine q_blen dJ0_length_8abf5_4 rfl hi ?_
  refine q_aload_n dJ0_length_8abf5_5 rfl rfl ?_
  refine q_callT (vs := []) (st := [(0, ((sLen.getD i 0 : Nat) : Int))]) dJ0_length_8abf5_6 rfl hi rfl (js_coder X i hi h) (gt_of 453 (by decide +kernel) (by decide +kernel)) (gt_of 454 (by decide +kernel) (by decide +kernel)) (gt_of 455 (by decide +kernel) (by decide +kernel)) (gt_of 78 (by decide +kernel) (by decide +kernel)) (gt_of 456 (by decide +kernel) (by decide +kernel)) (by decide +kernel) rfl ⟨Nat.le_of_ble_eq_true rfl, Nat.le_of_ble_eq_true rfl⟩ rfl (fun z h' e => ?_)
  obtain ⟨e1, e2⟩ := e
  have e1 : some ((0 : Nat), z) = some (0, 0) := e1
  cases e1; subst e2
  refine q_ishr dJ0_length_8abf5_9 rfl ?_
  refine q_ireturn dJ0_length_8abf5_10 rfl ⟨?_, rfl⟩
  rw [sh0 i hi]; rfl
theorem js_isLatin1 (X : XS) (i : Nat) (hi : i < 7) (h : Mem) : AM X yJ0_isLatin1_aae02 MJ_isLatin1 (some .boolean) 0 0 [(2, -10 - (i : Int))] h (PH 0 (1, h)) := by
  refine AM.of (by decide) rfl (Nat.le_of_ble_eq_true rfl) (Or.inl ⟨rfl, .boolean, rfl, fun _ _ q => ⟨1, q.1, by decide +kernel⟩⟩) ?_
  show AJ X MJ_isLatin1 (rmD 0) 0 [(2, -10 - (i : Int))] [] h (PH 0 (1, h))
  refine q_getsC dJ0_isLatin1_aae02_0 rfl (gt_of 457 (by decide +kernel) (by decide +kernel)) ?_
  refine q_if_eq (tgt := 17) dJ0_isLatin1_aae02_3 rfl (by decide) (fun c => ?_) (fun c => ?_)
  · exact absurd c (by decide)
  · refine q_aload_n dJ0_isLatin1_aae02_6 rfl rfl ?_
    refine q_strc dJ0_isLatin1_aae02_7 rfl hi (gt_of 1305 (by decide +kernel) (by decide +kernel)) ?_
    refine q_if_ne (tgt := 17) dJ0_isLatin1_aae02_10 rfl (by decide) (fun c => ?_) (fun c => ?_)
    · exact absurd rfl c
    · refine q_iconst dJ0_isLatin1_aae02_13 rfl rfl ?_
      refine q_goto (tgt := 18) dJ0_isLatin1_aae02_14 rfl (by decide) ?_
      exact q_ireturn dJ0_isLatin1_aae02_18 rfl ⟨rfl, rfl⟩
theorem js_check3 (X : XS) (k n z : Int) (hk : 0 ≤ k ∧ k < n) (h : Mem) : AM X yJ3_checkIndex_8e157 MJ3_checkIndex (some .int) 0 0 [(0, k), (0, n), (2, z)] h (PH 0 (k, h)) := by
  refine AM.of (by decide) rfl (Nat.le_of_ble_eq_true rfl) (Or.inl ⟨rfl, .int, rfl, fun _ _ q => ⟨k, q.1, rfl⟩⟩) ?_
  show AJ X MJ3_checkIndex (rmD 0) 0 [(0, k), (0, n), (2, z)] [] h (PH 0 (k, h))
  refine q_iload_n dJ3_checkIndex_8e157_0 rfl rfl ?_
  refine q_if_lt (tgt := 9) dJ3_checkIndex_8e157_1 rfl (by decide) (fun c => ?_) (fun c => ?_)
  · exact absurd c (by omega)
  · refine q_iload_n dJ3_checkIndex_8e157_4 rfl rfl ?_
    refine q_iload_n dJ3_checkIndex_8e157_5 rfl rfl ?_
    refine q_icmp_lt (tgt := 16) dJ3_checkIndex_8e157_6 rfl (by decide) (fun c => ?_) (fun c => ?_)
    · refine q_iload_n dJ3_checkIndex_8e157_16 rfl rfl ?_
      exact q_ireturn dJ3_checkIndex_8e157_17 rfl ⟨rfl, rfl⟩
    · exact absurd hk.2 c
theorem js_check (X : XS) (k n : Int) (hk : 0 ≤ k ∧ k < n) (h : Mem) : AM X yJ0_checkIndex_df160 MJ_checkIndex none 9 1 [(0, k), (0, n)] h (PH 9 (0, h)) := by
  refine AM.of (by decide) rfl (Nat.le_of_ble_eq_true rfl) (Or.inr (Or.inr ⟨rfl, rfl, fun _ _ q => q.1⟩)) ?_
  show AJ X MJ_checkIndex (rmD 1) 0 [(0, k), (0, n)] [] h (PH 9 (0, h))
  refine q_iload_n dJ0_checkIndex_df160_0 rfl rfl ?_
  refine q_iload_n dJ0_checkIndex_df160_1 rfl rfl ?_
  refine q_getsF dJ0_checkIndex_df160_2 rfl (gt_of 473 (by decide +kernel) (by decide +kernel)) (fun z => ?_)
  refine q_callSi (vs := [(0, k), (0, n), (2, z)]) (st := []) dJ0_checkIndex_df160_5 rfl (js_check3 X k n z hk h) (gt_of 475 (by decide +kernel) (by decide +kernel)) (gt_of 476 (by decide +kernel) (by decide +kernel)) (gt_of 80 (by decide +kernel) (by decide +kernel)) (gt_of 477 (by decide +kernel) (by decide +kernel)) jp_check3 rfl ⟨Nat.le_of_ble_eq_true rfl, Nat.le_of_ble_eq_true rfl⟩ rfl (fun z h' e => ?_)
  obtain ⟨e1, e2⟩ := e
  subst e2
  refine q_pop dJ0_checkIndex_df160_8 rfl (by decide) ?_
  exact q_return dJ0_checkIndex_df160_9 rfl ⟨rfl, rfl⟩
theorem sb_all : ∀ i : Nat, i < 7 → ∀ k : Nat, k < sLen.getD i 0 → (i2c (iand ((sByt.getD i []).getD k 0).toInt 255) = ((sByt.getD i []).getD k 0).toInt ∧ narrow .char (.int (Int32.ofInt ((sByt.getD i []).getD k 0).toInt)) = .int (Int32.ofInt ((sByt.getD i []).getD k 0).toInt)) := by decide +kernel
theorem js_latin (X : XS) (i : Nat) (hi : i < 7) (k : Int) (hk : 0 ≤ k ∧ k < ((sLen.getD i 0 : Nat) : Int)) (h : Mem) : AM X yJ1_charAt_3b067 MJ1_charAt (some .char) 0 2 [(2, -20 - (i : Int)), (0, k)] h (PH 0 (((sByt.getD i []).getD k.toNat 0).toInt, h)) := by
  obtain ⟨q1, q2⟩ := sb_all i hi k.toNat (by omega)
  refine AM.of (by decide) rfl (Nat.le_of_ble_eq_true rfl) (Or.inl ⟨rfl, .char, rfl, fun _ _ q => ⟨_, q.1, q2⟩⟩) ?_
  show AJ X MJ1_charAt (rmD 2) 0 [(2, -20 - (i : Int)), (0, k)] [] h (PH 0 (((sByt.getD i []).getD k.toNat 0).toInt, h))
  refine q_iload_n dJ1_charAt_3b067_0 rfl rfl ?_
  refine q_aload_n dJ1_charAt_3b067_1 rfl rfl ?_
  refine q_blen dJ1_charAt_3b067_2 rfl hi ?_
  refine q_callSv (vs := [(0, k), (0, ((sLen.getD i 0 : Nat) : Int))]) (st := []) dJ1_charAt_3b067_3 rfl (js_check X k _ hk h) (gt_of 470 (by decide +kernel) (by decide +kernel)) (gt_of 471 (by decide +kernel) (by decide +kernel)) (gt_of 78 (by decide +kernel) (by decide +kernel)) (gt_of 472 (by decide +kernel) (by decide +kernel)) jp_check rfl ⟨Nat.le_of_ble_eq_true rfl, Nat.le_of_ble_eq_true rfl⟩ rfl (fun h' e => ?_)
  have e2 := e.2
  subst e2
  refine q_aload_n dJ1_charAt_3b067_6 rfl rfl ?_
  refine q_iload_n dJ1_charAt_3b067_7 rfl rfl ?_
  refine q_bld dJ1_charAt_3b067_8 rfl hi hk ?_
  refine q_sipush dJ1_charAt_3b067_9 rfl (by decide) ?_
  refine q_iand dJ1_charAt_3b067_12 rfl ?_
  refine q_i2c dJ1_charAt_3b067_13 rfl ?_
  refine q_ireturn dJ1_charAt_3b067_14 rfl ⟨?_, rfl⟩
  rw [q1]; rfl
theorem js_charAt (X : XS) (i : Nat) (hi : i < 7) (k : Int) (hk : 0 ≤ k ∧ k < ((sLen.getD i 0 : Nat) : Int)) (h : Mem) : AM X yJ0_charAt_5068e MJ_charAt (some .char) 0 3 [(2, -10 - (i : Int)), (0, k)] h (PH 0 (((sByt.getD i []).getD k.toNat 0).toInt, h)) := by
  obtain ⟨q1, q2⟩ := sb_all i hi k.toNat (by omega)
  refine AM.of (by decide) rfl (Nat.le_of_ble_eq_true rfl) (Or.inl ⟨rfl, .char, rfl, fun _ _ q => ⟨_, q.1, q2⟩⟩) ?_
  show AJ X MJ_charAt (rmD 3) 0 [(2, -10 - (i : Int)), (0, k)] [] h (PH 0 (((sByt.getD i []).getD k.toNat 0).toInt, h))
  refine q_aload_n dJ0_charAt_5068e_0 rfl rfl ?_
  refine q_callT (vs := []) (st := []) dJ0_charAt_5068e_1 rfl hi rfl (js_isLatin1 X i hi h) (gt_of 463 (by decide +kernel) (by decide +kernel)) (gt_of 464 (by decide +kernel) (by decide +kernel)) (gt_of 465 (by decide +kernel) (by decide +kernel)) (gt_of 78 (by decide +kernel) (by decide +kernel)) (gt_of 466 (by decide +kernel) (by decide +kernel)) (by decide +kernel) rfl ⟨Nat.le_of_ble_eq_true rfl, Nat.le_of_ble_eq_true rfl⟩ rfl (fun z h' e => ?_)
  obtain ⟨e1, e2⟩ := e
  have e1 : some ((0 : Nat), z) = some (0, 1) := e1
  cases e1; subst e2
  refine q_if_eq (tgt := 16) dJ0_charAt_5068e_4 rfl (by decide) (fun c => ?_) (fun c => ?_)
  · exact absurd c (by decide)
  · refine q_aload_n dJ0_charAt_5068e_7 rfl rfl ?_
    refine q_strv dJ0_charAt_5068e_8 rfl hi (gt_of 1304 (by decide +kernel) (by decide +kernel)) ?_
    refine q_iload_n dJ0_charAt_5068e_11 rfl rfl ?_
    refine q_callSi (vs := [(2, -20 - (i : Int)), (0, k)]) (st := []) dJ0_charAt_5068e_12 rfl (js_latin X i hi k hk h') (gt_of 467 (by decide +kernel) (by decide +kernel)) (gt_of 468 (by decide +kernel) (by decide +kernel)) (gt_of 79 (by decide +kernel) (by decide +kernel)) (gt_of 469 (by decide +kernel) (by decide +kernel)) jp_latin rfl ⟨Nat.le_of_ble_eq_true rfl, Nat.le_of_ble_eq_true rfl⟩ rfl (fun z h2 e => ?_)
    obtain ⟨e1, e2⟩ := e
    subst e2
    have e1 : some ((0 : Nat), z) = some (0, ((sByt.getD i []).getD k.toNat 0).toInt) := e1
    cases e1
    exact q_ireturn dJ0_charAt_5068e_15 rfl ⟨rfl, rfl⟩
section StrCalls
variable {X : XS} {Y : MD} {R : Room} {pc n : Nat} {ls st : List AV} {h : Mem} {Φ : Option AV → Mem → Prop}
theorem g_slen {x : Int} {idx : Nat} (hd : dcd Y.2.1 pc = some (.invokevirtual idx, n)) (hn : n = pc + 3) (hw : isS x) (hl : Cond.methodLink Y.1 idx yJ0_length_8abf5 ∈ gtb) (hs : Nat.ble (cats st) 8 = true) (hR : (Nat.ble 2 R.frames && Nat.ble 120 R.locals) = true) (kk : AJ X Y R n ls ((0, sLn x) :: st) h Φ) : AJ X Y R pc ls ((2, x) :: st) h Φ := by
  obtain ⟨i, hi, rfl⟩ := hw
  rw [Bool.and_eq_true] at hR
  refine q_callT (vs := []) (st := st) hd hn hi rfl (js_length X i hi h) hl (gt_of 450 (by decide +kernel) (by decide +kernel)) (gt_of 451 (by decide +kernel) (by decide +kernel)) (gt_of 78 (by decide +kernel) (by decide +kernel)) (gt_of 452 (by decide +kernel) (by decide +kernel)) (by decide +kernel) (decide_eq_true ⟨by decide, Nat.le_of_ble_eq_true hs⟩) ⟨Nat.le_of_ble_eq_true hR.1, Nat.le_of_ble_eq_true hR.2⟩ rfl (fun z h' e => ?_)
  obtain ⟨e1, e2⟩ := e
  subst e2
  have e1 : some ((0 : Nat), z) = some (0, ((sLen.getD i 0 : Nat) : Int)) := e1
  cases e1
  rw [sLn, show (-10 - (-10 - (i : Int))).toNat = i by omega] at kk
  exact kk
theorem g_scha {x k : Int} {idx : Nat} (hd : dcd Y.2.1 pc = some (.invokevirtual idx, n)) (hn : n = pc + 3) (hw : isS x) (hk : 0 ≤ k ∧ k < sLn x) (hl : Cond.methodLink Y.1 idx yJ0_charAt_5068e ∈ gtb) (hs : Nat.ble (cats st) 8 = true) (hR : (Nat.ble 4 R.frames && Nat.ble 240 R.locals) = true) (kk : AJ X Y R n ls ((0, sCh x k) :: st) h Φ) : AJ X Y R pc ls ((0, k) :: (2, x) :: st) h Φ := by
  obtain ⟨i, hi, rfl⟩ := hw
  rw [Bool.and_eq_true] at hR
  have ei : (-10 - (-10 - (i : Int))).toNat = i := by omega
  rw [sLn, ei] at hk
  refine q_callT (vs := [(0, k)]) (st := st) hd hn hi rfl (js_charAt X i hi k hk h) hl (gt_of 460 (by decide +kernel) (by decide +kernel)) (gt_of 461 (by decide +kernel) (by decide +kernel)) (gt_of 78 (by decide +kernel) (by decide +kernel)) (gt_of 462 (by decide +kernel) (by decide +kernel)) jp_charAt (decide_eq_true ⟨by decide, Nat.le_of_ble_eq_true hs⟩) ⟨Nat.le_of_ble_eq_true hR.1, Nat.le_of_ble_eq_true hR.2⟩ rfl (fun z h' e => ?_)
  obtain ⟨e1, e2⟩ := e
  subst e2
  have e1 : some ((0 : Nat), z) = some (0, ((sByt.getD i []).getD k.toNat 0).toInt) := e1
  cases e1
  rw [sCh, ei] at kk
  exact kk
end StrCalls
