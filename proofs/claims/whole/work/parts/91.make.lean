/-! the makers' rules on the heap -/
def okT (t : FieldType) : Bool := match t with
  | .float => false
  | .double => false
  | _ => true
theorem dv_av (ad : Int → Nat) {t : FieldType} (h : okT t = true) : defaultValue t = av ad (ftag t, 0) := by
  cases t <;> first | rfl | cases h
section Make
variable {X : XS} {Y : MD} {I : Bool} {R : Room} {pc n2 : Nat} {ls st : List AV} {n : Nat} {h : Mem} {T : TG}
theorem r_lconst {i : Fin 2} {z : Int} (hd : dcd Y.2.1 pc = some (.lconst i, n2)) (hn : n2 = pc + 1) (hz : Int64.ofNat (i : Nat) = Int64.ofInt z) (k : GG X Y I R n2 ls ((1, z) :: st) n h T) : GG X Y I R pc ls st n h T := by
  subst hn
  exact GG.op (fun p l e s m args below meth c H locs cells slots Q D ad aC A lsm C hS hL K => lv_lconst C.1 C.2.1 (dcd1 hd rfl) hz K) k
/-- the count of cells and slots, one cell on -/
theorem cnt {n t sp c : Nat} (h1 : n + 1 ≤ t) : c + 1 + (t - (n + 1)) = c + (t - n) := by omega
theorem cntS {n t c : Nat} {z : Int} {sp : Shp} (hzn : mpos z = n) (hs : shM z = some sp) (h1 : n + 1 ≤ t) : c + sp.2 + (SL t - SL (n + 1)) = c + (SL t - SL n) := by
  have := SL_s hzn hs
  have := SL_le h1
  omega
theorem r_new {ci N idx : Nat} {C : String} {TT : u_T} {z : Int} (hd : dcd Y.2.1 pc = some (.new idx, n2)) (hn2 : n2 = pc + 3) (hs : shM z = some (ci, N)) (hc : vwCl[ci]? = some (C, TT, N)) (hci : ci < 100) (hty : ∀ j, j < N → okT (fty ci j) = true)
    (hl : Cond.classLink Y.1 idx C ∈ gtb) (hi : Cond.instantiable C N ∈ gtb) (hini : Cond.initialized C ∈ gtb) (hz : mpos z = n) (h0 : ∀ k, h z k = 0) (hT : n + 1 ≤ T.2.2.2.1)
    (kk : GG X Y I R n2 ls ((2, z) :: st) (n + 1) h T) : GG X Y I R pc ls st n h T := by
  subst hn2
  intro p l e s m args below meth c H locs cells slots Q D ad aC A base lsm C0 hW hL hn hc1 hc2 ret
  have hKn := C0.1.2.2.2.2.2.1.1 ci _ hc
  have e1 := cnt (sp := 0) (c := cells) hT
  have e2 := cntS (c := slots) hz hs hT
  dsimp only at e2
  refine W.newcK C0.1.1 C0.1.2.1 C0.1.2.2.2.1 (C0.1.2.2.2.2.1 _ hl) (C0.1.2.2.2.2.1 _ hi) (C0.1.2.2.2.2.1 _ hini) rfl (dcd1 hd rfl) (by omega) (by omega) hKn.2.1 rfl (fun H1 kC hkC b1 z1 o1 => ?_)
  have ea := ad_next C0.2.2.1 hz hs hW.2.1
  have hW1 : GW D ad aC A base s (n + 1) h H1 locs := by
    refine hW.more C0.2.2.1 hz hs z1 o1 ?_
    rw [ea]
    unfold cellE
    rw [if_pos hci]
    refine ⟨_, hc, (u_born (fty ci) C0.1.2.2.2.2.1 (cl_in ci _ hc) hKn hkC b1 (cl_ty ci _ hc)).to (fun j hj => ?_)⟩
    unfold vp_V
    rw [List.getD_eq_getElem?_getD, List.getElem?_map, List.getElem?_range hj]
    show _ = av ad (ftag (fty ci j), h z (j : Int))
    rw [h0, dv_av ad (hty j hj)]
  have := kk p l e s m args below meth c H1 locs (cells + 1) (slots + N) Q D ad aC A base lsm C0 hW1 hL hT (by omega) (by omega) (by rw [e1, e2]; exact ret)
  rw [List.map_cons, av_ref (shM_at hs).1, ea] at this
  exact this
theorem r_newa {k N : Nat} {atype : ArrayType} {x z : Int} (hd : dcd Y.2.1 pc = some (.newarray atype, n2)) (hn2 : n2 = pc + 2) (hs : shM z = some (k, N)) (hk : 100 ≤ k ∧ k < 103) (hty : newarray.typeOf atype = aty k) (harr : Cond.arrayClass (aty k) ∈ gtb) (hN : N ≤ 1000)
    (hx : x = (N : Int)) (hz : mpos z = n) (h0 : ∀ k, h z k = 0) (hT : n + 1 ≤ T.2.2.2.1)
    (kk : GG X Y I R n2 ls ((2, z) :: st) (n + 1) h T) : GG X Y I R pc ls ((0, x) :: st) n h T := by
  subst hn2; subst hx
  intro p l e s m args below meth c H locs cells slots Q D ad aC A base lsm C0 hW hL hn hc1 hc2 ret
  have e1 := cnt (sp := 0) (c := cells) hT
  have e2 := cntS (c := slots) hz hs hT
  dsimp only at e2
  have hin : in32 (N : Int) := ⟨by omega, by omega⟩
  have hb : componentBytes (newarray.typeOf atype) ≤ 8 := by cases atype <;> decide
  rw [List.map_cons]
  refine va_newaK (N := N) C0.1.1 C0.1.2.1 (by rw [hty]; exact C0.1.2.2.2.2.1 _ harr) rfl (dcd1 hd rfl) rfl ?_ (by rw [n_clamp hin]; omega) (Nat.le_trans (Nat.mul_le_mul hN hb) (Nat.le_of_ble_eq_true rfl)) (by omega) (by omega) rfl (fun H1 cA b1 z1 o1 hAr hNm => ?_)
  · intro q
    have h5 : ¬ (Int32.ofInt (N : Int)).toInt < (0 : Int32).toInt := by rw [n_id32 hin]; show ¬ (N : Int) < 0; omega
    exact h5 (Int32.lt_iff_toInt_lt.mp q)
  have ea := ad_next C0.2.2.1 hz hs hW.2.1
  have hcA : cA = aC (aix k) := by
    have h6 := (C0.1.2.2.2.2.2.1.2 (aix k) _ (tys_at aC (k := k) hk.1 (by omega))).2
    rw [hty] at hNm
    have h7 : s.vm.findClass ("[" ++ (aty k).toString) = some (aC (aix k)) := by
      rcases (show k = 100 ∨ k = 101 ∨ k = 102 by omega) with rfl | rfl | rfl <;> exact h6
    exact Option.some.inj (hNm.symm.trans h7)
  have hW1 : GW D ad aC A base s (n + 1) h H1 locs := by
    refine hW.more C0.2.2.1 hz hs z1 o1 ?_
    rw [ea]
    unfold cellE
    rw [if_neg (show ¬ k < 100 by omega), if_pos hk.2]
    show H1[H.size]? = some (vp_cell _ _)
    rw [b1, hcA, vp_cell_i, hty]
    refine congrArg (fun f => some (arrV (aC (aix k)) N f)) (funext (fun j => ?_))
    rw [h0]
    rcases (show k = 100 ∨ k = 101 ∨ k = 102 by omega) with rfl | rfl | rfl <;> rfl
  have := kk p l e s m args below meth c H1 locs (cells + 1) (slots + N) Q D ad aC A base lsm C0 hW1 hL hT (by omega) (by omega) (by rw [e1, e2]; exact ret)
  rw [List.map_cons, av_ref (shM_at hs).1, ea] at this
  exact this
theorem r_anew {k N idx : Nat} {C : String} {x z : Int} (hd : dcd Y.2.1 pc = some (.anewarray idx, n2)) (hn2 : n2 = pc + 3) (hs : shM z = some (k, N)) (hk : 103 ≤ k ∧ k < 106) (hty : aty k = .object C) (hl : Cond.classLink Y.1 idx C ∈ gtb) (harr : ∀ U, Nws U → va_AO C U) (hN : N ≤ 1000)
    (hx : x = (N : Int)) (hz : mpos z = n) (h0 : ∀ k, h z k = 0) (hT : n + 1 ≤ T.2.2.2.1)
    (kk : GG X Y I R n2 ls ((2, z) :: st) (n + 1) h T) : GG X Y I R pc ls ((0, x) :: st) n h T := by
  subst hn2; subst hx
  intro p l e s m args below meth c H locs cells slots Q D ad aC A base lsm C0 hW hL hn hc1 hc2 ret
  have e1 := cnt (sp := 0) (c := cells) hT
  have e2 := cntS (c := slots) hz hs hT
  dsimp only at e2
  have hin : in32 (N : Int) := ⟨by omega, by omega⟩
  have hcl : (Int32.ofInt (N : Int)).toNatClampNeg = N := by rw [n_clamp hin]; omega
  rw [List.map_cons]
  refine W.anew C0.1.1 C0.1.2.1 C0.1.2.2.2.1 (C0.1.2.2.2.2.1 _ hl) (va_AO.use (harr s C0.2.2.2.2.2)) rfl (dcd1 hd rfl) rfl ?_ (by rw [hcl]; omega) (by omega) (by rw [hcl]; omega) (fun cA kA comp f1 f2 f3 f4 => ?_)
  · intro q
    have h5 : ¬ (Int32.ofInt (N : Int)).toInt < (0 : Int32).toInt := by rw [n_id32 hin]; show ¬ (N : Int) < 0; omega
    exact h5 (Int32.lt_iff_toInt_lt.mp q)
  rw [hcl]
  have ea := ad_next C0.2.2.1 hz hs hW.2.1
  have hcA : cA = aC (aix k) := by
    have h6 := (C0.1.2.2.2.2.2.1.2 (aix k) _ (tys_at aC (k := k) (by omega) (by omega))).2
    dsimp only at h6
    rw [hty] at h6
    obtain ⟨kA', comp', -, -, -, g4⟩ := h6
    exact Option.some.inj (f1.symm.trans g4)
  have hW1 : GW D ad aC A base s (n + 1) h (H.push { cls := cA, slots := Array.replicate N .null, vm := .none }) locs := by
    refine hW.more C0.2.2.1 hz hs (Array.size_push ..) (fun q hq => by rw [Array.getElem?_push, if_neg (Nat.ne_of_lt hq)]) ?_
    rw [ea]
    unfold cellE
    rw [if_neg (show ¬ k < 100 by omega), if_neg (show ¬ k < 103 by omega)]
    show (H.push _)[H.size]? = some (vp_cell _ _)
    rw [Array.getElem?_push_size, hcA, vp_cell_q, arrV_new]
    refine congrArg (fun f => some (arrV (aC (aix k)) N f)) (funext (fun j => ?_))
    rw [h0, if_pos rfl]; rfl
  have := kk p l e s m args below meth c _ locs (cells + 1) (slots + N) Q D ad aC A base lsm C0 hW1 hL hT (by omega) (by omega) (by rw [e1, e2]; exact ret)
  rw [List.map_cons, av_ref (shM_at hs).1, ea] at this
  exact this
end Make
