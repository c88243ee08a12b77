/-! the makers' rules: fields, elements, calls -/
section Put
variable {X : XS} {Y : MD} {I : Bool} {R : Room} {pc n2 : Nat} {ls st : List AV} {n : Nat} {h : Mem} {T : TG}
theorem r_get {ci N idx k t : Nat} {C : String} {TT : u_T} {r z : Int} (hd : dcd Y.2.1 pc = some (.getfield idx, n2)) (hn : n2 = pc + 3) (hc : vwCl[ci]? = some (C, TT, N)) (hk : k < N) (hw : Cond.fieldLink Y.1 idx (TT k).1 (TT k).2.1 (TT k).2.2.1 ∈ gtb) (ht : ftag (fty ci k) = t) (ho : okM ci r = true) (hr : mpos r < n) (hz : h r k = z)
    (kk : GG X Y I R n2 ls ((t, z) :: st) n h T) : GG X Y I R pc ls ((2, r) :: st) n h T := by
  subst hn; subst ht; subst hz
  intro p l e s m args below meth c H locs cells slots Q D ad aC A base lsm C0 hW hL hn hc1 hc2 ret
  obtain ⟨hs, hci⟩ := okM_N ho hc
  rw [List.map_cons, av_ref (shM_at hs).1]
  have hcell : cellE ad aC (ci, N) (h r) = .inr (ci, (List.range N).map (fun j => av ad (ftag (fty ci j), h r j))) := if_pos hci
  refine va_get (v := av ad (ftag (fty ci k), h r k)) C0.1.1 C0.1.2.1 C0.1.2.2.2.2.1 (cl_in ci _ hc) C0.1.2.2.2.1 C0.1.2.2.2.2.2.1 hW.1 (mpos r) (by rw [wg_at hs hr, hcell]) hc k hk (C0.1.2.2.2.2.1 _ hw) (fun x hx => hx) (by rw [List.getElem?_map, List.getElem?_range hk]; rfl) (dcd1 hd rfl) ?_
  exact kk p l e s m args below meth c H locs cells slots Q D ad aC A base lsm C0 hW hL hn hc1 hc2 ret
theorem put_set {ad : Int → Nat} {aC : Nat → ClassId} {ci N k : Nat} {r z : Int} (hs : shM r = some (ci, N)) (hci : ci < 100) (hk : k < N) (hr : mpos r < n) :
    (wg n ad aC h).set (mpos r) (ad r, .inr (ci, ((List.range N).map (fun j => av ad (ftag (fty ci j), h r j))).set k (av ad (ftag (fty ci k), z)))) = wg n ad aC (wr h r k z) := by
  refine wg_set hs hr ?_ (fun q hq => wr_ne hq)
  unfold cellE
  rw [if_pos hci]
  refine congrArg (fun x => Sum.inr (ci, x)) (List.ext_getElem? (fun j => ?_))
  by_cases hj : j = k
  · subst hj
    rw [List.getElem?_set_self (by simpa using hk), List.getElem?_map, List.getElem?_range hk]
    simp only [Option.map_some, wr_hit]
  · rw [List.getElem?_set_ne (fun q => hj q.symm), List.getElem?_map, List.getElem?_map]
    cases hl : (List.range N)[j]? with
    | none => rfl
    | some w =>
      have hw2 : w = j := by
        obtain ⟨q1, q2⟩ := List.getElem?_eq_some_iff.mp hl
        rw [List.getElem_range] at q2; exact q2.symm
      subst hw2
      simp only [Option.map_some]
      rw [wr_miss (by omega)]
theorem r_put {ci N idx k t : Nat} {C : String} {TT : u_T} {r z : Int} (hd : dcd Y.2.1 pc = some (.putfield idx, n2)) (hn : n2 = pc + 3) (hc : vwCl[ci]? = some (C, TT, N)) (hk : k < N) (hw : Cond.fieldLink Y.1 idx (TT k).1 (TT k).2.1 (TT k).2.2.1 ∈ gtb) (ht : ftag (fty ci k) = t) (hfin : (TT k).2.2.2 = false ∨ ((TT k).2.2.2 = true ∧ I = true ∧ (TT k).1 = Y.1))
    (hty : fty ci k = .int ∨ fty ci k = .long ∨ fty ci k = .boolean ∨ (∃ C, fty ci k = .object C) ∨ ∃ u, fty ci k = .array u) (hz : canT (fty ci k) z) (ho : okM ci r = true) (hr : mpos r < n)
    (kk : GG X Y I R n2 ls st n (wr h r k z) T) : GG X Y I R pc ls ((t, z) :: (2, r) :: st) n h T := by
  subst hn; subst ht
  intro p l e s m args below meth c H locs cells slots Q D ad aC A base lsm C0 hW hL hn hc1 hc2 ret
  obtain ⟨hs, hci⟩ := okM_N ho hc
  rw [List.map_cons, List.map_cons, av_ref (shM_at hs).1]
  have hcell : cellE ad aC (ci, N) (h r) = .inr (ci, (List.range N).map (fun j => av ad (ftag (fty ci j), h r j))) := if_pos hci
  have hfit := canT_fit (ad := ad) hty hz
  have hts := C0.1.2.2.2.2.1
  have hin := cl_in ci _ hc
  have hlen : k < ((List.range N).map (fun j => av ad (ftag (fty ci j), h r j))).length := by simpa using hk
  have hD : va_D A (wg n ad aC h) := wg_D C0.2.2.2.1 C0.2.2.1
  have he : (wg n ad aC h)[(mpos r)]? = some (ad r, .inr (ci, (List.range N).map (fun j => av ad (ftag (fty ci j), h r j)))) := by rw [wg_at hs hr, hcell]
  have hap := va_apart (own := Y.1) hts hin (fty ci) (cl_ty ci _ hc) (cl_nm ci _ hc) C0.1.2.2.2.2.2.1 hc
  obtain ⟨rr, g1, cell, q1, q2, q3, q4⟩ := hW.1 _ _ he
  obtain rfl : rr = (C, TT, N) := Option.some.inj (g1.symm.trans hc)
  obtain ⟨hSl, hfc, kC, hkC, hkind⟩ := C0.1.2.2.2.2.2.1.1 ci _ hc
  obtain ⟨cf, kf, fi, f, hi, hsl⟩ := hSl k hk
  have hlay := hts _ (hin _ (u_in_lay hk))
  have hst := (u_facts hfc hkC (u_lays hts hin hk) hi).1
  have fin : ∀ H' : Heap, H'[ad r]? = some (cell.setSlot (D.2 ci k) (av ad (ftag (fty ci k), z))) → H'.size = H.size → (∀ q, q ≠ ad r → H'[q]? = H[q]?) →
      W p l e R s m args below meth c H' (locs ++ [⟨ad r, D.2 ci k⟩]) cells slots Q (F0 m (pc + 3) lsm (st.map (av ad))) := by
    intro H' b1 b2 b3
    have hat : va_at D vwCl (ad r, .inr (ci, ((List.range N).map (fun j => av ad (ftag (fty ci j), h r j))).set k (av ad (ftag (fty ci k), z)))) H' :=
      ⟨_, hc, t_OB.to (V := updV (vp_V ((List.range N).map (fun j => av ad (ftag (fty ci j), h r j)))) k (av ad (ftag (fty ci k), z))) ⟨_, b1, q2, q3, t_set q4 hap hk (av ad (ftag (fty ci k), z))⟩ (fun j _ => vp_updV_set hlen (av ad (ftag (fty ci k), z)) j)⟩
    have hP1 := hW.1.set hD he hat b3
    rw [put_set hs hci hk hr] at hP1
    exact kk p l e s m args below meth c H' _ cells slots Q D ad aC A base lsm C0 ⟨hP1, by rw [b2]; exact hW.2.1, hW.2.2.put b2 b3 (hD.2 _ _ he)⟩ hL hn hc1 hc2 ret
  unfold u_lay at hlay
  rcases hfin with hfin | ⟨hfin, hI, hdecl⟩
  · rw [if_neg (by rw [hfin]; decide)] at hlay
    have h6 := u_store hfc hkC hkind hlay hi (cl_ty ci _ hc k hk) hfit.1 hfit.2
    refine W.putK C0.1.1 C0.1.2.1 (f := f) ⟨C0.1.2.2.2.1, hts _ hw, ⟨_, _, _, hi⟩, hst⟩ (by rw [q2]; exact h6) q1 q3 (by rw [hsl]; exact k2_hasslot (q4 k hk)) rfl rfl (dcd1 hd rfl) fun H' e1 e2 e3 => ?_
    rw [hsl] at e1 ⊢
    exact fin H' e1 e2 e3
  · rw [if_pos hfin] at hlay
    have hcf : m.cls = cf := by
      obtain ⟨_, _, c', _, _, _, -, -, hf', -, -, -, hown2, -⟩ := Cond.laysFinal_spec hlay
      have e1 : c' = cf := by have := hi.symm.trans hf'; simp at this; exact this.1.symm
      rw [hdecl] at hown2
      rw [← e1]; exact Option.some.inj (C0.1.2.2.2.1.symm.trans hown2)
    have h6 := u_fits hfc hkC hkind (Or.inr hlay) hi (cl_ty ci _ hc k hk) hfit.1 hfit.2
    refine W.putFinK C0.1.1 C0.1.2.1 C0.1.2.2.2.1 (hts _ hw) hi hst hcf (C0.2.1 hI) (by rw [q2]; exact h6) q1 q3 (by rw [hsl]; exact k2_hasslot (q4 k hk)) rfl rfl (dcd1 hd rfl) fun H' e1 e2 e3 => ?_
    rw [hsl] at e1 ⊢
    exact fin H' e1 e2 e3
theorem r_iast {N : Nat} {r i x : Int} (hd : dcd Y.2.1 pc = some (.iastore, n2)) (hn : n2 = pc + 1) (hs : shM r = some (100, N)) (hr : mpos r < n) (hi : 0 ≤ i ∧ i < N) (hN : N ≤ 1000)
    (kk : GG X Y I R n2 ls st n (wr h r i x) T) : GG X Y I R pc ls ((0, x) :: (0, i) :: (2, r) :: st) n h T := by
  subst hn
  intro p l e s m args below meth c H locs cells slots Q D ad aC A base lsm C0 hW hL hn hc1 hc2 ret
  have hin : in32 i := ⟨by omega, by omega⟩
  rw [List.map_cons, List.map_cons, List.map_cons, av_ref (shM_at hs).1]
  have hD : va_D A (wg n ad aC h) := wg_D C0.2.2.2.1 C0.2.2.1
  have he : (wg n ad aC h)[(mpos r)]? = some (ad r, .inl (aC (aix 100), N, .inl (fun j : Nat => Int32.ofInt (h r j)))) := wg_at hs hr
  have hK := (C0.1.2.2.2.2.2.1.2 (aix 100) _ (tys_at aC (k := 100) (by omega) (by omega))).1
  refine W.iast C0.1.1 C0.1.2.1 (hW.1 _ _ he) (hK N (fun j => .int (Int32.ofInt (h r j)))) (fun q => by cases q) (by show ¬ (_ ∨ (arrV _ _ _).slots.size ≤ _); rw [arrV_size]; exact n_vpin hin hi.1 hi.2) rfl rfl (dcd1 hd rfl) fun H1 b1 z1 o1 => ?_
  have hset : (wg n ad aC h).set (mpos r) (ad r, .inl (aC (aix 100), N, .inl (upd (fun j : Nat => Int32.ofInt (h r j)) (Int32.ofInt i).toNatClampNeg (Int32.ofInt x)))) = wg n ad aC (wr h r i x) := by
    refine wg_set hs hr ?_ (fun q hq => wr_ne hq)
    rw [n_clamp hin, arr_up hi.1 rfl rfl]; rfl
  have hat : va_at D vwCl (ad r, .inl (aC (aix 100), N, .inl (upd (fun j : Nat => Int32.ofInt (h r j)) (Int32.ofInt i).toNatClampNeg (Int32.ofInt x)))) H1 := by
    show H1[ad r]? = some (vp_cell _ _)
    rw [b1, vp_cell_i, vp_cell_i, arrV_store]
    refine congrArg (fun f => some (arrV (aC (aix 100)) N f)) (funext (fun q => ?_))
    unfold updV upd
    by_cases hq : q = (Int32.ofInt i).toNatClampNeg
    · rw [if_pos hq, if_pos hq]
    · rw [if_neg hq, if_neg hq]
  have hP1 := hW.1.set hD he hat o1
  rw [hset] at hP1
  exact kk p l e s m args below meth c H1 _ cells slots Q D ad aC A base lsm C0 ⟨hP1, by rw [z1]; exact hW.2.1, hW.2.2.put z1 o1 (hD.2 _ _ he)⟩ hL hn hc1 hc2 ret
theorem r_aast {N NC ci k : Nat} {C : String} {TT : u_T} {r i x : Int} (hd : dcd Y.2.1 pc = some (.aastore, n2)) (hn : n2 = pc + 1) (hs : shM r = some (k, N)) (hk : 103 ≤ k ∧ k < 106) (hty : aty k = .object C) (hr : mpos r < n) (hi : 0 ≤ i ∧ i < N) (hN : N ≤ 1000) (hc : vwCl[ci]? = some (C, TT, NC)) (ho : okM ci x = true) (hx : mpos x < n)
    (kk : GG X Y I R n2 ls st n (wr h r i x) T) : GG X Y I R pc ls ((2, x) :: (0, i) :: (2, r) :: st) n h T := by
  subst hn
  intro p l e s m args below meth c H locs cells slots Q D ad aC A base lsm C0 hW hL hn hc1 hc2 ret
  have hin : in32 i := ⟨by omega, by omega⟩
  obtain ⟨hxs, hci⟩ := okM_N ho hc
  have hx1 := (shM_at hxs).1
  rw [List.map_cons, List.map_cons, List.map_cons, av_ref (shM_at hs).1, av_ref hx1]
  have hD : va_D A (wg n ad aC h) := wg_D C0.2.2.2.1 C0.2.2.1
  have hcel : cellE ad aC (k, N) (h r) = .inl (aC (aix k), N, .inr (.inr (.inr (.inr (fun j : Nat => if h r j = 0 then none else some (ad (h r j))))))) := by
    unfold cellE
    rw [if_neg (show ¬ k < 100 by omega), if_neg (show ¬ k < 103 by omega)]
  have he : (wg n ad aC h)[(mpos r)]? = some (ad r, .inl (aC (aix k), N, .inr (.inr (.inr (.inr (fun j : Nat => if h r j = 0 then none else some (ad (h r j)))))))) := by rw [wg_at hs hr, hcel]
  have hv : (wg n ad aC h)[(mpos x)]? = some (ad x, .inr (ci, (List.range NC).map (fun j => av ad (ftag (fty ci j), h x j)))) := by
    rw [wg_at hxs hx]; unfold cellE; rw [if_pos hci]
  have hlt : (Int32.ofInt i).toNatClampNeg < N := by rw [n_clamp hin]; omega
  have h0 : ¬ Int32.ofInt i < 0 := fun q => (n_vpin hin hi.1 hi.2) (Or.inl q)
  obtain ⟨r', hr', cellV, g1, g2, g3, -⟩ := hW.1 _ _ hv
  have hcls := (C0.1.2.2.2.2.2.1.1 ci _ hc).2
  have hRA := (C0.1.2.2.2.2.2.1.2 (aix k) _ (tys_at aC (k := k) (by omega) (by omega))).2
  dsimp only at hRA
  rw [hty] at hRA
  obtain ⟨kA, comp, k1, k2, k3, -⟩ := hRA
  obtain rfl : comp = D.1 ci := Option.some.inj (k3.symm.trans hcls.1)
  obtain ⟨kC, hkC, -⟩ := hcls.2
  refine W.aast C0.1.1 C0.1.2.1 (hW.1 _ _ he) (fun q h => by cases h) (fun h => by cases h) k1 k2 rfl hkC ⟨h0, by show _ < (arrV _ _ _).slots.size; rw [arrV_size]; exact hlt⟩ g1 (fun q h => by rw [g3] at h; cases h) (by rw [g2]; exact hkC) (by rw [g2]; exact va_assign hcls) rfl rfl (dcd1 hd rfl) fun H1 b1 z1 o1 => ?_
  have hset : (wg n ad aC h).set (mpos r) (ad r, .inl (aC (aix k), N, .inr (.inr (.inr (.inr (va_up (fun j : Nat => if h r j = 0 then none else some (ad (h r j))) (Int32.ofInt i).toNatClampNeg (some (ad x)))))))) = wg n ad aC (wr h r i x) := by
    refine wg_set hs hr ?_ (fun q hq => wr_ne hq)
    rw [n_clamp hin]
    unfold cellE
    rw [if_neg (show ¬ k < 100 by omega), if_neg (show ¬ k < 103 by omega)]
    refine congrArg (fun f => Sum.inl (aC (aix k), N, Sum.inr (Sum.inr (Sum.inr (Sum.inr f))))) (funext (fun j => ?_))
    unfold va_up
    by_cases hj : j = i.toNat
    · rw [if_pos hj, show (j : Int) = i by omega, wr_hit, if_neg (show ¬ x = 0 by omega)]
    · rw [if_neg hj, wr_miss (show (j : Int) ≠ i by omega)]
  have hat : va_at D vwCl (ad r, .inl (aC (aix k), N, .inr (.inr (.inr (.inr (va_up (fun j : Nat => if h r j = 0 then none else some (ad (h r j))) (Int32.ofInt i).toNatClampNeg (some (ad x)))))))) H1 := by
    show H1[ad r]? = some (vp_cell _ _)
    rw [b1, vp_cell_q, vp_cell_q, arrV_store]
    refine congrArg (fun f => some (arrV (aC (aix k)) N f)) (funext (fun q => ?_))
    unfold updV va_up
    by_cases hq : q = (Int32.ofInt i).toNatClampNeg
    · rw [if_pos hq, if_pos hq]; rfl
    · rw [if_neg hq, if_neg hq]
  have hP1 := hW.1.set hD he hat o1
  rw [hset] at hP1
  exact kk p l e s m args below meth c H1 _ cells slots Q D ad aC A base lsm C0 ⟨hP1, by rw [z1]; exact hW.2.1, hW.2.2.put z1 o1 (hD.2 _ _ he)⟩ hL hn hc1 hc2 ret
/-- Object's own maker -/
theorem r_obj {idx : Nat} {r : Int} (hd : dcd Y.2.1 pc = some (.invokespecial idx, n2)) (hn : n2 = pc + 3) (hl : Cond.methodLink Y.1 idx objectInit ∈ gtb) (hi : Cond.instanceMethod objectInit ∈ gtb) (hcd : Cond.code objectInit ⟨#[0xb1]⟩ 1 none ∈ gtb) (hr : ¬ r = 0) (hR : 1 ≤ R.frames ∧ 12 ≤ R.locals)
    (kk : GG X Y I R n2 ls [] n h T) : GG X Y I R pc ls [(2, r)] n h T := by
  subst hn
  refine GG.op (fun p l e s m args below meth c H locs cells slots Q D ad aC A lsm C hS hL K => ?_) kk
  have e1 : av ad (2, r) = .ref (ad r) := if_neg hr
  rw [List.map_cons, e1]
  refine W.objInit C.1 C.2.1 C.2.2.2.1 (C.2.2.2.2.1 _ hl) (C.2.2.2.2.1 _ hi) (C.2.2.2.2.1 _ hcd) rfl (by rw [C.2.2.1]; exact hL.1) rfl (dcd1 hd rfl) hR.1 (by show 2 * 0 + 0 + 12 ≤ _; omega) ?_
  exact K
end Put
