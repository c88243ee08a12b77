/-! the makers: the world grows cell by cell, in the order of the codes -/
def Ad (ad : Int → Nat) (base : Nat) : Prop := ∀ z : Int, 1 ≤ z → ad z = base + (z - 1).toNat
def SL (n : Nat) : Nat := ((SH.take n).map (fun sp => sp.2)).sum
abbrev TG : Type := Nat × List AV × List AV × Nat × Mem
def Tf (ad : Int → Nat) (aC : Nat → ClassId) (H : Heap) : Prop := ∃ cell : Cell, H[ad (-4)]? = some cell ∧ cell.cls = aC 0
def Nws (U : State) : Prop := va_AO "NineActs$Act" U ∧ va_AO "NineActs$Bill" U ∧ va_Nw (.castable "[I" "java/lang/Cloneable") U ∧ va_Nw (.fieldLinkNest "NineActs$Show" 9 "NineActs" "TUNE_AT_FIRST" "[I" "NineActs") U
theorem Nws.warm {u U : State} (hW : u.WarmedH U.vm) (h : Nws u) : Nws U := ⟨h.1.moved hW.alike, h.2.1.moved hW.alike, va_Nw.warmC hW h.2.2.1, va_Nw.warmF hW h.2.2.2⟩
theorem Nws.same {u U : State} (hv : u.vm = U.vm) (h : Nws u) : Nws U := ⟨h.1.moved (by rw [hv]; exact Vm.Alike.refl _), h.2.1.moved (by rw [hv]; exact Vm.Alike.refl _), va_Nw.same rfl hv h.2.2.1, va_Nw.same rfl hv h.2.2.2⟩
def GCx (X : XS) (Y : MD) (I : Bool) (p : Program) (s : State) (m : MethodId) (args : Array Value) (meth : Method) (c : Code) (D : va_G) (ad : Int → Nat) (aC : Nat → ClassId) (A : Nat → Prop) (base : Nat) : Prop :=
  Cx X Y p s m args c D ad aC A ∧ (I = true → meth.name = "<init>") ∧ Ad ad base ∧ (∀ q, base ≤ q → A q) ∧ Tf ad aC s.heap ∧ Nws s
def GW (D : va_G) (ad : Int → Nat) (aC : Nat → ClassId) (A : Nat → Prop) (base : Nat) (s : State) (n : Nat) (h : Mem) (H : Heap) (locs : List Loc) : Prop :=
  va_P D vwCl (wsOf (SH.take n) ad aC h) H ∧ H.size = base + n ∧ va_S A s.heap H locs
/-- from pc with n cells made and this memory, the method comes to the place T -/
def GG (X : XS) (Y : MD) (I : Bool) (R : Room) (pc : Nat) (ls st : List AV) (n : Nat) (h : Mem) (T : TG) : Prop :=
  ∀ (p : Program) (l : Launch) (e : Env) (s : State) (m : MethodId) (args : Array Value) (below : List Frame) (meth : Method) (c : Code) (H : Heap) (locs : List Loc) (cells slots : Nat) (Q : State → Prop) (D : va_G) (ad : Int → Nat) (aC : Nat → ClassId) (A : Nat → Prop) (base : Nat) (lsm : Array Slot),
    GCx X Y I p s m args meth c D ad aC A base → GW D ad aC A base s n h H locs → LcR ad lsm Y.2.2 ls → n ≤ T.2.2.2.1 → cells + (T.2.2.2.1 - n) ≤ R.cells → slots + (SL T.2.2.2.1 - SL n) ≤ R.slots →
    (∀ (H' : Heap) (locs' : List Loc) (lsm' : Array Slot), GW D ad aC A base s T.2.2.2.1 T.2.2.2.2 H' locs' → LcR ad lsm' Y.2.2 T.2.1 →
      W p l e R s m args below meth c H' locs' (cells + (T.2.2.2.1 - n)) (slots + (SL T.2.2.2.1 - SL n)) Q (F0 m T.1 lsm' (T.2.2.1.map (av ad)))) →
    W p l e R s m args below meth c H locs cells slots Q (F0 m pc lsm (st.map (av ad)))
theorem SL_le {n k : Nat} (h : n ≤ k) : SL n ≤ SL k := by
  obtain ⟨d, rfl⟩ : ∃ d, k = n + d := ⟨k - n, by omega⟩
  clear h
  induction d with
  | zero => exact Nat.le_refl _
  | succ d ih =>
    refine Nat.le_trans ih ?_
    unfold SL
    rw [show n + (d + 1) = (n + d) + 1 from rfl, List.take_succ, List.map_append, List.sum_append]
    exact Nat.le_add_right _ _
theorem SL_s {n : Nat} {sp : Shp} (h : SH[n]? = some sp) : SL (n + 1) = SL n + sp.2 := by
  unfold SL
  rw [List.take_succ, h, List.map_append, List.sum_append]
  simp
section Grow
variable {X : XS} {Y : MD} {I : Bool} {R : Room} {pc n2 : Nat} {ls st : List AV} {n : Nat} {h h' : Mem} {T : TG} {ad : Int → Nat} {aC : Nat → ClassId} {A : Nat → Prop} {base : Nat} {r : Int} {sp : Shp}
theorem wg_at (hs : shp r = some sp) (hr : r ≤ n) : (wsOf (SH.take n) ad aC h)[(r - 1).toNat]? = some (ad r, cellE ad aC sp (h r)) := by
  obtain ⟨h1, h2⟩ := shp_at hs
  unfold wsOf
  rw [List.getElem?_mapIdx, List.getElem?_take_of_lt (by omega), h2]
  have e : (((r - 1).toNat : Nat) : Int) + 1 = r := by omega
  simp only [Option.map_some, e]
theorem wg_set {e : va_E} (hs : shp r = some sp) (hr : r ≤ n) (he : cellE ad aC sp (h' r) = e) (ho : ∀ q, q ≠ r → h' q = h q) : (wsOf (SH.take n) ad aC h).set (r - 1).toNat (ad r, e) = wsOf (SH.take n) ad aC h' := by
  obtain ⟨h1, h2⟩ := shp_at hs
  apply List.ext_getElem?
  intro j
  have er : (((r - 1).toNat : Nat) : Int) + 1 = r := by omega
  by_cases hj : j = (r - 1).toNat
  · subst hj
    rw [wg_at (h := h') hs hr, List.getElem?_set_self (by rw [wsOf, List.length_mapIdx, List.length_take]; have := (List.getElem?_eq_some_iff.mp h2).1; omega), he]
  · rw [List.getElem?_set_ne (fun q => hj q.symm)]
    unfold wsOf
    rw [List.getElem?_mapIdx, List.getElem?_mapIdx, ho ((j : Int) + 1) (by omega)]
theorem wg_D (hA : ∀ q, base ≤ q → A q) (ha : Ad ad base) : va_D A (wsOf (SH.take n) ad aC h) := by
  have e : ∀ (k : Nat) (q : Nat × va_E), (wsOf (SH.take n) ad aC h)[k]? = some q → q.1 = base + k := by
    intro k q hk
    unfold wsOf at hk
    rw [List.getElem?_mapIdx] at hk
    cases hs : (SH.take n)[k]? with
    | none => rw [hs] at hk; cases hk
    | some sp => rw [hs] at hk; cases hk; have := ha ((k : Int) + 1) (by omega); show ad ((k : Int) + 1) = base + k; omega
  refine ⟨fun i j p q hi hj hpq => ?_, fun k q hk => ?_⟩
  · have := e i p hi; have := e j q hj; omega
  · rw [e k q hk]; exact hA _ (by omega)
theorem wg_s (hs : SH[n]? = some sp) : wsOf (SH.take (n + 1)) ad aC h = wsOf (SH.take n) ad aC h ++ [(ad ((n : Int) + 1), cellE ad aC sp (h ((n : Int) + 1)))] := by
  have hl : (SH.take n).length = n := by rw [List.length_take]; have := (List.getElem?_eq_some_iff.mp hs).1; omega
  unfold wsOf
  rw [List.take_succ, hs]
  simp only [Option.toList_some]
  rw [List.mapIdx_append]
  simp only [List.mapIdx_cons, List.mapIdx_nil, hl, Nat.zero_add]
/-- one cell more -/
theorem GW.more {D : va_G} {s : State} {H H1 : Heap} {locs : List Loc} (hw : GW D ad aC A base s n h H locs) (ha : Ad ad base) (hs : SH[n]? = some sp) (z1 : H1.size = H.size + 1) (o1 : ∀ q, q < H.size → H1[q]? = H[q]?)
    (hc : va_at D vwCl (ad ((n : Int) + 1), cellE ad aC sp (h ((n : Int) + 1))) H1) : GW D ad aC A base s (n + 1) h H1 locs := by
  obtain ⟨hP, hz, hS⟩ := hw
  refine ⟨?_, by omega, Nat.le_trans hS.1 (by omega), fun x h1 h2 => (o1 x (Nat.lt_of_lt_of_le h1 hS.1)).trans (hS.2.1 x h1 h2), hS.2.2⟩
  rw [wg_s hs]
  refine (hP.kept (fun k x hx => o1 x.1 ((hP k x hx).lt))).app (fun k x hx => ?_)
  have hk : k < 1 := (List.getElem?_eq_some_iff.mp hx).1
  rw [show k = 0 by omega] at hx
  cases hx
  exact hc
theorem ad_next {H : Heap} (ha : Ad ad base) (hz : H.size = base + n) : ad ((n : Int) + 1) = H.size := by
  rw [ha _ (by omega), hz]; omega
theorem GG.done : GG X Y I R pc ls st n h (pc, ls, st, n, h) := by
  intro p l e s m args below meth c H locs cells slots Q D ad aC A base lsm C hW hL hn hc1 hc2 ret
  have := ret H locs lsm hW hL
  simpa using this
/-- an instruction that changes the stack alone -/
theorem GG.op {st2 : List AV}
    (f : ∀ (p : Program) (l : Launch) (e : Env) (s : State) (m : MethodId) (args : Array Value) (below : List Frame) (meth : Method) (c : Code) (H : Heap) (locs : List Loc) (cells slots : Nat) (Q : State → Prop) (D : va_G) (ad : Int → Nat) (aC : Nat → ClassId) (A : Nat → Prop) (lsm : Array Slot),
      Cx X Y p s m args c D ad aC A → va_S A s.heap H locs → LcR ad lsm Y.2.2 ls → W p l e R s m args below meth c H locs cells slots Q (F0 m n2 lsm (st2.map (av ad))) → W p l e R s m args below meth c H locs cells slots Q (F0 m pc lsm (st.map (av ad))))
    (k : GG X Y I R n2 ls st2 n h T) : GG X Y I R pc ls st n h T :=
  fun p l e s m args below meth c H locs cells slots Q D ad aC A base lsm C hW hL hn hc1 hc2 ret =>
    f p l e s m args below meth c H locs cells slots Q D ad aC A lsm C.1 hW.2.2 hL (k p l e s m args below meth c H locs cells slots Q D ad aC A base lsm C hW hL hn hc1 hc2 ret)
theorem r_iconst {z : Int} (hd : dcd Y.2.1 pc = some (.iconst z, n2)) (hn : n2 = pc + 1) (k : GG X Y I R n2 ls ((0, z) :: st) n h T) : GG X Y I R pc ls st n h T := by
  subst hn
  exact GG.op (fun p l e s m args below meth c H locs cells slots Q D ad aC A lsm C hS hL K => lv_iconst C.1 C.2.1 (dcd1 hd rfl) rfl K) k
theorem r_bipush {z : Int} (hd : dcd Y.2.1 pc = some (.bipush z, n2)) (hn : n2 = pc + 2) (hz : (Int8.ofInt z).toInt32 = Int32.ofInt z) (k : GG X Y I R n2 ls ((0, z) :: st) n h T) : GG X Y I R pc ls st n h T := by
  subst hn
  exact GG.op (fun p l e s m args below meth c H locs cells slots Q D ad aC A lsm C hS hL K => lv_bipush C.1 C.2.1 (dcd1 hd rfl) hz K) k
theorem r_sipush {z : Int} (hd : dcd Y.2.1 pc = some (.sipush z, n2)) (hn : n2 = pc + 3) (hz : (Int16.ofInt z).toInt32 = Int32.ofInt z) (k : GG X Y I R n2 ls ((0, z) :: st) n h T) : GG X Y I R pc ls st n h T := by
  subst hn
  exact GG.op (fun p l e s m args below meth c H locs cells slots Q D ad aC A lsm C hS hL K => lv_sipush C.1 C.2.1 (dcd1 hd rfl) hz K) k
theorem r_aload_n {i : Fin 4} {x : Int} (hd : dcd Y.2.1 pc = some (.aload_n i, n2)) (hn : n2 = pc + 1) (hl : ls[(i : Nat)]? = some (2, x)) (hx : ¬ x = 0) (k : GG X Y I R n2 ls ((2, x) :: st) n h T) : GG X Y I R pc ls st n h T := by
  subst hn
  refine GG.op (fun p l e s m args below meth c H locs cells slots Q D ad aC A lsm C hS hL K => ?_) k
  have h1 := hL.at hl (Nat.le_of_ble_eq_true rfl)
  have e : av ad (2, x) = .ref (ad x) := if_neg hx
  rw [e] at h1
  refine lv_aload_n C.1 C.2.1 (dcd1 hd rfl) rfl h1 ?_
  rw [← e]; exact K
theorem r_iload_n {i : Fin 4} {x : Int} (hd : dcd Y.2.1 pc = some (.iload_n i, n2)) (hn : n2 = pc + 1) (hl : ls[(i : Nat)]? = some (0, x)) (k : GG X Y I R n2 ls ((0, x) :: st) n h T) : GG X Y I R pc ls st n h T := by
  subst hn
  exact GG.op (fun p l e s m args below meth c H locs cells slots Q D ad aC A lsm C hS hL K => lv_iload_n C.1 C.2.1 (dcd1 hd rfl) rfl (hL.at hl (Nat.le_of_ble_eq_true rfl)) K) k
theorem r_dup {x : Int} (hd : dcd Y.2.1 pc = some (.dup, n2)) (hn : n2 = pc + 1) (k : GG X Y I R n2 ls ((2, x) :: (2, x) :: st) n h T) : GG X Y I R pc ls ((2, x) :: st) n h T := by
  subst hn
  exact GG.op (fun p l e s m args below meth c H locs cells slots Q D ad aC A lsm C hS hL K => lv_dup C.1 C.2.1 (dcd1 hd rfl) (by rw [av_cat, if_neg (show ¬ (2 : Nat) = 1 by decide)]) K) k
theorem r_goto {off : Int} {tgt : Nat} (hd : dcd Y.2.1 pc = some (.goto off, n2)) (hn : n2 = pc + 3) (ht : (pc : Int) + off = (tgt : Int)) (k : GG X Y I R tgt ls st n h T) : GG X Y I R pc ls st n h T := by
  subst hn
  exact GG.op (fun p l e s m args below meth c H locs cells slots Q D ad aC A lsm C hS hL K => lv_goto C.1 C.2.1 (dcd1 hd rfl) ht K) k
theorem r_ge_t {x y : Int} {off : Int} {tgt : Nat} (hd : dcd Y.2.1 pc = some (.if_icmp .ge off, n2)) (hn : n2 = pc + 3) (ht : (pc : Int) + off = (tgt : Int)) (hx : in32 x) (hy : in32 y) (hxy : y ≤ x) (k : GG X Y I R tgt ls st n h T) : GG X Y I R pc ls ((0, y) :: (0, x) :: st) n h T := by
  subst hn
  exact GG.op (fun p l e s m args below meth c H locs cells slots Q D ad aC A lsm C hS hL K => lv_icmp_ge C.1 C.2.1 (dcd1 hd rfl) ht (fun _ => K) (fun q => absurd ((n_le32 hy hx).mpr hxy) q)) k
theorem r_ge_f {x y : Int} {off : Int} {tgt : Nat} (hd : dcd Y.2.1 pc = some (.if_icmp .ge off, n2)) (hn : n2 = pc + 3) (ht : (pc : Int) + off = (tgt : Int)) (hx : in32 x) (hy : in32 y) (hxy : ¬ y ≤ x) (k : GG X Y I R n2 ls st n h T) : GG X Y I R pc ls ((0, y) :: (0, x) :: st) n h T := by
  subst hn
  exact GG.op (fun p l e s m args below meth c H locs cells slots Q D ad aC A lsm C hS hL K => lv_icmp_ge C.1 C.2.1 (dcd1 hd rfl) ht (fun q => absurd ((n_le32 hy hx).mp q) hxy) (fun _ => K)) k
theorem r_istore_n {j : Fin 4} {i : Nat} {x : Int} {ls' : List AV} (hd : dcd Y.2.1 pc = some (.istore_n j, n2)) (hn : n2 = pc + 1) (hi : (j : Nat) = i) (hl : i < ls.length) (he : st1 ls i (0, x) = ls') (k : GG X Y I R n2 ls' st n h T) : GG X Y I R pc ls ((0, x) :: st) n h T := by
  subst hn; subst he
  intro p l e0 s m args below meth c H locs cells slots Q D ad aC A base lsm C hW hL hn hc1 hc2 ret
  refine lv_istore_n C.1.1 C.1.2.1 (dcd1 hd rfl) hi hL.has (by have := hL.2.2.1; omega) rfl (fun ls' hl' => ?_)
  exact k p l e0 s m args below meth c H locs cells slots Q D ad aC A base ls' C hW (LcR_st1 (v := (0, x)) hL (Nat.le_of_ble_eq_true rfl) hl') hn hc1 hc2 ret
theorem r_astore_n {j : Fin 4} {i : Nat} {x : Int} {ls' : List AV} (hd : dcd Y.2.1 pc = some (.astore_n j, n2)) (hn : n2 = pc + 1) (hi : (j : Nat) = i) (hx : ¬ x = 0) (hl : i < ls.length) (he : st1 ls i (2, x) = ls') (k : GG X Y I R n2 ls' st n h T) : GG X Y I R pc ls ((2, x) :: st) n h T := by
  subst hn; subst he
  intro p l e0 s m args below meth c H locs cells slots Q D ad aC A base lsm C hW hL hn hc1 hc2 ret
  have e : av ad (2, x) = .ref (ad x) := if_neg hx
  rw [List.map_cons, e]
  refine lv_astore_n C.1.1 C.1.2.1 (dcd1 hd rfl) hi hL.has (by have := hL.2.2.1; omega) rfl (fun ls' hl' => ?_)
  rw [← e] at hl'
  exact k p l e0 s m args below meth c H locs cells slots Q D ad aC A base ls' C hW (LcR_st1 hL (Nat.le_of_ble_eq_true rfl) hl') hn hc1 hc2 ret
theorem r_iinc {i : Nat} {d x : Int} {ls' : List AV} (hd : dcd Y.2.1 pc = some (.iinc i d, n2)) (hn : n2 = pc + 3) (hx : ls[i]? = some (0, x)) (he : st1 ls i (0, w32 (x + d)) = ls') (k : GG X Y I R n2 ls' st n h T) : GG X Y I R pc ls st n h T := by
  subst hn; subst he
  intro p l e0 s m args below meth c H locs cells slots Q D ad aC A base lsm C hW hL hn hc1 hc2 ret
  have hlt : i < ls.length := (List.getElem?_eq_some_iff.mp hx).1
  have hm : (i, av ad (0, x)) ∈ asl ad ls := asl_mem.mpr ⟨(0, x), hx, Nat.le_of_ble_eq_true rfl, rfl⟩
  obtain ⟨q, hq⟩ := List.getElem?_of_mem hm
  refine lv_iinc (k := q) (v := Int32.ofInt (w32 (x + d))) C.1.1 C.1.2.1 (dcd1 hd rfl) hL.has hq (n_add x d) (by have := hL.2.2.1; omega) rfl (fun ls' hl' => ?_)
  exact k p l e0 s m args below meth c H locs cells slots Q D ad aC A base ls' C hW (LcR_st1 (v := (0, w32 (x + d))) hL (Nat.le_of_ble_eq_true rfl) hl') hn hc1 hc2 ret
end Grow
