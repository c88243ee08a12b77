/-! the makers: the world grows cell by cell, in the order of their making: it is that of the codes, but for the Acts 76, 77, 78 (the nobodies of the show's row and of the two pools), which no relation speaks of -/
def SHM : List Shp := SH ++ [(0, 11), (0, 11), (0, 11)]
def shM (r : Int) : Option Shp := if 1 ≤ r then SHM[(r - 1).toNat]? else none
def okM (ci : Nat) (r : Int) : Bool := match shM r with
  | some sp => sp.1 == ci && Nat.blt ci 100
  | none => false
def ORD : List Int := [1, 2, 3, 4, 5, 6, 7, 8, 9, 10, 11, 12, 13, 14, 15, 16, 17, 18, 19, 20, 21, 22, 23, 24, 25, 26, 27, 28, 29, 30, 31, 32, 33, 34, 35, 76, 36, 37, 38, 39, 40, 41, 42, 43, 44, 45, 46, 77, 47, 48, 49, 78, 50, 51, 52, 53, 54, 55, 56, 57, 58, 59, 60, 61, 62, 63, 64, 65, 66, 67, 68, 69, 70, 71, 72, 73, 74, 75]
/-- how many cells were made ahead of this one -/
def mpos (z : Int) : Nat := if z ≤ 35 then (z - 1).toNat else if z ≤ 46 then z.toNat else if z ≤ 49 then z.toNat + 1 else if z ≤ 75 then z.toNat + 2 else if z = 76 then 35 else if z = 77 then 47 else if z = 78 then 51 else z.toNat
def shD (c : Int) : Shp := (shM c).getD (0, 0)
def wg (n : Nat) (ad : Int → Nat) (aC : Nat → ClassId) (h : Mem) : va_W := (ORD.take n).map (fun c => (ad c, cellE ad aC (shD c) (h c)))
theorem shM_at {r : Int} {sp : Shp} (h : shM r = some sp) : 1 ≤ r ∧ SHM[(r - 1).toNat]? = some sp := by
  unfold shM at h
  split at h
  · exact ⟨by assumption, h⟩
  · cases h
theorem shp_M {r : Int} {sp : Shp} (h : shp r = some sp) : shM r = some sp := by
  obtain ⟨h1, h2⟩ := shp_at h
  unfold shM SHM
  rw [if_pos h1, List.getElem?_append_left (List.getElem?_eq_some_iff.mp h2).1, h2]
theorem shM_cls : ∀ sp ∈ SHM, sp.1 < 100 → (vwCl[sp.1]?).map (fun q => q.2.2) = some sp.2 := by decide +kernel
theorem okM_shp {ci : Nat} {r : Int} (h : okM ci r = true) : ∃ N, shM r = some (ci, N) ∧ ci < 100 := by
  unfold okM at h
  cases hs : shM r with
  | none => rw [hs] at h; cases h
  | some sp =>
    rw [hs] at h
    simp only [Bool.and_eq_true, beq_iff_eq, Nat.blt_eq] at h
    exact ⟨sp.2, by rw [← h.1], h.2⟩
theorem okM_N {ci N : Nat} {r : Int} {C : String} {T : u_T} (h : okM ci r = true) (hc : vwCl[ci]? = some (C, T, N)) : shM r = some (ci, N) ∧ ci < 100 := by
  obtain ⟨N', h1, h2⟩ := okM_shp h
  have h3 := shM_cls (ci, N') (List.mem_of_getElem? (shM_at h1).2) h2
  rw [hc] at h3
  have : N = N' := Option.some.inj h3
  rw [this]; exact ⟨h1, h2⟩
/-- a cell stands at its place in the order -/
theorem om_at {r : Int} {sp : Shp} (h : shM r = some sp) : ORD[mpos r]? = some r := by
  obtain ⟨h1, h2⟩ := shM_at h
  have key : (List.range 78).all (fun k => decide (ORD[mpos ((k : Int) + 1)]? = some ((k : Int) + 1))) = true := by decide +kernel
  have hl : (r - 1).toNat < 78 := by
    have := (List.getElem?_eq_some_iff.mp h2).1
    have e : SHM.length = 78 := by decide +kernel
    omega
  have h3 := of_decide_eq_true (List.all_eq_true.mp key (r - 1).toNat (List.mem_range.mpr hl))
  rwa [show (((r - 1).toNat : Nat) : Int) + 1 = r by omega] at h3
theorem om_pos {k : Nat} {c : Int} (h : ORD[k]? = some c) : mpos c = k ∧ 1 ≤ c := by
  have key : (List.range 78).all (fun k => match ORD[k]? with | some c => decide (mpos c = k ∧ 1 ≤ c) | none => true) = true := by decide +kernel
  have hl : k < 78 := by
    have := (List.getElem?_eq_some_iff.mp h).1
    have e : ORD.length = 78 := by decide +kernel
    omega
  have h3 := List.all_eq_true.mp key k (List.mem_range.mpr hl)
  rw [h] at h3
  exact of_decide_eq_true h3
theorem om_take {n k : Nat} {c : Int} (h : (ORD.take n)[k]? = some c) : k < n ∧ mpos c = k ∧ 1 ≤ c := by
  rw [List.getElem?_take] at h
  split at h
  · exact ⟨by assumption, om_pos h⟩
  · cases h
def Ad (ad : Int → Nat) (base : Nat) : Prop := ∀ z : Int, 1 ≤ z → ad z = base + mpos z
def SL (n : Nat) : Nat := ((ORD.take n).map (fun c => (shD c).2)).sum
abbrev TG : Type := Nat × List AV × List AV × Nat × Mem
def Tf (ad : Int → Nat) (aC : Nat → ClassId) (H : Heap) : Prop := ∃ cell : Cell, H[ad (-4)]? = some cell ∧ cell.cls = aC 0
def Nws (U : State) : Prop := va_AO "NineActs$Act" U ∧ va_AO "NineActs$Bill" U ∧ va_Nw (.castable "[I" "java/lang/Cloneable") U ∧ va_Nw (.fieldLinkNest "NineActs$Show" 9 "NineActs" "TUNE_AT_FIRST" "[I" "NineActs") U
theorem Nws.warm {u U : State} (hW : u.WarmedH U.vm) (h : Nws u) : Nws U := ⟨h.1.moved hW.alike, h.2.1.moved hW.alike, va_Nw.warmC hW h.2.2.1, va_Nw.warmF hW h.2.2.2⟩
theorem Nws.same {u U : State} (hv : u.vm = U.vm) (h : Nws u) : Nws U := ⟨h.1.moved (by rw [hv]; exact Vm.Alike.refl _), h.2.1.moved (by rw [hv]; exact Vm.Alike.refl _), va_Nw.same rfl hv h.2.2.1, va_Nw.same rfl hv h.2.2.2⟩
def GCx (X : XS) (Y : MD) (I : Bool) (p : Program) (s : State) (m : MethodId) (args : Array Value) (meth : Method) (c : Code) (D : va_G) (ad : Int → Nat) (aC : Nat → ClassId) (A : Nat → Prop) (base : Nat) : Prop :=
  Cx X Y p s m args c D ad aC A ∧ (I = true → meth.name = "<init>") ∧ Ad ad base ∧ (∀ q, base ≤ q → A q) ∧ Tf ad aC s.heap ∧ Nws s
def GW (D : va_G) (ad : Int → Nat) (aC : Nat → ClassId) (A : Nat → Prop) (base : Nat) (s : State) (n : Nat) (h : Mem) (H : Heap) (locs : List Loc) : Prop :=
  va_P D vwCl (wg n ad aC h) H ∧ H.size = base + n ∧ va_S A s.heap H locs
/-- from pc with n cells made and this memory, the method comes to the place T -/
def GG (X : XS) (Y : MD) (I : Bool) (R : Room) (pc : Nat) (ls st : List AV) (n : Nat) (h : Mem) (T : TG) : Prop :=
  ∀ (p : Program) (l : Launch) (e : Env) (s : State) (m : MethodId) (args : Array Value) (below : List Frame) (meth : Method) (c : Code) (H : Heap) (locs : List Loc) (cells slots : Nat) (Q : State → Prop) (D : va_G) (ad : Int → Nat) (aC : Nat → ClassId) (A : Nat → Prop) (base : Nat) (lsm : Array Slot),
    GCx X Y I p s m args meth c D ad aC A base → GW D ad aC A base s n h H locs → LcR ad lsm Y.2.2 ls → n ≤ T.2.2.2.1 → cells + (T.2.2.2.1 - n) ≤ R.cells → slots + (SL T.2.2.2.1 - SL n) ≤ R.slots →
    (∀ (H' : Heap) (locs' : List Loc) (lsm' : Array Slot), GW D ad aC A base s T.2.2.2.1 T.2.2.2.2 H' locs' → LcR ad lsm' Y.2.2 T.2.1 →
      W p l e R s m args below meth c H' locs' (cells + (T.2.2.2.1 - n)) (slots + (SL T.2.2.2.1 - SL n)) Q (F0 m T.1 lsm' (T.2.2.1.map (av ad)))) →
    W p l e R s m args below meth c H locs cells slots Q (F0 m pc lsm (st.map (av ad)))
theorem SL_le {n k : Nat} (h : n ≤ k) : SL n ≤ SL k := by
  obtain ⟨d, rfl⟩ : ∃ d, k = n + d := ⟨k - n, by omega⟩
  clear h
  induction d with
  | zero => exact Nat.le_refl _
  | succ d ih =>
    refine Nat.le_trans ih ?_
    unfold SL
    rw [show n + (d + 1) = (n + d) + 1 from rfl, List.take_succ, List.map_append, List.sum_append]
    exact Nat.le_add_right _ _
theorem SL_s {n : Nat} {z : Int} {sp : Shp} (hz : mpos z = n) (h : shM z = some sp) : SL (n + 1) = SL n + sp.2 := by
  have h1 := om_at h
  rw [hz] at h1
  unfold SL
  rw [List.take_succ, h1, List.map_append, List.sum_append]
  simp [shD, h]
section Grow
variable {X : XS} {Y : MD} {I : Bool} {R : Room} {pc n2 : Nat} {ls st : List AV} {n : Nat} {h h' : Mem} {T : TG} {ad : Int → Nat} {aC : Nat → ClassId} {A : Nat → Prop} {base : Nat} {r : Int} {sp : Shp}
theorem wg_at (hs : shM r = some sp) (hr : mpos r < n) : (wg n ad aC h)[mpos r]? = some (ad r, cellE ad aC sp (h r)) := by
  unfold wg
  rw [List.getElem?_map, List.getElem?_take_of_lt hr, om_at hs]
  simp only [Option.map_some, shD, hs, Option.getD_some]
theorem wg_set {e : va_E} (hs : shM r = some sp) (hr : mpos r < n) (he : cellE ad aC sp (h' r) = e) (ho : ∀ q, q ≠ r → h' q = h q) : (wg n ad aC h).set (mpos r) (ad r, e) = wg n ad aC h' := by
  apply List.ext_getElem?
  intro j
  by_cases hj : j = mpos r
  · subst hj
    rw [wg_at (h := h') hs hr, List.getElem?_set_self (List.getElem?_eq_some_iff.mp (wg_at (ad := ad) (aC := aC) (h := h) hs hr)).1, he]
  · rw [List.getElem?_set_ne (fun q => hj q.symm)]
    unfold wg
    rw [List.getElem?_map, List.getElem?_map]
    cases hc : (ORD.take n)[j]? with
    | none => rfl
    | some c =>
      have h1 := om_take hc
      have h2 : c ≠ r := fun q => by rw [q] at h1; omega
      simp only [Option.map_some]
      rw [ho c h2]
theorem wg_D (hA : ∀ q, base ≤ q → A q) (ha : Ad ad base) : va_D A (wg n ad aC h) := by
  have e : ∀ (k : Nat) (q : Nat × va_E), (wg n ad aC h)[k]? = some q → q.1 = base + k := by
    intro k q hk
    unfold wg at hk
    rw [List.getElem?_map] at hk
    cases hc : (ORD.take n)[k]? with
    | none => rw [hc] at hk; cases hk
    | some c =>
      have h1 := om_take hc
      rw [hc] at hk; cases hk
      show ad c = base + k
      rw [ha c h1.2.2, h1.2.1]
  refine ⟨fun i j p q hi hj hpq => ?_, fun k q hk => ?_⟩
  · have := e i p hi; have := e j q hj; omega
  · rw [e k q hk]; exact hA _ (by omega)
theorem wg_s {z : Int} (hz : mpos z = n) (hs : shM z = some sp) : wg (n + 1) ad aC h = wg n ad aC h ++ [(ad z, cellE ad aC sp (h z))] := by
  have h1 := om_at hs
  rw [hz] at h1
  unfold wg
  rw [List.take_succ, h1, List.map_append]
  simp [shD, hs]
/-- one cell more -/
theorem GW.more {D : va_G} {s : State} {H H1 : Heap} {locs : List Loc} (hw : GW D ad aC A base s n h H locs) (ha : Ad ad base) {z : Int} (hzn : mpos z = n) (hs : shM z = some sp) (z1 : H1.size = H.size + 1) (o1 : ∀ q, q < H.size → H1[q]? = H[q]?)
    (hc : va_at D vwCl (ad z, cellE ad aC sp (h z)) H1) : GW D ad aC A base s (n + 1) h H1 locs := by
  obtain ⟨hP, hz, hS⟩ := hw
  refine ⟨?_, by omega, Nat.le_trans hS.1 (by omega), fun x h1 h2 => (o1 x (Nat.lt_of_lt_of_le h1 hS.1)).trans (hS.2.1 x h1 h2), hS.2.2⟩
  rw [wg_s hzn hs]
  refine (hP.kept (fun k x hx => o1 x.1 ((hP k x hx).lt))).app (fun k x hx => ?_)
  have hk : k < 1 := (List.getElem?_eq_some_iff.mp hx).1
  rw [show k = 0 by omega] at hx
  cases hx
  exact hc
theorem ad_next {H : Heap} {z : Int} (ha : Ad ad base) (hzn : mpos z = n) (hs : shM z = some sp) (hz : H.size = base + n) : ad z = H.size := by
  rw [ha _ (shM_at hs).1, hz, hzn]
theorem GG.done : GG X Y I R pc ls st n h (pc, ls, st, n, h) := by
  intro p l e s m args below meth c H locs cells slots Q D ad aC A base lsm C hW hL hn hc1 hc2 ret
  have := ret H locs lsm hW hL
  simpa using this
/-- an instruction that changes the stack alone -/
theorem GG.op {st2 : List AV}
    (f : ∀ (p : Program) (l : Launch) (e : Env) (s : State) (m : MethodId) (args : Array Value) (below : List Frame) (meth : Method) (c : Code) (H : Heap) (locs : List Loc) (cells slots : Nat) (Q : State → Prop) (D : va_G) (ad : Int → Nat) (aC : Nat → ClassId) (A : Nat → Prop) (lsm : Array Slot),
      Cx X Y p s m args c D ad aC A → va_S A s.heap H locs → LcR ad lsm Y.2.2 ls → W p l e R s m args below meth c H locs cells slots Q (F0 m n2 lsm (st2.map (av ad))) → W p l e R s m args below meth c H locs cells slots Q (F0 m pc lsm (st.map (av ad))))
    (k : GG X Y I R n2 ls st2 n h T) : GG X Y I R pc ls st n h T :=
  fun p l e s m args below meth c H locs cells slots Q D ad aC A base lsm C hW hL hn hc1 hc2 ret =>
    f p l e s m args below meth c H locs cells slots Q D ad aC A lsm C.1 hW.2.2 hL (k p l e s m args below meth c H locs cells slots Q D ad aC A base lsm C hW hL hn hc1 hc2 ret)
theorem r_iconst {z : Int} (hd : dcd Y.2.1 pc = some (.iconst z, n2)) (hn : n2 = pc + 1) (k : GG X Y I R n2 ls ((0, z) :: st) n h T) : GG X Y I R pc ls st n h T := by
  subst hn
  exact GG.op (fun p l e s m args below meth c H locs cells slots Q D ad aC A lsm C hS hL K => lv_iconst C.1 C.2.1 (dcd1 hd rfl) rfl K) k
theorem r_bipush {z : Int} (hd : dcd Y.2.1 pc = some (.bipush z, n2)) (hn : n2 = pc + 2) (hz : (Int8.ofInt z).toInt32 = Int32.ofInt z) (k : GG X Y I R n2 ls ((0, z) :: st) n h T) : GG X Y I R pc ls st n h T := by
  subst hn
  exact GG.op (fun p l e s m args below meth c H locs cells slots Q D ad aC A lsm C hS hL K => lv_bipush C.1 C.2.1 (dcd1 hd rfl) hz K) k
theorem r_sipush {z : Int} (hd : dcd Y.2.1 pc = some (.sipush z, n2)) (hn : n2 = pc + 3) (hz : (Int16.ofInt z).toInt32 = Int32.ofInt z) (k : GG X Y I R n2 ls ((0, z) :: st) n h T) : GG X Y I R pc ls st n h T := by
  subst hn
  exact GG.op (fun p l e s m args below meth c H locs cells slots Q D ad aC A lsm C hS hL K => lv_sipush C.1 C.2.1 (dcd1 hd rfl) hz K) k
theorem r_aload_n {i : Fin 4} {x : Int} (hd : dcd Y.2.1 pc = some (.aload_n i, n2)) (hn : n2 = pc + 1) (hl : ls[(i : Nat)]? = some (2, x)) (hx : ¬ x = 0) (k : GG X Y I R n2 ls ((2, x) :: st) n h T) : GG X Y I R pc ls st n h T := by
  subst hn
  refine GG.op (fun p l e s m args below meth c H locs cells slots Q D ad aC A lsm C hS hL K => ?_) k
  have h1 := hL.at hl (Nat.le_of_ble_eq_true rfl)
  have e : av ad (2, x) = .ref (ad x) := if_neg hx
  rw [e] at h1
  refine lv_aload_n C.1 C.2.1 (dcd1 hd rfl) rfl h1 ?_
  rw [← e]; exact K
theorem r_iload_n {i : Fin 4} {x : Int} (hd : dcd Y.2.1 pc = some (.iload_n i, n2)) (hn : n2 = pc + 1) (hl : ls[(i : Nat)]? = some (0, x)) (k : GG X Y I R n2 ls ((0, x) :: st) n h T) : GG X Y I R pc ls st n h T := by
  subst hn
  exact GG.op (fun p l e s m args below meth c H locs cells slots Q D ad aC A lsm C hS hL K => lv_iload_n C.1 C.2.1 (dcd1 hd rfl) rfl (hL.at hl (Nat.le_of_ble_eq_true rfl)) K) k
theorem r_dup {x : Int} (hd : dcd Y.2.1 pc = some (.dup, n2)) (hn : n2 = pc + 1) (k : GG X Y I R n2 ls ((2, x) :: (2, x) :: st) n h T) : GG X Y I R pc ls ((2, x) :: st) n h T := by
  subst hn
  exact GG.op (fun p l e s m args below meth c H locs cells slots Q D ad aC A lsm C hS hL K => lv_dup C.1 C.2.1 (dcd1 hd rfl) (by rw [av_cat, if_neg (show ¬ (2 : Nat) = 1 by decide)]) K) k
theorem r_goto {off : Int} {tgt : Nat} (hd : dcd Y.2.1 pc = some (.goto off, n2)) (hn : n2 = pc + 3) (ht : (pc : Int) + off = (tgt : Int)) (k : GG X Y I R tgt ls st n h T) : GG X Y I R pc ls st n h T := by
  subst hn
  exact GG.op (fun p l e s m args below meth c H locs cells slots Q D ad aC A lsm C hS hL K => lv_goto C.1 C.2.1 (dcd1 hd rfl) ht K) k
theorem r_ge_t {x y : Int} {off : Int} {tgt : Nat} (hd : dcd Y.2.1 pc = some (.if_icmp .ge off, n2)) (hn : n2 = pc + 3) (ht : (pc : Int) + off = (tgt : Int)) (hx : in32 x) (hy : in32 y) (hxy : y ≤ x) (k : GG X Y I R tgt ls st n h T) : GG X Y I R pc ls ((0, y) :: (0, x) :: st) n h T := by
  subst hn
  exact GG.op (fun p l e s m args below meth c H locs cells slots Q D ad aC A lsm C hS hL K => lv_icmp_ge C.1 C.2.1 (dcd1 hd rfl) ht (fun _ => K) (fun q => absurd ((n_le32 hy hx).mpr hxy) q)) k
theorem r_ge_f {x y : Int} {off : Int} {tgt : Nat} (hd : dcd Y.2.1 pc = some (.if_icmp .ge off, n2)) (hn : n2 = pc + 3) (ht : (pc : Int) + off = (tgt : Int)) (hx : in32 x) (hy : in32 y) (hxy : ¬ y ≤ x) (k : GG X Y I R n2 ls st n h T) : GG X Y I R pc ls ((0, y) :: (0, x) :: st) n h T := by
  subst hn
  exact GG.op (fun p l e s m args below meth c H locs cells slots Q D ad aC A lsm C hS hL K => lv_icmp_ge C.1 C.2.1 (dcd1 hd rfl) ht (fun q => absurd ((n_le32 hy hx).mp q) hxy) (fun _ => K)) k
theorem r_istore_n {j : Fin 4} {i : Nat} {x : Int} {ls' : List AV} (hd : dcd Y.2.1 pc = some (.istore_n j, n2)) (hn : n2 = pc + 1) (hi : (j : Nat) = i) (hl : i < ls.length) (he : st1 ls i (0, x) = ls') (k : GG X Y I R n2 ls' st n h T) : GG X Y I R pc ls ((0, x) :: st) n h T := by
  subst hn; subst he
  intro p l e0 s m args below meth c H locs cells slots Q D ad aC A base lsm C hW hL hn hc1 hc2 ret
  refine lv_istore_n C.1.1 C.1.2.1 (dcd1 hd rfl) hi hL.has (by have := hL.2.2.1; omega) rfl (fun ls' hl' => ?_)
  exact k p l e0 s m args below meth c H locs cells slots Q D ad aC A base ls' C hW (LcR_st1 (v := (0, x)) hL (Nat.le_of_ble_eq_true rfl) hl') hn hc1 hc2 ret
theorem r_astore_n {j : Fin 4} {i : Nat} {x : Int} {ls' : List AV} (hd : dcd Y.2.1 pc = some (.astore_n j, n2)) (hn : n2 = pc + 1) (hi : (j : Nat) = i) (hx : ¬ x = 0) (hl : i < ls.length) (he : st1 ls i (2, x) = ls') (k : GG X Y I R n2 ls' st n h T) : GG X Y I R pc ls ((2, x) :: st) n h T := by
  subst hn; subst he
  intro p l e0 s m args below meth c H locs cells slots Q D ad aC A base lsm C hW hL hn hc1 hc2 ret
  have e : av ad (2, x) = .ref (ad x) := if_neg hx
  rw [List.map_cons, e]
  refine lv_astore_n C.1.1 C.1.2.1 (dcd1 hd rfl) hi hL.has (by have := hL.2.2.1; omega) rfl (fun ls' hl' => ?_)
  rw [← e] at hl'
  exact k p l e0 s m args below meth c H locs cells slots Q D ad aC A base ls' C hW (LcR_st1 hL (Nat.le_of_ble_eq_true rfl) hl') hn hc1 hc2 ret
theorem r_iinc {i : Nat} {d x : Int} {ls' : List AV} (hd : dcd Y.2.1 pc = some (.iinc i d, n2)) (hn : n2 = pc + 3) (hx : ls[i]? = some (0, x)) (he : st1 ls i (0, w32 (x + d)) = ls') (k : GG X Y I R n2 ls' st n h T) : GG X Y I R pc ls st n h T := by
  subst hn; subst he
  intro p l e0 s m args below meth c H locs cells slots Q D ad aC A base lsm C hW hL hn hc1 hc2 ret
  have hlt : i < ls.length := (List.getElem?_eq_some_iff.mp hx).1
  have hm : (i, av ad (0, x)) ∈ asl ad ls := asl_mem.mpr ⟨(0, x), hx, Nat.le_of_ble_eq_true rfl, rfl⟩
  obtain ⟨q, hq⟩ := List.getElem?_of_mem hm
  refine lv_iinc (k := q) (v := Int32.ofInt (w32 (x + d))) C.1.1 C.1.2.1 (dcd1 hd rfl) hL.has hq (n_add x d) (by have := hL.2.2.1; omega) rfl (fun ls' hl' => ?_)
  exact k p l e0 s m args below meth c H locs cells slots Q D ad aC A base ls' C hW (LcR_st1 (v := (0, w32 (x + d))) hL (Nat.le_of_ble_eq_true rfl) hl') hn hc1 hc2 ret
end Grow
