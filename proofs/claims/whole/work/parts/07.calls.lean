/-! contracts of methods, and calls -/
def rmD (d : Nat) : Room := { frames := d, cells := 0, slots := 0, locals := 60 * d }
def QQi (Φ : Option AV → Mem → Prop) (D : va_G) (ad : Int → Nat) (aC : Nat → ClassId) (A : Nat → Prop) : Array Value → State → Outcome → State → Prop :=
  va_Qi (fun (r : Int32) (u : Int × Mem) => r = Int32.ofInt u.1 ∧ in32 u.1 ∧ Hok u.2 ∧ Φ (some (0, u.1)) u.2) (fun (u : Int × Mem) (T : State) => va_P D vwCl (wsOf SH ad aC u.2) T.heap) A
def QQl (Φ : Option AV → Mem → Prop) (D : va_G) (ad : Int → Nat) (aC : Nat → ClassId) (A : Nat → Prop) : Array Value → State → Outcome → State → Prop :=
  va_Ql (fun (r : Int64) (u : Int × Mem) => r = Int64.ofInt u.1 ∧ in64 u.1 ∧ Hok u.2 ∧ Φ (some (1, u.1)) u.2) (fun (u : Int × Mem) (T : State) => va_P D vwCl (wsOf SH ad aC u.2) T.heap) A
def QQv (Φ : Option AV → Mem → Prop) (D : va_G) (ad : Int → Nat) (aC : Nat → ClassId) (A : Nat → Prop) : Array Value → State → Outcome → State → Prop :=
  va_Qv (fun (u : Mem) => Hok u ∧ Φ none u) (fun (u : Mem) (T : State) => va_P D vwCl (wsOf SH ad aC u) T.heap) A
def QQ (t : Nat) : (Option AV → Mem → Prop) → va_G → (Int → Nat) → (Nat → ClassId) → (Nat → Prop) → Array Value → State → Outcome → State → Prop := match t with
  | 0 => QQi
  | 1 => QQl
  | _ => QQv
def PP (X : XS) (D : va_G) (ad : Int → Nat) (aC : Nat → ClassId) (h : Mem) (sz : Nat) (U : State) : Prop :=
  U.heap.size = sz ∧ va_P D vwCl (wsOf SH ad aC h) U.heap ∧ va_K D vwCl (tysL aC) U ∧ va_D (fun _ => True) (wsOf SH ad aC h) ∧ Cst X ad (va_A (wsOf SH ad aC h) sz) U U.heap
/-- a method's contract: t is the tag of what it answers (9: nothing), d how many frames it may need -/
def AM (X : XS) (y : MethodName) (Y : MD) (ret : Option FieldType) (t d : Nat) (vs : List AV) (h : Mem) (Φ : Option AV → Mem → Prop) : Prop :=
  Can vs → Hok h → ∀ (l : Launch) (D : va_G) (ad : Int → Nat) (aC : Nat → ClassId) (sz : Nat),
    Met l y (.code y Y.2.1 Y.2.2 ret :: gtb) (rmD d) (va_Pc (vs.map (av ad)) (PP X D ad aC h sz)) (QQ t Φ D ad aC (va_A (wsOf SH ad aC h) sz)) 0 0 (va_A (wsOf SH ad aC h) sz)
theorem imm.moved {ad : Int → Nat} {A : Nat → Prop} {u U : State} {H : Heap} {z : Int} {L : Nat} {xs : Nat → Int32} (hvm : u.vm.Alike U.vm) (h : imm ad A u H z L xs) : imm ad A U H z L xs := ⟨h.1.moved hvm, h.2⟩
theorem imm.next {ad : Int → Nat} {A B : Nat → Prop} {U : State} {H H1 : Heap} {z : Int} {L : Nat} {xs : Nat → Int32} {locs : List Loc} (h : imm ad A U H z L xs) (hS : va_S A H H1 locs) (hAB : ∀ q, B q → A q) : imm ad B U H1 z L xs :=
  ⟨h.1.kept (hS.2.1 _ h.2.1 h.2.2), Nat.lt_of_lt_of_le h.2.1 hS.1, fun q => h.2.2 (hAB _ q)⟩
theorem CstF.moved {ad : Int → Nat} {A : Nat → Prop} {u U : State} {H : Heap} (hvm : u.vm.Alike U.vm) (h : CstF ad A u H) : CstF ad A U H := h.elim (fun q => Or.inl (q.moved hvm)) (fun q => Or.inr (q.moved hvm))
theorem CstF.next {ad : Int → Nat} {A B : Nat → Prop} {U : State} {H H1 : Heap} (h : CstF ad A U H) (hk : ∀ a : Nat, a < H.size → ¬ A a → H1[a]? = H[a]?) (hAB : ∀ q, B q → A q) : CstF ad B U H1 := h.elim (fun q => Or.inl ((q.kept hk).narrow hAB)) (fun q => Or.inr ((q.kept hk).narrow hAB))
theorem Cst.mov {X : XS} {ad : Int → Nat} {A : Nat → Prop} {u U : State} {H : Heap} (hvm : u.vm.Alike U.vm) (hR : CstR ad U) (h : Cst X ad A u H) : Cst X ad A U H :=
  ⟨h.1.moved hvm, h.2.1.moved hvm, h.2.2.1.moved hvm, h.2.2.2.1.moved hvm, h.2.2.2.2.1.moved hvm, h.2.2.2.2.2.1.moved hvm, h.2.2.2.2.2.2.1.moved hvm, h.2.2.2.2.2.2.2.1.moved hvm, h.2.2.2.2.2.2.2.2.1.moved hvm, h.2.2.2.2.2.2.2.2.2.1.moved hvm, hR⟩
theorem Cst.cst {X : XS} {ad : Int → Nat} {A : Nat → Prop} {u : State} {H : Heap} (h : Cst X ad A u H) : CstR ad u := h.2.2.2.2.2.2.2.2.2.2
theorem Cst.warm {X : XS} {ad : Int → Nat} {A : Nat → Prop} {u U : State} {H : Heap} (hW : u.WarmedH U.vm) (h : Cst X ad A u H) : Cst X ad A U H := h.mov hW.alike (fun i hi => (h.cst i hi).warm hW)
theorem Cst.same {X : XS} {ad : Int → Nat} {A : Nat → Prop} {u U : State} {H : Heap} (hv : U.vm = u.vm) (h : Cst X ad A u H) : Cst X ad A U H := h.mov (by rw [hv]; exact Vm.Alike.refl u.vm) (fun i hi => (h.cst i hi).same hv)
theorem Cst.next {X : XS} {ad : Int → Nat} {A B : Nat → Prop} {U : State} {H H1 : Heap} {locs : List Loc} (h : Cst X ad A U H) (hS : va_S A H H1 locs) (hAB : ∀ q, B q → A q) : Cst X ad B U H1 :=
  have hk : ∀ a : Nat, a < H.size → ¬ A a → H1[a]? = H[a]? := hS.2.1
  ⟨h.1.next hS hAB, h.2.1.next hS hAB, h.2.2.1.next hS hAB, h.2.2.2.1.next hS hAB, (h.2.2.2.2.1.kept hk).narrow hAB, (h.2.2.2.2.2.1.kept hk).narrow hAB, (h.2.2.2.2.2.2.1.kept hk).narrow hAB, (h.2.2.2.2.2.2.2.1.kept hk).narrow hAB, h.2.2.2.2.2.2.2.2.1.next hk hAB, (h.2.2.2.2.2.2.2.2.2.1.kept hk).narrow hAB, h.cst⟩
theorem ws_fst {ad : Int → Nat} {aC : Nat → ClassId} {h : Mem} {k : Nat} {q : Nat × va_E} (hk : (wsOf SH ad aC h)[k]? = some q) (h' : Mem) : ∃ e, (wsOf SH ad aC h')[k]? = some (q.1, e) := by
  unfold wsOf at hk ⊢
  rw [List.getElem?_mapIdx] at hk ⊢
  cases hs : SH[k]? with
  | none => rw [hs] at hk; cases hk
  | some sp => rw [hs] at hk; cases hk; exact ⟨_, rfl⟩
theorem ws_D {ad : Int → Nat} {aC : Nat → ClassId} {A : Nat → Prop} {h : Mem} (hD : va_D A (wsOf SH ad aC h)) (h' : Mem) : va_D A (wsOf SH ad aC h') := by
  refine ⟨fun i j p q hi hj hpq => ?_, fun k q hk => ?_⟩
  · obtain ⟨e1, h1⟩ := ws_fst hi h
    obtain ⟨e2, h2⟩ := ws_fst hj h
    exact hD.1 i j _ _ h1 h2 hpq
  · obtain ⟨e1, h1⟩ := ws_fst hk h
    exact hD.2 k (q.1, e1) h1
/-- the locals at a method's entry -/
def entS (vs : List AV) : List AV := vs.flatMap (fun v => if v.1 = 1 then [v, (3, 0)] else [v])
def entL (vs : List AV) (n : Nat) : List AV := entS vs ++ List.replicate (n - (entS vs).length) (3, 0)
theorem ent_len (ad : Int → Nat) : ∀ vs : List AV, (lg_sl (vs.map (av ad))).length = (entS vs).length
  | [] => rfl
  | v :: vs => by
    have ih := ent_len ad vs
    unfold lg_sl entS at ih ⊢
    rw [List.map_cons, List.flatMap_cons, List.flatMap_cons, List.length_append, List.length_append, ih, av_cat]
    by_cases hv : v.1 = 1
    · simp [hv]
    · simp [hv]
theorem ent_at (ad : Int → Nat) : ∀ (vs : List AV) (k i : Nat) (v : AV), (entS vs)[i]? = some v → v.1 ≤ 2 → (k + i, av ad v) ∈ lv_args k (vs.map (av ad))
  | [], k, i, v, h, _ => by simp [entS] at h
  | w :: vs, k, i, v, h, hv => by
    have ih := ent_at ad vs
    unfold entS at h ih
    rw [List.flatMap_cons] at h
    rw [List.map_cons, lv_args, av_cat]
    by_cases hw : w.1 = 1
    · rw [if_pos hw] at h
      simp only [hw, if_true]
      match i, h with
      | 0, h => simp at h; subst h; exact List.mem_cons_self
      | 1, h => simp at h; subst h; exact absurd hv (by decide)
      | i + 2, h =>
        have := ih (k + 2) i v (by simpa using h) hv
        rw [show k + 2 + i = k + (i + 2) by omega] at this
        exact List.mem_cons_of_mem _ this
    · rw [if_neg hw] at h
      simp only [hw, if_false]
      match i, h with
      | 0, h => simp at h; subst h; exact List.mem_cons_self
      | i + 1, h =>
        have := ih (k + 1) i v (by simpa using h) hv
        rw [show k + 1 + i = k + (i + 1) by omega] at this
        exact List.mem_cons_of_mem _ (by simpa using this)
theorem ent_loc {ad : Int → Nat} {vs : List AV} {n : Nat} (hn : (entS vs).length ≤ n) :
    LcR ad ((lg_sl (vs.map (av ad)) ++ List.replicate (n - (lg_sl (vs.map (av ad))).length) Slot.unset).toArray) n (entL vs n) := by
  have h := lv_entry (vs.map (av ad)) (n := n) (by rw [ent_len]; exact hn)
  refine ⟨h.1, h.2.1, by unfold entL; rw [List.length_append, List.length_replicate]; omega, fun i v hi hv => ?_⟩
  unfold entL at hi
  by_cases hl : i < (entS vs).length
  · rw [List.getElem?_append_left hl] at hi
    have := ent_at ad vs 0 i v hi hv
    rw [Nat.zero_add] at this
    exact h.2.2 _ this
  · rw [List.getElem?_append_right (by omega)] at hi
    have := List.mem_replicate.mp (List.mem_of_getElem? hi)
    rw [this.2] at hv
    exact absurd hv (by decide)
theorem ent_can {vs : List AV} {n : Nat} (h : Can vs) : Can (entL vs n) := by
  intro v hv
  unfold entL entS at hv
  rcases List.mem_append.mp hv with hv | hv
  · obtain ⟨w, hw, hm⟩ := List.mem_flatMap.mp hv
    split at hm
    · simp at hm
      rcases hm with rfl | rfl
      · exact h _ hw
      · exact ⟨fun q => (by cases q), fun q => (by cases q)⟩
    · simp at hm; subst hm; exact h _ hw
  · rw [(List.mem_replicate.mp hv).2]
    exact ⟨fun q => (by cases q), fun q => (by cases q)⟩
/-- a contract out of a walk -/
theorem AM.of {X : XS} {y : MethodName} {Y : MD} {ret : Option FieldType} {t d : Nat} {vs : List AV} {h : Mem} {Φ : Option AV → Mem → Prop} (hy : plainName y.cls = true) (hY : Y.1 = y.cls) (hn : (entS vs).length ≤ Y.2.2)
    (hr : (t = 0 ∧ ∃ ty, ret = some ty ∧ ∀ r h', Φ r h' → ∃ z, r = some (0, z) ∧ narrow ty (.int (Int32.ofInt z)) = .int (Int32.ofInt z)) ∨ (t = 1 ∧ ret = some .long ∧ ∀ r h', Φ r h' → ∃ z, r = some (1, z)) ∨ (t = 9 ∧ ret = none ∧ ∀ r h', Φ r h' → r = none))
    (k : AJ X Y (rmD d) 0 (entL vs Y.2.2) [] h Φ) : AM X y Y ret t d vs h Φ := by
  intro hc hh l D ad aC sz
  refine Met.ofW (cc := Y.2.1) (maxL := Y.2.2) (ret := ret) hy rfl ?_
  intro p e s m args below meth c s₁ B hml hv
  obtain ⟨rfl, hsz, hP, hK, hD0, hC⟩ := hv
  have hts := atoms_spec (ws := .code y Y.2.1 Y.2.2 ret :: gtb) B.pre
  have hown : s.vm.findClass Y.1 = some m.cls := by rw [hY]; exact findClass_of_methodNamed B.named
  have hlocks := B.notSynchronized
  have hrt := B.returns
  subst hsz
  have hD := hD0.self (sz := s.heap.size)
  rw [lg_entry_eq]
  refine k p l e s m _ below meth c s.heap [] 0 0 _ D ad aC (va_A (wsOf SH ad aC h) s.heap.size) _ ⟨B.exec, B.bytes, hml, hown, fun w hw => hts w (List.mem_cons_of_mem _ hw), hK, fun q hq => Or.inr hq, hC⟩ hP hD va_S.rf (ent_loc hn) (ent_can hc) Can.nil hh (Nat.zero_le _) (Nat.zero_le _) ?_
  intro r h' H' locs' lsm' pc' hΦ ho hcr hP' hD' hS' hret
  rcases hr with ⟨rfl, ty, rfl, hr⟩ | ⟨rfl, rfl, hr⟩ | ⟨rfl, rfl, hr⟩
  · obtain ⟨z, rfl, hnw⟩ := hr r h' hΦ
    exact W.zret B.exec B.bytes hrt hnw (fun T hT _ => ⟨⟨Int32.ofInt z, (z, h'), rfl, ⟨rfl, hcr.i1, ho, hΦ⟩, by subst hT; exact hP'⟩, hS'.F hT⟩) hS'.2.2 hret
  · obtain ⟨z, rfl⟩ := hr r h' hΦ
    exact W.lret B.exec B.bytes hrt (fun T hT _ => ⟨⟨Int64.ofInt z, (z, h'), rfl, ⟨rfl, hcr.l1, ho, hΦ⟩, by subst hT; exact hP'⟩, hS'.F hT⟩) hS'.2.2 hret
  · have := hr r h' hΦ
    subst this
    exact W.vret B.exec B.bytes hrt (fun T hT _ => ⟨⟨h', rfl, ⟨ho, hΦ⟩, by subst hT; exact hP'⟩, hS'.F hT⟩) hS'.2.2 hret
theorem gtb_good {y : MethodName} {b : ByteArray} {nl : Nat} {ret : Option FieldType} (hc : Cond.code y b nl ret ∈ gtb) : GoodIn gtb (.code y b nl ret :: gtb) := by
  intro w hw
  have hm : w ∈ gtb := by
    rcases List.mem_cons.mp hw with rfl | hw
    · exact hc
    · exact hw
  exact ⟨hm, good_of_word (List.mem_filter.mp hm).2⟩
def cats (st : List AV) : Nat := (st.map (fun v => if v.1 = 1 then 2 else 1)).sum
theorem cats_eq (ad : Int → Nat) (st : List AV) : ((st.map (av ad)).map fun v => v.category).sum = cats st := by
  unfold cats
  rw [List.map_map]
  refine congrArg List.sum (List.map_congr_left (fun v _ => ?_))
  exact av_cat ad v
section CallsQ
variable {X : XS} {Y : MD} {R : Room} {pc n : Nat} {ls st : List AV} {h : Mem} {Φ : Option AV → Mem → Prop}
theorem q_callVi {ci NN : Nat} {TT : u_T} {r0 : Int} {idx d : Nat} {y : MethodName} {Yc : MD} {ret : Option FieldType} {vs st0 : List AV} {Ψ : Option AV → Mem → Prop} (hd : dcd Y.2.1 pc = some (.invokevirtual idx, n)) (hn : n = pc + 3) (hM : AM X y Yc ret 0 d ((2, r0) :: vs) h Ψ) (hl : Cond.methodLink Y.1 idx y ∈ gtb) (hinst : Cond.instanceMethod y ∈ gtb) (hsel : Cond.selects y.cls y y ∈ gtb) (hini : Cond.initialized y.cls ∈ gtb) (hcode : Cond.code y Yc.2.1 Yc.2.2 ret ∈ gtb)
    (hp : decide (y.cls ≠ "java/lang/invoke/MethodHandle" ∧ y.cls ≠ "java/lang/invoke/VarHandle" ∧ (parseMethodDescriptor y.desc).map (fun d => d.parameters.length) = some vs.length) = true) (hm : decide (Yc.2.2 ≤ 41 ∧ cats st ≤ 8) = true) (hR : d + 1 ≤ R.frames ∧ 60 * (d + 1) ≤ R.locals) (hcl : vwCl[ci]? = some (y.cls, TT, NN)) (ho : okO ci r0 = true) (hst : st0 = vs.reverse ++ (2, r0) :: st)
    (kk : ∀ (z : Int) (h' : Mem), Ψ (some (0, z)) h' → AJ X Y R n ls ((0, z) :: st) h' Φ) : AJ X Y R pc ls st0 h Φ := by
  subst hn; subst hst
  intro p l e s m args below meth c H locs cells slots Q D ad aC A lsm C0 hP hD hS hL cl cs hh hc1 hc2 ret0
  have hp := of_decide_eq_true hp
  have hm := of_decide_eq_true hm
  obtain ⟨hs, hci⟩ := okO_N ho hcl
  have hr1 := (shp_at hs).1
  have hcv : Can ((2, r0) :: vs) := Can.r (fun v hv => cs v (List.mem_append_left _ (List.mem_reverse.mpr hv)))
  have hcst : Can st := fun v hv => cs v (List.mem_append_right _ (List.mem_cons_of_mem _ hv))
  have hFc : ∀ q, va_A (wsOf SH ad aC h) H.size q → A q := by
    intro q hq
    rcases hq with ⟨k, e1, hk⟩ | hq
    · exact hD.2 k _ hk
    · exact C0.2.2.2.2.2.2.1 q (Nat.le_trans hS.1 hq)
  have hM := hM hcv hh l D ad aC H.size
  have hcellr : (wsOf SH ad aC h)[(r0 - 1).toNat]? = some (ad r0, .inr (ci, (List.range NN).map (fun j => av ad (ftag (fty ci j), h r0 j)))) := by
    rw [ws_at hs]; unfold cellE; rw [if_pos hci]
  have hroom : 2 * (F0 m pc lsm ((vs.reverse ++ (2, r0) :: st).map (av ad))).monitorRoom + ((st.map (av ad)).map fun v => v.category).sum ≤ 8 := lv_room (by rw [cats_eq]; exact hm.2)
  refine va_calli (a := _) (va_runV (As := vs.map (av ad)) (rest := st.map (av ad)) (b := ad r0) ⟨C0.1, C0.2.1, C0.2.2.1, C0.2.2.2.1, C0.2.2.2.2.1⟩ hM ⟨callB_of (ws' := gtb) vs.length C0.2.2.2.2.1 (gtb_good hcode) rfl rfl rfl (C0.2.2.2.2.1 _ hini) (C0.2.2.2.2.1 _ hl) hp ⟨hR.1, by show 8 + (Yc.2.2 + 11) + 60 * d ≤ R.locals; omega⟩, C0.2.2.2.2.1 _ hinst, C0.2.2.2.2.1 _ hsel⟩ ⟨fun a U g mk q => ⟨q.1, q.2.1, q.2.2.1, va_K.moved (u := U) (U := U.calling g mk a) (Vm.Alike.refl U.vm) q.2.2.2.1, q.2.2.2.2.1, Cst.same (u := U) (U := U.calling g mk a) rfl q.2.2.2.2.2⟩, va_recv C0.2.2.2.2.2.1 hP hcl (q0 := (r0 - 1).toNat) hcellr, fun U hU hW => ⟨by rw [List.map_cons, av_ref hr1], by rw [hU], by rw [hU]; exact hP, va_K.moved hW.alike C0.2.2.2.2.2.1, hD.weaken (fun _ _ _ _ => trivial), by rw [hU]; exact (C0.2.2.2.2.2.2.2.next hS hFc).warm hW⟩⟩ rfl (List.length_map _) hL.1 (by rw [List.map_append, List.map_cons, List.map_reverse, av_ref hr1]) hroom (dcd1 hd rfl) ⟨hc1, hc2⟩) hS (fun q _ hq => hFc q hq) hFc (fun r u T H1 locs1 hT hvm hpost hB hz1 hk1 hS1 => ?_)
  obtain ⟨z, h1⟩ := u
  obtain ⟨rfl, hz, ho1, hΨ⟩ := hpost
  rw [hT] at hB
  exact kk z h1 hΨ p l e s m args below meth c H1 locs1 cells slots Q D ad aC A lsm C0 hB (ws_D hD _) hS1 hL cl (hcst.i hz) ho1 hc1 hc2 ret0
theorem q_callSi {idx d : Nat} {y : MethodName} {Yc : MD} {ret : Option FieldType} {vs st0 : List AV} {Ψ : Option AV → Mem → Prop} (hd : dcd Y.2.1 pc = some (.invokestatic idx, n)) (hn : n = pc + 3) (hM : AM X y Yc ret 0 d vs h Ψ) (hl : Cond.methodLink Y.1 idx y ∈ gtb) (hinst : Cond.static y ∈ gtb) (hini : Cond.initialized y.cls ∈ gtb) (hcode : Cond.code y Yc.2.1 Yc.2.2 ret ∈ gtb)
    (hp : decide (y.cls ≠ "java/lang/invoke/MethodHandle" ∧ y.cls ≠ "java/lang/invoke/VarHandle" ∧ (parseMethodDescriptor y.desc).map (fun d => d.parameters.length) = some vs.length) = true) (hm : decide (Yc.2.2 ≤ 41 ∧ cats st ≤ 8) = true) (hR : d + 1 ≤ R.frames ∧ 60 * (d + 1) ≤ R.locals) (hst : st0 = vs.reverse ++ st)
    (kk : ∀ (z : Int) (h' : Mem), Ψ (some (0, z)) h' → AJ X Y R n ls ((0, z) :: st) h' Φ) : AJ X Y R pc ls st0 h Φ := by
  subst hn; subst hst
  intro p l e s m args below meth c H locs cells slots Q D ad aC A lsm C0 hP hD hS hL cl cs hh hc1 hc2 ret0
  have hp := of_decide_eq_true hp
  have hm := of_decide_eq_true hm
  have hcv : Can vs := fun v hv => cs v (List.mem_append_left _ (List.mem_reverse.mpr hv))
  have hcst : Can st := fun v hv => cs v (List.mem_append_right _ hv)
  have hFc : ∀ q, va_A (wsOf SH ad aC h) H.size q → A q := by
    intro q hq
    rcases hq with ⟨k, e1, hk⟩ | hq
    · exact hD.2 k _ hk
    · exact C0.2.2.2.2.2.2.1 q (Nat.le_trans hS.1 hq)
  have hM := hM hcv hh l D ad aC H.size
  have hroom : 2 * (F0 m pc lsm ((vs.reverse ++ st).map (av ad))).monitorRoom + ((st.map (av ad)).map fun v => v.category).sum ≤ 8 := lv_room (by rw [cats_eq]; exact hm.2)
  refine va_calli (a := _) (va_runS (As := vs.map (av ad)) (rest := st.map (av ad)) ⟨C0.1, C0.2.1, C0.2.2.1, C0.2.2.2.1, C0.2.2.2.2.1⟩ hM ⟨callB_of (ws' := gtb) vs.length C0.2.2.2.2.1 (gtb_good hcode) rfl rfl rfl (C0.2.2.2.2.1 _ hini) (C0.2.2.2.2.1 _ hl) hp ⟨hR.1, by show 8 + (Yc.2.2 + 11) + 60 * d ≤ R.locals; omega⟩, C0.2.2.2.2.1 _ hinst⟩ ⟨fun a U g mk q => ⟨q.1, q.2.1, q.2.2.1, va_K.moved (u := U) (U := U.calling g mk a) (Vm.Alike.refl U.vm) q.2.2.2.1, q.2.2.2.2.1, Cst.same (u := U) (U := U.calling g mk a) rfl q.2.2.2.2.2⟩, fun U hU hW => ⟨rfl, by rw [hU], by rw [hU]; exact hP, va_K.moved hW.alike C0.2.2.2.2.2.1, hD.weaken (fun _ _ _ _ => trivial), by rw [hU]; exact (C0.2.2.2.2.2.2.2.next hS hFc).warm hW⟩⟩ rfl (List.length_map _) hL.1 (by rw [List.map_append, List.map_reverse]) hroom (dcd1 hd rfl) ⟨hc1, hc2⟩) hS (fun q _ hq => hFc q hq) hFc (fun r u T H1 locs1 hT hvm hpost hB hz1 hk1 hS1 => ?_)
  obtain ⟨z, h1⟩ := u
  obtain ⟨rfl, hz, ho1, hΨ⟩ := hpost
  rw [hT] at hB
  exact kk z h1 hΨ p l e s m args below meth c H1 locs1 cells slots Q D ad aC A lsm C0 hB (ws_D hD _) hS1 hL cl (hcst.i hz) ho1 hc1 hc2 ret0
theorem q_callVl {ci NN : Nat} {TT : u_T} {r0 : Int} {idx d : Nat} {y : MethodName} {Yc : MD} {ret : Option FieldType} {vs st0 : List AV} {Ψ : Option AV → Mem → Prop} (hd : dcd Y.2.1 pc = some (.invokevirtual idx, n)) (hn : n = pc + 3) (hM : AM X y Yc ret 1 d ((2, r0) :: vs) h Ψ) (hl : Cond.methodLink Y.1 idx y ∈ gtb) (hinst : Cond.instanceMethod y ∈ gtb) (hsel : Cond.selects y.cls y y ∈ gtb) (hini : Cond.initialized y.cls ∈ gtb) (hcode : Cond.code y Yc.2.1 Yc.2.2 ret ∈ gtb)
    (hp : decide (y.cls ≠ "java/lang/invoke/MethodHandle" ∧ y.cls ≠ "java/lang/invoke/VarHandle" ∧ (parseMethodDescriptor y.desc).map (fun d => d.parameters.length) = some vs.length) = true) (hm : decide (Yc.2.2 ≤ 41 ∧ cats st ≤ 8) = true) (hR : d + 1 ≤ R.frames ∧ 60 * (d + 1) ≤ R.locals) (hcl : vwCl[ci]? = some (y.cls, TT, NN)) (ho : okO ci r0 = true) (hst : st0 = vs.reverse ++ (2, r0) :: st)
    (kk : ∀ (z : Int) (h' : Mem), Ψ (some (1, z)) h' → AJ X Y R n ls ((1, z) :: st) h' Φ) : AJ X Y R pc ls st0 h Φ := by
  subst hn; subst hst
  intro p l e s m args below meth c H locs cells slots Q D ad aC A lsm C0 hP hD hS hL cl cs hh hc1 hc2 ret0
  have hp := of_decide_eq_true hp
  have hm := of_decide_eq_true hm
  obtain ⟨hs, hci⟩ := okO_N ho hcl
  have hr1 := (shp_at hs).1
  have hcv : Can ((2, r0) :: vs) := Can.r (fun v hv => cs v (List.mem_append_left _ (List.mem_reverse.mpr hv)))
  have hcst : Can st := fun v hv => cs v (List.mem_append_right _ (List.mem_cons_of_mem _ hv))
  have hFc : ∀ q, va_A (wsOf SH ad aC h) H.size q → A q := by
    intro q hq
    rcases hq with ⟨k, e1, hk⟩ | hq
    · exact hD.2 k _ hk
    · exact C0.2.2.2.2.2.2.1 q (Nat.le_trans hS.1 hq)
  have hM := hM hcv hh l D ad aC H.size
  have hcellr : (wsOf SH ad aC h)[(r0 - 1).toNat]? = some (ad r0, .inr (ci, (List.range NN).map (fun j => av ad (ftag (fty ci j), h r0 j)))) := by
    rw [ws_at hs]; unfold cellE; rw [if_pos hci]
  have hroom : 2 * (F0 m pc lsm ((vs.reverse ++ (2, r0) :: st).map (av ad))).monitorRoom + ((st.map (av ad)).map fun v => v.category).sum ≤ 8 := lv_room (by rw [cats_eq]; exact hm.2)
  refine va_calll (a := _) (va_runV (As := vs.map (av ad)) (rest := st.map (av ad)) (b := ad r0) ⟨C0.1, C0.2.1, C0.2.2.1, C0.2.2.2.1, C0.2.2.2.2.1⟩ hM ⟨callB_of (ws' := gtb) vs.length C0.2.2.2.2.1 (gtb_good hcode) rfl rfl rfl (C0.2.2.2.2.1 _ hini) (C0.2.2.2.2.1 _ hl) hp ⟨hR.1, by show 8 + (Yc.2.2 + 11) + 60 * d ≤ R.locals; omega⟩, C0.2.2.2.2.1 _ hinst, C0.2.2.2.2.1 _ hsel⟩ ⟨fun a U g mk q => ⟨q.1, q.2.1, q.2.2.1, va_K.moved (u := U) (U := U.calling g mk a) (Vm.Alike.refl U.vm) q.2.2.2.1, q.2.2.2.2.1, Cst.same (u := U) (U := U.calling g mk a) rfl q.2.2.2.2.2⟩, va_recv C0.2.2.2.2.2.1 hP hcl (q0 := (r0 - 1).toNat) hcellr, fun U hU hW => ⟨by rw [List.map_cons, av_ref hr1], by rw [hU], by rw [hU]; exact hP, va_K.moved hW.alike C0.2.2.2.2.2.1, hD.weaken (fun _ _ _ _ => trivial), by rw [hU]; exact (C0.2.2.2.2.2.2.2.next hS hFc).warm hW⟩⟩ rfl (List.length_map _) hL.1 (by rw [List.map_append, List.map_cons, List.map_reverse, av_ref hr1]) hroom (dcd1 hd rfl) ⟨hc1, hc2⟩) hS (fun q _ hq => hFc q hq) hFc (fun r u T H1 locs1 hT hvm hpost hB hz1 hk1 hS1 => ?_)
  obtain ⟨z, h1⟩ := u
  obtain ⟨rfl, hz, ho1, hΨ⟩ := hpost
  rw [hT] at hB
  exact kk z h1 hΨ p l e s m args below meth c H1 locs1 cells slots Q D ad aC A lsm C0 hB (ws_D hD _) hS1 hL cl (hcst.l hz) ho1 hc1 hc2 ret0
theorem q_callSl {idx d : Nat} {y : MethodName} {Yc : MD} {ret : Option FieldType} {vs st0 : List AV} {Ψ : Option AV → Mem → Prop} (hd : dcd Y.2.1 pc = some (.invokestatic idx, n)) (hn : n = pc + 3) (hM : AM X y Yc ret 1 d vs h Ψ) (hl : Cond.methodLink Y.1 idx y ∈ gtb) (hinst : Cond.static y ∈ gtb) (hini : Cond.initialized y.cls ∈ gtb) (hcode : Cond.code y Yc.2.1 Yc.2.2 ret ∈ gtb)
    (hp : decide (y.cls ≠ "java/lang/invoke/MethodHandle" ∧ y.cls ≠ "java/lang/invoke/VarHandle" ∧ (parseMethodDescriptor y.desc).map (fun d => d.parameters.length) = some vs.length) = true) (hm : decide (Yc.2.2 ≤ 41 ∧ cats st ≤ 8) = true) (hR : d + 1 ≤ R.frames ∧ 60 * (d + 1) ≤ R.locals) (hst : st0 = vs.reverse ++ st)
    (kk : ∀ (z : Int) (h' : Mem), Ψ (some (1, z)) h' → AJ X Y R n ls ((1, z) :: st) h' Φ) : AJ X Y R pc ls st0 h Φ := by
  subst hn; subst hst
  intro p l e s m args below meth c H locs cells slots Q D ad aC A lsm C0 hP hD hS hL cl cs hh hc1 hc2 ret0
  have hp := of_decide_eq_true hp
  have hm := of_decide_eq_true hm
  have hcv : Can vs := fun v hv => cs v (List.mem_append_left _ (List.mem_reverse.mpr hv))
  have hcst : Can st := fun v hv => cs v (List.mem_append_right _ hv)
  have hFc : ∀ q, va_A (wsOf SH ad aC h) H.size q → A q := by
    intro q hq
    rcases hq with ⟨k, e1, hk⟩ | hq
    · exact hD.2 k _ hk
    · exact C0.2.2.2.2.2.2.1 q (Nat.le_trans hS.1 hq)
  have hM := hM hcv hh l D ad aC H.size
  have hroom : 2 * (F0 m pc lsm ((vs.reverse ++ st).map (av ad))).monitorRoom + ((st.map (av ad)).map fun v => v.category).sum ≤ 8 := lv_room (by rw [cats_eq]; exact hm.2)
  refine va_calll (a := _) (va_runS (As := vs.map (av ad)) (rest := st.map (av ad)) ⟨C0.1, C0.2.1, C0.2.2.1, C0.2.2.2.1, C0.2.2.2.2.1⟩ hM ⟨callB_of (ws' := gtb) vs.length C0.2.2.2.2.1 (gtb_good hcode) rfl rfl rfl (C0.2.2.2.2.1 _ hini) (C0.2.2.2.2.1 _ hl) hp ⟨hR.1, by show 8 + (Yc.2.2 + 11) + 60 * d ≤ R.locals; omega⟩, C0.2.2.2.2.1 _ hinst⟩ ⟨fun a U g mk q => ⟨q.1, q.2.1, q.2.2.1, va_K.moved (u := U) (U := U.calling g mk a) (Vm.Alike.refl U.vm) q.2.2.2.1, q.2.2.2.2.1, Cst.same (u := U) (U := U.calling g mk a) rfl q.2.2.2.2.2⟩, fun U hU hW => ⟨rfl, by rw [hU], by rw [hU]; exact hP, va_K.moved hW.alike C0.2.2.2.2.2.1, hD.weaken (fun _ _ _ _ => trivial), by rw [hU]; exact (C0.2.2.2.2.2.2.2.next hS hFc).warm hW⟩⟩ rfl (List.length_map _) hL.1 (by rw [List.map_append, List.map_reverse]) hroom (dcd1 hd rfl) ⟨hc1, hc2⟩) hS (fun q _ hq => hFc q hq) hFc (fun r u T H1 locs1 hT hvm hpost hB hz1 hk1 hS1 => ?_)
  obtain ⟨z, h1⟩ := u
  obtain ⟨rfl, hz, ho1, hΨ⟩ := hpost
  rw [hT] at hB
  exact kk z h1 hΨ p l e s m args below meth c H1 locs1 cells slots Q D ad aC A lsm C0 hB (ws_D hD _) hS1 hL cl (hcst.l hz) ho1 hc1 hc2 ret0
theorem q_callVv {ci NN : Nat} {TT : u_T} {r0 : Int} {idx d : Nat} {y : MethodName} {Yc : MD} {ret : Option FieldType} {vs st0 : List AV} {Ψ : Option AV → Mem → Prop} (hd : dcd Y.2.1 pc = some (.invokevirtual idx, n)) (hn : n = pc + 3) (hM : AM X y Yc ret 9 d ((2, r0) :: vs) h Ψ) (hl : Cond.methodLink Y.1 idx y ∈ gtb) (hinst : Cond.instanceMethod y ∈ gtb) (hsel : Cond.selects y.cls y y ∈ gtb) (hini : Cond.initialized y.cls ∈ gtb) (hcode : Cond.code y Yc.2.1 Yc.2.2 ret ∈ gtb)
    (hp : decide (y.cls ≠ "java/lang/invoke/MethodHandle" ∧ y.cls ≠ "java/lang/invoke/VarHandle" ∧ (parseMethodDescriptor y.desc).map (fun d => d.parameters.length) = some vs.length) = true) (hm : decide (Yc.2.2 ≤ 41 ∧ cats st ≤ 8) = true) (hR : d + 1 ≤ R.frames ∧ 60 * (d + 1) ≤ R.locals) (hcl : vwCl[ci]? = some (y.cls, TT, NN)) (ho : okO ci r0 = true) (hst : st0 = vs.reverse ++ (2, r0) :: st)
    (kk : ∀ (h' : Mem), Ψ none h' → AJ X Y R n ls st h' Φ) : AJ X Y R pc ls st0 h Φ := by
  subst hn; subst hst
  intro p l e s m args below meth c H locs cells slots Q D ad aC A lsm C0 hP hD hS hL cl cs hh hc1 hc2 ret0
  have hp := of_decide_eq_true hp
  have hm := of_decide_eq_true hm
  obtain ⟨hs, hci⟩ := okO_N ho hcl
  have hr1 := (shp_at hs).1
  have hcv : Can ((2, r0) :: vs) := Can.r (fun v hv => cs v (List.mem_append_left _ (List.mem_reverse.mpr hv)))
  have hcst : Can st := fun v hv => cs v (List.mem_append_right _ (List.mem_cons_of_mem _ hv))
  have hFc : ∀ q, va_A (wsOf SH ad aC h) H.size q → A q := by
    intro q hq
    rcases hq with ⟨k, e1, hk⟩ | hq
    · exact hD.2 k _ hk
    · exact C0.2.2.2.2.2.2.1 q (Nat.le_trans hS.1 hq)
  have hM := hM hcv hh l D ad aC H.size
  have hcellr : (wsOf SH ad aC h)[(r0 - 1).toNat]? = some (ad r0, .inr (ci, (List.range NN).map (fun j => av ad (ftag (fty ci j), h r0 j)))) := by
    rw [ws_at hs]; unfold cellE; rw [if_pos hci]
  have hroom : 2 * (F0 m pc lsm ((vs.reverse ++ (2, r0) :: st).map (av ad))).monitorRoom + ((st.map (av ad)).map fun v => v.category).sum ≤ 8 := lv_room (by rw [cats_eq]; exact hm.2)
  refine va_callv (a := _) (va_runV (As := vs.map (av ad)) (rest := st.map (av ad)) (b := ad r0) ⟨C0.1, C0.2.1, C0.2.2.1, C0.2.2.2.1, C0.2.2.2.2.1⟩ hM ⟨callB_of (ws' := gtb) vs.length C0.2.2.2.2.1 (gtb_good hcode) rfl rfl rfl (C0.2.2.2.2.1 _ hini) (C0.2.2.2.2.1 _ hl) hp ⟨hR.1, by show 8 + (Yc.2.2 + 11) + 60 * d ≤ R.locals; omega⟩, C0.2.2.2.2.1 _ hinst, C0.2.2.2.2.1 _ hsel⟩ ⟨fun a U g mk q => ⟨q.1, q.2.1, q.2.2.1, va_K.moved (u := U) (U := U.calling g mk a) (Vm.Alike.refl U.vm) q.2.2.2.1, q.2.2.2.2.1, Cst.same (u := U) (U := U.calling g mk a) rfl q.2.2.2.2.2⟩, va_recv C0.2.2.2.2.2.1 hP hcl (q0 := (r0 - 1).toNat) hcellr, fun U hU hW => ⟨by rw [List.map_cons, av_ref hr1], by rw [hU], by rw [hU]; exact hP, va_K.moved hW.alike C0.2.2.2.2.2.1, hD.weaken (fun _ _ _ _ => trivial), by rw [hU]; exact (C0.2.2.2.2.2.2.2.next hS hFc).warm hW⟩⟩ rfl (List.length_map _) hL.1 (by rw [List.map_append, List.map_cons, List.map_reverse, av_ref hr1]) hroom (dcd1 hd rfl) ⟨hc1, hc2⟩) hS (fun q _ hq => hFc q hq) hFc (fun u T H1 locs1 hT hvm hpost hB hz1 hk1 hS1 => ?_)
  obtain ⟨ho1, hΨ⟩ := hpost
  rw [hT] at hB
  exact kk u hΨ p l e s m args below meth c H1 locs1 cells slots Q D ad aC A lsm C0 hB (ws_D hD _) hS1 hL cl hcst ho1 hc1 hc2 ret0
theorem q_callSv {idx d : Nat} {y : MethodName} {Yc : MD} {ret : Option FieldType} {vs st0 : List AV} {Ψ : Option AV → Mem → Prop} (hd : dcd Y.2.1 pc = some (.invokestatic idx, n)) (hn : n = pc + 3) (hM : AM X y Yc ret 9 d vs h Ψ) (hl : Cond.methodLink Y.1 idx y ∈ gtb) (hinst : Cond.static y ∈ gtb) (hini : Cond.initialized y.cls ∈ gtb) (hcode : Cond.code y Yc.2.1 Yc.2.2 ret ∈ gtb)
    (hp : decide (y.cls ≠ "java/lang/invoke/MethodHandle" ∧ y.cls ≠ "java/lang/invoke/VarHandle" ∧ (parseMethodDescriptor y.desc).map (fun d => d.parameters.length) = some vs.length) = true) (hm : decide (Yc.2.2 ≤ 41 ∧ cats st ≤ 8) = true) (hR : d + 1 ≤ R.frames ∧ 60 * (d + 1) ≤ R.locals) (hst : st0 = vs.reverse ++ st)
    (kk : ∀ (h' : Mem), Ψ none h' → AJ X Y R n ls st h' Φ) : AJ X Y R pc ls st0 h Φ := by
  subst hn; subst hst
  intro p l e s m args below meth c H locs cells slots Q D ad aC A lsm C0 hP hD hS hL cl cs hh hc1 hc2 ret0
  have hp := of_decide_eq_true hp
  have hm := of_decide_eq_true hm
  have hcv : Can vs := fun v hv => cs v (List.mem_append_left _ (List.mem_reverse.mpr hv))
  have hcst : Can st := fun v hv => cs v (List.mem_append_right _ hv)
  have hFc : ∀ q, va_A (wsOf SH ad aC h) H.size q → A q := by
    intro q hq
    rcases hq with ⟨k, e1, hk⟩ | hq
    · exact hD.2 k _ hk
    · exact C0.2.2.2.2.2.2.1 q (Nat.le_trans hS.1 hq)
  have hM := hM hcv hh l D ad aC H.size
  have hroom : 2 * (F0 m pc lsm ((vs.reverse ++ st).map (av ad))).monitorRoom + ((st.map (av ad)).map fun v => v.category).sum ≤ 8 := lv_room (by rw [cats_eq]; exact hm.2)
  refine va_callv (a := _) (va_runS (As := vs.map (av ad)) (rest := st.map (av ad)) ⟨C0.1, C0.2.1, C0.2.2.1, C0.2.2.2.1, C0.2.2.2.2.1⟩ hM ⟨callB_of (ws' := gtb) vs.length C0.2.2.2.2.1 (gtb_good hcode) rfl rfl rfl (C0.2.2.2.2.1 _ hini) (C0.2.2.2.2.1 _ hl) hp ⟨hR.1, by show 8 + (Yc.2.2 + 11) + 60 * d ≤ R.locals; omega⟩, C0.2.2.2.2.1 _ hinst⟩ ⟨fun a U g mk q => ⟨q.1, q.2.1, q.2.2.1, va_K.moved (u := U) (U := U.calling g mk a) (Vm.Alike.refl U.vm) q.2.2.2.1, q.2.2.2.2.1, Cst.same (u := U) (U := U.calling g mk a) rfl q.2.2.2.2.2⟩, fun U hU hW => ⟨rfl, by rw [hU], by rw [hU]; exact hP, va_K.moved hW.alike C0.2.2.2.2.2.1, hD.weaken (fun _ _ _ _ => trivial), by rw [hU]; exact (C0.2.2.2.2.2.2.2.next hS hFc).warm hW⟩⟩ rfl (List.length_map _) hL.1 (by rw [List.map_append, List.map_reverse]) hroom (dcd1 hd rfl) ⟨hc1, hc2⟩) hS (fun q _ hq => hFc q hq) hFc (fun u T H1 locs1 hT hvm hpost hB hz1 hk1 hS1 => ?_)
  obtain ⟨ho1, hΨ⟩ := hpost
  rw [hT] at hB
  exact kk u hΨ p l e s m args below meth c H1 locs1 cells slots Q D ad aC A lsm C0 hB (ws_D hD _) hS1 hL cl hcst ho1 hc1 hc2 ret0
end CallsQ
