/-! contracts of makers, and their calls -/
def rmG (d n n' : Nat) : Room := { frames := d, cells := n' - n, slots := SL n' - SL n, locals := 60 * d }
def GM (X : XS) (y : MethodName) (Y : MD) (d : Nat) (vs : List AV) (n n' : Nat) (h h' : Mem) : Prop :=
  ∀ (l : Launch) (D : va_G) (ad : Int → Nat) (aC : Nat → ClassId) (base : Nat), Ad ad base →
    Met l y (.code y Y.2.1 Y.2.2 none :: gtb) (rmG d n n') (va_Pc (vs.map (av ad)) (fun U => U.heap.size = base + n ∧ va_P D vwCl (wg n ad aC h) U.heap ∧ va_K D vwCl (tysL aC) U ∧ Cst X ad (fun q => base ≤ q) U U.heap ∧ Tf ad aC U.heap ∧ Nws U))
      (va_Qv (fun _ : Unit => True) (fun _ V => V.heap.size = base + n' ∧ va_P D vwCl (wg n' ad aC h') V.heap) (fun q => base ≤ q)) (n' - n) (SL n' - SL n) (fun q => base ≤ q)
theorem GM.of {X : XS} {y : MethodName} {Y : MD} {d pcE n n' : Nat} {vs lsE : List AV} {h h' : Mem} (hy : plainName y.cls = true) (hY : Y.1 = y.cls) (hi : y.name = "<init>") (hv : (entS vs).length ≤ Y.2.2) (hnn : n ≤ n') (hE : dcd Y.2.1 pcE = some (.return_, pcE + 1))
    (k : GG X Y true (rmG d n n') 0 (entL vs Y.2.2) [] n h (pcE, lsE, [], n', h')) : GM X y Y d vs n n' h h' := by
  intro l D ad aC base ha
  refine Met.ofW (cc := Y.2.1) (maxL := Y.2.2) (ret := none) hy rfl ?_
  intro p e s m args below meth c s₁ B hml hv0
  obtain ⟨rfl, hsz, hP, hK, hC, hTf, hNw⟩ := hv0
  have hts := atoms_spec (ws := .code y Y.2.1 Y.2.2 none :: gtb) B.pre
  have hown : s.vm.findClass Y.1 = some m.cls := by rw [hY]; exact findClass_of_methodNamed B.named
  have hlocks := B.notSynchronized
  have hrt := B.returns
  have hin : meth.name = "<init>" := by rw [← hi]; exact (name_of_methodNamed B.named B.method).1
  rw [lg_entry_eq]
  refine k p l e s m _ below meth c s.heap [] 0 0 _ D ad aC (fun q => base ≤ q) base _ ⟨⟨B.exec, B.bytes, hml, hown, fun w hw => hts w (List.mem_cons_of_mem _ hw), hK, fun q hq => by omega, hC⟩, fun _ => hin, ha, fun q hq => hq, hTf, hNw⟩ ⟨hP, hsz, va_S.rf⟩ (ent_loc hv) hnn (by show 0 + (n' - n) ≤ n' - n; omega) (by show 0 + (SL n' - SL n) ≤ SL n' - SL n; omega) ?_
  intro H' locs' lsm' hW hL
  dsimp only
  rw [Nat.zero_add, Nat.zero_add]
  exact W.vret B.exec B.bytes hrt (fun V hV _ => ⟨⟨(), rfl, trivial, by subst hV; exact ⟨hW.2.1, hW.1⟩⟩, hW.2.2.F hV⟩) hW.2.2.2.2 (dcd1 hE rfl)
section CallI
variable {X : XS} {Y : MD} {I : Bool} {R : Room} {pc n2 : Nat} {ls st : List AV} {n : Nat} {h : Mem} {T : TG}
theorem r_call {idx d n' : Nat} {y : MethodName} {Yc : MD} {vs st0 : List AV} {r0 : Int} {h' : Mem} (hd : dcd Y.2.1 pc = some (.invokespecial idx, n2)) (hn2 : n2 = pc + 3) (hM : GM X y Yc d ((2, r0) :: vs) n n' h h') (hy1 : y.name = "<init>") (hl : Cond.methodLink Y.1 idx y ∈ gtb) (hinst : Cond.instanceMethod y ∈ gtb) (hini : Cond.initialized y.cls ∈ gtb) (hcode : Cond.code y Yc.2.1 Yc.2.2 none ∈ gtb)
    (hp : decide (y.cls ≠ "java/lang/invoke/MethodHandle" ∧ y.cls ≠ "java/lang/invoke/VarHandle" ∧ (parseMethodDescriptor y.desc).map (fun d => d.parameters.length) = some vs.length) = true) (hm : decide (Yc.2.2 ≤ 41 ∧ cats st ≤ 8) = true) (hR : d + 1 ≤ R.frames ∧ 60 * (d + 1) ≤ R.locals) (hr0 : ¬ r0 = 0) (hst : st0 = vs.reverse ++ (2, r0) :: st) (hnn : n ≤ n') (hT : n' ≤ T.2.2.2.1)
    (kk : GG X Y I R n2 ls st n' h' T) : GG X Y I R pc ls st0 n h T := by
  subst hn2; subst hst
  intro p l e s m args below meth c H locs cells slots Q D ad aC A base lsm C0 hW hL hn hc1 hc2 ret
  have hp := of_decide_eq_true hp
  have hm := of_decide_eq_true hm
  have hM := hM l D ad aC base C0.2.2.1
  have er : av ad (2, r0) = .ref (ad r0) := if_neg hr0
  have hTf1 : Tf ad aC H := by
    obtain ⟨cell, t1, t2⟩ := C0.2.2.2.2.1
    have hi := C0.1.2.2.2.2.2.2.2.2.2.2.1
    exact ⟨cell, by rw [hW.2.2.2.1 _ hi.2.1 hi.2.2]; exact t1, t2⟩
  have s1 := SL_le hnn
  have s2 := SL_le hT
  have hroom : 2 * (F0 m pc lsm ((vs.reverse ++ (2, r0) :: st).map (av ad))).monitorRoom + ((st.map (av ad)).map fun v => v.category).sum ≤ 8 := lv_room (by rw [cats_eq]; exact hm.2)
  refine va_callv (a := _) (va_runI (As := vs.map (av ad)) (rest := st.map (av ad)) (b := ad r0) ⟨C0.1.1, C0.1.2.1, C0.1.2.2.1, C0.1.2.2.2.1, C0.1.2.2.2.2.1⟩ hM (cwI vs.length C0.1.2.2.2.2.1 (gtb_good hcode) rfl rfl rfl (C0.1.2.2.2.2.1 _ hini) (C0.1.2.2.2.2.1 _ hl) (C0.1.2.2.2.2.1 _ hinst) hy1 hp ⟨hR.1, by show 8 + (Yc.2.2 + 11) + 60 * d ≤ R.locals; omega⟩) ⟨fun a U g mk q => ⟨q.1, q.2.1, q.2.2.1, va_K.moved (u := U) (U := U.calling g mk a) (Vm.Alike.refl U.vm) q.2.2.2.1, Cst.same (u := U) (U := U.calling g mk a) rfl q.2.2.2.2.1, q.2.2.2.2.2.1, Nws.same (u := U) (U := U.calling g mk a) rfl q.2.2.2.2.2.2⟩, fun U hU hW1 => ⟨by rw [List.map_cons, er], by rw [hU]; exact hW.2.1, by rw [hU]; exact hW.1, va_K.moved hW1.alike C0.1.2.2.2.2.2.1, by rw [hU]; exact (C0.1.2.2.2.2.2.2.2.next hW.2.2 C0.2.2.2.1).warm hW1, by rw [hU]; exact hTf1, C0.2.2.2.2.2.warm hW1⟩⟩ rfl (List.length_map _) hL.1 (by rw [List.map_append, List.map_cons, List.map_reverse, er]) hroom (dcd1 hd rfl) ⟨by omega, by omega⟩) hW.2.2 (fun q _ hq => C0.2.2.2.1 q hq) C0.2.2.2.1 (fun u V H1 locs1 hV hvm hpost hB hz1 hk1 hS1 => ?_)
  rw [hV] at hB
  have e1 : cells + (n' - n) + (T.2.2.2.1 - n') = cells + (T.2.2.2.1 - n) := by omega
  have e2 : slots + (SL n' - SL n) + (SL T.2.2.2.1 - SL n') = slots + (SL T.2.2.2.1 - SL n) := by omega
  exact kk p l e s m args below meth c H1 locs1 _ _ Q D ad aC A base lsm C0 ⟨hB.2, hB.1, hS1⟩ hL hT (by omega) (by omega) (by rw [e1, e2]; exact ret)
theorem av_nz {ad : Int → Nat} {z : Int} (hz : ¬ z = 0) : av ad (2, z) = .ref (ad z) := if_neg hz
theorem r_gets (hd : dcd Y.2.1 pc = some (.getstatic 9, n2)) (hn : n2 = pc + 3) (hY : Y.1 = "NineActs$Show") (kk : GG X Y I R n2 ls ((2, -4) :: st) n h T) : GG X Y I R pc ls st n h T := by
  subst hn
  intro p l e s m args below meth c H locs cells slots Q D ad aC A base lsm C0 hW hL hn hc1 hc2 ret
  have K := kk p l e s m args below meth c H locs cells slots Q D ad aC A base lsm C0 hW hL hn hc1 hc2 ret
  have hZ := C0.1.2.2.2.2.2.2.2.2.2.2.2.2.2.1
  have e1 : av ad (2, -4) = .ref (ad (-4)) := av_nz (by decide)
  rw [List.map_cons, e1] at K
  have ho := C0.1.2.2.2.1
  rw [hY] at ho
  exact va_getsN C0.1.1 C0.1.2.1 hZ hW.2.2 ho (va_Nw.use rfl C0.2.2.2.2.2.2.2.2) (fun x hx => hx) (dcd1 hd rfl) K
end CallI
