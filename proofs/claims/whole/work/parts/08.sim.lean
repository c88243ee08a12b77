/-! programs as functions: what a method does is an Option of an answer and a memory; none: the walk says nothing -/
abbrev Res : Type := Option (Int × Mem)
def gd (c : Prop) [Decidable c] (a : Res) : Res := if c then a else none
def nm {α : Type} (e : α) (k : α → Res) : Res := k e
def bd (f : Res) (k : Int → Mem → Res) : Res := match f with
  | none => none
  | some q => k q.1 q.2
def jn {α : Type} (B : α → Res) (K : α) : Res := B K
def FU : Nat := 10000
theorem gd_ex {c : Prop} [Decidable c] {a : Res} {r : Int × Mem} (h : gd c a = some r) : c ∧ a = some r := by
  unfold gd at h
  split at h
  · exact ⟨by assumption, h⟩
  · cases h
theorem nm_ex {α : Type} {e : α} {k : α → Res} {r : Int × Mem} (h : nm e k = some r) : ∃ x, x = e ∧ k x = some r := ⟨e, rfl, h⟩
theorem bd_ex {f : Res} {k : Int → Mem → Res} {r : Int × Mem} (h : bd f k = some r) : ∃ v h1, f = some (v, h1) ∧ k v h1 = some r := by
  unfold bd at h
  cases f with
  | none => cases h
  | some q => exact ⟨q.1, q.2, rfl, h⟩
theorem jn_ex {α : Type} {B : α → Res} {K : α} {P : α → Prop} {r : Int × Mem} (h : jn B K = some r) (hJ : P K) : ∃ K', P K' ∧ B K' = some r := ⟨K, hJ, h⟩
theorem it_t {c : Prop} [Decidable c] {a b : Res} {r : Int × Mem} (h : (if c then a else b) = some r) (hc : c) : a = some r := by rwa [if_pos hc] at h
theorem it_f {c : Prop} [Decidable c] {a b : Res} {r : Int × Mem} (h : (if c then a else b) = some r) (hc : ¬ c) : b = some r := by rwa [if_neg hc] at h
def rvO (t : Nat) (v : Int) : Option AV := match t with
  | 0 => some (0, v)
  | 1 => some (1, v)
  | _ => none
/-- what is claimed of a walk whose program answers r -/
abbrev PH (t : Nat) (r : Int × Mem) : Option AV → Mem → Prop := fun a k => a = rvO t r.1 ∧ k = r.2
abbrev PB (r : Int × Mem) : Option AV → Mem → Prop := fun a k => a = some (0, r.1) ∧ k = r.2 ∧ (r.1 = 0 ∨ r.1 = 1)
def CT (X : XS) (y : MethodName) (Y : MD) (ret : Option FieldType) (t d : Nat) (vs : List AV) (h : Mem) (f : Res) : Prop := ∀ r, f = some r → AM X y Y ret t d vs h (PH t r)
def CB (X : XS) (y : MethodName) (Y : MD) (d : Nat) (vs : List AV) (h : Mem) (f : Res) : Prop := ∀ r, f = some r → AM X y Y (some .boolean) 0 d vs h (PB r)
theorem CT.ofI {X : XS} {y : MethodName} {Y : MD} {d : Nat} {vs : List AV} {h : Mem} {f : Res} (hy : plainName y.cls = true) (hY : Y.1 = y.cls) (hn : (entS vs).length ≤ Y.2.2) (k : ∀ r, f = some r → AJ X Y (rmD d) 0 (entL vs Y.2.2) [] h (PH 0 r)) : CT X y Y (some .int) 0 d vs h f :=
  fun r hf => AM.of hy hY hn (Or.inl ⟨rfl, .int, rfl, fun _ _ q => ⟨r.1, q.1, rfl⟩⟩) (k r hf)
theorem CB.of {X : XS} {y : MethodName} {Y : MD} {d : Nat} {vs : List AV} {h : Mem} {f : Res} (hy : plainName y.cls = true) (hY : Y.1 = y.cls) (hn : (entS vs).length ≤ Y.2.2) (k : ∀ r, f = some r → AJ X Y (rmD d) 0 (entL vs Y.2.2) [] h (PB r)) : CB X y Y d vs h f :=
  fun r hf => AM.of hy hY hn (Or.inl ⟨rfl, .boolean, rfl, fun _ _ q => ⟨r.1, q.1, by rcases q.2.2 with e | e <;> rw [e] <;> decide +kernel⟩⟩) (k r hf)
theorem CT.ofL {X : XS} {y : MethodName} {Y : MD} {d : Nat} {vs : List AV} {h : Mem} {f : Res} (hy : plainName y.cls = true) (hY : Y.1 = y.cls) (hn : (entS vs).length ≤ Y.2.2) (k : ∀ r, f = some r → AJ X Y (rmD d) 0 (entL vs Y.2.2) [] h (PH 1 r)) : CT X y Y (some .long) 1 d vs h f :=
  fun r hf => AM.of hy hY hn (Or.inr (Or.inl ⟨rfl, rfl, fun _ _ q => ⟨r.1, q.1⟩⟩)) (k r hf)
theorem CT.ofV {X : XS} {y : MethodName} {Y : MD} {d : Nat} {vs : List AV} {h : Mem} {f : Res} (hy : plainName y.cls = true) (hY : Y.1 = y.cls) (hn : (entS vs).length ≤ Y.2.2) (k : ∀ r, f = some r → AJ X Y (rmD d) 0 (entL vs Y.2.2) [] h (PH 9 r)) : CT X y Y none 9 d vs h f :=
  fun r hf => AM.of hy hY hn (Or.inr (Or.inr ⟨rfl, rfl, fun _ _ q => q.1⟩)) (k r hf)
/-- what a method's tables say: by method, class ci of its receiver (static: any), n parameters -/
def MfV (ci : Nat) (y : MethodName) (Y : MD) (ret : Option FieldType) (n : Nat) : Prop :=
  (∃ TT NN, vwCl[ci]? = some (y.cls, TT, NN)) ∧ Cond.instanceMethod y ∈ gtb ∧ Cond.selects y.cls y y ∈ gtb ∧ Cond.initialized y.cls ∈ gtb ∧ Cond.code y Y.2.1 Y.2.2 ret ∈ gtb
  ∧ decide (y.cls ≠ "java/lang/invoke/MethodHandle" ∧ y.cls ≠ "java/lang/invoke/VarHandle" ∧ (parseMethodDescriptor y.desc).map (fun d => d.parameters.length) = some n) = true ∧ Y.2.2 ≤ 41
def MfS (y : MethodName) (Y : MD) (ret : Option FieldType) (n : Nat) : Prop :=
  Cond.static y ∈ gtb ∧ Cond.initialized y.cls ∈ gtb ∧ Cond.code y Y.2.1 Y.2.2 ret ∈ gtb
  ∧ decide (y.cls ≠ "java/lang/invoke/MethodHandle" ∧ y.cls ≠ "java/lang/invoke/VarHandle" ∧ (parseMethodDescriptor y.desc).map (fun d => d.parameters.length) = some n) = true ∧ Y.2.2 ≤ 41
theorem gt_of (i : Nat) {w : Cond} (h : lw_tbl[i]? = some w) (g : goodWord w = true) : w ∈ gtb := List.mem_filter.mpr ⟨List.mem_of_getElem? h, g⟩
def Fld (own : String) (idx ci k t : Nat) : Prop := ∃ C T N, vwCl[ci]? = some (C, T, N) ∧ k < N ∧ Cond.fieldLink own idx (T k).1 (T k).2.1 (T k).2.2.1 ∈ gtb ∧ ftag (fty ci k) = t
def FldP (own : String) (idx ci k t : Nat) : Prop := ∃ C T N, vwCl[ci]? = some (C, T, N) ∧ k < N ∧ Cond.fieldLink own idx (T k).1 (T k).2.1 (T k).2.2.1 ∈ gtb ∧ ftag (fty ci k) = t ∧ (T k).2.2.2 = false ∧ foff ci k = none ∧ (fty ci k = .int ∨ fty ci k = .long ∨ fty ci k = .boolean ∨ (∃ C, fty ci k = .object C) ∨ ∃ u, fty ci k = .array u)
def frg : List AV → List Nat → List AV
  | ls, [] => ls
  | ls, k :: ks => frg (ls.set k (3, 0)) ks
section Short
variable {X : XS} {Y : MD} {R : Room} {pc n : Nat} {ls st : List AV} {h : Mem} {Φ : Option AV → Mem → Prop}
theorem g_get {ci idx k t : Nat} {r kz : Int} (hd : dcd Y.2.1 pc = some (.getfield idx, n)) (hn : n = pc + 3) (hF : Fld Y.1 idx ci k t) (hz : (k : Int) = kz) (ho : okO ci r = true) (kk : AJ X Y R n ls ((t, h r kz) :: st) h Φ) : AJ X Y R pc ls ((2, r) :: st) h Φ := by
  obtain ⟨C, T, N, h1, h2, h3, h4⟩ := hF
  subst hz
  exact q_get hd hn h1 h2 h3 h4 ho kk
theorem g_getF {ci idx k : Nat} {r o z : Int} (hd : dcd Y.2.1 pc = some (.getfield idx, n)) (hn : n = pc + 3) (hF : Fld Y.1 idx ci k 2) (hf : foff ci k = some o) (ho : okO ci r = true) (hz : r + o = z) (kk : AJ X Y R n ls ((2, z) :: st) h Φ) : AJ X Y R pc ls ((2, r) :: st) h Φ := by
  obtain ⟨C, T, N, h1, h2, h3, h4⟩ := hF
  exact q_getF hd hn h1 h2 h3 h4 hf ho hz kk
theorem g_put {ci idx k t : Nat} {r z kz : Int} (hd : dcd Y.2.1 pc = some (.putfield idx, n)) (hn : n = pc + 3) (hF : FldP Y.1 idx ci k t) (hk : (k : Int) = kz) (hz : (t = 0 → in32 z) ∧ (t = 1 → in64 z) → canT (fty ci k) z) (ho : okO ci r = true) (kk : AJ X Y R n ls st (wr h r kz z) Φ) : AJ X Y R pc ls ((t, z) :: (2, r) :: st) h Φ := by
  obtain ⟨C, T, N, h1, h2, h3, h4, h5, h6, h7⟩ := hF
  subst hk
  exact q_put hd hn h1 h2 h3 h4 h5 h6 h7 hz ho kk
theorem g_frg1 (i : Nat) (k : AJ X Y R pc (ls.set i (3, 0)) st h Φ) : AJ X Y R pc ls st h Φ := by
  intro p l e s m args below meth c H locs cells slots Q D ad aC A lsm C hP hD hS hL cl cs ho hc1 hc2 ret
  have key : ∀ (j : Nat) (v : AV), (ls.set i (3, 0))[j]? = some v → v = (3, 0) ∨ ls[j]? = some v := by
    intro j v hj
    by_cases e : i = j
    · subst e
      by_cases hl : i < ls.length
      · rw [List.getElem?_set_self hl] at hj; cases hj; exact Or.inl rfl
      · rw [List.getElem?_eq_none (by rw [List.length_set]; omega)] at hj; cases hj
    · rw [List.getElem?_set_ne e] at hj; exact Or.inr hj
  refine k p l e s m args below meth c H locs cells slots Q D ad aC A lsm C hP hD hS ⟨hL.1, hL.2.1, by rw [List.length_set]; exact hL.2.2.1, fun j v hj hv => ?_⟩ (fun v hv => ?_) cs ho hc1 hc2 ret
  · rcases key j v hj with rfl | hj
    · exact absurd hv (by decide)
    · exact hL.2.2.2 j _ hj hv
  · obtain ⟨j, hj⟩ := List.getElem?_of_mem hv
    rcases key j v hj with rfl | hj
    · exact ⟨fun q => (by cases q), fun q => (by cases q)⟩
    · exact cl.at hj
theorem g_frg {ls' : List AV} (ks : List Nat) (he : frg ls ks = ls') (k : AJ X Y R pc ls' st h Φ) : AJ X Y R pc ls st h Φ := by
  subst he
  induction ks generalizing ls with
  | nil => exact k
  | cons a ks ih => exact g_frg1 a (ih k)
theorem g_Vi {ci idx d : Nat} {y : MethodName} {Yc : MD} {vs st0 : List AV} {r0 : Int} {f : Res} {qv : Int} {qh : Mem} (hd : dcd Y.2.1 pc = some (.invokevirtual idx, n)) (hn : n = pc + 3) (hM : CT X y Yc (some .int) 0 d ((2, r0) :: vs) h f) (hf : f = some (qv, qh)) (hF : MfV ci y Yc (some .int) vs.length) (hl : Cond.methodLink Y.1 idx y ∈ gtb) (ho : okO ci r0 = true)
    (hs : Nat.ble (cats st) 8 = true) (hR : (Nat.ble (d + 1) R.frames && Nat.ble (60 * (d + 1)) R.locals) = true) (hst : st0 = vs.reverse ++ (2, r0) :: st) (kk : AJ X Y R n ls ((0, qv) :: st) qh Φ) : AJ X Y R pc ls st0 h Φ := by
  obtain ⟨⟨TT, NN, h1⟩, h2, h3, h4, h5, h6, h7⟩ := hF
  rw [Bool.and_eq_true] at hR
  refine q_callVi hd hn (hM (qv, qh) hf) hl h2 h3 h4 h5 h6 (decide_eq_true ⟨h7, Nat.le_of_ble_eq_true hs⟩) ⟨Nat.le_of_ble_eq_true hR.1, Nat.le_of_ble_eq_true hR.2⟩ h1 ho hst (fun z h' e => ?_)
  obtain ⟨e1, e2⟩ := e
  have e1 : some ((0 : Nat), z) = some (0, qv) := e1
  have e3 : z = qv := congrArg Prod.snd (Option.some.inj e1)
  rw [e2, e3]; exact kk
theorem g_Vb {ci idx d : Nat} {y : MethodName} {Yc : MD} {vs st0 : List AV} {r0 : Int} {f : Res} {qv : Int} {qh : Mem} (hd : dcd Y.2.1 pc = some (.invokevirtual idx, n)) (hn : n = pc + 3) (hM : CB X y Yc d ((2, r0) :: vs) h f) (hf : f = some (qv, qh)) (hF : MfV ci y Yc (some .boolean) vs.length) (hl : Cond.methodLink Y.1 idx y ∈ gtb) (ho : okO ci r0 = true)
    (hs : Nat.ble (cats st) 8 = true) (hR : (Nat.ble (d + 1) R.frames && Nat.ble (60 * (d + 1)) R.locals) = true) (hst : st0 = vs.reverse ++ (2, r0) :: st) (kk : (qv = 0 ∨ qv = 1) → AJ X Y R n ls ((0, qv) :: st) qh Φ) : AJ X Y R pc ls st0 h Φ := by
  obtain ⟨⟨TT, NN, h1⟩, h2, h3, h4, h5, h6, h7⟩ := hF
  rw [Bool.and_eq_true] at hR
  refine q_callVi hd hn (hM (qv, qh) hf) hl h2 h3 h4 h5 h6 (decide_eq_true ⟨h7, Nat.le_of_ble_eq_true hs⟩) ⟨Nat.le_of_ble_eq_true hR.1, Nat.le_of_ble_eq_true hR.2⟩ h1 ho hst (fun z h' e => ?_)
  obtain ⟨e1, e2, e4⟩ := e
  have e1 : some ((0 : Nat), z) = some (0, qv) := e1
  have e3 : z = qv := congrArg Prod.snd (Option.some.inj e1)
  rw [e2, e3]; exact kk e4
theorem g_Vl {ci idx d : Nat} {y : MethodName} {Yc : MD} {vs st0 : List AV} {r0 : Int} {f : Res} {qv : Int} {qh : Mem} (hd : dcd Y.2.1 pc = some (.invokevirtual idx, n)) (hn : n = pc + 3) (hM : CT X y Yc (some .long) 1 d ((2, r0) :: vs) h f) (hf : f = some (qv, qh)) (hF : MfV ci y Yc (some .long) vs.length) (hl : Cond.methodLink Y.1 idx y ∈ gtb) (ho : okO ci r0 = true)
    (hs : Nat.ble (cats st) 8 = true) (hR : (Nat.ble (d + 1) R.frames && Nat.ble (60 * (d + 1)) R.locals) = true) (hst : st0 = vs.reverse ++ (2, r0) :: st) (kk : AJ X Y R n ls ((1, qv) :: st) qh Φ) : AJ X Y R pc ls st0 h Φ := by
  obtain ⟨⟨TT, NN, h1⟩, h2, h3, h4, h5, h6, h7⟩ := hF
  rw [Bool.and_eq_true] at hR
  refine q_callVl hd hn (hM (qv, qh) hf) hl h2 h3 h4 h5 h6 (decide_eq_true ⟨h7, Nat.le_of_ble_eq_true hs⟩) ⟨Nat.le_of_ble_eq_true hR.1, Nat.le_of_ble_eq_true hR.2⟩ h1 ho hst (fun z h' e => ?_)
  obtain ⟨e1, e2⟩ := e
  have e1 : some ((1 : Nat), z) = some (1, qv) := e1
  have e3 : z = qv := congrArg Prod.snd (Option.some.inj e1)
  rw [e2, e3]; exact kk
theorem g_Vv {ci idx d : Nat} {y : MethodName} {Yc : MD} {vs st0 : List AV} {r0 : Int} {f : Res} {qv : Int} {qh : Mem} (hd : dcd Y.2.1 pc = some (.invokevirtual idx, n)) (hn : n = pc + 3) (hM : CT X y Yc none 9 d ((2, r0) :: vs) h f) (hf : f = some (qv, qh)) (hF : MfV ci y Yc none vs.length) (hl : Cond.methodLink Y.1 idx y ∈ gtb) (ho : okO ci r0 = true)
    (hs : Nat.ble (cats st) 8 = true) (hR : (Nat.ble (d + 1) R.frames && Nat.ble (60 * (d + 1)) R.locals) = true) (hst : st0 = vs.reverse ++ (2, r0) :: st) (kk : AJ X Y R n ls st qh Φ) : AJ X Y R pc ls st0 h Φ := by
  obtain ⟨⟨TT, NN, h1⟩, h2, h3, h4, h5, h6, h7⟩ := hF
  rw [Bool.and_eq_true] at hR
  refine q_callVv hd hn (hM (qv, qh) hf) hl h2 h3 h4 h5 h6 (decide_eq_true ⟨h7, Nat.le_of_ble_eq_true hs⟩) ⟨Nat.le_of_ble_eq_true hR.1, Nat.le_of_ble_eq_true hR.2⟩ h1 ho hst (fun h' e => ?_)
  rw [e.2]; exact kk
theorem g_Si {idx d : Nat} {y : MethodName} {Yc : MD} {vs st0 : List AV} {f : Res} {qv : Int} {qh : Mem} (hd : dcd Y.2.1 pc = some (.invokestatic idx, n)) (hn : n = pc + 3) (hM : CT X y Yc (some .int) 0 d vs h f) (hf : f = some (qv, qh)) (hF : MfS y Yc (some .int) vs.length) (hl : Cond.methodLink Y.1 idx y ∈ gtb)
    (hs : Nat.ble (cats st) 8 = true) (hR : (Nat.ble (d + 1) R.frames && Nat.ble (60 * (d + 1)) R.locals) = true) (hst : st0 = vs.reverse ++ st) (kk : AJ X Y R n ls ((0, qv) :: st) qh Φ) : AJ X Y R pc ls st0 h Φ := by
  obtain ⟨h2, h4, h5, h6, h7⟩ := hF
  rw [Bool.and_eq_true] at hR
  refine q_callSi hd hn (hM (qv, qh) hf) hl h2 h4 h5 h6 (decide_eq_true ⟨h7, Nat.le_of_ble_eq_true hs⟩) ⟨Nat.le_of_ble_eq_true hR.1, Nat.le_of_ble_eq_true hR.2⟩ hst (fun z h' e => ?_)
  obtain ⟨e1, e2⟩ := e
  have e1 : some ((0 : Nat), z) = some (0, qv) := e1
  have e3 : z = qv := congrArg Prod.snd (Option.some.inj e1)
  rw [e2, e3]; exact kk
theorem g_Sb {idx d : Nat} {y : MethodName} {Yc : MD} {vs st0 : List AV} {f : Res} {qv : Int} {qh : Mem} (hd : dcd Y.2.1 pc = some (.invokestatic idx, n)) (hn : n = pc + 3) (hM : CB X y Yc d vs h f) (hf : f = some (qv, qh)) (hF : MfS y Yc (some .boolean) vs.length) (hl : Cond.methodLink Y.1 idx y ∈ gtb)
    (hs : Nat.ble (cats st) 8 = true) (hR : (Nat.ble (d + 1) R.frames && Nat.ble (60 * (d + 1)) R.locals) = true) (hst : st0 = vs.reverse ++ st) (kk : (qv = 0 ∨ qv = 1) → AJ X Y R n ls ((0, qv) :: st) qh Φ) : AJ X Y R pc ls st0 h Φ := by
  obtain ⟨h2, h4, h5, h6, h7⟩ := hF
  rw [Bool.and_eq_true] at hR
  refine q_callSi hd hn (hM (qv, qh) hf) hl h2 h4 h5 h6 (decide_eq_true ⟨h7, Nat.le_of_ble_eq_true hs⟩) ⟨Nat.le_of_ble_eq_true hR.1, Nat.le_of_ble_eq_true hR.2⟩ hst (fun z h' e => ?_)
  obtain ⟨e1, e2, e4⟩ := e
  have e1 : some ((0 : Nat), z) = some (0, qv) := e1
  have e3 : z = qv := congrArg Prod.snd (Option.some.inj e1)
  rw [e2, e3]; exact kk e4
theorem g_Sl {idx d : Nat} {y : MethodName} {Yc : MD} {vs st0 : List AV} {f : Res} {qv : Int} {qh : Mem} (hd : dcd Y.2.1 pc = some (.invokestatic idx, n)) (hn : n = pc + 3) (hM : CT X y Yc (some .long) 1 d vs h f) (hf : f = some (qv, qh)) (hF : MfS y Yc (some .long) vs.length) (hl : Cond.methodLink Y.1 idx y ∈ gtb)
    (hs : Nat.ble (cats st) 8 = true) (hR : (Nat.ble (d + 1) R.frames && Nat.ble (60 * (d + 1)) R.locals) = true) (hst : st0 = vs.reverse ++ st) (kk : AJ X Y R n ls ((1, qv) :: st) qh Φ) : AJ X Y R pc ls st0 h Φ := by
  obtain ⟨h2, h4, h5, h6, h7⟩ := hF
  rw [Bool.and_eq_true] at hR
  refine q_callSl hd hn (hM (qv, qh) hf) hl h2 h4 h5 h6 (decide_eq_true ⟨h7, Nat.le_of_ble_eq_true hs⟩) ⟨Nat.le_of_ble_eq_true hR.1, Nat.le_of_ble_eq_true hR.2⟩ hst (fun z h' e => ?_)
  obtain ⟨e1, e2⟩ := e
  have e1 : some ((1 : Nat), z) = some (1, qv) := e1
  have e3 : z = qv := congrArg Prod.snd (Option.some.inj e1)
  rw [e2, e3]; exact kk
/-- returns: the program's answer is what the walk answers -/
theorem g_ireturn {x : Int} {r : Int × Mem} (hd : dcd Y.2.1 pc = some (.ireturn, n)) (hn : n = pc + 1) (hf : some (x, h) = some r) : AJ X Y R pc ls [(0, x)] h (PH 0 r) := by
  cases hf; exact q_ireturn hd hn ⟨rfl, rfl⟩
theorem g_breturn {x : Int} {r : Int × Mem} (hd : dcd Y.2.1 pc = some (.ireturn, n)) (hn : n = pc + 1) (hb : x = 0 ∨ x = 1) (hf : some (x, h) = some r) : AJ X Y R pc ls [(0, x)] h (PB r) := by
  cases hf; exact q_ireturn hd hn ⟨rfl, rfl, hb⟩
theorem g_lreturn {x : Int} {r : Int × Mem} (hd : dcd Y.2.1 pc = some (.lreturn, n)) (hn : n = pc + 1) (hf : some (x, h) = some r) : AJ X Y R pc ls [(1, x)] h (PH 1 r) := by
  cases hf; exact q_lreturn hd hn ⟨rfl, rfl⟩
theorem g_return {r : Int × Mem} (hd : dcd Y.2.1 pc = some (.return_, n)) (hn : n = pc + 1) (hf : some ((0 : Int), h) = some r) : AJ X Y R pc ls [] h (PH 9 r) := by
  cases hf; exact q_return hd hn ⟨rfl, rfl⟩
/-- switches -/
theorem g_tsw {x c lo hi dflt off : Int} {offs : Array Int} {tgt : Nat} (hd : dcd Y.2.1 pc = some (.tableswitch dflt lo hi offs, n)) (hx : x = c) (h1 : decide (lo ≤ c ∧ c ≤ hi) = true) (ho : offs[(c - lo).toNat]? = some off) (ht : (pc : Int) + off = (tgt : Int)) (k : AJ X Y R tgt ls st h Φ) : AJ X Y R pc ls ((0, x) :: st) h Φ := by
  obtain ⟨len, hd1, -⟩ := dcd_ok hd
  have h1 := of_decide_eq_true h1
  subst hx
  exact AJ.op (fun p l e s m args below meth c H locs cells slots Q D ad aC A lsm C hS hL cl cs _ _ K => lv_tableIn C.1 C.2.1 hd1 (by rw [n_id32 cs.i1]; omega) (by rw [n_id32 cs.i1]; omega) (by rw [n_id32 cs.i1]; exact ho) ht K) (fun _ cs => cs.tl) k
theorem g_tswD {x lo hi dflt : Int} {offs : Array Int} {tgt : Nat} (hd : dcd Y.2.1 pc = some (.tableswitch dflt lo hi offs, n)) (h1 : x < lo ∨ hi < x) (ht : (pc : Int) + dflt = (tgt : Int)) (k : AJ X Y R tgt ls st h Φ) : AJ X Y R pc ls ((0, x) :: st) h Φ := by
  obtain ⟨len, hd1, -⟩ := dcd_ok hd
  exact AJ.op (fun p l e s m args below meth c H locs cells slots Q D ad aC A lsm C hS hL cl cs _ _ K => lv_tableOut C.1 C.2.1 hd1 (by rw [n_id32 cs.i1]; exact h1) ht K) (fun _ cs => cs.tl) k
theorem g_lsw {x dflt off : Int} {ps : Array (Int × Int)} {tgt : Nat} (hd : dcd Y.2.1 pc = some (.lookupswitch dflt ps, n)) (hp : (ps.toList.zip (ps.toList.drop 1)).all (fun (a, next) => a.1 < next.1) = true) (ho : Op.lookupswitch.offset ps.toList dflt x = off) (ht : (pc : Int) + off = (tgt : Int)) (k : AJ X Y R tgt ls st h Φ) : AJ X Y R pc ls ((0, x) :: st) h Φ := by
  obtain ⟨len, hd1, -⟩ := dcd_ok hd
  exact AJ.op (fun p l e s m args below meth c H locs cells slots Q D ad aC A lsm C hS hL cl cs _ _ K => lv_lookup C.1 C.2.1 hd1 hp (by rw [n_id32 cs.i1]; exact ho) ht K) (fun _ cs => cs.tl) k
/-- Math -/
def mxI (x y : Int) : Int := if x < y then y else x
def mnI (x y : Int) : Int := if y < x then y else x
def abI (x : Int) : Int := if 0 ≤ x then x else w32 (0 - x)
def abL (x : Int) : Int := if 0 < x then x else w64 (-x)
theorem g_max {x y : Int} {idx : Nat} (hd : dcd Y.2.1 pc = some (.invokestatic idx, n)) (hn : n = pc + 3) (hl : Cond.methodLink Y.1 idx Lib.Math.max.name ∈ gtb) (hw : Cond.static Lib.Math.max.name ∈ gtb ∧ Cond.initialized "java/lang/Math" ∈ gtb ∧ Cond.code Lib.Math.max.name Lib.Math.max.code 2 (some .int) ∈ gtb) (hs : Nat.ble (cats st) 8 = true) (hR : (Nat.ble 1 R.frames && Nat.ble 60 R.locals) = true) (k : AJ X Y R n ls ((0, mxI x y) :: st) h Φ) : AJ X Y R pc ls ((0, y) :: (0, x) :: st) h Φ := by
  subst hn
  rw [Bool.and_eq_true] at hR
  have r1 := Nat.le_of_ble_eq_true hR.1
  have r2 := Nat.le_of_ble_eq_true hR.2
  have r3 := Nat.le_of_ble_eq_true hs
  refine AJ.op (fun p l e s m args below meth c H locs cells slots Q D ad aC A lsm C hS hL cl cs c1 c2 K => va_mmax C.1 C.2.1 (C.2.2.1.trans hL.1.symm) C.2.2.2.1 (C.2.2.2.2.1 _ hl) (C.2.2.2.2.1 _ hw.1) (C.2.2.2.2.1 _ hw.2.1) (C.2.2.2.2.1 _ hw.2.2) r1 (by rw [cats_eq]; omega) c1 c2 (dcd1 hd rfl) ?_) (fun _ cs => cs.tl.tl.i (by unfold mxI; split; exact cs.i1; exact cs.tl.i1)) k
  have e1 : (if Int32.ofInt x < Int32.ofInt y then Int32.ofInt y else Int32.ofInt x) = Int32.ofInt (mxI x y) := by
    unfold mxI
    by_cases q : x < y
    · rw [if_pos ((n_lt32 cs.tl.i1 cs.i1).mpr q), if_pos q]
    · rw [if_neg (fun z => q ((n_lt32 cs.tl.i1 cs.i1).mp z)), if_neg q]
  rw [e1]; exact K
theorem g_min {x y : Int} {idx : Nat} (hd : dcd Y.2.1 pc = some (.invokestatic idx, n)) (hn : n = pc + 3) (hl : Cond.methodLink Y.1 idx Lib.Math.min.name ∈ gtb) (hw : Cond.static Lib.Math.min.name ∈ gtb ∧ Cond.initialized "java/lang/Math" ∈ gtb ∧ Cond.code Lib.Math.min.name Lib.Math.min.code 2 (some .int) ∈ gtb) (hs : Nat.ble (cats st) 8 = true) (hR : (Nat.ble 1 R.frames && Nat.ble 60 R.locals) = true) (k : AJ X Y R n ls ((0, mnI x y) :: st) h Φ) : AJ X Y R pc ls ((0, y) :: (0, x) :: st) h Φ := by
  subst hn
  rw [Bool.and_eq_true] at hR
  have r1 := Nat.le_of_ble_eq_true hR.1
  have r2 := Nat.le_of_ble_eq_true hR.2
  have r3 := Nat.le_of_ble_eq_true hs
  refine AJ.op (fun p l e s m args below meth c H locs cells slots Q D ad aC A lsm C hS hL cl cs c1 c2 K => va_mmin C.1 C.2.1 (C.2.2.1.trans hL.1.symm) C.2.2.2.1 (C.2.2.2.2.1 _ hl) (C.2.2.2.2.1 _ hw.1) (C.2.2.2.2.1 _ hw.2.1) (C.2.2.2.2.1 _ hw.2.2) r1 (by rw [cats_eq]; omega) c1 c2 (dcd1 hd rfl) ?_) (fun _ cs => cs.tl.tl.i (by unfold mnI; split; exact cs.i1; exact cs.tl.i1)) k
  have e1 : (if Int32.ofInt y < Int32.ofInt x then Int32.ofInt y else Int32.ofInt x) = Int32.ofInt (mnI x y) := by
    unfold mnI
    by_cases q : y < x
    · rw [if_pos ((n_lt32 cs.i1 cs.tl.i1).mpr q), if_pos q]
    · rw [if_neg (fun z => q ((n_lt32 cs.i1 cs.tl.i1).mp z)), if_neg q]
  rw [e1]; exact K
theorem g_abs {x : Int} {idx : Nat} (hd : dcd Y.2.1 pc = some (.invokestatic idx, n)) (hn : n = pc + 3) (hl : Cond.methodLink Y.1 idx Lib.Math.abs.name ∈ gtb) (hw : Cond.static Lib.Math.abs.name ∈ gtb ∧ Cond.initialized "java/lang/Math" ∈ gtb ∧ Cond.code Lib.Math.abs.name Lib.Math.abs.code 1 (some .int) ∈ gtb) (hs : Nat.ble (cats st) 8 = true) (hR : (Nat.ble 1 R.frames && Nat.ble 60 R.locals) = true) (k : AJ X Y R n ls ((0, abI x) :: st) h Φ) : AJ X Y R pc ls ((0, x) :: st) h Φ := by
  subst hn
  rw [Bool.and_eq_true] at hR
  have r1 := Nat.le_of_ble_eq_true hR.1
  have r2 := Nat.le_of_ble_eq_true hR.2
  have r3 := Nat.le_of_ble_eq_true hs
  refine AJ.op (fun p l e s m args below meth c H locs cells slots Q D ad aC A lsm C hS hL cl cs c1 c2 K => va_mabs C.1 C.2.1 (C.2.2.1.trans hL.1.symm) C.2.2.2.1 (C.2.2.2.2.1 _ hl) (C.2.2.2.2.1 _ hw.1) (C.2.2.2.2.1 _ hw.2.1) (C.2.2.2.2.1 _ hw.2.2) r1 (by rw [cats_eq]; omega) c1 c2 (dcd1 hd rfl) ?_) (fun _ cs => cs.tl.i (by unfold abI; split; exact cs.i1; exact w32_in _)) k
  have e1 : (if 0 ≤ Int32.ofInt x then Int32.ofInt x else 0 - Int32.ofInt x) = Int32.ofInt (abI x) := by
    unfold abI
    show (if Int32.ofInt 0 ≤ Int32.ofInt x then Int32.ofInt x else Int32.ofInt 0 - Int32.ofInt x) = _
    by_cases q : 0 ≤ x
    · rw [if_pos ((n_le32 in32_0 cs.i1).mpr q), if_pos q]
    · rw [if_neg (fun z => q ((n_le32 in32_0 cs.i1).mp z)), if_neg q]; exact n_sub 0 x
  rw [e1]; exact K
theorem g_absL {x : Int} {idx : Nat} (hd : dcd Y.2.1 pc = some (.invokestatic idx, n)) (hn : n = pc + 3) (hl : Cond.methodLink Y.1 idx Lib.MathLoose.abs_long.x ∈ gtb) (hw : Cond.static Lib.MathLoose.abs_long.x ∈ gtb ∧ Cond.initialized "java/lang/Math" ∈ gtb ∧ Cond.code Lib.MathLoose.abs_long.x Lib.MathLoose.abs_long.code 2 (some .long) ∈ gtb) (hs : Nat.ble (cats st) 8 = true) (hR : (Nat.ble 1 R.frames && Nat.ble 60 R.locals) = true) (k : AJ X Y R n ls ((1, abL x) :: st) h Φ) : AJ X Y R pc ls ((1, x) :: st) h Φ := by
  subst hn
  rw [Bool.and_eq_true] at hR
  have r1 := Nat.le_of_ble_eq_true hR.1
  have r2 := Nat.le_of_ble_eq_true hR.2
  have r3 := Nat.le_of_ble_eq_true hs
  refine AJ.op (fun p l e s m args below meth c H locs cells slots Q D ad aC A lsm C hS hL cl cs c1 c2 K => va_mabs_long C.1 C.2.1 (C.2.2.1.trans hL.1.symm) C.2.2.2.1 (C.2.2.2.2.1 _ hl) (C.2.2.2.2.1 _ hw.1) (C.2.2.2.2.1 _ hw.2.1) (C.2.2.2.2.1 _ hw.2.2) r1 (by rw [cats_eq]; omega) c1 c2 (dcd1 hd rfl) ?_) (fun _ cs => cs.tl.l (by unfold abL; split; exact cs.l1; exact w64_in _)) k
  have e1 : (if 0 < Int64.ofInt x then Int64.ofInt x else -Int64.ofInt x) = Int64.ofInt (abL x) := by
    unfold abL
    show (if Int64.ofInt 0 < Int64.ofInt x then Int64.ofInt x else -Int64.ofInt x) = _
    by_cases q : 0 < x
    · rw [if_pos ((n_lt64 in64_0 cs.l1).mpr q), if_pos q]
    · rw [if_neg (fun z => q ((n_lt64 in64_0 cs.l1).mp z)), if_neg q]; exact n_negL x
  rw [e1]; exact K
end Short
