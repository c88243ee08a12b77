/-! the judgement of a walk -/
def tuLeast : List Int := [0, 10, 0, 0, 0, 0, 0, 0]
def tuMost : List Int := [9, 400, 30, 9, 10, 9, 99, 999]
def tuFirst : List Int := [2, 180, 10, 2, 5, 1, 20, 400]
def imm (ad : Int → Nat) (A : Nat → Prop) (U : State) (H : Heap) (z : Int) (L : Nat) (xs : Nat → Int32) : Prop := va_X (ad z) L xs U H ∧ ad z < H.size ∧ ¬ A (ad z)
def immF (l : List Int) : Nat → Int32 := fun j => Int32.ofInt (l.getD j 0)
def sIdx : List Nat := [117, 123, 124, 125, 127, 129, 130]
def sTxt : List String := ["act", "front", "set", "sad", "loud", "train", "feud"]
def sLen : List Nat := [3, 5, 3, 3, 4, 5, 4]
def sByt : List (List Int32) := [[97, 99, 116], [102, 114, 111, 110, 116], [115, 101, 116], [115, 97, 100], [108, 111, 117, 100], [116, 114, 97, 105, 110], [102, 101, 117, 100]]
def CstR (ad : Int → Nat) (U : State) : Prop := ∀ i : Nat, i < 7 → vk_R "NineActs$Script" (sIdx.getD i 0) (sTxt.getD i "") (ad (-10 - (i : Int))) U
def CstF (ad : Int → Nat) (A : Nat → Prop) (U : State) (H : Heap) : Prop := va_Z "jdk/internal/util/Preconditions" "SIOOBE_FORMATTER" "Ljava/util/function/BiFunction;" .null A U H ∨ va_Z "jdk/internal/util/Preconditions" "SIOOBE_FORMATTER" "Ljava/util/function/BiFunction;" (.ref (ad (-30))) A U H
/-- what does not change: the script (-1), the tunes' rows (-2, -3, -4), the texts (-10 .. -16, their bytes -20 .. -26) -/
def Cst (X : XS) (ad : Int → Nat) (A : Nat → Prop) (U : State) (H : Heap) : Prop :=
  imm ad A U H (-1) X.1 X.2 ∧ imm ad A U H (-2) 8 (immF tuLeast) ∧ imm ad A U H (-3) 8 (immF tuMost) ∧ imm ad A U H (-4) 8 (immF tuFirst)
  ∧ va_Z "NineActs" "TUNE_LEAST" "[I" (.ref (ad (-2))) A U H ∧ va_Z "NineActs" "TUNE_MOST" "[I" (.ref (ad (-3))) A U H ∧ va_Z "NineActs" "TUNE_AT_FIRST" "[I" (.ref (ad (-4))) A U H
  ∧ va_Z "java/lang/String" "COMPACT_STRINGS" "Z" (.int 1) A U H ∧ CstF ad A U H ∧ vk_S 7 sLen sByt (fun i => ad (-10 - (i : Int))) (fun i => ad (-20 - (i : Int))) A U H ∧ CstR ad U
def Cx (X : XS) (Y : MD) (p : Program) (s : State) (m : MethodId) (args : Array Value) (c : Code) (D : va_G) (ad : Int → Nat) (aC : Nat → ClassId) (A : Nat → Prop) : Prop :=
  p.tables.exec = Jvm.exec ∧ c.code = Y.2.1 ∧ c.maxLocals = Y.2.2 ∧ s.vm.findClass Y.1 = some m.cls ∧ (∀ w ∈ gtb, w.before args s = true) ∧ va_K D vwCl (tysL aC) s ∧ (∀ q, s.heap.size ≤ q → A q) ∧ Cst X ad A s s.heap
def RetAt (c : ByteArray) (pc : Nat) (r : Option AV) : Prop := match r with
  | none => decode c pc = .ok (.return_, 1)
  | some (0, _) => decode c pc = .ok (.ireturn, 1)
  | some (1, _) => decode c pc = .ok (.lreturn, 1)
  | some _ => decode c pc = .ok (.areturn, 1)
/-- from pc, with these locals, this stack and this memory, the method comes to its return, with Φ of what it answers and of the memory then -/
def AJ (X : XS) (Y : MD) (R : Room) (pc : Nat) (ls st : List AV) (h : Mem) (Φ : Option AV → Mem → Prop) : Prop :=
  ∀ (p : Program) (l : Launch) (e : Env) (s : State) (m : MethodId) (args : Array Value) (below : List Frame) (meth : Method) (c : Code) (H : Heap) (locs : List Loc) (cells slots : Nat) (Q : State → Prop) (D : va_G) (ad : Int → Nat) (aC : Nat → ClassId) (A : Nat → Prop) (lsm : Array Slot),
    Cx X Y p s m args c D ad aC A → va_P D vwCl (wsOf SH ad aC h) H → va_D A (wsOf SH ad aC h) → va_S A s.heap H locs → LcR ad lsm Y.2.2 ls → Can ls → Can st → Hok h → cells ≤ R.cells → slots ≤ R.slots →
    (∀ (r : Option AV) (h' : Mem) (H' : Heap) (locs' : List Loc) (lsm' : Array Slot) (pc' : Nat), Φ r h' → Hok h' → Can r.toList → va_P D vwCl (wsOf SH ad aC h') H' → va_D A (wsOf SH ad aC h') → va_S A s.heap H' locs' → RetAt Y.2.1 pc' r →
      W p l e R s m args below meth c H' locs' cells slots Q (F0 m pc' lsm' (r.toList.map (av ad)))) →
    W p l e R s m args below meth c H locs cells slots Q (F0 m pc lsm (st.map (av ad)))
theorem dcd1 {c : ByteArray} {pc n k : Nat} {i : Instr} (h : dcd c pc = some (i, n)) (hn : n = pc + k) : decode c pc = .ok (i, k) := by
  obtain ⟨k', h1, h2⟩ := dcd_ok h
  have : k' = k := by omega
  rw [← this]; exact h1
section Rules
variable {X : XS} {Y : MD} {R : Room} {pc n : Nat} {ls st : List AV} {h : Mem} {Φ : Option AV → Mem → Prop}
/-- an instruction that changes the stack alone -/
theorem AJ.op {st2 : List AV}
    (f : ∀ (p : Program) (l : Launch) (e : Env) (s : State) (m : MethodId) (args : Array Value) (below : List Frame) (meth : Method) (c : Code) (H : Heap) (locs : List Loc) (cells slots : Nat) (Q : State → Prop) (D : va_G) (ad : Int → Nat) (aC : Nat → ClassId) (A : Nat → Prop) (lsm : Array Slot),
      Cx X Y p s m args c D ad aC A → va_S A s.heap H locs → LcR ad lsm Y.2.2 ls → Can ls → Can st → cells ≤ R.cells → slots ≤ R.slots → W p l e R s m args below meth c H locs cells slots Q (F0 m n lsm (st2.map (av ad))) → W p l e R s m args below meth c H locs cells slots Q (F0 m pc lsm (st.map (av ad))))
    (g : Can ls → Can st → Can st2) (k : AJ X Y R n ls st2 h Φ) : AJ X Y R pc ls st h Φ :=
  fun p l e s m args below meth c H locs cells slots Q D ad aC A lsm C hP hD hS hL cl cs ho hc1 hc2 ret =>
    f p l e s m args below meth c H locs cells slots Q D ad aC A lsm C hS hL cl cs hc1 hc2 (k p l e s m args below meth c H locs cells slots Q D ad aC A lsm C hP hD hS hL cl (g cl cs) ho hc1 hc2 ret)
theorem q_iconst {z : Int} (hd : dcd Y.2.1 pc = some (.iconst z, n)) (hn : n = pc + 1) (hz : decide (-1 ≤ z ∧ z ≤ 5) = true) (k : AJ X Y R n ls ((0, z) :: st) h Φ) : AJ X Y R pc ls st h Φ := by
  subst hn
  have hz := of_decide_eq_true hz
  refine AJ.op (fun p l e s m args below meth c H locs cells slots Q D ad aC A lsm C hS hL cl cs _ _ K => lv_iconst C.1 C.2.1 (dcd1 hd rfl) rfl K) (fun _ cs => cs.i ⟨by omega, by omega⟩) k
theorem q_bipush {z : Int} (hd : dcd Y.2.1 pc = some (.bipush z, n)) (hn : n = pc + 2) (hz : decide ((Int8.ofInt z).toInt32 = Int32.ofInt z ∧ -128 ≤ z ∧ z < 128) = true) (k : AJ X Y R n ls ((0, z) :: st) h Φ) : AJ X Y R pc ls st h Φ := by
  subst hn
  have hz := of_decide_eq_true hz
  refine AJ.op (fun p l e s m args below meth c H locs cells slots Q D ad aC A lsm C hS hL cl cs _ _ K => lv_bipush C.1 C.2.1 (dcd1 hd rfl) hz.1 K) (fun _ cs => cs.i ⟨by omega, by omega⟩) k
theorem q_sipush {z : Int} (hd : dcd Y.2.1 pc = some (.sipush z, n)) (hn : n = pc + 3) (hz : decide ((Int16.ofInt z).toInt32 = Int32.ofInt z ∧ -32768 ≤ z ∧ z < 32768) = true) (k : AJ X Y R n ls ((0, z) :: st) h Φ) : AJ X Y R pc ls st h Φ := by
  subst hn
  have hz := of_decide_eq_true hz
  refine AJ.op (fun p l e s m args below meth c H locs cells slots Q D ad aC A lsm C hS hL cl cs _ _ K => lv_sipush C.1 C.2.1 (dcd1 hd rfl) hz.1 K) (fun _ cs => cs.i ⟨by omega, by omega⟩) k
theorem q_ldc {z : Int} {v : Int32} {idx : Nat} (hd : dcd Y.2.1 pc = some (.ldc idx, n)) (hn : n = pc + 2) (hw : Cond.constant Y.1 idx v ∈ gtb) (hv : v.toInt = z) (k : AJ X Y R n ls ((0, z) :: st) h Φ) : AJ X Y R pc ls st h Φ := by
  subst hn; subst hv
  refine AJ.op (fun p l e s m args below meth c H locs cells slots Q D ad aC A lsm C hS hL cl cs _ _ K => lv_ldc (v := v) C.1 C.2.1 C.2.2.2.1 (C.2.2.2.2.1 _ hw) (dcd1 hd rfl) ?_) (fun _ cs => cs.i (n_in32 v)) k
  have e : av ad (0, v.toInt) = .int v := congrArg Value.int (Int32.ofInt_toInt v)
  rw [← e]; exact K
theorem q_ldcw {z : Int} {v : Int32} {idx : Nat} (hd : dcd Y.2.1 pc = some (.ldc_w idx, n)) (hn : n = pc + 3) (hw : Cond.constant Y.1 idx v ∈ gtb) (hv : v.toInt = z) (k : AJ X Y R n ls ((0, z) :: st) h Φ) : AJ X Y R pc ls st h Φ := by
  subst hn; subst hv
  refine AJ.op (fun p l e s m args below meth c H locs cells slots Q D ad aC A lsm C hS hL cl cs _ _ K => lv_ldcw (v := v) C.1 C.2.1 C.2.2.2.1 (C.2.2.2.2.1 _ hw) (dcd1 hd rfl) ?_) (fun _ cs => cs.i (n_in32 v)) k
  have e : av ad (0, v.toInt) = .int v := congrArg Value.int (Int32.ofInt_toInt v)
  rw [← e]; exact K
theorem q_ldc2 {z : Int} {v : Int64} {idx : Nat} (hd : dcd Y.2.1 pc = some (.ldc2_w idx, n)) (hn : n = pc + 3) (hw : Cond.constantLong Y.1 idx v ∈ gtb) (hv : v.toInt = z) (k : AJ X Y R n ls ((1, z) :: st) h Φ) : AJ X Y R pc ls st h Φ := by
  subst hn; subst hv
  refine AJ.op (fun p l e s m args below meth c H locs cells slots Q D ad aC A lsm C hS hL cl cs _ _ K => lv_ldc2 (v := v) C.1 C.2.1 C.2.2.2.1 (C.2.2.2.2.1 _ hw) (dcd1 hd rfl) ?_) (fun _ cs => cs.l (n_in64 v)) k
  have e : av ad (1, v.toInt) = .long v := congrArg Value.long (Int64.ofInt_toInt v)
  rw [← e]; exact K
theorem q_lconst0 (hd : dcd Y.2.1 pc = some (.lconst 0, n)) (hn : n = pc + 1) (k : AJ X Y R n ls ((1, 0) :: st) h Φ) : AJ X Y R pc ls st h Φ := by
  subst hn
  exact AJ.op (fun p l e s m args below meth c H locs cells slots Q D ad aC A lsm C hS hL cl cs _ _ K => lv_lconst C.1 C.2.1 (dcd1 hd rfl) rfl K) (fun _ cs => cs.l in64_0) k
theorem q_lconst1 (hd : dcd Y.2.1 pc = some (.lconst 1, n)) (hn : n = pc + 1) (k : AJ X Y R n ls ((1, 1) :: st) h Φ) : AJ X Y R pc ls st h Φ := by
  subst hn
  exact AJ.op (fun p l e s m args below meth c H locs cells slots Q D ad aC A lsm C hS hL cl cs _ _ K => lv_lconst C.1 C.2.1 (dcd1 hd rfl) rfl K) (fun _ cs => cs.l in64_1) k
theorem q_iload_n {i : Fin 4} {x : Int} (hd : dcd Y.2.1 pc = some (.iload_n i, n)) (hn : n = pc + 1) (hl : ls[(i : Nat)]? = some (0, x)) (k : AJ X Y R n ls ((0, x) :: st) h Φ) : AJ X Y R pc ls st h Φ := by
  subst hn
  exact AJ.op (fun p l e s m args below meth c H locs cells slots Q D ad aC A lsm C hS hL cl cs _ _ K => lv_iload_n C.1 C.2.1 (dcd1 hd rfl) rfl (hL.at hl (Nat.le_of_ble_eq_true rfl)) K) (fun cl cs => cs.of (cl.at hl)) k
theorem q_iload {i : Nat} {x : Int} (hd : dcd Y.2.1 pc = some (.iload i, n)) (hn : n = pc + 2) (hl : ls[i]? = some (0, x)) (k : AJ X Y R n ls ((0, x) :: st) h Φ) : AJ X Y R pc ls st h Φ := by
  subst hn
  exact AJ.op (fun p l e s m args below meth c H locs cells slots Q D ad aC A lsm C hS hL cl cs _ _ K => lv_iload C.1 C.2.1 (dcd1 hd rfl) (hL.at hl (Nat.le_of_ble_eq_true rfl)) K) (fun cl cs => cs.of (cl.at hl)) k
theorem q_lload_n {i : Fin 4} {x : Int} (hd : dcd Y.2.1 pc = some (.lload_n i, n)) (hn : n = pc + 1) (hl : ls[(i : Nat)]? = some (1, x)) (k : AJ X Y R n ls ((1, x) :: st) h Φ) : AJ X Y R pc ls st h Φ := by
  subst hn
  exact AJ.op (fun p l e s m args below meth c H locs cells slots Q D ad aC A lsm C hS hL cl cs _ _ K => lv_lload_n C.1 C.2.1 (dcd1 hd rfl) rfl (hL.at hl (Nat.le_of_ble_eq_true rfl)) K) (fun cl cs => cs.of (cl.at hl)) k
theorem q_lload {i : Nat} {x : Int} (hd : dcd Y.2.1 pc = some (.lload i, n)) (hn : n = pc + 2) (hl : ls[i]? = some (1, x)) (k : AJ X Y R n ls ((1, x) :: st) h Φ) : AJ X Y R pc ls st h Φ := by
  subst hn
  exact AJ.op (fun p l e s m args below meth c H locs cells slots Q D ad aC A lsm C hS hL cl cs _ _ K => lv_lload C.1 C.2.1 (dcd1 hd rfl) (hL.at hl (Nat.le_of_ble_eq_true rfl)) K) (fun cl cs => cs.of (cl.at hl)) k
theorem q_aload_n {i : Fin 4} {x : Int} (hd : dcd Y.2.1 pc = some (.aload_n i, n)) (hn : n = pc + 1) (hl : ls[(i : Nat)]? = some (2, x)) (k : AJ X Y R n ls ((2, x) :: st) h Φ) : AJ X Y R pc ls st h Φ := by
  subst hn
  refine AJ.op (fun p l e s m args below meth c H locs cells slots Q D ad aC A lsm C hS hL cl cs _ _ K => ?_) (fun cl cs => cs.of (cl.at hl)) k
  have h1 := hL.at hl (Nat.le_of_ble_eq_true rfl)
  by_cases hx : x = 0
  · have e : av ad (2, x) = .null := if_pos hx
    rw [e] at h1
    refine lv_aload_nN C.1 C.2.1 (dcd1 hd rfl) rfl h1 ?_
    rw [← e]; exact K
  · have e : av ad (2, x) = .ref (ad x) := if_neg hx
    rw [e] at h1
    refine lv_aload_n C.1 C.2.1 (dcd1 hd rfl) rfl h1 ?_
    rw [← e]; exact K
theorem q_aload {i : Nat} {x : Int} (hd : dcd Y.2.1 pc = some (.aload i, n)) (hn : n = pc + 2) (hl : ls[i]? = some (2, x)) (k : AJ X Y R n ls ((2, x) :: st) h Φ) : AJ X Y R pc ls st h Φ := by
  subst hn
  refine AJ.op (fun p l e s m args below meth c H locs cells slots Q D ad aC A lsm C hS hL cl cs _ _ K => ?_) (fun cl cs => cs.of (cl.at hl)) k
  have h1 := hL.at hl (Nat.le_of_ble_eq_true rfl)
  by_cases hx : x = 0
  · have e : av ad (2, x) = .null := if_pos hx
    rw [e] at h1
    refine lv_aloadN C.1 C.2.1 (dcd1 hd rfl) h1 ?_
    rw [← e]; exact K
  · have e : av ad (2, x) = .ref (ad x) := if_neg hx
    rw [e] at h1
    refine lv_aload C.1 C.2.1 (dcd1 hd rfl) h1 ?_
    rw [← e]; exact K
theorem q_iadd {x y : Int} (hd : dcd Y.2.1 pc = some (.iadd, n)) (hn : n = pc + 1) (k : AJ X Y R n ls ((0, w32 (x + y)) :: st) h Φ) : AJ X Y R pc ls ((0, y) :: (0, x) :: st) h Φ := by
  subst hn
  refine AJ.op (fun p l e s m args below meth c H locs cells slots Q D ad aC A lsm C hS hL cl cs _ _ K => lv_iadd C.1 C.2.1 (dcd1 hd rfl) ?_) (fun _ cs => cs.tl.tl.i (w32_in _)) k
  rw [n_add]; exact K
theorem q_ladd {x y : Int} (hd : dcd Y.2.1 pc = some (.ladd, n)) (hn : n = pc + 1) (k : AJ X Y R n ls ((1, w64 (x + y)) :: st) h Φ) : AJ X Y R pc ls ((1, y) :: (1, x) :: st) h Φ := by
  subst hn
  refine AJ.op (fun p l e s m args below meth c H locs cells slots Q D ad aC A lsm C hS hL cl cs _ _ K => lv_ladd C.1 C.2.1 (dcd1 hd rfl) ?_) (fun _ cs => cs.tl.tl.l (w64_in _)) k
  rw [n_addL]; exact K
theorem q_isub {x y : Int} (hd : dcd Y.2.1 pc = some (.isub, n)) (hn : n = pc + 1) (k : AJ X Y R n ls ((0, w32 (x - y)) :: st) h Φ) : AJ X Y R pc ls ((0, y) :: (0, x) :: st) h Φ := by
  subst hn
  refine AJ.op (fun p l e s m args below meth c H locs cells slots Q D ad aC A lsm C hS hL cl cs _ _ K => lv_isub C.1 C.2.1 (dcd1 hd rfl) ?_) (fun _ cs => cs.tl.tl.i (w32_in _)) k
  rw [n_sub]; exact K
theorem q_lsub {x y : Int} (hd : dcd Y.2.1 pc = some (.lsub, n)) (hn : n = pc + 1) (k : AJ X Y R n ls ((1, w64 (x - y)) :: st) h Φ) : AJ X Y R pc ls ((1, y) :: (1, x) :: st) h Φ := by
  subst hn
  refine AJ.op (fun p l e s m args below meth c H locs cells slots Q D ad aC A lsm C hS hL cl cs _ _ K => lv_lsub C.1 C.2.1 (dcd1 hd rfl) ?_) (fun _ cs => cs.tl.tl.l (w64_in _)) k
  rw [n_subL]; exact K
theorem q_imul {x y : Int} (hd : dcd Y.2.1 pc = some (.imul, n)) (hn : n = pc + 1) (k : AJ X Y R n ls ((0, w32 (x * y)) :: st) h Φ) : AJ X Y R pc ls ((0, y) :: (0, x) :: st) h Φ := by
  subst hn
  refine AJ.op (fun p l e s m args below meth c H locs cells slots Q D ad aC A lsm C hS hL cl cs _ _ K => lv_imul C.1 C.2.1 (dcd1 hd rfl) ?_) (fun _ cs => cs.tl.tl.i (w32_in _)) k
  rw [n_mul]; exact K
theorem q_lmul {x y : Int} (hd : dcd Y.2.1 pc = some (.lmul, n)) (hn : n = pc + 1) (k : AJ X Y R n ls ((1, w64 (x * y)) :: st) h Φ) : AJ X Y R pc ls ((1, y) :: (1, x) :: st) h Φ := by
  subst hn
  refine AJ.op (fun p l e s m args below meth c H locs cells slots Q D ad aC A lsm C hS hL cl cs _ _ K => lv_lmul C.1 C.2.1 (dcd1 hd rfl) ?_) (fun _ cs => cs.tl.tl.l (w64_in _)) k
  rw [n_mulL]; exact K
theorem q_iand {x y : Int} (hd : dcd Y.2.1 pc = some (.iand, n)) (hn : n = pc + 1) (k : AJ X Y R n ls ((0, iand x y) :: st) h Φ) : AJ X Y R pc ls ((0, y) :: (0, x) :: st) h Φ := by
  subst hn
  refine AJ.op (st2 := (0, iand x y) :: st) (fun p l e s m args below meth c H locs cells slots Q D ad aC A lsm C hS hL cl cs _ _ K => lv_iand C.1 C.2.1 (dcd1 hd rfl) ?_) (fun _ cs => cs.tl.tl.i (n_in32 _)) k
  have e : av ad (0, iand x y) = .int (Int32.ofInt x &&& Int32.ofInt y) := congrArg Value.int (Int32.ofInt_toInt _)
  rw [List.map_cons, e] at K; exact K
theorem q_ior {x y : Int} (hd : dcd Y.2.1 pc = some (.ior, n)) (hn : n = pc + 1) (k : AJ X Y R n ls ((0, ior x y) :: st) h Φ) : AJ X Y R pc ls ((0, y) :: (0, x) :: st) h Φ := by
  subst hn
  refine AJ.op (st2 := (0, ior x y) :: st) (fun p l e s m args below meth c H locs cells slots Q D ad aC A lsm C hS hL cl cs _ _ K => lv_ior C.1 C.2.1 (dcd1 hd rfl) ?_) (fun _ cs => cs.tl.tl.i (n_in32 _)) k
  have e : av ad (0, ior x y) = .int (Int32.ofInt x ||| Int32.ofInt y) := congrArg Value.int (Int32.ofInt_toInt _)
  rw [List.map_cons, e] at K; exact K
theorem q_ixor {x y : Int} (hd : dcd Y.2.1 pc = some (.ixor, n)) (hn : n = pc + 1) (k : AJ X Y R n ls ((0, ixor x y) :: st) h Φ) : AJ X Y R pc ls ((0, y) :: (0, x) :: st) h Φ := by
  subst hn
  refine AJ.op (st2 := (0, ixor x y) :: st) (fun p l e s m args below meth c H locs cells slots Q D ad aC A lsm C hS hL cl cs _ _ K => lv_ixor C.1 C.2.1 (dcd1 hd rfl) ?_) (fun _ cs => cs.tl.tl.i (n_in32 _)) k
  have e : av ad (0, ixor x y) = .int (Int32.ofInt x ^^^ Int32.ofInt y) := congrArg Value.int (Int32.ofInt_toInt _)
  rw [List.map_cons, e] at K; exact K
theorem q_ishl {x y : Int} (hd : dcd Y.2.1 pc = some (.ishl, n)) (hn : n = pc + 1) (k : AJ X Y R n ls ((0, ishl x y) :: st) h Φ) : AJ X Y R pc ls ((0, y) :: (0, x) :: st) h Φ := by
  subst hn
  refine AJ.op (st2 := (0, ishl x y) :: st) (fun p l e s m args below meth c H locs cells slots Q D ad aC A lsm C hS hL cl cs _ _ K => lv_ishl C.1 C.2.1 (dcd1 hd rfl) ?_) (fun _ cs => cs.tl.tl.i (n_in32 _)) k
  have e : av ad (0, ishl x y) = .int (Int32.ofInt x <<< (Int32.ofInt y &&& 31)) := congrArg Value.int (Int32.ofInt_toInt _)
  rw [List.map_cons, e] at K; exact K
theorem q_ishr {x y : Int} (hd : dcd Y.2.1 pc = some (.ishr, n)) (hn : n = pc + 1) (k : AJ X Y R n ls ((0, ishr x y) :: st) h Φ) : AJ X Y R pc ls ((0, y) :: (0, x) :: st) h Φ := by
  subst hn
  refine AJ.op (st2 := (0, ishr x y) :: st) (fun p l e s m args below meth c H locs cells slots Q D ad aC A lsm C hS hL cl cs _ _ K => lv_ishr C.1 C.2.1 (dcd1 hd rfl) ?_) (fun _ cs => cs.tl.tl.i (n_in32 _)) k
  have e : av ad (0, ishr x y) = .int (Int32.ofInt x >>> (Int32.ofInt y &&& 31)) := congrArg Value.int (Int32.ofInt_toInt _)
  rw [List.map_cons, e] at K; exact K
theorem q_iushr {x y : Int} (hd : dcd Y.2.1 pc = some (.iushr, n)) (hn : n = pc + 1) (k : AJ X Y R n ls ((0, iushr x y) :: st) h Φ) : AJ X Y R pc ls ((0, y) :: (0, x) :: st) h Φ := by
  subst hn
  exact AJ.op (fun p l e s m args below meth c H locs cells slots Q D ad aC A lsm C hS hL cl cs _ _ K => lv_iushr C.1 C.2.1 (dcd1 hd rfl) (Int32.ofInt_toInt _).symm K) (fun _ cs => cs.tl.tl.i (n_in32 _)) k
theorem q_land {x y : Int} (hd : dcd Y.2.1 pc = some (.land, n)) (hn : n = pc + 1) (k : AJ X Y R n ls ((1, land x y) :: st) h Φ) : AJ X Y R pc ls ((1, y) :: (1, x) :: st) h Φ := by
  subst hn
  refine AJ.op (st2 := (1, land x y) :: st) (fun p l e s m args below meth c H locs cells slots Q D ad aC A lsm C hS hL cl cs _ _ K => lv_land C.1 C.2.1 (dcd1 hd rfl) ?_) (fun _ cs => cs.tl.tl.l (n_in64 _)) k
  have e : av ad (1, land x y) = .long (Int64.ofInt x &&& Int64.ofInt y) := congrArg Value.long (Int64.ofInt_toInt _)
  rw [List.map_cons, e] at K; exact K
theorem q_lor {x y : Int} (hd : dcd Y.2.1 pc = some (.lor, n)) (hn : n = pc + 1) (k : AJ X Y R n ls ((1, lor x y) :: st) h Φ) : AJ X Y R pc ls ((1, y) :: (1, x) :: st) h Φ := by
  subst hn
  refine AJ.op (st2 := (1, lor x y) :: st) (fun p l e s m args below meth c H locs cells slots Q D ad aC A lsm C hS hL cl cs _ _ K => lv_lor C.1 C.2.1 (dcd1 hd rfl) ?_) (fun _ cs => cs.tl.tl.l (n_in64 _)) k
  have e : av ad (1, lor x y) = .long (Int64.ofInt x ||| Int64.ofInt y) := congrArg Value.long (Int64.ofInt_toInt _)
  rw [List.map_cons, e] at K; exact K
theorem q_lshl {x y : Int} (hd : dcd Y.2.1 pc = some (.lshl, n)) (hn : n = pc + 1) (k : AJ X Y R n ls ((1, lshl x y) :: st) h Φ) : AJ X Y R pc ls ((0, y) :: (1, x) :: st) h Φ := by
  subst hn
  exact AJ.op (fun p l e s m args below meth c H locs cells slots Q D ad aC A lsm C hS hL cl cs _ _ K => lv_lshl C.1 C.2.1 (dcd1 hd rfl) (Int64.ofInt_toInt _).symm K) (fun _ cs => cs.tl.tl.l (n_in64 _)) k
theorem q_lshr {x y : Int} (hd : dcd Y.2.1 pc = some (.lshr, n)) (hn : n = pc + 1) (k : AJ X Y R n ls ((1, lshr x y) :: st) h Φ) : AJ X Y R pc ls ((0, y) :: (1, x) :: st) h Φ := by
  subst hn
  exact AJ.op (fun p l e s m args below meth c H locs cells slots Q D ad aC A lsm C hS hL cl cs _ _ K => lv_lshr C.1 C.2.1 (dcd1 hd rfl) (Int64.ofInt_toInt _).symm K) (fun _ cs => cs.tl.tl.l (n_in64 _)) k
theorem q_lushr {x y : Int} (hd : dcd Y.2.1 pc = some (.lushr, n)) (hn : n = pc + 1) (k : AJ X Y R n ls ((1, lushr x y) :: st) h Φ) : AJ X Y R pc ls ((0, y) :: (1, x) :: st) h Φ := by
  subst hn
  exact AJ.op (fun p l e s m args below meth c H locs cells slots Q D ad aC A lsm C hS hL cl cs _ _ K => lv_lushr C.1 C.2.1 (dcd1 hd rfl) (Int64.ofInt_toInt _).symm K) (fun _ cs => cs.tl.tl.l (n_in64 _)) k
theorem q_idiv {x y : Int} (hd : dcd Y.2.1 pc = some (.idiv, n)) (hn : n = pc + 1) (hy : ¬ y = 0) (k : AJ X Y R n ls ((0, idv x y) :: st) h Φ) : AJ X Y R pc ls ((0, y) :: (0, x) :: st) h Φ := by
  subst hn
  refine AJ.op (fun p l e s m args below meth c H locs cells slots Q D ad aC A lsm C hS hL cl cs _ _ K => lv_idiv C.1 C.2.1 (dcd1 hd rfl) (fun q => hy ((n_eq32 cs.i1 in32_0).mp q)) ?_) (fun _ cs => cs.tl.tl.i (w32_in _)) k
  rw [n_div cs.tl.i1 cs.i1]; exact K
theorem q_irem {x y : Int} (hd : dcd Y.2.1 pc = some (.irem, n)) (hn : n = pc + 1) (hy : ¬ y = 0) (k : AJ X Y R n ls ((0, irm x y) :: st) h Φ) : AJ X Y R pc ls ((0, y) :: (0, x) :: st) h Φ := by
  subst hn
  refine AJ.op (fun p l e s m args below meth c H locs cells slots Q D ad aC A lsm C hS hL cl cs _ _ K => lv_irem C.1 C.2.1 (dcd1 hd rfl) (fun q => hy ((n_eq32 cs.i1 in32_0).mp q)) ?_) (fun _ cs => cs.tl.tl.i (w32_in _)) k
  rw [n_rem cs.tl.i1 cs.i1]; exact K
theorem q_ldiv {x y : Int} (hd : dcd Y.2.1 pc = some (.ldiv, n)) (hn : n = pc + 1) (hy : ¬ y = 0) (k : AJ X Y R n ls ((1, ldv x y) :: st) h Φ) : AJ X Y R pc ls ((1, y) :: (1, x) :: st) h Φ := by
  subst hn
  refine AJ.op (fun p l e s m args below meth c H locs cells slots Q D ad aC A lsm C hS hL cl cs _ _ K => lv_ldiv C.1 C.2.1 (dcd1 hd rfl) (fun q => hy ((n_eq64 cs.l1 in64_0).mp q)) ?_) (fun _ cs => cs.tl.tl.l (w64_in _)) k
  rw [n_divL cs.tl.l1 cs.l1]; exact K
theorem q_lrem {x y : Int} (hd : dcd Y.2.1 pc = some (.lrem, n)) (hn : n = pc + 1) (hy : ¬ y = 0) (k : AJ X Y R n ls ((1, lrm x y) :: st) h Φ) : AJ X Y R pc ls ((1, y) :: (1, x) :: st) h Φ := by
  subst hn
  refine AJ.op (fun p l e s m args below meth c H locs cells slots Q D ad aC A lsm C hS hL cl cs _ _ K => lv_lrem C.1 C.2.1 (dcd1 hd rfl) (fun q => hy ((n_eq64 cs.l1 in64_0).mp q)) ?_) (fun _ cs => cs.tl.tl.l (w64_in _)) k
  rw [n_remL cs.tl.l1 cs.l1]; exact K
theorem q_ineg {x : Int} (hd : dcd Y.2.1 pc = some (.ineg, n)) (hn : n = pc + 1) (k : AJ X Y R n ls ((0, w32 (-x)) :: st) h Φ) : AJ X Y R pc ls ((0, x) :: st) h Φ := by
  subst hn
  refine AJ.op (fun p l e s m args below meth c H locs cells slots Q D ad aC A lsm C hS hL cl cs _ _ K => lv_ineg C.1 C.2.1 (dcd1 hd rfl) ?_) (fun _ cs => cs.tl.i (w32_in _)) k
  rw [n_neg]; exact K
theorem q_lneg {x : Int} (hd : dcd Y.2.1 pc = some (.lneg, n)) (hn : n = pc + 1) (k : AJ X Y R n ls ((1, w64 (-x)) :: st) h Φ) : AJ X Y R pc ls ((1, x) :: st) h Φ := by
  subst hn
  refine AJ.op (fun p l e s m args below meth c H locs cells slots Q D ad aC A lsm C hS hL cl cs _ _ K => lv_lneg C.1 C.2.1 (dcd1 hd rfl) ?_) (fun _ cs => cs.tl.l (w64_in _)) k
  rw [n_negL]; exact K
theorem q_i2l {x : Int} (hd : dcd Y.2.1 pc = some (.i2l, n)) (hn : n = pc + 1) (k : AJ X Y R n ls ((1, x) :: st) h Φ) : AJ X Y R pc ls ((0, x) :: st) h Φ := by
  subst hn
  exact AJ.op (fun p l e s m args below meth c H locs cells slots Q D ad aC A lsm C hS hL cl cs _ _ K => lv_i2l C.1 C.2.1 (dcd1 hd rfl) (Int64.toInt_inj.1 (by rw [Int32.toInt_toInt64, n_id32 cs.i1, n_id64 ⟨by have := cs.i1.1; omega, by have := cs.i1.2; omega⟩])) K) (fun _ cs => cs.tl.l ⟨by have := cs.i1.1; omega, by have := cs.i1.2; omega⟩) k
theorem q_l2i {x : Int} (hd : dcd Y.2.1 pc = some (.l2i, n)) (hn : n = pc + 1) (k : AJ X Y R n ls ((0, w32 x) :: st) h Φ) : AJ X Y R pc ls ((1, x) :: st) h Φ := by
  subst hn
  exact AJ.op (fun p l e s m args below meth c H locs cells slots Q D ad aC A lsm C hS hL cl cs _ _ K => lv_l2i C.1 C.2.1 (dcd1 hd rfl) (by rw [Int64.toInt32_ofInt, n_of32]) K) (fun _ cs => cs.tl.i (w32_in _)) k
theorem q_i2c {x : Int} (hd : dcd Y.2.1 pc = some (.i2c, n)) (hn : n = pc + 1) (k : AJ X Y R n ls ((0, i2c x) :: st) h Φ) : AJ X Y R pc ls ((0, x) :: st) h Φ := by
  subst hn
  exact AJ.op (fun p l e s m args below meth c H locs cells slots Q D ad aC A lsm C hS hL cl cs _ _ K => lv_i2c C.1 C.2.1 (dcd1 hd rfl) (n_i2c x) K) (fun _ cs => cs.tl.i ⟨by unfold i2c; omega, by unfold i2c; omega⟩) k
theorem q_lcmp {x y : Int} (hd : dcd Y.2.1 pc = some (.lcmp, n)) (hn : n = pc + 1) (k : AJ X Y R n ls ((0, lcmp x y) :: st) h Φ) : AJ X Y R pc ls ((1, y) :: (1, x) :: st) h Φ := by
  subst hn
  refine AJ.op (fun p l e s m args below meth c H locs cells slots Q D ad aC A lsm C hS hL cl cs _ _ K => W.lcmp C.1 C.2.1 (dcd1 hd rfl) ?_) (fun _ cs => cs.tl.tl.i (by unfold lcmp in32; split <;> (try split) <;> omega)) k
  rw [n_lcmp cs.tl.l1 cs.l1]; exact K
theorem q_dup {t : Nat} {x : Int} (hd : dcd Y.2.1 pc = some (.dup, n)) (hn : n = pc + 1) (ht : t ≠ 1) (k : AJ X Y R n ls ((t, x) :: (t, x) :: st) h Φ) : AJ X Y R pc ls ((t, x) :: st) h Φ := by
  subst hn
  exact AJ.op (fun p l e s m args below meth c H locs cells slots Q D ad aC A lsm C hS hL cl cs _ _ K => lv_dup C.1 C.2.1 (dcd1 hd rfl) (by rw [av_cat, if_neg ht]) K) (fun _ cs => cs.of (cs _ List.mem_cons_self)) k
theorem q_dup2 {t u : Nat} {x y : Int} (hd : dcd Y.2.1 pc = some (.dup2, n)) (hn : n = pc + 1) (ht : t ≠ 1) (hu : u ≠ 1) (k : AJ X Y R n ls ((t, x) :: (u, y) :: (t, x) :: (u, y) :: st) h Φ) : AJ X Y R pc ls ((t, x) :: (u, y) :: st) h Φ := by
  subst hn
  exact AJ.op (fun p l e s m args below meth c H locs cells slots Q D ad aC A lsm C hS hL cl cs _ _ K => lv_dup2_11 C.1 C.2.1 (dcd1 hd rfl) (by rw [av_cat, if_neg ht]) (by rw [av_cat, if_neg hu]) K) (fun _ cs => Can.of (cs _ List.mem_cons_self) (Can.of (cs.tl _ List.mem_cons_self) cs)) k
theorem q_pop {t : Nat} {x : Int} (hd : dcd Y.2.1 pc = some (.pop, n)) (hn : n = pc + 1) (ht : t ≠ 1) (k : AJ X Y R n ls st h Φ) : AJ X Y R pc ls ((t, x) :: st) h Φ := by
  subst hn
  exact AJ.op (fun p l e s m args below meth c H locs cells slots Q D ad aC A lsm C hS hL cl cs _ _ K => lv_pop C.1 C.2.1 (dcd1 hd rfl) (by rw [av_cat, if_neg ht]) K) (fun _ cs => cs.tl) k
theorem q_goto {off : Int} {tgt : Nat} (hd : dcd Y.2.1 pc = some (.goto off, n)) (hn : n = pc + 3) (ht : (pc : Int) + off = (tgt : Int)) (k : AJ X Y R tgt ls st h Φ) : AJ X Y R pc ls st h Φ := by
  subst hn
  exact AJ.op (fun p l e s m args below meth c H locs cells slots Q D ad aC A lsm C hS hL cl cs _ _ K => lv_goto C.1 C.2.1 (dcd1 hd rfl) ht K) (fun _ cs => cs) k
theorem q_icmp_eq {x y : Int} {off : Int} {tgt : Nat} (hd : dcd Y.2.1 pc = some (.if_icmp .eq off, n)) (hn : n = pc + 3) (ht : (pc : Int) + off = (tgt : Int)) (kt : x = y → AJ X Y R tgt ls st h Φ) (kf : ¬ (x = y) → AJ X Y R n ls st h Φ) : AJ X Y R pc ls ((0, y) :: (0, x) :: st) h Φ := by
  subst hn
  intro p l e s m args below meth c H locs cells slots Q D ad aC A lsm C hP hD hS hL cl cs ho hc1 hc2 ret
  have kt := fun q => kt q p l e s m args below meth c H locs cells slots Q D ad aC A lsm C hP hD hS hL cl cs.tl.tl ho hc1 hc2 ret
  have kf := fun q => kf q p l e s m args below meth c H locs cells slots Q D ad aC A lsm C hP hD hS hL cl cs.tl.tl ho hc1 hc2 ret
  exact lv_icmp_eq C.1 C.2.1 (dcd1 hd rfl) ht (fun q => kt ((n_eq32 cs.tl.i1 cs.i1).mp q)) (fun q => kf (fun z => q ((n_eq32 cs.tl.i1 cs.i1).mpr z)))
theorem q_if_eq {x : Int} {off : Int} {tgt : Nat} (hd : dcd Y.2.1 pc = some (.ifCond .eq off, n)) (hn : n = pc + 3) (ht : (pc : Int) + off = (tgt : Int)) (kt : x = 0 → AJ X Y R tgt ls st h Φ) (kf : ¬ (x = 0) → AJ X Y R n ls st h Φ) : AJ X Y R pc ls ((0, x) :: st) h Φ := by
  subst hn
  intro p l e s m args below meth c H locs cells slots Q D ad aC A lsm C hP hD hS hL cl cs ho hc1 hc2 ret
  have kt := fun q => kt q p l e s m args below meth c H locs cells slots Q D ad aC A lsm C hP hD hS hL cl cs.tl ho hc1 hc2 ret
  have kf := fun q => kf q p l e s m args below meth c H locs cells slots Q D ad aC A lsm C hP hD hS hL cl cs.tl ho hc1 hc2 ret
  exact lv_if_eq C.1 C.2.1 (dcd1 hd rfl) ht (fun q => kt ((n_eq32 cs.i1 in32_0).mp q)) (fun q => kf (fun z => q ((n_eq32 cs.i1 in32_0).mpr z)))
theorem q_icmp_ne {x y : Int} {off : Int} {tgt : Nat} (hd : dcd Y.2.1 pc = some (.if_icmp .ne off, n)) (hn : n = pc + 3) (ht : (pc : Int) + off = (tgt : Int)) (kt : ¬ x = y → AJ X Y R tgt ls st h Φ) (kf : x = y → AJ X Y R n ls st h Φ) : AJ X Y R pc ls ((0, y) :: (0, x) :: st) h Φ := by
  subst hn
  intro p l e s m args below meth c H locs cells slots Q D ad aC A lsm C hP hD hS hL cl cs ho hc1 hc2 ret
  have kt := fun q => kt q p l e s m args below meth c H locs cells slots Q D ad aC A lsm C hP hD hS hL cl cs.tl.tl ho hc1 hc2 ret
  have kf := fun q => kf q p l e s m args below meth c H locs cells slots Q D ad aC A lsm C hP hD hS hL cl cs.tl.tl ho hc1 hc2 ret
  exact lv_icmp_ne C.1 C.2.1 (dcd1 hd rfl) ht (fun q => kt (fun z => q ((n_eq32 cs.tl.i1 cs.i1).mpr z))) (fun q => kf ((n_eq32 cs.tl.i1 cs.i1).mp q))
theorem q_if_ne {x : Int} {off : Int} {tgt : Nat} (hd : dcd Y.2.1 pc = some (.ifCond .ne off, n)) (hn : n = pc + 3) (ht : (pc : Int) + off = (tgt : Int)) (kt : ¬ x = 0 → AJ X Y R tgt ls st h Φ) (kf : x = 0 → AJ X Y R n ls st h Φ) : AJ X Y R pc ls ((0, x) :: st) h Φ := by
  subst hn
  intro p l e s m args below meth c H locs cells slots Q D ad aC A lsm C hP hD hS hL cl cs ho hc1 hc2 ret
  have kt := fun q => kt q p l e s m args below meth c H locs cells slots Q D ad aC A lsm C hP hD hS hL cl cs.tl ho hc1 hc2 ret
  have kf := fun q => kf q p l e s m args below meth c H locs cells slots Q D ad aC A lsm C hP hD hS hL cl cs.tl ho hc1 hc2 ret
  exact lv_if_ne C.1 C.2.1 (dcd1 hd rfl) ht (fun q => kt (fun z => q ((n_eq32 cs.i1 in32_0).mpr z))) (fun q => kf ((n_eq32 cs.i1 in32_0).mp q))
theorem q_icmp_lt {x y : Int} {off : Int} {tgt : Nat} (hd : dcd Y.2.1 pc = some (.if_icmp .lt off, n)) (hn : n = pc + 3) (ht : (pc : Int) + off = (tgt : Int)) (kt : x < y → AJ X Y R tgt ls st h Φ) (kf : ¬ (x < y) → AJ X Y R n ls st h Φ) : AJ X Y R pc ls ((0, y) :: (0, x) :: st) h Φ := by
  subst hn
  intro p l e s m args below meth c H locs cells slots Q D ad aC A lsm C hP hD hS hL cl cs ho hc1 hc2 ret
  have kt := fun q => kt q p l e s m args below meth c H locs cells slots Q D ad aC A lsm C hP hD hS hL cl cs.tl.tl ho hc1 hc2 ret
  have kf := fun q => kf q p l e s m args below meth c H locs cells slots Q D ad aC A lsm C hP hD hS hL cl cs.tl.tl ho hc1 hc2 ret
  exact lv_icmp_lt C.1 C.2.1 (dcd1 hd rfl) ht (fun q => kt ((n_lt32 cs.tl.i1 cs.i1).mp q)) (fun q => kf (fun z => q ((n_lt32 cs.tl.i1 cs.i1).mpr z)))
theorem q_if_lt {x : Int} {off : Int} {tgt : Nat} (hd : dcd Y.2.1 pc = some (.ifCond .lt off, n)) (hn : n = pc + 3) (ht : (pc : Int) + off = (tgt : Int)) (kt : x < 0 → AJ X Y R tgt ls st h Φ) (kf : ¬ (x < 0) → AJ X Y R n ls st h Φ) : AJ X Y R pc ls ((0, x) :: st) h Φ := by
  subst hn
  intro p l e s m args below meth c H locs cells slots Q D ad aC A lsm C hP hD hS hL cl cs ho hc1 hc2 ret
  have kt := fun q => kt q p l e s m args below meth c H locs cells slots Q D ad aC A lsm C hP hD hS hL cl cs.tl ho hc1 hc2 ret
  have kf := fun q => kf q p l e s m args below meth c H locs cells slots Q D ad aC A lsm C hP hD hS hL cl cs.tl ho hc1 hc2 ret
  exact lv_if_lt C.1 C.2.1 (dcd1 hd rfl) ht (fun q => kt ((n_lt32 cs.i1 in32_0).mp q)) (fun q => kf (fun z => q ((n_lt32 cs.i1 in32_0).mpr z)))
theorem q_icmp_ge {x y : Int} {off : Int} {tgt : Nat} (hd : dcd Y.2.1 pc = some (.if_icmp .ge off, n)) (hn : n = pc + 3) (ht : (pc : Int) + off = (tgt : Int)) (kt : y ≤ x → AJ X Y R tgt ls st h Φ) (kf : ¬ (y ≤ x) → AJ X Y R n ls st h Φ) : AJ X Y R pc ls ((0, y) :: (0, x) :: st) h Φ := by
  subst hn
  intro p l e s m args below meth c H locs cells slots Q D ad aC A lsm C hP hD hS hL cl cs ho hc1 hc2 ret
  have kt := fun q => kt q p l e s m args below meth c H locs cells slots Q D ad aC A lsm C hP hD hS hL cl cs.tl.tl ho hc1 hc2 ret
  have kf := fun q => kf q p l e s m args below meth c H locs cells slots Q D ad aC A lsm C hP hD hS hL cl cs.tl.tl ho hc1 hc2 ret
  exact lv_icmp_ge C.1 C.2.1 (dcd1 hd rfl) ht (fun q => kt ((n_le32 cs.i1 cs.tl.i1).mp q)) (fun q => kf (fun z => q ((n_le32 cs.i1 cs.tl.i1).mpr z)))
theorem q_if_ge {x : Int} {off : Int} {tgt : Nat} (hd : dcd Y.2.1 pc = some (.ifCond .ge off, n)) (hn : n = pc + 3) (ht : (pc : Int) + off = (tgt : Int)) (kt : 0 ≤ x → AJ X Y R tgt ls st h Φ) (kf : ¬ (0 ≤ x) → AJ X Y R n ls st h Φ) : AJ X Y R pc ls ((0, x) :: st) h Φ := by
  subst hn
  intro p l e s m args below meth c H locs cells slots Q D ad aC A lsm C hP hD hS hL cl cs ho hc1 hc2 ret
  have kt := fun q => kt q p l e s m args below meth c H locs cells slots Q D ad aC A lsm C hP hD hS hL cl cs.tl ho hc1 hc2 ret
  have kf := fun q => kf q p l e s m args below meth c H locs cells slots Q D ad aC A lsm C hP hD hS hL cl cs.tl ho hc1 hc2 ret
  exact lv_if_ge C.1 C.2.1 (dcd1 hd rfl) ht (fun q => kt ((n_le32 in32_0 cs.i1).mp q)) (fun q => kf (fun z => q ((n_le32 in32_0 cs.i1).mpr z)))
theorem q_icmp_gt {x y : Int} {off : Int} {tgt : Nat} (hd : dcd Y.2.1 pc = some (.if_icmp .gt off, n)) (hn : n = pc + 3) (ht : (pc : Int) + off = (tgt : Int)) (kt : y < x → AJ X Y R tgt ls st h Φ) (kf : ¬ (y < x) → AJ X Y R n ls st h Φ) : AJ X Y R pc ls ((0, y) :: (0, x) :: st) h Φ := by
  subst hn
  intro p l e s m args below meth c H locs cells slots Q D ad aC A lsm C hP hD hS hL cl cs ho hc1 hc2 ret
  have kt := fun q => kt q p l e s m args below meth c H locs cells slots Q D ad aC A lsm C hP hD hS hL cl cs.tl.tl ho hc1 hc2 ret
  have kf := fun q => kf q p l e s m args below meth c H locs cells slots Q D ad aC A lsm C hP hD hS hL cl cs.tl.tl ho hc1 hc2 ret
  exact lv_icmp_gt C.1 C.2.1 (dcd1 hd rfl) ht (fun q => kt ((n_lt32 cs.i1 cs.tl.i1).mp q)) (fun q => kf (fun z => q ((n_lt32 cs.i1 cs.tl.i1).mpr z)))
theorem q_if_gt {x : Int} {off : Int} {tgt : Nat} (hd : dcd Y.2.1 pc = some (.ifCond .gt off, n)) (hn : n = pc + 3) (ht : (pc : Int) + off = (tgt : Int)) (kt : 0 < x → AJ X Y R tgt ls st h Φ) (kf : ¬ (0 < x) → AJ X Y R n ls st h Φ) : AJ X Y R pc ls ((0, x) :: st) h Φ := by
  subst hn
  intro p l e s m args below meth c H locs cells slots Q D ad aC A lsm C hP hD hS hL cl cs ho hc1 hc2 ret
  have kt := fun q => kt q p l e s m args below meth c H locs cells slots Q D ad aC A lsm C hP hD hS hL cl cs.tl ho hc1 hc2 ret
  have kf := fun q => kf q p l e s m args below meth c H locs cells slots Q D ad aC A lsm C hP hD hS hL cl cs.tl ho hc1 hc2 ret
  exact lv_if_gt C.1 C.2.1 (dcd1 hd rfl) ht (fun q => kt ((n_lt32 in32_0 cs.i1).mp q)) (fun q => kf (fun z => q ((n_lt32 in32_0 cs.i1).mpr z)))
theorem q_icmp_le {x y : Int} {off : Int} {tgt : Nat} (hd : dcd Y.2.1 pc = some (.if_icmp .le off, n)) (hn : n = pc + 3) (ht : (pc : Int) + off = (tgt : Int)) (kt : x ≤ y → AJ X Y R tgt ls st h Φ) (kf : ¬ (x ≤ y) → AJ X Y R n ls st h Φ) : AJ X Y R pc ls ((0, y) :: (0, x) :: st) h Φ := by
  subst hn
  intro p l e s m args below meth c H locs cells slots Q D ad aC A lsm C hP hD hS hL cl cs ho hc1 hc2 ret
  have kt := fun q => kt q p l e s m args below meth c H locs cells slots Q D ad aC A lsm C hP hD hS hL cl cs.tl.tl ho hc1 hc2 ret
  have kf := fun q => kf q p l e s m args below meth c H locs cells slots Q D ad aC A lsm C hP hD hS hL cl cs.tl.tl ho hc1 hc2 ret
  exact lv_icmp_le C.1 C.2.1 (dcd1 hd rfl) ht (fun q => kt ((n_le32 cs.tl.i1 cs.i1).mp q)) (fun q => kf (fun z => q ((n_le32 cs.tl.i1 cs.i1).mpr z)))
theorem q_if_le {x : Int} {off : Int} {tgt : Nat} (hd : dcd Y.2.1 pc = some (.ifCond .le off, n)) (hn : n = pc + 3) (ht : (pc : Int) + off = (tgt : Int)) (kt : x ≤ 0 → AJ X Y R tgt ls st h Φ) (kf : ¬ (x ≤ 0) → AJ X Y R n ls st h Φ) : AJ X Y R pc ls ((0, x) :: st) h Φ := by
  subst hn
  intro p l e s m args below meth c H locs cells slots Q D ad aC A lsm C hP hD hS hL cl cs ho hc1 hc2 ret
  have kt := fun q => kt q p l e s m args below meth c H locs cells slots Q D ad aC A lsm C hP hD hS hL cl cs.tl ho hc1 hc2 ret
  have kf := fun q => kf q p l e s m args below meth c H locs cells slots Q D ad aC A lsm C hP hD hS hL cl cs.tl ho hc1 hc2 ret
  exact lv_if_le C.1 C.2.1 (dcd1 hd rfl) ht (fun q => kt ((n_le32 cs.i1 in32_0).mp q)) (fun q => kf (fun z => q ((n_le32 cs.i1 in32_0).mpr z)))
theorem q_istore {i : Nat} {x : Int} {ls' : List AV} (hd : dcd Y.2.1 pc = some (.istore i, n)) (hn : n = pc + 2) (hl : i < ls.length) (he : st1 ls i (0, x) = ls') (k : AJ X Y R n ls' st h Φ) : AJ X Y R pc ls ((0, x) :: st) h Φ := by
  subst hn; subst he
  intro p l e0 s m args below meth c H locs cells slots Q D ad aC A lsm C hP hD hS hL cl cs ho hc1 hc2 ret
  refine lv_istore C.1 C.2.1 (dcd1 hd rfl) hL.has (by have := hL.2.2.1; omega) rfl (fun ls' hl' => ?_)
  exact k p l e0 s m args below meth c H locs cells slots Q D ad aC A ls' C hP hD hS (LcR_st1 (v := (0, x)) hL (Nat.le_of_ble_eq_true rfl) hl') (Can_st1 cl (cs _ List.mem_cons_self)) cs.tl ho hc1 hc2 ret
theorem q_istore_n {j : Fin 4} {i : Nat} {x : Int} {ls' : List AV} (hd : dcd Y.2.1 pc = some (.istore_n j, n)) (hn : n = pc + 1) (hi : (j : Nat) = i) (hl : i < ls.length) (he : st1 ls i (0, x) = ls') (k : AJ X Y R n ls' st h Φ) : AJ X Y R pc ls ((0, x) :: st) h Φ := by
  subst hn; subst he
  intro p l e0 s m args below meth c H locs cells slots Q D ad aC A lsm C hP hD hS hL cl cs ho hc1 hc2 ret
  refine lv_istore_n C.1 C.2.1 (dcd1 hd rfl) hi hL.has (by have := hL.2.2.1; omega) rfl (fun ls' hl' => ?_)
  exact k p l e0 s m args below meth c H locs cells slots Q D ad aC A ls' C hP hD hS (LcR_st1 (v := (0, x)) hL (Nat.le_of_ble_eq_true rfl) hl') (Can_st1 cl (cs _ List.mem_cons_self)) cs.tl ho hc1 hc2 ret
theorem q_astore {i : Nat} {x : Int} {ls' : List AV} (hd : dcd Y.2.1 pc = some (.astore i, n)) (hn : n = pc + 2) (hx : ¬ x = 0) (hl : i < ls.length) (he : st1 ls i (2, x) = ls') (k : AJ X Y R n ls' st h Φ) : AJ X Y R pc ls ((2, x) :: st) h Φ := by
  subst hn; subst he
  intro p l e0 s m args below meth c H locs cells slots Q D ad aC A lsm C hP hD hS hL cl cs ho hc1 hc2 ret
  have e : av ad (2, x) = .ref (ad x) := if_neg hx
  rw [List.map_cons, e]
  refine lv_astore C.1 C.2.1 (dcd1 hd rfl) hL.has (by have := hL.2.2.1; omega) rfl (fun ls' hl' => ?_)
  rw [← e] at hl'
  exact k p l e0 s m args below meth c H locs cells slots Q D ad aC A ls' C hP hD hS (LcR_st1 hL (Nat.le_of_ble_eq_true rfl) hl') (Can_st1 cl (cs _ List.mem_cons_self)) cs.tl ho hc1 hc2 ret
theorem q_astore_n {j : Fin 4} {i : Nat} {x : Int} {ls' : List AV} (hd : dcd Y.2.1 pc = some (.astore_n j, n)) (hn : n = pc + 1) (hi : (j : Nat) = i) (hx : ¬ x = 0) (hl : i < ls.length) (he : st1 ls i (2, x) = ls') (k : AJ X Y R n ls' st h Φ) : AJ X Y R pc ls ((2, x) :: st) h Φ := by
  subst hn; subst he
  intro p l e0 s m args below meth c H locs cells slots Q D ad aC A lsm C hP hD hS hL cl cs ho hc1 hc2 ret
  have e : av ad (2, x) = .ref (ad x) := if_neg hx
  rw [List.map_cons, e]
  refine lv_astore_n C.1 C.2.1 (dcd1 hd rfl) hi hL.has (by have := hL.2.2.1; omega) rfl (fun ls' hl' => ?_)
  rw [← e] at hl'
  exact k p l e0 s m args below meth c H locs cells slots Q D ad aC A ls' C hP hD hS (LcR_st1 hL (Nat.le_of_ble_eq_true rfl) hl') (Can_st1 cl (cs _ List.mem_cons_self)) cs.tl ho hc1 hc2 ret
theorem q_lstore {i : Nat} {x : Int} {ls' : List AV} (hd : dcd Y.2.1 pc = some (.lstore i, n)) (hn : n = pc + 2) (hl : i + 1 < ls.length) (he : stL ls i (1, x) = ls') (k : AJ X Y R n ls' st h Φ) : AJ X Y R pc ls ((1, x) :: st) h Φ := by
  subst hn; subst he
  intro p l e0 s m args below meth c H locs cells slots Q D ad aC A lsm C hP hD hS hL cl cs ho hc1 hc2 ret
  refine lv_lstore C.1 C.2.1 (dcd1 hd rfl) hL.has (by have := hL.2.2.1; omega) rfl (fun ls' hl' => ?_)
  exact k p l e0 s m args below meth c H locs cells slots Q D ad aC A ls' C hP hD hS (LcR_stL (v := (1, x)) hL (Nat.le_of_ble_eq_true rfl) hl') (Can_stL cl (cs _ List.mem_cons_self)) cs.tl ho hc1 hc2 ret
theorem q_lstore_n {j : Fin 4} {i : Nat} {x : Int} {ls' : List AV} (hd : dcd Y.2.1 pc = some (.lstore_n j, n)) (hn : n = pc + 1) (hi : (j : Nat) = i) (hl : i + 1 < ls.length) (he : stL ls i (1, x) = ls') (k : AJ X Y R n ls' st h Φ) : AJ X Y R pc ls ((1, x) :: st) h Φ := by
  subst hn; subst he
  intro p l e0 s m args below meth c H locs cells slots Q D ad aC A lsm C hP hD hS hL cl cs ho hc1 hc2 ret
  refine lv_lstore_n C.1 C.2.1 (dcd1 hd rfl) hi hL.has (by have := hL.2.2.1; omega) rfl (fun ls' hl' => ?_)
  exact k p l e0 s m args below meth c H locs cells slots Q D ad aC A ls' C hP hD hS (LcR_stL (v := (1, x)) hL (Nat.le_of_ble_eq_true rfl) hl') (Can_stL cl (cs _ List.mem_cons_self)) cs.tl ho hc1 hc2 ret
theorem q_iinc {i : Nat} {d x : Int} {ls' : List AV} (hd : dcd Y.2.1 pc = some (.iinc i d, n)) (hn : n = pc + 3) (hx : ls[i]? = some (0, x)) (he : st1 ls i (0, w32 (x + d)) = ls') (k : AJ X Y R n ls' st h Φ) : AJ X Y R pc ls st h Φ := by
  subst hn; subst he
  intro p l e0 s m args below meth c H locs cells slots Q D ad aC A lsm C hP hD hS hL cl cs ho hc1 hc2 ret
  have hlt : i < ls.length := (List.getElem?_eq_some_iff.mp hx).1
  have hm : (i, av ad (0, x)) ∈ asl ad ls := asl_mem.mpr ⟨(0, x), hx, Nat.le_of_ble_eq_true rfl, rfl⟩
  obtain ⟨q, hq⟩ := List.getElem?_of_mem hm
  refine lv_iinc (k := q) (v := Int32.ofInt (w32 (x + d))) C.1 C.2.1 (dcd1 hd rfl) hL.has hq (n_add x d) (by have := hL.2.2.1; omega) rfl (fun ls' hl' => ?_)
  exact k p l e0 s m args below meth c H locs cells slots Q D ad aC A ls' C hP hD hS (LcR_st1 (v := (0, w32 (x + d))) hL (Nat.le_of_ble_eq_true rfl) hl') (Can_st1 cl ⟨fun _ => w32_in _, fun q => (by cases q)⟩) cs ho hc1 hc2 ret
/-- returns -/
theorem q_ireturn {x : Int} (hd : dcd Y.2.1 pc = some (.ireturn, n)) (hn : n = pc + 1) (hΦ : Φ (some (0, x)) h) : AJ X Y R pc ls [(0, x)] h Φ := by
  subst hn
  intro p l e0 s m args below meth c H locs cells slots Q D ad aC A lsm C hP hD hS hL cl cs ho hc1 hc2 ret
  exact ret (some (0, x)) h H locs lsm pc hΦ ho cs hP hD hS (dcd1 hd rfl)
theorem q_lreturn {x : Int} (hd : dcd Y.2.1 pc = some (.lreturn, n)) (hn : n = pc + 1) (hΦ : Φ (some (1, x)) h) : AJ X Y R pc ls [(1, x)] h Φ := by
  subst hn
  intro p l e0 s m args below meth c H locs cells slots Q D ad aC A lsm C hP hD hS hL cl cs ho hc1 hc2 ret
  exact ret (some (1, x)) h H locs lsm pc hΦ ho cs hP hD hS (dcd1 hd rfl)
theorem q_return (hd : dcd Y.2.1 pc = some (.return_, n)) (hn : n = pc + 1) (hΦ : Φ none h) : AJ X Y R pc ls [] h Φ := by
  subst hn
  intro p l e0 s m args below meth c H locs cells slots Q D ad aC A lsm C hP hD hS hL cl cs ho hc1 hc2 ret
  exact ret none h H locs lsm pc hΦ ho cs hP hD hS (dcd1 hd rfl)
end Rules
