/-! bits of ints -/
def bt (x : Int) (i : Nat) : Bool := (Int32.ofInt x).toBitVec.getLsbD i
theorem and1 (v : BitVec 32) : (v &&& 1#32).toInt = if v.getLsbD 0 = true then 1 else 0 := by
  have e : (v &&& 1#32).toNat = v.toNat % 2 := by
    rw [BitVec.toNat_and]
    exact Nat.and_two_pow_sub_one_eq_mod _ 1
  have l := Nat.mod_lt v.toNat (show 0 < 2 by omega)
  rw [BitVec.toInt_eq_toNat_of_lt (by rw [e]; omega), e]
  have t : v.getLsbD 0 = decide (v.toNat % 2 = 1) := by
    show v.toNat.testBit 0 = _
    rw [Nat.testBit_zero]
  rw [t]
  by_cases c : v.toNat % 2 = 1
  · rw [if_pos (decide_eq_true c), c]; rfl
  · rw [if_neg (fun z => c (of_decide_eq_true z)), show v.toNat % 2 = 0 by omega]; rfl
theorem bt_bit {x : Int} {i : Nat} (hi : i < 32) : iand (ishr x (i : Int)) 1 = if bt x i = true then 1 else 0 := by
  have hs : ((Int32.ofInt (i : Int) &&& 31).toBitVec.smod 32).toNat = i := by
    have key : ((List.range 32).all (fun i => decide (((Int32.ofInt (i : Int) &&& 31).toBitVec.smod 32).toNat = i))) = true := by decide +kernel
    exact of_decide_eq_true (List.all_eq_true.mp key i (List.mem_range.mpr hi))
  unfold iand ishr
  rw [Int32.ofInt_toInt]
  show ((Int32.ofInt x >>> (Int32.ofInt (i : Int) &&& 31)).toBitVec &&& 1#32).toInt = _
  rw [and1, Int32.toBitVec_shiftRight, BitVec.sshiftRight_eq', hs, BitVec.getLsbD_sshiftRight, if_pos (show i + 0 < 32 by omega), decide_eq_false (show ¬ 32 ≤ 0 by omega), Bool.not_false, Bool.true_and]
  rfl
theorem bt_or (x y : Int) (i : Nat) : bt (ior x y) i = (bt x i || bt y i) := by
  unfold bt ior
  rw [Int32.ofInt_toInt, Int32.toBitVec_or, BitVec.getLsbD_or]
theorem bt_and (x y : Int) (i : Nat) : bt (iand x y) i = (bt x i && bt y i) := by
  unfold bt iand
  rw [Int32.ofInt_toInt, Int32.toBitVec_and, BitVec.getLsbD_and]
theorem bt_m1 {i : Nat} (hi : i < 32) : bt (-1) i = true := by
  have key : ((List.range 32).all (fun i => bt (-1) i)) = true := by decide +kernel
  exact List.all_eq_true.mp key i (List.mem_range.mpr hi)
theorem bt_not (x : Int) {i : Nat} (hi : i < 32) : bt (ixor x (-1)) i = !(bt x i) := by
  have m := bt_m1 hi
  unfold bt at m
  unfold bt ixor
  rw [Int32.ofInt_toInt, Int32.toBitVec_xor, BitVec.getLsbD_xor, m, Bool.xor_true]
theorem bt_0 (i : Nat) : bt 0 i = false := by
  show (0#32).getLsbD i = false
  exact BitVec.getLsbD_zero
theorem bt_ge (x : Int) {i : Nat} (hi : 32 ≤ i) : bt x i = false := BitVec.getLsbD_of_ge _ _ hi
theorem bt_1 {k i : Nat} (hk : k < 32) (hi : i < 32) : bt (ishl 1 (k : Int)) i = decide (i = k) := by
  have key : ((List.range 32).all (fun k => (List.range 32).all (fun i => bt (ishl 1 (k : Int)) i == decide (i = k)))) = true := by decide +kernel
  exact eq_of_beq (List.all_eq_true.mp (List.all_eq_true.mp key k (List.mem_range.mpr hk)) i (List.mem_range.mpr hi))
theorem bt_inj {x y : Int} (hx : in32 x) (hy : in32 y) (h : ∀ i, i < 32 → bt x i = bt y i) : x = y := by
  have e : Int32.ofInt x = Int32.ofInt y := Int32.toBitVec_inj.1 (BitVec.eq_of_getLsbD_eq (fun i hi => h i hi))
  exact (n_eq32 hx hy).mp e
theorem in_iand (x y : Int) : in32 (iand x y) := n_in32 _
theorem in_ior (x y : Int) : in32 (ior x y) := n_in32 _
theorem iand_0 {x y : Int} : iand x y = 0 ↔ ∀ i, i < 32 → bt x i = true → bt y i = false := by
  constructor
  · intro h i hi hx
    have e := bt_and x y i
    rw [h, bt_0, hx, Bool.true_and] at e
    exact e.symm
  · intro h
    refine bt_inj (in_iand x y) in32_0 (fun i hi => ?_)
    rw [bt_and, bt_0]
    cases hx : bt x i with
    | false => rfl
    | true => rw [h i hi hx]; rfl
theorem bt_hi {x : Int} (h : 0 ≤ x) {n : Nat} (hn : n ≤ 31) (hx : x < 2 ^ n) {i : Nat} (hi : n ≤ i) : bt x i = false := by
  have p31 : (2 : Int) ^ n ≤ 2 ^ 31 := by
    have := Nat.pow_le_pow_right (n := 2) (by omega) hn
    exact_mod_cast this
  obtain ⟨k, rfl⟩ : ∃ k : Nat, x = (k : Int) := ⟨x.toNat, by omega⟩
  have hk : k < 2 ^ n := by exact_mod_cast hx
  have h31 : k < 2 ^ 31 := by exact_mod_cast (Int.lt_of_lt_of_le hx p31)
  unfold bt
  rw [n_ofN]
  show (BitVec.ofNat 32 k).getLsbD i = false
  rw [BitVec.getLsbD_ofNat, Nat.testBit_lt_two_pow (Nat.lt_of_lt_of_le hk (Nat.pow_le_pow_right (by omega) hi)), Bool.and_false]
theorem bt_lo {x : Int} (hx : in32 x) {n : Nat} (hn : n ≤ 31) (h : ∀ i, n ≤ i → i < 32 → bt x i = false) : 0 ≤ x ∧ x < 2 ^ n := by
  have t : ∀ i, n ≤ i → (Int32.ofInt x).toBitVec.toNat.testBit i = false := fun i hi => by
    by_cases c : i < 32
    · exact h i hi c
    · exact bt_ge x (by omega)
  have l := Nat.lt_pow_two_of_testBit _ t
  have p31 := Nat.pow_le_pow_right (n := 2) (by omega) hn
  have e : x = ((Int32.ofInt x).toBitVec.toNat : Int) := by
    have := BitVec.toInt_eq_toNat_of_lt (x := (Int32.ofInt x).toBitVec) (by omega)
    rw [← this]; exact (n_id32 hx).symm
  rw [e]
  exact ⟨by omega, by exact_mod_cast l⟩
/-- a set of acts gets one more -/
theorem ior_b {x : Int} {k n : Nat} (h : 0 ≤ x) (hx : x < 2 ^ n) (hn : n ≤ 31) (hk : k < n) : 0 ≤ ior x (ishl 1 (k : Int)) ∧ ior x (ishl 1 (k : Int)) < 2 ^ n := by
  refine bt_lo (in_ior _ _) hn (fun i hi h32 => ?_)
  rw [bt_or, bt_hi h hn hx hi, bt_1 (by omega) h32, decide_eq_false (by omega)]; rfl
theorem bt_ins {x : Int} {k i : Nat} (hk : k < 32) (hi : i < 32) : bt (ior x (ishl 1 (k : Int))) i = (bt x i || decide (i = k)) := by rw [bt_or, bt_1 hk hi]
theorem ior_gt {x : Int} {k : Nat} (h : 0 ≤ x) (hx : x < 512) (hk : k < 9) (hb : bt x k = false) : x < ior x (ishl 1 (k : Int)) := by
  have key : ((List.range 512).all (fun x => (List.range 9).all (fun k => bt (x : Int) k || decide ((x : Int) < ior (x : Int) (ishl 1 (k : Int)))))) = true := by decide +kernel
  have e := List.all_eq_true.mp (List.all_eq_true.mp key x.toNat (List.mem_range.mpr (by omega))) k (List.mem_range.mpr hk)
  rw [show ((x.toNat : Nat) : Int) = x by omega, hb, Bool.false_or] at e
  exact of_decide_eq_true e
