/-! numbers: a value of the walk is an Int within its type's range -/
def w32 (z : Int) : Int := (z + 2147483648) % 4294967296 - 2147483648
def w64 (z : Int) : Int := (z + 9223372036854775808) % 18446744073709551616 - 9223372036854775808
def in32 (z : Int) : Prop := -2147483648 ≤ z ∧ z < 2147483648
def in64 (z : Int) : Prop := -9223372036854775808 ≤ z ∧ z < 9223372036854775808
theorem w32_in (z : Int) : in32 (w32 z) := by unfold w32 in32; omega
theorem w64_in (z : Int) : in64 (w64 z) := by unfold w64 in64; omega
theorem w32_id {z : Int} (h : in32 z) : w32 z = z := by unfold w32; unfold in32 at h; omega
theorem w64_id {z : Int} (h : in64 z) : w64 z = z := by unfold w64; unfold in64 at h; omega
theorem w32_eq {z : Int} (h1 : -2147483648 ≤ z) (h2 : z < 2147483648) : w32 z = z := w32_id ⟨h1, h2⟩
theorem w64_eq {z : Int} (h1 : -9223372036854775808 ≤ z) (h2 : z < 9223372036854775808) : w64 z = z := w64_id ⟨h1, h2⟩
theorem w32_bmod (z : Int) : w32 z = Int.bmod z 4294967296 := by
  rw [Int.bmod_def]; unfold w32; split <;> omega
theorem w64_bmod (z : Int) : w64 z = Int.bmod z 18446744073709551616 := by
  rw [Int.bmod_def]; unfold w64; split <;> omega
theorem n_to32 (z : Int) : (Int32.ofInt z).toInt = w32 z := by rw [Int32.toInt_ofInt, w32_bmod]
theorem n_to64 (z : Int) : (Int64.ofInt z).toInt = w64 z := by rw [Int64.toInt_ofInt, w64_bmod]
theorem n_of32 (z : Int) : Int32.ofInt (w32 z) = Int32.ofInt z := Int32.toInt_inj.1 (by rw [n_to32, n_to32, w32_id (w32_in z)])
theorem n_of64 (z : Int) : Int64.ofInt (w64 z) = Int64.ofInt z := Int64.toInt_inj.1 (by rw [n_to64, n_to64, w64_id (w64_in z)])
theorem n_id32 {z : Int} (h : in32 z) : (Int32.ofInt z).toInt = z := by rw [n_to32, w32_id h]
theorem n_id64 {z : Int} (h : in64 z) : (Int64.ofInt z).toInt = z := by rw [n_to64, w64_id h]
theorem n_in32 (x : Int32) : in32 x.toInt := ⟨x.le_toInt, x.toInt_lt⟩
theorem n_in64 (x : Int64) : in64 x.toInt := ⟨x.le_toInt, x.toInt_lt⟩
theorem n_eq32 {x y : Int} (hx : in32 x) (hy : in32 y) : Int32.ofInt x = Int32.ofInt y ↔ x = y :=
  ⟨fun h => by have := congrArg Int32.toInt h; rwa [n_id32 hx, n_id32 hy] at this, fun h => by rw [h]⟩
theorem n_eq64 {x y : Int} (hx : in64 x) (hy : in64 y) : Int64.ofInt x = Int64.ofInt y ↔ x = y :=
  ⟨fun h => by have := congrArg Int64.toInt h; rwa [n_id64 hx, n_id64 hy] at this, fun h => by rw [h]⟩
theorem n_lt32 {x y : Int} (hx : in32 x) (hy : in32 y) : Int32.ofInt x < Int32.ofInt y ↔ x < y := by rw [Int32.lt_iff_toInt_lt, n_id32 hx, n_id32 hy]
theorem n_le32 {x y : Int} (hx : in32 x) (hy : in32 y) : Int32.ofInt x ≤ Int32.ofInt y ↔ x ≤ y := by rw [Int32.le_iff_toInt_le, n_id32 hx, n_id32 hy]
theorem n_lt64 {x y : Int} (hx : in64 x) (hy : in64 y) : Int64.ofInt x < Int64.ofInt y ↔ x < y := by rw [Int64.lt_iff_toInt_lt, n_id64 hx, n_id64 hy]
def idv (x y : Int) : Int := w32 (Int.tdiv x y)
def irm (x y : Int) : Int := w32 (Int.tmod x y)
def ldv (x y : Int) : Int := w64 (Int.tdiv x y)
def lrm (x y : Int) : Int := w64 (Int.tmod x y)
theorem n_add (x y : Int) : Int32.ofInt x + Int32.ofInt y = Int32.ofInt (w32 (x + y)) := by rw [n_of32, Int32.ofInt_add]
theorem n_sub (x y : Int) : Int32.ofInt x - Int32.ofInt y = Int32.ofInt (w32 (x - y)) := by rw [n_of32, Int32.ofInt_sub]
theorem n_mul (x y : Int) : Int32.ofInt x * Int32.ofInt y = Int32.ofInt (w32 (x * y)) := by rw [n_of32, Int32.ofInt_mul]
theorem n_neg (x : Int) : -Int32.ofInt x = Int32.ofInt (w32 (-x)) := by rw [n_of32, Int32.ofInt_neg]
theorem n_addL (x y : Int) : Int64.ofInt x + Int64.ofInt y = Int64.ofInt (w64 (x + y)) := by rw [n_of64, Int64.ofInt_add]
theorem n_subL (x y : Int) : Int64.ofInt x - Int64.ofInt y = Int64.ofInt (w64 (x - y)) := by rw [n_of64, Int64.ofInt_sub]
theorem n_mulL (x y : Int) : Int64.ofInt x * Int64.ofInt y = Int64.ofInt (w64 (x * y)) := by rw [n_of64, Int64.ofInt_mul]
theorem n_negL (x : Int) : -Int64.ofInt x = Int64.ofInt (w64 (-x)) := by rw [n_of64, Int64.ofInt_neg]
theorem n_div {x y : Int} (hx : in32 x) (hy : in32 y) : Int32.ofInt x / Int32.ofInt y = Int32.ofInt (idv x y) := by
  apply Int32.toInt_inj.1
  rw [Int32.toInt_div, n_id32 hx, n_id32 hy, n_to32, idv, w32_id (w32_in _), w32_bmod]
theorem n_divL {x y : Int} (hx : in64 x) (hy : in64 y) : Int64.ofInt x / Int64.ofInt y = Int64.ofInt (ldv x y) := by
  apply Int64.toInt_inj.1
  rw [Int64.toInt_div, n_id64 hx, n_id64 hy, n_to64, ldv, w64_id (w64_in _), w64_bmod]
theorem n_rem {x y : Int} (hx : in32 x) (hy : in32 y) : Int32.ofInt x - Int32.ofInt x / Int32.ofInt y * Int32.ofInt y = Int32.ofInt (irm x y) := by
  rw [n_div hx hy, irm, n_of32, idv, n_of32, ← Int32.ofInt_mul, ← Int32.ofInt_sub, Int.tmod_def, Int.mul_comm]
theorem n_remL {x y : Int} (hx : in64 x) (hy : in64 y) : Int64.ofInt x - Int64.ofInt x / Int64.ofInt y * Int64.ofInt y = Int64.ofInt (lrm x y) := by
  rw [n_divL hx hy, lrm, n_of64, ldv, n_of64, ← Int64.ofInt_mul, ← Int64.ofInt_sub, Int.tmod_def, Int.mul_comm]
/-- bits: by the machine's own words -/
def iand (x y : Int) : Int := (Int32.ofInt x &&& Int32.ofInt y).toInt
def ior (x y : Int) : Int := (Int32.ofInt x ||| Int32.ofInt y).toInt
def ixor (x y : Int) : Int := (Int32.ofInt x ^^^ Int32.ofInt y).toInt
def ishl (x y : Int) : Int := (Int32.ofInt x <<< (Int32.ofInt y &&& 31)).toInt
def ishr (x y : Int) : Int := (Int32.ofInt x >>> (Int32.ofInt y &&& 31)).toInt
def iushr (x y : Int) : Int := ((Int32.ofInt x).toUInt32 >>> ((Int32.ofInt y).toUInt32 &&& Int32.toUInt32 31)).toInt32.toInt
def land (x y : Int) : Int := (Int64.ofInt x &&& Int64.ofInt y).toInt
def lor (x y : Int) : Int := (Int64.ofInt x ||| Int64.ofInt y).toInt
def lshl (x y : Int) : Int := (Int64.ofInt x <<< ((Int32.ofInt y).toInt64 &&& 63)).toInt
def lshr (x y : Int) : Int := (Int64.ofInt x >>> ((Int32.ofInt y).toInt64 &&& 63)).toInt
def lushr (x y : Int) : Int := ((Int64.ofInt x).toUInt64 >>> ((Int32.ofInt y).toInt64.toUInt64 &&& Int64.toUInt64 63)).toInt64.toInt
def i2c (x : Int) : Int := x % 65536
def lcmp (x y : Int) : Int := if x > y then 1 else if x = y then 0 else -1
theorem n_i2c (x : Int) : ((Int32.ofInt x).toUInt32 % 65536).toInt32 = Int32.ofInt (i2c x) := by
  rw [pk_char]
  have h : ((Int32.ofInt x).toBitVec.toNat : Int) = x % 4294967296 := by
    show (((BitVec.ofInt 32 x).toNat : Nat) : Int) = _
    rw [BitVec.toNat_ofInt]; omega
  have e : (((Int32.ofInt x).toBitVec.toNat % 65536 : Nat) : Int) = i2c x := by unfold i2c; omega
  rw [nI, ← e, Int32.ofInt_eq_ofNat]
theorem n_lcmp {x y : Int} (hx : in64 x) (hy : in64 y) : lg_cmp (Int64.ofInt x) (Int64.ofInt y) = Int32.ofInt (lcmp x y) := by
  unfold lg_cmp lcmp
  have h1 : (Int64.ofInt x > Int64.ofInt y) ↔ x > y := n_lt64 hy hx
  have h2 := n_eq64 hx hy
  by_cases a : x > y
  · rw [if_pos (h1.mpr a), if_pos a]; rfl
  · rw [if_neg (fun q => a (h1.mp q)), if_neg a]
    by_cases b : x = y
    · rw [if_pos (h2.mpr b), if_pos b]; rfl
    · rw [if_neg (fun q => b (h2.mp q)), if_neg b]; rfl
theorem n_ofN (j : Nat) : Int32.ofInt (j : Int) = Int32.ofNat j := (Int32.ofInt_eq_ofNat).symm ▸ rfl
theorem n_clamp {z : Int} (h : in32 z) : (Int32.ofInt z).toNatClampNeg = z.toNat := Int32.toNatClampNeg_ofInt_of_le h.1 h.2
theorem n_vpin {z : Int} {n : Nat} (h : in32 z) (h1 : 0 ≤ z) (h2 : z < n) : vp_in (Int32.ofInt z) n := by
  rw [vp_in_iff, n_id32 h]; exact ⟨h1, h2⟩
theorem in32_0 : in32 0 := by unfold in32; omega
theorem in64_0 : in64 0 := by unfold in64; omega
theorem in64_1 : in64 1 := by unfold in64; omega
