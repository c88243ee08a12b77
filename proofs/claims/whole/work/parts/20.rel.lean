/-! the relation of the class's cells (codes 1 .. 55 of h) to the reference's cells (codes 56 .. 75 of V) -/
/-- what the state is, in the reference's cells: numbers within their bounds -/
def WTx (V : Mem) : Prop := 0 ≤ V 56 3 ∧ V 56 3 ≤ 400 ∧ ∀ k : Int, 0 ≤ k → k < V 56 3 → 0 ≤ V 57 k ∧ V 57 k < 256
def WAct (V : Mem) (i : Int) : Prop := (0 ≤ V 58 (9 * i) ∧ V 58 (9 * i) ≤ 5) ∧ (1 ≤ V 58 (9 * i + 1) ∧ V 58 (9 * i + 1) ≤ 30) ∧ (0 ≤ V 58 (9 * i + 2) ∧ V 58 (9 * i + 2) ≤ 30) ∧ (V 58 (9 * i + 3) = 0 ∨ V 58 (9 * i + 3) = 1) ∧ (0 ≤ V 58 (9 * i + 4) ∧ V 58 (9 * i + 4) ≤ 9) ∧ (0 ≤ V 58 (9 * i + 5) ∧ V 58 (9 * i + 5) ≤ 9) ∧ (0 ≤ V 58 (9 * i + 6) ∧ V 58 (9 * i + 6) ≤ 2) ∧ (0 ≤ V 58 (9 * i + 7) ∧ V 58 (9 * i + 7) ≤ 250) ∧ (0 ≤ V 58 (9 * i + 8) ∧ V 58 (9 * i + 8) < 512)
def WAc (V : Mem) : Prop := 0 ≤ V 56 10 ∧ V 56 10 ≤ 9 ∧ ∀ i : Int, 0 ≤ i → i < V 56 10 → WAct V i ∧ 0 ≤ V 60 i ∧ V 60 i ≤ 99
def WTu (V : Mem) : Prop := (0 ≤ V 59 0 ∧ V 59 0 ≤ 9) ∧ (10 ≤ V 59 1 ∧ V 59 1 ≤ 400) ∧ (0 ≤ V 59 2 ∧ V 59 2 ≤ 30) ∧ (0 ≤ V 59 3 ∧ V 59 3 ≤ 9) ∧ (0 ≤ V 59 4 ∧ V 59 4 ≤ 10) ∧ (0 ≤ V 59 5 ∧ V 59 5 ≤ 9) ∧ (0 ≤ V 59 6 ∧ V 59 6 ≤ 99) ∧ (0 ≤ V 59 7 ∧ V 59 7 ≤ 999)
/-- a bill whose twelve numbers are at cell r from o on -/
def WB (V : Mem) (r o : Int) : Prop := 0 ≤ V r o ∧ V r o ≤ V 56 10 ∧ 0 ≤ V r (o + 1) ∧ (V r (o + 1) < V r o ∨ V r (o + 1) = 0) ∧ in32 (V r (o + 2)) ∧ (∀ p : Int, 0 ≤ p → p < V r o → 0 ≤ V r (o + 3 + p) ∧ V r (o + 3 + p) < V 56 10) ∧ ∀ p q : Int, 0 ≤ p → p < q → q < V r o → V r (o + 3 + p) ≠ V r (o + 3 + q)
def WIm (V : Mem) : Prop := ∀ k : Int, 0 ≤ k → k < 2 → (V 63 k = 0 ∨ V 63 k = 1) ∧ (V 63 k = 1 → WB V 62 (12 * k))
def WMk (V : Mem) : Prop := 0 ≤ V 56 33 ∧ V 56 33 ≤ 60 ∧ ∀ k : Int, 0 ≤ k → k < V 56 33 → (0 ≤ V 71 k ∧ V 71 k < V 56 10) ∧ (0 ≤ V 72 k ∧ V 72 k < 9) ∧ (0 ≤ V 73 k ∧ V 73 k < 100)
def WF (V : Mem) : Prop := WTx V ∧ WAc V ∧ WTu V ∧ WB V 61 0 ∧ WIm V ∧ WMk V ∧ in64 (V 56 1)
/-- marks, counted and added -/
def mkC (V : Mem) (i p : Int) : Nat → Int
  | 0 => 0
  | k + 1 => mkC V i p k + if V 71 k = i ∧ V 72 k = p then 1 else 0
def mkS (V : Mem) (i p : Int) : Nat → Int
  | 0 => 0
  | k + 1 => mkS V i p k + if V 71 k = i ∧ V 72 k = p then V 73 k else 0
def CCs (h : Mem) : Prop := ((h 1 1 = 4 ∧ h 1 2 = 15) ∨ (h 1 1 = 15 ∧ h 1 2 = 4)) ∧ (∀ i : Int, 0 ≤ i → i < 9 → h (6 + i) 0 = i ∧ h (17 + i) 0 = i) ∧ h 54 0 = 9 ∧ ∀ k : Int, 4 ≤ k → k < 11 → h 54 k = 0
def CTx (h V : Mem) : Prop := h 2 1 = V 56 3 ∧ ∀ k : Int, 0 ≤ k → k < V 56 3 → h 3 k = V 57 k
def CAct (h V : Mem) (r i : Int) : Prop := h r 1 = V 58 (9 * i) ∧ h r 2 = V 58 (9 * i + 1) ∧ h r 3 = V 58 (9 * i + 2) ∧ h r 4 = V 58 (9 * i + 3) ∧ h r 5 = V 58 (9 * i + 4) ∧ h r 6 = V 58 (9 * i + 5) ∧ h r 7 = V 58 (9 * i + 6) ∧ h r 8 = V 58 (9 * i + 7) ∧ h r 10 = V 58 (9 * i + 8)
def CAc (h V : Mem) : Prop := h (h 1 1) 1 = V 56 10 ∧ ∀ i : Int, 0 ≤ i → i < V 56 10 → CAct h V (h 1 1 + 2 + i) i ∧ h (h 1 1 + 2 + i) 9 = V 60 i
def CTu (h V : Mem) : Prop := ∀ k : Int, 0 ≤ k → k < 8 → h 34 k = V 59 k
/-- a bill of the class (object b, its row behind it) is the reference's twelve numbers -/
def CB1 (h V : Mem) (b r o : Int) : Prop := h b 1 = V r o ∧ h b 2 = V r (o + 1) ∧ h b 3 = V r (o + 2) ∧ ∀ p : Int, 0 ≤ p → p < V r o → h (b + 1) p = V r (o + 3 + p)
def CIm (h V : Mem) : Prop := ∀ k : Int, 0 ≤ k → k < 2 → h (29 + 2 * k) 4 = V 63 k ∧ (V 63 k = 1 → CB1 h V (29 + 2 * k) 62 (12 * k))
def CMk (h V : Mem) : Prop := h 51 2 = V 56 33 ∧ ∀ i p : Int, 0 ≤ i → i < 9 → 0 ≤ p → p < 9 → h 52 (9 * i + p) = mkC V i p (V 56 33).toNat ∧ h 53 (9 * i + p) = mkS V i p (V 56 33).toNat
/-! evaluating programs -/
theorem gd_t {c : Prop} [Decidable c] {a : Res} (h : c) : gd c a = a := if_pos h
theorem bd_s {v : Int} {h : Mem} {k : Int → Mem → Res} : bd (some (v, h)) k = k v h := rfl
theorem wr_at {h : Mem} {r k v r' k' : Int} : wr h r k v r' k' = if r' = r ∧ k' = k then v else h r' k' := rfl
theorem in_t {x a b : Int} {h : Mem} (h1 : a ≤ x) (h2 : x ≤ b) : F_X8_in x a b h = some (1, h) := if_pos ⟨h1, h2⟩
theorem in_f {x a b : Int} {h : Mem} (h1 : ¬ (a ≤ x ∧ x ≤ b)) : F_X8_in x a b h = some (0, h) := if_neg h1
theorem in_e (x a b : Int) (h : Mem) : F_X8_in x a b h = some (if a ≤ x ∧ x ≤ b then 1 else 0, h) := by
  unfold F_X8_in; split <;> rfl
theorem w32_s {z : Int} (h1 : -2147483648 ≤ z) (h2 : z < 2147483648) : w32 z = z := w32_id ⟨h1, h2⟩
