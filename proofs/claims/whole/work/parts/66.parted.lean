/-! parted agrees -/
def sm (f : Nat → Int) : Nat → Int
  | 0 => 0
  | j + 1 => sm f j + f j
theorem sm_add {f g : Nat → Int} : ∀ m : Nat, sm (fun i => f i + g i) m = sm f m + sm g m
  | 0 => rfl
  | m + 1 => by rw [sm, sm, sm, sm_add m]; omega
theorem sm_one {a v : Int} {q : Prop} [Decidable q] : ∀ m : Nat, sm (fun i => if a = (i : Int) ∧ q then v else 0) m = if (0 ≤ a ∧ a < m) ∧ q then v else 0
  | 0 => by rw [sm, if_neg (by omega)]
  | m + 1 => by
    rw [sm, sm_one m]
    by_cases c : q
    · by_cases d : a = (m : Int)
      · rw [if_neg (show ¬ ((0 ≤ a ∧ a < (m : Int)) ∧ q) from fun z => by omega), if_pos ⟨d, c⟩, if_pos ⟨by omega, c⟩]; omega
      · by_cases e : 0 ≤ a ∧ a < m
        · rw [if_pos ⟨e, c⟩, if_neg (fun z => d z.1), if_pos ⟨by omega, c⟩]; omega
        · rw [if_neg (fun z => e z.1), if_neg (fun z => d z.1), if_neg (fun z => e (by have := z.1; omega))]; omega
    · rw [if_neg (fun z => c z.2), if_neg (fun z => c z.2), if_neg (fun z => c z.2)]; omega
def mkA (V : Mem) (p : Int) : Nat → Int
  | 0 => 0
  | k + 1 => mkA V p k + if V 72 k = p then 1 else 0
def mkT (V : Mem) (p : Int) : Nat → Int
  | 0 => 0
  | k + 1 => mkT V p k + if V 72 k = p then V 73 k else 0
section Mk
variable {V : Mem} {p : Int}
theorem mkA_s : ∀ n : Nat, (∀ k : Nat, k < n → 0 ≤ V 71 k ∧ V 71 k < 9) → sm (fun i => mkC V i p n) 9 = mkA V p n ∧ sm (fun i => mkS V i p n) 9 = mkT V p n
  | 0, _ => ⟨rfl, rfl⟩
  | n + 1, h => by
    have ih := mkA_s n (fun k hk => h k (by omega))
    have b := h n (by omega)
    simp only [mkC, mkS, mkA, mkT]
    refine ⟨?_, ?_⟩
    · rw [sm_add, ih.1, sm_one]
      by_cases c : V 72 n = p
      · rw [if_pos ⟨⟨b.1, by omega⟩, c⟩, if_pos c]
      · rw [if_neg (fun z => c z.2), if_neg c]
    · rw [sm_add, ih.2, sm_one]
      by_cases c : V 72 n = p
      · rw [if_pos ⟨⟨b.1, by omega⟩, c⟩, if_pos c]
      · rw [if_neg (fun z => c z.2), if_neg c]
theorem mkA_b {i : Int} : ∀ n : Nat, (∀ k : Nat, k < n → 0 ≤ V 73 k ∧ V 73 k < 100) → (0 ≤ mkC V i p n ∧ mkC V i p n ≤ mkA V p n ∧ mkA V p n ≤ n) ∧ (0 ≤ mkS V i p n ∧ mkS V i p n ≤ 99 * mkC V i p n) ∧ 0 ≤ mkT V p n ∧ mkT V p n ≤ 99 * mkA V p n
  | 0, _ => by simp only [mkC, mkS, mkA, mkT]; omega
  | n + 1, h => by
    have ih := mkA_b (i := i) n (fun k hk => h k (by omega))
    have b := h n (by omega)
    simp only [mkC, mkS, mkA, mkT]
    by_cases c : V 72 n = p
    · rw [if_pos c, if_pos c]
      by_cases d : V 71 n = i
      · rw [if_pos ⟨d, c⟩, if_pos ⟨d, c⟩]; omega
      · rw [if_neg (fun z => d z.1), if_neg (fun z => d z.1)]; omega
    · rw [if_neg c, if_neg c, if_neg (fun z => c z.2), if_neg (fun z => c z.2)]; omega
theorem mkA_tot : ∀ n : Nat, (∀ k : Nat, k < n → 0 ≤ V 72 k ∧ V 72 k < 9) → ∀ m : Nat, m ≤ 9 → 0 ≤ sm (fun q => mkA V q n) m ∧ sm (fun q => mkA V q n) m ≤ n
  | 0, _, m, _ => by
    have : ∀ m, sm (fun q => mkA V q 0) m = 0 := by
      intro m
      induction m with
      | zero => rfl
      | succ m ih => rw [sm, ih]; rfl
    rw [this]; omega
  | n + 1, h, m, hm => by
    have ih := mkA_tot n (fun k hk => h k (by omega)) m hm
    simp only [mkA]
    rw [sm_add]
    have e : sm (fun q : Nat => if V 72 n = (q : Int) then (1 : Int) else 0) m = sm (fun q : Nat => if V 72 n = (q : Int) ∧ True then (1 : Int) else 0) m := by simp only [and_true]
    rw [e, sm_one]
    split <;> omega
end Mk
/-- the fraction, place by place -/
def uD (c s A S : Nat → Int) : Nat → Int × Int
  | 0 => (0, 1)
  | p + 1 => if 0 < c p then ((uD c s A S p).1 * A p + (s p * A p - c p * S p) * (uD c s A S p).2, (uD c s A S p).2 * A p) else uD c s A S p
theorem p3_e : ∀ a : Nat, a < 61 → (a : Int) ≤ 3 ^ ((a + 2) / 3) := by decide +kernel
theorem p3_b : ∀ e : Nat, e < 27 → (3 : Int) ^ e ≤ 2541865828329 := by decide +kernel
def okU (c s A S : Nat → Int) : Prop := ∀ p, p < 9 → (0 ≤ c p ∧ c p ≤ A p ∧ A p ≤ 60) ∧ (0 ≤ s p ∧ s p ≤ 99 * c p) ∧ 0 ≤ S p ∧ S p ≤ 99 * A p
section UD
variable {c s A S : Nat → Int}
theorem more_b (h : okU c s A S) {p : Nat} (hp : p < 9) : -(99 * (c p * A p)) ≤ s p * A p - c p * S p ∧ s p * A p - c p * S p ≤ 99 * (c p * A p) ∧ (0 ≤ s p * A p ∧ s p * A p ≤ 400000) ∧ (0 ≤ c p * S p ∧ c p * S p ≤ 400000) ∧ 0 ≤ c p * A p ∧ c p * A p ≤ 3600 := by
  have q := h p hp
  have a1 := mul_b q.2.1.1 q.2.1.2 (show 0 ≤ A p by omega) (show A p ≤ A p by omega)
  have a2 := mul_b q.1.1 (show c p ≤ c p by omega) q.2.2.1 q.2.2.2
  have a3 := mul_b q.1.1 (show c p ≤ 60 by omega) (show 0 ≤ A p by omega) (show A p ≤ 60 by omega)
  have e1 : 99 * c p * A p = 99 * (c p * A p) := Int.mul_assoc ..
  have e2 : c p * (99 * A p) = 99 * (c p * A p) := by rw [← Int.mul_assoc, Int.mul_comm (c p) 99, Int.mul_assoc]
  rw [e1] at a1
  rw [e2] at a2
  generalize s p * A p = x at *
  generalize c p * S p = y at *
  generalize c p * A p = z at *
  omega
theorem uD_b (h : okU c s A S) : ∀ p : Nat, p ≤ 9 → ∃ e : Nat, 3 * (e : Int) ≤ sm A p + 2 * p ∧ (1 ≤ (uD c s A S p).2 ∧ (uD c s A S p).2 ≤ 3 ^ e) ∧ -(99 * sm c p * (uD c s A S p).2) ≤ (uD c s A S p).1 ∧ (uD c s A S p).1 ≤ 99 * sm c p * (uD c s A S p).2
  | 0, _ => ⟨0, by simp only [sm]; omega, by simp only [uD]; omega, by simp only [uD, sm]; omega, by simp only [uD, sm]; omega⟩
  | p + 1, hp => by
    obtain ⟨e, h1, h2, h3, h4⟩ := uD_b h p (by omega)
    have q := h p (by omega)
    have m := more_b h (show p < 9 by omega)
    rw [uD, sm, sm]
    by_cases k : 0 < c p
    · rw [if_pos k]
      obtain ⟨a, ha⟩ : ∃ a : Nat, A p = (a : Int) := ⟨(A p).toNat, by omega⟩
      have p3 := p3_e a (by omega)
      refine ⟨e + (a + 2) / 3, by omega, ?_, ?_, ?_⟩
      · have x := mul_b (show 0 ≤ (uD c s A S p).2 by omega) h2.2 (show 0 ≤ A p by omega) (show A p ≤ 3 ^ ((a + 2) / 3) by omega)
        rw [Int.pow_add]
        have y := Int.mul_le_mul_of_nonneg_right h2.1 (show 0 ≤ A p by omega)
        rw [Int.one_mul] at y
        show 1 ≤ (uD c s A S p).2 * A p ∧ (uD c s A S p).2 * A p ≤ _
        omega
      · have x := Int.mul_le_mul_of_nonneg_right h3 (show 0 ≤ A p by omega)
        have y := Int.mul_le_mul_of_nonneg_right m.1 (show 0 ≤ (uD c s A S p).2 by omega)
        show -(99 * (sm c p + c p) * ((uD c s A S p).2 * A p)) ≤ (uD c s A S p).1 * A p + (s p * A p - c p * S p) * (uD c s A S p).2
        have e1 : 99 * (sm c p + c p) * ((uD c s A S p).2 * A p) = 99 * sm c p * (uD c s A S p).2 * A p + 99 * (c p * A p) * (uD c s A S p).2 := by
          rw [Int.mul_add, Int.add_mul, ← Int.mul_assoc, ← Int.mul_assoc]
          congr 1
          rw [Int.mul_assoc (99 * c p), Int.mul_comm (uD c s A S p).2 (A p), ← Int.mul_assoc, Int.mul_assoc 99]
        rw [e1]
        rw [Int.neg_mul] at x y
        omega
      · have x := Int.mul_le_mul_of_nonneg_right h4 (show 0 ≤ A p by omega)
        have y := Int.mul_le_mul_of_nonneg_right m.2.1 (show 0 ≤ (uD c s A S p).2 by omega)
        show (uD c s A S p).1 * A p + (s p * A p - c p * S p) * (uD c s A S p).2 ≤ 99 * (sm c p + c p) * ((uD c s A S p).2 * A p)
        have e1 : 99 * (sm c p + c p) * ((uD c s A S p).2 * A p) = 99 * sm c p * (uD c s A S p).2 * A p + 99 * (c p * A p) * (uD c s A S p).2 := by
          rw [Int.mul_add, Int.add_mul, ← Int.mul_assoc, ← Int.mul_assoc]
          congr 1
          rw [Int.mul_assoc (99 * c p), Int.mul_comm (uD c s A S p).2 (A p), ← Int.mul_assoc, Int.mul_assoc 99]
        rw [e1]
        omega
    · have c0 : c p = 0 := by omega
      rw [if_neg k]
      refine ⟨e, by omega, h2, ?_, ?_⟩
      · rw [c0, Int.add_zero]; exact h3
      · rw [c0, Int.add_zero]; exact h4
/-- all numbers stay small -/
theorem uD_s (h : okU c s A S) (ht : ∀ m, m ≤ 9 → 0 ≤ sm A m ∧ sm A m ≤ 60) {p : Nat} (hp : p ≤ 9) : (1 ≤ (uD c s A S p).2 ∧ (uD c s A S p).2 ≤ 2541865828329) ∧ (0 ≤ sm c p ∧ sm c p ≤ 60) ∧ -20000000000000000 ≤ (uD c s A S p).1 ∧ (uD c s A S p).1 ≤ 20000000000000000 := by
  obtain ⟨e, h1, h2, h3, h4⟩ := uD_b h p hp
  have t := ht p hp
  have pb := p3_b e (by omega)
  have cs : ∀ m : Nat, m ≤ 9 → 0 ≤ sm c m ∧ sm c m ≤ sm A m := by
    intro m
    induction m with
    | zero => intro _; simp only [sm]; omega
    | succ m ih =>
      intro hm
      have := ih (by omega)
      have q := h m (by omega)
      simp only [sm]; omega
  have c1 := cs p hp
  have m := mul_b (show 0 ≤ 99 * sm c p by omega) (show 99 * sm c p ≤ 5940 by omega) (show 0 ≤ (uD c s A S p).2 by omega) (show (uD c s A S p).2 ≤ 2541865828329 by omega)
  generalize 99 * sm c p * (uD c s A S p).2 = x at *
  generalize (3 : Int) ^ e = y at *
  omega
end UD
