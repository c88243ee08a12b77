/-! so many numbers, all other, below m: no more than m -/
theorem pig : ∀ (m n : Nat) (f : Nat → Int), (∀ p, p < n → 0 ≤ f p ∧ f p < m) → (∀ p q, p < q → q < n → ¬ f p = f q) → n ≤ m
  | 0, n, f, h1, _ => by
    refine Classical.byContradiction (fun c => ?_)
    have := h1 0 (by omega)
    omega
  | m + 1, n, f, h1, h2 => by
    by_cases c : ∃ p, p < n ∧ f p = (m : Int)
    · obtain ⟨p0, hp, e⟩ := c
      have i := pig m (n - 1) (fun p => if p < p0 then f p else f (p + 1)) (fun p x => by
        by_cases z : p < p0
        · rw [if_pos z]
          have a := h1 p (by omega)
          have b := h2 p p0 z hp
          omega
        · rw [if_neg z]
          have a := h1 (p + 1) (by omega)
          have b := h2 p0 (p + 1) (by omega) (by omega)
          omega) (fun p q x y => by
        by_cases z : p < p0
        · by_cases z2 : q < p0
          · rw [if_pos z, if_pos z2]; exact h2 p q x (by omega)
          · rw [if_pos z, if_neg z2]; exact h2 p (q + 1) (by omega) (by omega)
        · rw [if_neg z, if_neg (by omega)]; exact h2 (p + 1) (q + 1) (by omega) (by omega))
      omega
    · have i := pig m n f (fun p x => by
        have a := h1 p x
        have b : ¬ f p = (m : Int) := fun z => c ⟨p, x, z⟩
        omega) h2
      omega
/-- an act that is not on the bill: there is room -/
theorem room_B {h : Mem} {n : Nat} {i : Int} (hR : RR h) (hn : h 61 0 = (n : Int)) (hi : 0 ≤ i ∧ i < h 56 10) (ho : ∀ p : Nat, p < n → ¬ mB h p = i) : (n : Int) + 1 ≤ h 56 10 := by
  have w7 := hR.2.2.2.2.2.2.2.1.2.2.2.1.2.2.2.2.2.2
  have e : ∀ p : Nat, p < n → mB h p = h 61 (0 + 3 + (p : Int)) := fun p hp => by rw [mB, if_pos (by omega)]; rfl
  have k := pig (h 56 10).toNat (n + 1) (fun p => if p < n then mB h p else i) (fun p x => by
    by_cases z : p < n
    · rw [if_pos z]
      have := mB_b hR hn z
      omega
    · rw [if_neg z]; omega) (fun p q x y => by
    by_cases z : q < n
    · rw [if_pos z, if_pos (by omega), e p (by omega), e q z]
      exact w7 p q (by omega) (by omega) (by omega)
    · rw [if_neg z, if_pos (by omega)]
      exact ho p (by omega))
  omega
