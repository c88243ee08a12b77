/-! where an act is on the bill -/
def pOf (r : Nat → Int) (i : Int) : Nat → Nat → Int
  | 0, _ => -9
  | d + 1, p => if r p = i then (p : Int) else pOf r i d (p + 1)
theorem pof7_e {h : Mem} {n : Nat} {i : Int} {r : Nat → Int} (hn : h 26 1 = (n : Int)) (h9 : n ≤ 9) (hr : ∀ p : Nat, p < n → h 27 p = r p) : F_X1_placeOf 26 i h = some (pOf r i n 0, h) := by
  have key : ∀ (d p f : Nat), p + d = n → d < f → L_X1_placeOf_1 i 26 (fun p_8 (h_7 : Mem) => some ((-9), h_7)) f p h = some (pOf r i d p, h) := by
    intro d
    induction d with
    | zero =>
      intro p f hp hf
      obtain ⟨f, rfl⟩ : ∃ g, f = g + 1 := ⟨f - 1, by omega⟩
      rw [L_X1_placeOf_1, hn, if_neg (by omega)]; rfl
    | succ d ih =>
      intro p f hp hf
      obtain ⟨f, rfl⟩ : ∃ g, f = g + 1 := ⟨f - 1, by omega⟩
      rw [L_X1_placeOf_1, hn, if_pos (by omega)]
      refine (gd_of (by omega)).trans ?_
      rw [show (26 : Int) + 1 = 27 from rfl, hr p (by omega), pOf]
      by_cases c : r p = i
      · rw [if_pos c, if_pos c]
      · rw [if_neg c, if_neg c]
        refine (nm_of (w32_n (by omega))).trans ?_
        exact ih (p + 1) f (by omega) (by omega)
  exact key n 0 FU (by omega) (by unfold FU; omega)
theorem pof8_e {h : Mem} {n : Nat} {i : Int} {r : Nat → Int} (hn : h 61 0 = (n : Int)) (h9 : n ≤ 9) (hr : ∀ p : Nat, p < n → h 61 (3 + (p : Int)) = r p) : F_X8_placeOf i h = some (pOf r i n 0, h) := by
  have key : ∀ (d p f : Nat), p + d = n → d < f → L_X8_placeOf_1 i (fun p_8 (h_7 : Mem) => some ((-9), h_7)) f p h = some (pOf r i d p, h) := by
    intro d
    induction d with
    | zero =>
      intro p f hp hf
      obtain ⟨f, rfl⟩ : ∃ g, f = g + 1 := ⟨f - 1, by omega⟩
      rw [L_X8_placeOf_1, hn, if_neg (by omega)]; rfl
    | succ d ih =>
      intro p f hp hf
      obtain ⟨f, rfl⟩ : ∃ g, f = g + 1 := ⟨f - 1, by omega⟩
      rw [L_X8_placeOf_1, hn, if_pos (by omega), w32_s (z := 3 + (p : Int)) (by omega) (by omega)]
      refine (gd_of (by omega)).trans ?_
      rw [hr p (by omega), pOf]
      by_cases c : r p = i
      · rw [if_pos c, if_pos c]
      · rw [if_neg c, if_neg c]
        refine (nm_of (w32_n (by omega))).trans ?_
        exact ih (p + 1) f (by omega) (by omega)
  exact key n 0 FU (by omega) (by unfold FU; omega)
theorem pof_s {r : Nat → Int} {i : Int} : ∀ d p : Nat, (pOf r i d p = -9 ∧ ∀ j, p ≤ j → j < p + d → ¬ r j = i) ∨ (∃ j : Nat, p ≤ j ∧ j < p + d ∧ r j = i ∧ pOf r i d p = (j : Int) ∧ ∀ k, p ≤ k → k < j → ¬ r k = i)
  | 0, p => Or.inl ⟨rfl, fun j a b => absurd b (by omega)⟩
  | d + 1, p => by
    rw [pOf]
    by_cases c : r p = i
    · rw [if_pos c]
      exact Or.inr ⟨p, by omega, by omega, c, rfl, fun k a b => absurd b (by omega)⟩
    · rw [if_neg c]
      rcases pof_s d (p + 1) with ⟨a, b⟩ | ⟨j, a, b, e, e2, e3⟩
      · refine Or.inl ⟨a, fun j x y => ?_⟩
        by_cases z : j = p
        · rw [z]; exact c
        · exact b j (by omega) (by omega)
      · refine Or.inr ⟨j, by omega, by omega, e, e2, fun k x y => ?_⟩
        by_cases z : k = p
        · rw [z]; exact c
        · exact e3 k (by omega) y
