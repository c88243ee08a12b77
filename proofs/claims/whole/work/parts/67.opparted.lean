/-! parted agrees: the programs -/
theorem div_b {U u g B : Int} (e : U = u * g) (hg : 1 ≤ g) (h1 : -B ≤ U) (h2 : U ≤ B) : -B ≤ u ∧ u ≤ B := by
  by_cases c : 0 ≤ u
  · have m := Int.mul_le_mul_of_nonneg_left hg c
    rw [Int.mul_one] at m
    omega
  · have m := Int.mul_le_mul_of_nonpos_left (a := u) (by omega) hg
    rw [Int.mul_one] at m
    omega
def psc (r k : Int) : Prop := r = 51 ∧ (k = 3 ∨ k = 4)
section Pt
variable {g : Mem} {i : Nat} {c s A S : Nat → Int}
theorem times_e (hi : i < 9) (hc : ∀ p : Nat, p < 9 → g 52 (9 * (i : Int) + p) = c p) (hb : ∀ p, p < 9 → 0 ≤ c p ∧ c p ≤ 60) : F_X3_timesOf (i : Int) g = some (sm c 9, g) := by
  have sb : ∀ m, m ≤ 9 → 0 ≤ sm c m ∧ sm c m ≤ 60 * m := by
    intro m
    induction m with
    | zero => intro _; simp only [sm]; omega
    | succ m ih => intro hm; have := ih (by omega); have := hb m (by omega); simp only [sm]; omega
  have key : ∀ (d p f : Nat), p + d = 9 → d < f → L_X3_timesOf_1 (i : Int) (fun all_9 p_10 (h_8 : Mem) => some (all_9, h_8)) f (sm c p) p g = some (sm c 9, g) := by
    intro d
    induction d with
    | zero =>
      intro p f hp hf
      obtain ⟨f, rfl⟩ : ∃ g, f = g + 1 := ⟨f - 1, by omega⟩
      rw [L_X3_timesOf_1, if_neg (by omega), show p = 9 by omega]
    | succ d ih =>
      intro p f hp hf
      obtain ⟨f, rfl⟩ : ∃ g, f = g + 1 := ⟨f - 1, by omega⟩
      have b1 := sb p (by omega)
      have b2 := hb p (by omega)
      have nx := ih (p + 1) f (by omega) (by omega)
      rw [L_X3_timesOf_1, if_pos (by omega), w32_s (z := (i : Int) * 9) (by omega) (by omega), w32_s (z := (i : Int) * 9 + p) (by omega) (by omega)]
      refine (gd_of (by omega)).trans ?_
      rw [Int.mul_comm (i : Int) 9, hc p (by omega)]
      refine (nm_of (w32_s (by omega) (by omega))).trans ?_
      refine (nm_of (w32_n (by omega))).trans ?_
      exact nx
  exact key 9 0 FU (by omega) (by unfold FU; omega)
theorem add_l {p : Nat} {t q : Nat → Int} (hp : p < 9) (ht : ∀ k : Nat, k < 9 → g 52 (9 * (k : Int) + p) = t k ∧ g 53 (9 * (k : Int) + p) = q k) (hb : ∀ k, k < 9 → (0 ≤ t k ∧ t k ≤ 60) ∧ 0 ≤ q k ∧ q k ≤ 10000) (Kx : Int → Int → Int → Mem → Res) (i0 : Int) :
    L_X3_addPlace_1 i0 (p : Int) Kx FU 0 0 0 g = Kx (sm t 9) (sm q 9) 9 g := by
  have sb : ∀ m, m ≤ 9 → (0 ≤ sm t m ∧ sm t m ≤ 60 * m) ∧ 0 ≤ sm q m ∧ sm q m ≤ 10000 * m := by
    intro m
    induction m with
    | zero => intro _; simp only [sm]; omega
    | succ m ih => intro hm; have := ih (by omega); have := hb m (by omega); simp only [sm]; omega
  have key : ∀ (d k f : Nat), k + d = 9 → d < f → L_X3_addPlace_1 i0 (p : Int) Kx f (sm t k) (sm q k) k g = Kx (sm t 9) (sm q 9) 9 g := by
    intro d
    induction d with
    | zero =>
      intro k f hk hf
      obtain ⟨f, rfl⟩ : ∃ g, f = g + 1 := ⟨f - 1, by omega⟩
      have e : k = 9 := by omega
      subst e
      rw [L_X3_addPlace_1, if_neg (by omega)]; rfl
    | succ d ih =>
      intro k f hk hf
      obtain ⟨f, rfl⟩ : ∃ g, f = g + 1 := ⟨f - 1, by omega⟩
      have b1 := sb k (by omega)
      have b2 := hb k (by omega)
      have nx := ih (k + 1) f (by omega) (by omega)
      rw [L_X3_addPlace_1, if_pos (by omega), w32_s (z := (k : Int) * 9) (by omega) (by omega), w32_s (z := (k : Int) * 9 + p) (by omega) (by omega)]
      refine (gd_of (by omega)).trans ?_
      rw [Int.mul_comm (k : Int) 9, (ht k (by omega)).1, (ht k (by omega)).2]
      refine (nm_of (w32_s (by omega) (by omega))).trans ?_
      refine (nm_of (w32_s (by omega) (by omega))).trans ?_
      refine (nm_of (w32_n (by omega))).trans ?_
      exact nx
  exact key 9 0 FU (by omega) (by unfold FU; omega)
/-- a place comes to the class's fraction -/
theorem addP_e {p : Nat} {t q : Nat → Int} {u l U D γ : Int} (hi : i < 9) (hp : p < 9) (ht : ∀ k : Nat, k < 9 → g 52 (9 * (k : Int) + p) = t k ∧ g 53 (9 * (k : Int) + p) = q k) (hb : ∀ k, k < 9 → (0 ≤ t k ∧ t k ≤ 60) ∧ 0 ≤ q k ∧ q k ≤ 10000)
    (et : sm t 9 = A p) (eq : sm q 9 = S p) (ec : t i = c p) (es : q i = s p) (hU : okU c s A S) (hA1 : 1 ≤ A p) (g3 : g 51 3 = u) (g4 : g 51 4 = l) (hg : 1 ≤ γ) (eU : U = u * γ) (eD : D = l * γ) (l1 : 0 < l)
    (bU : -20000000000000000 ≤ U ∧ U ≤ 20000000000000000) (bD : D ≤ 2541865828329) (bD' : D * A p ≤ 2541865828329) :
    ∃ g2 u' l' γ', F_X3_addPlace (i : Int) (p : Int) g = some (0, g2) ∧ Fr psc g g2 ∧ g2 51 3 = u' ∧ g2 51 4 = l' ∧ 1 ≤ γ' ∧ U * A p + (s p * A p - c p * S p) * D = u' * γ' ∧ D * A p = l' * γ' ∧ 0 < l' := by
  have o := hU p hp
  have mb := more_b hU hp
  have ub := div_b eU hg (B := 20000000000000000) bU.1 bU.2
  have lb : l ≤ D := by
    have m := Int.mul_le_mul_of_nonneg_left hg (show 0 ≤ l by omega)
    rw [Int.mul_one] at m
    omega
  have lAb : l * A p ≤ D * A p := Int.mul_le_mul_of_nonneg_right lb (by omega)
  have lA1 : 1 * A p ≤ l * A p := Int.mul_le_mul_of_nonneg_right (show 1 ≤ l by omega) (by omega)
  have uA : -1200000000000000000 ≤ u * A p ∧ u * A p ≤ 1200000000000000000 := by
    have x := Int.mul_le_mul_of_nonneg_right ub.1 (show 0 ≤ A p by omega)
    have y := Int.mul_le_mul_of_nonneg_right ub.2 (show 0 ≤ A p by omega)
    omega
  have ml : -1100000000000000000 ≤ (s p * A p - c p * S p) * l ∧ (s p * A p - c p * S p) * l ≤ 1100000000000000000 := by
    have x := Int.mul_le_mul_of_nonneg_right (show -400000 ≤ s p * A p - c p * S p by omega) (show 0 ≤ l by omega)
    have y := Int.mul_le_mul_of_nonneg_right (show s p * A p - c p * S p ≤ 400000 by omega) (show 0 ≤ l by omega)
    omega
  have fU : U * A p + (s p * A p - c p * S p) * D = (u * A p + (s p * A p - c p * S p) * l) * γ := by
    rw [eU, eD, Int.add_mul, ← Int.mul_assoc]
    congr 1
    rw [Int.mul_assoc, Int.mul_comm γ, ← Int.mul_assoc]
  have fD : D * A p = l * A p * γ := by rw [eD, Int.mul_assoc, Int.mul_comm γ, ← Int.mul_assoc]
  obtain ⟨u', l', a, e1, a0, e2, e3, l0, _⟩ := red_e (h := wr (wr g 51 3 (u * A p + (s p * A p - c p * S p) * l)) 51 4 (l * A p)) (u := u * A p + (s p * A p - c p * S p) * l) (l := l * A p) (by rw [wr_k (by omega), wr_s]) wr_s (by omega) (by omega) (by omega) (by
    have p50 : (2 : Int) ^ 50 = 1125899906842624 := by decide
    rw [p50]; omega)
  refine ⟨wr (wr (wr (wr g 51 3 (u * A p + (s p * A p - c p * S p) * l)) 51 4 (l * A p)) 51 3 u') 51 4 l', u', l', a * γ, ?_, fun r k hr => ?_, ?_, wr_s, ?_, ?_, ?_, l0⟩
  · unfold F_X3_addPlace
    refine (add_l hp ht hb _ _).trans ?_
    rw [et, eq]
    refine (nm_of (e' := 9 * (i : Int) + p) (by rw [w32_s (z := (i : Int) * 9) (by omega) (by omega), w32_s (by omega) (by omega)]; omega)).trans ?_
    refine (gd_of (by omega)).trans ?_
    rw [(ht i hi).1, (ht i hi).2, ec, es, g3, g4]
    refine (nm_of (e' := s p * A p - c p * S p) (by rw [w64_eq (z := s p * A p) (by omega) (by omega), w64_eq (z := c p * S p) (by omega) (by omega), w64_eq (by omega) (by omega)])).trans ?_
    refine (nm_of (e' := wr g 51 3 (u * A p + (s p * A p - c p * S p) * l)) (by rw [w64_eq (z := u * A p) (by omega) (by omega), w64_eq (z := (s p * A p - c p * S p) * l) (by omega) (by omega), w64_eq (by omega) (by omega)])).trans ?_
    refine (nm_of (e' := wr (wr g 51 3 (u * A p + (s p * A p - c p * S p) * l)) 51 4 (l * A p)) (by rw [wr_k (by omega), g4, w64_eq (by omega) (by omega)])).trans ?_
    refine (bd_of e1).trans ?_
    rfl
  · unfold psc at hr
    rw [wr_at, if_neg (by omega), wr_at, if_neg (by omega), wr_at, if_neg (by omega), wr_at, if_neg (by omega)]
  · rw [wr_k (by omega), wr_s]
  · have m := Int.mul_le_mul_of_nonneg_left hg (show 0 ≤ a by omega)
    rw [Int.mul_one] at m
    omega
  · rw [fU, e2, Int.mul_assoc]
  · rw [fD, e3, Int.mul_assoc]
end Pt
