/-! what the printed walks use: which cells are of which class -/
theorem okO_ne {ci : Nat} {r : Int} (h : okO ci r = true) : ¬ r = 0 := by
  obtain ⟨N, h1, -⟩ := okO_shp h
  have := (shp_at h1).1
  omega
theorem shp_ne {r : Int} {sp : Shp} (h : shp r = some sp) : ¬ r = 0 := by
  have := (shp_at h).1
  omega
theorem sh_dec {P : Int → Shp → Prop} [∀ r sp, Decidable (P r sp)] (h : ((List.range 75).all (fun k => match SH[k]? with | some sp => decide (P ((k : Int) + 1) sp) | none => true)) = true) {r : Int} {sp : Shp} (hs : shp r = some sp) : P r sp := by
  obtain ⟨h1, h2⟩ := shp_at hs
  have hl : (r - 1).toNat < 75 := by
    have := (List.getElem?_eq_some_iff.mp h2).1
    have e : SH.length = 75 := by decide +kernel
    omega
  have h3 := List.all_eq_true.mp h (r - 1).toNat (List.mem_range.mpr hl)
  rw [h2] at h3
  have h4 := of_decide_eq_true h3
  rwa [show (((r - 1).toNat : Nat) : Int) + 1 = r by omega] at h4
theorem ok_dec {ci : Nat} {P : Int → Prop} [∀ r, Decidable (P r)] (h : ((List.range 75).all (fun k => match SH[k]? with | some sp => decide (sp.1 = ci → P ((k : Int) + 1)) | none => true)) = true) {r : Int} (ho : okO ci r = true) : P r := by
  obtain ⟨N, h1, -⟩ := okO_shp ho
  exact sh_dec (P := fun r sp => sp.1 = ci → P r) h h1 rfl
theorem sf_1_0 {r : Int} (h : okO 1 r = true) : shp (r + 1) = some (100, 9) := ok_dec (P := fun r => shp (r + 1) = some (100, 9)) (by decide +kernel) h
theorem sf_2_0 {r : Int} (h : okO 2 r = true) : shp (r + 1) = some (105, 9) := ok_dec (P := fun r => shp (r + 1) = some (105, 9)) (by decide +kernel) h
theorem sf_5_0 {r : Int} (h : okO 5 r = true) : shp (r + 1) = some (103, 7) := ok_dec (P := fun r => shp (r + 1) = some (103, 7)) (by decide +kernel) h
theorem sf_5_1 {r : Int} (h : okO 5 r = true) : shp (r + 2) = some (100, 7) := ok_dec (P := fun r => shp (r + 2) = some (100, 7)) (by decide +kernel) h
theorem ok_2 {r : Int} (h : okO 2 r = true) : r = 4 ∨ r = 15 := ok_dec (P := fun r => r = 4 ∨ r = 15) (by decide +kernel) h
theorem ok_1 {r : Int} (h : okO 1 r = true) : r = 26 ∨ r = 29 ∨ r = 31 := ok_dec (P := fun r => r = 26 ∨ r = 29 ∨ r = 31) (by decide +kernel) h
theorem ok_5 {r : Int} (h : okO 5 r = true) : r = 45 ∨ r = 48 := ok_dec (P := fun r => r = 45 ∨ r = 48) (by decide +kernel) h
theorem ok_0 {r : Int} (h : okO 0 r = true) : (6 ≤ r ∧ r ≤ 14) ∨ (17 ≤ r ∧ r ≤ 25) ∨ r = 54 := ok_dec (P := fun r => (6 ≤ r ∧ r ≤ 14) ∨ (17 ≤ r ∧ r ≤ 25) ∨ r = 54) (by decide +kernel) h
theorem ok0_of {r : Int} (h : (6 ≤ r ∧ r ≤ 14) ∨ (17 ≤ r ∧ r ≤ 25) ∨ r = 54) : okO 0 r = true := by
  have key : ((List.range 60).all (fun k => decide (((6 ≤ (k : Int) ∧ (k : Int) ≤ 14) ∨ (17 ≤ (k : Int) ∧ (k : Int) ≤ 25) ∨ (k : Int) = 54) → okO 0 (k : Int) = true))) = true := by decide +kernel
  have h1 := of_decide_eq_true (List.all_eq_true.mp key r.toNat (List.mem_range.mpr (by omega)))
  rw [show ((r.toNat : Nat) : Int) = r by omega] at h1
  exact h1 h
theorem ok_mem {c i : Int} (h : okO 2 c = true) (g : 0 ≤ i ∧ i < (9 : Nat)) : okO 0 (c + 2 + i) = true := by
  refine ok0_of ?_
  rcases ok_2 h with rfl | rfl <;> omega
theorem ok_img {i : Int} (g : 0 ≤ i ∧ i < (2 : Nat)) : okO 1 (29 + 2 * i) = true := by
  rcases (show i = 0 ∨ i = 1 by omega) with rfl | rfl <;> decide +kernel
theorem i2c_in (x : Int) : 0 ≤ i2c x ∧ i2c x < 65536 := by unfold i2c; omega
theorem lcmp_iff (x y : Int) : (lcmp x y = 0 ↔ x = y) ∧ (lcmp x y < 0 ↔ x < y) ∧ (0 < lcmp x y ↔ y < x) := by
  unfold lcmp
  split
  · omega
  · split <;> omega
theorem rm_ge {c d : Nat} (h : c + 1 ≤ d) : (Nat.ble (c + 1) (rmD d).frames && Nat.ble (60 * (c + 1)) (rmD d).locals) = true := by
  rw [Bool.and_eq_true]
  exact ⟨Nat.ble_eq.mpr h, Nat.ble_eq.mpr (by show 60 * (c + 1) ≤ 60 * d; omega)⟩
