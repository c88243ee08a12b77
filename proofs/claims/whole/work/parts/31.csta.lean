/-! the class's isStaged, firstFailing, staged, total -/
def CN (h : Mem) (q : Nat → Int → Int) (m R : Nat → Int) (T : Int → Int) (b : Int) (n : Nat) : Prop :=
  h 33 11 = (n : Int) ∧ h 33 12 = b ∧ h 34 0 = T 0 ∧ h 34 1 = T 1 ∧ ∀ j, j < n → ShP h q R T b j ∧ okO 0 (R j) = true ∧ AQ h (R j) (q j) ∧ h (R j) 0 = m j
section Sta
variable {h : Mem} {q : Nat → Int → Int} {m R : Nat → Int} {T : Int → Int} {b x : Int} {n p : Nat}
theorem CN.at (hC : CN h q m R T b n) (hp : p < n) : ShR h q m R T b p := ⟨fun j hj => hC.2.2.2.2 j (by omega), hC.2.2.1, hC.2.2.2.1, hC.2.1⟩
theorem sta6_e (hC : CN h q m R T b n) (hn : n ≤ 10) (hq : WQ q n) (hT : WT T) : F_X6_isStaged h = some (if (sFl q m T b n x n).1 = 0 then 1 else 0, h) := by
  have key : ∀ (d p f : Nat), p + d = n → d < f → (∀ j, j < p → sFi q m T b j) → L_X6_isStaged_1 (fun p_11 (h_10 : Mem) => some (1, h_10)) f p h = some (if (sFl q m T b n x n).1 = 0 then 1 else 0, h) := by
    intro d
    induction d with
    | zero =>
      intro p f hp hf hI
      obtain ⟨f, rfl⟩ : ∃ g, f = g + 1 := ⟨f - 1, by omega⟩
      have hpn : p = n := by omega
      subst hpn
      rw [L_X6_isStaged_1, hC.1, if_neg (by omega), if_pos (fl_0.2 ((ok_fi hq hT).2 hI))]
    | succ d ih =>
      intro p f hp hf hI
      obtain ⟨f, rfl⟩ : ∃ g, f = g + 1 := ⟨f - 1, by omega⟩
      rw [L_X6_isStaged_1, hC.1, if_pos (by omega)]
      refine (bd_of (fits_e (hC.at (p := p) (by omega)) (by omega))).trans ?_
      by_cases c : sFi q m T b p
      · rw [if_pos c, if_pos (by omega)]
        refine (nm_of (w32_n (by omega))).trans ?_
        exact ih (p + 1) f (by omega) (by omega) (fun j hj => by
          by_cases e : j < p
          · exact hI j e
          · have : j = p := by omega
            subst this; exact c)
      · rw [if_neg c, if_neg (by omega), if_neg (fun z => c ((ok_fi hq hT).1 (fl_0.1 z) p (by omega)))]
  exact key n 0 FU (by omega) (by unfold FU; omega) (fun j hj => absurd hj (by omega))
theorem ff_none {k : Int} (hC : CN h q m R T b n) (hn : n ≤ 10) (hk : 1 ≤ k ∧ k ≤ 5) (hz : ∀ j, j < n → ¬ sRu q m T b n k j) : F_X6_firstFailing k h = some (-9, h) := by
  have key : ∀ (d p f : Nat), p + d = n → d < f → L_X6_firstFailing_1 k (fun p_11 (h_10 : Mem) => some ((-9), h_10)) f p h = some (-9, h) := by
    intro d
    induction d with
    | zero =>
      intro p f hp hf
      obtain ⟨f, rfl⟩ : ∃ g, f = g + 1 := ⟨f - 1, by omega⟩
      rw [L_X6_firstFailing_1, hC.1, if_neg (by omega)]
    | succ d ih =>
      intro p f hp hf
      obtain ⟨f, rfl⟩ : ∃ g, f = g + 1 := ⟨f - 1, by omega⟩
      rw [L_X6_firstFailing_1, hC.1, if_pos (by omega)]
      refine (bd_of (fails_e (n := n) (hC.at (p := p) (by omega)) hC.1 (by omega) (by omega) hk)).trans ?_
      rw [if_neg (hz p (by omega)), if_neg (by omega)]
      refine (nm_of (w32_n (by omega))).trans ?_
      exact ih (p + 1) f (by omega) (by omega)
  exact key n 0 FU (by omega) (by unfold FU; omega)
theorem ff_some {k : Int} {y : Nat} (hC : CN h q m R T b n) (hn : n ≤ 10) (hk : 1 ≤ k ∧ k ≤ 5) (hy : y < n) (hr : sRu q m T b n k y) (hz : ∀ j, j < y → ¬ sRu q m T b n k j) : F_X6_firstFailing k h = some ((y : Int), h) := by
  have key : ∀ (d p f : Nat), p + d = y → d < f → L_X6_firstFailing_1 k (fun p_11 (h_10 : Mem) => some ((-9), h_10)) f p h = some ((y : Int), h) := by
    intro d
    induction d with
    | zero =>
      intro p f hp hf
      obtain ⟨f, rfl⟩ : ∃ g, f = g + 1 := ⟨f - 1, by omega⟩
      have hpn : p = y := by omega
      subst hpn
      rw [L_X6_firstFailing_1, hC.1, if_pos (by omega)]
      refine (bd_of (fails_e (n := n) (hC.at (p := p) (by omega)) hC.1 (by omega) (by omega) hk)).trans ?_
      rw [if_pos hr, if_pos (by omega)]
    | succ d ih =>
      intro p f hp hf
      obtain ⟨f, rfl⟩ : ∃ g, f = g + 1 := ⟨f - 1, by omega⟩
      rw [L_X6_firstFailing_1, hC.1, if_pos (by omega)]
      refine (bd_of (fails_e (n := n) (hC.at (p := p) (by omega)) hC.1 (by omega) (by omega) hk)).trans ?_
      rw [if_neg (hz p (by omega)), if_neg (by omega)]
      refine (nm_of (w32_n (by omega))).trans ?_
      exact ih (p + 1) f (by omega) (by omega)
  exact key y 0 FU (by omega) (by unfold FU; omega)
theorem sta7_e {what : Int} (hC : CN h q m R T b n) (hn : n ≤ 10) : L_X7_staged_1 what (fun rule_14 (h_13 : Mem) => some ((-9), h_13)) FU 1 h = some (if (sFl q m T b n x n).1 = 0 then -9 else if what = 0 then (sFl q m T b n x n).1 else (sFl q m T b n x n).2, h) := by
  rcases fl_s (q := q) (m := m) (T := T) (b := b) (n := n) (x := x) n with ⟨z, hz⟩ | ⟨y, hy, e, h0, h1, h2⟩
  · have nz : ∀ k, ∀ j, j < n → ¬ sRu q m T b n k j := fun k j hj r => absurd (it_le r).1 (by rw [hz j hj]; omega)
    rw [if_pos z]
    have key : ∀ (d p f : Nat), p + d = 6 → 1 ≤ p → d < f → L_X7_staged_1 what (fun rule_14 (h_13 : Mem) => some ((-9), h_13)) f (p : Int) h = some (-9, h) := by
      intro d
      induction d with
      | zero =>
        intro p f hp h1 hf
        obtain ⟨f, rfl⟩ : ∃ g, f = g + 1 := ⟨f - 1, by omega⟩
        rw [L_X7_staged_1, if_neg (by omega)]
      | succ d ih =>
        intro p f hp h1 hf
        obtain ⟨f, rfl⟩ : ∃ g, f = g + 1 := ⟨f - 1, by omega⟩
        rw [L_X7_staged_1, if_pos (by omega)]
        refine (bd_of (ff_none (k := (p : Int)) hC hn (by omega) (nz _))).trans ?_
        rw [if_neg (by omega)]
        refine (nm_of (w32_n (by omega))).trans ?_
        exact ih (p + 1) f (by omega) (by omega) (by omega)
    exact key 5 1 FU (by omega) (by omega) (by unfold FU; omega)
  · rw [e]
    have b5 := it_b (q := q) (m := m) (T := T) (b := b) (n := n) (p := y)
    have ry := it_ru h0
    rw [if_neg (show ¬ sIt q m T b n y = 0 by omega)]
    show _ = some (if what = 0 then sIt q m T b n y else (y : Int), h)
    have lo : ∀ k, k < sIt q m T b n y → ∀ j, j < n → ¬ sRu q m T b n k j := fun k hk j hj r => by
      have w := it_le r
      rcases h1 j hj with u | u <;> omega
    have at_y : ∀ j, j < y → ¬ sRu q m T b n (sIt q m T b n y) j := fun j hj r => by
      have w := it_le r
      rcases h2 j hj with u | u <;> omega
    have key : ∀ (d p f : Nat), (p : Int) + d = sIt q m T b n y → 1 ≤ p → d < f → L_X7_staged_1 what (fun rule_14 (h_13 : Mem) => some ((-9), h_13)) f (p : Int) h = some (if what = 0 then sIt q m T b n y else (y : Int), h) := by
      intro d
      induction d with
      | zero =>
        intro p f hp h1 hf
        obtain ⟨f, rfl⟩ : ∃ g, f = g + 1 := ⟨f - 1, by omega⟩
        have pe : (p : Int) = sIt q m T b n y := by omega
        rw [L_X7_staged_1, if_pos (by omega)]
        refine (bd_of (ff_some (k := (p : Int)) hC hn (by omega) hy (by rw [pe]; exact ry) (by rw [pe]; exact at_y))).trans ?_
        rw [if_pos (by omega), pe]
        by_cases c : what = 0
        · rw [if_pos c, if_pos c]
        · rw [if_neg c, if_neg c]
      | succ d ih =>
        intro p f hp h1 hf
        obtain ⟨f, rfl⟩ : ∃ g, f = g + 1 := ⟨f - 1, by omega⟩
        rw [L_X7_staged_1, if_pos (by omega)]
        refine (bd_of (ff_none (k := (p : Int)) hC hn (by omega) (lo _ (by omega)))).trans ?_
        rw [if_neg (by omega)]
        refine (nm_of (w32_n (by omega))).trans ?_
        exact ih (p + 1) f (by omega) (by omega) (by omega)
    exact key ((sIt q m T b n y).toNat - 1) 1 FU (by omega) (by omega) (by unfold FU; omega)
/-- what a night is worth -/
theorem total_e {u : Nat → Int} (h11 : h 33 11 = (n : Int)) (h1 : 1 ≤ n) (hn : n ≤ 10) (hA : ShA h q T b u (n - 1)) (h13 : h 33 13 = (sHs q T b u n).2.2.2) (hq : WQ q n) (hT : WT T) (hu : ∀ j, -2 ≤ u j ∧ u j ≤ 2) : F_X6_total h = some (sVa q T b u n, h) := by
  obtain ⟨n', rfl⟩ : ∃ g, n = g + 1 := ⟨n - 1, by omega⟩
  have s := hs_b (b := b) hq hT hu (n' + 1) (Nat.le_refl _)
  have s' := hs_b (b := b) hq hT hu n' (by omega)
  have ha := ha_b (q := q) (b := b) (n := n') hT (gp_b (b := b) hq hT (by omega : n' < n' + 1)).1 s'.1
  have cl := cl_b (q := q) (p := n') hT (hq n' (by omega)).2.2.1 ha (hu n')
  have e44 : h 44 (n' : Int) = (sHs q T b u (n' + 1)).2.2.1 := hA.2.2.2.2
  have e41 : h 41 (n' : Int) = sCp q T b u n' := hA.2.1
  have cl' : 0 ≤ sCp q T b u n' ∧ sCp q T b u n' ≤ 62 := cl
  unfold F_X6_total
  rw [h11, if_neg (by omega), w32_p (by omega)]
  refine (gd_of (by omega)).trans ?_
  rw [e44, e41, h13, w32_s (z := (sHs q T b u (n' + 1)).2.2.1 + sCp q T b u n') (by omega) (by omega), w32_s (by omega) (by omega)]
  rfl
end Sta
