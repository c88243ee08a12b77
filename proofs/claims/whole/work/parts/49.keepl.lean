/-! the reference's loops of keep and back -/
theorem keepL {h : Mem} {im : Nat} (hi : im < 2) (Kx : Int → Mem → Res) :
    ∃ h2, L_X8_keep_1 (im : Int) Kx FU 0 h = Kx 12 h2 ∧ ∀ r k : Int, h2 r k = if r = 62 ∧ 12 * (im : Int) ≤ k ∧ k < 12 * (im : Int) + 12 then h 61 (k - 12 * (im : Int)) else h r k := by
  have key : ∀ (d p : Nat) (h1 : Mem) (f : Nat), p + d = 12 → d < f → (∀ r k : Int, h1 r k = if r = 62 ∧ 12 * (im : Int) ≤ k ∧ k < 12 * (im : Int) + p then h 61 (k - 12 * (im : Int)) else h r k) →
      ∃ h2, L_X8_keep_1 (im : Int) Kx f p h1 = Kx 12 h2 ∧ ∀ r k : Int, h2 r k = if r = 62 ∧ 12 * (im : Int) ≤ k ∧ k < 12 * (im : Int) + 12 then h 61 (k - 12 * (im : Int)) else h r k := by
    intro d
    induction d with
    | zero =>
      intro p h1 f hp hf hI
      obtain ⟨f, rfl⟩ : ∃ g, f = g + 1 := ⟨f - 1, by omega⟩
      have hpn : p = 12 := by omega
      subst hpn
      refine ⟨h1, ?_, hI⟩
      rw [L_X8_keep_1, if_neg (by omega)]; rfl
    | succ d ih =>
      intro p h1 f hp hf hI
      obtain ⟨f, rfl⟩ : ∃ g, f = g + 1 := ⟨f - 1, by omega⟩
      have e61 : h1 61 p = h 61 p := by rw [hI, if_neg (by omega)]
      obtain ⟨h2, e2, r2⟩ := ih (p + 1) (wr h1 62 (12 * (im : Int) + p) (h 61 p)) f (by omega) (by omega) (fun r k => by
        rw [wr_at]
        by_cases z : r = 62 ∧ k = 12 * (im : Int) + p
        · rw [if_pos z, if_pos (by omega), z.2, show 12 * (im : Int) + (p : Int) - 12 * (im : Int) = (p : Int) by omega]
        · rw [if_neg z, hI]
          by_cases y : r = 62 ∧ 12 * (im : Int) ≤ k ∧ k < 12 * (im : Int) + p
          · rw [if_pos y, if_pos (by omega)]
          · rw [if_neg y, if_neg (by omega)])
      refine ⟨h2, ?_, r2⟩
      have ww : w32 (w32 (12 * (im : Int)) + (p : Int)) = 12 * (im : Int) + (p : Int) := by rw [w32_s (z := 12 * (im : Int)) (by omega) (by omega), w32_s (by omega) (by omega)]
      rw [L_X8_keep_1, if_pos (by clear ww; omega), ww]
      clear ww
      refine (gd_of (by omega)).trans ?_
      refine (gd_of (by omega)).trans ?_
      rw [e61]
      refine (nm_of rfl).trans ?_
      refine (nm_of (w32_n (by omega))).trans ?_
      exact e2
  exact key 12 0 h FU (by omega) (by unfold FU; omega) (fun r k => by rw [if_neg (by omega)])
theorem backL {h : Mem} {im : Nat} (hi : im < 2) (Kx : Int → Mem → Res) :
    ∃ h2, L_X8_back_1 (im : Int) Kx FU 0 h = Kx 12 h2 ∧ ∀ r k : Int, h2 r k = if r = 61 ∧ 0 ≤ k ∧ k < 12 then h 62 (12 * (im : Int) + k) else h r k := by
  have key : ∀ (d p : Nat) (h1 : Mem) (f : Nat), p + d = 12 → d < f → (∀ r k : Int, h1 r k = if r = 61 ∧ 0 ≤ k ∧ k < p then h 62 (12 * (im : Int) + k) else h r k) →
      ∃ h2, L_X8_back_1 (im : Int) Kx f p h1 = Kx 12 h2 ∧ ∀ r k : Int, h2 r k = if r = 61 ∧ 0 ≤ k ∧ k < 12 then h 62 (12 * (im : Int) + k) else h r k := by
    intro d
    induction d with
    | zero =>
      intro p h1 f hp hf hI
      obtain ⟨f, rfl⟩ : ∃ g, f = g + 1 := ⟨f - 1, by omega⟩
      have hpn : p = 12 := by omega
      subst hpn
      refine ⟨h1, ?_, hI⟩
      rw [L_X8_back_1, if_neg (by omega)]; rfl
    | succ d ih =>
      intro p h1 f hp hf hI
      obtain ⟨f, rfl⟩ : ∃ g, f = g + 1 := ⟨f - 1, by omega⟩
      have e62 : h1 62 (12 * (im : Int) + p) = h 62 (12 * (im : Int) + p) := by rw [hI, if_neg (by omega)]
      obtain ⟨h2, e2, r2⟩ := ih (p + 1) (wr h1 61 p (h 62 (12 * (im : Int) + p))) f (by omega) (by omega) (fun r k => by
        rw [wr_at]
        by_cases z : r = 61 ∧ k = (p : Int)
        · rw [if_pos z, if_pos (by omega), z.2]
        · rw [if_neg z, hI]
          by_cases y : r = 61 ∧ 0 ≤ k ∧ k < p
          · rw [if_pos y, if_pos (by omega)]
          · rw [if_neg y, if_neg (by omega)])
      refine ⟨h2, ?_, r2⟩
      have ww : w32 (w32 (12 * (im : Int)) + (p : Int)) = 12 * (im : Int) + (p : Int) := by rw [w32_s (z := 12 * (im : Int)) (by omega) (by omega), w32_s (by omega) (by omega)]
      rw [L_X8_back_1, if_pos (by clear ww; omega), ww]
      clear ww
      refine (gd_of (by omega)).trans ?_
      refine (gd_of (by omega)).trans ?_
      rw [e62]
      refine (nm_of rfl).trans ?_
      refine (nm_of (w32_n (by omega))).trans ?_
      exact e2
  exact key 12 0 h FU (by omega) (by unfold FU; omega) (fun r k => by rw [if_neg (by omega)])
