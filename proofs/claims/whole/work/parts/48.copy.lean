/-! the class's Bill.copy -/
theorem copy_e {h : Mem} {o q : Int} {n : Nat} (hn : h q 1 = (n : Int)) (h9 : n ≤ 9) (d1 : ¬ o = q) (d2 : ¬ o + 1 = q) (d3 : ¬ o + 1 = q + 1) (d4 : ¬ o = q + 1) :
    ∃ h1, F_X1_copy o q h = some (0, h1) ∧ h1 o 1 = (n : Int) ∧ h1 o 2 = h q 2 ∧ h1 o 3 = h q 3 ∧ (∀ p : Nat, p < n → h1 (o + 1) p = h (q + 1) p) ∧ ∀ r k : Int, ¬ (r = o + 1) → ¬ (r = o ∧ 1 ≤ k ∧ k ≤ 3) → h1 r k = h r k := by
  have key : ∀ (d p : Nat) (h1 : Mem) (f : Nat) (Kx : Int → Mem → Res), p + d = n → d < f → (∀ r k : Int, ¬ r = o + 1 → h1 r k = h r k) → (∀ j : Nat, j < p → h1 (o + 1) j = h (q + 1) j) →
      ∃ h2, L_X1_copy_1 q o Kx f p h1 = Kx n h2 ∧ (∀ r k : Int, ¬ r = o + 1 → h2 r k = h r k) ∧ (∀ j : Nat, j < n → h2 (o + 1) j = h (q + 1) j) := by
    intro d
    induction d with
    | zero =>
      intro p h1 f Kx hp hf hF hI
      obtain ⟨f, rfl⟩ : ∃ g, f = g + 1 := ⟨f - 1, by omega⟩
      have hpn : p = n := by omega
      subst hpn
      refine ⟨h1, ?_, hF, hI⟩
      rw [L_X1_copy_1, hF q 1 (by omega), hn, if_neg (by omega)]
    | succ d ih =>
      intro p h1 f Kx hp hf hF hI
      obtain ⟨f, rfl⟩ : ∃ g, f = g + 1 := ⟨f - 1, by omega⟩
      obtain ⟨h2, e2, r2⟩ := ih (p + 1) (wr h1 (o + 1) p (h (q + 1) p)) f Kx (by omega) (by omega) (fun r k z => by rw [wr_o z]; exact hF r k z) (fun j hj => by
        by_cases z : j = p
        · subst z; rw [wr_s]
        · rw [wr_k (by omega)]; exact hI j (by omega))
      refine ⟨h2, ?_, r2⟩
      rw [L_X1_copy_1, hF q 1 (by omega), hn, if_pos (by omega)]
      refine (gd_of (by omega)).trans ?_
      rw [hF (q + 1) p (by omega)]
      refine (nm_of rfl).trans ?_
      refine (nm_of (w32_n (by omega))).trans ?_
      exact e2
  obtain ⟨h2, e2, F2, I2⟩ := key n 0 h FU (fun p_8 (h_7 : Mem) => nm (wr h_7 o 1 (h_7 q 1)) (fun (h_9 : Mem) => nm (wr h_9 o 2 (h_9 q 2)) (fun (h_10 : Mem) => nm (wr h_10 o 3 (h_10 q 3)) (fun (h_11 : Mem) => some (0, h_11))))) (by omega) (by unfold FU; omega) (fun r k _ => rfl) (fun j hj => absurd hj (by omega))
  refine ⟨wr (wr (wr h2 o 1 n) o 2 (h q 2)) o 3 (h q 3), ?_, ?_, ?_, wr_s, fun p hp => ?_, fun r k a b => ?_⟩
  · unfold F_X1_copy
    refine e2.trans ?_
    rw [F2 q 1 (by omega), hn]
    refine (nm_of rfl).trans ?_
    rw [wr_o (by omega), F2 q 2 (by omega)]
    refine (nm_of rfl).trans ?_
    rw [wr_o (by omega), wr_o (by omega), F2 q 3 (by omega)]
    rfl
  · rw [wr_k (by omega), wr_k (by omega), wr_s]
  · rw [wr_k (by omega), wr_s]
  · rw [wr_o (by omega), wr_o (by omega), wr_o (by omega)]; exact I2 p hp
  · rw [wr_at, if_neg (by omega), wr_at, if_neg (by omega), wr_at, if_neg (by omega)]; exact F2 r k a
