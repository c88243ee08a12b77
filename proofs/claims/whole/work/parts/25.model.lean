/-! the reference's night -/
def q8 (h : Mem) : Nat → Int → Int := fun p k => h 58 (9 * h 64 p + k)
theorem of_e {i k : Int} {h : Mem} (h1 : 0 ≤ i) (h2 : i ≤ 18) (h3 : 0 ≤ k) (h4 : k < 9) : F_X8_of i k h = some (h 58 (9 * i + k), h) := by
  unfold F_X8_of
  have e : w32 (w32 (9 * i) + k) = 9 * i + k := by rw [w32_s (z := 9 * i) (by omega) (by omega)]; exact w32_s (by omega) (by omega)
  rw [e, gd_t (by omega)]
theorem less_e {v y : Int} {h : Mem} (h1 : 0 ≤ v) (h2 : v ≤ 1000000) (h3 : -1000000 ≤ y) (h4 : y ≤ 1000000) : F_X8_less v y h = some (mxI 0 (v - y), h) := by
  unfold F_X8_less
  have e : w32 (v - y) = v - y := w32_s (by omega) (by omega)
  by_cases c : v < y
  · rw [if_pos c]
    have : mxI 0 (v - y) = 0 := by unfold mxI; rw [if_neg (by omega)]
    rw [this]
  · rw [if_neg c, e, mxI_0 (by omega)]
/-- the row that is laid out: acts' numbers in range, the acts as they may be -/
def R8 (h : Mem) (n : Nat) : Prop := n ≤ 10 ∧ h 56 18 = n ∧ (∀ p : Nat, p < n → 0 ≤ h 64 p ∧ h 64 p ≤ 9) ∧ WQ (q8 h) n ∧ WT (h 59)
theorem front_e {h : Mem} {n p : Nat} (hR : R8 h n) (hp : p < n) : F_X8_isFront (p : Int) h = some (if q8 h p 3 = 0 then 0 else 1, h) := by
  have r := hR.2.2.1 p hp
  have w := (hR.2.2.2.1 p hp).2.2.2.1
  have h10 := hR.1
  unfold F_X8_isFront
  rw [gd_t (by omega), of_e r.1 (by omega) (by omega) (by omega), bd_s]
  show (if q8 h p 3 = 1 then _ else _) = _
  rcases w with w | w
  · rw [w]; rfl
  · rw [w]; rfl
theorem gap_l {h : Mem} {n p : Nat} {b : Int} (hR : R8 h n) (hp : p < n) (hb : h 56 19 = b) (Kx : Int → Int → Mem → Res) (s : Int) (hs : 0 ≤ s ∧ s ≤ 9) :
    ∀ (t : Nat) (v : Int) (f : Nat), t ≤ p → t < f → (-(60 * ((p : Int) - t)) ≤ v ∧ v ≤ 9) → s + sLf (q8 h) (h 59) b p = v + sLf (q8 h) (h 59) b t - (if 0 < b ∧ (t : Int) ≤ b ∧ b < p then h 59 2 else 0) →
      ∃ (v' : Int) (t' : Nat), L_X8_gapOf_1 (p : Int) Kx f v ((t : Int) - 1) h = Kx v' ((t' : Int) - 1) h ∧ t' ≤ p ∧ (-600 ≤ v' ∧ v' ≤ 9) ∧ s + sLf (q8 h) (h 59) b p = v' + sLf (q8 h) (h 59) b t' - (if 0 < b ∧ (t' : Int) ≤ b ∧ b < p then h 59 2 else 0) ∧ (t' = 0 ∨ q8 h (t' - 1) 3 = 0) := by
  have h10 := hR.1
  intro t
  induction t with
  | zero =>
    intro v f ht hf hv he
    obtain ⟨f, rfl⟩ : ∃ g, f = g + 1 := ⟨f - 1, by omega⟩
    refine ⟨v, 0, ?_, by omega, by omega, he, Or.inl rfl⟩
    rw [L_X8_gapOf_1, jn, if_neg (by omega)]
  | succ t ih =>
    intro v f ht hf hv he
    obtain ⟨f, rfl⟩ : ∃ g, f = g + 1 := ⟨f - 1, by omega⟩
    have ef := front_e hR (p := t) (by omega)
    have r := hR.2.2.1 t (by omega)
    have wq := hR.2.2.2.1 t (by omega)
    have e1 : ((t + 1 : Nat) : Int) - 1 = (t : Int) := by omega
    by_cases c : q8 h t 3 = 0
    · refine ⟨v, t + 1, ?_, ht, by omega, he, Or.inr c⟩
      rw [L_X8_gapOf_1, jn, e1, if_pos (by omega), ef, bd_s, if_pos c, if_neg (by omega)]
    · have wl := wq.2.1
      have el : F_X8_of (h 64 t) 1 h = some (q8 h t 1, h) := of_e r.1 (by omega) (by omega) (by omega)
      have s1 : sLf (q8 h) (h 59) b (t + 1) = sLf (q8 h) (h 59) b t - sRs (h 59) b t - q8 h t 1 := by rw [sLf, if_neg c]
      have he2 : s + sLf (q8 h) (h 59) b p = (v - q8 h t 1) + sLf (q8 h) (h 59) b t - (if 0 < b ∧ (t : Int) ≤ b ∧ b < p then h 59 2 else 0) := by
        rw [he, s1]
        unfold sRs
        by_cases x : 0 < b ∧ (t : Int) = b
        · rw [if_pos x, if_neg (by omega), if_pos (by omega)]; omega
        · rw [if_neg x]
          by_cases y : 0 < b ∧ ((t + 1 : Nat) : Int) ≤ b ∧ b < p
          · rw [if_pos y, if_pos (by omega)]; omega
          · rw [if_neg y, if_neg (by omega)]; omega
      obtain ⟨v', t', e2, c1, c2, c3, c4⟩ := ih (v - q8 h t 1) f (by omega) (by omega) (by omega) he2
      refine ⟨v', t', ?_, c1, c2, c3, c4⟩
      have x1 : w32 (v - q8 h t 1) = v - q8 h t 1 := w32_s (by omega) (by omega)
      have x2 : w32 ((t : Int) + -1) = (t : Int) - 1 := by rw [w32_s (by omega) (by omega)]; omega
      rw [L_X8_gapOf_1, jn, e1, if_pos (by omega), ef, bd_s, if_neg c, if_pos (by omega), gd_t (by omega), el, bd_s]
      simp only [nm, x1, x2]
      exact e2
theorem gap_e {h : Mem} {n p : Nat} {b : Int} (hR : R8 h n) (hp : p < n) (hb : h 56 19 = b) : F_X8_gapOf (p : Int) h = some (sGp (q8 h) (h 59) b p, h) := by
  have h10 := hR.1
  have ef := front_e hR hp
  have r := hR.2.2.1 p hp
  have wq := hR.2.2.2.1 p hp
  unfold F_X8_gapOf
  rw [ef, bd_s]
  by_cases c : q8 h p 3 = 0
  · have es : F_X8_of (h 64 p) 4 h = some (q8 h p 4, h) := of_e r.1 (by omega) (by omega) (by omega)
    obtain ⟨v', t', e2, c1, c2, c3, c4⟩ := gap_l hR hp hb (fun v_29 q_30 (h_28 : Mem) => jn (fun (K_31 : Int → Mem → Res) => if (0 ≤ q_30) then (gd (0 ≤ q_30 ∧ q_30 < 10) (bd (F_X8_of (h_28 64 q_30) 5 h_28) (fun r_33 (h_34 : Mem) => K_31 r_33 h_34))) else (K_31 0 h_28)) (fun v_38 (h_37 : Mem) => nm (w32 (v_29 + v_38)) (fun v_39 => nm (α := Int) (if (((0 < (h_37 56 19)) ∧ (q_30 < (h_37 56 19))) ∧ ((h_37 56 19) ≤ (p : Int))) then (h_37 59 2) else 0) (fun v_40 => nm (w32 (v_39 - v_40)) (fun v_44 => if (v_44 < 0) then (some (0, h_37)) else (some (v_44, h_37))))))) (q8 h p 4) (by omega) p (q8 h p 4) FU (by omega) (by unfold FU; omega) (by omega) (by rw [if_neg (by omega)]; omega)
    have x1 : w32 ((p : Int) - 1) = (p : Int) - 1 := w32_s (by omega) (by omega)
    rw [if_pos c, if_neg (by omega), gd_t (by omega), es, bd_s]
    simp only [nm, x1] at e2 ⊢
    rw [e2]
    have T2 := hR.2.2.2.2.2.2.1
    -- what the last whole act ahead has to strike
    have hst : ∃ k, sLf (q8 h) (h 59) b t' = k ∧ (0 ≤ k ∧ k ≤ 9) ∧ ∀ K : Int → Mem → Res, (if 0 ≤ (t' : Int) - 1 then gd (0 ≤ (t' : Int) - 1 ∧ (t' : Int) - 1 < 10) (bd (F_X8_of (h 64 ((t' : Int) - 1)) 5 h) (fun r_33 h_34 => K r_33 h_34)) else K 0 h) = K k h := by
      rcases c4 with rfl | c4
      · exact ⟨0, rfl, by omega, fun K => by rw [if_neg (by omega)]⟩
      · by_cases z : t' = 0
        · subst z
          exact ⟨0, rfl, by omega, fun K => by rw [if_neg (by omega)]⟩
        · obtain ⟨j, rfl⟩ : ∃ j, t' = j + 1 := ⟨t' - 1, by omega⟩
          have rj := hR.2.2.1 j (by omega)
          have wj := hR.2.2.2.1 j (by omega)
          rw [Nat.add_sub_cancel] at c4
          refine ⟨q8 h j 5, by rw [sLf, if_pos c4], by omega, fun K => ?_⟩
          rw [if_pos (by omega), gd_t (by omega), show ((j + 1 : Nat) : Int) - 1 = (j : Int) by omega, of_e rj.1 (by omega) (by omega) (by omega), bd_s]
          rfl
    obtain ⟨k, hk, bk, eK⟩ := hst
    rw [hk] at c3
    rw [jn, eK]
    have x2 : w32 (v' + k) = v' + k := w32_s (by omega) (by omega)
    simp only [x2, hb]
    have hg : sGp (q8 h) (h 59) b p = mxI 0 (q8 h p 4 + (sLf (q8 h) (h 59) b p - sRs (h 59) b p)) := by unfold sGp; rw [if_pos c]
    have hv : v' + k - (if ((0 < b ∧ (t' : Int) - 1 < b) ∧ b ≤ (p : Int)) then h 59 2 else 0) = q8 h p 4 + (sLf (q8 h) (h 59) b p - sRs (h 59) b p) := by
      unfold sRs
      by_cases y : 0 < b ∧ (p : Int) = b
      · rw [if_pos y, if_pos (by omega)]
        rw [if_neg (by omega)] at c3
        omega
      · rw [if_neg y]
        by_cases z : 0 < b ∧ (t' : Int) ≤ b ∧ b < p
        · rw [if_pos z] at c3
          rw [if_pos (by omega)]; omega
        · rw [if_neg z] at c3
          rw [if_neg (by omega)]; omega
    have x3 : w32 (v' + k - (if ((0 < b ∧ (t' : Int) - 1 < b) ∧ b ≤ (p : Int)) then h 59 2 else 0)) = q8 h p 4 + (sLf (q8 h) (h 59) b p - sRs (h 59) b p) := by
      rw [hv] 
      have l1 := lf_b (b := b) hR.2.2.2.1 hR.2.2.2.2 p (by omega)
      have l2 := rs_b (b := b) hR.2.2.2.2 p
      exact w32_s (by omega) (by omega)
    rw [x3, hg]
    unfold mxI
    by_cases z : q8 h p 4 + (sLf (q8 h) (h 59) b p - sRs (h 59) b p) < 0
    · rw [if_pos z, if_neg (by omega)]
    · rw [if_neg z]
      by_cases y : 0 < q8 h p 4 + (sLf (q8 h) (h 59) b p - sRs (h 59) b p)
      · rw [if_pos y]
      · rw [if_neg y]
        have : q8 h p 4 + (sLf (q8 h) (h 59) b p - sRs (h 59) b p) = 0 := by omega
        rw [this]
  · have hg : sGp (q8 h) (h 59) b p = 0 := by unfold sGp; rw [if_neg c]
    rw [if_neg c, if_pos (by omega), hg]
