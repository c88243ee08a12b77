/-! a night that can be staged: the class's way and the reference's -/
section Okay
variable {q : Nat → Int → Int} {m : Nat → Int} {T : Int → Int} {b x : Int} {n p : Nat}
theorem it_ru (h : 0 < sIt q m T b n p) : sRu q m T b n (sIt q m T b n p) p := by
  unfold sIt at h ⊢
  by_cases c1 : T 0 < sGp q T b p
  · rw [if_pos c1]; exact Or.inl ⟨rfl, c1⟩
  by_cases c2 : (0 < p ∧ ¬ (0 < b ∧ (p : Int) = b)) ∧ q p 0 = q (p - 1) 0
  · rw [if_neg c1, if_pos c2]; exact Or.inr (Or.inl ⟨rfl, c2⟩)
  by_cases c3 : 0 < p ∧ iand (ishr (q p 8) (m (p - 1))) 1 = 1
  · rw [if_neg c1, if_neg c2, if_pos c3]; exact Or.inr (Or.inr (Or.inl ⟨rfl, c3⟩))
  by_cases c4 : 0 < q p 7 ∧ q p 7 < sEn q T b (p + 1)
  · rw [if_neg c1, if_neg c2, if_neg c3, if_pos c4]; exact Or.inr (Or.inr (Or.inr (Or.inl ⟨rfl, c4⟩)))
  by_cases c5 : p + 1 = n ∧ T 1 < sEn q T b (p + 1)
  · rw [if_neg c1, if_neg c2, if_neg c3, if_neg c4, if_pos c5]; exact Or.inr (Or.inr (Or.inr (Or.inr ⟨rfl, c5⟩)))
  · rw [if_neg c1, if_neg c2, if_neg c3, if_neg c4, if_neg c5] at h; exact absurd h (by omega)
theorem it_b : 0 ≤ sIt q m T b n p ∧ sIt q m T b n p ≤ 5 := by
  unfold sIt
  by_cases c1 : T 0 < sGp q T b p
  · rw [if_pos c1]; omega
  by_cases c2 : (0 < p ∧ ¬ (0 < b ∧ (p : Int) = b)) ∧ q p 0 = q (p - 1) 0
  · rw [if_neg c1, if_pos c2]; omega
  by_cases c3 : 0 < p ∧ iand (ishr (q p 8) (m (p - 1))) 1 = 1
  · rw [if_neg c1, if_neg c2, if_pos c3]; omega
  by_cases c4 : 0 < q p 7 ∧ q p 7 < sEn q T b (p + 1)
  · rw [if_neg c1, if_neg c2, if_neg c3, if_pos c4]; omega
  by_cases c5 : p + 1 = n ∧ T 1 < sEn q T b (p + 1)
  · rw [if_neg c1, if_neg c2, if_neg c3, if_neg c4, if_pos c5]; omega
  · rw [if_neg c1, if_neg c2, if_neg c3, if_neg c4, if_neg c5]; omega
theorem it_le {k : Int} (h : sRu q m T b n k p) : 0 < sIt q m T b n p ∧ sIt q m T b n p ≤ k := by
  unfold sIt
  by_cases c1 : T 0 < sGp q T b p
  · rw [if_pos c1]; rcases h with h | h | h | h | h <;> (have := h.1; omega)
  by_cases c2 : (0 < p ∧ ¬ (0 < b ∧ (p : Int) = b)) ∧ q p 0 = q (p - 1) 0
  · rw [if_neg c1, if_pos c2]
    rcases h with h | h | h | h | h
    · exact absurd h.2 c1
    all_goals (have := h.1; omega)
  by_cases c3 : 0 < p ∧ iand (ishr (q p 8) (m (p - 1))) 1 = 1
  · rw [if_neg c1, if_neg c2, if_pos c3]
    rcases h with h | h | h | h | h
    · exact absurd h.2 c1
    · exact absurd h.2 c2
    all_goals (have := h.1; omega)
  by_cases c4 : 0 < q p 7 ∧ q p 7 < sEn q T b (p + 1)
  · rw [if_neg c1, if_neg c2, if_neg c3, if_pos c4]
    rcases h with h | h | h | h | h
    · exact absurd h.2 c1
    · exact absurd h.2 c2
    · exact absurd h.2 c3
    all_goals (have := h.1; omega)
  by_cases c5 : p + 1 = n ∧ T 1 < sEn q T b (p + 1)
  · rw [if_neg c1, if_neg c2, if_neg c3, if_neg c4, if_pos c5]
    rcases h with h | h | h | h | h
    · exact absurd h.2 c1
    · exact absurd h.2 c2
    · exact absurd h.2 c3
    · exact absurd h.2 c4
    · have := h.1; omega
  · rcases h with h | h | h | h | h
    · exact absurd h.2 c1
    · exact absurd h.2 c2
    · exact absurd h.2 c3
    · exact absurd h.2 c4
    · exact absurd h.2 c5
/-- what sFl finds -/
theorem fl_s : ∀ p : Nat, ((sFl q m T b n x p).1 = 0 ∧ ∀ j, j < p → sIt q m T b n j = 0) ∨ (∃ y : Nat, y < p ∧ sFl q m T b n x p = (sIt q m T b n y, (y : Int)) ∧ 0 < sIt q m T b n y ∧ (∀ j, j < p → sIt q m T b n j = 0 ∨ sIt q m T b n y ≤ sIt q m T b n j) ∧ ∀ j, j < y → sIt q m T b n j = 0 ∨ sIt q m T b n y < sIt q m T b n j)
  | 0 => Or.inl ⟨rfl, fun j hj => absurd hj (by omega)⟩
  | p + 1 => by
    have bp := it_b (q := q) (m := m) (T := T) (b := b) (n := n) (p := p)
    rw [sFl]
    rcases fl_s p with ⟨z, hz⟩ | ⟨y, hy, e, h0, h1, h2⟩
    · by_cases c : 0 < sIt q m T b n p
      · rw [if_pos ⟨c, Or.inl z⟩]
        refine Or.inr ⟨p, by omega, rfl, c, fun j hj => ?_, fun j hj => Or.inl (hz j hj)⟩
        by_cases d : j < p
        · exact Or.inl (hz j d)
        · have : j = p := by omega
          subst this; exact Or.inr (by omega)
      · rw [if_neg (fun w => c w.1)]
        refine Or.inl ⟨z, fun j hj => ?_⟩
        by_cases d : j < p
        · exact hz j d
        · have : j = p := by omega
          subst this; omega
    · rw [e]
      by_cases c : 0 < sIt q m T b n p ∧ (sIt q m T b n y = 0 ∨ sIt q m T b n p < sIt q m T b n y)
      · rw [if_pos c]
        have c2 : sIt q m T b n p < sIt q m T b n y := by omega
        refine Or.inr ⟨p, by omega, rfl, c.1, fun j hj => ?_, fun j hj => ?_⟩
        · by_cases d : j < p
          · rcases h1 j d with w | w
            · exact Or.inl w
            · exact Or.inr (by omega)
          · have : j = p := by omega
            subst this; exact Or.inr (by omega)
        · rcases h1 j hj with w | w
          · exact Or.inl w
          · exact Or.inr (by omega)
      · rw [if_neg c]
        refine Or.inr ⟨y, by omega, rfl, h0, fun j hj => ?_, h2⟩
        by_cases d : j < p
        · exact h1 j d
        · have : j = p := by omega
          subst this; omega
theorem fl_0 : (sFl q m T b n x p).1 = 0 ↔ ∀ j, j < p → sIt q m T b n j = 0 := by
  rcases fl_s (q := q) (m := m) (T := T) (b := b) (n := n) (x := x) p with ⟨z, hz⟩ | ⟨y, hy, e, h0, h1, h2⟩
  · exact ⟨fun _ => hz, fun _ => z⟩
  · refine ⟨fun w => ?_, fun w => ?_⟩
    · rw [e] at w; exact absurd w (by show ¬ sIt q m T b n y = 0; omega)
    · exact absurd (w y hy) (by omega)
theorem en_m {p n : Nat} (hq : WQ q n) (hT : WT T) (hp : p < n) : sEn q T b p ≤ sEn q T b (p + 1) := by
  have a := rs_b (b := b) hT p
  have c := gp_b (b := b) hq hT hp
  have d := (hq p hp).2.1
  rw [sEn]; omega
theorem en_mm {n : Nat} (hq : WQ q n) (hT : WT T) : ∀ d p : Nat, p + d ≤ n → sEn q T b p ≤ sEn q T b (p + d)
  | 0, p, _ => Int.le_refl _
  | d + 1, p, h => Int.le_trans (en_mm hq hT d p (by omega)) (en_m hq hT (by omega))
/-- rule by rule, or place by place -/
theorem ok_fi (hq : WQ q n) (hT : WT T) : (∀ j, j < n → sIt q m T b n j = 0) ↔ ∀ j, j < n → sFi q m T b j := by
  refine ⟨fun h j hj => ?_, fun h j hj => ?_⟩
  · have z : ∀ k, ¬ sRu q m T b n k j := fun k r => absurd (it_le r).1 (by rw [h j hj]; omega)
    refine ⟨fun c => z 1 (Or.inl ⟨rfl, c⟩), fun c => z 2 (Or.inr (Or.inl ⟨rfl, c⟩)), fun c => z 3 (Or.inr (Or.inr (Or.inl ⟨rfl, c⟩))), fun c => z 4 (Or.inr (Or.inr (Or.inr (Or.inl ⟨rfl, c⟩)))), ?_⟩
    obtain ⟨n', rfl⟩ : ∃ g, n = g + 1 := ⟨n - 1, by omega⟩
    have l := en_mm (b := b) hq hT (n' - j) (j + 1) (by omega)
    rw [show j + 1 + (n' - j) = n' + 1 by omega] at l
    have y : ¬ T 1 < sEn q T b (n' + 1) := fun c => absurd (it_le (Or.inr (Or.inr (Or.inr (Or.inr ⟨rfl, rfl, c⟩)))) : 0 < sIt q m T b (n' + 1) n' ∧ sIt q m T b (n' + 1) n' ≤ 5).1 (by rw [h n' (by omega)]; omega)
    omega
  · have f := h j hj
    have bj := it_b (q := q) (m := m) (T := T) (b := b) (n := n) (p := j)
    refine Classical.byContradiction (fun c => ?_)
    rcases it_ru (q := q) (m := m) (T := T) (b := b) (n := n) (p := j) (by omega) with w | w | w | w | w
    · exact f.1 w.2
    · exact f.2.1 w.2
    · exact f.2.2.1 w.2
    · exact f.2.2.2.1 w.2
    · have := w.2.2; have := f.2.2.2.2; omega
end Okay
