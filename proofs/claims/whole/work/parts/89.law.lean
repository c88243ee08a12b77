/-! the loop of the law: it answers one -/
theorem go_op {c m : Mem → Res} (o : OP c m) {h : Mem} (R : RR h) {K : Mem → Res} (g : ∀ h2, RR h2 → ∃ h', K h2 = some (1, h')) :
    ∃ h', bd (c h) (fun r h1 => bd (m h1) (fun r' h2 => if ¬ r = r' then some (0, h2) else K h2)) = some (1, h') := by
  obtain ⟨v, h1, h2, e1, e2, R2⟩ := o h R
  obtain ⟨h', e⟩ := g h2 R2
  refine ⟨h', ?_⟩
  rw [e1, bd_s, e2, bd_s, if_neg (fun x => x rfl), e]
theorem go_nm {x : Int} {f : Int → Res} (g : ∀ y, y = x → ∃ h', f y = some (1, h')) : ∃ h', nm x f = some (1, h') := g x rfl
theorem go_jn {f : (Mem → Res) → Res} {K : Mem → Res} (k : ∀ h, RR h → ∃ h', K h = some (1, h')) (g : ∀ K' : Mem → Res, (∀ h, RR h → ∃ h', K' h = some (1, h')) → ∃ h', f K' = some (1, h')) : ∃ h', jn f K = some (1, h') := g K k
theorem go_gd {P : Prop} [Decidable P] {r : Res} (hP : P) (g : ∃ h', r = some (1, h')) : ∃ h', gd P r = some (1, h') := by
  rw [show gd P r = r from if_pos hP]; exact g
theorem go_t {P : Prop} [Decidable P] {a b : Res} (hP : P) (g : ∃ h', a = some (1, h')) : ∃ h', (if P then a else b) = some (1, h') := by rw [if_pos hP]; exact g
theorem go_f {P : Prop} [Decidable P] {a b : Res} (hP : ¬ P) (g : ∃ h', b = some (1, h')) : ∃ h', (if P then a else b) = some (1, h') := by rw [if_neg hP]; exact g
theorem law_w {L : Nat} {i : Int} (hX : L ≤ 2560) (i0 : 0 ≤ i) (h : i ≤ w32 ((L : Int) - 5)) : i + 5 ≤ (L : Int) ∧ w32 ((L : Int) - 5) = (L : Int) - 5 := by
  have e : w32 ((L : Int) - 5) = (L : Int) - 5 := w32_eq (by omega) (by omega)
  rw [e] at h
  exact ⟨by omega, e⟩
theorem law_loop (X : XS) (hX : X.1 ≤ 2560) (Kx : Int → Mem → Res) (hK : ∀ i h, RR h → ∃ h', Kx i h = some (1, h')) :
    ∀ (n : Nat) (i : Int) (h : Mem), RR h → 0 ≤ i → i ≤ 2560 → 2600 - i < (n : Int) → ∃ h', L_L_law_1 X Kx n i h = some (1, h') := by
  intro n
  induction n with
  | zero => intro i h R i0 i1 hn; exfalso; omega
  | succ n ih =>
    intro i h R i0 i1 hn
    rw [L_L_law_1]
    by_cases hi : i ≤ w32 ((X.1 : Int) - 5)
    · refine go_t hi ?_
      obtain ⟨hb, _⟩ := law_w hX i0 hi
      have e1 : w32 (i + 1) = i + 1 := w32_eq (by omega) (by omega)
      have e2 : w32 (i + 2) = i + 2 := w32_eq (by omega) (by omega)
      have e3 : w32 (i + 3) = i + 3 := w32_eq (by omega) (by omega)
      have e4 : w32 (i + 4) = i + 4 := w32_eq (by omega) (by omega)
      have g1 : 0 ≤ w32 (i + 1) ∧ w32 (i + 1) < (X.1 : Int) := by rw [e1]; omega
      have g2 : 0 ≤ w32 (i + 2) ∧ w32 (i + 2) < (X.1 : Int) := by rw [e2]; omega
      have g3 : 0 ≤ w32 (i + 3) ∧ w32 (i + 3) < (X.1 : Int) := by rw [e3]; omega
      have g4 : 0 ≤ w32 (i + 4) ∧ w32 (i + 4) < (X.1 : Int) := by rw [e4]; omega
      refine go_gd ⟨i0, by omega⟩ ?_
      refine go_nm (fun sw _ => ?_)
      refine go_jn ?_ ?_
      · intro h2 R2
        refine go_nm (fun j hj => ?_)
        have e5 : w32 (i + 5) = i + 5 := w32_eq (by omega) (by omega)
        rw [e5] at hj; subst hj
        exact ih _ _ R2 (by omega) (by omega) (by omega)
      intro K hKK
      by_cases c_0 : sw = 0
      · refine go_t c_0 ?_
        refine go_gd g1 ?_
        refine go_gd g2 ?_
        refine go_gd g3 ?_
        exact go_op (op_type _ _) R hKK
      refine go_f c_0 ?_
      by_cases c_1 : sw = 1
      · refine go_t c_1 ?_
        exact go_op (op_clear) R hKK
      refine go_f c_1 ?_
      by_cases c_2 : sw = 2
      · refine go_t c_2 ?_
        exact go_op (op_acts) R hKK
      refine go_f c_2 ?_
      by_cases c_3 : sw = 3
      · refine go_t c_3 ?_
        refine go_gd g1 ?_
        refine go_gd g2 ?_
        exact go_op (op_act _ _) R hKK
      refine go_f c_3 ?_
      by_cases c_4 : sw = 4
      · refine go_t c_4 ?_
        refine go_gd g1 ?_
        refine go_gd g2 ?_
        exact go_op (op_feud _ _) R hKK
      refine go_f c_4 ?_
      by_cases c_5 : sw = 5
      · refine go_t c_5 ?_
        refine go_gd g1 ?_
        refine go_gd g2 ?_
        exact go_op (op_tune _ _) R hKK
      refine go_f c_5 ?_
      by_cases c_6 : sw = 6
      · refine go_t c_6 ?_
        refine go_gd g1 ?_
        refine go_gd g2 ?_
        exact go_op (op_family _ _) R hKK
      refine go_f c_6 ?_
      by_cases c_7 : sw = 7
      · refine go_t c_7 ?_
        refine go_gd g1 ?_
        exact go_op (op_place _) R hKK
      refine go_f c_7 ?_
      by_cases c_8 : sw = 8
      · refine go_t c_8 ?_
        exact go_op (op_empty) R hKK
      refine go_f c_8 ?_
      by_cases c_9 : sw = 9
      · refine go_t c_9 ?_
        refine go_gd g1 ?_
        exact go_op (op_rest _) R hKK
      refine go_f c_9 ?_
      by_cases c_10 : sw = 10
      · refine go_t c_10 ?_
        refine go_gd g1 ?_
        exact go_op (op_on _) R hKK
      refine go_f c_10 ?_
      by_cases c_11 : sw = 11
      · refine go_t c_11 ?_
        refine go_gd g1 ?_
        refine go_gd g2 ?_
        exact go_op (op_minute _ _) R hKK
      refine go_f c_11 ?_
      by_cases c_12 : sw = 12
      · refine go_t c_12 ?_
        refine go_gd g1 ?_
        exact go_op (op_staged _) R hKK
      refine go_f c_12 ?_
      by_cases c_13 : sw = 13
      · refine go_t c_13 ?_
        refine go_gd g1 ?_
        refine go_gd g2 ?_
        exact go_op (op_night _ _) R hKK
      refine go_f c_13 ?_
      by_cases c_14 : sw = 14
      · refine go_t c_14 ?_
        refine go_gd g1 ?_
        exact go_op (op_worth _) R hKK
      refine go_f c_14 ?_
      by_cases c_15 : sw = 15
      · refine go_t c_15 ?_
        refine go_gd g1 ?_
        exact go_op (op_best _) R hKK
      refine go_f c_15 ?_
      by_cases c_16 : sw = 16
      · refine go_t c_16 ?_
        exact go_op (op_custom) R hKK
      refine go_f c_16 ?_
      by_cases c_17 : sw = 17
      · refine go_t c_17 ?_
        exact go_op (op_when) R hKK
      refine go_f c_17 ?_
      by_cases c_18 : sw = 18
      · refine go_t c_18 ?_
        refine go_gd g1 ?_
        refine go_gd g2 ?_
        exact go_op (op_ill _ _) R hKK
      refine go_f c_18 ?_
      by_cases c_19 : sw = 19
      · refine go_t c_19 ?_
        refine go_gd g1 ?_
        exact go_op (op_halves _) R hKK
      refine go_f c_19 ?_
      by_cases c_20 : sw = 20
      · refine go_t c_20 ?_
        refine go_gd g1 ?_
        refine go_gd g2 ?_
        refine go_gd g3 ?_
        refine go_gd g4 ?_
        exact go_op (op_tryout _ _ _ _) R hKK
      refine go_f c_20 ?_
      by_cases c_21 : sw = 21
      · refine go_t c_21 ?_
        refine go_gd g1 ?_
        refine go_gd g2 ?_
        refine go_gd g3 ?_
        exact go_op (op_mark _ _ _) R hKK
      refine go_f c_21 ?_
      by_cases c_22 : sw = 22
      · refine go_t c_22 ?_
        refine go_gd g1 ?_
        refine go_gd g2 ?_
        exact go_op (op_parted _ _) R hKK
      refine go_f c_22 ?_
      by_cases c_23 : sw = 23
      · refine go_t c_23 ?_
        exact go_op (op_opener) R hKK
      refine go_f c_23 ?_
      by_cases c_24 : sw = 24
      · refine go_t c_24 ?_
        refine go_gd g1 ?_
        exact go_op (op_hold _) R hKK
      refine go_f c_24 ?_
      by_cases c_25 : sw = 25
      · refine go_t c_25 ?_
        exact go_op (op_drawn) R hKK
      refine go_f c_25 ?_
      by_cases c_26 : sw = 26
      · refine go_t c_26 ?_
        refine go_gd g1 ?_
        exact go_op (op_lot _ (n_in32 _)) R hKK
      refine go_f c_26 ?_
      by_cases c_27 : sw = 27
      · refine go_t c_27 ?_
        refine go_gd g1 ?_
        refine go_gd g2 ?_
        exact go_op (op_rate _ _) R hKK
      refine go_f c_27 ?_
      by_cases c_28 : sw = 28
      · refine go_t c_28 ?_
        refine go_gd g1 ?_
        exact go_op (op_keep _) R hKK
      refine go_f c_28 ?_
      by_cases c_29 : sw = 29
      · refine go_t c_29 ?_
        refine go_gd g1 ?_
        exact go_op (op_back _) R hKK
      refine go_f c_29 ?_
      by_cases c_30 : sw = 30
      · refine go_t c_30 ?_
        refine go_gd g1 ?_
        exact go_op (op_count _) R hKK
      refine go_f c_30 ?_
      by_cases c_31 : sw = 31
      · refine go_t c_31 ?_
        exact go_op (op_trace) R hKK
      refine go_f c_31 ?_
      exact hKK _ R
    · refine go_f hi ?_
      exact hK _ _ R
theorem law_one (X : XS) (hX : X.1 ≤ 2560) (h : Mem) (R : RR h) : ∃ h', F_law X h = some (1, h') :=
  law_loop X hX _ (fun _ h _ => ⟨h, rfl⟩) FU 0 h R (by omega) (by omega) (by decide)
