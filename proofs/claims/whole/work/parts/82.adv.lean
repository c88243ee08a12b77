/-! the next token, both sides -/
def tw (v : Int) : Int := if v = wcn 0 then 4 else if v = wcn 1 then 5 else if v = wcn 2 then 6 else if v = wcn 3 then 7 else if v = wcn 4 then 8 else if v = wcn 5 then 9 else if v = wcn 6 then 10 else 1
def mw (v : Int) : Int := if v = wcn 0 then 0 else if v = wcn 1 then 1 else if v = wcn 2 then 2 else if v = wcn 3 then 3 else if v = wcn 4 then 4 else if v = wcn 5 then 5 else if v = wcn 6 then 6 else -9
theorem tm_w (v : Int) : (mw v = -9 ∧ tw v = 1) ∨ (0 ≤ mw v ∧ mw v ≤ 6 ∧ tw v = 4 + mw v) := by
  unfold mw tw
  split
  · omega
  split
  · omega
  split
  · omega
  split
  · omega
  split
  · omega
  split
  · omega
  split <;> omega
theorem wo_0 (h : Mem) : F_X8_word 97 99 116 0 0 h = some (wcn 0, h) := by rfl
theorem wo_1 (h : Mem) : F_X8_word 102 114 111 110 116 h = some (wcn 1, h) := by rfl
theorem wo_2 (h : Mem) : F_X8_word 115 101 116 0 0 h = some (wcn 2, h) := by rfl
theorem wo_3 (h : Mem) : F_X8_word 115 97 100 0 0 h = some (wcn 3, h) := by rfl
theorem wo_4 (h : Mem) : F_X8_word 108 111 117 100 0 h = some (wcn 4, h) := by rfl
theorem wo_5 (h : Mem) : F_X8_word 116 114 97 105 110 h = some (wcn 5, h) := by rfl
theorem wo_6 (h : Mem) : F_X8_word 102 101 117 100 0 h = some (wcn 6, h) := by rfl
theorem wordOf_e (v : Int) (h : Mem) : F_X8_wordOf v h = some (mw v, h) := by
  unfold F_X8_wordOf mw
  simp only [jn, wo_0, wo_1, wo_2, wo_3, wo_4, wo_5, wo_6, bd_s]
  by_cases c0 : v = wcn 0
  · rw [if_pos c0, if_pos c0]
    exact if_pos (by omega)
  · skip
    by_cases c1 : v = wcn 1
    · rw [if_neg c0, if_pos c1, if_neg c0, if_pos c1]
      exact if_pos (by omega)
    · skip
      by_cases c2 : v = wcn 2
      · rw [if_neg c0, if_neg c1, if_pos c2, if_neg c0, if_neg c1, if_pos c2]
        exact if_pos (by omega)
      · skip
        by_cases c3 : v = wcn 3
        · rw [if_neg c0, if_neg c1, if_neg c2, if_pos c3, if_neg c0, if_neg c1, if_neg c2, if_pos c3]
          exact if_pos (by omega)
        · skip
          rw [if_neg c0, if_neg c1, if_neg c2, if_neg c3, if_neg c0, if_neg c1, if_neg c2, if_neg c3]
          refine (if_neg (by simp)).trans ?_
          by_cases c4 : v = wcn 4
          · rw [if_pos c4, if_pos c4]
          · by_cases c5 : v = wcn 5
            · rw [if_neg c4, if_neg c4, if_pos c5, if_pos c5]
            · by_cases c6 : v = wcn 6
              · rw [if_neg c4, if_neg c4, if_neg c5, if_neg c5, if_pos c6, if_pos c6]
              · rw [if_neg c4, if_neg c4, if_neg c5, if_neg c5, if_neg c6, if_neg c6]
theorem ex_m {A B : Res} {P : Mem → Nat → Prop} (e : A = B) (h : ∃ h' n, B = some (0, h') ∧ P h' n) : ∃ h' n, A = some (0, h') ∧ P h' n := by rw [e]; exact h
section Adv
variable {h : Mem} {N : Nat} {t : Int → Int}
def ft (h h' : Mem) : Prop := ∀ r k : Int, ¬ (r = 2 ∧ 2 ≤ k ∧ k ≤ 5) → h' r k = h r k
def fm (h h' : Mem) : Prop := ∀ r k : Int, ¬ (r = 56 ∧ 4 ≤ k ∧ k ≤ 7) → h' r k = h r k
theorem readWord_e {q : Nat} (hN : h 2 1 = (N : Int)) (h4 : N ≤ 400) (ht : h 3 = t) (hq : h 2 3 = (q : Int)) (h5 : h 2 5 = (q : Int)) (qN : q < N) (hl : isL (t (q : Int)) = true) :
    ∃ h', F_X4_readWord h = some (0, h') ∧ ft h h' ∧ h' 2 3 = (q : Int) ∧ h' 2 5 = ((run isL t (N - q) q : Nat) : Int) ∧ h' 2 2 = tw (pkw t q (min (run isL t (N - q) q - q) 6)) := by
  have rb := run_b (P := isL) (t := t) (N - q) q
  have r1 : 1 ≤ run isL t (N - q) q - q := by
    by_cases c : run isL t (N - q) q = q
    · have := rb.2.2.1 (by omega)
      rw [c, hl] at this; exact absurd this (by decide)
    · omega
  unfold F_X4_readWord
  obtain ⟨h1, e1, F1, g5⟩ := cword hN h4 ht (fun  (h_12 : Mem) => bd (F_X4_spells (-10) h_12) (fun r_13 (h_14 : Mem) => if (¬ r_13 = 0) then (nm (wr h_14 2 2 4) (fun (h_18 : Mem) => some (0, h_18))) else (jn (fun (K_19 : Mem → Res) => bd (F_X4_spells (-11) h_14) (fun r_20 (h_21 : Mem) => if (¬ r_20 = 0) then (nm (wr h_21 2 2 5) (fun (h_25 : Mem) => K_19 h_25)) else (jn (fun (K_26 : Mem → Res) => bd (F_X4_spells (-12) h_21) (fun r_27 (h_28 : Mem) => if (¬ r_27 = 0) then (nm (wr h_28 2 2 6) (fun (h_32 : Mem) => K_26 h_32)) else (jn (fun (K_33 : Mem → Res) => bd (F_X4_spells (-13) h_28) (fun r_34 (h_35 : Mem) => if (¬ r_34 = 0) then (nm (wr h_35 2 2 7) (fun (h_39 : Mem) => K_33 h_39)) else (jn (fun (K_40 : Mem → Res) => bd (F_X4_spells (-14) h_35) (fun r_41 (h_42 : Mem) => if (¬ r_41 = 0) then (nm (wr h_42 2 2 8) (fun (h_46 : Mem) => K_40 h_46)) else (jn (fun (K_47 : Mem → Res) => bd (F_X4_spells (-15) h_42) (fun r_48 (h_49 : Mem) => if (¬ r_48 = 0) then (nm (wr h_49 2 2 9) (fun (h_53 : Mem) => K_47 h_53)) else (jn (fun (K_54 : Int → Mem → Res) => bd (F_X4_spells (-16) h_49) (fun r_55 (h_56 : Mem) => if (¬ r_55 = 0) then (K_54 10 h_56) else (K_54 1 h_56))) (fun v_61 (h_60 : Mem) => nm (wr h_60 2 2 v_61) (fun (h_62 : Mem) => K_47 h_62))))) (fun  (h_63 : Mem) => K_40 h_63)))) (fun  (h_64 : Mem) => K_33 h_64)))) (fun  (h_65 : Mem) => K_26 h_65)))) (fun  (h_66 : Mem) => K_19 h_66)))) (fun  (h_67 : Mem) => some (0, h_67))))) (N - q) q h FU (by omega) (by unfold FU; omega) (fun _ _ _ => rfl) h5
  have g3 : h1 2 3 = (q : Int) := by rw [F1 2 3 (by omega)]; exact hq
  have gt : h1 3 = t := by rw [← ht]; funext k; exact F1 3 k (by omega)
  have lw : ∀ k, k < run isL t (N - q) q - q → 97 ≤ t ((q + k : Nat) : Int) ∧ t ((q + k : Nat) : Int) ≤ 122 := fun k hk => of_decide_eq_true (rb.2.2.2 (q + k) (by omega) (by omega))
  have sp : ∀ i : Nat, i < 7 → F_X4_spells (-10 - (i : Int)) h1 = some (if pkw t q (min (run isL t (N - q) q - q) 6) = wcn i then 1 else 0, h1) := fun i hi => by
    obtain ⟨n, w1, w2⟩ := wrd_e r1 lw hi
    rw [spl_e (q := q) (L := run isL t (N - q) q - q) g3 (by rw [g5]; omega) (by omega) w1, gt]
    exact congrArg (fun z => some (z, h1)) (ifc w2)
  have s0 := sp 0 (by omega)
  have s1 := sp 1 (by omega)
  have s2 := sp 2 (by omega)
  have s3 := sp 3 (by omega)
  have s4 := sp 4 (by omega)
  have s5 := sp 5 (by omega)
  have s6 := sp 6 (by omega)
  rw [show (-10 : Int) - ((0 : Nat) : Int) = -10 from rfl] at s0
  rw [show (-10 : Int) - ((1 : Nat) : Int) = -11 from rfl] at s1
  rw [show (-10 : Int) - ((2 : Nat) : Int) = -12 from rfl] at s2
  rw [show (-10 : Int) - ((3 : Nat) : Int) = -13 from rfl] at s3
  rw [show (-10 : Int) - ((4 : Nat) : Int) = -14 from rfl] at s4
  rw [show (-10 : Int) - ((5 : Nat) : Int) = -15 from rfl] at s5
  rw [show (-10 : Int) - ((6 : Nat) : Int) = -16 from rfl] at s6
  refine ⟨wr h1 2 2 (tw (pkw t q (min (run isL t (N - q) q - q) 6))), ?_, fun r k z => by rw [wr_at, if_neg (by omega)]; exact F1 r k (by omega), by rw [wr_k (by omega)]; exact g3, by rw [wr_k (by omega)]; exact g5, wr_s⟩
  refine e1.trans ?_
  simp only [jn, nm, s0, s1, s2, s3, s4, s5, s6, bd_s]
  generalize pkw t q (min (run isL t (N - q) q - q) 6) = v
  unfold tw
  by_cases c0 : v = wcn 0
  · rw [if_pos c0, if_pos (by omega), if_pos c0]
  · skip
    by_cases c1 : v = wcn 1
    · rw [if_neg c0, if_neg (fun z => z rfl), if_pos c1, if_pos (by omega), if_neg c0, if_pos c1]
    · skip
      by_cases c2 : v = wcn 2
      · rw [if_neg c0, if_neg (fun z => z rfl), if_neg c1, if_neg (fun z => z rfl), if_pos c2, if_pos (by omega), if_neg c0, if_neg c1, if_pos c2]
      · skip
        by_cases c3 : v = wcn 3
        · rw [if_neg c0, if_neg (fun z => z rfl), if_neg c1, if_neg (fun z => z rfl), if_neg c2, if_neg (fun z => z rfl), if_pos c3, if_pos (by omega), if_neg c0, if_neg c1, if_neg c2, if_pos c3]
        · skip
          by_cases c4 : v = wcn 4
          · rw [if_neg c0, if_neg (fun z => z rfl), if_neg c1, if_neg (fun z => z rfl), if_neg c2, if_neg (fun z => z rfl), if_neg c3, if_neg (fun z => z rfl), if_pos c4, if_pos (by omega), if_neg c0, if_neg c1, if_neg c2, if_neg c3, if_pos c4]
          · skip
            by_cases c5 : v = wcn 5
            · rw [if_neg c0, if_neg (fun z => z rfl), if_neg c1, if_neg (fun z => z rfl), if_neg c2, if_neg (fun z => z rfl), if_neg c3, if_neg (fun z => z rfl), if_neg c4, if_neg (fun z => z rfl), if_pos c5, if_pos (by omega), if_neg c0, if_neg c1, if_neg c2, if_neg c3, if_neg c4, if_pos c5]
            · skip
              by_cases c6 : v = wcn 6
              · rw [if_neg c0, if_neg (fun z => z rfl), if_neg c1, if_neg (fun z => z rfl), if_neg c2, if_neg (fun z => z rfl), if_neg c3, if_neg (fun z => z rfl), if_neg c4, if_neg (fun z => z rfl), if_neg c5, if_neg (fun z => z rfl), if_pos c6, if_pos (by omega), if_neg c0, if_neg c1, if_neg c2, if_neg c3, if_neg c4, if_neg c5, if_pos c6]
              · skip
                rw [if_neg c0, if_neg (fun z => z rfl), if_neg c1, if_neg (fun z => z rfl), if_neg c2, if_neg (fun z => z rfl), if_neg c3, if_neg (fun z => z rfl), if_neg c4, if_neg (fun z => z rfl), if_neg c5, if_neg (fun z => z rfl), if_neg c6, if_neg (fun z => z rfl), if_neg c0, if_neg c1, if_neg c2, if_neg c3, if_neg c4, if_neg c5, if_neg c6]
theorem readNum_e {q : Nat} (hN : h 2 1 = (N : Int)) (h4 : N ≤ 400) (ht : h 3 = t) (hq : h 2 3 = (q : Int)) (h5 : h 2 5 = (q : Int)) (qN : q < N) :
    ∃ h', F_X4_readNumber h = some (0, h') ∧ ft h h' ∧ h' 2 3 = (q : Int) ∧ h' 2 5 = ((run isD t (N - q) q : Nat) : Int) ∧ h' 2 4 = cvl t q (run isD t (N - q) q - q) ∧ h' 2 2 = if (t (q : Int) = 48 ∧ 1 < run isD t (N - q) q - q) ∨ 250 < cvl t q (run isD t (N - q) q - q) then 1 else 2 := by
  have rb := run_b (P := isD) (t := t) (N - q) q
  unfold F_X4_readNumber
  refine ex_tr (nm_of rfl) ?_
  obtain ⟨h1, e1, F1, g5, g4⟩ := cnum (h := wr h 2 4 0) (N := N) (t := t) (q := q) (by rw [wr_k (by omega)]; exact hN) h4 (by rw [← ht]; funext k; exact wr_o (by omega)) (fun  (h_15 : Mem) => jn (fun (K_16 : Int → Mem → Res) => jn (fun (K_17 : Mem → Res) => gd (0 ≤ (h_15 2 3) ∧ (h_15 2 3) < 400) (if ((h_15 3 (h_15 2 3)) = 48) then (if (1 < (w32 ((h_15 2 5) - (h_15 2 3)))) then (K_16 1 h_15) else (K_17 h_15)) else (K_17 h_15))) (fun (h_18 : Mem) => K_16 0 h_18)) (fun v_23 (h_22 : Mem) => nm (α := Int) (if ((¬ v_23 = 0) ∨ (250 < (h_22 2 4))) then 1 else 2) (fun v_24 => nm (wr h_22 2 2 v_24) (fun (h_27 : Mem) => some (0, h_27))))) (N - q) q (wr h 2 4 0) FU (by omega) (by omega) (by unfold FU; omega) (fun _ _ _ => rfl) (by rw [wr_k (by omega)]; exact h5) (by rw [wr_s, Nat.sub_self]; rfl) (fun k hk => absurd hk (by omega))
  have g3 : h1 2 3 = (q : Int) := by rw [F1 2 3 (by omega), wr_k (by omega)]; exact hq
  have gt : ∀ k, h1 3 k = t k := fun k => by rw [F1 3 k (by omega), wr_o (by omega), ht]
  refine ⟨wr h1 2 2 (if (t (q : Int) = 48 ∧ 1 < run isD t (N - q) q - q) ∨ 250 < cvl t q (run isD t (N - q) q - q) then 1 else 2), ?_, fun r k z => by rw [wr_at, if_neg (by omega), F1 r k (by omega), wr_at, if_neg (by omega)], by rw [wr_k (by omega)]; exact g3, by rw [wr_k (by omega)]; exact g5, by rw [wr_k (by omega)]; exact g4, wr_s⟩
  refine e1.trans ?_
  simp only [jn, nm]
  rw [g3, g5, g4, gt, gd_t (by omega), w32_s (z := ((run isD t (N - q) q : Nat) : Int) - q) (by omega) (by omega)]
  generalize cvl t q (run isD t (N - q) q - q) = v
  by_cases c1 : t (q : Int) = 48
  · rw [if_pos c1]
    by_cases c2 : 1 < run isD t (N - q) q - q
    · rw [if_pos (by omega), if_pos (Or.inl (by omega)), if_pos (Or.inl ⟨c1, c2⟩)]
    · rw [if_neg (by omega)]
      by_cases c3 : 250 < v
      · rw [if_pos (Or.inr c3), if_pos (Or.inr c3)]
      · rw [if_neg (by simp; omega), if_neg (by omega)]
  · rw [if_neg c1]
    by_cases c3 : 250 < v
    · rw [if_pos (Or.inr c3), if_pos (Or.inr c3)]
    · rw [if_neg (by simp; omega), if_neg (by omega)]
/-- what a token is: from q to e, of the class's kind a and value c, of the reference's kind b and value v -/
def TKd (t : Int → Int) (N q e : Nat) (a c b v : Int) : Prop :=
  (q = N ∧ e = N ∧ a = 0 ∧ b = 0) ∨ (q < N ∧ q < e ∧ e ≤ N ∧ ((a = 1 ∧ b = 4) ∨ (a = 2 ∧ b = 2 ∧ c = v ∧ 0 ≤ v ∧ v ≤ 250) ∨ (a = 3 ∧ b = 3) ∨ (b = 1 ∧ 0 ≤ v ∧ v ≤ 6 ∧ a = 4 + v)))
def TC (t : Int → Int) (N q e : Nat) (a c : Int) : Prop :=
  (q = N ∧ e = q ∧ a = 0) ∨ (q < N ∧ isL (t (q : Int)) = true ∧ e = run isL t (N - q) q ∧ a = tw (pkw t q (min (e - q) 6))) ∨ (q < N ∧ isL (t (q : Int)) = false ∧ isD (t (q : Int)) = true ∧ e = run isD t (N - q) q ∧ c = cvl t q (e - q) ∧ a = if (t (q : Int) = 48 ∧ 1 < e - q) ∨ 250 < cvl t q (e - q) then 1 else 2) ∨ (q < N ∧ isL (t (q : Int)) = false ∧ isD (t (q : Int)) = false ∧ e = q + 1 ∧ a = if t (q : Int) = 59 then 3 else 1)
def TM (t : Int → Int) (N q e : Nat) (b v : Int) : Prop :=
  (q = N ∧ e = q ∧ b = 0) ∨ (q < N ∧ isL (t (q : Int)) = true ∧ e = run isL t (N - q) q ∧ v = mw (pkw t q (min (e - q) 6)) ∧ b = if v = -9 then 4 else 1) ∨ (q < N ∧ isL (t (q : Int)) = false ∧ isD (t (q : Int)) = true ∧ e = run isD t (N - q) q ∧ v = mvl t q (e - q) ∧ b = if 250 < mvl t q (e - q) ∨ (t (q : Int) = 48 ∧ 1 < e - q) then 4 else 2) ∨ (q < N ∧ isL (t (q : Int)) = false ∧ isD (t (q : Int)) = false ∧ e = q + 1 ∧ b = if t (q : Int) = 59 then 3 else 4)
theorem tk_rel {q e e' : Nat} {a c b v : Int} (h1 : TC t N q e a c) (h2 : TM t N q e' b v) : e = e' ∧ TKd t N q e a c b v := by
  unfold TC at h1
  unfold TM at h2
  rcases h1 with ⟨x1, x2, x3⟩ | ⟨x1, x2, x3, x4⟩ | ⟨x1, x2, x3, x4, x5, x6⟩ | ⟨x1, x2, x3, x4, x5⟩
  · rcases h2 with ⟨y1, y2, y3⟩ | ⟨y1, _⟩ | ⟨y1, _⟩ | ⟨y1, _⟩
    · exact ⟨by omega, Or.inl ⟨x1, by omega, x3, y3⟩⟩
    · omega
    · omega
    · omega
  · rcases h2 with ⟨y1, _⟩ | ⟨y1, y2, y3, y4, y5⟩ | ⟨y1, y2, _⟩ | ⟨y1, y2, _⟩
    · omega
    · have rb := run_b (P := isL) (t := t) (N - q) q
      have ee : e = e' := by omega
      refine ⟨ee, Or.inr ⟨x1, ?_, by omega, ?_⟩⟩
      · by_cases z : run isL t (N - q) q = q
        · have := rb.2.2.1 (by omega)
          rw [z, x2] at this; exact absurd this (by decide)
        · omega
      · have w := tm_w (pkw t q (min (e - q) 6))
        rw [← ee] at y4
        rw [← x4, ← y4] at w
        rcases w with ⟨w1, w2⟩ | ⟨w1, w2, w3⟩
        · rw [if_pos w1] at y5
          exact Or.inl ⟨w2, y5⟩
        · rw [if_neg (by omega)] at y5
          exact Or.inr (Or.inr (Or.inr ⟨y5, w1, w2, w3⟩))
    · rw [x2] at y2; exact absurd y2 (by decide)
    · rw [x2] at y2; exact absurd y2 (by decide)
  · rcases h2 with ⟨y1, _⟩ | ⟨y1, y2, _⟩ | ⟨y1, y2, y3, y4, y5, y6⟩ | ⟨y1, y2, y3, _⟩
    · omega
    · rw [x2] at y2; exact absurd y2 (by decide)
    · have rb := run_b (P := isD) (t := t) (N - q) q
      have ee : e = e' := by omega
      have dg : ∀ k : Nat, k < e - q → 48 ≤ t ((q + k : Nat) : Int) ∧ t ((q + k : Nat) : Int) ≤ 57 := fun k hk => of_decide_eq_true (rb.2.2.2 (q + k) (by omega) (by omega))
      have vr := vl_rel (t := t) (q := q) (e - q) dg
      rw [← ee] at y5 y6
      refine ⟨ee, Or.inr ⟨x1, ?_, by omega, ?_⟩⟩
      · by_cases z : run isD t (N - q) q = q
        · have := rb.2.2.1 (by omega)
          rw [z, x3] at this; exact absurd this (by decide)
        · omega
      · rw [← x5] at x6 vr
        rw [← y5] at y6 vr
        by_cases z : (t (q : Int) = 48 ∧ 1 < e - q) ∨ 250 < c
        · rw [if_pos z] at x6
          rw [if_pos (by omega)] at y6
          exact Or.inl ⟨x6, y6⟩
        · rw [if_neg z] at x6
          rw [if_neg (by omega)] at y6
          exact Or.inr (Or.inl ⟨x6, y6, by omega, by omega, by omega⟩)
    · rw [x3] at y3; exact absurd y3 (by decide)
  · rcases h2 with ⟨y1, _⟩ | ⟨y1, y2, _⟩ | ⟨y1, y2, y3, _⟩ | ⟨y1, y2, y3, y4, y5⟩
    · omega
    · rw [x2] at y2; exact absurd y2 (by decide)
    · rw [x3] at y3; exact absurd y3 (by decide)
    · refine ⟨by omega, Or.inr ⟨x1, by omega, by omega, ?_⟩⟩
      by_cases z : t (q : Int) = 59
      · rw [if_pos z] at x5 y5
        exact Or.inr (Or.inr (Or.inl ⟨x5, y5⟩))
      · rw [if_neg z] at x5 y5
        exact Or.inl ⟨x5, y5⟩
theorem cadv {a : Nat} (hN : h 2 1 = (N : Int)) (h4 : N ≤ 400) (ht : h 3 = t) (h5 : h 2 5 = (a : Int)) (haN : a ≤ N) :
    ∃ h' e, F_X4_advance h = some (0, h') ∧ ft h h' ∧ h' 2 3 = ((run isB t (N - a) a : Nat) : Int) ∧ h' 2 5 = ((e : Nat) : Int) ∧ TC t N (run isB t (N - a) a) e (h' 2 2) (h' 2 4) := by
  have rb := run_b (P := isB) (t := t) (N - a) a
  unfold F_X4_advance
  obtain ⟨h1, e1, F1, g5⟩ := cskip hN h4 ht (fun  (h_8 : Mem) => nm (wr h_8 2 3 (h_8 2 5)) (fun (h_9 : Mem) => if ((h_9 2 1) ≤ (h_9 2 5)) then (nm (wr h_9 2 2 0) (fun (h_10 : Mem) => some (0, h_10))) else (jn (fun (K_11 : Mem → Res) => gd (0 ≤ (h_9 2 5) ∧ (h_9 2 5) < 400) (bd (F_X4_isLetter (h_9 3 (h_9 2 5)) h_9) (fun r_13 (h_14 : Mem) => if (¬ r_13 = 0) then (bd (F_X4_readWord  h_14) (fun _ (h_19 : Mem) => K_11 h_19)) else (jn (fun (K_21 : Mem → Res) => gd (0 ≤ (h_14 2 5) ∧ (h_14 2 5) < 400) (bd (F_X4_isDigit (h_14 3 (h_14 2 5)) h_14) (fun r_23 (h_24 : Mem) => if (¬ r_23 = 0) then (bd (F_X4_readNumber  h_24) (fun _ (h_29 : Mem) => K_21 h_29)) else (jn (fun (K_31 : Int → Mem → Res) => gd (0 ≤ (h_24 2 5) ∧ (h_24 2 5) < 400) (if ((h_24 3 (h_24 2 5)) = 59) then (K_31 3 h_24) else (K_31 1 h_24))) (fun v_35 (h_34 : Mem) => nm (wr h_34 2 2 v_35) (fun (h_36 : Mem) => nm (wr h_36 2 5 (w32 ((h_36 2 5) + 1))) (fun (h_37 : Mem) => K_21 h_37))))))) (fun  (h_38 : Mem) => K_11 h_38))))) (fun  (h_39 : Mem) => some (0, h_39))))) (N - a) a h FU (by omega) (by unfold FU; omega) (fun _ _ _ => rfl) h5
  generalize hq : run isB t (N - a) a = q at *
  rw [e1, g5]
  simp only [nm, jn]
  have k1 : (wr h1 2 3 (q : Int)) 2 1 = (N : Int) := by rw [wr_k (by omega), F1 2 1 (by omega)]; exact hN
  have k5 : (wr h1 2 3 (q : Int)) 2 5 = (q : Int) := by rw [wr_k (by omega)]; exact g5
  have k3 : (wr h1 2 3 (q : Int)) 3 = t := by rw [← ht]; funext k; rw [wr_o (by omega)]; exact F1 3 k (by omega)
  have kq : (wr h1 2 3 (q : Int)) 2 3 = (q : Int) := wr_s
  have F2 : ft h (wr h1 2 3 (q : Int)) := fun r k z => by rw [wr_at, if_neg (by omega)]; exact F1 r k (by omega)
  generalize wr h1 2 3 (q : Int) = g at *
  rw [k1, k5, k3]
  by_cases c0 : q = N
  · refine ⟨wr g 2 2 0, q, by rw [if_pos (by omega)], fun r k z => by rw [wr_at, if_neg (by omega)]; exact F2 r k z, by rw [wr_k (by omega)]; exact kq, by rw [wr_k (by omega)]; exact k5, Or.inl ⟨c0, rfl, wr_s⟩⟩
  · rw [if_neg (by omega), gd_t (by omega), let_e, bd_s]
    cases cl : isL (t (q : Int)) with
    | true =>
      obtain ⟨h', e', F', w3, w5, w2⟩ := readWord_e k1 h4 k3 kq k5 (by omega) cl
      refine ⟨h', run isL t (N - q) q, ?_, fun r k z => by rw [F' r k z]; exact F2 r k z, w3, w5, Or.inr (Or.inl ⟨by omega, cl, rfl, w2⟩)⟩
      rw [if_pos rfl, if_pos (by omega), e', bd_s]
    | false =>
      rw [if_neg (by decide), k5, k3, gd_t (by omega), dig_e, bd_s]
      cases cd : isD (t (q : Int)) with
      | true =>
        obtain ⟨h', e', F', w3, w5, w4, w2⟩ := readNum_e k1 h4 k3 kq k5 (by omega)
        refine ⟨h', run isD t (N - q) q, ?_, fun r k z => by rw [F' r k z]; exact F2 r k z, w3, w5, Or.inr (Or.inr (Or.inl ⟨by omega, cl, cd, rfl, w4, w2⟩))⟩
        rw [if_pos rfl, if_pos (by omega), e', bd_s]
      | false =>
        rw [if_neg (by decide), k5, k3, gd_t (by omega)]
        refine ⟨wr (wr g 2 2 (if t (q : Int) = 59 then 3 else 1)) 2 5 ((q + 1 : Nat) : Int), q + 1, ?_, fun r k z => by rw [wr_at, if_neg (by omega), wr_at, if_neg (by omega)]; exact F2 r k z, by rw [wr_k (by omega), wr_k (by omega)]; exact kq, wr_s, Or.inr (Or.inr (Or.inr ⟨by omega, cl, cd, rfl, by rw [wr_k (by omega), wr_s]⟩))⟩
        by_cases z : t (q : Int) = 59
        · rw [if_pos z, if_pos z, wr_k (by omega), k5, w32_n (by omega)]
        · rw [if_neg z, if_neg z, wr_k (by omega), k5, w32_n (by omega)]
theorem madv {a : Nat} (hN : h 56 3 = (N : Int)) (h4 : N ≤ 400) (ht : ∀ k : Nat, k < N → h 57 (k : Int) = t (k : Int)) (htb : ∀ k : Nat, k < N → 0 ≤ t (k : Int) ∧ t (k : Int) < 256) (h5 : h 56 4 = (a : Int)) (haN : a ≤ N) :
    ∃ h' e, F_X8_advances h = some (0, h') ∧ fm h h' ∧ h' 56 6 = ((run isB t (N - a) a : Nat) : Int) ∧ h' 56 4 = ((e : Nat) : Int) ∧ TM t N (run isB t (N - a) a) e (h' 56 5) (h' 56 7) := by
  have rb := run_b (P := isB) (t := t) (N - a) a
  unfold F_X8_advances
  obtain ⟨h1, e1, F1, g5⟩ := mskip hN h4 ht (fun  (h_7 : Mem) => nm (wr h_7 56 6 (h_7 56 4)) (fun (h_8 : Mem) => bd (F_X8_byteAt (h_8 56 4) h_8) (fun r_9 (h_10 : Mem) => if (r_9 < 0) then (nm (wr h_10 56 5 0) (fun (h_12 : Mem) => some (0, h_12))) else (jn (fun (K_13 : Mem → Res) => bd (F_X8_in r_9 97 122 h_10) (fun r_14 (h_15 : Mem) => if (¬ r_14 = 0) then (L_X8_advances_2 r_9 (fun v_41 (h_40 : Mem) => bd (F_X8_wordOf v_41 h_40) (fun r_42 (h_43 : Mem) => nm (wr h_43 56 7 r_42) (fun (h_45 : Mem) => nm (α := Int) (if ((h_45 56 7) = (-9)) then 4 else 1) (fun v_46 => nm (wr h_45 56 5 v_46) (fun (h_48 : Mem) => K_13 h_48))))) FU 0 h_15) else (jn (fun (K_49 : Mem → Res) => bd (F_X8_in r_9 48 57 h_15) (fun r_50 (h_51 : Mem) => if (¬ r_50 = 0) then (nm (wr h_51 56 7 0) (fun (h_55 : Mem) => L_X8_advances_3 r_9 (fun  (h_74 : Mem) => nm (α := Int) (if ((250 < (h_74 56 7)) ∨ ((r_9 = 48) ∧ (1 < (w32 ((h_74 56 4) - (h_74 56 6)))))) then 4 else 2) (fun v_75 => nm (wr h_74 56 5 v_75) (fun (h_79 : Mem) => K_49 h_79))) FU h_55)) else (nm (wr h_51 56 4 (w32 ((h_51 56 4) + 1))) (fun (h_80 : Mem) => nm (α := Int) (if (r_9 = 59) then 3 else 4) (fun v_81 => nm (wr h_80 56 5 v_81) (fun (h_83 : Mem) => K_49 h_83)))))) (fun  (h_84 : Mem) => K_13 h_84)))) (fun  (h_85 : Mem) => some (0, h_85)))))) (N - a) a h FU (by omega) (by unfold FU; omega) (fun _ _ _ => rfl) h5
  generalize hq : run isB t (N - a) a = q at *
  rw [e1, g5]
  refine ex_m (nm_of rfl) ?_
  have k1 : (wr h1 56 6 (q : Int)) 56 3 = (N : Int) := by rw [wr_k (by omega), F1 56 3 (by omega)]; exact hN
  have k5 : (wr h1 56 6 (q : Int)) 56 4 = (q : Int) := by rw [wr_k (by omega)]; exact g5
  have k3 : ∀ k : Nat, k < N → (wr h1 56 6 (q : Int)) 57 (k : Int) = t (k : Int) := fun k hk => by rw [wr_o (by omega), F1 57 k (by omega)]; exact ht k hk
  have kq : (wr h1 56 6 (q : Int)) 56 6 = (q : Int) := wr_s
  have F2 : fm h (wr h1 56 6 (q : Int)) := fun r k z => by rw [wr_at, if_neg (by omega)]; exact F1 r k (by omega)
  generalize wr h1 56 6 (q : Int) = g at *
  rw [k5, byte_at k1 h4 k3]
  refine ex_m bd_s ?_
  by_cases c0 : q = N
  · rw [if_neg (show ¬ q < N by omega)]
    refine ⟨wr g 56 5 0, q, by rw [if_pos (by omega)]; rfl, fun r k z => by rw [wr_at, if_neg (by omega)]; exact F2 r k z, by rw [wr_k (by omega)]; exact kq, by rw [wr_k (by omega)]; exact k5, Or.inl ⟨c0, rfl, wr_s⟩⟩
  · have tb := htb q (by omega)
    rw [if_pos (show q < N by omega), if_neg (by omega)]
    refine ex_m jn_of ?_
    rw [in_L]
    refine ex_m bd_s ?_
    cases cl : isL (t (q : Int)) with
    | true =>
      rw [if_pos rfl, if_pos (by omega)]
      obtain ⟨h2, e2, G2, w4⟩ := mword (h := g) (N := N) (t := t) (q := q) k1 h4 k3 kq htb (t (q : Int)) (fun v_41 (h_40 : Mem) => bd (F_X8_wordOf v_41 h_40) (fun r_42 (h_43 : Mem) => nm (wr h_43 56 7 r_42) (fun (h_45 : Mem) => nm (α := Int) (if ((h_45 56 7) = (-9)) then 4 else 1) (fun v_46 => nm (wr h_45 56 5 v_46) (fun (h_48 : Mem) => some (0, h_48)))))) (N - q) q g FU (by omega) (Nat.le_refl _) (by unfold FU; omega) (fun _ _ _ => rfl) k5 (by rw [Nat.sub_self]; exact Int.le_refl _) (by rw [Nat.sub_self]; show (0 : Int) < 256 ^ 0; decide)
      rw [Nat.sub_self] at e2
      refine ⟨wr (wr h2 56 7 (mw (pkw t q (min (run isL t (N - q) q - q) 6)))) 56 5 (if mw (pkw t q (min (run isL t (N - q) q - q) 6)) = -9 then 4 else 1), run isL t (N - q) q, ?_, fun r k z => by rw [wr_at, if_neg (by omega), wr_at, if_neg (by omega), G2 r k (by omega)]; exact F2 r k z, by rw [wr_k (by omega), wr_k (by omega), G2 56 6 (by omega)]; exact kq, by rw [wr_k (by omega), wr_k (by omega)]; exact w4, Or.inr (Or.inl ⟨by omega, cl, rfl, by rw [wr_k (by omega), wr_s], by rw [wr_s, wr_k (by omega), wr_s]⟩)⟩
      refine e2.trans ?_
      refine (bd_of (wordOf_e _ _)).trans ?_
      refine (nm_of rfl).trans ?_
      rw [wr_s]
      rfl
    | false =>
      rw [if_neg (by decide)]
      refine ex_m jn_of ?_
      rw [in_D]
      refine ex_m bd_s ?_
      cases cd : isD (t (q : Int)) with
      | true =>
        rw [if_pos rfl, if_pos (by omega)]
        refine ex_m (nm_of rfl) ?_
        obtain ⟨h2, e2, G2, w4, w7⟩ := mnum (h := wr g 56 7 0) (N := N) (t := t) (q := q) (by rw [wr_k (by omega)]; exact k1) h4 (fun k hk => by rw [wr_o (by omega)]; exact k3 k hk) (t (q : Int)) (fun  (h_74 : Mem) => nm (α := Int) (if ((250 < (h_74 56 7)) ∨ ((t (q : Int) = 48) ∧ (1 < (w32 ((h_74 56 4) - (h_74 56 6)))))) then 4 else 2) (fun v_75 => nm (wr h_74 56 5 v_75) (fun (h_79 : Mem) => some (0, h_79)))) (N - q) q (wr g 56 7 0) FU (by omega) (Nat.le_refl _) (by unfold FU; omega) (fun _ _ _ => rfl) (by rw [wr_k (by omega)]; exact k5) (by rw [wr_s, Nat.sub_self]; rfl) (fun k hk => absurd hk (by omega))
        have w6 : h2 56 6 = (q : Int) := by rw [G2 56 6 (by omega), wr_k (by omega)]; exact kq
        have rd := run_b (P := isD) (t := t) (N - q) q
        refine ⟨wr h2 56 5 (if 250 < mvl t q (run isD t (N - q) q - q) ∨ (t (q : Int) = 48 ∧ 1 < run isD t (N - q) q - q) then 4 else 2), run isD t (N - q) q, ?_, fun r k z => by rw [wr_at, if_neg (by omega), G2 r k (by omega), wr_at, if_neg (by omega)]; exact F2 r k z, by rw [wr_k (by omega)]; exact w6, by rw [wr_k (by omega)]; exact w4, Or.inr (Or.inr (Or.inl ⟨by omega, cl, cd, rfl, by rw [wr_k (by omega)]; exact w7, wr_s⟩))⟩
        refine e2.trans ?_
        rw [w4, w6, w7, w32_s (z := ((run isD t (N - q) q : Nat) : Int) - q) (by omega) (by omega)]
        by_cases z : 250 < mvl t q (run isD t (N - q) q - q) ∨ (t (q : Int) = 48 ∧ 1 < run isD t (N - q) q - q)
        · rw [if_pos z, if_pos (by omega)]; rfl
        · rw [if_neg z, if_neg (by omega)]; rfl
      | false =>
        rw [if_neg (by decide), k5, w32_n (by omega)]
        refine ⟨wr (wr g 56 4 ((q + 1 : Nat) : Int)) 56 5 (if t (q : Int) = 59 then 3 else 4), q + 1, rfl, fun r k z => by rw [wr_at, if_neg (by omega), wr_at, if_neg (by omega)]; exact F2 r k z, by rw [wr_k (by omega), wr_k (by omega)]; exact kq, by rw [wr_k (by omega), wr_s], Or.inr (Or.inr (Or.inr ⟨by omega, cl, cd, rfl, wr_s⟩))⟩
end Adv
