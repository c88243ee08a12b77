/-! the text's tokens, both sides: the loops -/
def run (P : Int → Bool) (t : Int → Int) : Nat → Nat → Nat
  | 0, a => a
  | d + 1, a => if P (t (a : Int)) = true then run P t d (a + 1) else a
theorem run_b {P : Int → Bool} {t : Int → Int} : ∀ d a : Nat, a ≤ run P t d a ∧ run P t d a ≤ a + d ∧ (run P t d a < a + d → P (t ((run P t d a : Nat) : Int)) = false) ∧ ∀ k : Nat, a ≤ k → k < run P t d a → P (t (k : Int)) = true
  | 0, a => by rw [run]; exact ⟨Nat.le_refl _, by omega, fun z => absurd z (by omega), fun k h1 h2 => absurd h2 (by omega)⟩
  | d + 1, a => by
    have ih := run_b (P := P) (t := t) d (a + 1)
    rw [run]
    by_cases c : P (t (a : Int)) = true
    · rw [if_pos c]
      refine ⟨by omega, by omega, fun z => ih.2.2.1 (by omega), fun k h1 h2 => ?_⟩
      by_cases e : k = a
      · rw [e]; exact c
      · exact ih.2.2.2 k (by omega) h2
    · rw [if_neg c]
      refine ⟨Nat.le_refl _, by omega, fun _ => ?_, fun k h1 h2 => absurd h2 (by omega)⟩
      cases e : P (t (a : Int)) with
      | false => rfl
      | true => exact absurd e c
def isB (x : Int) : Bool := decide (x = 32)
def isL (x : Int) : Bool := decide (97 ≤ x ∧ x ≤ 122)
def isD (x : Int) : Bool := decide (48 ≤ x ∧ x ≤ 57)
def fr5 (h h' : Mem) : Prop := ∀ r k : Int, ¬ (r = 2 ∧ k = 5) → h' r k = h r k
def fr4 (h h' : Mem) : Prop := ∀ r k : Int, ¬ (r = 56 ∧ k = 4) → h' r k = h r k
section Tok
variable {h : Mem} {N : Nat} {t : Int → Int}
theorem cskip (hN : h 2 1 = (N : Int)) (h4 : N ≤ 400) (ht : h 3 = t) (Kx : Mem → Res) : ∀ (d a : Nat) (h1 : Mem) (f : Nat), a + d = N → d < f → fr5 h h1 → h1 2 5 = (a : Int) → ∃ h2, L_X4_advance_1 Kx f h1 = Kx h2 ∧ fr5 h h2 ∧ h2 2 5 = ((run isB t d a : Nat) : Int) := by
  intro d
  induction d with
  | zero =>
    intro a h1 f ha hf hF h5
    obtain ⟨f, rfl⟩ : ∃ g, f = g + 1 := ⟨f - 1, by omega⟩
    refine ⟨h1, ?_, hF, h5⟩
    rw [L_X4_advance_1]
    refine jn_of.trans ?_
    rw [h5, hF 2 1 (by omega), hN, if_neg (by omega)]
  | succ d ih =>
    intro a h1 f ha hf hF h5
    obtain ⟨f, rfl⟩ : ∃ g, f = g + 1 := ⟨f - 1, by omega⟩
    have h3 : ∀ k, h1 3 k = t k := fun k => by rw [hF 3 k (by omega), ht]
    rw [L_X4_advance_1, run]
    refine ex_ct jn_of ?_
    rw [h5, hF 2 1 (by omega), hN, if_pos (by omega), gd_t (by omega), h3]
    by_cases c : t (a : Int) = 32
    · rw [if_pos c, if_pos (show isB (t (a : Int)) = true from decide_eq_true c)]
      try rw [h5]
      rw [w32_n (by omega)]
      refine ex_ct (nm_of rfl) ?_
      exact ih (a + 1) _ f (by omega) (by omega) (fun r k z => by rw [wr_at, if_neg z]; exact hF r k z) wr_s
    · rw [if_neg c, if_neg (show ¬ isB (t (a : Int)) = true from fun z => c (of_decide_eq_true z))]
      exact ⟨h1, rfl, hF, h5⟩
theorem byte_at {a : Nat} (hN : h 56 3 = (N : Int)) (h4 : N ≤ 400) (ht : ∀ k : Nat, k < N → h 57 (k : Int) = t (k : Int)) : F_X8_byteAt (a : Int) h = some (if a < N then t (a : Int) else -1, h) := by
  unfold F_X8_byteAt
  rw [hN]
  by_cases c : a < N
  · rw [if_pos (by omega), if_pos c, gd_t (by omega), ht a c]
  · rw [if_neg (by omega), if_neg c]
theorem mskip (hN : h 56 3 = (N : Int)) (h4 : N ≤ 400) (ht : ∀ k : Nat, k < N → h 57 (k : Int) = t (k : Int)) (Kx : Mem → Res) : ∀ (d a : Nat) (h1 : Mem) (f : Nat), a + d = N → d < f → fr4 h h1 → h1 56 4 = (a : Int) → ∃ h2, L_X8_advances_1 Kx f h1 = Kx h2 ∧ fr4 h h2 ∧ h2 56 4 = ((run isB t d a : Nat) : Int) := by
  intro d
  induction d with
  | zero =>
    intro a h1 f ha hf hF h5
    obtain ⟨f, rfl⟩ : ∃ g, f = g + 1 := ⟨f - 1, by omega⟩
    refine ⟨h1, ?_, hF, h5⟩
    rw [L_X8_advances_1, h5, byte_at (N := N) (t := t) (by rw [hF 56 3 (by omega)]; exact hN) h4 (fun k hk => by rw [hF 57 k (by omega)]; exact ht k hk), bd_s, if_neg (show ¬ a < N by omega), if_neg (by omega)]
  | succ d ih =>
    intro a h1 f ha hf hF h5
    obtain ⟨f, rfl⟩ : ∃ g, f = g + 1 := ⟨f - 1, by omega⟩
    rw [L_X8_advances_1, run, h5, byte_at (N := N) (t := t) (by rw [hF 56 3 (by omega)]; exact hN) h4 (fun k hk => by rw [hF 57 k (by omega)]; exact ht k hk), bd_s, if_pos (show a < N by omega)]
    by_cases c : t (a : Int) = 32
    · rw [if_pos c, if_pos (show isB (t (a : Int)) = true from decide_eq_true c)]
      try rw [h5]
      rw [w32_n (by omega)]
      refine ex_ct (nm_of rfl) ?_
      exact ih (a + 1) _ f (by omega) (by omega) (fun r k z => by rw [wr_at, if_neg z]; exact hF r k z) wr_s
    · rw [if_neg c, if_neg (show ¬ isB (t (a : Int)) = true from fun z => c (of_decide_eq_true z))]
      exact ⟨h1, rfl, hF, h5⟩
theorem let_e (x : Int) (h : Mem) : F_X4_isLetter x h = some (if isL x = true then 1 else 0, h) := by
  unfold F_X4_isLetter isL
  by_cases c : 97 ≤ x ∧ x ≤ 122
  · rw [if_pos c, if_pos (decide_eq_true c)]
  · rw [if_neg c, if_neg (fun z => c (of_decide_eq_true z))]
theorem dig_e (x : Int) (h : Mem) : F_X4_isDigit x h = some (if isD x = true then 1 else 0, h) := by
  unfold F_X4_isDigit isD
  by_cases c : 48 ≤ x ∧ x ≤ 57
  · rw [if_pos c, if_pos (decide_eq_true c)]
  · rw [if_neg c, if_neg (fun z => c (of_decide_eq_true z))]
theorem in_L (x : Int) (h : Mem) : F_X8_in x 97 122 h = some (if isL x = true then 1 else 0, h) := by
  rw [in_e]
  unfold isL
  by_cases c : 97 ≤ x ∧ x ≤ 122
  · rw [if_pos c, if_pos (decide_eq_true c)]
  · rw [if_neg c, if_neg (fun z => c (of_decide_eq_true z))]
theorem in_D (x : Int) (h : Mem) : F_X8_in x 48 57 h = some (if isD x = true then 1 else 0, h) := by
  rw [in_e]
  unfold isD
  by_cases c : 48 ≤ x ∧ x ≤ 57
  · rw [if_pos c, if_pos (decide_eq_true c)]
  · rw [if_neg c, if_neg (fun z => c (of_decide_eq_true z))]
theorem cword (hN : h 2 1 = (N : Int)) (h4 : N ≤ 400) (ht : h 3 = t) (Kx : Mem → Res) : ∀ (d a : Nat) (h1 : Mem) (f : Nat), a + d = N → d < f → fr5 h h1 → h1 2 5 = (a : Int) → ∃ h2, L_X4_readWord_1 Kx f h1 = Kx h2 ∧ fr5 h h2 ∧ h2 2 5 = ((run isL t d a : Nat) : Int) := by
  intro d
  induction d with
  | zero =>
    intro a h1 f ha hf hF h5
    obtain ⟨f, rfl⟩ : ∃ g, f = g + 1 := ⟨f - 1, by omega⟩
    refine ⟨h1, ?_, hF, h5⟩
    rw [L_X4_readWord_1]
    refine jn_of.trans ?_
    rw [h5, hF 2 1 (by omega), hN, if_neg (by omega)]
  | succ d ih =>
    intro a h1 f ha hf hF h5
    obtain ⟨f, rfl⟩ : ∃ g, f = g + 1 := ⟨f - 1, by omega⟩
    have h3 : ∀ k, h1 3 k = t k := fun k => by rw [hF 3 k (by omega), ht]
    rw [L_X4_readWord_1, run]
    refine ex_ct jn_of ?_
    rw [h5, hF 2 1 (by omega), hN, if_pos (by omega), gd_t (by omega), h3, let_e, bd_s]
    by_cases c : isL (t (a : Int)) = true
    · rw [if_pos c, if_pos c, if_pos (by omega), h5, w32_n (by omega)]
      refine ex_ct (nm_of rfl) ?_
      exact ih (a + 1) _ f (by omega) (by omega) (fun r k z => by rw [wr_at, if_neg z]; exact hF r k z) wr_s
    · rw [if_neg c, if_neg c, if_neg (by omega)]
      exact ⟨h1, rfl, hF, h5⟩
/-- the first letters of a word, as a number -/
def pkw (t : Int → Int) (q : Nat) : Nat → Int
  | 0 => 0
  | j + 1 => 256 * pkw t q j + t ((q + j : Nat) : Int)
theorem mword {q : Nat} (hN : h 56 3 = (N : Int)) (h4 : N ≤ 400) (ht : ∀ k : Nat, k < N → h 57 (k : Int) = t (k : Int)) (hq : h 56 6 = (q : Int)) (htb : ∀ k : Nat, k < N → 0 ≤ t (k : Int) ∧ t (k : Int) < 256) (r9 : Int) (Kx : Int → Mem → Res) : ∀ (d a : Nat) (h1 : Mem) (f : Nat), a + d = N → q ≤ a → d < f → fr4 h h1 → h1 56 4 = (a : Int) → 0 ≤ pkw t q (min (a - q) 6) → pkw t q (min (a - q) 6) < 256 ^ (min (a - q) 6) →
    ∃ h2, L_X8_advances_2 r9 Kx f (pkw t q (min (a - q) 6)) h1 = Kx (pkw t q (min (run isL t d a - q) 6)) h2 ∧ fr4 h h2 ∧ h2 56 4 = ((run isL t d a : Nat) : Int) := by
  intro d
  induction d with
  | zero =>
    intro a h1 f ha hqa hf hF h5 p0 p1
    obtain ⟨f, rfl⟩ : ∃ g, f = g + 1 := ⟨f - 1, by omega⟩
    refine ⟨h1, ?_, hF, h5⟩
    rw [L_X8_advances_2, h5, byte_at (N := N) (t := t) (by rw [hF 56 3 (by omega)]; exact hN) h4 (fun k hk => by rw [hF 57 k (by omega)]; exact ht k hk), bd_s, if_neg (show ¬ a < N by omega), in_L, bd_s, if_neg (show ¬ isL (-1) = true by decide), if_neg (by omega), run]
  | succ d ih =>
    intro a h1 f ha hqa hf hF h5 p0 p1
    obtain ⟨f, rfl⟩ : ∃ g, f = g + 1 := ⟨f - 1, by omega⟩
    have by1 := byte_at (h := h1) (N := N) (t := t) (a := a) (by rw [hF 56 3 (by omega)]; exact hN) h4 (fun k hk => by rw [hF 57 k (by omega)]; exact ht k hk)
    rw [if_pos (show a < N by omega)] at by1
    have tb := htb a (by omega)
    rw [L_X8_advances_2, run, h5, by1, bd_s, in_L, bd_s]
    by_cases c : isL (t (a : Int)) = true
    · have cl := of_decide_eq_true c
      rw [if_pos c, if_pos c, if_pos (by omega)]
      refine ex_ct jn_of ?_
      rw [h5, hF 56 6 (by omega), hq, w32_s (z := (a : Int) - q) (by omega) (by omega)]
      have go : ∀ v : Int, v = pkw t q (min (a + 1 - q) 6) → 0 ≤ v → v < 256 ^ (min (a + 1 - q) 6) → ∃ h2, (nm (wr h1 56 4 (w32 ((h1 56 4) + 1))) (fun (h_39 : Mem) => L_X8_advances_2 r9 Kx f v h_39) : Res) = Kx (pkw t q (min (run isL t d (a + 1) - q) 6)) h2 ∧ fr4 h h2 ∧ h2 56 4 = ((run isL t d (a + 1) : Nat) : Int) := by
        intro v hv v0 v1
        subst hv
        rw [h5, w32_n (by omega)]
        refine ex_ct (nm_of rfl) ?_
        exact ih (a + 1) _ f (by omega) (by omega) (by omega) (fun r k z => by rw [wr_at, if_neg z]; exact hF r k z) wr_s v0 v1
      by_cases e : a - q < 6
      · have m1 : min (a - q) 6 = a - q := Nat.min_eq_left (by omega)
        have m2 : min (a + 1 - q) 6 = (a - q) + 1 := by rw [Nat.min_eq_left (by omega)]; omega
        rw [m1] at p0 p1 ⊢
        rw [m2] at go
        have pe : pkw t q (a - q + 1) = 256 * pkw t q (a - q) + t (a : Int) := by rw [pkw, show q + (a - q) = a by omega]
        have pw : (256 : Int) ^ (a - q + 1) = 256 ^ (a - q) * 256 := Int.pow_succ 256 (a - q)
        have pb : (256 : Int) ^ (a - q) ≤ 1099511627776 := by
          have : ∀ e : Nat, e < 6 → (256 : Int) ^ e ≤ 1099511627776 := by decide
          exact this _ e
        rw [if_pos (by omega), by1, bd_s]
        have ad : F_X8_add (pkw t q (a - q)) (t (a : Int)) h1 = some (256 * pkw t q (a - q) + t (a : Int), h1) := by
          unfold F_X8_add
          rw [if_neg (by omega), w64_eq (z := 256 * pkw t q (a - q)) (by omega) (by omega), w64_eq (by omega) (by omega)]
        refine ex_ct (bd_of ad) ?_
        exact go _ pe.symm (by omega) (by rw [pw]; omega)
      · have m1 : min (a - q) 6 = 6 := Nat.min_eq_right (by omega)
        have m2 : min (a + 1 - q) 6 = 6 := Nat.min_eq_right (by omega)
        rw [m1] at p0 p1 ⊢
        rw [m2] at go
        rw [if_neg (by omega)]
        exact go _ rfl p0 p1
    · rw [if_neg c, if_neg c, if_neg (by omega)]
      exact ⟨h1, rfl, hF, h5⟩
end Tok
