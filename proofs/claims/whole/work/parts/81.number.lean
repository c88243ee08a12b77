/-! numbers and words of the text -/
/-- the class's value (held low) and the reference's, of the figures from q on -/
def cvl (t : Int → Int) (q : Nat) : Nat → Int
  | 0 => 0
  | j + 1 => mnI (cvl t q j * 10 + (t ((q + j : Nat) : Int) - 48)) 1000
def mvl (t : Int → Int) (q : Nat) : Nat → Int
  | 0 => 0
  | j + 1 => if 250 < mvl t q j then mvl t q j else 10 * mvl t q j + t ((q + j : Nat) : Int) - 48
theorem vl_rel {t : Int → Int} {q : Nat} : ∀ j : Nat, (∀ k : Nat, k < j → 48 ≤ t ((q + k : Nat) : Int) ∧ t ((q + k : Nat) : Int) ≤ 57) → (0 ≤ cvl t q j ∧ cvl t q j ≤ 1000) ∧ (0 ≤ mvl t q j ∧ mvl t q j ≤ 2509) ∧ ((cvl t q j = mvl t q j ∧ mvl t q j ≤ 250) ∨ (250 < cvl t q j ∧ 250 < mvl t q j))
  | 0, _ => ⟨⟨Int.le_refl _, by show (0 : Int) ≤ 1000; omega⟩, ⟨Int.le_refl _, by show (0 : Int) ≤ 2509; omega⟩, Or.inl ⟨rfl, by show (0 : Int) ≤ 250; omega⟩⟩
  | j + 1, h => by
    have ih := vl_rel (t := t) (q := q) j (fun k hk => h k (by omega))
    have d := h j (by omega)
    rw [cvl, mvl]
    generalize t ((q + j : Nat) : Int) = x at *
    generalize cvl t q j = a at *
    generalize mvl t q j = b at *
    unfold mnI
    split <;> split <;> omega
def fr45 (h h' : Mem) : Prop := ∀ r k : Int, ¬ (r = 2 ∧ (k = 4 ∨ k = 5)) → h' r k = h r k
def fr47 (h h' : Mem) : Prop := ∀ r k : Int, ¬ (r = 56 ∧ (k = 4 ∨ k = 7)) → h' r k = h r k
section Num
variable {h : Mem} {N : Nat} {t : Int → Int}
theorem cnum {q : Nat} (hN : h 2 1 = (N : Int)) (h4 : N ≤ 400) (ht : h 3 = t) (Kx : Mem → Res) : ∀ (d a : Nat) (h1 : Mem) (f : Nat), a + d = N → q ≤ a → d < f → fr45 h h1 → h1 2 5 = (a : Int) → h1 2 4 = cvl t q (a - q) → (∀ k : Nat, k < a - q → 48 ≤ t ((q + k : Nat) : Int) ∧ t ((q + k : Nat) : Int) ≤ 57) →
    ∃ h2, L_X4_readNumber_1 Kx f h1 = Kx h2 ∧ fr45 h h2 ∧ h2 2 5 = ((run isD t d a : Nat) : Int) ∧ h2 2 4 = cvl t q (run isD t d a - q) := by
  intro d
  induction d with
  | zero =>
    intro a h1 f ha hqa hf hF h5 hv hd
    obtain ⟨f, rfl⟩ : ∃ g, f = g + 1 := ⟨f - 1, by omega⟩
    refine ⟨h1, ?_, hF, h5, hv⟩
    rw [L_X4_readNumber_1]
    refine jn_of.trans ?_
    rw [h5, hF 2 1 (by omega), hN, if_neg (by omega)]
  | succ d ih =>
    intro a h1 f ha hqa hf hF h5 hv hd
    obtain ⟨f, rfl⟩ : ∃ g, f = g + 1 := ⟨f - 1, by omega⟩
    have h3 : ∀ k, h1 3 k = t k := fun k => by rw [hF 3 k (by omega), ht]
    rw [L_X4_readNumber_1, run]
    refine ex_ct jn_of ?_
    rw [h5, hF 2 1 (by omega), hN, if_pos (by omega), gd_t (by omega), h3, dig_e, bd_s]
    by_cases c : isD (t (a : Int)) = true
    · have cd := of_decide_eq_true c
      have vb := (vl_rel (t := t) (q := q) (a - q) hd).1
      have e : cvl t q (a + 1 - q) = mnI (cvl t q (a - q) * 10 + (t (a : Int) - 48)) 1000 := by rw [show a + 1 - q = (a - q) + 1 by omega, cvl, show q + (a - q) = a by omega]
      rw [if_pos c, if_pos c, if_pos (by omega), h5, gd_t (by omega), h3, hv, w32_s (z := cvl t q (a - q) * 10) (by omega) (by omega), w32_s (z := t (a : Int) - 48) (by omega) (by omega), w32_s (z := cvl t q (a - q) * 10 + (t (a : Int) - 48)) (by omega) (by omega), ← e]
      refine ex_ct (nm_of rfl) ?_
      rw [wr_k (by omega), h5, w32_n (by omega)]
      refine ex_ct (nm_of rfl) ?_
      refine ih (a + 1) _ f (by omega) (by omega) (by omega) (fun r k z => by rw [wr_at, if_neg (by omega), wr_at, if_neg (by omega)]; exact hF r k z) wr_s (by rw [wr_k (by omega), wr_s]) (fun k hk => ?_)
      by_cases z : k = a - q
      · rw [show q + k = a by omega]; exact cd
      · exact hd k (by omega)
    · rw [if_neg c, if_neg c, if_neg (by omega)]
      exact ⟨h1, rfl, hF, h5, hv⟩
theorem mnum {q : Nat} (hN : h 56 3 = (N : Int)) (h4 : N ≤ 400) (ht : ∀ k : Nat, k < N → h 57 (k : Int) = t (k : Int)) (r9 : Int) (Kx : Mem → Res) : ∀ (d a : Nat) (h1 : Mem) (f : Nat), a + d = N → q ≤ a → d < f → fr47 h h1 → h1 56 4 = (a : Int) → h1 56 7 = mvl t q (a - q) → (∀ k : Nat, k < a - q → 48 ≤ t ((q + k : Nat) : Int) ∧ t ((q + k : Nat) : Int) ≤ 57) →
    ∃ h2, L_X8_advances_3 r9 Kx f h1 = Kx h2 ∧ fr47 h h2 ∧ h2 56 4 = ((run isD t d a : Nat) : Int) ∧ h2 56 7 = mvl t q (run isD t d a - q) := by
  intro d
  induction d with
  | zero =>
    intro a h1 f ha hqa hf hF h5 hv hd
    obtain ⟨f, rfl⟩ : ∃ g, f = g + 1 := ⟨f - 1, by omega⟩
    refine ⟨h1, ?_, hF, h5, hv⟩
    rw [L_X8_advances_3, h5, byte_at (N := N) (t := t) (by rw [hF 56 3 (by omega)]; exact hN) h4 (fun k hk => by rw [hF 57 k (by omega)]; exact ht k hk), bd_s, if_neg (show ¬ a < N by omega), in_D, bd_s, if_neg (show ¬ isD (-1) = true by decide), if_neg (by omega)]
  | succ d ih =>
    intro a h1 f ha hqa hf hF h5 hv hd
    obtain ⟨f, rfl⟩ : ∃ g, f = g + 1 := ⟨f - 1, by omega⟩
    have by1 := byte_at (h := h1) (N := N) (t := t) (a := a) (by rw [hF 56 3 (by omega)]; exact hN) h4 (fun k hk => by rw [hF 57 k (by omega)]; exact ht k hk)
    rw [if_pos (show a < N by omega)] at by1
    rw [L_X8_advances_3, run, h5, by1, bd_s, in_D, bd_s]
    by_cases c : isD (t (a : Int)) = true
    · have cd := of_decide_eq_true c
      have vb := (vl_rel (t := t) (q := q) (a - q) hd).2.1
      have e : mvl t q (a + 1 - q) = if 250 < mvl t q (a - q) then mvl t q (a - q) else 10 * mvl t q (a - q) + t (a : Int) - 48 := by rw [show a + 1 - q = (a - q) + 1 by omega, mvl, show q + (a - q) = a by omega]
      rw [if_pos c, if_pos c, if_pos (by omega)]
      refine ex_ct jn_of ?_
      have go : ∃ h2, (nm (wr h1 56 7 (mvl t q (a + 1 - q))) (fun (h_72 : Mem) => nm (wr h_72 56 4 (w32 ((h_72 56 4) + 1))) (fun (h_73 : Mem) => L_X8_advances_3 r9 Kx f h_73)) : Res) = Kx h2 ∧ fr47 h h2 ∧ h2 56 4 = ((run isD t d (a + 1) : Nat) : Int) ∧ h2 56 7 = mvl t q (run isD t d (a + 1) - q) := by
        refine ex_ct (nm_of rfl) ?_
        rw [wr_k (by omega), h5, w32_n (by omega)]
        refine ex_ct (nm_of rfl) ?_
        refine ih (a + 1) _ f (by omega) (by omega) (by omega) (fun r k z => by rw [wr_at, if_neg (by omega), wr_at, if_neg (by omega)]; exact hF r k z) wr_s (by rw [wr_k (by omega), wr_s]) (fun k hk => ?_)
        by_cases z : k = a - q
        · rw [show q + k = a by omega]; exact cd
        · exact hd k (by omega)
      rw [hv]
      by_cases z : 250 < mvl t q (a - q)
      · rw [if_pos z]
        rw [if_pos z] at e
        rw [e] at go
        exact go
      · rw [if_neg z, h5, by1, bd_s]
        rw [if_neg z] at e
        rw [e] at go
        rw [w32_s (z := 10 * mvl t q (a - q)) (by omega) (by omega), w32_s (z := 10 * mvl t q (a - q) + t (a : Int)) (by omega) (by omega), w32_s (z := 10 * mvl t q (a - q) + t (a : Int) - 48) (by omega) (by omega)]
        exact go
    · rw [if_neg c, if_neg c, if_neg (by omega)]
      exact ⟨h1, rfl, hF, h5, hv⟩
end Num
/-! words -/
def wcn (i : Nat) : Int := if i = 0 then 6382452 else if i = 1 then 440006569588 else if i = 2 then 7562612 else if i = 3 then 7561572 else if i = 4 then 1819243876 else if i = 5 then 500135192942 else 1717925220
theorem spl_e {h : Mem} {q L : Nat} {w : Int} {n : Nat} (hq : h 2 3 = (q : Int)) (h5 : h 2 5 = ((q + L : Nat) : Int)) (hb : q + L ≤ 400) (hw : sLn w = (n : Int)) : F_X4_spells w h = some (if L = n ∧ ∀ k, k < n → h 3 ((q + k : Nat) : Int) = sCh w (k : Int) then 1 else 0, h) := by
  unfold F_X4_spells
  rw [hq, h5, hw, w32_s (z := ((q + L : Nat) : Int) - q) (by omega) (by omega)]
  by_cases c : L = n
  · rw [if_neg (by omega)]
    subst c
    have key : ∀ (d k f : Nat), k + d = L → d < f → (∀ j, j < k → h 3 ((q + j : Nat) : Int) = sCh w (j : Int)) → L_X4_spells_1 w (fun k_10 (h_9 : Mem) => some (1, h_9)) f (k : Int) h = some (if L = L ∧ ∀ k, k < L → h 3 ((q + k : Nat) : Int) = sCh w (k : Int) then 1 else 0, h) := by
      intro d
      induction d with
      | zero =>
        intro k f hk hf hj
        obtain ⟨f, rfl⟩ : ∃ g, f = g + 1 := ⟨f - 1, by omega⟩
        rw [L_X4_spells_1, hw, if_neg (by omega), if_pos ⟨rfl, fun j hjl => hj j (by omega)⟩]
      | succ d ih =>
        intro k f hk hf hj
        obtain ⟨f, rfl⟩ : ∃ g, f = g + 1 := ⟨f - 1, by omega⟩
        rw [L_X4_spells_1, hw, if_pos (by omega), hq, w32_s (z := (q : Int) + k) (by omega) (by omega), gd_t (by omega), gd_t (by omega), show (q : Int) + (k : Int) = ((q + k : Nat) : Int) by omega]
        by_cases e : h 3 ((q + k : Nat) : Int) = sCh w (k : Int)
        · rw [if_neg (fun z => z e)]
          refine (nm_of (w32_n (by omega))).trans ?_
          refine ih (k + 1) f (by omega) (by omega) (fun j hjl => ?_)
          by_cases z : j = k
          · rw [z]; exact e
          · exact hj j (by omega)
        · rw [if_pos e, if_neg (fun z => e (z.2 k (by omega)))]
    exact key L 0 FU (by omega) (by unfold FU; omega) (fun j hj => absurd hj (by omega))
  · rw [if_pos (by omega), if_neg (fun z => c z.1)]
theorem pk_b {t : Int → Int} {q L : Nat} (hl : ∀ k, k < L → 97 ≤ t ((q + k : Nat) : Int) ∧ t ((q + k : Nat) : Int) ≤ 122) : 
    (L = 1 → pkw t q L = t ((q + 0 : Nat) : Int)) ∧ (L = 2 → pkw t q L = 256 * t ((q + 0 : Nat) : Int) + t ((q + 1 : Nat) : Int)) ∧ (L = 3 → pkw t q L = 65536 * t ((q + 0 : Nat) : Int) + 256 * t ((q + 1 : Nat) : Int) + t ((q + 2 : Nat) : Int)) ∧ (L = 4 → pkw t q L = 16777216 * t ((q + 0 : Nat) : Int) + 65536 * t ((q + 1 : Nat) : Int) + 256 * t ((q + 2 : Nat) : Int) + t ((q + 3 : Nat) : Int)) ∧ (L = 5 → pkw t q L = 4294967296 * t ((q + 0 : Nat) : Int) + 16777216 * t ((q + 1 : Nat) : Int) + 65536 * t ((q + 2 : Nat) : Int) + 256 * t ((q + 3 : Nat) : Int) + t ((q + 4 : Nat) : Int)) ∧ (6 ≤ L → 1000000000000 < pkw t q 6) := by
  refine ⟨fun e => ?_, fun e => ?_, fun e => ?_, fun e => ?_, fun e => ?_, fun e => ?_⟩
  · subst e; simp only [pkw]; omega
  · subst e; simp only [pkw]; omega
  · subst e; simp only [pkw]; omega
  · subst e; simp only [pkw]; omega
  · subst e; simp only [pkw]; omega
  · have a0 := hl 0 (by omega)
    have a1 := hl 1 (by omega)
    have a2 := hl 2 (by omega)
    have a3 := hl 3 (by omega)
    have a4 := hl 4 (by omega)
    have a5 := hl 5 (by omega)
    simp only [pkw]; omega
theorem wl_3 {t : Int → Int} {q L : Nat} {a b c : Int} (h1 : 1 ≤ L) (hl : ∀ k, k < L → 97 ≤ t ((q + k : Nat) : Int) ∧ t ((q + k : Nat) : Int) ≤ 122) (hb : (97 ≤ a ∧ a ≤ 122) ∧ (97 ≤ b ∧ b ≤ 122) ∧ (97 ≤ c ∧ c ≤ 122)) : (L = 3 ∧ t ((q + 0 : Nat) : Int) = a ∧ t ((q + 1 : Nat) : Int) = b ∧ t ((q + 2 : Nat) : Int) = c) ↔ pkw t q (min L 6) = 65536 * a + 256 * b + c := by
  have b := pk_b (t := t) (q := q) (L := L) hl
  have x0 := hl 0 (by omega)
  have k : L = 1 ∨ L = 2 ∨ L = 3 ∨ L = 4 ∨ L = 5 ∨ 6 ≤ L := by omega
  rcases k with k | k | k | k | k | k
  · have e := b.1 k
    rw [Nat.min_eq_left (show L ≤ 6 by omega), e]; omega
  · have e := b.2.1 k
    have x1 := hl 1 (by omega)
    rw [Nat.min_eq_left (show L ≤ 6 by omega), e]; omega
  · have e := b.2.2.1 k
    have x1 := hl 1 (by omega)
    have x2 := hl 2 (by omega)
    rw [Nat.min_eq_left (show L ≤ 6 by omega), e]; omega
  · have e := b.2.2.2.1 k
    have x1 := hl 1 (by omega)
    have x2 := hl 2 (by omega)
    have x3 := hl 3 (by omega)
    rw [Nat.min_eq_left (show L ≤ 6 by omega), e]; omega
  · have e := b.2.2.2.2.1 k
    have x1 := hl 1 (by omega)
    have x2 := hl 2 (by omega)
    have x3 := hl 3 (by omega)
    have x4 := hl 4 (by omega)
    rw [Nat.min_eq_left (show L ≤ 6 by omega), e]; omega
  · have e := b.2.2.2.2.2 k
    rw [Nat.min_eq_right k]; omega
theorem wl_4 {t : Int → Int} {q L : Nat} {a b c d : Int} (h1 : 1 ≤ L) (hl : ∀ k, k < L → 97 ≤ t ((q + k : Nat) : Int) ∧ t ((q + k : Nat) : Int) ≤ 122) (hb : (97 ≤ a ∧ a ≤ 122) ∧ (97 ≤ b ∧ b ≤ 122) ∧ (97 ≤ c ∧ c ≤ 122) ∧ (97 ≤ d ∧ d ≤ 122)) : (L = 4 ∧ t ((q + 0 : Nat) : Int) = a ∧ t ((q + 1 : Nat) : Int) = b ∧ t ((q + 2 : Nat) : Int) = c ∧ t ((q + 3 : Nat) : Int) = d) ↔ pkw t q (min L 6) = 16777216 * a + 65536 * b + 256 * c + d := by
  have b := pk_b (t := t) (q := q) (L := L) hl
  have x0 := hl 0 (by omega)
  have k : L = 1 ∨ L = 2 ∨ L = 3 ∨ L = 4 ∨ L = 5 ∨ 6 ≤ L := by omega
  rcases k with k | k | k | k | k | k
  · have e := b.1 k
    rw [Nat.min_eq_left (show L ≤ 6 by omega), e]; omega
  · have e := b.2.1 k
    have x1 := hl 1 (by omega)
    rw [Nat.min_eq_left (show L ≤ 6 by omega), e]; omega
  · have e := b.2.2.1 k
    have x1 := hl 1 (by omega)
    have x2 := hl 2 (by omega)
    rw [Nat.min_eq_left (show L ≤ 6 by omega), e]; omega
  · have e := b.2.2.2.1 k
    have x1 := hl 1 (by omega)
    have x2 := hl 2 (by omega)
    have x3 := hl 3 (by omega)
    rw [Nat.min_eq_left (show L ≤ 6 by omega), e]; omega
  · have e := b.2.2.2.2.1 k
    have x1 := hl 1 (by omega)
    have x2 := hl 2 (by omega)
    have x3 := hl 3 (by omega)
    have x4 := hl 4 (by omega)
    rw [Nat.min_eq_left (show L ≤ 6 by omega), e]; omega
  · have e := b.2.2.2.2.2 k
    rw [Nat.min_eq_right k]; omega
theorem wl_5 {t : Int → Int} {q L : Nat} {a b c d e : Int} (h1 : 1 ≤ L) (hl : ∀ k, k < L → 97 ≤ t ((q + k : Nat) : Int) ∧ t ((q + k : Nat) : Int) ≤ 122) (hb : (97 ≤ a ∧ a ≤ 122) ∧ (97 ≤ b ∧ b ≤ 122) ∧ (97 ≤ c ∧ c ≤ 122) ∧ (97 ≤ d ∧ d ≤ 122) ∧ (97 ≤ e ∧ e ≤ 122)) : (L = 5 ∧ t ((q + 0 : Nat) : Int) = a ∧ t ((q + 1 : Nat) : Int) = b ∧ t ((q + 2 : Nat) : Int) = c ∧ t ((q + 3 : Nat) : Int) = d ∧ t ((q + 4 : Nat) : Int) = e) ↔ pkw t q (min L 6) = 4294967296 * a + 16777216 * b + 65536 * c + 256 * d + e := by
  have b := pk_b (t := t) (q := q) (L := L) hl
  have x0 := hl 0 (by omega)
  have k : L = 1 ∨ L = 2 ∨ L = 3 ∨ L = 4 ∨ L = 5 ∨ 6 ≤ L := by omega
  rcases k with k | k | k | k | k | k
  · have e := b.1 k
    rw [Nat.min_eq_left (show L ≤ 6 by omega), e]; omega
  · have e := b.2.1 k
    have x1 := hl 1 (by omega)
    rw [Nat.min_eq_left (show L ≤ 6 by omega), e]; omega
  · have e := b.2.2.1 k
    have x1 := hl 1 (by omega)
    have x2 := hl 2 (by omega)
    rw [Nat.min_eq_left (show L ≤ 6 by omega), e]; omega
  · have e := b.2.2.2.1 k
    have x1 := hl 1 (by omega)
    have x2 := hl 2 (by omega)
    have x3 := hl 3 (by omega)
    rw [Nat.min_eq_left (show L ≤ 6 by omega), e]; omega
  · have e := b.2.2.2.2.1 k
    have x1 := hl 1 (by omega)
    have x2 := hl 2 (by omega)
    have x3 := hl 3 (by omega)
    have x4 := hl 4 (by omega)
    rw [Nat.min_eq_left (show L ≤ 6 by omega), e]; omega
  · have e := b.2.2.2.2.2 k
    rw [Nat.min_eq_right k]; omega
/-- a word is spelt just when its number is the word's -/
theorem wrd_e {t : Int → Int} {q L : Nat} (h1 : 1 ≤ L) (hl : ∀ k, k < L → 97 ≤ t ((q + k : Nat) : Int) ∧ t ((q + k : Nat) : Int) ≤ 122) {i : Nat} (hi : i < 7) :
    ∃ n : Nat, sLn (-10 - (i : Int)) = (n : Int) ∧ ((L = n ∧ ∀ k, k < n → t ((q + k : Nat) : Int) = sCh (-10 - (i : Int)) (k : Int)) ↔ pkw t q (min L 6) = wcn i) := by
  have k : i = 0 ∨ i = 1 ∨ i = 2 ∨ i = 3 ∨ i = 4 ∨ i = 5 ∨ i = 6 := by omega
  rcases k with r | r | r | r | r | r | r <;> subst r
  · refine ⟨3, by decide +kernel, ?_⟩
    have w := wl_3 (t := t) (q := q) (L := L) (a := 97) (b := 99) (c := 116) h1 hl (by omega)
    have e : wcn 0 = 65536 * 97 + 256 * 99 + 116 := by decide
    rw [e]
    refine Iff.trans ?_ w
    constructor
    · rintro ⟨z, y⟩
      exact ⟨z, (y 0 (by omega)).trans (by decide +kernel), (y 1 (by omega)).trans (by decide +kernel), (y 2 (by omega)).trans (by decide +kernel)⟩
    · rintro ⟨z, y0, y1, y2⟩
      refine ⟨z, fun k hk => ?_⟩
      have kk : k = 0 ∨ k = 1 ∨ k = 2 := by omega
      rcases kk with r | r | r <;> subst r
      · exact y0.trans (by decide +kernel)
      · exact y1.trans (by decide +kernel)
      · exact y2.trans (by decide +kernel)
  · refine ⟨5, by decide +kernel, ?_⟩
    have w := wl_5 (t := t) (q := q) (L := L) (a := 102) (b := 114) (c := 111) (d := 110) (e := 116) h1 hl (by omega)
    have e : wcn 1 = 4294967296 * 102 + 16777216 * 114 + 65536 * 111 + 256 * 110 + 116 := by decide
    rw [e]
    refine Iff.trans ?_ w
    constructor
    · rintro ⟨z, y⟩
      exact ⟨z, (y 0 (by omega)).trans (by decide +kernel), (y 1 (by omega)).trans (by decide +kernel), (y 2 (by omega)).trans (by decide +kernel), (y 3 (by omega)).trans (by decide +kernel), (y 4 (by omega)).trans (by decide +kernel)⟩
    · rintro ⟨z, y0, y1, y2, y3, y4⟩
      refine ⟨z, fun k hk => ?_⟩
      have kk : k = 0 ∨ k = 1 ∨ k = 2 ∨ k = 3 ∨ k = 4 := by omega
      rcases kk with r | r | r | r | r <;> subst r
      · exact y0.trans (by decide +kernel)
      · exact y1.trans (by decide +kernel)
      · exact y2.trans (by decide +kernel)
      · exact y3.trans (by decide +kernel)
      · exact y4.trans (by decide +kernel)
  · refine ⟨3, by decide +kernel, ?_⟩
    have w := wl_3 (t := t) (q := q) (L := L) (a := 115) (b := 101) (c := 116) h1 hl (by omega)
    have e : wcn 2 = 65536 * 115 + 256 * 101 + 116 := by decide
    rw [e]
    refine Iff.trans ?_ w
    constructor
    · rintro ⟨z, y⟩
      exact ⟨z, (y 0 (by omega)).trans (by decide +kernel), (y 1 (by omega)).trans (by decide +kernel), (y 2 (by omega)).trans (by decide +kernel)⟩
    · rintro ⟨z, y0, y1, y2⟩
      refine ⟨z, fun k hk => ?_⟩
      have kk : k = 0 ∨ k = 1 ∨ k = 2 := by omega
      rcases kk with r | r | r <;> subst r
      · exact y0.trans (by decide +kernel)
      · exact y1.trans (by decide +kernel)
      · exact y2.trans (by decide +kernel)
  · refine ⟨3, by decide +kernel, ?_⟩
    have w := wl_3 (t := t) (q := q) (L := L) (a := 115) (b := 97) (c := 100) h1 hl (by omega)
    have e : wcn 3 = 65536 * 115 + 256 * 97 + 100 := by decide
    rw [e]
    refine Iff.trans ?_ w
    constructor
    · rintro ⟨z, y⟩
      exact ⟨z, (y 0 (by omega)).trans (by decide +kernel), (y 1 (by omega)).trans (by decide +kernel), (y 2 (by omega)).trans (by decide +kernel)⟩
    · rintro ⟨z, y0, y1, y2⟩
      refine ⟨z, fun k hk => ?_⟩
      have kk : k = 0 ∨ k = 1 ∨ k = 2 := by omega
      rcases kk with r | r | r <;> subst r
      · exact y0.trans (by decide +kernel)
      · exact y1.trans (by decide +kernel)
      · exact y2.trans (by decide +kernel)
  · refine ⟨4, by decide +kernel, ?_⟩
    have w := wl_4 (t := t) (q := q) (L := L) (a := 108) (b := 111) (c := 117) (d := 100) h1 hl (by omega)
    have e : wcn 4 = 16777216 * 108 + 65536 * 111 + 256 * 117 + 100 := by decide
    rw [e]
    refine Iff.trans ?_ w
    constructor
    · rintro ⟨z, y⟩
      exact ⟨z, (y 0 (by omega)).trans (by decide +kernel), (y 1 (by omega)).trans (by decide +kernel), (y 2 (by omega)).trans (by decide +kernel), (y 3 (by omega)).trans (by decide +kernel)⟩
    · rintro ⟨z, y0, y1, y2, y3⟩
      refine ⟨z, fun k hk => ?_⟩
      have kk : k = 0 ∨ k = 1 ∨ k = 2 ∨ k = 3 := by omega
      rcases kk with r | r | r | r <;> subst r
      · exact y0.trans (by decide +kernel)
      · exact y1.trans (by decide +kernel)
      · exact y2.trans (by decide +kernel)
      · exact y3.trans (by decide +kernel)
  · refine ⟨5, by decide +kernel, ?_⟩
    have w := wl_5 (t := t) (q := q) (L := L) (a := 116) (b := 114) (c := 97) (d := 105) (e := 110) h1 hl (by omega)
    have e : wcn 5 = 4294967296 * 116 + 16777216 * 114 + 65536 * 97 + 256 * 105 + 110 := by decide
    rw [e]
    refine Iff.trans ?_ w
    constructor
    · rintro ⟨z, y⟩
      exact ⟨z, (y 0 (by omega)).trans (by decide +kernel), (y 1 (by omega)).trans (by decide +kernel), (y 2 (by omega)).trans (by decide +kernel), (y 3 (by omega)).trans (by decide +kernel), (y 4 (by omega)).trans (by decide +kernel)⟩
    · rintro ⟨z, y0, y1, y2, y3, y4⟩
      refine ⟨z, fun k hk => ?_⟩
      have kk : k = 0 ∨ k = 1 ∨ k = 2 ∨ k = 3 ∨ k = 4 := by omega
      rcases kk with r | r | r | r | r <;> subst r
      · exact y0.trans (by decide +kernel)
      · exact y1.trans (by decide +kernel)
      · exact y2.trans (by decide +kernel)
      · exact y3.trans (by decide +kernel)
      · exact y4.trans (by decide +kernel)
  · refine ⟨4, by decide +kernel, ?_⟩
    have w := wl_4 (t := t) (q := q) (L := L) (a := 102) (b := 101) (c := 117) (d := 100) h1 hl (by omega)
    have e : wcn 6 = 16777216 * 102 + 65536 * 101 + 256 * 117 + 100 := by decide
    rw [e]
    refine Iff.trans ?_ w
    constructor
    · rintro ⟨z, y⟩
      exact ⟨z, (y 0 (by omega)).trans (by decide +kernel), (y 1 (by omega)).trans (by decide +kernel), (y 2 (by omega)).trans (by decide +kernel), (y 3 (by omega)).trans (by decide +kernel)⟩
    · rintro ⟨z, y0, y1, y2, y3⟩
      refine ⟨z, fun k hk => ?_⟩
      have kk : k = 0 ∨ k = 1 ∨ k = 2 ∨ k = 3 := by omega
      rcases kk with r | r | r | r <;> subst r
      · exact y0.trans (by decide +kernel)
      · exact y1.trans (by decide +kernel)
      · exact y2.trans (by decide +kernel)
      · exact y3.trans (by decide +kernel)
