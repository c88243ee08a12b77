/-! parted agrees: the loops -/
section Pt2
variable {h : Mem} {N : Nat}
/-- the class's fraction of an act -/
theorem part_e {i : Nat} {c s A S : Nat → Int} (hi : i < 9) (hm : ∀ k p : Nat, k < 9 → p < 9 → h 52 (9 * (k : Int) + p) = mkC h k p N ∧ h 53 (9 * (k : Int) + p) = mkS h k p N) (hN : N ≤ 60) (h71 : ∀ k : Nat, k < N → 0 ≤ h 71 k ∧ h 71 k < 9) (h72 : ∀ k : Nat, k < N → 0 ≤ h 72 k ∧ h 72 k < 9) (h73 : ∀ k : Nat, k < N → 0 ≤ h 73 k ∧ h 73 k < 100)
    (ec : c = fun p : Nat => mkC h i p N) (es : s = fun p : Nat => mkS h i p N) (eA : A = fun p : Nat => mkA h p N) (eS : S = fun p : Nat => mkT h p N) (hpos : 1 ≤ sm c 9) :
    ∃ h2 u l γ, F_X3_part (i : Int) h = some (0, h2) ∧ Fr psc h h2 ∧ h2 51 3 = u ∧ h2 51 4 = l ∧ 1 ≤ γ ∧ (uD c s A S 9).1 = u * γ ∧ (uD c s A S 9).2 * sm c 9 = l * γ ∧ 0 < l ∧ Int.gcd u l = 1 := by
  have kb : ∀ k p : Nat, k < 9 → p < 9 → (0 ≤ mkC h k p N ∧ mkC h k p N ≤ 60) ∧ 0 ≤ mkS h k p N ∧ mkS h k p N ≤ 10000 := fun k p hk hp => by
    have := mkA_b (V := h) (p := (p : Int)) (i := (k : Int)) N h73
    omega
  have hU : okU c s A S := fun p hp => by
    have := mkA_b (V := h) (p := (p : Int)) (i := (i : Int)) N h73
    rw [ec, es, eA, eS]
    dsimp only
    omega
  have ht : ∀ m, m ≤ 9 → 0 ≤ sm A m ∧ sm A m ≤ 60 := fun m hm' => by
    have := mkA_tot (V := h) N h72 m hm'
    rw [eA]
    omega
  have ti : ∀ g : Mem, Fr psc h g → F_X3_timesOf (i : Int) g = some (sm c 9, g) := fun g hF => times_e hi (fun p hp => by
      rw [hF 52 _ (by unfold psc; omega), (hm i p hi hp).1, ec]) (fun p hp => by have := (kb i p hi hp).1; rw [ec]; exact this)
  have key : ∀ (d p : Nat) (g : Mem) (u l γ : Int) (f : Nat) (Kx : Int → Mem → Res), p + d = 9 → d < f → Fr psc h g → g 51 3 = u → g 51 4 = l → 1 ≤ γ → (uD c s A S p).1 = u * γ → (uD c s A S p).2 = l * γ → 0 < l →
      ∃ g2 u' l' γ', L_X3_part_1 (i : Int) Kx f p g = Kx 9 g2 ∧ Fr psc h g2 ∧ g2 51 3 = u' ∧ g2 51 4 = l' ∧ 1 ≤ γ' ∧ (uD c s A S 9).1 = u' * γ' ∧ (uD c s A S 9).2 = l' * γ' ∧ 0 < l' := by
    intro d
    induction d with
    | zero =>
      intro p g u l γ f Kx hp hf hF g3 g4 hg e1 e2 l1
      obtain ⟨f, rfl⟩ : ∃ g, f = g + 1 := ⟨f - 1, by omega⟩
      have e : p = 9 := by omega
      subst e
      exact ⟨g, u, l, γ, by rw [L_X3_part_1, if_neg (by omega)]; rfl, hF, g3, g4, hg, e1, e2, l1⟩
    | succ d ih =>
      intro p g u l γ f Kx hp hf hF g3 g4 hg e1 e2 l1
      obtain ⟨f, rfl⟩ : ∃ g, f = g + 1 := ⟨f - 1, by omega⟩
      have ow : g 52 (9 * (i : Int) + p) = c p := by rw [hF 52 _ (by unfold psc; omega), (hm i p hi (by omega)).1, ec]
      have hUp := hU p (by omega)
      have us := uD_s hU ht (show p ≤ 9 by omega)
      have us' := uD_s hU ht (show p + 1 ≤ 9 by omega)
      rw [L_X3_part_1, if_pos (by omega), w32_s (z := (i : Int) * 9) (by omega) (by omega), w32_s (z := (i : Int) * 9 + p) (by omega) (by omega), Int.mul_comm (i : Int) 9]
      simp only [jn]
      rw [gd_t (by omega), ow]
      by_cases k : 0 < c p
      · rw [uD, if_pos k] at us'
        obtain ⟨g2, u', l', γ', f1, f2, f3, f4, f5, f6, f7, f8⟩ := addP_e (g := g) (i := i) (c := c) (s := s) (A := A) (S := S) (p := p) (t := fun k => mkC h k p N) (q := fun k => mkS h k p N) (u := u) (l := l) (U := (uD c s A S p).1) (D := (uD c s A S p).2) (γ := γ) hi (by omega) (fun k hk => by rw [hF 52 _ (by unfold psc; omega), hF 53 _ (by unfold psc; omega)]; exact hm k p hk (by omega)) (fun k hk => kb k p hk (by omega)) (by rw [eA]; exact (mkA_s N h71).1) (by rw [eS]; exact (mkA_s N h71).2) (by rw [ec]) (by rw [es]) hU (by omega) g3 g4 hg e1 e2 l1 ⟨us.2.2.1, us.2.2.2⟩ us.1.2 us'.1.2
        rw [if_pos k, f1]
        simp only [bd_s, nm]
        rw [w32_n (by omega)]
        exact ih (p + 1) g2 u' l' γ' f Kx (by omega) (by omega) (hF.trans f2) f3 f4 f5 (by rw [uD, if_pos k]; exact f6) (by rw [uD, if_pos k]; exact f7) f8
      · rw [if_neg k]
        simp only [nm]
        rw [w32_n (by omega)]
        exact ih (p + 1) g u l γ f Kx (by omega) (by omega) hF g3 g4 hg (by rw [uD, if_neg k]; exact e1) (by rw [uD, if_neg k]; exact e2) l1
  obtain ⟨g2, u, l, γ, f1, f2, f3, f4, f5, f6, f7, f8⟩ := key 9 0 (wr (wr h 51 3 0) 51 4 1) 0 1 1 FU (fun p_15 (h_14 : Mem) => bd (F_X3_timesOf (i : Int) h_14) (fun r_16 (h_17 : Mem) => nm (wr h_17 51 4 (w64 ((h_14 51 4) * (mxI 1 r_16)))) (fun (h_19 : Mem) => bd (F_X3_reduce  h_19) (fun _ (h_21 : Mem) => some (0, h_21))))) (by omega) (by unfold FU; omega) (fun r k hr => by unfold psc at hr; rw [wr_at, if_neg (by omega), wr_at, if_neg (by omega)]) (by rw [wr_k (by omega), wr_s]) wr_s (by omega) rfl rfl (by omega)
  have us := uD_s hU ht (show 9 ≤ 9 by omega)
  have ub := div_b f6 f5 (B := 20000000000000000) us.2.2.1 us.2.2.2
  have lb : l ≤ (uD c s A S 9).2 := by
    have m := Int.mul_le_mul_of_nonneg_left f5 (show 0 ≤ l by omega)
    rw [Int.mul_one] at m
    omega
  have lt := mul_b (show 0 ≤ l by omega) (show l ≤ 2541865828329 by omega) (show 0 ≤ sm c 9 by omega) us.2.1.2
  have lp : l * 1 ≤ l * sm c 9 := Int.mul_le_mul_of_nonneg_left hpos (by omega)
  obtain ⟨u', l', a, e1, a0, e2, e3, l0, q1⟩ := red_e (h := wr g2 51 4 (l * sm c 9)) (u := u) (l := l * sm c 9) (by rw [wr_k (by omega)]; exact f3) wr_s (by omega) (by omega) (by omega) (by
    have p50 : (2 : Int) ^ 50 = 1125899906842624 := by decide
    rw [p50]; omega)
  refine ⟨wr (wr (wr g2 51 4 (l * sm c 9)) 51 3 u') 51 4 l', u', l', a * γ, ?_, fun r k hr => ?_, ?_, wr_s, ?_, ?_, ?_, l0, q1⟩
  · unfold F_X3_part
    refine (nm_of rfl).trans ?_
    refine (nm_of rfl).trans ?_
    refine f1.trans ?_
    refine (bd_of (ti g2 f2)).trans ?_
    have mx : mxI 1 (sm c 9) = sm c 9 := by unfold mxI; split <;> omega
    refine (nm_of (e' := wr g2 51 4 (l * sm c 9)) (by rw [mx, f4, w64_eq (by omega) (by omega)])).trans ?_
    refine (bd_of e1).trans ?_
    rfl
  · have q := hr
    unfold psc at hr
    rw [wr_at, if_neg (by omega), wr_at, if_neg (by omega), wr_at, if_neg (by omega)]; exact f2 r k q
  · rw [wr_k (by omega), wr_s]
  · have m := Int.mul_le_mul_of_nonneg_left f5 (show 0 ≤ a by omega)
    rw [Int.mul_one] at m
    omega
  · rw [f6, e2, Int.mul_assoc]
  · rw [f7, Int.mul_assoc, Int.mul_comm γ, ← Int.mul_assoc, e3, Int.mul_assoc]
/-- the reference's counts at a place -/
theorem pt2 {i what up dn its : Int} {p : Nat} (hn : h 56 33 = (N : Int)) (hN : N ≤ 60) (h73 : ∀ k : Nat, k < N → 0 ≤ h 73 k ∧ h 73 k < 100) (Kx : Int → Int → Int → Int → Int → Mem → Res) :
    L_X8_parted_2 i what up dn its p Kx FU 0 0 0 0 0 h = Kx (mkS h i p N) (mkT h p N) (mkA h p N) (mkC h i p N) N h := by
  have key : ∀ (d k f : Nat), k + d = N → d < f → L_X8_parted_2 i what up dn its p Kx f (mkS h i p k) (mkT h p k) (mkA h p k) (mkC h i p k) k h = Kx (mkS h i p N) (mkT h p N) (mkA h p N) (mkC h i p N) N h := by
    intro d
    induction d with
    | zero =>
      intro k f hk hf
      obtain ⟨f, rfl⟩ : ∃ g, f = g + 1 := ⟨f - 1, by omega⟩
      rw [L_X8_parted_2, hn, if_neg (by omega), show k = N by omega]
    | succ d ih =>
      intro k f hk hf
      obtain ⟨f, rfl⟩ : ∃ g, f = g + 1 := ⟨f - 1, by omega⟩
      have nx := ih (k + 1) f (by omega) (by omega)
      have b := mkA_b (V := h) (p := (p : Int)) (i := i) k (fun j hj => h73 j (by omega))
      have b1 := h73 k (by omega)
      rw [mkS, mkT, mkA, mkC] at nx
      rw [L_X8_parted_2, hn, if_pos (by omega)]
      refine jn_of.trans ?_
      refine (gd_of (by omega)).trans ?_
      generalize mkS h i p k = a1 at *
      generalize mkT h p k = a2 at *
      generalize mkA h p k = a3 at *
      generalize mkC h i p k = a4 at *
      by_cases c : h 72 k = (p : Int)
      · rw [if_pos c]
        rw [if_pos c, if_pos c] at nx
        refine (nm_of (w32_s (by omega) (by omega))).trans ?_
        refine (nm_of (w64_eq (by omega) (by omega))).trans ?_
        refine jn_of.trans ?_
        by_cases d : h 71 k = i
        · rw [if_pos d]
          rw [if_pos ⟨d, c⟩, if_pos ⟨d, c⟩] at nx
          refine (nm_of (w64_eq (by omega) (by omega))).trans ?_
          refine jn_of.trans ?_
          rw [if_pos d]
          refine (nm_of (w32_s (by omega) (by omega))).trans ?_
          refine (nm_of (w32_n (by omega))).trans ?_
          exact nx
        · rw [if_neg d]
          rw [if_neg (fun z => d z.1), if_neg (fun z => d z.1)] at nx
          refine (nm_of (w64_eq (by omega) (by omega))).trans ?_
          refine jn_of.trans ?_
          rw [if_neg d]
          refine (nm_of (w32_s (by omega) (by omega))).trans ?_
          refine (nm_of (w32_n (by omega))).trans ?_
          exact nx
      · rw [if_neg c]
        rw [if_neg c, if_neg c, if_neg (fun z => c z.2), if_neg (fun z => c z.2), Int.add_zero, Int.add_zero, Int.add_zero, Int.add_zero] at nx
        refine (nm_of (w32_n (by omega))).trans ?_
        exact nx
  exact key N 0 FU (by omega) (by unfold FU; omega)
theorem pt1 {what : Int} {i : Nat} {c s A S : Nat → Int} (hn : h 56 33 = (N : Int)) (hN : N ≤ 60) (h72 : ∀ k : Nat, k < N → 0 ≤ h 72 k ∧ h 72 k < 9) (h73 : ∀ k : Nat, k < N → 0 ≤ h 73 k ∧ h 73 k < 100)
    (ec : c = fun p : Nat => mkC h i p N) (es : s = fun p : Nat => mkS h i p N) (eA : A = fun p : Nat => mkA h p N) (eS : S = fun p : Nat => mkT h p N) (Kx : Int → Int → Int → Int → Mem → Res) :
    L_X8_parted_1 i what Kx FU 0 1 0 0 h = Kx (uD c s A S 9).1 (uD c s A S 9).2 (sm c 9) 9 h ∧ okU c s A S ∧ ∀ m, m ≤ 9 → 0 ≤ sm A m ∧ sm A m ≤ 60 := by
  have hU : okU c s A S := fun p hp => by
    have := mkA_b (V := h) (p := (p : Int)) (i := (i : Int)) N h73
    rw [ec, es, eA, eS]
    dsimp only
    omega
  have ht : ∀ m, m ≤ 9 → 0 ≤ sm A m ∧ sm A m ≤ 60 := fun m hm' => by
    have := mkA_tot (V := h) N h72 m hm'
    rw [eA]
    omega
  have key : ∀ (d p f : Nat), p + d = 9 → d < f → L_X8_parted_1 i what Kx f (uD c s A S p).1 (uD c s A S p).2 (sm c p) p h = Kx (uD c s A S 9).1 (uD c s A S 9).2 (sm c 9) 9 h := by
    intro d
    induction d with
    | zero =>
      intro p f hp hf
      obtain ⟨f, rfl⟩ : ∃ g, f = g + 1 := ⟨f - 1, by omega⟩
      have e : p = 9 := by omega
      subst e
      rw [L_X8_parted_1, if_neg (by omega)]; rfl
    | succ d ih =>
      intro p f hp hf
      obtain ⟨f, rfl⟩ : ∃ g, f = g + 1 := ⟨f - 1, by omega⟩
      have nx := ih (p + 1) f (by omega) (by omega)
      have us := uD_s hU ht (show p ≤ 9 by omega)
      have us' := uD_s hU ht (show p + 1 ≤ 9 by omega)
      have o := hU p (by omega)
      have mb := more_b hU (show p < 9 by omega)
      rw [L_X8_parted_1, if_pos (by omega)]
      refine (pt2 hn hN h73 _).trans ?_
      have x1 : mkC h i p N = c p := by rw [ec]
      have x2 : mkS h i p N = s p := by rw [es]
      have x3 : mkA h p N = A p := by rw [eA]
      have x4 : mkT h p N = S p := by rw [eS]
      rw [x1, x2, x3, x4]
      refine jn_of.trans ?_
      rw [uD, sm] at nx
      by_cases k : 0 < c p
      · rw [uD, if_pos k] at us'
        rw [if_pos k]
        rw [if_pos k] at nx
        have uA : -1200000000000000000 ≤ (uD c s A S p).1 * A p ∧ (uD c s A S p).1 * A p ≤ 1200000000000000000 := by
          have x := Int.mul_le_mul_of_nonneg_right us.2.2.1 (show 0 ≤ A p by omega)
          have y := Int.mul_le_mul_of_nonneg_right us.2.2.2 (show 0 ≤ A p by omega)
          omega
        have ml : -1100000000000000000 ≤ (s p * A p - c p * S p) * (uD c s A S p).2 ∧ (s p * A p - c p * S p) * (uD c s A S p).2 ≤ 1100000000000000000 := by
          have x := Int.mul_le_mul_of_nonneg_right (show -400000 ≤ s p * A p - c p * S p by omega) (show 0 ≤ (uD c s A S p).2 by omega)
          have y := Int.mul_le_mul_of_nonneg_right (show s p * A p - c p * S p ≤ 400000 by omega) (show 0 ≤ (uD c s A S p).2 by omega)
          omega
        have dA := us'.1
        rw [w64_eq (z := s p * A p) (by omega) (by omega), w64_eq (z := c p * S p) (by omega) (by omega), w64_eq (z := s p * A p - c p * S p) (by omega) (by omega)]
        refine (nm_of (by rw [w64_eq (z := (uD c s A S p).1 * A p) (by omega) (by omega), w64_eq (z := (s p * A p - c p * S p) * (uD c s A S p).2) (by omega) (by omega), w64_eq (by omega) (by omega)])).trans ?_
        refine (nm_of (w64_eq (by have := dA.1; omega) (by have := dA.2; omega))).trans ?_
        refine (nm_of (w32_s (by omega) (by omega))).trans ?_
        refine (nm_of (w32_n (by omega))).trans ?_
        exact nx
      · have c0 : c p = 0 := by omega
        rw [if_neg k]
        rw [if_neg k, c0, Int.add_zero] at nx
        refine (nm_of (w32_n (by omega))).trans ?_
        exact nx
  exact ⟨key 9 0 FU (by omega) (by unfold FU; omega), hU, ht⟩
end Pt2
theorem op_parted (i what : Int) : OP (F_X7_parted i what) (F_X8_parted i what) := by
  intro h hR
  have w9 := wac_n hR
  have bad : ¬ ((0 ≤ i ∧ i < h 56 10) ∧ 0 ≤ what ∧ what ≤ 1) → ∃ v h1 h2, F_X7_parted i what h = some (v, h1) ∧ F_X8_parted i what h1 = some (v, h2) ∧ RR h2 := by
    intro v
    refine ⟨-1000000, h, wr h 56 0 0, ?_, ?_, hR.g0 Fr.rfl⟩
    · unfold F_X7_parted
      refine jn_of.trans ?_
      refine (bd_of (isAct7_e hR)).trans ?_
      by_cases c : 0 ≤ i ∧ i < h 56 10
      · rw [if_pos c, if_pos (by omega)]
        by_cases d : what < 0
        · rw [if_pos d]
        · rw [if_neg d, if_pos (by omega)]
      · rw [if_neg c, if_neg (by omega)]
    · unfold F_X8_parted
      refine (nm_of rfl).trans ?_
      refine jn_of.trans ?_
      refine (bd_of (isAct8_g hR)).trans ?_
      by_cases c : 0 ≤ i ∧ i < h 56 10
      · rw [if_pos c, if_pos (by omega)]
        refine (bd_of (in_f (by omega))).trans ?_
        rw [if_neg (by omega)]
      · rw [if_neg c, if_neg (by omega)]
  by_cases v : (0 ≤ i ∧ i < h 56 10) ∧ 0 ≤ what ∧ what ≤ 1
  · obtain ⟨j, rfl⟩ : ∃ j : Nat, i = (j : Int) := ⟨i.toNat, by omega⟩
    obtain ⟨⟨m1, m2⟩, w1, w2, w3⟩ := hR.ps.2.2.2.2.2.2.1
    obtain ⟨N, hN⟩ : ∃ N : Nat, h 56 33 = (N : Int) := ⟨(h 56 33).toNat, by omega⟩
    have tn : (h 56 33).toNat = N := by omega
    rw [tn] at m2
    have hm : ∀ k p : Nat, k < 9 → p < 9 → h 52 (9 * (k : Int) + p) = mkC h k p N ∧ h 53 (9 * (k : Int) + p) = mkS h k p N := fun k p hk hp => m2 k p (by omega) (by omega) (by omega) (by omega)
    have h71 : ∀ k : Nat, k < N → 0 ≤ h 71 k ∧ h 71 k < 9 := fun k hk => by have := (w3 k (by omega) (by omega)).1; omega
    have h72 : ∀ k : Nat, k < N → 0 ≤ h 72 k ∧ h 72 k < 9 := fun k hk => (w3 k (by omega) (by omega)).2.1
    have h73 : ∀ k : Nat, k < N → 0 ≤ h 73 k ∧ h 73 k < 100 := fun k hk => (w3 k (by omega) (by omega)).2.2
    have mkf : ∀ g : Mem, (∀ k, g 71 k = h 71 k) → (∀ k, g 72 k = h 72 k) → (∀ k, g 73 k = h 73 k) → ∀ (a b : Int) (n : Nat), mkC g a b n = mkC h a b n ∧ mkS g a b n = mkS h a b n ∧ mkA g b n = mkA h b n ∧ mkT g b n = mkT h b n := fun g e1 e2 e3 a b n => by
      have q := mk_fr (V := h) (W := g) (funext e1) (funext e2) (funext e3) (i := a) (p := b) n
      refine ⟨q.1, q.2, ?_⟩
      induction n with
      | zero => exact ⟨rfl, rfl⟩
      | succ n ih =>
        have ih := ih (mk_fr (V := h) (W := g) (funext e1) (funext e2) (funext e3) (i := a) (p := b) n)
        simp only [mkA, mkT, ih.1, ih.2, e2, e3, and_self]
    have ti : F_X3_timesOf (j : Int) h = some (sm (fun p : Nat => mkC h j p N) 9, h) := times_e (by omega) (fun p hp => (hm j p (by omega) hp).1) (fun p hp => by have := mkA_b (V := h) (p := (p : Int)) (i := (j : Int)) N h73; omega)
    have ref : ∀ g : Mem, (∀ r k, ¬ psc r k → g r k = h r k) → ∀ Kx : Int → Int → Int → Int → Mem → Res, L_X8_parted_1 (j : Int) what Kx FU 0 1 0 0 (wr g 56 0 0) = Kx (uD (fun p : Nat => mkC h j p N) (fun p : Nat => mkS h j p N) (fun p : Nat => mkA h p N) (fun p : Nat => mkT h p N) 9).1 (uD (fun p : Nat => mkC h j p N) (fun p : Nat => mkS h j p N) (fun p : Nat => mkA h p N) (fun p : Nat => mkT h p N) 9).2 (sm (fun p : Nat => mkC h j p N) 9) 9 (wr g 56 0 0) := by
      intro g hg Kx
      have f : ∀ r k : Int, (r = 71 ∨ r = 72 ∨ r = 73) → (wr g 56 0 0) r k = h r k := fun r k q => by rw [wr_o (by omega), hg r k (by unfold psc; omega)]
      have q := pt1 (h := wr g 56 0 0) (what := what) (i := j) (N := N) (by rw [wr_k (by omega), hg 56 33 (by unfold psc; omega)]; exact hN) (by omega) (fun k hk => by rw [f 72 k (by omega)]; exact h72 k hk) (fun k hk => by rw [f 73 k (by omega)]; exact h73 k hk) rfl rfl rfl rfl Kx
      have m := mkf (wr g 56 0 0) (fun k => f 71 k (by omega)) (fun k => f 72 k (by omega)) (fun k => f 73 k (by omega))
      have q1 := q.1
      have c1 : (fun p : Nat => mkC (wr g 56 0 0) j p N) = fun p : Nat => mkC h j p N := funext fun p => (m j p N).1
      have c2 : (fun p : Nat => mkS (wr g 56 0 0) j p N) = fun p : Nat => mkS h j p N := funext fun p => (m j p N).2.1
      have c3 : (fun p : Nat => mkA (wr g 56 0 0) p N) = fun p : Nat => mkA h p N := funext fun p => (m j p N).2.2.1
      have c4 : (fun p : Nat => mkT (wr g 56 0 0) p N) = fun p : Nat => mkT h p N := funext fun p => (m j p N).2.2.2
      rw [c1, c2, c3, c4] at q1
      exact q1
    have sides := (pt1 (h := h) (what := what) (i := j) (N := N) hN (by omega) h72 h73 rfl rfl rfl rfl (fun _ _ _ _ _ => none)).2
    have us := uD_s sides.1 sides.2 (show 9 ≤ 9 by omega)
    generalize hc : (fun p : Nat => mkC h j p N) = c at *
    generalize hs : (fun p : Nat => mkS h j p N) = s at *
    generalize hA : (fun p : Nat => mkA h p N) = A at *
    generalize hS : (fun p : Nat => mkT h p N) = S at *
    by_cases z : sm c 9 = 0
    · refine ⟨-1000000, h, wr h 56 0 0, ?_, ?_, hR.g0 Fr.rfl⟩
      · unfold F_X7_parted
        refine jn_of.trans ?_
        refine (bd_of (isAct7_e hR)).trans ?_
        rw [if_pos v.1, if_pos (by omega), if_neg (by omega), if_neg (by omega)]
        refine (bd_of ti).trans ?_
        rw [if_pos z]
      · unfold F_X8_parted
        refine (nm_of rfl).trans ?_
        refine jn_of.trans ?_
        refine (bd_of (isAct8_g hR)).trans ?_
        rw [if_pos v.1, if_pos (by omega)]
        refine (bd_of (in_t v.2.1 v.2.2)).trans ?_
        rw [if_pos (by omega)]
        refine (ref h (fun _ _ _ => rfl) _).trans ?_
        rw [if_pos z]
    · obtain ⟨h2, u, l, γ, f1, f2, f3, f4, f5, f6, f7, f8, f9⟩ := part_e (h := h) (N := N) (i := j) (by omega) hm (by omega) h71 h72 h73 hc.symm hs.symm hA.symm hS.symm (by omega)
      have G : Fr rsc h (wr h2 56 0 0) := (f2.mono (fun r k q => by unfold psc at q; unfold rsc; omega)).trans (fun r k hr => by rw [wr_at, if_neg (fun z => hr (by unfold rsc; omega))])
      have ub := div_b f6 f5 (B := 20000000000000000) us.2.2.1 us.2.2.2
      have dt := mul_b (show 0 ≤ (uD c s A S 9).2 by omega) us.1.2 (show 0 ≤ sm c 9 by omega) us.2.1.2
      have lb : l ≤ (uD c s A S 9).2 * sm c 9 := by
        have m := Int.mul_le_mul_of_nonneg_left f5 (show 0 ≤ l by omega)
        rw [Int.mul_one] at m
        omega
      refine ⟨w32 (if what = 0 then u else l), h2, wr h2 56 0 0, ?_, ?_, hR.fr G⟩
      · unfold F_X7_parted
        refine jn_of.trans ?_
        refine (bd_of (isAct7_e hR)).trans ?_
        rw [if_pos v.1, if_pos (by omega), if_neg (by omega), if_neg (by omega)]
        refine (bd_of ti).trans ?_
        rw [if_neg z]
        refine (bd_of f1).trans ?_
        rw [f3, f4]
        rfl
      · unfold F_X8_parted
        refine (nm_of rfl).trans ?_
        refine jn_of.trans ?_
        have m10 : (wr h2 56 0 0) 56 10 = h 56 10 := G 56 10 (by unfold rsc; omega)
        refine (bd_of (isAct8_e (by rw [m10]; omega) (by rw [m10]; omega))).trans ?_
        rw [m10, if_pos v.1, if_pos (by omega)]
        refine (bd_of (in_t v.2.1 v.2.2)).trans ?_
        rw [if_pos (by omega)]
        refine (ref h2 f2 _).trans ?_
        rw [if_neg z]
        refine (nm_of (w64_eq (by omega) (by omega))).trans ?_
        have lp : 0 < (uD c s A S 9).2 * sm c 9 := by omega
        have gc : F_X8_gcd (uD c s A S 9).1 ((uD c s A S 9).2 * sm c 9) (wr h2 56 0 0) = some (γ, wr h2 56 0 0) := by
          have gi : Int.gcd (uD c s A S 9).1 ((uD c s A S 9).2 * sm c 9) = γ.natAbs := by rw [f6, f7, Int.gcd_mul_right, f9, Nat.one_mul]
          unfold F_X8_gcd
          refine (nm_of (e' := (((uD c s A S 9).1.natAbs : Nat) : Int)) (by
            by_cases k : (uD c s A S 9).1 < 0
            · rw [if_pos k, w64_eq (by omega) (by omega)]; omega
            · rw [if_neg k]; omega)).trans ?_
          have le : (uD c s A S 9).2 * sm c 9 = ((((uD c s A S 9).2 * sm c 9).natAbs : Nat) : Int) := by omega
          have p50 : (2 : Nat) ^ 50 = 1125899906842624 := by decide
          have q := gcd_l (wr h2 56 0 0) (uD c s A S 9).1 ((uD c s A S 9).2 * sm c 9) (fun x_10 y_11 (h_9 : Mem) => some (x_10, h_9)) 50 (uD c s A S 9).1.natAbs ((uD c s A S 9).2 * sm c 9).natAbs FU (by omega) (by omega) (by rw [p50]; omega) (by unfold FU; omega)
          rw [← le] at q
          refine q.trans ?_
          have gi' : Nat.gcd (uD c s A S 9).1.natAbs ((uD c s A S 9).2 * sm c 9).natAbs = γ.natAbs := gi
          rw [gi', show ((γ.natAbs : Nat) : Int) = γ by omega]
        refine (bd_of gc).trans ?_
        refine jn_of.trans ?_
        by_cases k : what = 0
        · rw [if_pos k, if_pos k]
          refine (gd_of (by omega)).trans ?_
          rw [f6, ldv_m (by omega) (by omega) (by omega)]
        · rw [if_neg k, if_neg k]
          refine (gd_of (by omega)).trans ?_
          rw [f7, ldv_m (by omega) (by omega) (by omega)]
  · exact bad v
