/-! when -/
def wV (q : Nat → Int → Int) (m : Nat → Int) (T : Int → Int) (n : Nat) (b : Int) : Int := if (sFl q m T b n 0 n).1 = 0 then sVa q T b (fun _ => 0) n else -9
def wS (q : Nat → Int → Int) (m : Nat → Int) (T : Int → Int) (n : Nat) : Nat → Int × Int
  | 0 => (-9, -9)
  | b + 1 => if (wS q m T n b).2 < wV q m T n b then ((b : Int), wV q m T n b) else wS q m T n b
section When
variable {q : Nat → Int → Int} {m : Nat → Int} {T : Int → Int} {n : Nat}
theorem va_b {b : Int} {u : Nat → Int} (h1 : 0 < n) (hq : WQ q n) (hT : WT T) (hu : ∀ j, -2 ≤ u j ∧ u j ≤ 2) : 0 ≤ sVa q T b u n := by
  obtain ⟨n', rfl⟩ : ∃ g, n = g + 1 := ⟨n - 1, by omega⟩
  have s := hs_b (b := b) hq hT hu (n' + 1) (Nat.le_refl _)
  have s' := hs_b (b := b) hq hT hu n' (by omega)
  have ha := ha_b (q := q) (b := b) (n := n') hT (gp_b (b := b) hq hT (by omega : n' < n' + 1)).1 s'.1
  have cl : 0 ≤ sCp q T b u n' ∧ sCp q T b u n' ≤ 62 := cl_b (q := q) (p := n') hT (hq n' (by omega)).2.2.1 ha (hu n')
  unfold sVa
  rw [show n' + 1 - 1 = n' by omega]; omega
theorem fl_x {b x y : Int} : (sFl q m T b n x n).1 = 0 ↔ (sFl q m T b n y n).1 = 0 := fl_0.trans fl_0.symm
theorem wS_i (h1 : 0 < n) (hq : WQ q n) (hT : WT T) : ∀ b : Nat, ((wS q m T n b).1 = -9 → (wS q m T n b).2 = -9) ∧ -9 ≤ (wS q m T n b).2
  | 0 => ⟨fun _ => rfl, Int.le_refl _⟩
  | b + 1 => by
    have ih := wS_i h1 hq hT b
    rw [wS]
    by_cases c : (wS q m T n b).2 < wV q m T n b
    · rw [if_pos c]
      exact ⟨fun z => absurd z (by show ¬ (b : Int) = -9; omega), by show -9 ≤ wV q m T n b; omega⟩
    · rw [if_neg c]; exact ih
end When
theorem ex_tr {A B : Res} {v : Int} {P : Mem → Prop} (e : A = B) (h : ∃ h2, B = some (v, h2) ∧ P h2) : ∃ h2, A = some (v, h2) ∧ P h2 := by rw [e]; exact h
theorem cwhen {h : Mem} {n : Nat} (hR : RR h) (hn : h 61 0 = (n : Int)) (h1n : 0 < n) :
    ∃ h1, F_X7_when h = some ((wS (qB h) (mB h) (h 59) n n).1, h1) ∧ Fr scr h h1 := by
  obtain ⟨n', e0, e9, e26, _⟩ := n_B hR
  have nn : n' = n := by omega
  subst nn
  have hq := wq_B hR hn
  have hT := wt_B hR
  have key : ∀ (d b : Nat) (h1 : Mem) (f : Nat) (best most : Int), b + d = n' → d < f → Fr scr h h1 → best = (wS (qB h) (mB h) (h 59) n' b).1 → (¬ best = -9 → most = (wS (qB h) (mB h) (h 59) n' b).2) →
      ∃ h2, L_X7_when_1 (fun best_32 most_33 b_34 (h_31 : Mem) => some (best_32, h_31)) f best most b h1 = some ((wS (qB h) (mB h) (h 59) n' n').1, h2) ∧ Fr scr h h2 := by
    intro d
    induction d with
    | zero =>
      intro b h1 f best most hb hf hF i1 i2
      obtain ⟨f, rfl⟩ : ∃ g, f = g + 1 := ⟨f - 1, by omega⟩
      have hbn : b = n' := by omega
      subst hbn
      refine ⟨h1, ?_, hF⟩
      rw [L_X7_when_1, hF 26 1 (by unfold scr; omega), e26, if_neg (by omega), i1]
    | succ d ih =>
      intro b h1 f best most hb hf hF i1 i2
      obtain ⟨f, rfl⟩ : ∃ g, f = g + 1 := ⟨f - 1, by omega⟩
      have R1 : RR h1 := hR.fr (hF.mono (fun _ _ => scr_r))
      have B := B_fr (hF.mono (fun _ _ z => Or.inl z) : Fr csc h h1)
      have n1 : h1 61 0 = (n' : Int) := by rw [B.2.2.2]; exact hn
      obtain ⟨h2, e2, hI, hC⟩ := cplay (b := (b : Int)) R1 n1
      rw [B.1, B.2.1, B.2.2.1] at hI hC
      have F2 : Fr scr h h2 := hF.trans hI.1
      have st := sta6_e (x := 0) hC (by omega) hq hT
      have tot := total_e (h := h2) (u := fun _ => 0) hI.2.2.1 (by omega) (by omega) (hI.2.2.2.1 (n' - 1) (by omega)).2 hI.2.2.2.2 hq hT (fun _ => by omega)
      have vb := va_b (b := (b : Int)) (u := fun _ => 0) h1n hq hT (fun _ => by omega)
      have ws := wS_i (m := mB h) h1n hq hT b
      rw [L_X7_when_1, hF 26 1 (by unfold scr; omega), e26, if_pos (by omega)]
      refine ex_tr (bd_of e2) ?_
      refine ex_tr jn_of ?_
      refine ex_tr jn_of ?_
      refine ex_tr jn_of ?_
      refine ex_tr (bd_of st) ?_
      by_cases c : (sFl (qB h) (mB h) (h 59) b n' 0 n').1 = 0
      · have wv : wV (qB h) (mB h) (h 59) n' b = sVa (qB h) (h 59) b (fun _ => 0) n' := by unfold wV; rw [if_pos c]
        rw [if_pos c, if_pos (by omega)]
        by_cases t : best = -9
        · rw [if_pos t]
          refine ex_tr (bd_of tot) ?_
          refine ex_tr (nm_of (w32_n (by omega))) ?_
          have up : (wS (qB h) (mB h) (h 59) n' b).2 < wV (qB h) (mB h) (h 59) n' b := by rw [ws.1 (by omega), wv]; omega
          exact ih (b + 1) h2 f b (sVa (qB h) (h 59) b (fun _ => 0) n') (by omega) (by omega) F2 (by rw [wS, if_pos up]) (fun _ => by rw [wS, if_pos up, wv])
        · rw [if_neg t, tot, bd_s]
          by_cases l : most < sVa (qB h) (h 59) b (fun _ => 0) n'
          · rw [if_pos l]
            refine ex_tr (bd_of tot) ?_
            refine ex_tr (nm_of (w32_n (by omega))) ?_
            have up : (wS (qB h) (mB h) (h 59) n' b).2 < wV (qB h) (mB h) (h 59) n' b := by rw [← i2 t, wv]; exact l
            exact ih (b + 1) h2 f b (sVa (qB h) (h 59) b (fun _ => 0) n') (by omega) (by omega) F2 (by rw [wS, if_pos up]) (fun _ => by rw [wS, if_pos up, wv])
          · rw [if_neg l]
            refine ex_tr (nm_of (w32_n (by omega))) ?_
            have up : ¬ (wS (qB h) (mB h) (h 59) n' b).2 < wV (qB h) (mB h) (h 59) n' b := by rw [← i2 t, wv]; exact l
            exact ih (b + 1) h2 f best most (by omega) (by omega) F2 (by rw [wS, if_neg up]; exact i1) (fun z => by rw [wS, if_neg up]; exact i2 z)
      · have wv : wV (qB h) (mB h) (h 59) n' b = -9 := by unfold wV; rw [if_neg c]
        rw [if_neg c, if_neg (by omega)]
        refine ex_tr (nm_of (w32_n (by omega))) ?_
        have up : ¬ (wS (qB h) (mB h) (h 59) n' b).2 < wV (qB h) (mB h) (h 59) n' b := by have := ws.2; rw [wv]; omega
        exact ih (b + 1) h2 f best most (by omega) (by omega) F2 (by rw [wS, if_neg up]; exact i1) (fun z => by rw [wS, if_neg up]; exact i2 z)
  unfold F_X7_when
  rw [e26, if_neg (by omega)]
  exact key n' 0 h FU (-9) 0 (by omega) (by unfold FU; omega) Fr.rfl rfl (fun z => absurd rfl z)
theorem mwhen {g : Mem} {n : Nat} (hR : RR g) (hn : g 61 0 = (n : Int)) (h1n : 0 < n) (h0 : g 56 0 = 0) :
    ∃ h1, F_X8_when g = some ((wS (qB g) (mB g) (g 59) n n).1, h1) ∧ Fr rsc g h1 := by
  obtain ⟨n', e0, e9, _, _⟩ := n_B hR
  have nn : n' = n := by omega
  subst nn
  have gg : wr g 56 0 0 = g := by
    funext r k
    rw [wr_at]
    by_cases c : r = 56 ∧ k = 0
    · rw [if_pos c, c.1, c.2, h0]
    · rw [if_neg c]
  obtain ⟨h1, e1, F1, R1, q1, m1, b1, t1⟩ := mbill hR hn
  have key : ∀ (d b : Nat) (h2 : Mem) (f : Nat), b + d = n' → d < f → Fr rsc g h2 → R8 h2 n' → q8 h2 = qB g → m8 h2 = mB g → h2 59 = g 59 → h2 56 19 = (b : Int) →
      ∃ h3, L_X8_when_1 (fun best_27 most_28 (h_26 : Mem) => some (best_27, h_26)) f (wS (qB g) (mB g) (g 59) n' b).1 (wS (qB g) (mB g) (g 59) n' b).2 h2 = some ((wS (qB g) (mB g) (g 59) n' n').1, h3) ∧ Fr rsc g h3 := by
    intro d
    induction d with
    | zero =>
      intro b h2 f hb hf hF R2 q2 m2 t2 b2
      obtain ⟨f, rfl⟩ : ∃ g, f = g + 1 := ⟨f - 1, by omega⟩
      have hbn : b = n' := by omega
      subst hbn
      refine ⟨h2, ?_, hF⟩
      rw [L_X8_when_1, b2, R2.2.1, if_neg (by omega)]
    | succ d ih =>
      intro b h2 f hb hf hF R2 q2 m2 t2 b2
      obtain ⟨f, rfl⟩ : ∃ g, f = g + 1 := ⟨f - 1, by omega⟩
      obtain ⟨h3, e3, F3, _, I3⟩ := staged8_e R2 b2
      rw [q2, m2, t2] at e3
      rw [q2, t2] at I3
      have x58 : ∀ k, h3 58 k = h2 58 k := fun k => F3 58 k (by unfold ssc; omega)
      have x59 : ∀ k, h3 59 k = h2 59 k := fun k => F3 59 k (by unfold ssc; omega)
      have x64 : ∀ k, h3 64 k = h2 64 k := fun k => F3 64 k (by unfold ssc; omega)
      have R3 : R8 h3 n' := R8_fr R2 (F3 56 18 (by unfold ssc; omega)) x58 x59 x64
      have q3 : q8 h3 = qB g := (q8_fr x58 x64).trans q2
      have m3 : m8 h3 = mB g := (show m8 h3 = m8 h2 from funext (fun p => x64 p)).trans m2
      have t3 : h3 59 = g 59 := (funext x59).trans t2
      have b3 : h3 56 19 = (b : Int) := by rw [F3 56 19 (by unfold ssc; omega)]; exact b2
      have G3 : Fr rsc g h3 := hF.trans (F3.mono (fun _ _ => ssc_r))
      -- the next round from a memory
      have nx : ∀ h4 : Mem, Fr rsc g h4 → R8 h4 n' → q8 h4 = qB g → m8 h4 = mB g → h4 59 = g 59 → h4 56 19 = (b : Int) → ∃ h5, (nm (α := Int) (if (wS (qB g) (mB g) (g 59) n' b).2 < wV (qB g) (mB g) (g 59) n' b then h4 56 19 else (wS (qB g) (mB g) (g 59) n' b).1) (fun v_20 => nm (α := Int) (if (wS (qB g) (mB g) (g 59) n' b).2 < wV (qB g) (mB g) (g 59) n' b then wV (qB g) (mB g) (g 59) n' b else (wS (qB g) (mB g) (g 59) n' b).2) (fun v_22 => nm (wr h4 56 19 (w32 (h4 56 19 + 1))) (fun (h_24 : Mem) => L_X8_when_1 (fun best_27 most_28 (h_26 : Mem) => some (best_27, h_26)) f v_20 v_22 h_24)))) = some ((wS (qB g) (mB g) (g 59) n' n').1, h5) ∧ Fr rsc g h5 := by
        intro h4 F4 R4 q4 m4 t4 b4
        have a1 : (if (wS (qB g) (mB g) (g 59) n' b).2 < wV (qB g) (mB g) (g 59) n' b then h4 56 19 else (wS (qB g) (mB g) (g 59) n' b).1) = (wS (qB g) (mB g) (g 59) n' (b + 1)).1 := by
          rw [wS, b4]
          by_cases c : (wS (qB g) (mB g) (g 59) n' b).2 < wV (qB g) (mB g) (g 59) n' b
          · rw [if_pos c, if_pos c]
          · rw [if_neg c, if_neg c]
        have a2 : (if (wS (qB g) (mB g) (g 59) n' b).2 < wV (qB g) (mB g) (g 59) n' b then wV (qB g) (mB g) (g 59) n' b else (wS (qB g) (mB g) (g 59) n' b).2) = (wS (qB g) (mB g) (g 59) n' (b + 1)).2 := by
          rw [wS]
          by_cases c : (wS (qB g) (mB g) (g 59) n' b).2 < wV (qB g) (mB g) (g 59) n' b
          · rw [if_pos c, if_pos c]
          · rw [if_neg c, if_neg c]
        refine ex_tr (nm_of a1) ?_
        refine ex_tr (nm_of a2) ?_
        rw [b4, w32_n (by omega)]
        refine ex_tr (nm_of rfl) ?_
        have o : ∀ r : Int, ¬ r = 56 → (wr h4 56 19 ((b + 1 : Nat) : Int)) r = h4 r := fun r z => funext (fun k => wr_o z)
        refine ih (b + 1) (wr h4 56 19 ((b + 1 : Nat) : Int)) f (by omega) (by omega) (fun r k hn => ?_) (R8_fr R4 (wr_k (by omega)) (fun k => wr_o (by omega)) (fun k => wr_o (by omega)) (fun k => wr_o (by omega))) ?_ ?_ ?_ wr_s
        · rw [wr_at, if_neg (fun z => hn (by unfold rsc; omega))]; exact F4 r k hn
        · exact (q8_fr (fun k => wr_o (by omega)) (fun k => wr_o (by omega))).trans q4
        · exact (show m8 (wr h4 56 19 ((b + 1 : Nat) : Int)) = m8 h4 from funext (fun p => wr_o (by omega))).trans m4
        · rw [o 59 (by omega)]; exact t4
      rw [L_X8_when_1, b2, R2.2.1, if_pos (by omega)]
      refine ex_tr jn_of ?_
      refine ex_tr (bd_of e3) ?_
      by_cases c : (sFl (qB g) (mB g) (g 59) b n' 0 n').1 = 0
      · have wv : wV (qB g) (mB g) (g 59) n' b = sVa (qB g) (g 59) b (fun _ => 0) n' := by unfold wV; rw [if_pos c]
        rw [if_pos (fl_x.1 c), if_pos (by omega)]
        obtain ⟨h4, e4, N4, l4⟩ := night0 (b := (b : Int)) h1n R3 b3 (fun p hp => by rw [q3, t3]; exact (I3 p hp).1)
        rw [q3, t3, ← wv] at e4
        have F4 := N4.1
        have y58 : ∀ k, h4 58 k = h3 58 k := fun k => F4 58 k (by unfold nsc; omega)
        have y59 : ∀ k, h4 59 k = h3 59 k := fun k => F4 59 k (by unfold nsc; omega)
        have y64 : ∀ k, h4 64 k = h3 64 k := fun k => F4 64 k (by unfold nsc; omega)
        refine ex_tr (bd_of e4) ?_
        exact nx h4 (G3.trans (nsc_fr F4 l4)) (R8_fr R3 (F4 56 18 (by unfold nsc; omega)) y58 y59 y64) ((q8_fr y58 y64).trans q3) ((show m8 h4 = m8 h3 from funext (fun p => y64 p)).trans m3) ((funext y59).trans t3) (by rw [F4 56 19 (by unfold nsc; omega)]; exact b3)
      · have wv : wV (qB g) (mB g) (g 59) n' b = -9 := by unfold wV; rw [if_neg c]
        rw [if_neg (fun z => c (fl_x.1 z)), if_neg (by omega)]
        rw [wv] at nx
        exact nx h3 G3 R3 q3 m3 t3 b3
  unfold F_X8_when
  rw [gg]
  refine ex_tr (nm_of rfl) ?_
  rw [if_neg (by omega)]
  refine ex_tr (bd_of e1) ?_
  refine ex_tr (nm_of rfl) ?_
  refine key n' 0 (wr h1 56 19 0) FU (by omega) (by unfold FU; omega) (fun r k hn => ?_) (R8_fr R1 (wr_k (by omega)) (fun k => wr_o (by omega)) (fun k => wr_o (by omega)) (fun k => wr_o (by omega))) ?_ ?_ ?_ wr_s
  · rw [wr_at, if_neg (fun z => hn (by unfold rsc; omega))]; exact F1 r k (fun z => hn (asc_r z))
  · exact (q8_fr (fun k => wr_o (by omega)) (fun k => wr_o (by omega))).trans q1
  · exact (show m8 (wr h1 56 19 0) = m8 h1 from funext (fun p => wr_o (by omega))).trans m1
  · rw [show (wr h1 56 19 0) 59 = h1 59 from funext (fun k => wr_o (by omega))]; exact t1
