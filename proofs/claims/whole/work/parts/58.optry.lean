/-! tryout agrees -/
def tV (A T : Int → Int) (h : Mem) (n pl : Nat) : Int := if bFl A T (tL h n pl) (bT (h 61 1) pl) = 0 then bVa A T (tL h n pl) (bT (h 61 1) pl) else -9
def tS (A T : Int → Int) (h : Mem) (n : Nat) : Nat → Int × Int
  | 0 => (-9, -9)
  | p + 1 => if (tS A T h n p).2 < tV A T h n p then ((p : Int), tV A T h n p) else tS A T h n p
theorem tS_i {A T : Int → Int} {h : Mem} {n : Nat} : ∀ p : Nat, ((tS A T h n p).1 = -9 → (tS A T h n p).2 = -9) ∧ -9 ≤ (tS A T h n p).2
  | 0 => ⟨fun _ => rfl, Int.le_refl _⟩
  | p + 1 => by
    have ih := tS_i (A := A) (T := T) (h := h) (n := n) p
    rw [tS]
    by_cases c : (tS A T h n p).2 < tV A T h n p
    · rw [if_pos c]
      exact ⟨fun z => absurd z (by show ¬ (p : Int) = -9; omega), by show -9 ≤ tV A T h n p; omega⟩
    · rw [if_neg c]; exact ih
theorem t_conv {A T : Int → Int} {h : Mem} {n pl : Nat} {b : Int} : (sFl (fun j k => A (9 * mT h pl j + k)) (mT h pl) T b (n + 1) 0 (n + 1)).1 = bFl A T (tL h n pl) b ∧ sVa (fun j k => A (9 * mT h pl j + k)) T b (fun _ => 0) (n + 1) = bVa A T (tL h n pl) b := by
  have e : E9 (fun j k => A (9 * mT h pl j + k)) (fun p k => A (9 * (tL h n pl).getD p 0 + k)) (n + 1) := fun j hj k _ _ => by
    show A (9 * mT h pl j + k) = A (9 * (tL h n pl).getD j 0 + k)
    rw [tL_at hj]
  unfold bFl bVa
  rw [tL_l]
  exact ⟨congrArg Prod.fst (fl_c (n + 1) e (fun j hj => (tL_at hj).symm)), va_c (by omega) e⟩
theorem tfr {h g : Mem} (e61 : g 61 = h 61) (e64 : g 64 = h 64) : mT g = mT h ∧ tL g = tL h := by
  have em : mB g = mB h := by unfold mB; rw [e61, e64]
  have e : mT g = mT h := by funext pl j; unfold mT; rw [em]
  exact ⟨e, by funext n pl; unfold tL; rw [e]⟩
theorem ctry {h : Mem} {n : Nat} {kd mi st what : Int} (hR : RR h) (hn : h 61 0 = (n : Int)) (hg : h 54 1 = kd ∧ h 54 2 = mi ∧ h 54 3 = st) (hG : okG kd mi st) (Kx : Int → Int → Int → Mem → Res) :
    ∃ most h1, L_X7_tryout_1 kd mi st what Kx FU (-9) 0 0 h = Kx (tS (gA kd mi st (h 58)) (h 59) h n (n + 1)).1 most ((n + 1 : Nat) : Int) h1 ∧ (¬ (tS (gA kd mi st (h 58)) (h 59) h n (n + 1)).1 = -9 → most = (tS (gA kd mi st (h 58)) (h 59) h n (n + 1)).2) ∧ Fr scr h h1 := by
  obtain ⟨n', e0, e9, e26, _⟩ := n_B hR
  have nn : n' = n := by omega
  subst nn
  have key : ∀ (d b : Nat) (h1 : Mem) (f : Nat) (best most : Int), b + d = n' + 1 → d < f → Fr scr h h1 → best = (tS (gA kd mi st (h 58)) (h 59) h n' b).1 → (¬ best = -9 → most = (tS (gA kd mi st (h 58)) (h 59) h n' b).2) →
      ∃ most' h2, L_X7_tryout_1 kd mi st what Kx f best most b h1 = Kx (tS (gA kd mi st (h 58)) (h 59) h n' (n' + 1)).1 most' ((n' + 1 : Nat) : Int) h2 ∧ (¬ (tS (gA kd mi st (h 58)) (h 59) h n' (n' + 1)).1 = -9 → most' = (tS (gA kd mi st (h 58)) (h 59) h n' (n' + 1)).2) ∧ Fr scr h h2 := by
    intro d
    induction d with
    | zero =>
      intro b h1 f best most hb hf hF i1 i2
      obtain ⟨f, rfl⟩ : ∃ g, f = g + 1 := ⟨f - 1, by omega⟩
      have hbn : b = n' + 1 := by omega
      subst hbn
      refine ⟨most, h1, ?_, by rw [← i1]; exact i2, hF⟩
      rw [L_X7_tryout_1, hF 26 1 (by unfold scr; omega), e26, if_neg (by omega), i1]
    | succ d ih =>
      intro b h1 f best most hb hf hF i1 i2
      obtain ⟨f, rfl⟩ : ∃ g, f = g + 1 := ⟨f - 1, by omega⟩
      have R1 : RR h1 := hR.fr (hF.mono (fun _ _ => scr_r))
      have x58 : h1 58 = h 58 := funext (fun k => hF 58 k (by unfold scr; omega))
      have x59 : h1 59 = h 59 := funext (fun k => hF 59 k (by unfold scr; omega))
      have x61 : h1 61 = h 61 := funext (fun k => hF 61 k (by unfold scr; omega))
      have x64 : h1 64 = h 64 := funext (fun k => hF 64 k (by unfold scr; omega))
      have tf := tfr x61 x64
      have n1 : h1 61 0 = (n' : Int) := by rw [x61]; exact hn
      obtain ⟨h2, e2, hI, hC⟩ := guest_e (pl := b) R1 n1 (by omega) (by rw [hF 54 1 (by unfold scr; omega), hF 54 2 (by unfold scr; omega), hF 54 3 (by unfold scr; omega)]; exact hg) hG
      have hq := wq_T (kd := kd) (mi := mi) (st := st) (pl := b) hR hn (by omega) hG
      have hT := wt_B hR
      rw [x58, x59, x61, tf.1] at hI hC
      have F2 : Fr scr h h2 := hF.trans hI.1
      have cv := t_conv (A := gA kd mi st (h 58)) (T := h 59) (h := h) (n := n') (pl := b) (b := bT (h 61 1) b)
      have sta := sta6_e (x := 0) hC (by omega) hq hT
      have tot := total_e (h := h2) (n := n' + 1) (u := fun _ => 0) hI.2.2.1 (by omega) (by omega) (hI.2.2.2.1 (n' + 1 - 1) (by omega)).2 hI.2.2.2.2 hq hT (fun _ => by omega)
      have vb := va_b (n := n' + 1) (b := bT (h 61 1) b) (u := fun _ => 0) (by omega) hq hT (fun _ => by omega)
      rw [cv.1] at sta
      rw [cv.2] at tot vb
      have ws := tS_i (A := gA kd mi st (h 58)) (T := h 59) (h := h) (n := n') b
      have go := fun best' most' => ih (b + 1) h2 f best' most' (by omega) (by omega) F2
      rw [tS] at go
      rw [L_X7_tryout_1, hF 26 1 (by unfold scr; omega), e26, if_pos (by omega), e2, bd_s, sta]
      simp only [jn, bd_s]
      rw [tot]
      simp only [bd_s, nm]
      rw [tot]
      simp only [bd_s, nm]
      rw [w32_n (by omega)]
      clear ih cv sta tot hC hI e2
      by_cases c : bFl (gA kd mi st (h 58)) (h 59) (tL h n' b) (bT (h 61 1) b) = 0
      · have wv : tV (gA kd mi st (h 58)) (h 59) h n' b = bVa (gA kd mi st (h 58)) (h 59) (tL h n' b) (bT (h 61 1) b) := by unfold tV; rw [if_pos c]
        rw [if_pos c, if_pos (by omega)]
        by_cases t : best = -9
        · have up : (tS (gA kd mi st (h 58)) (h 59) h n' b).2 < tV (gA kd mi st (h 58)) (h 59) h n' b := by rw [ws.1 (by omega), wv]; omega
          rw [if_pos t]
          rw [if_pos up] at go
          exact go b _ rfl (fun _ => wv.symm)
        · rw [if_neg t]
          by_cases l : most < bVa (gA kd mi st (h 58)) (h 59) (tL h n' b) (bT (h 61 1) b)
          · have up : (tS (gA kd mi st (h 58)) (h 59) h n' b).2 < tV (gA kd mi st (h 58)) (h 59) h n' b := by rw [← i2 t, wv]; exact l
            rw [if_pos l]
            rw [if_pos up] at go
            exact go b _ rfl (fun _ => wv.symm)
          · have up : ¬ (tS (gA kd mi st (h 58)) (h 59) h n' b).2 < tV (gA kd mi st (h 58)) (h 59) h n' b := by rw [← i2 t, wv]; exact l
            rw [if_neg l]
            rw [if_neg up] at go
            exact go best most i1 i2
      · have wv : tV (gA kd mi st (h 58)) (h 59) h n' b = -9 := by unfold tV; rw [if_neg c]
        have up : ¬ (tS (gA kd mi st (h 58)) (h 59) h n' b).2 < tV (gA kd mi st (h 58)) (h 59) h n' b := by have := ws.2; rw [wv]; omega
        rw [if_neg c, if_neg (by omega)]
        rw [if_neg up] at go
        exact go best most i1 i2
  exact key (n' + 1) 0 h FU (-9) 0 (by omega) (by unfold FU; omega) Fr.rfl rfl (fun z => absurd rfl z)
theorem try1 {h : Mem} {kd mi st what : Int} (Kx : Int → Mem → Res) :
    ∃ h2, L_X8_tryout_1 kd mi st what Kx FU 0 h = Kx 9 h2 ∧ ∀ r k : Int, h2 r k = if r = 58 then gA kd mi st (h 58) k else h r k := by
  have key : ∀ (d p : Nat) (h1 : Mem) (f : Nat), p + d = 9 → d < f → (∀ r k : Int, h1 r k = if r = 58 ∧ k < 81 + (p : Int) then gA kd mi st (h 58) k else h r k) →
      ∃ h2, L_X8_tryout_1 kd mi st what Kx f p h1 = Kx 9 h2 ∧ ∀ r k : Int, h2 r k = if r = 58 then gA kd mi st (h 58) k else h r k := by
    intro d
    induction d with
    | zero =>
      intro p h1 f hp hf hI
      obtain ⟨f, rfl⟩ : ∃ g, f = g + 1 := ⟨f - 1, by omega⟩
      have hpn : p = 9 := by omega
      subst hpn
      refine ⟨h1, by rw [L_X8_tryout_1, if_neg (by omega)]; rfl, fun r k => ?_⟩
      rw [hI]
      by_cases c : r = 58
      · by_cases e : k < 81 + ((9 : Nat) : Int)
        · rw [if_pos ⟨c, e⟩, if_pos c]
        · rw [if_neg (fun z => e z.2), if_pos c, c]
          unfold gA
          rw [if_neg (by omega)]
      · rw [if_neg (fun z => c z.1), if_neg c]
    | succ d ih =>
      intro p h1 f hp hf hI
      obtain ⟨f, rfl⟩ : ∃ g, f = g + 1 := ⟨f - 1, by omega⟩
      have val : (if (p : Int) = 0 then kd else if (p : Int) = 1 then mi else if (p : Int) = 2 then st else 0) = gA kd mi st (h 58) (81 + (p : Int)) := by
        unfold gA
        rw [if_pos (show 81 ≤ 81 + (p : Int) ∧ 81 + (p : Int) < 90 by omega)]
        by_cases c0 : (p : Int) = 0
        · rw [if_pos c0, if_pos (by omega)]
        · by_cases c1 : (p : Int) = 1
          · rw [if_neg c0, if_pos c1, if_neg (by omega), if_pos (by omega)]
          · by_cases c2 : (p : Int) = 2
            · rw [if_neg c0, if_neg c1, if_pos c2, if_neg (by omega), if_neg (by omega), if_pos (by omega)]
            · rw [if_neg c0, if_neg c1, if_neg c2, if_neg (by omega), if_neg (by omega), if_neg (by omega)]
      rw [L_X8_tryout_1, if_pos (by omega)]
      refine ex_ct (nm_of val) ?_
      rw [w32_s (z := 81 + (p : Int)) (by omega) (by omega)]
      refine ex_ct (gd_of (by omega)) ?_
      refine ex_ct (nm_of rfl) ?_
      refine ex_ct (nm_of (w32_n (by omega))) ?_
      refine ih (p + 1) _ f (by omega) (by omega) (fun r k => ?_)
      rw [wr_at]
      by_cases c : r = 58 ∧ k = 81 + (p : Int)
      · rw [if_pos c, if_pos (by omega), c.2]
      · rw [if_neg c, hI]
        by_cases e : r = 58 ∧ k < 81 + (p : Int)
        · rw [if_pos e, if_pos (by omega)]
        · rw [if_neg e, if_neg (by omega)]
  refine key 9 0 h FU (by omega) (by unfold FU; omega) (fun r k => ?_)
  by_cases c : r = 58 ∧ k < 81 + ((0 : Nat) : Int)
  · rw [if_pos c, gA_lo (by omega), c.1]
  · rw [if_neg c]
theorem try3 {h : Mem} {n pl : Nat} {kd mi st what b0 b1 : Int} (hn : h 61 0 = (n : Int)) (h9 : n ≤ 9) (h18 : h 56 18 = ((n + 1 : Nat) : Int)) (hp : pl ≤ n) (Kx : Int → Mem → Res) :
    ∃ h2, L_X8_tryout_3 kd mi st what b0 b1 (pl : Int) Kx FU 0 h = Kx ((n + 1 : Nat) : Int) h2 ∧ Fr (onr 64) h h2 ∧ ∀ j : Nat, j < n + 1 → h2 64 j = mT h pl j := by
  have key : ∀ (d p : Nat) (h1 : Mem) (f : Nat), p + d = n + 1 → d < f → Fr (onr 64) h h1 → (∀ j : Nat, j < p → h1 64 j = mT h pl j) →
      ∃ h2, L_X8_tryout_3 kd mi st what b0 b1 (pl : Int) Kx f p h1 = Kx ((n + 1 : Nat) : Int) h2 ∧ Fr (onr 64) h h2 ∧ ∀ j : Nat, j < n + 1 → h2 64 j = mT h pl j := by
    intro d
    induction d with
    | zero =>
      intro p h1 f hpd hf hF hI
      obtain ⟨f, rfl⟩ : ∃ g, f = g + 1 := ⟨f - 1, by omega⟩
      have e : p = n + 1 := by omega
      subst e
      refine ⟨h1, ?_, hF, hI⟩
      rw [L_X8_tryout_3, hF 56 18 (by unfold onr; omega), h18, if_neg (by omega)]
    | succ d ih =>
      intro p h1 f hpd hf hF hI
      obtain ⟨f, rfl⟩ : ∃ g, f = g + 1 := ⟨f - 1, by omega⟩
      have x61 : ∀ k, h1 61 k = h 61 k := fun k => hF 61 k (by unfold onr; omega)
      have nx := ih (p + 1) (wr h1 64 p (mT h pl p)) f (by omega) (by omega) (fun r k z => by rw [wr_o z]; exact hF r k z) (fun j hj => by
        by_cases c : j = p
        · rw [c, wr_s]
        · rw [wr_k (by omega)]; exact hI j (by omega))
      rw [L_X8_tryout_3, hF 56 18 (by unfold onr; omega), h18, if_pos (by omega)]
      refine ex_ct jn_of ?_
      by_cases c : (p : Int) = (pl : Int)
      · have me : mT h pl p = 9 := by unfold mT; rw [if_neg (by omega), if_pos (by omega)]
        rw [if_pos c]
        refine ex_ct (gd_of (by omega)) ?_
        refine ex_ct (nm_of rfl) ?_
        refine ex_ct (nm_of (w32_n (by omega))) ?_
        rw [me] at nx
        exact nx
      · rw [if_neg c]
        by_cases c2 : (p : Int) < (pl : Int)
        · have me : mT h pl p = h 61 (3 + (p : Int)) := by unfold mT; rw [if_pos (by omega)]; unfold mB; rw [if_pos (by omega)]
          rw [if_pos c2]
          refine ex_ct (nm_of rfl) ?_
          rw [w32_s (z := 3 + (p : Int)) (by omega) (by omega)]
          refine ex_ct (gd_of (by omega)) ?_
          refine ex_ct (gd_of (by omega)) ?_
          rw [x61, ← me]
          refine ex_ct (nm_of rfl) ?_
          refine ex_ct (nm_of (w32_n (by omega))) ?_
          exact nx
        · have me : mT h pl p = h 61 (3 + ((p : Int) - 1)) := by
            unfold mT; rw [if_neg (by omega), if_neg (by omega)]; unfold mB; rw [if_pos (by omega), show ((p - 1 : Nat) : Int) = (p : Int) - 1 by omega]
          rw [if_neg c2, w32_s (z := (p : Int) - 1) (by omega) (by omega)]
          refine ex_ct (nm_of rfl) ?_
          rw [w32_s (z := 3 + ((p : Int) - 1)) (by omega) (by omega)]
          refine ex_ct (gd_of (by omega)) ?_
          refine ex_ct (gd_of (by omega)) ?_
          rw [x61, ← me]
          refine ex_ct (nm_of rfl) ?_
          refine ex_ct (nm_of (w32_n (by omega))) ?_
          exact nx
  exact key (n + 1) 0 h FU (by omega) (by unfold FU; omega) Fr.rfl (fun j hj => absurd hj (by omega))
theorem mtry {h : Mem} {n : Nat} {kd mi st what : Int} {A : Int → Int} (hR : RR h) (hn : h 61 0 = (n : Int)) (hA : h 58 = A) (hw : ∀ pl, pl ≤ n → WQ (fun j k => A (9 * mT h pl j + k)) (n + 1)) (Kx : Int → Int → Int → Mem → Res) :
    ∃ h1, L_X8_tryout_2 kd mi st what Kx FU (-9) (-9) 0 h = Kx (tS A (h 59) h n (n + 1)).1 (tS A (h 59) h n (n + 1)).2 ((n + 1 : Nat) : Int) h1 ∧ Fr rsc h h1 := by
  obtain ⟨n', e0, e9, _, eb⟩ := n_B hR
  have nn : n' = n := by omega
  subst nn
  have w9 := wac_n hR
  have wb := hR.2.2.2.2.2.2.2.1.2.2.2.1
  have wb3 : 0 ≤ h 61 1 := wb.2.2.1
  have wb4 : h 61 1 < h 61 0 ∨ h 61 1 = 0 := wb.2.2.2.1
  have key : ∀ (d b : Nat) (h1 : Mem) (f : Nat), b + d = n' + 1 → d < f → Fr rsc h h1 →
      ∃ h2, L_X8_tryout_2 kd mi st what Kx f (tS A (h 59) h n' b).1 (tS A (h 59) h n' b).2 b h1 = Kx (tS A (h 59) h n' (n' + 1)).1 (tS A (h 59) h n' (n' + 1)).2 ((n' + 1 : Nat) : Int) h2 ∧ Fr rsc h h2 := by
    intro d
    induction d with
    | zero =>
      intro b h1 f hb hf hF
      obtain ⟨f, rfl⟩ : ∃ g, f = g + 1 := ⟨f - 1, by omega⟩
      have hbn : b = n' + 1 := by omega
      subst hbn
      refine ⟨h1, ?_, hF⟩
      rw [L_X8_tryout_2, hF 61 0 (by unfold rsc; omega), hn, if_neg (by omega)]
    | succ d ih =>
      intro b h1 f hb hf hF
      obtain ⟨f, rfl⟩ : ∃ g, f = g + 1 := ⟨f - 1, by omega⟩
      have x61 : ∀ k, h1 61 k = h 61 k := fun k => hF 61 k (by unfold rsc; omega)
      rw [L_X8_tryout_2, x61, hn, if_pos (by omega), w32_n (by omega)]
      refine ex_ct (nm_of rfl) ?_
      rw [wr_o (by omega), x61]
      refine ex_ct (nm_of (e' := bT (h 61 1) b) ?_) ?_
      · unfold bT
        by_cases c : (b : Int) < h 61 1
        · rw [if_pos c, if_pos c, w32_s (by omega) (by omega)]
        · rw [if_neg c, if_neg c]
      refine ex_ct (nm_of rfl) ?_
      have G : Fr rsc h (wr (wr h1 56 18 ((n' + 1 : Nat) : Int)) 56 19 (bT (h 61 1) b)) := fun r k hr => by
        rw [wr_at, if_neg (fun z => hr (by unfold rsc; omega)), wr_at, if_neg (fun z => hr (by unfold rsc; omega))]; exact hF r k hr
      have g18 : (wr (wr h1 56 18 ((n' + 1 : Nat) : Int)) 56 19 (bT (h 61 1) b)) 56 18 = ((n' + 1 : Nat) : Int) := by rw [wr_k (by omega), wr_s]
      have g19 : (wr (wr h1 56 18 ((n' + 1 : Nat) : Int)) 56 19 (bT (h 61 1) b)) 56 19 = bT (h 61 1) b := wr_s
      generalize wr (wr h1 56 18 ((n' + 1 : Nat) : Int)) 56 19 (bT (h 61 1) b) = g at *
      have y61 : ∀ k, g 61 k = h 61 k := fun k => G 61 k (by unfold rsc; omega)
      have me : ∀ j, j < n' + 1 → mT g b j = mT h b j := fun j hj => by
        unfold mT mB
        by_cases c : j < b
        · rw [if_pos c, if_pos c, y61, y61, if_pos (by omega), if_pos (by omega)]
        · by_cases c2 : j = b
          · rw [if_neg c, if_neg c, if_pos c2, if_pos c2]
          · rw [if_neg c, if_neg c, if_neg c2, if_neg c2, y61, y61, if_pos (by omega), if_pos (by omega)]
      obtain ⟨h2, e2, F2, I2⟩ := try3 (kd := kd) (mi := mi) (st := st) (what := what) (b0 := (tS A (h 59) h n' b).1) (b1 := (tS A (h 59) h n' b).2) (pl := b) (n := n') (h := g) (by rw [y61]; exact hn) e9 g18 (by omega) (fun p_58 (h_57 : Mem) => jn (fun (K_59 : Int → Mem → Res) => bd (F_X8_isStaged  h_57) (fun r_60 (h_61 : Mem) => if (¬ r_60 = 0) then (bd (F_X8_nightOf 0 h_61) (fun r_65 (h_66 : Mem) => K_59 r_65 h_66)) else (K_59 (-9) h_61))) (fun v_69 (h_68 : Mem) => nm (α := Int) (if ((tS A (h 59) h n' b).2 < v_69) then (b : Int) else (tS A (h 59) h n' b).1) (fun v_70 => nm (α := Int) (if ((tS A (h 59) h n' b).2 < v_69) then v_69 else (tS A (h 59) h n' b).2) (fun v_72 => nm (w32 ((b : Int) + 1)) (fun at_74 => L_X8_tryout_2 kd mi st what Kx f v_70 v_72 at_74 h_68)))))
      refine ex_ct e2 ?_
      have G2 : Fr rsc h h2 := G.trans (F2.mono (fun _ _ => onr_r (Or.inr rfl)))
      have z58 : h2 58 = A := (funext (fun k => G2 58 k (by unfold rsc; omega))).trans hA
      have z59 : h2 59 = h 59 := funext (fun k => G2 59 k (by unfold rsc; omega))
      have ar : Ar h2 64 (tL h n' b) := Ar.of (fun p hp => by
        rw [tL_l] at hp
        rw [I2 p hp, me p hp, tL_at hp])
      obtain ⟨h3, e3, F3, h4, e4, F4⟩ := mst_L (b := bT (h 61 1) b) (l := tL h n' b) (h := h2) (by rw [z59]; exact wt_B hR) ar (by rw [F2 56 18 (by unfold onr; omega), g18, tL_l]) (by rw [F2 56 19 (by unfold onr; omega)]; exact g19) (by rw [tL_l]; omega) (by rw [tL_l]; omega) (fun x hx => by
          unfold tL at hx
          obtain ⟨j, hj, rfl⟩ := List.mem_map.mp hx
          have := mT_b hR hn (show b ≤ n' by omega) (List.mem_range.mp hj)
          omega) (fun j hj => by
          rw [tL_l] at hj
          have w := hw b (by omega) j hj
          have q : ∀ k, qL h2 (tL h n' b) j k = A (9 * mT h b j + k) := fun k => by unfold qL; rw [z58, tL_at hj]
          simp only [q]; exact w)
      rw [z58, z59] at e3 e4
      have a1 : ∀ v, v = tV A (h 59) h n' b → (if ((tS A (h 59) h n' b).2 < v) then (b : Int) else (tS A (h 59) h n' b).1) = (tS A (h 59) h n' (b + 1)).1 ∧ (if ((tS A (h 59) h n' b).2 < v) then v else (tS A (h 59) h n' b).2) = (tS A (h 59) h n' (b + 1)).2 := fun v hv => by
        subst hv
        rw [tS]
        by_cases c : (tS A (h 59) h n' b).2 < tV A (h 59) h n' b
        · rw [if_pos c, if_pos c, if_pos c]; exact ⟨rfl, rfl⟩
        · rw [if_neg c, if_neg c, if_neg c]; exact ⟨rfl, rfl⟩
      refine ex_ct jn_of ?_
      refine ex_ct (bd_of e3) ?_
      have G3 : Fr rsc h h3 := G2.trans (F3.mono (fun _ _ => ssc_r))
      by_cases c : bFl A (h 59) (tL h n' b) (bT (h 61 1) b) = 0
      · have wv : bVa A (h 59) (tL h n' b) (bT (h 61 1) b) = tV A (h 59) h n' b := by unfold tV; rw [if_pos c]
        rw [if_pos c, if_pos (by omega)]
        refine ex_ct (bd_of e4) ?_
        refine ex_ct (nm_of (a1 _ wv).1) ?_
        refine ex_ct (nm_of (a1 _ wv).2) ?_
        refine ex_ct (nm_of (w32_n (by omega))) ?_
        exact ih (b + 1) h4 f (by omega) (by omega) (G3.trans F4)
      · have wv : -9 = tV A (h 59) h n' b := by unfold tV; rw [if_neg c]
        rw [if_neg c, if_neg (by omega)]
        refine ex_ct (nm_of (a1 _ wv).1) ?_
        refine ex_ct (nm_of (a1 _ wv).2) ?_
        refine ex_ct (nm_of (w32_n (by omega))) ?_
        exact ih (b + 1) h3 f (by omega) (by omega) G3
  exact key (n' + 1) 0 h FU (by omega) (by unfold FU; omega) Fr.rfl
theorem op_tryout (kd mi st what : Int) : OP (F_X7_tryout kd mi st what) (F_X8_tryout kd mi st what) := by
  intro h hR
  obtain ⟨n, e0, e9, e26, eb⟩ := n_B hR
  have w9 := wac_n hR
  by_cases v : okG kd mi st ∧ 0 ≤ what ∧ what ≤ 1
  · have vg := v.1
    unfold okG at vg
    have F0 : Fr rsc h (wr (wr (wr h 54 1 kd) 54 2 mi) 54 3 st) := fun r k hr => by
      rw [wr_at, if_neg (fun z => hr (by unfold rsc; omega)), wr_at, if_neg (fun z => hr (by unfold rsc; omega)), wr_at, if_neg (fun z => hr (by unfold rsc; omega))]
    have g1 : (wr (wr (wr h 54 1 kd) 54 2 mi) 54 3 st) 54 1 = kd ∧ (wr (wr (wr h 54 1 kd) 54 2 mi) 54 3 st) 54 2 = mi ∧ (wr (wr (wr h 54 1 kd) 54 2 mi) 54 3 st) 54 3 = st := by
      refine ⟨?_, ?_, wr_s⟩
      · rw [wr_k (by omega), wr_k (by omega), wr_s]
      · rw [wr_k (by omega), wr_s]
    have c0 : F_X7_tryout kd mi st what h = L_X7_tryout_1 kd mi st what (fun best_35 most_36 p_37 (h_34 : Mem) => if ((best_35 = (-9)) ∨ (what = 0)) then (some (best_35, h_34)) else (some (most_36, h_34))) FU (-9) 0 0 (wr (wr (wr h 54 1 kd) 54 2 mi) 54 3 st) := by
      unfold F_X7_tryout
      rw [if_neg (by omega), if_neg (by omega)]; rfl
    generalize wr (wr (wr h 54 1 kd) 54 2 mi) 54 3 st = g at *
    have Rg : RR g := hR.fr F0
    have x58 : g 58 = h 58 := funext (fun k => F0 58 k (by unfold rsc; omega))
    have x59 : g 59 = h 59 := funext (fun k => F0 59 k (by unfold rsc; omega))
    have x61 : g 61 = h 61 := funext (fun k => F0 61 k (by unfold rsc; omega))
    obtain ⟨most, h1, e1, i1, F1⟩ := ctry (what := what) Rg (n := n) (by rw [x61]; exact e0) g1 v.1 (fun best_35 most_36 p_37 (h_34 : Mem) => if ((best_35 = (-9)) ∨ (what = 0)) then (some (best_35, h_34)) else (some (most_36, h_34)))
    have sS := tS_i (A := gA kd mi st (g 58)) (T := g 59) (h := g) (n := n) (n + 1)
    have F1' : Fr rsc h (wr h1 56 0 0) := (F0.trans (F1.mono (fun _ _ => scr_r))).trans (fun r k hr => by rw [wr_at, if_neg (fun z => hr (by unfold rsc; omega))])
    have R1 : RR (wr h1 56 0 0) := hR.fr F1'
    obtain ⟨h2, e2, I2⟩ := try1 (h := wr h1 56 0 0) (kd := kd) (mi := mi) (st := st) (what := what) (fun k_35 (h_34 : Mem) => L_X8_tryout_2 kd mi st what (fun best_77 most_78 at_79 (h_76 : Mem) => if (what = 0) then (some (best_77, h_76)) else (some (most_78, h_76))) FU (-9) (-9) 0 h_34)
    have hW : ∀ r k : Int, ¬ (r = 58 ∧ 81 ≤ k) → h2 r k = (wr h1 56 0 0) r k := fun r k a => by
      rw [I2]
      by_cases c : r = 58
      · rw [if_pos c, gA_lo (by omega), c]
      · rw [if_neg c]
    have R2 : RR h2 := by
      have hR := R1
      have p := hR.ps
      exact RR.of (fCC (fun r k d => hW r k (by unfold dCC at d; omega)) p.1) (fTx (fun r k d => hW r k (by unfold dTx at d; omega)) p.2.1) (fAc (fun r k d => hW r k (by unfold dAc at d; omega)) (c_B hR).2 p.2.2.1) (fTu (fun r k d => hW r k (by unfold dTu at d; omega)) p.2.2.2.1) (fB (fun r k d => hW r k (by unfold dB at d; omega)) p.2.2.2.2.1) (fIm (fun r k d => hW r k (by unfold dIm at d; omega)) p.2.2.2.2.2.1) (fMk (fun r k d => hW r k (by unfold dMk at d; omega)) p.2.2.2.2.2.2.1) (fTr (fun r k d => hW r k (by unfold dTr at d; omega)) p.2.2.2.2.2.2.2.1) (fBs (fun r k d => hW r k (by unfold dBs at d; omega)) p.2.2.2.2.2.2.2.2)
    have y58 : h2 58 = gA kd mi st (g 58) := by
      funext k
      rw [I2, if_pos rfl]
      have : (wr h1 56 0 0) 58 = g 58 := by
        funext k
        rw [wr_o (by omega), F1 58 k (by unfold scr; omega)]
      rw [this]
    have o2 : ∀ r : Int, ¬ r = 58 → ¬ r = 56 → (∀ k, ¬ scr r k) → h2 r = g r := fun r a b c => by
      funext k
      rw [I2, if_neg a, wr_o b, F1 r k (c k)]
    have y59 : h2 59 = g 59 := o2 59 (by omega) (by omega) (fun k => by unfold scr; omega)
    have y61 : h2 61 = g 61 := o2 61 (by omega) (by omega) (fun k => by unfold scr; omega)
    have y64 : h2 64 = g 64 := o2 64 (by omega) (by omega) (fun k => by unfold scr; omega)
    have tf := tfr y61 y64
    obtain ⟨h3, e3, F3⟩ := mtry (kd := kd) (mi := mi) (st := st) (what := what) (n := n) R2 (by rw [y61, x61]; exact e0) y58 (fun pl hp => by rw [tf.1]; exact wq_T Rg (by rw [x61]; exact e0) hp v.1) (fun best_77 most_78 at_79 (h_76 : Mem) => if (what = 0) then (some (best_77, h_76)) else (some (most_78, h_76)))
    have ts : ∀ p, tS (gA kd mi st (g 58)) (h2 59) h2 n p = tS (gA kd mi st (g 58)) (g 59) g n p := fun p => by
      induction p with
      | zero => rfl
      | succ p ih =>
        rw [tS, tS, ih]
        have tv : tV (gA kd mi st (g 58)) (h2 59) h2 n p = tV (gA kd mi st (g 58)) (g 59) g n p := by unfold tV; rw [tf.2, y59, y61]
        rw [tv]
    rw [ts] at e3
    refine ⟨if what = 0 then (tS (gA kd mi st (g 58)) (g 59) g n (n + 1)).1 else (tS (gA kd mi st (g 58)) (g 59) g n (n + 1)).2, h1, h3, ?_, ?_, R2.fr F3⟩
    · rw [c0, e1]
      by_cases c : what = 0
      · rw [if_pos (Or.inr c), if_pos c]
      · rw [if_neg c]
        by_cases d : (tS (gA kd mi st (g 58)) (g 59) g n (n + 1)).1 = -9
        · rw [if_pos (Or.inl d), sS.1 d, d]
        · rw [if_neg (fun z => z.elim d c), i1 d]
    · unfold F_X8_tryout
      refine (nm_of rfl).trans ?_
      refine jn_of.trans ?_
      refine (bd_of (in_t (by omega) (by omega))).trans ?_
      rw [if_pos (by omega)]
      refine (bd_of (in_t (by omega) (by omega))).trans ?_
      rw [if_pos (by omega)]
      refine (bd_of (in_t (by omega) (by omega))).trans ?_
      rw [if_pos (by omega)]
      refine (bd_of (in_t (by omega) (by omega))).trans ?_
      rw [if_pos (by omega)]
      refine e2.trans ?_
      refine e3.trans ?_
      by_cases c : what = 0
      · rw [if_pos c, if_pos c]
      · rw [if_neg c, if_neg c]
  · unfold okG at v
    refine ⟨-1, h, wr h 56 0 0, ?_, ?_, hR.g0 Fr.rfl⟩
    · unfold F_X7_tryout
      by_cases c : (((kd < 0) ∨ (5 < kd)) ∨ (mi < 1)) ∨ (30 < mi)
      · rw [if_pos c]
      · rw [if_neg c, if_pos (by omega)]
    · unfold F_X8_tryout
      refine (nm_of rfl).trans ?_
      refine jn_of.trans ?_
      rw [in_e, bd_s, in_e, bd_s, in_e, bd_s, in_e, bd_s]
      by_cases c1 : 0 ≤ kd ∧ kd ≤ 5
      · rw [if_pos c1, if_pos (by omega)]
        by_cases c2 : 1 ≤ mi ∧ mi ≤ 30
        · rw [if_pos c2, if_pos (by omega)]
          by_cases c3 : 0 ≤ st ∧ st ≤ 30
          · rw [if_pos c3, if_pos (by omega), if_neg (by omega)]
          · rw [if_neg c3, if_neg (by omega)]
        · rw [if_neg c2, if_neg (by omega)]
      · rw [if_neg c1, if_neg (by omega)]
