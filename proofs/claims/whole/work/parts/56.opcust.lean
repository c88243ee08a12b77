/-! custom agrees -/
theorem mly_L {h : Mem} {l : List Int} {b : Int} (hT : WT (h 59)) (hA : Ar h 64 l) (h18 : h 56 18 = (l.length : Int)) (h19 : h 56 19 = b) (h1n : 0 < l.length) (h10 : l.length ≤ 10) (hb : ∀ x ∈ l, 0 ≤ x ∧ x ≤ 9) (hw : WQ (qL h l) l.length) :
    ∃ h1 h2, F_X8_lays h = some (0, h1) ∧ F_X8_nightOf 0 h1 = some (bVa (h 58) (h 59) l b, h2) ∧ Fr rsc h h2 := by
  obtain ⟨R, q, m⟩ := r8_L hT hA h18 h10 hb hw
  obtain ⟨h1, e1, F1, I1⟩ := lays_e R h19
  have x58 : ∀ k, h1 58 k = h 58 k := fun k => F1 58 k (by unfold lsc; omega)
  have x59 : ∀ k, h1 59 k = h 59 k := fun k => F1 59 k (by unfold lsc; omega)
  have x64 : ∀ k, h1 64 k = h 64 k := fun k => F1 64 k (by unfold lsc; omega)
  have R1 : R8 h1 l.length := R8_fr R (F1 56 18 (by unfold lsc; omega)) x58 x59 x64
  have q1 : q8 h1 = q8 h := q8_fr x58 x64
  have t1 : h1 59 = h 59 := funext x59
  have b1 : h1 56 19 = b := by rw [F1 56 19 (by unfold lsc; omega)]; exact h19
  obtain ⟨h2, e2, N2, l2⟩ := night0 (b := b) h1n R1 b1 (fun p hp => by rw [q1, t1]; exact (I1 p hp).1)
  refine ⟨h1, h2, e1, ?_, (F1.mono (fun _ _ => lsc_r)).trans (nsc_fr N2.1 l2)⟩
  rw [e2, q1, t1, va_c h1n q]; rfl
theorem on_fr {h g : Mem} (e61 : g 61 = h 61) (e10 : g 56 10 = h 56 10) : onL g = onL h := by
  unfold onL rowL; rw [e61, e10]
/-- the reference sorts its row: the acts of the bill in their order -/
theorem msort {g : Mem} {n : Nat} (hR : RR g) (hn : g 61 0 = (n : Int)) :
    ∃ h1 h2, F_X8_asBilled g = some (0, h1) ∧ F_X8_sortsRow h1 = some (0, h2) ∧ Fr asc g h1 ∧ Fr (onr 64) h1 h2 ∧ Ar h2 64 (onL g) ∧ h2 56 18 = (n : Int) ∧ h2 56 19 = g 61 1 := by
  obtain ⟨n', e0, e9, _, _⟩ := n_B hR
  have nn : n' = n := by omega
  subst nn
  obtain ⟨h1, e1, F1, e18, e19, e64⟩ := asB_e hn e9
  have rl := row_l hn
  have A1 : Ar h1 64 (rowL g 61 0) := Ar.of (fun p hp => by rw [e64, row_at hn (by omega)])
  obtain ⟨h2, e2, F2, A2⟩ := sortsRow_e A1 (by rw [rl]; exact e18) (by omega)
  refine ⟨h1, h2, e1, e2, F1, F2, ?_, by rw [F2 56 18 (by unfold onr; omega)]; exact e18, by rw [F2 56 19 (by unfold onr; omega)]; exact e19⟩
  rw [srt_row (row_d hR) (linL_p (rowL g 61 0) (-9) (g 56 10).toNat) (fun x => (on_m hR).symm)] at A2
  exact A2
theorem op_custom : OP F_X7_custom F_X8_custom := by
  intro h hR
  obtain ⟨n, e0, e9, e26, eb⟩ := n_B hR
  have w9 := wac_n hR
  by_cases z : n = 0
  · refine ⟨-2, h, wr h 56 0 0, ?_, ?_, hR.g0 Fr.rfl⟩
    · unfold F_X7_custom
      rw [if_pos (by omega)]
    · unfold F_X8_custom
      refine (nm_of rfl).trans ?_
      rw [if_pos (by rw [wr_o (by omega)]; omega)]
  · -- the class
    obtain ⟨h1, e1, F1, A1⟩ := lineUp_e (w := -9) hR
    have R1 : RR h1 := hR.fr (F1.mono (fun _ _ => onr_r (Or.inl rfl)))
    have x58 : ∀ g, Fr (onr 55) h g → g 58 = h 58 := fun g F => funext (fun k => F 58 k (by unfold onr; omega))
    have m1 : h1 56 10 = h 56 10 := F1 56 10 (by unfold onr; omega)
    have ol := on_len hR e0
    have n1 : h1 61 0 = ((onL h).length : Int) := by rw [F1 61 0 (by unfold onr; omega), ol]; exact e0
    obtain ⟨h2, e2, F2, A2⟩ := sortS_e R1 A1 (fun x hx => by rw [m1]; exact row_b hR ((on_m hR).mp hx)) n1 (by show 0 < (onL h).length; omega)
    rw [x58 h1 F1] at A2
    have F12 : Fr (onr 55) h h2 := F1.trans F2
    have cl := cu_l hR e0
    have i2 : h2 26 1 = (n : Int) := by rw [F12 26 1 (by unfold onr; omega)]; exact e26
    -- the swap
    obtain ⟨h3, F3, A3, k3⟩ : ∃ h3, Fr (onr 55) h h3 ∧ Ar h3 55 (cuL h) ∧ ∀ K : Mem → Res, (if (0 < (n : Int) - 1) then (gd (0 ≤ (n : Int) - 1 ∧ (n : Int) - 1 < 9) (nm (h2 55 ((n : Int) - 1)) (fun strongest_10 => gd (0 ≤ (w32 ((n : Int) - 1 - 1)) ∧ (w32 ((n : Int) - 1 - 1)) < 9) (nm (wr h2 55 ((n : Int) - 1) (h2 55 (w32 ((n : Int) - 1 - 1)))) (fun (h_12 : Mem) => nm (wr h_12 55 (w32 ((n : Int) - 1 - 1)) strongest_10) (fun (h_13 : Mem) => K h_13)))))) else (K h2)) = K h3 := by
      have len : (isort (ltS (h 58)) [] (onL h)).length = n := by rw [(isort_perm _ _).length_eq, List.nil_append]; exact ol
      by_cases c : 2 ≤ n
      · obtain ⟨A, y, x, eA⟩ := list2 (l := isort (ltS (h 58)) [] (onL h)) (by omega)
        have lA : A.length + 2 = n := by rw [← len, eA]; simp
        have A2' : Ar h2 55 (A ++ y :: x :: []) := by rw [← eA]; exact A2
        have sw := ar_swap (n - 1) (by omega) A2'
        rw [show ((n - 1 : Nat) : Int) = (n : Int) - 1 by omega] at sw
        refine ⟨wr (wr h2 55 ((n : Int) - 1) (h2 55 ((n : Int) - 1 - 1))) 55 ((n : Int) - 1 - 1) (h2 55 ((n : Int) - 1)), fun r k hr => ?_, ?_, fun K => ?_⟩
        · rw [wr_o hr, wr_o hr]; exact F12 r k hr
        · unfold cuL
          rw [eA, swL_e]; exact sw
        · rw [w32_s (z := (n : Int) - 1 - 1) (by omega) (by omega), if_pos (by omega), gd_t (by omega)]
          refine (nm_of rfl).trans ?_
          rw [gd_t (by omega)]
          rfl
      · refine ⟨h2, F12, ?_, fun K => by rw [if_neg (by omega)]⟩
        unfold cuL swL
        rw [if_neg (by omega)]; exact A2
    have R3 : RR h3 := hR.fr (F3.mono (fun _ _ => onr_r (Or.inl rfl)))
    have m3 : h3 56 10 = h 56 10 := F3 56 10 (by unfold onr; omega)
    have t3 : h3 59 = h 59 := funext (fun k => F3 59 k (by unfold onr; omega))
    have b3 : h3 26 2 = h 61 1 := by rw [F3 26 2 (by unfold onr; omega)]; exact eb
    have n3 : h3 61 0 = ((cuL h).length : Int) := by rw [F3 61 0 (by unfold onr; omega), cl]; exact e0
    have cm : ∀ x ∈ cuL h, 0 ≤ x ∧ x < h3 56 10 := fun x hx => by rw [m3]; exact cu_m hR hx
    obtain ⟨h4, e4, hI, hC⟩ := cplayL (b := h 61 1) R3 n3 A3 (by unfold scr; omega) cm
    have q3 : qL h3 (cuL h) = fun p k => h 58 (9 * (cuL h).getD p 0 + k) := by funext p k; unfold qL; rw [x58 h3 F3]
    have tot := total_e (h := h4) (u := fun _ => 0) hI.2.2.1 (by omega) (by omega) (hI.2.2.2.1 ((cuL h).length - 1) (by omega)).2 hI.2.2.2.2 (wq_L R3 cm) (wt_B R3) (fun _ => by omega)
    rw [q3, t3] at tot
    have tot : F_X6_total h4 = some (bVa (h 58) (h 59) (cuL h) (h 61 1), h4) := tot
    have F4 : Fr rsc h h4 := (F3.mono (fun _ _ => onr_r (Or.inl rfl))).trans (hI.1.mono (fun _ _ => scr_r))
    -- the reference
    have G : Fr rsc h (wr h4 56 0 0) := F4.trans (fun r k hr => by rw [wr_at, if_neg (fun z => hr (by unfold rsc; omega))])
    have Rg : RR (wr h4 56 0 0) := hR.fr G
    have g61 : (wr h4 56 0 0) 61 = h 61 := funext (fun k => G 61 k (by unfold rsc; omega))
    have g58 : (wr h4 56 0 0) 58 = h 58 := funext (fun k => G 58 k (by unfold rsc; omega))
    have g59 : (wr h4 56 0 0) 59 = h 59 := funext (fun k => G 59 k (by unfold rsc; omega))
    have g10 : (wr h4 56 0 0) 56 10 = h 56 10 := G 56 10 (by unfold rsc; omega)
    obtain ⟨a1, a2, f1, f2, Fa, Fb, Aa, n18, n19⟩ := msort Rg (n := n) (by rw [g61]; exact e0)
    rw [on_fr g61 g10] at Aa
    rw [g61] at n19
    have y58 : a2 58 = h 58 := (funext (fun k => (Fb 58 k (by unfold onr; omega)).trans (Fa 58 k (by unfold asc; omega)))).trans g58
    have y59 : a2 59 = h 59 := (funext (fun k => (Fb 59 k (by unfold onr; omega)).trans (Fa 59 k (by unfold asc; omega)))).trans g59
    have G2 : Fr rsc h a2 := (G.trans (Fa.mono (fun _ _ => asc_r))).trans (Fb.mono (fun _ _ => onr_r (Or.inr rfl)))
    obtain ⟨a3, f3, Fc, Ac⟩ := sortC_e (l := onL h) Aa (fun x hx => by have := row_b hR ((on_m hR).mp hx); omega) (by rw [ol]; exact n18) (by omega) (by omega) (fun p_33 (h_32 : Mem) => jn (fun (K_34 : Mem → Res) => if (1 < (h_32 56 18)) then (bd (F_X8_swaps (w32 ((h_32 56 18) - 1)) (w32 ((h_32 56 18) - 2)) h_32) (fun _ (h_36 : Mem) => K_34 h_36)) else (K_34 h_32)) (fun  (h_39 : Mem) => bd (F_X8_lays  h_39) (fun _ (h_41 : Mem) => bd (F_X8_nightOf 0 h_41) (fun r_43 (h_44 : Mem) => some (r_43, h_44)))))
    rw [y58] at Ac
    have c18 : a3 56 18 = (n : Int) := by rw [Fc 56 18 (by unfold onr; omega)]; exact n18
    obtain ⟨a4, Fd, Ad, k4⟩ : ∃ a4, Fr (onr 64) a3 a4 ∧ Ar a4 64 (cuL h) ∧ ∀ K : Mem → Res, (if (1 < (n : Int)) then (bd (F_X8_swaps (w32 ((n : Int) - 1)) (w32 ((n : Int) - 2)) a3) (fun _ (h_36 : Mem) => K h_36)) else (K a3)) = K a4 := by
      have len : (isort (ltS (h 58)) [] (onL h)).length = n := by rw [(isort_perm _ _).length_eq, List.nil_append]; exact ol
      by_cases c : 2 ≤ n
      · obtain ⟨A, y, x, eA⟩ := list2 (l := isort (ltS (h 58)) [] (onL h)) (by omega)
        have lA : A.length + 2 = n := by rw [← len, eA]; simp
        have A2' : Ar a3 64 (A ++ y :: x :: []) := by rw [← eA]; exact Ac
        have sw := ar_swap (n - 1) (by omega) A2'
        rw [show ((n - 1 : Nat) : Int) - 1 = (n : Int) - 2 by omega, show ((n - 1 : Nat) : Int) = (n : Int) - 1 by omega] at sw
        refine ⟨wr (wr a3 64 ((n : Int) - 1) (a3 64 ((n : Int) - 2))) 64 ((n : Int) - 2) (a3 64 ((n : Int) - 1)), fun r k hr => ?_, ?_, fun K => ?_⟩
        · rw [wr_o hr, wr_o hr]
        · unfold cuL
          rw [eA, swL_e]; exact sw
        · rw [if_pos (by omega), w32_s (z := (n : Int) - 1) (by omega) (by omega), w32_s (z := (n : Int) - 2) (by omega) (by omega)]
          refine (bd_of (swaps_e (by omega) (by omega))).trans ?_
          rfl
      · refine ⟨a3, Fr.rfl, ?_, fun K => by rw [if_neg (by omega)]⟩
        unfold cuL swL
        rw [if_neg (by omega)]; exact Ac
    have G4 : Fr rsc h a4 := (G2.trans (Fc.mono (fun _ _ => onr_r (Or.inr rfl)))).trans (Fd.mono (fun _ _ => onr_r (Or.inr rfl)))
    have R4 : RR a4 := hR.fr G4
    have z58 : a4 58 = h 58 := funext (fun k => G4 58 k (by unfold rsc; omega))
    have z59 : a4 59 = h 59 := funext (fun k => G4 59 k (by unfold rsc; omega))
    have z10 : a4 56 10 = h 56 10 := G4 56 10 (by unfold rsc; omega)
    have z18 : a4 56 18 = ((cuL h).length : Int) := by rw [Fd 56 18 (by unfold onr; omega), cl]; exact c18
    have z19 : a4 56 19 = h 61 1 := by rw [Fd 56 19 (by unfold onr; omega), Fc 56 19 (by unfold onr; omega)]; exact n19
    have cm4 : ∀ x ∈ cuL h, 0 ≤ x ∧ x < a4 56 10 := fun x hx => by rw [z10]; exact cu_m hR hx
    obtain ⟨a5, a6, f5, f6, F6⟩ := mly_L (wt_B R4) Ad z18 z19 (by omega) (by omega) (fun x hx => by have := cm4 x hx; omega) (wq_L R4 cm4)
    rw [z58, z59] at f6
    refine ⟨bVa (h 58) (h 59) (cuL h) (h 61 1), h4, a6, ?_, ?_, R4.fr F6⟩
    · unfold F_X7_custom
      rw [if_neg (by omega)]
      refine (bd_of e1).trans ?_
      refine (bd_of e2).trans ?_
      rw [i2, w32_s (z := (n : Int) - 1) (by omega) (by omega)]
      refine (nm_of rfl).trans ?_
      refine jn_of.trans ?_
      refine (k3 _).trans ?_
      rw [b3]
      refine (bd_of e4).trans ?_
      refine (bd_of tot).trans ?_
      rfl
    · unfold F_X8_custom
      refine (nm_of rfl).trans ?_
      rw [if_neg (by rw [g61]; omega)]
      refine (bd_of f1).trans ?_
      refine (bd_of f2).trans ?_
      refine f3.trans ?_
      refine jn_of.trans ?_
      rw [c18]
      refine (k4 _).trans ?_
      refine (bd_of f5).trans ?_
      refine (bd_of f6).trans ?_
      rfl
