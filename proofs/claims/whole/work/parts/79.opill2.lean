/-! ill agrees: the call -/
theorem op_ill (i what : Int) : OP (F_X7_ill i what) (F_X8_ill i what) := by
  intro h hR
  obtain ⟨n, e0, e9, e26, eb⟩ := n_B hR
  have w9 := wac_n hR
  have p7 : F_X1_placeOf 26 i h = some (pOf (mB h) i n 0, h) := pof7_e e26 e9 (fun p hp => (mB_b hR e0 hp).2.2.2)
  have p8 : ∀ g : Mem, (∀ k, g 61 k = h 61 k) → F_X8_placeOf i g = some (pOf (mB h) i n 0, g) := fun g hg => pof8_e (by rw [hg]; exact e0) e9 (fun p hp => by rw [hg]; unfold mB; rw [if_pos (by omega)])
  have ps := pof_s (r := mB h) (i := i) n 0
  by_cases v : ((0 ≤ i ∧ i < h 56 10) ∧ ∃ out : Nat, out < n ∧ mB h out = i ∧ pOf (mB h) i n 0 = (out : Int)) ∧ 0 ≤ what ∧ what ≤ 2
  · obtain ⟨⟨va, out, ho, hi, hp⟩, vw⟩ := v
    by_cases z : 2 ≤ n ∧ n ≤ 7
    · obtain ⟨h1, e1, F1, m, t, o, p, s1⟩ := cill hR e0 ho hi z.1 z.2
      have ll := (lin_cl hR e0 ho hi)
      have wb := hR.2.2.2.2.2.2.2.1.2.2.2.1
      have wb3 : 0 ≤ h 61 1 := wb.2.2.1
      have wb4 : h 61 1 < h 61 0 ∨ h 61 1 = 0 := wb.2.2.2.1
      have hS : (linL (rowL h 61 0) i (h 56 10).toNat).Pairwise (fun a b => a < b) := linL_p _ _ _
      have hm' : ∀ x ∈ linL (rowL h 61 0) i (h 56 10).toNat, 0 ≤ x ∧ x < h 56 10 := fun x hx => row_b hR (linL_m.mp hx).2.2
      generalize hSS : linL (rowL h 61 0) i (h 56 10).toNat = S at *
      -- the reference
      have G : Fr rsc h (wr h1 56 0 0) := F1.trans (fun r k hr => by rw [wr_at, if_neg (fun z => hr (by unfold rsc; omega))])
      have Rg : RR (wr h1 56 0 0) := hR.fr G
      have g61 : (wr h1 56 0 0) 61 = h 61 := funext (fun k => G 61 k (by unfold rsc; omega))
      have g59 : (wr h1 56 0 0) 59 = h 59 := funext (fun k => G 59 k (by unfold rsc; omega))
      have g10 : (wr h1 56 0 0) 56 10 = h 56 10 := G 56 10 (by unfold rsc; omega)
      have gA' : A58 (wr h1 56 0 0) = A58 h := by funext k; unfold A58; rw [G 58 k (by unfold rsc; omega)]
      obtain ⟨a1, f1, Fa, a18, a19, a64⟩ := asB_e (h := wr h1 56 0 0) (n := n) (by rw [g61]; exact e0) e9
      rw [g61] at a19
      have Ga : Fr rsc h a1 := G.trans (Fa.mono (fun _ _ => asc_r))
      have m18 : w32 (a1 56 18 - 1) = ((n - 1 : Nat) : Int) := by rw [a18, w32_s (by omega) (by omega)]; omega
      have n61 : (wr a1 56 18 ((n - 1 : Nat) : Int)) 61 = h 61 := funext (fun k => by rw [wr_o (by omega)]; exact Ga 61 k (by unfold rsc; omega))
      obtain ⟨a2, f2, F2, I2⟩ := ill1 (g := wr a1 56 18 ((n - 1 : Nat) : Int)) (n := n) (out := out) (i := i) (what := what) (by rw [n61]; exact e0) e9 wr_s ho (fun p_41 (h_40 : Mem) => nm (α := Int) (if ((out : Int) < (h_40 56 19)) then 1 else 0) (fun v_42 => nm (wr h_40 56 19 (w32 ((h_40 56 19) - v_42))) (fun (h_44 : Mem) => nm (α := Int) (if ((h_44 56 18) ≤ (h_44 56 19)) then 0 else (h_44 56 19)) (fun v_45 => nm (wr h_44 56 19 v_45) (fun (h_47 : Mem) => bd (F_X8_sortsRow  h_47) (fun _ (h_49 : Mem) => nm (wr h_49 56 37 (-9)) (fun (h_51 : Mem) => L_X8_ill_2 i what (out : Int) (fun more_87 (h_86 : Mem) => if (((h_86 56 37) = (-9)) ∨ (what = 0)) then (some (h_86 56 37, h_86)) else (if (what = 1) then (some (h_86 56 35, h_86)) else (some (h_86 56 34, h_86)))) FU 1 h_51)))))))
      have mwe : ∀ p, p < n - 1 → mW (wr a1 56 18 ((n - 1 : Nat) : Int)) out p = mW h out p := fun p hp => by
        unfold mW mB
        rw [n61]
        by_cases c : p < out
        · rw [if_pos c, if_pos c, if_pos (by omega), if_pos (by omega)]
        · rw [if_neg c, if_neg c, if_pos (by omega), if_pos (by omega)]
      have a2_18 : a2 56 18 = ((n - 1 : Nat) : Int) := by rw [F2 56 18 (by omega), wr_s]
      have a2_19 : a2 56 19 = h 61 1 := by rw [F2 56 19 (by omega), wr_k (by omega)]; exact a19
      have G2 : Fr rsc h a2 := fun r k q => by
        have q' := q
        unfold rsc at q
        rw [F2 r k (by omega), wr_at, if_neg (by omega)]; exact Ga r k q'
      -- the break
      have G3 : Fr rsc h (wr (wr a2 56 19 (if (out : Int) < h 61 1 then h 61 1 - 1 else h 61 1)) 56 19 (bW (h 61 1) n out)) := fun r k q => by
        rw [wr_at, if_neg (fun z => q (by unfold rsc; omega)), wr_at, if_neg (fun z => q (by unfold rsc; omega))]; exact G2 r k q
      have A3 : Ar (wr (wr a2 56 19 (if (out : Int) < h 61 1 then h 61 1 - 1 else h 61 1)) 56 19 (bW (h 61 1) n out)) 64 (clL h n out) := Ar.of (fun p hp => by
        rw [clL_l] at hp
        rw [wr_o (by omega), wr_o (by omega), (I2 p hp).1, mwe p hp, clL_at hp])
      obtain ⟨a3, f3, F3, A3'⟩ := sortsRow_e A3 (by rw [wr_k (by omega), wr_k (by omega), clL_l]; exact a2_18) (by rw [clL_l]; omega)
      rw [ll.1] at A3'
      have SL := ll.2
      have G4 : Fr rsc h (wr a3 56 37 (-9)) := fun r k q => by
        rw [wr_at, if_neg (fun z => q (by unfold rsc; omega)), F3 r k (fun z => q (onr_r (Or.inr rfl) z))]; exact G3 r k q
      obtain ⟨⟨M, hM⟩, _, ch⟩ := perms_ch S.length S rfl hS
      have pl : (perms S.length S).length ≤ 5040 := by rw [perms_len _ _ rfl]; exact fct_b _ (by omega)
      have Fgg : Fr rsc (wr h1 56 0 0) (wr a3 56 37 (-9)) := fun r k q => (G4 r k q).trans (G r k q).symm
      have m64 : ∀ p : Nat, p < S.length → (wr a3 56 37 (-9)) 74 p = mW h out p ∧ 0 ≤ mW h out p := fun p hp => by
        rw [wr_o (by omega), F3 74 p (by unfold onr; omega), wr_o (by omega), wr_o (by omega), (I2 p (by omega)).2, mwe p (by omega)]
        refine ⟨rfl, ?_⟩
        unfold mW
        by_cases c : p < out
        · rw [if_pos c]; exact (mB_b hR e0 (show p < n by omega)).1
        · rw [if_neg c]; exact (mB_b hR e0 (show p + 1 < n by omega)).1
      obtain ⟨a4, f4, F4, r4⟩ := mill2 (g := wr h1 56 0 0) (S := S) (hm := mW h out) (b := bW (h 61 1) n out) (i := i) (what := what) (at0 := (out : Int)) Rg (by omega) hS (fun x hx => by rw [g10]; exact hm' x hx) (fun more_87 (h_86 : Mem) => if (((h_86 56 37) = (-9)) ∨ (what = 0)) then (some (h_86 56 37, h_86)) else (if (what = 1) then (some (h_86 56 35, h_86)) else (some (h_86 56 34, h_86)))) M S [] (0, m, t, o, p) (wr a3 56 37 (-9)) FU (by rw [hM]; rfl) (by rw [← hM]; exact ch) (by rw [hM] at pl; simp at pl; unfold FU; omega) ⟨Fgg, A3'.fr (fun k => by rw [wr_o (by omega)]), by rw [wr_k (by omega), F3 56 18 (by unfold onr; omega), wr_k (by omega), wr_k (by omega), a2_18, SL], by rw [wr_k (by omega), F3 56 19 (by unfold onr; omega), wr_s], m64⟩ ⟨Int.le_refl _, Or.inl ⟨rfl, wr_s⟩⟩
      rw [gA', g59, ← hM, SL, ← s1] at r4
      have rr := r4.2
      have rr : (h1 48 3 = 0 ∧ a4 56 37 = -9) ∨ (¬ h1 48 3 = 0 ∧ h1 48 4 = a4 56 37 ∧ 0 ≤ a4 56 37 ∧ h1 48 5 = a4 56 34 ∧ h1 48 6 = a4 56 35 ∧ ∃ l0 ∈ perms (n - 1) S, fgs 0 l0 = a4 56 35) := rr
      refine ⟨if a4 56 37 = -9 ∨ what = 0 then a4 56 37 else if what = 1 then a4 56 35 else a4 56 34, h1, a4, ?_, ?_, Rg.fr F4⟩
      · unfold F_X7_ill
        refine jn_of.trans ?_
        refine (bd_of (isAct7_e hR)).trans ?_
        rw [if_pos va, if_pos (by omega)]
        refine (bd_of p7).trans ?_
        rw [hp]
        dsimp only
        rw [if_neg (by omega), if_neg (by omega)]
        refine (bd_of e1).trans ?_
        rcases rr with ⟨q1, q2⟩ | ⟨q1, q2, q3, q4, q5, _⟩
        · rw [if_pos q1, if_pos (Or.inl q2), q2]
        · rw [if_neg q1, q2, q4, q5]
          by_cases c0 : what = 0
          · rw [if_pos c0, if_pos (Or.inr c0)]
          · have c9 : ¬ (a4 56 37 = -9 ∨ what = 0) := fun z => z.elim (fun y => by omega) c0
            rw [if_neg c0, if_neg c9]
            by_cases c1 : what = 1
            · rw [if_pos c1, if_pos c1]
            · rw [if_neg c1, if_neg c1]
      · unfold F_X8_ill
        refine (nm_of rfl).trans ?_
        refine jn_of.trans ?_
        refine (bd_of (isAct8_e (by rw [g10]; omega) (by rw [g10]; omega))).trans ?_
        rw [g10, if_pos va, if_pos (by omega)]
        refine (bd_of (p8 _ (fun k => by rw [g61]))).trans ?_
        rw [hp]
        refine jn_of.trans ?_
        rw [if_neg (by omega)]
        refine (bd_of (in_t vw.1 vw.2)).trans ?_
        rw [if_pos (by omega), g61, e0]
        refine (bd_of (in_t (by omega) (by omega))).trans ?_
        rw [if_pos (by omega)]
        refine (bd_of f1).trans ?_
        rw [m18]
        refine (nm_of rfl).trans ?_
        refine f2.trans ?_
        rw [a2_19]
        refine (nm_of rfl).trans ?_
        refine (nm_of (e' := wr a2 56 19 (if (out : Int) < h 61 1 then h 61 1 - 1 else h 61 1)) (by
          by_cases c : (out : Int) < h 61 1
          · rw [if_pos c, if_pos c, w32_s (by omega) (by omega)]
          · rw [if_neg c, if_neg c, Int.sub_zero, w32_s (by omega) (by omega)])).trans ?_
        rw [wr_k (by omega), a2_18, wr_s]
        refine (nm_of (e' := bW (h 61 1) n out) (by
          unfold bW
          generalize (if (out : Int) < h 61 1 then h 61 1 - 1 else h 61 1) = u
          by_cases c : u < (n : Int) - 1
          · rw [if_pos c, if_neg (by omega)]
          · rw [if_neg c, if_pos (by omega)])).trans ?_
        refine (nm_of rfl).trans ?_
        refine (bd_of f3).trans ?_
        refine (nm_of rfl).trans ?_
        refine f4.trans ?_
        by_cases c : a4 56 37 = -9 ∨ what = 0
        · rw [if_pos c, if_pos c]
        · rw [if_neg c, if_neg c]
          by_cases c1 : what = 1
          · rw [if_pos c1, if_pos c1]
          · rw [if_neg c1, if_neg c1]
    · refine ⟨-2, h, wr h 56 0 0, ?_, ?_, hR.g0 Fr.rfl⟩
      · unfold F_X7_ill
        refine jn_of.trans ?_
        refine (bd_of (isAct7_e hR)).trans ?_
        rw [if_pos va, if_pos (by omega)]
        refine (bd_of p7).trans ?_
        rw [hp]
        dsimp only
        rw [if_neg (by omega), if_pos (by omega)]
      · unfold F_X8_ill
        refine (nm_of rfl).trans ?_
        refine jn_of.trans ?_
        refine (bd_of (isAct8_g hR)).trans ?_
        rw [if_pos va, if_pos (by omega)]
        refine (bd_of (p8 _ (fun k => wr_o (by omega)))).trans ?_
        rw [hp]
        refine jn_of.trans ?_
        rw [if_neg (by omega)]
        refine (bd_of (in_t vw.1 vw.2)).trans ?_
        rw [if_pos (by omega), wr_o (by omega), e0]
        refine (bd_of (in_f (by omega))).trans ?_
        rw [if_neg (by omega)]
  · refine ⟨-1, h, wr h 56 0 0, ?_, ?_, hR.g0 Fr.rfl⟩
    · unfold F_X7_ill
      refine jn_of.trans ?_
      refine (bd_of (isAct7_e hR)).trans ?_
      by_cases va : 0 ≤ i ∧ i < h 56 10
      · rw [if_pos va, if_pos (by omega)]
        refine (bd_of p7).trans ?_
        rcases ps with ⟨q1, q2⟩ | ⟨j, q1, q2, q3, q4, q5⟩
        · rw [q1]
          exact if_pos (by omega)
        · rw [q4]
          have : ¬ (0 ≤ what ∧ what ≤ 2) := fun w => v ⟨⟨va, j, by omega, q3, q4⟩, w⟩
          exact if_pos (by omega)
      · rw [if_neg va, if_neg (by omega)]
        exact if_pos (by omega)
    · unfold F_X8_ill
      refine (nm_of rfl).trans ?_
      refine jn_of.trans ?_
      refine (bd_of (isAct8_g hR)).trans ?_
      by_cases va : 0 ≤ i ∧ i < h 56 10
      · rw [if_pos va, if_pos (by omega)]
        refine (bd_of (p8 _ (fun k => wr_o (by omega)))).trans ?_
        refine jn_of.trans ?_
        rcases ps with ⟨q1, q2⟩ | ⟨j, q1, q2, q3, q4, q5⟩
        · rw [q1, if_pos rfl]
        · rw [q4, if_neg (by omega)]
          have : ¬ (0 ≤ what ∧ what ≤ 2) := fun w => v ⟨⟨va, j, by omega, q3, q4⟩, w⟩
          refine (bd_of (in_f this)).trans ?_
          rw [if_neg (by omega)]
      · rw [if_neg va, if_neg (by omega)]
        refine jn_of.trans ?_
        rw [if_pos rfl]
