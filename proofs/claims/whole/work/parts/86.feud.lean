/-! the parser: a feud, and all items -/
theorem ex_f {A B : Res} {P : Int → Mem → Mem → Mem → Prop} (e : A = B) (h : ∃ v c1 m1 m2, B = some (v, c1) ∧ P v c1 m1 m2) : ∃ v c1 m1 m2, A = some (v, c1) ∧ P v c1 m1 m2 := by rw [e]; exact h
section Feud
variable {t : Int → Int} {N : Nat} {c m : Mem} {q e : Nat} {d : Int} {n : Nat}
def mFeud (KM : Mem → Res) (m : Mem) : Res := bd (F_X8_readsFeud m) (fun _ (h_46 : Mem) => nm (α := Int) (if ((h_46 56 5) = 3) then 1 else 0) (fun v_49 => bd (F_X8_takes v_49 h_46) (fun _ (h_52 : Mem) => KM h_52)))
theorem mFeud_f {m1 m2 : Mem} (KM : Mem → Res) (h : F_X8_readsFeud m1 = some (0, m2)) (w : 0 ≤ m2 56 8) : mFeud KM m1 = KM m2 := by
  unfold mFeud
  rw [h, bd_s]
  refine (nm_of rfl).trans ?_
  rw [tk_f w, bd_s]
theorem ix8 {a : Int} (h : 0 ≤ a ∧ a ≤ 8) : w32 (w32 (9 * w32 (10 + a)) + 8) = 9 * (10 + a) + 8 := by
  rw [w32_s (z := 10 + a) (by omega) (by omega), w32_s (z := 9 * (10 + a)) (by omega) (by omega), w32_s (by omega) (by omega)]
theorem feud_r (T : TokR t N c m q e) (w : m 56 8 = -1) (h4 : c 2 2 = 10) (D : DR d c m n) (hd : d = 4 ∨ d = 15) (KM : Mem → Res) :
    ∃ v c' m1 m', F_X4_tellFeud d c = some (v, c') ∧ F_X8_takes 1 m = some (6, m1) ∧ m1 56 8 = -1 ∧ mFeud KM m1 = KM m' ∧ FCd d c c' ∧ FMd m m' ∧
      ((v = 1 ∧ m' 56 8 = -1 ∧ (∃ q' e', TokR t N c' m' q' e' ∧ q < q') ∧ DR d c' m' n) ∨ (v = 0 ∧ (0 ≤ m' 56 8 ∧ m' 56 8 ≤ 400) ∧ m' 56 8 = c' 2 3)) := by
  obtain ⟨d1, d2, d3, d4⟩ := D
  obtain ⟨c1, m1, q1, e1, a1, a2, a3, a4, T1, lq1⟩ := T.adv
  have lt := T.lt (by omega)
  have v7 : m 56 7 = 6 := by have k := T.k; unfold TKd at k; omega
  have tk : F_X8_takes 1 m = some (6, m1) := by rw [tk_1 (by omega) (by omega) a2, v7]
  have w1 : m1 56 8 = -1 := by rw [a4 56 8 (by omega)]; exact w
  have n1 : m1 56 11 = (n : Int) := by rw [a4 56 11 (by omega)]; exact d2
  have cd1 : c1 d 1 = (n : Int) := by rw [a3 d 1 (by omega)]; exact d1
  have wn : w32 ((n : Int) - 1) = (n : Int) - 1 := w32_s (by omega) (by omega)
  have tailf : ∀ (g : Mem) (x : Int), 0 ≤ g 56 8 → (jn (fun (K_4 : Int → Mem → Res) => jn (fun (K_5 : Mem → Res) => if ((g 56 5) = 2) then (bd (F_X8_in (g 56 7) 0 (w32 ((g 56 11) - 1)) g) (fun r_8 (h_9 : Mem) => if (¬ r_8 = 0) then (if (¬ (h_9 56 7) = x) then (K_4 1 h_9) else (K_5 h_9)) else (K_5 h_9))) else (K_5 g)) (fun (h_6 : Mem) => K_4 0 h_6)) (fun v_15 (h_14 : Mem) => bd (F_X8_takes v_15 h_14) (fun r_16 (h_17 : Mem) => bd (F_X8_isWell  h_17) (fun r_19 (h_20 : Mem) => if (¬ r_19 = 0) then (gd (0 ≤ (w32 ((w32 (9 * (w32 (10 + x)))) + 8)) ∧ (w32 ((w32 (9 * (w32 (10 + x)))) + 8)) < 180) (nm (wr h_20 58 (w32 ((w32 (9 * (w32 (10 + x)))) + 8)) (ior (h_20 58 (w32 ((w32 (9 * (w32 (10 + x)))) + 8))) (ishl 1 r_16))) (fun (h_25 : Mem) => gd (0 ≤ (w32 ((w32 (9 * (w32 (10 + r_16)))) + 8)) ∧ (w32 ((w32 (9 * (w32 (10 + r_16)))) + 8)) < 180) (nm (wr h_25 58 (w32 ((w32 (9 * (w32 (10 + r_16)))) + 8)) (ior (h_25 58 (w32 ((w32 (9 * (w32 (10 + r_16)))) + 8))) (ishl 1 x))) (fun (h_27 : Mem) => some (0, h_27)))))) else (some (0, h_20))))) : Res) = some (0, g) := by
    intro g x hg
    simp only [jn]
    rw [in_e, bd_s, tk_f hg, tk_f hg, bd_s, ill_e hg, bd_s, if_neg (show ¬ ¬ (0 : Int) = 0 from fun y => y rfl)]
    simp only [ite_self]
  have FC1 : ∀ c' : Mem, (∀ r k : Int, ¬ (r = 2 ∧ 2 ≤ k ∧ k ≤ 5) → ¬ ((d + 2 ≤ r ∧ r ≤ d + 10) ∧ k = 10) → c' r k = c1 r k) → FCd d c c' := fun c' hf r k x y z => by rw [hf r k x (by omega), a3 r k x]
  have FM1 : ∀ m' : Mem, (∀ r k : Int, ¬ (r = 56 ∧ 4 ≤ k ∧ k ≤ 8) → ¬ (r = 58 ∧ 90 ≤ k) → m' r k = m1 r k) → FMd m m' := fun m' hf r k x y => by rw [hf r k (by omega) y, a4 r k (by omega)]
  have head : F_X4_tellFeud d c = bd (F_X4_isNumber 0 ((n : Int) - 1) c1) (fun r_4 (h_5 : Mem) => if (¬ r_4 = 0) then (nm (h_5 2 4) (fun first_9 => bd (F_X4_advance  h_5) (fun _ (h_11 : Mem) => jn (fun (K_13 : Mem → Res) => bd (F_X4_isNumber 0 (w32 ((h_11 d 1) - 1)) h_11) (fun r_15 (h_16 : Mem) => if (¬ r_15 = 0) then (if ((h_16 2 4) = first_9) then (K_13 h_16) else (nm (h_16 2 4) (fun second_21 => bd (F_X4_advance  h_16) (fun _ (h_23 : Mem) => if (¬ (h_23 2 2) = 3) then (some (0, h_23)) else (bd (F_X2_fallOut d first_9 second_21 h_23) (fun _ (h_26 : Mem) => bd (F_X4_advance  h_26) (fun _ (h_29 : Mem) => some (1, h_29)))))))) else (K_13 h_16))) (fun (h_14 : Mem) => some (0, h_14))))) else (some (0, h_5))) := by
    unfold F_X4_tellFeud
    rw [if_neg (fun y => y h4)]
    refine (bd_of a1).trans ?_
    rw [cd1, wn]
  have rh : F_X8_readsFeud m1 = bd (F_X8_number 0 ((n : Int) - 1) m1) (fun r_1 (h_2 : Mem) => jn (fun (K_4 : Int → Mem → Res) => jn (fun (K_5 : Mem → Res) => if ((h_2 56 5) = 2) then (bd (F_X8_in (h_2 56 7) 0 (w32 ((h_2 56 11) - 1)) h_2) (fun r_8 (h_9 : Mem) => if (¬ r_8 = 0) then (if (¬ (h_9 56 7) = r_1) then (K_4 1 h_9) else (K_5 h_9)) else (K_5 h_9))) else (K_5 h_2)) (fun (h_6 : Mem) => K_4 0 h_6)) (fun v_15 (h_14 : Mem) => bd (F_X8_takes v_15 h_14) (fun r_16 (h_17 : Mem) => bd (F_X8_isWell  h_17) (fun r_19 (h_20 : Mem) => if (¬ r_19 = 0) then (gd (0 ≤ (w32 ((w32 (9 * (w32 (10 + r_1)))) + 8)) ∧ (w32 ((w32 (9 * (w32 (10 + r_1)))) + 8)) < 180) (nm (wr h_20 58 (w32 ((w32 (9 * (w32 (10 + r_1)))) + 8)) (ior (h_20 58 (w32 ((w32 (9 * (w32 (10 + r_1)))) + 8))) (ishl 1 r_16))) (fun (h_25 : Mem) => gd (0 ≤ (w32 ((w32 (9 * (w32 (10 + r_16)))) + 8)) ∧ (w32 ((w32 (9 * (w32 (10 + r_16)))) + 8)) < 180) (nm (wr h_25 58 (w32 ((w32 (9 * (w32 (10 + r_16)))) + 8)) (ior (h_25 58 (w32 ((w32 (9 * (w32 (10 + r_16)))) + 8))) (ishl 1 r_1))) (fun (h_27 : Mem) => some (0, h_27)))))) else (some (0, h_20)))))) := by
    unfold F_X8_readsFeud
    rw [n1, wn]
  rw [head, isNum_c, bd_s]
  by_cases p1 : c1 2 2 = 2 ∧ 0 ≤ c1 2 4 ∧ c1 2 4 ≤ (n : Int) - 1
  · rw [if_pos p1, if_pos (by omega)]
    obtain ⟨c2, m2, q2, e2, b1, b2, b3, b4, T2, lq2⟩ := T1.adv
    have lt1 := T1.lt (by omega)
    have w2 : m2 56 8 = -1 := by rw [b4 56 8 (by omega)]; exact w1
    have n2 : m2 56 11 = (n : Int) := by rw [b4 56 11 (by omega)]; exact n1
    have cd2 : c2 d 1 = (n : Int) := by rw [b3 d 1 (by omega)]; exact cd1
    have nu := nu_1 (by omega) T1 p1 b2
    generalize hA : c1 2 4 = A at *
    rw [nu, bd_s] at rh
    refine ex_f (nm_of rfl) ?_
    rw [b1, bd_s]
    simp only [jn]
    rw [cd2, wn, isNum_c, bd_s]
    have k2 := T2.k
    unfold TKd at k2
    by_cases p2 : (c2 2 2 = 2 ∧ 0 ≤ c2 2 4 ∧ c2 2 4 ≤ (n : Int) - 1) ∧ ¬ c2 2 4 = A
    · rw [if_pos p2.1, if_pos (by omega), if_neg p2.2]
      obtain ⟨c3, m3, q3, e3, g1, g2, g3, g4, T3, lq3⟩ := T2.adv
      have lt2 := T2.lt (by omega)
      have w3 : m3 56 8 = -1 := by rw [g4 56 8 (by omega)]; exact w2
      have m7 : m2 56 7 = c2 2 4 := by omega
      have tk2 : F_X8_takes 1 m2 = some (c2 2 4, m3) := by rw [tk_1 (by omega) (by omega) g2, m7]
      generalize hB : c2 2 4 = B at *
      have rf : F_X8_readsFeud m1 = some (0, wr (wr m3 58 (9 * (10 + A) + 8) (ior (m3 58 (9 * (10 + A) + 8)) (ishl 1 B))) 58 (9 * (10 + B) + 8) (ior ((wr m3 58 (9 * (10 + A) + 8) (ior (m3 58 (9 * (10 + A) + 8)) (ishl 1 B))) 58 (9 * (10 + B) + 8)) (ishl 1 A))) := by
        rw [rh]
        simp only [jn]
        rw [if_pos (show m2 56 5 = 2 by omega), in_e, bd_s, n2, wn, if_pos (show 0 ≤ m2 56 7 ∧ m2 56 7 ≤ (n : Int) - 1 by omega), if_pos (show ¬ (1 : Int) = 0 by omega), if_pos (show ¬ m2 56 7 = A by omega), tk2, bd_s, well_e (by omega), bd_s, if_pos (show ¬ (1 : Int) = 0 by omega), ix8 (a := A) (by omega), gd_t (by omega)]
        refine (nm_of rfl).trans ?_
        rw [ix8 (a := B) (by omega), gd_t (by omega)]
        rfl
      refine ex_f (nm_of rfl) ?_
      rw [g1, bd_s]
      have FMx : ∀ g : Mem, (∀ r k : Int, ¬ (r = 56 ∧ 4 ≤ k ∧ k ≤ 8) → ¬ (r = 58 ∧ 90 ≤ k) → g r k = m3 r k) → FMd m g := fun g hg => FM1 g (fun r k x y => by rw [hg r k x y, g4 r k (by omega), b4 r k (by omega)])
      have k3 := T3.k
      unfold TKd at k3
      by_cases sc : c3 2 2 = 3
      · rw [if_neg (fun y => y sc)]
        have fo : F_X2_fallOut d A B c3 = some (0, wr (wr c3 (d + 2 + A) 10 (ior (c3 (d + 2 + A) 10) (ishl 1 B))) (d + 2 + B) 10 (ior ((wr c3 (d + 2 + A) 10 (ior (c3 (d + 2 + A) 10) (ishl 1 B))) (d + 2 + B) 10) (ishl 1 A))) := by
          unfold F_X2_fallOut
          refine (gd_of (by omega)).trans ?_
          refine (nm_of rfl).trans ?_
          refine (gd_of (by omega)).trans ?_
          rfl
        rw [fo, bd_s]
        have nAB : ¬ d + 2 + B = d + 2 + A := by omega
        have cA : ∀ k : Int, c3 (d + 2 + A) k = c (d + 2 + A) k := fun k => by rw [g3 _ k (by omega), b3 _ k (by omega), a3 _ k (by omega)]
        have c3e : ∀ r k : Int, 4 ≤ r → c3 r k = c r k := fun r k x => by rw [g3 r k (by omega), b3 r k (by omega), a3 r k (by omega)]
        have m3e : ∀ k : Int, m3 58 k = m 58 k := fun k => by rw [g4 58 k (by omega), b4 58 k (by omega), a4 58 k (by omega)]
        rw [wr_k (by omega), m3e, m3e] at rf
        rw [wr_o nAB, c3e _ 10 (by omega), c3e _ 10 (by omega)]
        have T4 : TokR t N (wr (wr c3 (d + 2 + A) 10 (ior (c (d + 2 + A) 10) (ishl 1 B))) (d + 2 + B) 10 (ior (c (d + 2 + B) 10) (ishl 1 A))) (wr (wr m3 58 (9 * (10 + A) + 8) (ior (m 58 (9 * (10 + A) + 8)) (ishl 1 B))) 58 (9 * (10 + B) + 8) (ior (m 58 (9 * (10 + B) + 8)) (ishl 1 A))) q3 e3 := T3.fr (fun r k x => by rw [wr_o (by omega), wr_o (by omega)]) (fun r k x => by rw [wr_o (by omega), wr_o (by omega)])
        obtain ⟨c5, m5, q5, e5, u1, u2, u3, u4, T5, lq5⟩ := T4.adv
        have lt3 := T3.lt (by omega)
        have ma : mFeud KM m1 = KM m5 := by
          unfold mFeud
          rw [rf, bd_s]
          refine (nm_of rfl).trans ?_
          rw [if_pos (by rw [wr_o (by omega), wr_o (by omega)]; omega), tk_1 (by rw [wr_o (by omega), wr_o (by omega)]; omega) (by omega) u2, bd_s]
        refine ⟨1, c5, m1, m5, ?_, tk, w1, ma, FC1 c5 (fun r k x y => ?_), FMx m5 (fun r k x y => ?_), Or.inl ⟨rfl, ?_, ⟨q5, e5, T5, by omega⟩, ?_, ?_, d3, fun i hi => ?_⟩⟩
        · rw [u1, bd_s]
        · rw [u3 r k x, wr_at, if_neg (by omega), wr_at, if_neg (by omega), g3 r k x, b3 r k x]
        · rw [u4 r k (by omega), wr_at, if_neg (by omega), wr_at, if_neg (by omega)]
        · rw [u4 56 8 (by omega), wr_o (by omega), wr_o (by omega)]; exact w3
        · rw [u3 d 1 (by omega), wr_o (by omega), wr_o (by omega), c3e d 1 (by omega)]; exact d1
        · rw [u4 56 11 (by omega), wr_o (by omega), wr_o (by omega), g4 56 11 (by omega)]; exact n2
        · have ci : ∀ k : Int, ¬ k = 10 → c5 (d + 2 + (i : Int)) k = c (d + 2 + (i : Int)) k := fun k z => by rw [u3 _ k (by omega), wr_at, if_neg (by omega), wr_at, if_neg (by omega), c3e _ k (by omega)]
          have mi : ∀ k : Int, 0 ≤ k → k < 8 → m5 58 (9 * (10 + (i : Int)) + k) = m 58 (9 * (10 + (i : Int)) + k) := fun k z z' => by rw [u4 58 _ (by omega), wr_k (by omega), wr_k (by omega), m3e]
          have mi0 : m5 58 (9 * (10 + (i : Int))) = m 58 (9 * (10 + (i : Int))) := by rw [u4 58 _ (by omega), wr_k (by omega), wr_k (by omega), m3e]
          have o := d4 i hi
          have fe : c5 (d + 2 + (i : Int)) 10 = m5 58 (9 * (10 + (i : Int)) + 8) ∧ 0 ≤ m5 58 (9 * (10 + (i : Int)) + 8) ∧ m5 58 (9 * (10 + (i : Int)) + 8) < 512 := by
            have x10 := o.1.2.2.2.2.2.2.2.2
            have xw := o.2.1.2.2.2.2.2.2.2.2
            obtain ⟨An, hAn⟩ : ∃ An : Nat, A = (An : Int) := ⟨A.toNat, by omega⟩
            obtain ⟨Bn, hBn⟩ : ∃ Bn : Nat, B = (Bn : Int) := ⟨B.toNat, by omega⟩
            by_cases zB : (i : Int) = B
            · have e1 : c5 (d + 2 + (i : Int)) 10 = ior (c (d + 2 + B) 10) (ishl 1 A) := by rw [u3 _ 10 (by omega), zB, wr_s]
              have e2 : m5 58 (9 * (10 + (i : Int)) + 8) = ior (m 58 (9 * (10 + B) + 8)) (ishl 1 A) := by rw [u4 58 _ (by omega), zB, wr_s]
              rw [e1, e2, ← zB, x10, hAn]
              exact ⟨rfl, ior_b (n := 9) xw.1 (by have : (2 : Int) ^ 9 = 512 := by decide
                                                  rw [this]; exact xw.2) (by omega) (by omega)⟩
            · by_cases zA : (i : Int) = A
              · have e1 : c5 (d + 2 + (i : Int)) 10 = ior (c (d + 2 + A) 10) (ishl 1 B) := by rw [u3 _ 10 (by omega), wr_o (by omega), zA, wr_s]
                have e2 : m5 58 (9 * (10 + (i : Int)) + 8) = ior (m 58 (9 * (10 + A) + 8)) (ishl 1 B) := by rw [u4 58 _ (by omega), wr_k (by omega), zA, wr_s]
                rw [e1, e2, ← zA, x10, hBn]
                exact ⟨rfl, ior_b (n := 9) xw.1 (by have : (2 : Int) ^ 9 = 512 := by decide
                                                    rw [this]; exact xw.2) (by omega) (by omega)⟩
              · have e1 : c5 (d + 2 + (i : Int)) 10 = c (d + 2 + (i : Int)) 10 := by rw [u3 _ 10 (by omega), wr_o (by omega), wr_o (by omega), c3e _ 10 (by omega)]
                have e2 : m5 58 (9 * (10 + (i : Int)) + 8) = m 58 (9 * (10 + (i : Int)) + 8) := by rw [u4 58 _ (by omega), wr_k (by omega), wr_k (by omega), m3e]
                rw [e1, e2]; exact ⟨x10, xw⟩
          refine ⟨?_, ?_, by rw [ci 9 (by omega)]; exact o.2.2⟩
          · have x := o.1
            unfold CAct at x ⊢
            rw [ci 1 (by omega), ci 2 (by omega), ci 3 (by omega), ci 4 (by omega), ci 5 (by omega), ci 6 (by omega), ci 7 (by omega), ci 8 (by omega), mi 1 (by omega) (by omega), mi 2 (by omega) (by omega), mi 3 (by omega) (by omega), mi 4 (by omega) (by omega), mi 5 (by omega) (by omega), mi 6 (by omega) (by omega), mi 7 (by omega) (by omega), mi0]
            exact ⟨x.1, x.2.1, x.2.2.1, x.2.2.2.1, x.2.2.2.2.1, x.2.2.2.2.2.1, x.2.2.2.2.2.2.1, x.2.2.2.2.2.2.2.1, fe.1⟩
          · have x := o.2.1
            unfold WAct at x ⊢
            rw [mi 1 (by omega) (by omega), mi 2 (by omega) (by omega), mi 3 (by omega) (by omega), mi 4 (by omega) (by omega), mi 5 (by omega) (by omega), mi 6 (by omega) (by omega), mi 7 (by omega) (by omega), mi0]
            exact ⟨x.1, x.2.1, x.2.2.1, x.2.2.2.1, x.2.2.2.2.1, x.2.2.2.2.2.1, x.2.2.2.2.2.2.1, x.2.2.2.2.2.2.2.1, fe.2⟩
      · rw [if_pos sc]
        have q3e := T3.2.2.2.2.2.2.1
        have p3e := T3.2.2.2.2.2.2.2.1
        generalize hX : ior (m3 58 (9 * (10 + A) + 8)) (ishl 1 B) = X at *
        generalize hY : ior ((wr m3 58 (9 * (10 + A) + 8) X) 58 (9 * (10 + B) + 8)) (ishl 1 A) = Y at *
        have ma : mFeud KM m1 = KM (wr (wr (wr m3 58 (9 * (10 + A) + 8) X) 58 (9 * (10 + B) + 8) Y) 56 8 (q3 : Int)) := by
          unfold mFeud
          rw [rf, bd_s]
          refine (nm_of rfl).trans ?_
          rw [if_neg (by rw [wr_o (by omega), wr_o (by omega)]; omega), tk_0 (by rw [wr_o (by omega), wr_o (by omega)]; omega), bd_s, wr_o (r' := 56) (k' := 6) (by omega), wr_o (r' := 56) (k' := 6) (by omega), p3e]
        exact ⟨0, c3, m1, _, rfl, tk, w1, ma, FC1 c3 (fun r k x y => by rw [g3 r k x, b3 r k x]), FMx _ (fun r k x y => by rw [wr_at, if_neg (by omega), wr_at, if_neg (by omega), wr_at, if_neg (by omega)]), Or.inr ⟨rfl, by rw [wr_s]; have := T3.2.2.2.2.1; have := T3.2.2.2.2.2.2.2.2.2.2.1; have := T3.2.2.2.2.2.2.2.2.2.2.2.1; omega, by rw [wr_s, q3e]⟩⟩
    · have q2e := T2.2.2.2.2.2.2.1
      have p2e := T2.2.2.2.2.2.2.2.1
      have rf : F_X8_readsFeud m1 = some (0, wr m2 56 8 (q2 : Int)) := by
        rw [rh]
        simp only [jn]
        have t0 := tk_0 (m := m2) (by omega)
        rw [p2e] at t0
        rw [in_e, bd_s, t0, bd_s, ill_e (m := wr m2 56 8 (q2 : Int)) (by rw [wr_s]; omega), bd_s, if_neg (show ¬ ¬ (0 : Int) = 0 from fun y => y rfl), n2, wn]
        by_cases u5 : m2 56 5 = 2
        · rw [if_pos u5]
          by_cases u6 : 0 ≤ m2 56 7 ∧ m2 56 7 ≤ (n : Int) - 1
          · rw [if_pos u6, if_pos (show ¬ (1 : Int) = 0 by omega), if_neg (show ¬ ¬ m2 56 7 = A from fun y => p2 ⟨by omega, by omega⟩)]
          · rw [if_neg u6, if_neg (show ¬ ¬ (0 : Int) = 0 from fun y => y rfl)]
        · rw [if_neg u5]
      have cls : (if (¬ (if c2 2 2 = 2 ∧ 0 ≤ c2 2 4 ∧ c2 2 4 ≤ (n : Int) - 1 then (1 : Int) else 0) = 0) then (if (c2 2 4 = A) then (some (0, c2) : Res) else (nm (c2 2 4) (fun second_21 => bd (F_X4_advance  c2) (fun _ (h_23 : Mem) => if (¬ (h_23 2 2) = 3) then (some (0, h_23)) else (bd (F_X2_fallOut d A second_21 h_23) (fun _ (h_26 : Mem) => bd (F_X4_advance  h_26) (fun _ (h_29 : Mem) => some (1, h_29)))))))) else (some (0, c2))) = some (0, c2) := by
        by_cases u1 : c2 2 2 = 2 ∧ 0 ≤ c2 2 4 ∧ c2 2 4 ≤ (n : Int) - 1
        · rw [if_pos u1, if_pos (by omega), if_pos (by
            by_cases u2 : c2 2 4 = A
            · exact u2
            · exact absurd ⟨u1, u2⟩ p2)]
        · rw [if_neg u1, if_neg (show ¬ ¬ (0 : Int) = 0 from fun y => y rfl)]
      refine ex_f cls ?_
      exact ⟨0, c2, m1, wr m2 56 8 (q2 : Int), rfl, tk, w1, mFeud_f KM rf (by rw [wr_s]; omega), FC1 c2 (fun r k x y => b3 r k x), FM1 _ (fun r k x y => by rw [wr_at, if_neg (by omega), b4 r k (by omega)]), Or.inr ⟨rfl, by rw [wr_s]; have := T2.2.2.2.2.1; have := T2.2.2.2.2.2.2.2.2.2.2.1; have := T2.2.2.2.2.2.2.2.2.2.2.2.1; omega, by rw [wr_s, q2e]⟩⟩
  · rw [if_neg p1, if_neg (show ¬ ¬ (0 : Int) = 0 from fun y => y rfl)]
    have nu := nu_0 (by omega) T1 p1
    have q1e := T1.2.2.2.2.2.2.1
    rw [nu, bd_s, tailf _ _ (by rw [wr_s]; omega)] at rh
    exact ⟨0, c1, m1, wr m1 56 8 (q1 : Int), rfl, tk, w1, mFeud_f KM rh (by rw [wr_s]; omega), FC1 c1 (fun _ _ _ _ => rfl), FM1 _ (fun r k x y => by rw [wr_at, if_neg (by omega)]), Or.inr ⟨rfl, by rw [wr_s]; have := T1.2.2.2.2.1; have := T1.2.2.2.2.2.2.2.2.2.2.1; have := T1.2.2.2.2.2.2.2.2.2.2.2.1; omega, by rw [wr_s, q1e]⟩⟩
end Feud
