/-! the parser: all items -/
theorem FCd.trans {d : Int} {a b c : Mem} (h1 : FCd d a b) (h2 : FCd d b c) : FCd d a c := fun r k x y z => (h2 r k x y z).trans (h1 r k x y z)
theorem FMd.trans {a b c : Mem} (h1 : FMd a b) (h2 : FMd b c) : FMd a c := fun r k x y => (h2 r k x y).trans (h1 r k x y)
section Tell
variable {t : Int → Int} {N : Nat} {d : Int}
theorem tell_r (hd : d = 4 ∨ d = 15) (KM : Int → Mem → Res) : ∀ (g : Nat) (c m : Mem) (q e n items f : Nat), N - q ≤ g → g + 1 < f → TokR t N c m q e → m 56 8 = -1 → DR d c m n → items ≤ q →
    ∃ r c' m' its, L_X4_tell_1 d (fun items_29 (h_28 : Mem) => some (items_29, h_28)) f (items : Int) c = some (r, c') ∧ L_X8_acts_1 KM f (items : Int) m = KM its m' ∧ FCd d c c' ∧ FMd m m' ∧ ((r = its ∧ 0 ≤ r ∧ m' 56 8 = -1 ∧ ∃ n', DR d c' m' n') ∨ (0 ≤ m' 56 8 ∧ m' 56 8 ≤ 400 ∧ r = -10 - m' 56 8)) := by
  intro g
  induction g with
  | zero =>
    intro c m q e n items f hg hf T w D hi
    obtain ⟨f, rfl⟩ : ∃ g, f = g + 1 := ⟨f - 1, by omega⟩
    have z : c 2 2 = 0 := by
      by_cases z : c 2 2 = 0
      · exact z
      · have := T.lt z; omega
    have k := T.k
    unfold TKd at k
    refine ⟨items, c, m, items, ?_, ?_, fun _ _ _ _ _ => rfl, fun _ _ _ _ => rfl, Or.inl ⟨rfl, by omega, w, n, D⟩⟩
    · rw [L_X4_tell_1, if_neg (by omega)]
    · rw [L_X8_acts_1]
      refine jn_of.trans ?_
      rw [well_e (by omega), bd_s, if_pos (show ¬ (1 : Int) = 0 by omega), if_neg (by omega)]
  | succ g ih =>
    intro c m q e n items f hg hf T w D hi
    obtain ⟨f, rfl⟩ : ∃ g, f = g + 1 := ⟨f - 1, by omega⟩
    have k := T.k
    unfold TKd at k
    have N4 := T.2.2.2.2.1
    have pq := T.2.2.2.2.2.2.1
    by_cases z : c 2 2 = 0
    · refine ⟨items, c, m, items, ?_, ?_, fun _ _ _ _ _ => rfl, fun _ _ _ _ => rfl, Or.inl ⟨rfl, by omega, w, n, D⟩⟩
      · rw [L_X4_tell_1, if_neg (by omega)]
      · rw [L_X8_acts_1]
        refine jn_of.trans ?_
        rw [well_e (by omega), bd_s, if_pos (show ¬ (1 : Int) = 0 by omega), if_neg (by omega)]
    · have lt := T.lt z
      have dn := D.1
      have mn := D.2.1
      have n9 := D.2.2.1
      -- the class's step, the reference's step
      have fin : ∀ (v : Int) (c' m' : Mem), FCd d c c' → FMd m m' → ((v = 1 ∧ m' 56 8 = -1 ∧ (∃ q' e', TokR t N c' m' q' e' ∧ q < q') ∧ ∃ n', DR d c' m' n') ∨ (v = 0 ∧ 0 ≤ m' 56 8 ∧ m' 56 8 ≤ 400 ∧ m' 56 8 = c' 2 3)) →
          ∃ r c'' m'' its, (if (¬ (¬ v = 0)) then (some (w32 ((-10) - (c' 2 3)), c')) else (nm (w32 ((items : Int) + 1)) (fun items_23 => L_X4_tell_1 d (fun items_29 (h_28 : Mem) => some (items_29, h_28)) f items_23 c')) : Res) = some (r, c'') ∧ (nm (w32 ((items : Int) + 1)) (fun items_54 => L_X8_acts_1 KM f items_54 m') : Res) = KM its m'' ∧ FCd d c c'' ∧ FMd m m'' ∧ ((r = its ∧ 0 ≤ r ∧ m'' 56 8 = -1 ∧ ∃ n', DR d c'' m'' n') ∨ (0 ≤ m'' 56 8 ∧ m'' 56 8 ≤ 400 ∧ r = -10 - m'' 56 8)) := by
        intro v c' m' fc fm hr
        rcases hr with ⟨v1, w1, ⟨q', e', T', lq⟩, n', D'⟩ | ⟨v0, w1, w2, w3⟩
        · obtain ⟨r, c'', m'', its, x1, x2, x3, x4, x5⟩ := ih c' m' q' e' n' (items + 1) f (by omega) (by omega) T' w1 D' (by omega)
          refine ⟨r, c'', m'', its, ?_, ?_, fc.trans x3, fm.trans x4, x5⟩
          · rw [v1, if_neg (by omega)]
            refine (nm_of (w32_n (by omega))).trans ?_
            exact x1
          · refine (nm_of (w32_n (by omega))).trans ?_
            exact x2
        · obtain ⟨f, rfl⟩ : ∃ g, f = g + 1 := ⟨f - 1, by omega⟩
          refine ⟨-10 - m' 56 8, c', m', ((items + 1 : Nat) : Int), ?_, ?_, fc, fm, Or.inr ⟨w1, w2, rfl⟩⟩
          · rw [v0, if_pos (by omega), ← w3, w32_s (by omega) (by omega)]
          · refine (nm_of (w32_n (by omega))).trans ?_
            rw [L_X8_acts_1]
            refine jn_of.trans ?_
            rw [ill_e w1, bd_s, if_neg (show ¬ ¬ (0 : Int) = 0 from fun y => y rfl)]
      have cstep : ∀ (v : Int) (c' : Mem), (if (¬ (if ((c 2 2 = 4) ∧ (c d 1 < 9)) then (1 : Int) else 0) = 0) then F_X4_tellAct d c = some (v, c') else F_X4_tellFeud d c = some (v, c')) → L_X4_tell_1 d (fun items_29 (h_28 : Mem) => some (items_29, h_28)) (f + 1) (items : Int) c = (if (¬ (¬ v = 0)) then (some (w32 ((-10) - (c' 2 3)), c')) else (nm (w32 ((items : Int) + 1)) (fun items_23 => L_X4_tell_1 d (fun items_29 (h_28 : Mem) => some (items_29, h_28)) f items_23 c'))) := by
        intro v c' hv
        rw [L_X4_tell_1, if_pos ⟨z, by omega⟩]
        refine (nm_of rfl).trans ?_
        refine jn_of.trans ?_
        by_cases u : (c 2 2 = 4) ∧ (c d 1 < 9)
        · rw [if_pos u, if_pos (by omega)] at hv ⊢
          refine (bd_of hv).trans ?_
          rfl
        · rw [if_neg u, if_neg (show ¬ ¬ (0 : Int) = 0 from fun y => y rfl)] at hv ⊢
          refine (bd_of hv).trans ?_
          rfl
      have mstep : ∀ v : Int, (if (((m 56 5) = 1) ∧ ((((m 56 7) = 0) ∧ ((m 56 11) < 9)) ∨ (¬ ((m 56 7) = 0) ∧ ((m 56 7) = 6)))) then (1 : Int) else 0) = v → L_X8_acts_1 KM (f + 1) (items : Int) m = bd (F_X8_takes v m) (fun r_23 (h_24 : Mem) => jn (fun (K_26 : Mem → Res) => jn (fun (K_27 : Mem → Res) => bd (F_X8_isWell  h_24) (fun r_39 (h_40 : Mem) => if (¬ r_39 = 0) then (if (r_23 = 0) then (bd (F_X8_readsAct  h_40) (fun _ (h_46 : Mem) => K_26 h_46)) else (K_27 h_40)) else (K_27 h_40))) (fun (h_28 : Mem) => jn (fun (K_29 : Mem → Res) => bd (F_X8_isWell  h_28) (fun r_30 (h_31 : Mem) => if (¬ r_30 = 0) then (bd (F_X8_readsFeud  h_31) (fun _ (h_36 : Mem) => K_29 h_36)) else (K_29 h_31))) (fun  (h_38 : Mem) => K_26 h_38))) (fun  (h_48 : Mem) => nm (α := Int) (if ((h_48 56 5) = 3) then 1 else 0) (fun v_49 => bd (F_X8_takes v_49 h_48) (fun r_51 (h_52 : Mem) => nm (w32 ((items : Int) + 1)) (fun items_54 => L_X8_acts_1 KM f items_54 h_52))))) := by
        intro v hv
        rw [L_X8_acts_1]
        refine jn_of.trans ?_
        rw [well_e (by omega), bd_s, if_pos (show ¬ (1 : Int) = 0 by omega), if_pos (by omega)]
        refine (nm_of hv).trans ?_
        rfl
      by_cases A : c 2 2 = 4 ∧ n < 9
      · obtain ⟨v, c', m1, m', x1, x2, x3, x4, x5, x6, x7⟩ := act_r T w A.1 D A.2 hd (fun h_52 => nm (w32 ((items : Int) + 1)) (fun items_54 => L_X8_acts_1 KM f items_54 h_52))
        have cs := cstep v c' (by rw [if_pos (show c 2 2 = 4 ∧ c d 1 < 9 by omega), if_pos (show ¬ (1 : Int) = 0 by omega)]; exact x1)
        have ms := mstep 1 (if_pos ⟨by omega, Or.inl ⟨by omega, by omega⟩⟩)
        rw [x2, bd_s] at ms
        simp only [jn] at ms
        rw [well_e (by omega), bd_s, if_pos (show ¬ (1 : Int) = 0 by omega), if_pos trivial] at ms
        have ms : L_X8_acts_1 KM (f + 1) (items : Int) m = mAct (fun h_52 => nm (w32 ((items : Int) + 1)) (fun items_54 => L_X8_acts_1 KM f items_54 h_52)) m1 := ms
        rw [cs, ms, x4]
        refine fin v c' m' x5 x6 ?_
        rcases x7 with ⟨y1, y2, y3, y4⟩ | ⟨y1, y2, y3⟩
        · exact Or.inl ⟨y1, y2, y3, n + 1, y4⟩
        · exact Or.inr ⟨y1, y2.1, y2.2, y3⟩
      · by_cases Bf : c 2 2 = 10
        · obtain ⟨v, c', m1, m', x1, x2, x3, x4, x5, x6, x7⟩ := feud_r T w Bf D hd (fun h_52 => nm (w32 ((items : Int) + 1)) (fun items_54 => L_X8_acts_1 KM f items_54 h_52))
          have cs := cstep v c' (by rw [if_neg (show ¬ (c 2 2 = 4 ∧ c d 1 < 9) by omega), if_neg (show ¬ ¬ (0 : Int) = 0 from fun y => y rfl)]; exact x1)
          have ms := mstep 1 (if_pos ⟨by omega, Or.inr ⟨by omega, by omega⟩⟩)
          rw [x2, bd_s] at ms
          simp only [jn] at ms
          rw [well_e (by omega), bd_s, if_pos (show ¬ (1 : Int) = 0 by omega), if_neg (show ¬ (6 : Int) = 0 by omega), well_e (by omega), bd_s, if_pos (show ¬ (1 : Int) = 0 by omega)] at ms
          have ms : L_X8_acts_1 KM (f + 1) (items : Int) m = mFeud (fun h_52 => nm (w32 ((items : Int) + 1)) (fun items_54 => L_X8_acts_1 KM f items_54 h_52)) m1 := ms
          rw [cs, ms, x4]
          refine fin v c' m' x5 x6 ?_
          rcases x7 with ⟨y1, y2, y3, y4⟩ | ⟨y1, y2, y3⟩
          · exact Or.inl ⟨y1, y2, y3, n, y4⟩
          · exact Or.inr ⟨y1, y2.1, y2.2, y3⟩
        · have cs := cstep 0 c (by
            rw [if_neg (show ¬ (c 2 2 = 4 ∧ c d 1 < 9) by omega), if_neg (show ¬ ¬ (0 : Int) = 0 from fun y => y rfl)]
            unfold F_X4_tellFeud
            rw [if_pos Bf])
          have ms := mstep 0 (if_neg (fun y => by omega))
          have p6 := T.2.2.2.2.2.2.2.1
          rw [tk_0 (by omega), bd_s, p6] at ms
          simp only [jn] at ms
          have w8 : 0 ≤ (wr m 56 8 (q : Int)) 56 8 := by rw [wr_s]; omega
          rw [ill_e w8, bd_s, if_neg (show ¬ ¬ (0 : Int) = 0 from fun y => y rfl), ill_e w8, bd_s, if_neg (show ¬ ¬ (0 : Int) = 0 from fun y => y rfl)] at ms
          have ms : L_X8_acts_1 KM (f + 1) (items : Int) m = bd (F_X8_takes (if ((wr m 56 8 (q : Int)) 56 5 = 3) then 1 else 0) (wr m 56 8 (q : Int))) (fun r_51 (h_52 : Mem) => nm (w32 ((items : Int) + 1)) (fun items_54 => L_X8_acts_1 KM f items_54 h_52)) := ms
          rw [tk_f w8, bd_s] at ms
          rw [cs, ms]
          exact fin 0 c (wr m 56 8 (q : Int)) (fun _ _ _ _ _ => rfl) (fun r k x y => by rw [wr_at, if_neg (by omega)]) (Or.inr ⟨rfl, w8, by rw [wr_s]; omega, by rw [wr_s, pq]⟩)
end Tell
