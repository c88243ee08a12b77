/-! the parser: all items -/
theorem FCd.trans {d : Int} {a b c : Mem} (h1 : FCd d a b) (h2 : FCd d b c) : FCd d a c := fun r k x y z => (h2 r k x y z).trans (h1 r k x y z)
theorem FMd.trans {a b c : Mem} (h1 : FMd a b) (h2 : FMd b c) : FMd a c := fun r k x y => (h2 r k x y).trans (h1 r k x y)
theorem cstep {d : Int} {c c' : Mem} {v : Int} {f items : Nat} (z : ¬ c 2 2 = 0) (hi : (items : Int) < 400) (hv : ((c 2 2 = 4 ∧ c d 1 < 9) ∧ F_X4_tellAct d c = some (v, c')) ∨ (¬ (c 2 2 = 4 ∧ c d 1 < 9) ∧ F_X4_tellFeud d c = some (v, c'))) :
    L_X4_tell_1 d (fun items_29 (h_28 : Mem) => some (items_29, h_28)) (f + 1) (items : Int) c = (if (¬ (¬ v = 0)) then (some (w32 ((-10) - (c' 2 3)), c')) else (nm (w32 ((items : Int) + 1)) (fun items_23 => L_X4_tell_1 d (fun items_29 (h_28 : Mem) => some (items_29, h_28)) f items_23 c'))) := by
  rw [L_X4_tell_1, if_pos ⟨z, hi⟩]
  refine (nm_of rfl).trans ?_
  refine jn_of.trans ?_
  rcases hv with ⟨u, hv⟩ | ⟨u, hv⟩
  · rw [if_pos u, if_pos (show ¬ (1 : Int) = 0 by omega)]
    exact bd_of hv
  · rw [if_neg u, if_neg (show ¬ ¬ (0 : Int) = 0 from fun y => y rfl)]
    exact bd_of hv
def mNx (KM : Int → Mem → Res) (f : Nat) (items : Int) (h_52 : Mem) : Res := nm (w32 (items + 1)) (fun items_54 => L_X8_acts_1 KM f items_54 h_52)
def mIt (KM : Int → Mem → Res) (f : Nat) (items : Int) (r_23 : Int) (h_24 : Mem) : Res := jn (fun (K_26 : Mem → Res) => jn (fun (K_27 : Mem → Res) => bd (F_X8_isWell  h_24) (fun r_39 (h_40 : Mem) => if (¬ r_39 = 0) then (if (r_23 = 0) then (bd (F_X8_readsAct  h_40) (fun _ (h_46 : Mem) => K_26 h_46)) else (K_27 h_40)) else (K_27 h_40))) (fun (h_28 : Mem) => jn (fun (K_29 : Mem → Res) => bd (F_X8_isWell  h_28) (fun r_30 (h_31 : Mem) => if (¬ r_30 = 0) then (bd (F_X8_readsFeud  h_31) (fun _ (h_36 : Mem) => K_29 h_36)) else (K_29 h_31))) (fun  (h_38 : Mem) => K_26 h_38))) (fun  (h_48 : Mem) => nm (α := Int) (if ((h_48 56 5) = 3) then 1 else 0) (fun v_49 => bd (F_X8_takes v_49 h_48) (fun _ (h_52 : Mem) => mNx KM f items h_52)))
theorem mstep {m : Mem} {KM : Int → Mem → Res} {f : Nat} {items v : Int} (w : m 56 8 < 0) (z : ¬ m 56 5 = 0) (hv : (if (((m 56 5) = 1) ∧ ((((m 56 7) = 0) ∧ ((m 56 11) < 9)) ∨ (¬ ((m 56 7) = 0) ∧ ((m 56 7) = 6)))) then (1 : Int) else 0) = v) :
    L_X8_acts_1 KM (f + 1) items m = bd (F_X8_takes v m) (fun r_23 (h_24 : Mem) => mIt KM f items r_23 h_24) := by
  rw [L_X8_acts_1]
  refine jn_of.trans ?_
  rw [well_e w, bd_s, if_pos (show ¬ (1 : Int) = 0 by omega), if_pos z]
  exact nm_of hv
theorem mIt_a {m : Mem} {KM : Int → Mem → Res} {f : Nat} {items : Int} (w : m 56 8 < 0) : mIt KM f items 0 m = mAct (mNx KM f items) m := by
  unfold mIt mAct
  refine jn_of.trans ?_
  refine jn_of.trans ?_
  rw [well_e w, bd_s, if_pos (show ¬ (1 : Int) = 0 by omega), if_pos rfl]
theorem mIt_b {m : Mem} {KM : Int → Mem → Res} {f : Nat} {items : Int} (w : m 56 8 < 0) : mIt KM f items 6 m = mFeud (mNx KM f items) m := by
  unfold mIt mFeud
  refine jn_of.trans ?_
  refine jn_of.trans ?_
  rw [well_e w, bd_s, if_pos (show ¬ (1 : Int) = 0 by omega), if_neg (show ¬ (6 : Int) = 0 by omega)]
  refine jn_of.trans ?_
  rw [well_e w, bd_s, if_pos (show ¬ (1 : Int) = 0 by omega)]
theorem mIt_f {m : Mem} {KM : Int → Mem → Res} {f : Nat} {items r : Int} (w : 0 ≤ m 56 8) : mIt KM f items r m = mNx KM f items m := by
  unfold mIt
  refine jn_of.trans ?_
  refine jn_of.trans ?_
  rw [ill_e w, bd_s, if_neg (show ¬ ¬ (0 : Int) = 0 from fun y => y rfl)]
  refine jn_of.trans ?_
  rw [ill_e w, bd_s, if_neg (show ¬ ¬ (0 : Int) = 0 from fun y => y rfl)]
  refine (nm_of rfl).trans ?_
  rw [tk_f w, bd_s]
section Tell
variable {t : Int → Int} {N : Nat} {d : Int}
theorem tell_r (hd : d = 4 ∨ d = 15) (KM : Int → Mem → Res) : ∀ (g : Nat) (c m : Mem) (q e n items f : Nat), N - q ≤ g → g + 1 < f → TokR t N c m q e → m 56 8 = -1 → DR d c m n → items ≤ q →
    ∃ r c' m' its, L_X4_tell_1 d (fun items_29 (h_28 : Mem) => some (items_29, h_28)) f (items : Int) c = some (r, c') ∧ L_X8_acts_1 KM f (items : Int) m = KM its m' ∧ FCd d c c' ∧ FMd m m' ∧ ((r = its ∧ 0 ≤ r ∧ m' 56 8 = -1 ∧ ∃ n', DR d c' m' n') ∨ (0 ≤ m' 56 8 ∧ m' 56 8 ≤ 400 ∧ r = -10 - m' 56 8)) := by
  intro g
  induction g with
  | zero =>
    intro c m q e n items f hg hf T w D hi
    obtain ⟨f, rfl⟩ : ∃ g, f = g + 1 := ⟨f - 1, by omega⟩
    have z : c 2 2 = 0 := by
      by_cases z : c 2 2 = 0
      · exact z
      · have := T.lt z; omega
    have k := T.k
    unfold TKd at k
    refine ⟨items, c, m, items, ?_, ?_, fun _ _ _ _ _ => rfl, fun _ _ _ _ => rfl, Or.inl ⟨rfl, by omega, w, n, D⟩⟩
    · rw [L_X4_tell_1, if_neg (by omega)]
    · rw [L_X8_acts_1]
      refine jn_of.trans ?_
      rw [well_e (by omega), bd_s, if_pos (show ¬ (1 : Int) = 0 by omega), if_neg (by omega)]
  | succ g ih =>
    intro c m q e n items f hg hf T w D hi
    obtain ⟨f, rfl⟩ : ∃ g, f = g + 1 := ⟨f - 1, by omega⟩
    have k := T.k
    unfold TKd at k
    have N4 := T.2.2.2.2.1
    have pq := T.2.2.2.2.2.2.1
    by_cases z : c 2 2 = 0
    · refine ⟨items, c, m, items, ?_, ?_, fun _ _ _ _ _ => rfl, fun _ _ _ _ => rfl, Or.inl ⟨rfl, by omega, w, n, D⟩⟩
      · rw [L_X4_tell_1, if_neg (by omega)]
      · rw [L_X8_acts_1]
        refine jn_of.trans ?_
        rw [well_e (by omega), bd_s, if_pos (show ¬ (1 : Int) = 0 by omega), if_neg (by omega)]
    · have lt := T.lt z
      have dn := D.1
      have mn := D.2.1
      have n9 := D.2.2.1
      -- the class's step, the reference's step
      have fin : ∀ (v : Int) (c' m' : Mem), FCd d c c' → FMd m m' → ((v = 1 ∧ m' 56 8 = -1 ∧ (∃ q' e', TokR t N c' m' q' e' ∧ q < q') ∧ ∃ n', DR d c' m' n') ∨ (v = 0 ∧ 0 ≤ m' 56 8 ∧ m' 56 8 ≤ 400 ∧ m' 56 8 = c' 2 3)) →
          ∃ r c'' m'' its, (if (¬ (¬ v = 0)) then (some (w32 ((-10) - (c' 2 3)), c')) else (nm (w32 ((items : Int) + 1)) (fun items_23 => L_X4_tell_1 d (fun items_29 (h_28 : Mem) => some (items_29, h_28)) f items_23 c')) : Res) = some (r, c'') ∧ mNx KM f (items : Int) m' = KM its m'' ∧ FCd d c c'' ∧ FMd m m'' ∧ ((r = its ∧ 0 ≤ r ∧ m'' 56 8 = -1 ∧ ∃ n', DR d c'' m'' n') ∨ (0 ≤ m'' 56 8 ∧ m'' 56 8 ≤ 400 ∧ r = -10 - m'' 56 8)) := by
        intro v c' m' fc fm hr
        rcases hr with ⟨v1, w1, ⟨q', e', T', lq⟩, n', D'⟩ | ⟨v0, w1, w2, w3⟩
        · obtain ⟨r, c'', m'', its, x1, x2, x3, x4, x5⟩ := ih c' m' q' e' n' (items + 1) f (by omega) (by omega) T' w1 D' (by omega)
          refine ⟨r, c'', m'', its, ?_, ?_, fc.trans x3, fm.trans x4, x5⟩
          · rw [v1, if_neg (by omega)]
            refine (nm_of (w32_n (by omega))).trans ?_
            exact x1
          · unfold mNx
            refine (nm_of (w32_n (by omega))).trans ?_
            exact x2
        · obtain ⟨f, rfl⟩ : ∃ g, f = g + 1 := ⟨f - 1, by omega⟩
          refine ⟨-10 - m' 56 8, c', m', ((items + 1 : Nat) : Int), ?_, ?_, fc, fm, Or.inr ⟨w1, w2, rfl⟩⟩
          · rw [v0, if_pos (by omega), ← w3, w32_s (by omega) (by omega)]
          · unfold mNx
            refine (nm_of (w32_n (by omega))).trans ?_
            rw [L_X8_acts_1]
            refine jn_of.trans ?_
            rw [ill_e w1, bd_s, if_neg (show ¬ ¬ (0 : Int) = 0 from fun y => y rfl)]
      have hi4 : (items : Int) < 400 := by omega
      have kA : c 2 2 = 4 → m 56 5 = 1 ∧ m 56 7 = 0 := fun y => by omega
      have kB : c 2 2 = 10 → m 56 5 = 1 ∧ m 56 7 = 6 := fun y => by omega
      have kC : m 56 5 = 1 → c 2 2 = 4 + m 56 7 := fun y => by omega
      have kZ : ¬ m 56 5 = 0 := by omega
      have w' : m 56 8 < 0 := by omega
      have q4 : (q : Int) ≤ 400 := by omega
      clear k hg hf hi ih
      by_cases A : c 2 2 = 4 ∧ n < 9
      · obtain ⟨v, c', m1, m', x1, x2, x3, x4, x5, x6, x7⟩ := act_r T w A.1 D A.2 hd (mNx KM f items)
        have dl : c d 1 < 9 := by rw [dn]; exact Int.ofNat_lt.mpr A.2
        have ml : m 56 11 < 9 := by rw [mn]; exact Int.ofNat_lt.mpr A.2
        have cs := cstep (f := f) z hi4 (Or.inl ⟨⟨A.1, dl⟩, x1⟩)
        have ms := mstep (KM := KM) (f := f) (items := (items : Int)) w' kZ (if_pos ⟨(kA A.1).1, Or.inl ⟨(kA A.1).2, ml⟩⟩)
        rw [x2, bd_s, mIt_a (by rw [x3]; decide), x4] at ms
        rw [cs, ms]
        refine fin v c' m' x5 x6 ?_
        rcases x7 with ⟨y1, y2, y3, y4⟩ | ⟨y1, y2, y3⟩
        · exact Or.inl ⟨y1, y2, y3, n + 1, y4⟩
        · exact Or.inr ⟨y1, y2.1, y2.2, y3⟩
      · have nA : ¬ (c 2 2 = 4 ∧ c d 1 < 9) := fun y => A ⟨y.1, by have := y.2; rw [dn] at this; exact Int.ofNat_lt.mp this⟩
        by_cases Bf : c 2 2 = 10
        · obtain ⟨v, c', m1, m', x1, x2, x3, x4, x5, x6, x7⟩ := feud_r T w Bf D hd (mNx KM f items)
          have cs := cstep (f := f) z hi4 (Or.inr ⟨nA, x1⟩)
          have ms := mstep (KM := KM) (f := f) (items := (items : Int)) w' kZ (if_pos ⟨(kB Bf).1, Or.inr ⟨by rw [(kB Bf).2]; decide, (kB Bf).2⟩⟩)
          rw [x2, bd_s, mIt_b (by rw [x3]; decide), x4] at ms
          rw [cs, ms]
          refine fin v c' m' x5 x6 ?_
          rcases x7 with ⟨y1, y2, y3, y4⟩ | ⟨y1, y2, y3⟩
          · exact Or.inl ⟨y1, y2, y3, n, y4⟩
          · exact Or.inr ⟨y1, y2.1, y2.2, y3⟩
        · have te : F_X4_tellFeud d c = some (0, c) := by
            unfold F_X4_tellFeud
            rw [if_pos Bf]
          have cs := cstep (f := f) z hi4 (Or.inr ⟨nA, te⟩)
          have no : ¬ (((m 56 5) = 1) ∧ ((((m 56 7) = 0) ∧ ((m 56 11) < 9)) ∨ (¬ ((m 56 7) = 0) ∧ ((m 56 7) = 6)))) := fun y => by
            have kc := kC y.1
            rcases y.2 with u | u
            · rw [u.1] at kc
              exact A ⟨kc, by have := u.2; rw [mn] at this; exact Int.ofNat_lt.mp this⟩
            · rw [u.2] at kc
              exact Bf kc
          have ms := mstep (KM := KM) (f := f) (items := (items : Int)) w' kZ (if_neg no)
          have p6 := T.2.2.2.2.2.2.2.1
          have w8 : 0 ≤ (wr m 56 8 (q : Int)) 56 8 := by rw [wr_s]; exact Int.natCast_nonneg q
          rw [tk_0 w', bd_s, p6, mIt_f w8] at ms
          rw [cs, ms]
          exact fin 0 c (wr m 56 8 (q : Int)) (fun _ _ _ _ _ => rfl) (fun r k x y => by rw [wr_at, if_neg (by omega)]) (Or.inr ⟨rfl, w8, by rw [wr_s]; exact q4, by rw [wr_s, pq]⟩)
end Tell
