/-! the search, whole -/
def dsx (o : Int) (r k : Int) : Prop := scr r k ∨ (r = o ∧ 3 ≤ k ∧ k ≤ 7)
/-- what a search finds: its pool, homes, the acts -/
def BG (A T : Int → Int) (S : List Int) (c o : Int) (hm : Nat → Int) (g : Mem) : Prop :=
  (o = 45 ∨ o = 48) ∧ S.Pairwise (fun a b => a < b) ∧ (1 ≤ S.length ∧ S.length ≤ 7) ∧ g o 2 = (S.length : Int) ∧ (∀ k : Nat, k < S.length → g (o + 1) k = c + 2 + S.getD k 0 ∧ g (o + 2) k = hm k) ∧ (∀ x ∈ S, (0 ≤ x ∧ x ≤ 8) ∧ AQ g (c + 2 + x) (fun k => A (9 * x + k)) ∧ g (c + 2 + x) 0 = x ∧ okO 0 (c + 2 + x) = true) ∧ (∀ k : Int, 0 ≤ k → k < 8 → g 34 k = T k) ∧ WT T ∧ ∀ l : List Int, (∀ x ∈ l, x ∈ S) → WQ (qA A l) l.length
def DF (A T : Int → Int) (S : List Int) (c o b : Int) (g h : Mem) (P : List Int) : Prop :=
  Fr (dsx o) g h ∧ h 33 11 = (S.length : Int) ∧ h 33 12 = b ∧ (∀ j, j < P.length → ShP h (qA A P) (RA c P) T b j ∧ ShA h (qA A P) T b (fun _ => 0) j) ∧ ((b ≤ 0 ∨ b < P.length) → h 33 13 = (sHs (qA A P) T b (fun _ => 0) P.length).2.2.2)
/-- what a search below a place may change -/
def EF (o b : Int) (p : Nat) (h h' : Mem) : Prop := (∀ r k : Int, ¬ ((35 ≤ r ∧ r ≤ 44) ∧ (p : Int) ≤ k) → ¬ (r = 33 ∧ k = 13) → ¬ (r = o ∧ 3 ≤ k ∧ k ≤ 7) → h' r k = h r k) ∧ ((b ≤ 0 ∨ b < p) → h' 33 13 = h 33 13)
theorem EF.rfl {o b : Int} {p : Nat} {h : Mem} : EF o b p h h := ⟨fun _ _ _ _ _ => Eq.refl _, fun _ => Eq.refl _⟩
theorem EF.trans {o b : Int} {p : Nat} {h h1 h2 : Mem} (a : EF o b p h h1) (c : EF o b p h1 h2) : EF o b p h h2 := ⟨fun r k x y z => (c.1 r k x y z).trans (a.1 r k x y z), fun x => (c.2 x).trans (a.2 x)⟩
section Ext
variable {A T : Int → Int} {S : List Int} {c o b : Int} {hm : Nat → Int} {g : Mem}
theorem DF.ef {P : List Int} {h h' : Mem} (ho : o = 45 ∨ o = 48) (D : DF A T S c o b g h P) (E : EF o b P.length h h') : DF A T S c o b g h' P := by
  obtain ⟨d1, d2, d3, d4, d5⟩ := D
  refine ⟨fun r k n => ?_, ?_, ?_, fun j hj => ?_, fun q => ?_⟩
  · rw [E.1 r k (fun z => n (Or.inl (Or.inr z.1))) (fun z => n (Or.inl (Or.inl z.1))) (fun z => n (Or.inr z))]; exact d1 r k n
  · rw [E.1 33 11 (by omega) (by omega) (by omega)]; exact d2
  · rw [E.1 33 12 (by omega) (by omega) (by omega)]; exact d3
  · have f : ∀ r : Int, 35 ≤ r → r ≤ 44 → h' r j = h r j := fun r a1 a2 => E.1 r j (by omega) (by omega) (by omega)
    have x := d4 j hj
    unfold ShP ShA at x ⊢
    rw [f 35 (by omega) (by omega), f 36 (by omega) (by omega), f 37 (by omega) (by omega), f 38 (by omega) (by omega), f 39 (by omega) (by omega), f 40 (by omega) (by omega), f 41 (by omega) (by omega), f 42 (by omega) (by omega), f 43 (by omega) (by omega), f 44 (by omega) (by omega)]
    exact x
  · rw [E.2 q]; exact d5 q
theorem act_ne {o one : Int} (ho : o = 45 ∨ o = 48) (h : okO 0 one = true) (k : Int) : ¬ dsx o one k := by
  have := ok0_ne h
  unfold dsx scr
  omega
/-- a complete order can be staged just if each place fits -/
theorem bFl_fi (B : BG A T S c o hm g) {l : List Int} (hl : ∀ x ∈ l, x ∈ S) : bFl A T l b = 0 ↔ ∀ j, j < l.length → sFi (qA A l) (mL l) T b j :=
  fl_0.trans (ok_fi (B.2.2.2.2.2.2.2.2 l hl) B.2.2.2.2.2.2.2.1)
theorem rem_er (hS : S.Pairwise (fun a b => a < b)) (h9 : S.length ≤ 9) {z : Int} {k : Nat} (hk : k < S.length) : remL S (ior z (ishl 1 (k : Int))) = (remL S z).erase (S.getD k 0) := by
  have nd : (remL S z).Nodup := (rem_p hS z).imp (fun h => by omega)
  refine srt_uniq (R := fun a b => a < b) (fun a => by omega) (fun a b c _ _ => by omega) _ _ (rem_p hS _) ((rem_p hS z).sublist List.erase_sublist) (fun y => ?_)
  rw [rem_ins hS h9 hk, nd.mem_erase_iff]
  exact ⟨fun q => ⟨q.2, q.1⟩, fun q => ⟨q.2, q.1⟩⟩
def remK (S : List Int) (z : Int) (K : Nat) : List Int := ((List.range K).filter (fun p => !(bt z p))).map (fun p => S.getD p 0)
theorem remK_s (S : List Int) (z : Int) (K : Nat) : remK S z (K + 1) = remK S z K ++ if bt z K = true then [] else [S.getD K 0] := by
  unfold remK
  rw [List.range_succ, List.filter_append, List.map_append]
  congr 1
  cases hb : bt z K <;> simp [hb]
theorem Gs_none {l : List (List Int)} (hl : ∀ m ∈ l, ¬ bFl A T m b = 0) : ∀ s : S5, l.foldl (Gs A T hm b) s = s := by
  induction l with
  | nil => intro s; rfl
  | cons m l ih =>
    intro s
    rw [List.foldl_cons]
    have : Gs A T hm b s m = s := by unfold Gs; rw [if_neg (hl m List.mem_cons_self)]
    rw [this]
    exact ih (fun k hk => hl k (List.mem_cons_of_mem _ hk)) s
theorem ext_e (B : BG A T S c o hm g) (b0 : 0 ≤ b) (bn : b < S.length) : ∀ (d : Nat) (P : List Int) (used away figs : Int) (h : Mem) (f : Nat), P.length + d = S.length → (∀ x ∈ P, x ∈ S) → 0 ≤ used → used < 2 ^ S.length → (∀ k, k < S.length → (bt used k = true ↔ S.getD k 0 ∈ P)) → away = awF hm 0 P → figs = fgs 0 P → (∀ j, j < P.length → sFi (qA A P) (mL P) T b j) → DF A T S c o b g h P → 0 ≤ h o 3 → h o 3 + 7 ^ d ≤ 100000000 → d < f →
    ∃ h', FxE f o (P.length : Int) used away figs h = some (0, h') ∧ EF o b P.length h h' ∧ St o h' = ((perms d (remL S used)).map (fun m => P ++ m)).foldl (Gs A T hm b) (St o h) ∧ h o 3 ≤ h' o 3 ∧ h' o 3 ≤ h o 3 + 7 ^ d := by
  obtain ⟨ho, hS, hn, g2, gp, gx, gT, hT, gq⟩ := id B
  intro d
  induction d with
  | zero =>
    intro P used away figs h f hd hP u0 u1 hu ha hf hfi D s0 s1 hfu
    obtain ⟨f, rfl⟩ : ∃ g, f = g + 1 := ⟨f - 1, by omega⟩
    have pn : P.length = S.length := by omega
    obtain ⟨d1, d2, d3, d4, d5⟩ := D
    have o2 : h o 2 = (S.length : Int) := by rw [d1 o 2 (by unfold dsx scr; omega)]; exact g2
    have tot := total_e (h := h) (q := qA A P) (T := T) (b := b) (n := P.length) (u := fun _ => 0) (by rw [pn]; exact d2) (by omega) (by omega) (d4 (P.length - 1) (by omega)).2 (d5 (Or.inr (by omega))) (gq P hP) hT (fun _ => by omega)
    have tot : F_X6_total h = some (bVa A T P b, h) := tot
    have ok : bFl A T P b = 0 := (bFl_fi B hP).mpr hfi
    obtain ⟨h2, e2, w2, f2⟩ := weigh_e (a := away) (f := figs) ho tot d3 s0 (by simp at s1; omega)
    have gs : ((perms 0 (remL S used)).map (fun m => P ++ m)).foldl (Gs A T hm b) (St o h) = wgh (St o h) away (bVa A T P b) figs b := by
      show Gs A T hm b (St o h) (P ++ []) = _
      rw [List.append_nil]
      unfold Gs
      rw [if_pos ok, ha, hf]
    have fn : h2 o 3 = h o 3 + 1 := by
      have := congrArg Prod.fst w2
      unfold wgh at this
      split at this <;> exact this
    refine ⟨h2, ?_, ⟨fun r k _ _ z => f2 r k z, fun _ => f2 33 13 (by omega)⟩, by rw [gs]; exact w2, by omega, by rw [fn]; simp⟩
    rw [FxE]
    unfold F_X5_extendO
    rw [o2, if_pos (by omega)]
    refine (bd_of e2).trans ?_
    rfl
  | succ d ih =>
    intro P used away figs h f hd hP u0 u1 hu ha hf hfi D s0 s1 hfu
    obtain ⟨f, rfl⟩ : ∃ g, f = g + 1 := ⟨f - 1, by omega⟩
    have p7 : (7 : Int) ^ (d + 1) = 7 ^ d * 7 := Int.pow_succ 7 d
    have p70 : (1 : Int) ≤ 7 ^ d := Int.pow_pos (by omega)
    have ab := awF_b (hm := hm) P 0
    -- one attempt
    have att : ∀ (k : Nat) (h1 : Mem), k < S.length → bt used k = false → EF o b P.length h h1 → 0 ≤ h1 o 3 → h1 o 3 + 7 ^ d ≤ 100000000 →
        ∃ h2, F_X5_attemptO (FxE f) o (P.length : Int) (k : Int) used away figs h1 = some (0, h2) ∧ EF o b P.length h1 h2 ∧ St o h2 = ((perms d ((remL S used).erase (S.getD k 0))).map (fun m => P ++ S.getD k 0 :: m)).foldl (Gs A T hm b) (St o h1) ∧ h1 o 3 ≤ h2 o 3 ∧ h2 o 3 ≤ h1 o 3 + 7 ^ d := by
      intro k h1 hk hbk E1 t0 t1
      have D1 := D.ef ho E1
      obtain ⟨d1, d2, d3, d4, d5⟩ := id D1
      have xS := getD_mem hk
      have x0 := gx _ xS
      have pl : h1 (o + 1) k = c + 2 + S.getD k 0 := by rw [d1 (o + 1) k (by unfold dsx scr; omega)]; exact (gp k hk).1
      generalize hx : S.getD k 0 = x at *
      have hP' : ∀ y ∈ P ++ [x], y ∈ S := fun y hy => by
        rcases List.mem_append.mp hy with q | q
        · exact hP y q
        · rw [List.mem_singleton.mp q]; exact xS
      have lP' : (P ++ [x]).length = P.length + 1 := by simp
      have wq : WQ (qA A (P ++ [x])) (P.length + 1) := by rw [← lP']; exact gq _ hP'
      have e9 : E9 (qA A P) (qA A (P ++ [x])) P.length := qA_app
      have rp : RA c (P ++ [x]) P.length = c + 2 + x := by unfold RA; rw [getD_last]
      have qp : qA A (P ++ [x]) P.length = fun k => A (9 * x + k) := by funext k; unfold qA; rw [getD_last]
      have fa : ∀ y ∈ S, ∀ k, h1 (c + 2 + y) k = g (c + 2 + y) k := fun y hy k => d1 _ k (act_ne ho (gx y hy).2.2.2 k)
      have aq : ∀ y ∈ S, AQ h1 (c + 2 + y) (fun k => A (9 * y + k)) := fun y hy => by
        have := (gx y hy).2.1
        unfold AQ at this ⊢
        simp only [fa y hy]; exact this
      have pre : ∀ j, j < P.length → ShP h1 (qA A (P ++ [x])) (RA c (P ++ [x])) T b j ∧ ShA h1 (qA A (P ++ [x])) T b (fun _ => 0) j := fun j hj => by
        have q := d4 j hj
        exact ⟨ShP_c (e9.mono (by omega)) (by unfold RA; rw [getD_app hj]) q.1, ShA_c (e9.mono (by omega)) q.2⟩
      obtain ⟨h2, e2, sp2, f2⟩ := seat_st (h := h1) (q := qA A (P ++ [x])) (R := RA c (P ++ [x])) (T := T) (b := b) (p := P.length) (by omega) (fun j hj => ⟨(pre j hj).1.2.2.2.1, (pre j hj).1.2.2.2.2⟩) (by rw [d1 34 2 (by unfold dsx scr; omega)]; exact gT 2 (by omega) (by omega)) d3 wq hT (by rw [rp]; exact x0.2.2.2) (by rw [rp, qp]; exact aq x xS)
      rw [rp] at e2
      have E2 : EF o b P.length h1 h2 := ⟨fun r k' a1 a2 a3 => f2 r k' (by omega), fun _ => f2 33 13 (by omega)⟩
      have D2 := D1.ef ho E2
      have s2 : St o h2 = St o h1 := by unfold St; rw [f2 o 3 (by omega), f2 o 4 (by omega), f2 o 5 (by omega), f2 o 6 (by omega), f2 o 7 (by omega)]
      have fa2 : ∀ y ∈ S, ∀ k, h2 (c + 2 + y) k = g (c + 2 + y) k := fun y hy k => D2.1 _ k (act_ne ho (gx y hy).2.2.2 k)
      have aq2 : ∀ y ∈ S, AQ h2 (c + 2 + y) (fun k => A (9 * y + k)) := fun y hy => by
        have := (gx y hy).2.1
        unfold AQ at this ⊢
        simp only [fa2 y hy]; exact this
      have pre2 : ∀ j, j < P.length → ShP h2 (qA A (P ++ [x])) (RA c (P ++ [x])) T b j ∧ ShA h2 (qA A (P ++ [x])) T b (fun _ => 0) j := fun j hj => by
        have q := D2.2.2.2.1 j hj
        exact ⟨ShP_c (e9.mono (by omega)) (by unfold RA; rw [getD_app hj]) q.1, ShA_c (e9.mono (by omega)) q.2⟩
      have memj : ∀ j, j ≤ P.length → (P ++ [x]).getD j 0 ∈ S := fun j hj => hP' _ (getD_mem (by rw [lP']; omega))
      have sr : ShR h2 (qA A (P ++ [x])) (mL (P ++ [x])) (RA c (P ++ [x])) T b P.length := by
        refine ⟨fun j hj => ⟨?_, (gx _ (memj j hj)).2.2.2, ?_, ?_⟩, ?_, ?_, D2.2.2.1⟩
        · by_cases z : j = P.length
          · rw [z]; exact sp2
          · exact (pre2 j (by omega)).1
        · exact aq2 _ (memj j hj)
        · show h2 (c + 2 + (P ++ [x]).getD j 0) 0 = _
          rw [fa2 _ (memj j hj)]; exact (gx _ (memj j hj)).2.2.1
        · rw [D2.1 34 0 (by unfold dsx scr; omega)]; exact gT 0 (by omega) (by omega)
        · rw [D2.1 34 1 (by unfold dsx scr; omega)]; exact gT 1 (by omega) (by omega)
      have fit := fits_e sr (by omega)
      have head : F_X5_attemptO (FxE f) o (P.length : Int) (k : Int) used away figs h1 = (if (¬ (if sFi (qA A (P ++ [x])) (mL (P ++ [x])) T b P.length then (1 : Int) else 0) = 0) then (bd (F_X6_applaud (P.length : Int) 0 h2) (fun _ (h_13 : Mem) => jn (fun (K_15 : Int → Mem → Res) => jn (fun (K_16 : Mem → Res) => gd (0 ≤ (P.length : Int) ∧ (P.length : Int) < 7) (if ((h_13 (o + 2) (P.length : Int)) = (-9)) then (K_16 h_13) else (if ((h_13 (o + 2) (P.length : Int)) = (h_13 (c + 2 + x) 0)) then (K_16 h_13) else (K_15 1 h_13)))) (fun (h_17 : Mem) => K_15 0 h_17)) (fun v_22 (h_21 : Mem) => bd (FxE f o (w32 ((P.length : Int) + 1)) (ior used (ishl 1 (k : Int))) (w32 (away + v_22)) (w32 ((w32 (figs * 10)) + (h_21 (c + 2 + x) 0))) h_21) (fun _ (h_24 : Mem) => some (0, h_24))))) else (some (0, h2))) := by
        unfold F_X5_attemptO
        refine (gd_of (by omega)).trans ?_
        refine (nm_of pl).trans ?_
        refine (gd_of x0.2.2.2).trans ?_
        refine (bd_of e2).trans ?_
        refine (bd_of fit).trans ?_
        rfl
      rw [head]
      by_cases fi : sFi (qA A (P ++ [x])) (mL (P ++ [x])) T b P.length
      · rw [if_pos fi, if_pos (by omega)]
        obtain ⟨h3, e3, sa3, f3, ic3⟩ := app_st (h := h2) (q := qA A (P ++ [x])) (R := RA c (P ++ [x])) (T := T) (b := b) (u := fun _ => 0) (p := P.length) (by omega) sp2.1 sp2.2.1 (fun j hj => ⟨(pre2 j hj).1.1, (pre2 j hj).2.2.2.1, (pre2 j hj).2.2.2.2.1, (pre2 j hj).2.2.2.2.2⟩) (fun k k0 k1 => by rw [D2.1 34 k (by unfold dsx scr; omega)]; exact gT k k0 k1) D2.2.2.1 wq hT (fun _ => by omega) (fun j hj => (gx _ (memj j hj)).2.2.2) (fun j hj => aq2 _ (memj j hj))
        have E3 : EF o b P.length h2 h3 := ⟨fun r k' a1 a2 a3 => f3 r k' (by omega) a2, fun q => by rw [ic3, if_neg (by omega)]⟩
        have D3 : DF A T S c o b g h3 (P ++ [x]) := by
          refine ⟨fun r k' n => ?_, ?_, ?_, fun j hj => ?_, fun q => ?_⟩
          · have D3' := D2.ef ho E3
            exact D3'.1 r k' n
          · rw [f3 33 11 (by omega) (by omega)]; exact D2.2.1
          · rw [f3 33 12 (by omega) (by omega)]; exact D2.2.2.1
          · rw [lP'] at hj
            by_cases z : j = P.length
            · subst z
              refine ⟨?_, sa3⟩
              have fp : ∀ r : Int, 35 ≤ r → r ≤ 39 → h3 r (P.length : Int) = h2 r (P.length : Int) := fun r a1 a2 => f3 r _ (by omega) (by omega)
              unfold ShP at sp2 ⊢
              rw [fp 35 (by omega) (by omega), fp 36 (by omega) (by omega), fp 37 (by omega) (by omega), fp 38 (by omega) (by omega), fp 39 (by omega) (by omega)]
              exact sp2
            · have q := pre2 j (by omega)
              have fp : ∀ r : Int, 35 ≤ r → r ≤ 44 → h3 r (j : Int) = h2 r (j : Int) := fun r a1 a2 => f3 r _ (by omega) (by omega)
              unfold ShP ShA at q ⊢
              rw [fp 35 (by omega) (by omega), fp 36 (by omega) (by omega), fp 37 (by omega) (by omega), fp 38 (by omega) (by omega), fp 39 (by omega) (by omega), fp 40 (by omega) (by omega), fp 41 (by omega) (by omega), fp 42 (by omega) (by omega), fp 43 (by omega) (by omega), fp 44 (by omega) (by omega)]
              exact q
          · rw [lP'] at q ⊢
            rw [ic3]
            simp only [sHs]
            by_cases z : 0 < b ∧ ((P.length : Nat) : Int) = b
            · rw [if_pos z, if_pos z]
            · rw [if_neg z, if_neg z, D2.2.2.2.2 (by omega), hs_c P.length e9]
        have s3 : St o h3 = St o h1 := by
          rw [← s2]
          unfold St; rw [f3 o 3 (by omega) (by omega), f3 o 4 (by omega) (by omega), f3 o 5 (by omega) (by omega), f3 o 6 (by omega) (by omega), f3 o 7 (by omega) (by omega)]
        have f31 : h3 o 3 = h1 o 3 := congrArg Prod.fst s3
        have hh : h3 (o + 2) (P.length : Int) = hm P.length := by rw [D3.1 (o + 2) _ (by unfold dsx scr; omega)]; exact (gp P.length (by omega)).2
        have nb : h3 (c + 2 + x) 0 = x := by rw [D3.1 _ 0 (act_ne ho x0.2.2.2 0)]; exact x0.2.2.1
        have fb := fgs_b P (fun y hy => by have := (gx y (hP y hy)).1; omega)
        have q10 := pw10 P.length (by omega)
        have p10 : (10 : Int) ^ P.length ≤ 100000000 := by
          have := pw10 (P.length + 1) (by omega)
          rw [Int.pow_succ] at this
          omega
        have fg : fgs 0 (P ++ [x]) = 10 * fgs 0 P + x := by unfold fgs; rw [List.foldl_append]; rfl
        have ib := ior_b (k := k) u0 u1 (by omega) hk
        have aw : awF hm 0 (P ++ [x]) = awF hm 0 P + if hm P.length = -9 ∨ hm P.length = x then 0 else 1 := by
          have := awF_app (hm := hm) (x := x) P 0
          rw [Nat.zero_add] at this
          exact this
        obtain ⟨h4, e4, E4, s4, m1, m2⟩ := ih (P ++ [x]) (ior used (ishl 1 (k : Int))) (awF hm 0 (P ++ [x])) (fgs 0 (P ++ [x])) h3 f (by rw [lP']; omega) hP' ib.1 ib.2 (fun k' hk' => by
            rw [bt_ins (by omega) (by omega), Bool.or_eq_true, decide_eq_true_iff, List.mem_append, List.mem_singleton, hu k' hk']
            constructor
            · rintro (q | q)
              · exact Or.inl q
              · right; rw [q]; exact hx
            · rintro (q | q)
              · exact Or.inl q
              · right
                rw [← hx] at q
                rcases Nat.lt_trichotomy k' k with l | l | l
                · have := getD_lt hS l hk; omega
                · exact l
                · have := getD_lt hS l hk'; omega) rfl rfl (fun j hj => by
            rw [lP'] at hj
            by_cases z : j = P.length
            · rw [z]; exact fi
            · exact (fi_c (e9.mono (by omega)) (fun i hi => by unfold mL; rw [getD_app (by omega)])).mp (hfi j (by omega))) D3 (by rw [f31]; exact t0) (by rw [f31]; exact t1) (by omega)
        rw [lP'] at e4 E4
        have E4' : EF o b P.length h3 h4 := ⟨fun r k' a1 a2 a3 => E4.1 r k' (by omega) a2 a3, fun q => E4.2 (by omega)⟩
        refine ⟨h4, ?_, (E2.trans E3).trans E4', ?_, by omega, by omega⟩
        · refine (bd_of e3).trans ?_
          have fin : ∀ v : Int, awF hm 0 P + v = awF hm 0 (P ++ [x]) → (bd (FxE f o (w32 ((P.length : Int) + 1)) (ior used (ishl 1 (k : Int))) (w32 (away + v)) (w32 ((w32 (figs * 10)) + (h3 (c + 2 + x) 0))) h3) (fun _ (h_24 : Mem) => some (0, h_24)) : Res) = some (0, h4) := by
            intro v hv
            have ab' := awF_b (hm := hm) (P ++ [x]) 0
            rw [lP'] at ab'
            rw [w32_n (by omega), nb, ha, hv, w32_s (z := awF hm 0 (P ++ [x])) (by omega) (by omega), hf, w32_s (z := fgs 0 P * 10) (by omega) (by omega), w32_s (z := fgs 0 P * 10 + x) (by omega) (by omega), show fgs 0 P * 10 + x = fgs 0 (P ++ [x]) by rw [fg]; omega]
            refine (bd_of e4).trans ?_
            rfl
          refine jn_of.trans ?_
          refine jn_of.trans ?_
          rw [gd_t (by omega), hh, nb]
          by_cases c1 : hm P.length = -9
          · rw [if_pos c1]
            rw [if_pos (Or.inl c1)] at aw
            exact fin 0 aw.symm
          · rw [if_neg c1]
            by_cases c2 : hm P.length = x
            · rw [if_pos c2]
              rw [if_pos (Or.inr c2)] at aw
              exact fin 0 aw.symm
            · rw [if_neg c2]
              rw [if_neg (fun z => z.elim c1 c2)] at aw
              exact fin 1 aw.symm
        · rw [s4, s3, rem_er hS (by omega) hk, hx]
          congr 1
          refine List.map_congr_left (fun m _ => ?_)
          rw [List.append_assoc]; rfl
      · rw [if_neg fi, if_neg (by omega)]
        refine ⟨h2, rfl, E2, ?_, ?_, ?_⟩
        · rw [s2, Gs_none]
          intro m hm'
          obtain ⟨m0, hm0, rfl⟩ := List.mem_map.mp hm'
          have pm := perms_m d _ m0 hm0
          have lm : ∀ y ∈ P ++ x :: m0, y ∈ S := fun y hy => by
            rcases List.mem_append.mp hy with q | q
            · exact hP y q
            · rcases List.mem_cons.mp q with q | q
              · rw [q]; exact xS
              · obtain ⟨p', hp', _, e'⟩ := rem_m.mp (List.mem_of_mem_erase (pm.2 y q))
                rw [← e']; exact getD_mem hp'
          intro z
          have q := (bFl_fi B lm).mp z P.length (by simp)
          have ee : P ++ x :: m0 = (P ++ [x]) ++ m0 := by simp
          rw [ee] at q
          have e9' : E9 (qA A (P ++ [x])) (qA A (P ++ [x] ++ m0)) (P.length + 1) := by rw [← lP']; exact qA_app
          exact fi ((fi_c e9' (fun i hi => by unfold mL; exact (getD_app (P := P ++ [x]) (by rw [lP']; omega)).symm)).mpr q)
        · rw [f2 o 3 (by omega)]; exact Int.le_refl _
        · rw [f2 o 3 (by omega)]; omega
    -- the loop
    have lp : ∀ (dk k : Nat) (h1 : Mem) (fu : Nat), k + dk = S.length → dk < fu → EF o b P.length h h1 → h o 3 ≤ h1 o 3 → h1 o 3 ≤ h o 3 + k * 7 ^ d → St o h1 = ((remK S used k).flatMap (fun x => (perms d ((remL S used).erase x)).map (fun m => P ++ x :: m))).foldl (Gs A T hm b) (St o h) →
        ∃ h2, L_X5_extendO_1 (F_X5_attemptO (FxE f)) (P.length : Int) used away figs o (fun k_15 (h_14 : Mem) => some (0, h_14)) fu (k : Int) h1 = some (0, h2) ∧ EF o b P.length h h2 ∧ St o h2 = ((remK S used S.length).flatMap (fun x => (perms d ((remL S used).erase x)).map (fun m => P ++ x :: m))).foldl (Gs A T hm b) (St o h) ∧ h o 3 ≤ h2 o 3 ∧ h2 o 3 ≤ h o 3 + S.length * 7 ^ d := by
      intro dk
      induction dk with
      | zero =>
        intro k h1 fu hk hfu' E1 b1 b2 s
        obtain ⟨fu, rfl⟩ : ∃ g, fu = g + 1 := ⟨fu - 1, by omega⟩
        have ek : k = S.length := by omega
        subst ek
        refine ⟨h1, ?_, E1, s, b1, b2⟩
        rw [L_X5_extendO_1, (D.ef ho E1).1 o 2 (by unfold dsx scr; omega), g2, if_neg (by omega)]
      | succ dk ihk =>
        intro k h1 fu hk hfu' E1 b1 b2 s
        obtain ⟨fu, rfl⟩ : ∃ g, fu = g + 1 := ⟨fu - 1, by omega⟩
        have rs := remK_s S used k
        have kk : ((k + 1 : Nat) : Int) * 7 ^ d = k * 7 ^ d + 7 ^ d := by rw [show ((k + 1 : Nat) : Int) = (k : Int) + 1 by omega, Int.add_mul, Int.one_mul]
        have k7 := Int.mul_le_mul_of_nonneg_right (show ((k + 1 : Nat) : Int) ≤ 7 by omega) (show (0 : Int) ≤ 7 ^ d by omega)
        rw [L_X5_extendO_1, (D.ef ho E1).1 o 2 (by unfold dsx scr; omega), g2, if_pos (by omega)]
        refine ex_tr jn_of ?_
        rw [bt_bit (by omega)]
        cases hb : bt used k with
        | true =>
          rw [if_neg (by decide)]
          refine ex_tr (nm_of (w32_n (by omega))) ?_
          rw [hb, if_pos rfl, List.append_nil] at rs
          exact ihk (k + 1) h1 fu (by omega) (by omega) E1 b1 (by rw [kk]; omega) (by rw [rs]; exact s)
        | false =>
          obtain ⟨h2, e2, E2, s2, m1, m2⟩ := att k h1 (by omega) hb E1 (by omega) (by rw [p7] at s1; rw [kk] at k7; omega)
          rw [if_pos (by decide)]
          refine ex_tr (bd_of e2) ?_
          refine ex_tr (nm_of (w32_n (by omega))) ?_
          rw [hb, if_neg (by decide)] at rs
          refine ihk (k + 1) h2 fu (by omega) (by omega) (E1.trans E2) (by omega) (by rw [kk]; omega) ?_
          rw [rs, List.flatMap_append, List.foldl_append, ← s, s2]
          simp only [List.flatMap_cons, List.flatMap_nil, List.append_nil]
    obtain ⟨h2, e2, E2, s2, m1, m2⟩ := lp S.length 0 h FU (by omega) (by unfold FU; omega) EF.rfl (Int.le_refl _) (by simp) (by unfold remK; simp)
    have n7 := Int.mul_le_mul_of_nonneg_right (show (S.length : Int) ≤ 7 by omega) (show (0 : Int) ≤ 7 ^ d by omega)
    refine ⟨h2, ?_, E2, ?_, m1, by rw [p7]; omega⟩
    · rw [FxE]
      unfold F_X5_extendO
      rw [D.1 o 2 (by unfold dsx scr; omega), g2, if_neg (by omega)]
      exact e2
    · rw [s2]
      have e : (perms (d + 1) (remL S used)).map (fun m => P ++ m) = (remK S used S.length).flatMap (fun x => (perms d ((remL S used).erase x)).map (fun m => P ++ x :: m)) := by
        rw [perms, List.map_flatMap]
        show (remL S used).flatMap _ = (remL S used).flatMap _
        congr 1
        funext x
        rw [List.map_map]; rfl
      rw [e]
end Ext
