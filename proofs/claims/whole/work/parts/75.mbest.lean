/-! best: the reference -/
theorem night0_g {h0 : Mem} {n : Nat} {b : Int} (hn : 0 < n) (hR : R8 h0 n) (hb : h0 56 19 = b) (h65 : ∀ p : Nat, p < n → h0 65 p = sGp (q8 h0) (h0 59) b p) :
    ∃ h1, F_X8_nightOf 0 h0 = some (sVa (q8 h0) (h0 59) b (fun _ => 0) n, h1) ∧ (∀ r k : Int, ¬ ((67 ≤ r ∧ r ≤ 70) ∨ (r = 56 ∧ (k = 26 ∨ k = 27))) → h1 r k = h0 r k) := by
  obtain ⟨h1, e1, N1, l1⟩ := night0 hn hR hb h65
  refine ⟨h1, e1, fun r k q => ?_⟩
  by_cases c : r = 61 ∧ k = 2
  · rw [c.1, c.2]; exact l1
  · exact N1.1 r k (by unfold nsc; omega)
def nvc (r k : Int) : Prop := (67 ≤ r ∧ r ≤ 70) ∨ (r = 56 ∧ (k = 26 ∨ k = 27))
/-- a row is looked at, and played from a memory that differs in the reference's own best alone -/
theorem mst2 {h : Mem} {l : List Int} {b : Int} (hT : WT (h 59)) (hA : Ar h 64 l) (h18 : h 56 18 = (l.length : Int)) (h19 : h 56 19 = b) (h1n : 0 < l.length) (h10 : l.length ≤ 10) (hb : ∀ x ∈ l, 0 ≤ x ∧ x ≤ 9) (hw : WQ (qL h l) l.length) :
    ∃ h1, F_X8_isStaged h = some (if bFl (h 58) (h 59) l b = 0 then 1 else 0, h1) ∧ Fr ssc h h1 ∧ ∀ g : Mem, (∀ r k : Int, ¬ (r = 56 ∧ 30 ≤ k) → g r k = h1 r k) → ∃ h2, F_X8_nightOf 0 g = some (bVa (h 58) (h 59) l b, h2) ∧ Fr nvc g h2 := by
  obtain ⟨R, q, m⟩ := r8_L hT hA h18 h10 hb hw
  obtain ⟨h1, e1, F1, _, I1⟩ := staged8_e R h19
  refine ⟨h1, ?_, F1, fun g hg => ?_⟩
  · rw [e1]
    refine congrArg (fun z => some (z, h1)) (ifc ?_)
    rw [fl_c l.length q m]
    exact fl_x
  · have x58 : ∀ k, g 58 k = h 58 k := fun k => by rw [hg 58 k (by omega), F1 58 k (by unfold ssc; omega)]
    have x59 : ∀ k, g 59 k = h 59 k := fun k => by rw [hg 59 k (by omega), F1 59 k (by unfold ssc; omega)]
    have x64 : ∀ k, g 64 k = h 64 k := fun k => by rw [hg 64 k (by omega), F1 64 k (by unfold ssc; omega)]
    have R1 : R8 g l.length := R8_fr R (by rw [hg 56 18 (by omega), F1 56 18 (by unfold ssc; omega)]) x58 x59 x64
    have q1 : q8 g = q8 h := q8_fr x58 x64
    have t1 : g 59 = h 59 := funext x59
    have b1 : g 56 19 = b := by rw [hg 56 19 (by omega), F1 56 19 (by unfold ssc; omega)]; exact h19
    obtain ⟨h2, e2, N2⟩ := night0_g (b := b) h1n R1 b1 (fun p hp => by rw [q1, t1, hg 65 p (by omega)]; exact (I1 p hp).1)
    refine ⟨h2, ?_, fun r k z => N2 r k z⟩
    rw [e2, q1, t1, va_c h1n q]; rfl
def St8 (h : Mem) : S5 := (h 56 38, 0, h 56 34, h 56 35, h 56 36)
theorem bAll_app {A T : Int → Int} {L M : List (List Int)} : ∀ k : Nat, bAll A T (L ++ M) k = bAll A T L k + bAll A T M k
  | 0 => rfl
  | k + 1 => by
    have ih := bAll_app (A := A) (T := T) (L := L) (M := M) k
    have c : bCn A T (L ++ M) k = bCn A T L k + bCn A T M k := by unfold bCn; rw [List.countP_append]; omega
    rw [bAll, bAll, bAll, ih, c]; omega
section MB
variable {g : Mem} {S : List Int}
/-- what the loops keep -/
def MI (g : Mem) (S : List Int) (l : List Int) (h : Mem) : Prop := Fr rsc g h ∧ Ar h 64 l ∧ h 56 18 = (S.length : Int) ∧ (h 56 38 = 0 → h 56 34 = -9)
theorem mb2 (hR : RR g) (hn : 1 ≤ S.length ∧ S.length ≤ 7) {l : List Int} {L1 : List (List Int)} {n38 : Int} (ll : l.length = S.length) (lb : ∀ x ∈ l, 0 ≤ x ∧ x < g 56 10) (ord : ∀ l' ∈ L1, fgs 0 l' < fgs 0 l) (n0 : 0 ≤ n38) (n1 : n38 ≤ 1000000) (more : Int) (Kx : Mem → Res) :
    ∀ (d b : Nat) (h : Mem) (f : Nat), b + d = S.length → d < f → MI g S l h → h 56 19 = (b : Int) → h 56 38 = n38 + bAll (A58 g) (g 59) [l] b → OptP (A58 g) (g 59) (fun l' c => (l' ∈ L1 ∧ 0 ≤ c ∧ c < S.length) ∨ (l' = l ∧ 0 ≤ c ∧ c < b)) (St8 h) →
      ∃ h', L_X8_goesThrough_2 more Kx f h = Kx h' ∧ MI g S l h' ∧ h' 56 38 = n38 + bAll (A58 g) (g 59) [l] S.length ∧ OptP (A58 g) (g 59) (fun l' c => (l' ∈ L1 ∧ 0 ≤ c ∧ c < S.length) ∨ (l' = l ∧ 0 ≤ c ∧ c < S.length)) (St8 h') := by
  have w9 := wac_n hR
  have l9 : ∀ x ∈ l, x < 9 := fun x hx => by have := lb x hx; omega
  intro d
  induction d with
  | zero =>
    intro b h f hb hf I h19 hc ho
    obtain ⟨f, rfl⟩ : ∃ g, f = g + 1 := ⟨f - 1, by omega⟩
    have e : b = S.length := by omega
    subst e
    refine ⟨h, ?_, I, hc, ho⟩
    rw [L_X8_goesThrough_2, h19, I.2.2.1, if_neg (by omega)]
  | succ d ih =>
    intro b h f hb hf I h19 hc ho
    obtain ⟨f, rfl⟩ : ∃ g, f = g + 1 := ⟨f - 1, by omega⟩
    obtain ⟨i1, i2, i3, i4⟩ := I
    have x58 : h 58 = g 58 := funext (fun k => i1 58 k (by unfold rsc; omega))
    have x59 : h 59 = g 59 := funext (fun k => i1 59 k (by unfold rsc; omega))
    have wq : WQ (qL h l) l.length := by
      have e : qL h l = qL g l := by funext p k; unfold qL; rw [x58]
      rw [e]; exact wq_L hR lb
    obtain ⟨h1, e1, F1, nt⟩ := mst2 (b := (b : Int)) (h := h) (l := l) (by rw [x59]; exact wt_B hR) i2 (by rw [ll]; exact i3) h19 (by omega) (by omega) (fun x hx => by have := lb x hx; omega) wq
    have ba := bA_e (h := g) (l := l) (T := g 59) (b := (b : Int)) (by omega) l9
    rw [x58, x59, ba.1] at e1
    rw [x58, x59, ba.2] at nt
    have bb := bAll_b (A := A58 g) (T := g 59) (L := [l]) b
    simp only [List.length_cons, List.length_nil] at bb
    have bs : bAll (A58 g) (g 59) [l] (b + 1) = bAll (A58 g) (g 59) [l] b + if bFl (A58 g) (g 59) l b = 0 then 1 else 0 := by
      rw [bAll, bCn_c]
      have : bCn (A58 g) (g 59) [] b = 0 := by unfold bCn; rfl
      rw [this]; omega
    have tie : ∀ (l' : List Int) (c' : Int), ((l' ∈ L1 ∧ 0 ≤ c' ∧ c' < S.length) ∨ (l' = l ∧ 0 ≤ c' ∧ c' < (b : Int))) → fgs 0 l' = fgs 0 l → c' ≤ (b : Int) := fun l' c' q e => by
      rcases q with q | q
      · have := ord l' q.1; omega
      · omega
    have st := opt_step (l := l) (b := (b : Int)) ho tie
    have pe : ∀ (l' : List Int) (c' : Int), (((l' ∈ L1 ∧ 0 ≤ c' ∧ c' < (S.length : Int)) ∨ (l' = l ∧ 0 ≤ c' ∧ c' < (b : Int))) ∨ (l' = l ∧ c' = (b : Int))) ↔ ((l' ∈ L1 ∧ 0 ≤ c' ∧ c' < (S.length : Int)) ∨ (l' = l ∧ 0 ≤ c' ∧ c' < ((b + 1 : Nat) : Int))) := fun l' c' => by
      constructor
      · rintro ((q | q) | q)
        · exact Or.inl q
        · exact Or.inr ⟨q.1, q.2.1, by omega⟩
        · exact Or.inr ⟨q.1, by omega, by omega⟩
      · rintro (q | q)
        · exact Or.inl (Or.inl q)
        · by_cases z : c' = (b : Int)
          · exact Or.inr ⟨q.1, z⟩
          · exact Or.inl (Or.inr ⟨q.1, q.2.1, by omega⟩)
    have st := st.iff pe
    have f56 : ∀ k : Int, ¬ (k = 28 ∨ k = 29) → h1 56 k = h 56 k := fun k z => F1 56 k (by unfold ssc; omega)
    have Fg1 : Fr rsc g h1 := i1.trans (F1.mono (fun _ _ => ssc_r))
    have nx : ∀ h5 : Mem, Fr rsc g h5 → Ar h5 64 l → h5 56 18 = (S.length : Int) → h5 56 19 = (b : Int) → (h5 56 38 = 0 → h5 56 34 = -9) → h5 56 38 = n38 + bAll (A58 g) (g 59) [l] (b + 1) → OptP (A58 g) (g 59) (fun l' c => (l' ∈ L1 ∧ 0 ≤ c ∧ c < S.length) ∨ (l' = l ∧ 0 ≤ c ∧ c < ((b + 1 : Nat) : Int))) (St8 h5) → ∃ h', (nm (wr h5 56 19 (w32 ((h5 56 19) + 1))) (fun (h_35 : Mem) => L_X8_goesThrough_2 more Kx f h_35) : Res) = Kx h' ∧ MI g S l h' ∧ h' 56 38 = n38 + bAll (A58 g) (g 59) [l] S.length ∧ OptP (A58 g) (g 59) (fun l' c => (l' ∈ L1 ∧ 0 ≤ c ∧ c < S.length) ∨ (l' = l ∧ 0 ≤ c ∧ c < S.length)) (St8 h') := by
      intro h5 a1 a2 a3 a4 a5 a6 a7
      rw [a4, w32_n (by omega)]
      refine ex_ct (nm_of rfl) ?_
      have s8 : St8 (wr h5 56 19 ((b + 1 : Nat) : Int)) = St8 h5 := by unfold St8; rw [wr_k (by omega), wr_k (by omega), wr_k (by omega), wr_k (by omega)]
      refine ih (b + 1) _ f (by omega) (by omega) ⟨fun r k z => ?_, a2.fr (fun k => wr_o (by omega)), by rw [wr_k (by omega)]; exact a3, by rw [wr_k (by omega), wr_k (by omega)]; exact a5⟩ wr_s (by rw [wr_k (by omega)]; exact a6) (by rw [s8]; exact a7)
      rw [wr_at, if_neg (fun q => z (by unfold rsc; omega))]; exact a1 r k z
    rw [L_X8_goesThrough_2, h19, i3, if_pos (by omega)]
    refine ex_ct jn_of ?_
    refine ex_ct (bd_of e1) ?_
    by_cases ok : bFl (A58 g) (g 59) l b = 0
    · rw [if_pos ok] at bs
      rw [if_pos ok] at st
      rw [if_pos ok, if_pos (by omega), f56 38 (by omega), w32_s (by omega) (by omega)]
      refine ex_ct (nm_of rfl) ?_
      obtain ⟨h2, e2, F2⟩ := nt (wr h1 56 38 (h 56 38 + 1)) (fun r k z => by rw [wr_at, if_neg (by omega)])
      refine ex_ct (bd_of e2) ?_
      have k2 : ∀ k : Int, ¬ (k = 26 ∨ k = 27 ∨ k = 28 ∨ k = 29 ∨ k = 38) → h2 56 k = h 56 k := fun k z => by rw [F2 56 k (by unfold nvc; omega), wr_k (by omega), f56 k (by omega)]
      have k38 : h2 56 38 = h 56 38 + 1 := by rw [F2 56 38 (by unfold nvc; omega), wr_s]
      have r2 : ∀ r k : Int, ¬ r = 56 → ¬ (67 ≤ r ∧ r ≤ 70) → h2 r k = h1 r k := fun r k z y => by rw [F2 r k (by unfold nvc; omega), wr_o z]
      have Fg2 : Fr rsc g h2 := fun r k z => by
        rw [F2 r k (fun q => z (by unfold nvc at q; unfold rsc; omega)), wr_at, if_neg (fun q => z (by unfold rsc; omega))]; exact Fg1 r k z
      have A2 : Ar h2 64 l := i2.fr (fun k => by rw [r2 64 k (by omega) (by omega), F1 64 k (by unfold ssc; omega)])
      have vb : 0 ≤ bVa (A58 g) (g 59) l b := by
        have q := va_b (q := fun p k => A58 g (9 * l.getD p 0 + k)) (T := g 59) (n := l.length) (b := (b : Int)) (u := fun _ => 0) (by omega) (wq_c (qA_e l9) (wq_L hR lb)) (wt_B hR) (fun _ => by omega)
        exact q
      have cond : ((h2 56 34) = (-9) ∨ (h2 56 34) < bVa (A58 g) (g 59) l b) ↔ ((St8 h).1 = 0 ∨ 0 < (St8 h).2.1 ∨ (0 = (St8 h).2.1 ∧ ((St8 h).2.2.1 < bVa (A58 g) (g 59) l b ∨ (bVa (A58 g) (g 59) l b = (St8 h).2.2.1 ∧ fgs 0 l < (St8 h).2.2.2.1)))) := by
        rw [k2 34 (by omega)]
        show (h 56 34 = -9 ∨ h 56 34 < bVa (A58 g) (g 59) l b) ↔ (h 56 38 = 0 ∨ (0 : Int) < 0 ∨ ((0 : Int) = 0 ∧ (h 56 34 < bVa (A58 g) (g 59) l b ∨ (bVa (A58 g) (g 59) l b = h 56 34 ∧ fgs 0 l < h 56 35))))
        by_cases z : h 56 38 = 0
        · have := i4 z
          omega
        · obtain ⟨_, l0, c0, q0, ok0, v0, f0, p0⟩ := ho.2.1 z
          have f0 : fgs 0 l0 = h 56 35 := f0
          have v0 : bVa (A58 g) (g 59) l0 c0 = h 56 34 := v0
          have le : fgs 0 l0 ≤ fgs 0 l := by
            rcases q0 with q | q
            · have := ord l0 q.1; omega
            · rw [q.1]; exact Int.le_refl _
          constructor
          · rintro (q | q)
            · exact Or.inr (Or.inr ⟨rfl, Or.inl (by omega)⟩)
            · exact Or.inr (Or.inr ⟨rfl, Or.inl q⟩)
          · rintro (q | q | ⟨_, q | q⟩)
            · exact absurd q z
            · omega
            · exact Or.inr q
            · omega
      refine ex_ct jn_of ?_
      by_cases cd : (h2 56 34) = (-9) ∨ (h2 56 34) < bVa (A58 g) (g 59) l b
      · rw [if_pos cd]
        refine ex_ct (nm_of rfl) ?_
        have od := orderOf_e (h := wr h2 56 34 (bVa (A58 g) (g 59) l b)) (l := l) (A2.fr (fun k => wr_o (by omega))) (by rw [wr_k (by omega), k2 18 (by omega), ll]; exact i3) (by omega) (fun x hx => by have := lb x hx; omega)
        refine ex_ct (bd_of od) ?_
        refine ex_ct (nm_of rfl) ?_
        rw [wr_k (by omega), wr_k (by omega), k2 19 (by omega), h19]
        refine ex_ct (nm_of rfl) ?_
        refine nx _ (fun r k z => ?_) (A2.fr (fun k => by rw [wr_o (by omega), wr_o (by omega), wr_o (by omega)])) ?_ ?_ (fun z => ?_) ?_ ?_
        · rw [wr_at, if_neg (fun q => z (by unfold rsc; omega)), wr_at, if_neg (fun q => z (by unfold rsc; omega)), wr_at, if_neg (fun q => z (by unfold rsc; omega))]; exact Fg2 r k z
        · rw [wr_k (by omega), wr_k (by omega), wr_k (by omega), k2 18 (by omega)]; exact i3
        · rw [wr_k (by omega), wr_k (by omega), wr_k (by omega), k2 19 (by omega)]; exact h19
        · rw [wr_k (by omega), wr_k (by omega), wr_k (by omega), k38] at z
          omega
        · rw [wr_k (by omega), wr_k (by omega), wr_k (by omega), k38, bs]; omega
        · have e8 : St8 (wr (wr (wr h2 56 34 (bVa (A58 g) (g 59) l b)) 56 35 (fgs 0 l)) 56 36 (b : Int)) = (h 56 38 + 1, 0, bVa (A58 g) (g 59) l b, fgs 0 l, (b : Int)) := by
            unfold St8
            rw [wr_k (by omega), wr_k (by omega), wr_k (by omega), k38, wr_k (by omega), wr_k (by omega), wr_s, wr_k (by omega), wr_s, wr_s]
          rw [e8]
          have w : wgh (St8 h) 0 (bVa (A58 g) (g 59) l b) (fgs 0 l) b = (h 56 38 + 1, 0, bVa (A58 g) (g 59) l b, fgs 0 l, (b : Int)) := by unfold wgh; exact if_pos (cond.mp cd)
          rw [w] at st
          exact st
      · rw [if_neg cd]
        refine nx h2 Fg2 A2 (by rw [k2 18 (by omega)]; exact i3) (by rw [k2 19 (by omega)]; exact h19) (fun z => ?_) (by rw [k38, bs]; omega) ?_
        · rw [k38] at z; omega
        · have e8 : St8 h2 = (h 56 38 + 1, (St8 h).2) := by
            unfold St8
            rw [k38, k2 34 (by omega), k2 35 (by omega), k2 36 (by omega)]
          rw [e8]
          have w : wgh (St8 h) 0 (bVa (A58 g) (g 59) l b) (fgs 0 l) b = (h 56 38 + 1, (St8 h).2) := by unfold wgh; exact if_neg (fun z => cd (cond.mpr z))
          rw [w] at st
          exact st
    · rw [if_neg ok] at bs
      rw [if_neg ok] at st
      rw [if_neg ok, if_neg (by omega)]
      have e8 : St8 h1 = St8 h := by unfold St8; rw [f56 38 (by omega), f56 34 (by omega), f56 35 (by omega), f56 36 (by omega)]
      exact nx h1 Fg1 (i2.fr (fun k => F1 64 k (by unfold ssc; omega))) (by rw [f56 18 (by omega)]; exact i3) (by rw [f56 19 (by omega)]; exact h19) (by rw [f56 38 (by omega), f56 34 (by omega)]; exact i4) (by rw [f56 38 (by omega), bs]; omega) (by rw [e8]; exact st)
end MB
