/-! best agrees -/
theorem mb1 {g : Mem} {S : List Int} (hR : RR g) (hn : 1 ≤ S.length ∧ S.length ≤ 7) (hS : S.Pairwise (fun a b => a < b)) (hm : ∀ x ∈ S, 0 ≤ x ∧ x < g 56 10) :
    ∀ (B : List (List Int)) (l : List Int) (L1 : List (List Int)) (h : Mem) (f : Nat), perms S.length S = L1 ++ l :: B → ChE (l :: B) none → B.length + 1 < f → MI g S l h → h 56 38 = bAll (A58 g) (g 59) L1 S.length → OptP (A58 g) (g 59) (fun l' c => l' ∈ L1 ∧ 0 ≤ c ∧ c < S.length) (St8 h) →
      ∃ h', L_X8_goesThrough_1 (fun more_44 (h_43 : Mem) => some (0, h_43)) f 1 h = some (0, h') ∧ Fr rsc g h' ∧ (h' 56 38 = 0 → h' 56 34 = -9) ∧ h' 56 38 = bAll (A58 g) (g 59) (perms S.length S) S.length ∧ OptP (A58 g) (g 59) (fun l' c => l' ∈ perms S.length S ∧ 0 ≤ c ∧ c < S.length) (St8 h') := by
  have w9 := wac_n hR
  have pl : (perms S.length S).length ≤ 5040 := by rw [perms_len S.length S rfl]; exact fct_b _ (by omega)
  have mono := fgs_mono S.length S rfl hS (fun x hx => by have := hm x hx; omega)
  intro B
  induction B with
  | nil =>
    intro l L1 h f hL ch hf I hc ho
    obtain ⟨f, rfl⟩ : ∃ g, f = g + 1 := ⟨f - 1, by omega⟩
    obtain ⟨f, rfl⟩ : ∃ g, f = g + 1 := ⟨f - 1, by simp only [List.length_nil] at hf; omega⟩
    have lm : l ∈ perms S.length S := by rw [hL]; exact List.mem_append.mpr (Or.inr List.mem_cons_self)
    have pm := perms_m _ _ _ lm
    have lb : ∀ x ∈ l, 0 ≤ x ∧ x < g 56 10 := fun x hx => hm x (pm.2 x hx)
    have ord : ∀ l' ∈ L1, fgs 0 l' < fgs 0 l := fun l' hl' => by
      rw [hL] at mono
      exact (List.pairwise_append.mp mono).2.2 l' hl' l List.mem_cons_self
    have l1 : L1.length ≤ 5040 := by rw [hL] at pl; simp at pl; omega
    have b1 := bAll_b (A := A58 g) (T := g 59) (L := L1) S.length
    have b2 := mul_b (show (0 : Int) ≤ S.length by omega) (show (S.length : Int) ≤ 7 by omega) (show (0 : Int) ≤ L1.length by omega) (show (L1.length : Int) ≤ 5040 by omega)
    rw [L_X8_goesThrough_1, if_pos (by omega)]
    refine ex_tr (nm_of rfl) ?_
    have s8 : St8 (wr h 56 19 0) = St8 h := by unfold St8; rw [wr_k (by omega), wr_k (by omega), wr_k (by omega), wr_k (by omega)]
    obtain ⟨h2, e2, I2, c2, o2⟩ := mb2 hR hn (l := l) (L1 := L1) (n38 := bAll (A58 g) (g 59) L1 S.length) pm.1 lb ord b1.1 (by omega) 1 (fun (h_37 : Mem) => bd (F_X8_goesOn  h_37) (fun r_38 (h_39 : Mem) => L_X8_goesThrough_1 (fun more_44 (h_43 : Mem) => some (0, h_43)) (f + 1) r_38 h_39)) S.length 0 (wr h 56 19 0) FU (by omega) (by unfold FU; omega) ⟨fun r k z => by rw [wr_at, if_neg (fun q => z (by unfold rsc; omega))]; exact I.1 r k z, I.2.1.fr (fun k => wr_o (by omega)), by rw [wr_k (by omega)]; exact I.2.2.1, by rw [wr_k (by omega), wr_k (by omega)]; exact I.2.2.2⟩ wr_s (by rw [wr_k (by omega), hc, bAll]; omega) (by rw [s8]; exact ho.iff (fun l' c => ⟨Or.inl, fun q => q.elim id (fun z => absurd z.2.2 (by omega))⟩))
    refine ex_tr e2 ?_
    have go := goesOn_e I2.2.1 (by rw [pm.1]; exact I2.2.2.1) (by omega) (by omega) (perms_nd _ _ _ (hS.imp (fun h => by omega)) lm)
    have ne : np l = none := ch
    rcases go with ⟨l', h', e, _⟩ | ⟨_, go⟩
    · rw [ne] at e; cases e
    · refine ex_tr (bd_of go) ?_
      rw [L_X8_goesThrough_1, if_neg (by omega)]
      refine ⟨h2, rfl, I2.1, I2.2.2.2, ?_, ?_⟩
      · rw [c2, hL, bAll_app]
      · refine o2.iff (fun l' c => ?_)
        rw [hL, List.mem_append, List.mem_singleton]
        constructor
        · rintro (q | q)
          · exact ⟨Or.inl q.1, q.2⟩
          · exact ⟨Or.inr q.1, q.2⟩
        · rintro ⟨q | q, r⟩
          · exact Or.inl ⟨q, r⟩
          · exact Or.inr ⟨q, r⟩
  | cons m B ih =>
    intro l L1 h f hL ch hf I hc ho
    obtain ⟨f, rfl⟩ : ∃ g, f = g + 1 := ⟨f - 1, by omega⟩
    simp only [List.length_cons] at hf
    have lm : l ∈ perms S.length S := by rw [hL]; exact List.mem_append.mpr (Or.inr List.mem_cons_self)
    have pm := perms_m _ _ _ lm
    have lb : ∀ x ∈ l, 0 ≤ x ∧ x < g 56 10 := fun x hx => hm x (pm.2 x hx)
    have ord : ∀ l' ∈ L1, fgs 0 l' < fgs 0 l := fun l' hl' => by
      rw [hL] at mono
      exact (List.pairwise_append.mp mono).2.2 l' hl' l List.mem_cons_self
    have l1 : L1.length ≤ 5040 := by rw [hL] at pl; simp at pl; omega
    have b1 := bAll_b (A := A58 g) (T := g 59) (L := L1) S.length
    have b2 := mul_b (show (0 : Int) ≤ S.length by omega) (show (S.length : Int) ≤ 7 by omega) (show (0 : Int) ≤ L1.length by omega) (show (L1.length : Int) ≤ 5040 by omega)
    rw [L_X8_goesThrough_1, if_pos (by omega)]
    refine ex_tr (nm_of rfl) ?_
    have s8 : St8 (wr h 56 19 0) = St8 h := by unfold St8; rw [wr_k (by omega), wr_k (by omega), wr_k (by omega), wr_k (by omega)]
    obtain ⟨h2, e2, I2, c2, o2⟩ := mb2 hR hn (l := l) (L1 := L1) (n38 := bAll (A58 g) (g 59) L1 S.length) pm.1 lb ord b1.1 (by omega) 1 (fun (h_37 : Mem) => bd (F_X8_goesOn  h_37) (fun r_38 (h_39 : Mem) => L_X8_goesThrough_1 (fun more_44 (h_43 : Mem) => some (0, h_43)) f r_38 h_39)) S.length 0 (wr h 56 19 0) FU (by omega) (by unfold FU; omega) ⟨fun r k z => by rw [wr_at, if_neg (fun q => z (by unfold rsc; omega))]; exact I.1 r k z, I.2.1.fr (fun k => wr_o (by omega)), by rw [wr_k (by omega)]; exact I.2.2.1, by rw [wr_k (by omega), wr_k (by omega)]; exact I.2.2.2⟩ wr_s (by rw [wr_k (by omega), hc, bAll]; omega) (by rw [s8]; exact ho.iff (fun l' c => ⟨Or.inl, fun q => q.elim id (fun z => absurd z.2.2 (by omega))⟩))
    refine ex_tr e2 ?_
    have go := goesOn_e I2.2.1 (by rw [pm.1]; exact I2.2.2.1) (by omega) (by omega) (perms_nd _ _ _ (hS.imp (fun h => by omega)) lm)
    have ne : np l = some m := ch.1
    rcases go with ⟨l', h3, e, go, F3, A3⟩ | ⟨e, _⟩
    · rw [ne] at e
      have : m = l' := Option.some.inj e
      subst this
      refine ex_tr (bd_of go) ?_
      have f56 : ∀ k, h3 56 k = h2 56 k := fun k => F3 56 k (by unfold onr; omega)
      have s3 : St8 h3 = St8 h2 := by unfold St8; rw [f56, f56, f56, f56]
      refine ih m (L1 ++ [l]) h3 f (by rw [hL]; simp) ch.2 (by omega) ⟨I2.1.trans (F3.mono (fun _ _ => onr_r (Or.inr rfl))), A3, by rw [f56]; exact I2.2.2.1, by rw [f56, f56]; exact I2.2.2.2⟩ (by rw [f56, c2, bAll_app]) ?_
      rw [s3]
      refine o2.iff (fun l' c => ?_)
      rw [List.mem_append, List.mem_singleton]
      constructor
      · rintro (q | q)
        · exact ⟨Or.inl q.1, q.2⟩
        · exact ⟨Or.inr q.1, q.2⟩
      · rintro ⟨q | q, r⟩
        · exact Or.inl ⟨q, r⟩
        · exact Or.inr ⟨q, r⟩
    · rw [ne] at e; cases e
theorem mbest {g : Mem} {n : Nat} (hR : RR g) (hn : g 61 0 = (n : Int)) (h1n : 1 ≤ n) (h7 : n ≤ 7) :
    ∃ h', F_X8_goesThrough g = some (0, h') ∧ Fr rsc g h' ∧ (h' 56 38 = 0 → h' 56 34 = -9) ∧ (¬ h' 56 38 = 0 → ¬ h' 56 34 = -9) ∧ BestOf (A58 g) (g 59) (onL g) (h' 56 38) (h' 56 34) (h' 56 35) (h' 56 36) := by
  have w9 := wac_n hR
  have ol := on_len hR hn
  obtain ⟨a1, a2, f1, f2, Fa, Fb, Aa, n18, n19⟩ := msort hR hn
  have hm : ∀ x ∈ onL g, 0 ≤ x ∧ x < g 56 10 := fun x hx => row_b hR ((on_m hR).mp hx)
  obtain ⟨⟨M, hM⟩, _, ch⟩ := perms_ch (onL g).length (onL g) rfl (linL_p _ _ _)
  have pl : (perms (onL g).length (onL g)).length ≤ 5040 := by rw [perms_len _ _ rfl]; exact fct_b _ (by omega)
  have G : Fr rsc g (wr (wr a2 56 34 (-9)) 56 38 0) := fun r k z => by
    rw [wr_at, if_neg (fun q => z (by unfold rsc; omega)), wr_at, if_neg (fun q => z (by unfold rsc; omega)), Fb r k (fun q => z (onr_r (Or.inr rfl) q)), Fa r k (fun q => z (asc_r q))]
  obtain ⟨h', e, F, i, c, o⟩ := mb1 hR (S := onL g) (by omega) (linL_p _ _ _) hm M (onL g) [] (wr (wr a2 56 34 (-9)) 56 38 0) FU (by rw [hM]; rfl) (by rw [← hM]; exact ch) (by rw [hM] at pl; simp at pl; unfold FU; omega) ⟨G, Aa.fr (fun k => by rw [wr_o (by omega), wr_o (by omega)]), by rw [wr_k (by omega), wr_k (by omega), ol]; exact n18, fun _ => by rw [wr_k (by omega), wr_s]⟩ (by
      rw [wr_s]
      have : ∀ k, bAll (A58 g) (g 59) [] k = 0 := by
        intro k
        induction k with
        | zero => rfl
        | succ k ih => rw [bAll, ih]; rfl
      rw [this]) ⟨by show 0 ≤ (wr (wr a2 56 34 (-9)) 56 38 0) 56 38; rw [wr_s]; omega, fun z => absurd (show (St8 (wr (wr a2 56 34 (-9)) 56 38 0)).1 = 0 by show (wr (wr a2 56 34 (-9)) 56 38 0) 56 38 = 0; rw [wr_s]) z, fun l c q => absurd q.1 List.not_mem_nil⟩
  refine ⟨h', ?_, F, i, fun nz => ?_, opt_best o c⟩
  · unfold F_X8_goesThrough
    refine (bd_of f1).trans ?_
    refine (bd_of f2).trans ?_
    refine (nm_of rfl).trans ?_
    refine (nm_of rfl).trans ?_
    exact e
  · obtain ⟨_, l0, c0, q0, ok0, v0, f0, p0⟩ := o.2.1 nz
    have v0 : bVa (A58 g) (g 59) l0 c0 = h' 56 34 := v0
    have pm := perms_m _ _ _ q0.1
    have vb : 0 ≤ bVa (A58 g) (g 59) l0 c0 := va_b (q := fun p k => A58 g (9 * l0.getD p 0 + k)) (T := g 59) (n := l0.length) (b := c0) (u := fun _ => 0) (by omega) (wq_c (qA_e (fun x hx => by have := hm x (pm.2 x hx); omega)) (wq_L hR (fun x hx => hm x (pm.2 x hx)))) (wt_B hR) (fun _ => by omega)
    omega
theorem op_best (what : Int) : OP (F_X7_best what) (F_X8_best what) := by
  intro h hR
  obtain ⟨n, e0, e9, e26, eb⟩ := n_B hR
  have w9 := wac_n hR
  by_cases v : 0 ≤ what ∧ what ≤ 3
  · by_cases z : 1 ≤ n ∧ n ≤ 7
    · -- the class
      obtain ⟨h1, e1, F1, R1, B1⟩ : ∃ h1, F_X7_searchBest h = some (0, h1) ∧ (∀ r k, ¬ bsc r k → ¬ (r = 1 ∧ k = 11) → h1 r k = h r k) ∧ RR h1 ∧ BestOf (A58 h) (h 59) (onL h) (h1 45 3) (h1 45 5) (h1 45 6) (h1 45 7) := by
        rcases hR.2.2.2.2.2.2.2.2.2 with k | ⟨k, kb⟩
        · obtain ⟨h1, e1, F1, k1, B1⟩ := csb hR e0 z.1 z.2 k
          refine ⟨h1, e1, F1, ?_, B1⟩
          have p := hR.ps
          have hW : ∀ r k : Int, ¬ (r = 33 ∨ (35 ≤ r ∧ r ≤ 50) ∨ r = 55) → ¬ (r = 1 ∧ k = 11) → h1 r k = h r k := fun r k a b => F1 r k (by unfold bsc scr; omega) b
          refine RR.of (fCC (fun r k d => hW r k (by unfold dCC at d; omega) (by unfold dCC at d; omega)) p.1) (fTx (fun r k d => hW r k (by unfold dTx at d; omega) (by unfold dTx at d; omega)) p.2.1) (fAc (fun r k d => hW r k (by unfold dAc at d; omega) (by unfold dAc at d; omega)) (c_B hR).2 p.2.2.1) (fTu (fun r k d => hW r k (by unfold dTu at d; omega) (by unfold dTu at d; omega)) p.2.2.2.1) (fB (fun r k d => hW r k (by unfold dB at d; omega) (by unfold dB at d; omega)) p.2.2.2.2.1) (fIm (fun r k d => hW r k (by unfold dIm at d; omega) (by unfold dIm at d; omega)) p.2.2.2.2.2.1) (fMk (fun r k d => hW r k (by unfold dMk at d; omega) (by unfold dMk at d; omega)) p.2.2.2.2.2.2.1) (fTr (fun r k d => hW r k (by unfold dTr at d; omega) (by unfold dTr at d; omega)) p.2.2.2.2.2.2.2.1) ?_
          · right
            have x61 : h1 61 = h 61 := funext (fun k => F1 61 k (by unfold bsc scr; omega) (by omega))
            have x59 : h1 59 = h 59 := funext (fun k => F1 59 k (by unfold bsc scr; omega) (by omega))
            have xA : A58 h1 = A58 h := by funext k; unfold A58; rw [F1 58 k (by unfold bsc scr; omega) (by omega)]
            have xr : rowL h1 61 0 = rowL h 61 0 := by unfold rowL; rw [x61]
            refine ⟨k1, ?_⟩
            rw [xr, srtI_on hR, xA, x59]; exact B1
        · refine ⟨h, ?_, fun _ _ _ _ => rfl, hR, ?_⟩
          · unfold F_X7_searchBest
            rw [if_pos (by omega)]
          · rw [srtI_on hR] at kb; exact kb
      -- the reference
      have Rg := R1.g0 (Fr.rfl (P := scr))
      have G : ∀ r k, ¬ bsc r k → ¬ (r = 1 ∧ k = 11) → ¬ (r = 56 ∧ k = 0) → (wr h1 56 0 0) r k = h r k := fun r k a b c => by rw [wr_at, if_neg c]; exact F1 r k a b
      have g61 : (wr h1 56 0 0) 61 = h 61 := funext (fun k => G 61 k (by unfold bsc scr; omega) (by omega) (by omega))
      have g59 : (wr h1 56 0 0) 59 = h 59 := funext (fun k => G 59 k (by unfold bsc scr; omega) (by omega) (by omega))
      have g10 : (wr h1 56 0 0) 56 10 = h 56 10 := G 56 10 (by unfold bsc scr; omega) (by omega) (by omega)
      have gA' : A58 (wr h1 56 0 0) = A58 h := by funext k; unfold A58; rw [G 58 k (by unfold bsc scr; omega) (by omega) (by omega)]
      obtain ⟨h2, e2, F2, i2, i3, B2⟩ := mbest Rg (n := n) (by rw [g61]; exact e0) z.1 z.2
      rw [gA', g59, on_fr g61 g10] at B2
      have u := best_uniq B1 B2
      have b26 : h1 26 1 = (n : Int) := by rw [F1 26 1 (by unfold bsc scr; omega) (by omega)]; exact e26
      refine ⟨if what = 3 then h2 56 38 else if h2 56 38 = 0 then -9 else if what = 0 then h2 56 34 else if what = 1 then h2 56 35 else h2 56 36, h1, h2, ?_, ?_, Rg.fr F2⟩
      · unfold F_X7_best
        rw [if_neg (by omega), if_neg (by omega)]
        refine (bd_of e1).trans ?_
        by_cases c3 : what = 3
        · rw [if_pos c3, if_pos c3, u.1]
        · rw [if_neg c3, if_neg c3]
          by_cases c0 : h2 56 38 = 0
          · rw [if_pos (by rw [u.1]; exact c0), if_pos c0]
          · have q := u.2 (by rw [u.1]; exact c0)
            rw [if_neg (by rw [u.1]; exact c0), if_neg c0, q.1, q.2.1, q.2.2]
            by_cases d0 : what = 0
            · rw [if_pos d0, if_pos d0]
            · by_cases d1 : what = 1
              · rw [if_neg d0, if_neg d0, if_pos d1, if_pos d1]
              · rw [if_neg d0, if_neg d0, if_neg d1, if_neg d1]
      · unfold F_X8_best
        refine (nm_of rfl).trans ?_
        refine (bd_of (in_t v.1 v.2)).trans ?_
        rw [if_pos (by omega), g61, e0]
        refine (bd_of (in_t (by omega) (by omega))).trans ?_
        rw [if_pos (by omega)]
        refine (bd_of e2).trans ?_
        by_cases c3 : what = 3
        · rw [if_pos c3, if_pos c3]
        · rw [if_neg c3, if_neg c3]
          by_cases c0 : h2 56 38 = 0
          · rw [if_pos (Or.inl (i2 c0)), if_pos c0, i2 c0]
          · have n9 := i3 c0
            rw [if_neg c0]
            by_cases d0 : what = 0
            · rw [if_pos (Or.inr d0), if_pos d0]
            · rw [if_neg (fun q => q.elim n9 d0), if_neg d0]
              by_cases d1 : what = 1
              · rw [if_pos d1, if_pos d1]
              · rw [if_neg d1, if_neg d1]
    · refine ⟨-2, h, wr h 56 0 0, ?_, ?_, hR.g0 Fr.rfl⟩
      · unfold F_X7_best
        rw [if_neg (by omega), if_pos (by omega)]
      · unfold F_X8_best
        refine (nm_of rfl).trans ?_
        refine (bd_of (in_t v.1 v.2)).trans ?_
        rw [if_pos (by omega), wr_o (by omega)]
        refine (bd_of (in_f (by omega))).trans ?_
        rw [if_neg (by omega)]
  · refine ⟨-1, h, wr h 56 0 0, ?_, ?_, hR.g0 Fr.rfl⟩
    · unfold F_X7_best
      rw [if_pos (by omega)]
    · unfold F_X8_best
      refine (nm_of rfl).trans ?_
      refine (bd_of (in_f (by omega))).trans ?_
      rw [if_neg (by omega)]
