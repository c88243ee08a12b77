/-! best: the class -/
theorem wq_c {q q' : Nat → Int → Int} {n : Nat} (e : E9 q q' n) (h : WQ q n) : WQ q' n := fun j hj => by
  have x := h j hj
  rw [e j hj 0 (by omega) (by omega), e j hj 1 (by omega) (by omega), e j hj 2 (by omega) (by omega), e j hj 3 (by omega) (by omega), e j hj 4 (by omega) (by omega), e j hj 5 (by omega) (by omega), e j hj 6 (by omega) (by omega), e j hj 7 (by omega) (by omega), e j hj 8 (by omega) (by omega)] at x
  exact x
theorem A58_e {h : Mem} {x k : Int} (hx : x < 9) (hk : k ≤ 8) : A58 h (9 * x + k) = h 58 (9 * x + k) := by unfold A58; rw [if_pos (by omega)]
theorem qA_e {h : Mem} {l : List Int} (hl : ∀ x ∈ l, x < 9) : E9 (qL h l) (qA (A58 h) l) l.length := fun j hj k _ k8 => by
  unfold qL qA
  rw [A58_e (hl _ (getD_mem hj)) k8]
theorem bA_e {h : Mem} {l : List Int} {T : Int → Int} {b : Int} (h1 : 0 < l.length) (hl : ∀ x ∈ l, x < 9) : bFl (h 58) T l b = bFl (A58 h) T l b ∧ bVa (h 58) T l b = bVa (A58 h) T l b :=
  ⟨congrArg Prod.fst (fl_c l.length (qA_e hl) (fun _ _ => rfl)), va_c h1 (qA_e hl)⟩
def bsc (r k : Int) : Prop := scr r k ∨ (45 ≤ r ∧ r ≤ 50) ∨ r = 55
theorem bsc_ne {one k : Int} (h : okO 0 one = true) : ¬ bsc one k := by
  have := ok0_ne h
  unfold bsc scr
  omega
/-- the pool of a search, over a state -/
theorem bg_of {h g : Mem} {S : List Int} {o : Int} {hm : Nat → Int} (hR : RR h) (ho : o = 45 ∨ o = 48) (hS : S.Pairwise (fun a b => a < b)) (hn : 1 ≤ S.length ∧ S.length ≤ 7) (hm' : ∀ x ∈ S, 0 ≤ x ∧ x < h 56 10) (hF : ∀ r k, ¬ bsc r k → g r k = h r k) (g2 : g o 2 = (S.length : Int)) (gp : ∀ k : Nat, k < S.length → g (o + 1) k = h 1 1 + 2 + S.getD k 0 ∧ g (o + 2) k = hm k) : BG (A58 h) (h 59) S (h 1 1) o hm g := by
  have w9 := wac_n hR
  refine ⟨ho, hS, hn, g2, gp, fun x hx => ?_, fun k k0 k1 => ?_, wt_B hR, fun l hl => ?_⟩
  · have q := hm' x hx
    obtain ⟨a1, a2, a3⟩ := aq_L hR q
    have f : ∀ k, g (h 1 1 + 2 + x) k = h (h 1 1 + 2 + x) k := fun k => hF _ k (bsc_ne a3)
    refine ⟨by omega, ?_, by rw [f]; exact a2, a3⟩
    have z : 9 * x + 0 = 9 * x := by omega
    unfold AQ at a1 ⊢
    simp only [f]
    rw [A58_e (by omega) (by omega), A58_e (by omega) (by omega), A58_e (by omega) (by omega), A58_e (by omega) (by omega), A58_e (by omega) (by omega), A58_e (by omega) (by omega), A58_e (by omega) (by omega), A58_e (by omega) (by omega), A58_e (by omega) (by omega)]
    exact a1
  · rw [hF 34 k (by unfold bsc scr; omega)]; exact hR.2.2.2.1 k k0 k1
  · have q : ∀ x ∈ l, 0 ≤ x ∧ x < h 56 10 := fun x hx => hm' x (hl x hx)
    exact wq_c (qA_e (fun x hx => by have := q x hx; omega)) (wq_L hR q)
theorem pool1 {h g : Mem} {S : List Int} (hR : RR h) (hn : S.length ≤ 7) (hm' : ∀ x ∈ S, 0 ≤ x ∧ x < h 56 10) (hF : ∀ r k, ¬ bsc r k → g r k = h r k) (hA : Ar g 55 S) (Kx : Int → Mem → Res) :
    ∃ g2, L_X7_searchBest_1 (S.length : Int) Kx FU 0 g = Kx S.length g2 ∧ (∀ r k, ¬ (r = 46 ∨ r = 47) → g2 r k = g r k) ∧ ∀ k : Nat, k < S.length → g2 46 k = h 1 1 + 2 + S.getD k 0 ∧ g2 47 k = -9 := by
  have w9 := wac_n hR
  have key : ∀ (d k : Nat) (g1 : Mem) (f : Nat), k + d = S.length → d < f → (∀ r k, ¬ (r = 46 ∨ r = 47) → g1 r k = g r k) → (∀ j : Nat, j < k → g1 46 j = h 1 1 + 2 + S.getD j 0 ∧ g1 47 j = -9) →
      ∃ g2, L_X7_searchBest_1 (S.length : Int) Kx f k g1 = Kx S.length g2 ∧ (∀ r k, ¬ (r = 46 ∨ r = 47) → g2 r k = g r k) ∧ ∀ k : Nat, k < S.length → g2 46 k = h 1 1 + 2 + S.getD k 0 ∧ g2 47 k = -9 := by
    intro d
    induction d with
    | zero =>
      intro k g1 f hk hf hF1 hI
      obtain ⟨f, rfl⟩ : ∃ g, f = g + 1 := ⟨f - 1, by omega⟩
      have e : k = S.length := by omega
      subst e
      exact ⟨g1, by rw [L_X7_searchBest_1, if_neg (by omega)], hF1, hI⟩
    | succ d ih =>
      intro k g1 f hk hf hF1 hI
      obtain ⟨f, rfl⟩ : ∃ g, f = g + 1 := ⟨f - 1, by omega⟩
      have q := hm' _ (getD_mem (l := S) (p := k) (by omega))
      have e55 : g1 55 k = S.getD k 0 := by rw [hF1 55 k (by omega)]; exact hA.at (by omega)
      have c1 : g1 1 1 = h 1 1 := by rw [hF1 1 1 (by omega)]; exact hF 1 1 (by unfold bsc scr; omega)
      rw [L_X7_searchBest_1, if_pos (by omega)]
      refine ex_ct (nm_of c1) ?_
      refine ex_ct (gd_of (c_B hR).1) ?_
      refine ex_ct (gd_of (by omega)) ?_
      rw [e55]
      refine ex_ct (gd_of (by omega)) ?_
      refine ex_ct (gd_of (by omega)) ?_
      refine ex_ct (nm_of rfl) ?_
      refine ex_ct (nm_of rfl) ?_
      refine ex_ct (nm_of (w32_n (by omega))) ?_
      refine ih (k + 1) _ f (by omega) (by omega) (fun r k' z => by rw [wr_o (by omega), wr_o (by omega)]; exact hF1 r k' z) (fun j hj => ?_)
      by_cases z : j = k
      · subst z
        rw [wr_o (by omega), wr_s, wr_s]; exact ⟨rfl, rfl⟩
      · rw [wr_o (by omega), wr_k (by omega), wr_k (by omega), wr_o (by omega)]; exact hI j (by omega)
  exact key S.length 0 g FU (by omega) (by unfold FU; omega) (fun _ _ _ => rfl) (fun j hj => absurd hj (by omega))
theorem bAll_b {A T : Int → Int} {L : List (List Int)} : ∀ k : Nat, 0 ≤ bAll A T L k ∧ bAll A T L k ≤ k * L.length
  | 0 => by rw [bAll]; simp
  | k + 1 => by
    have ih := bAll_b (A := A) (T := T) (L := L) k
    have c : bCn A T L k ≤ L.length := by unfold bCn; have := List.countP_le_length (p := fun l => bFl A T l k == 0) (l := L); omega
    have c0 : 0 ≤ bCn A T L k := by unfold bCn; omega
    rw [bAll, show ((k + 1 : Nat) : Int) = (k : Int) + 1 by omega, Int.add_mul, Int.one_mul]
    generalize (k : Int) * (L.length : Int) = x at *
    omega
theorem csb {h : Mem} {n : Nat} (hR : RR h) (hn : h 61 0 = (n : Int)) (h1n : 1 ≤ n) (h7 : n ≤ 7) (hk : h 1 11 = 0) :
    ∃ h1, F_X7_searchBest h = some (0, h1) ∧ (∀ r k, ¬ bsc r k → ¬ (r = 1 ∧ k = 11) → h1 r k = h r k) ∧ h1 1 11 = 1 ∧ BestOf (A58 h) (h 59) (onL h) (h1 45 3) (h1 45 5) (h1 45 6) (h1 45 7) := by
  have w9 := wac_n hR
  have ol := on_len hR hn
  obtain ⟨a1, e1, F1, A1⟩ := lineUp_e (w := -9) hR
  have A1 : Ar a1 55 (onL h) := A1
  have e1 : F_X7_lineUp (-9) h = some ((n : Int), a1) := by
    have : (linL (rowL h 61 0) (-9) (h 56 10).toNat).length = n := ol
    rw [e1, this]
  have hm' : ∀ x ∈ onL h, 0 ≤ x ∧ x < h 56 10 := fun x hx => row_b hR ((on_m hR).mp hx)
  have eb : F_X5_begin 45 (n : Int) a1 = some (0, wr (wr a1 45 2 (n : Int)) 45 3 0) := by
    unfold F_X5_begin
    have : mnI (n : Int) 7 = (n : Int) := by unfold mnI; rw [if_neg (by omega)]
    rw [this]; rfl
  have Fa : ∀ r k, ¬ bsc r k → (wr (wr a1 45 2 (n : Int)) 45 3 0) r k = h r k := fun r k q => by
    unfold bsc at q
    rw [wr_o (by omega), wr_o (by omega)]; exact F1 r k (by unfold onr; omega)
  obtain ⟨a2, e2, F2, p2⟩ := pool1 (h := h) (g := wr (wr a1 45 2 (n : Int)) 45 3 0) (S := onL h) hR (by omega) hm' Fa (A1.fr (fun k => by rw [wr_o (by omega), wr_o (by omega)])) (fun k_19 (h_18 : Mem) => L_X7_searchBest_2 (n : Int) (fun b_31 (h_30 : Mem) => nm (wr h_30 1 11 1) (fun (h_32 : Mem) => some (0, h_32))) FU 0 h_18)
  rw [ol] at e2
  have key : ∀ (d b : Nat) (g : Mem) (f : Nat), b + d = n → d < f → (∀ r k, ¬ bsc r k → g r k = h r k) → g 45 2 = (n : Int) → (∀ k : Nat, k < n → g 46 k = h 1 1 + 2 + (onL h).getD k 0 ∧ g 47 k = -9) → 0 ≤ g 45 3 → g 45 3 ≤ 823543 * b → g 45 3 = bAll (A58 h) (h 59) (perms n (onL h)) b → OptP (A58 h) (h 59) (fun l c => l ∈ perms n (onL h) ∧ 0 ≤ c ∧ c < b) (St 45 g) →
      ∃ h2, L_X7_searchBest_2 (n : Int) (fun b_31 (h_30 : Mem) => nm (wr h_30 1 11 1) (fun (h_32 : Mem) => some (0, h_32))) f b g = some (0, h2) ∧ (∀ r k, ¬ bsc r k → ¬ (r = 1 ∧ k = 11) → h2 r k = h r k) ∧ h2 1 11 = 1 ∧ BestOf (A58 h) (h 59) (onL h) (h2 45 3) (h2 45 5) (h2 45 6) (h2 45 7) := by
    intro d
    induction d with
    | zero =>
      intro b g f hb hf hF g2 gp s0 s1 sc so
      obtain ⟨f, rfl⟩ : ∃ g, f = g + 1 := ⟨f - 1, by omega⟩
      have e : b = n := by omega
      subst e
      refine ⟨wr g 1 11 1, ?_, fun r k q z => by rw [wr_at, if_neg z]; exact hF r k q, wr_s, ?_⟩
      · rw [L_X7_searchBest_2, if_neg (by omega)]; rfl
      · rw [wr_o (by omega), wr_o (by omega), wr_o (by omega), wr_o (by omega)]
        rw [← ol] at sc so
        exact opt_best so sc
    | succ d ih =>
      intro b g f hb hf hF g2 gp s0 s1 sc so
      obtain ⟨f, rfl⟩ : ∃ g, f = g + 1 := ⟨f - 1, by omega⟩
      have Fo : ∀ r k, ¬ bsc r k → (wr (wr (wr g 33 11 (n : Int)) 33 12 (b : Int)) 33 13 0) r k = h r k := fun r k q => by
        have q' := q
        unfold bsc scr at q
        rw [wr_o (by omega), wr_o (by omega), wr_o (by omega)]; exact hF r k q'
      have BGo : BG (A58 h) (h 59) (onL h) (h 1 1) 45 (fun _ => -9) (wr (wr (wr g 33 11 (n : Int)) 33 12 (b : Int)) 33 13 0) := bg_of hR (Or.inl rfl) (linL_p _ _ _) (by omega) hm' Fo (by rw [wr_o (by omega), wr_o (by omega), wr_o (by omega), ol]; exact g2) (fun k hk => by
        rw [ol] at hk
        rw [wr_o (by omega), wr_o (by omega), wr_o (by omega), wr_o (by omega), wr_o (by omega), wr_o (by omega)]; exact gp k hk)
      have so3 : St 45 (wr (wr (wr g 33 11 (n : Int)) 33 12 (b : Int)) 33 13 0) = St 45 g := by
        unfold St
        rw [wr_o (by omega), wr_o (by omega), wr_o (by omega), wr_o (by omega), wr_o (by omega), wr_o (by omega), wr_o (by omega), wr_o (by omega), wr_o (by omega), wr_o (by omega), wr_o (by omega), wr_o (by omega), wr_o (by omega), wr_o (by omega), wr_o (by omega)]
      have o3 : (wr (wr (wr g 33 11 (n : Int)) 33 12 (b : Int)) 33 13 0) 45 3 = g 45 3 := by rw [wr_o (by omega), wr_o (by omega), wr_o (by omega)]
      have o2 : (wr (wr (wr g 33 11 (n : Int)) 33 12 (b : Int)) 33 13 0) 45 2 = g 45 2 := by rw [wr_o (by omega), wr_o (by omega), wr_o (by omega)]
      have o4 : ∀ (r k : Int), r = 46 ∨ r = 47 → (wr (wr (wr g 33 11 (n : Int)) 33 12 (b : Int)) 33 13 0) r k = g r k := fun r k q => by rw [wr_o (by omega), wr_o (by omega), wr_o (by omega)]
      obtain ⟨g3, e3, E3, s3, m1, m2⟩ := run_e BGo (b := (b : Int)) (by omega) (by omega) (by rw [wr_k (by omega), wr_k (by omega), wr_s, ol]) (by rw [wr_k (by omega), wr_s]) wr_s (by rw [o3]; exact s0) (by rw [o3]; omega)
      rw [so3, ol] at s3
      rw [o3] at m1 m2
      have cnt := congrArg Prod.fst s3
      rw [Gs_cnt] at cnt
      have cnt : g3 45 3 = g 45 3 + bCn (A58 h) (h 59) (perms n (onL h)) b := cnt
      rw [L_X7_searchBest_2, if_pos (by omega)]
      refine ex_tr (bd_of (v := 0) (h := wr (wr (wr g 33 11 (n : Int)) 33 12 (b : Int)) 33 13 0) rfl) ?_
      refine ex_tr (bd_of e3) ?_
      refine ex_tr (nm_of (w32_n (by omega))) ?_
      refine ih (b + 1) g3 f (by omega) (by omega) (fun r k q => ?_) ?_ (fun k hk => ?_) (by omega) (by omega) (by rw [cnt, sc, bAll]) ?_
      · have q' := q
        unfold bsc scr at q
        rw [E3.1 r k (by omega) (by omega) (by omega)]; exact Fo r k q'
      · rw [E3.1 45 2 (by omega) (by omega) (by omega), o2]; exact g2
      · rw [E3.1 46 k (by omega) (by omega) (by omega), E3.1 47 k (by omega) (by omega) (by omega), o4 46 k (Or.inl rfl), o4 47 k (Or.inr rfl)]; exact gp k hk
      · rw [s3]
        refine (opt_pass (b := (b : Int)) (fun l' c' q => by omega) _ _ so).iff (fun l c => ?_)
        constructor
        · rintro (⟨q1, q2, q3⟩ | ⟨q1, q2⟩)
          · exact ⟨q1, q2, by omega⟩
          · exact ⟨q1, by omega, by omega⟩
        · rintro ⟨q1, q2, q3⟩
          by_cases z : c = (b : Int)
          · exact Or.inr ⟨q1, z⟩
          · exact Or.inl ⟨q1, q2, by omega⟩
  have f3 : a2 45 3 = 0 := by rw [F2 45 3 (by omega), wr_s]
  obtain ⟨h2, e3, r3⟩ := key n 0 a2 FU (by omega) (by unfold FU; omega) (fun r k q => by
      have q' := q
      unfold bsc at q
      rw [F2 r k (by omega)]; exact Fa r k q') (by rw [F2 45 2 (by omega), wr_k (by omega), wr_s]) (fun k hk => p2 k (by omega)) (by rw [f3]; omega) (by rw [f3]; omega) (by rw [f3]; rfl) ⟨by show 0 ≤ a2 45 3; omega, fun z => absurd f3 z, fun l c q => absurd q.2.2 (by omega)⟩
  refine ⟨h2, ?_, r3⟩
  unfold F_X7_searchBest
  rw [if_neg (by omega)]
  refine (bd_of e1).trans ?_
  refine (bd_of eb).trans ?_
  exact e2.trans e3
