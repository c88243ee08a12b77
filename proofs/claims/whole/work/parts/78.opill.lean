/-! ill agrees -/
section MIll
variable {g : Mem} {S CL : List Int} {b : Int} {hm : Nat → Int}
theorem moved_e {h : Mem} {l : List Int} (hA : Ar h 64 l) (hC : ∀ p : Nat, p < l.length → h 74 p = hm p ∧ 0 ≤ hm p) (hn : h 56 18 = (l.length : Int)) (h9 : l.length ≤ 10) : F_X8_movedOf h = some (awF hm 0 l, h) := by
  have key : ∀ (B A : List Int) (v : Int) (f : Nat), l = A ++ B → 0 ≤ v → v ≤ A.length → B.length < f → L_X8_movedOf_1 (fun n_13 p_14 (h_12 : Mem) => some (n_13, h_12)) f v (A.length : Int) h = some (v + awF hm A.length B, h) := by
    intro B
    induction B with
    | nil =>
      intro A v f he v0 v1 hf
      obtain ⟨f, rfl⟩ : ∃ g, f = g + 1 := ⟨f - 1, by omega⟩
      rw [List.append_nil] at he
      rw [L_X8_movedOf_1, hn, he, if_neg (by omega), awF, Int.add_zero]
    | cons x B ih =>
      intro A v f he v0 v1 hf
      obtain ⟨f, rfl⟩ : ∃ g, f = g + 1 := ⟨f - 1, by omega⟩
      simp only [List.length_cons] at hf
      have hlen : A.length + (B.length + 1) = l.length := by rw [he]; simp
      have ar : h 64 (A.length : Int) = x := hA _ _ (by rw [he, List.getElem?_append_right (Nat.le_refl _), Nat.sub_self]; rfl)
      have hc := hC A.length (by omega)
      have al : (A ++ [x]).length = A.length + 1 := by simp
      rw [L_X8_movedOf_1, hn, if_pos (by omega)]
      refine jn_of.trans ?_
      refine (gd_of (by omega)).trans ?_
      rw [ar, hc.1, awF]
      by_cases c : x = hm A.length
      · have nx := ih (A ++ [x]) v f (by rw [he]; simp) v0 (by rw [al]; omega) (by omega)
        rw [al] at nx
        rw [if_pos c, if_pos (Or.inr c.symm)]
        refine (nm_of (e' := v) (by rw [w32_s (by omega) (by omega)]; omega)).trans ?_
        refine (nm_of (w32_n (by omega))).trans ?_
        rw [nx, Int.zero_add]
      · have nx := ih (A ++ [x]) (v + 1) f (by rw [he]; simp) (by omega) (by rw [al]; omega) (by omega)
        rw [al] at nx
        rw [if_neg c, if_neg (fun z => by
          rcases z with z | z
          · omega
          · exact c z.symm)]
        refine (nm_of (e' := v + 1) (w32_s (by omega) (by omega))).trans ?_
        refine (nm_of (w32_n (by omega))).trans ?_
        rw [nx, Int.add_assoc]
  have k := key l [] 0 FU rfl (by omega) (by simp) (by unfold FU; omega)
  rw [Int.zero_add] at k
  exact k
/-- how the reference's best is the class's -/
def rel (L1 : List (List Int)) (s : S5) (h : Mem) : Prop := 0 ≤ s.1 ∧ ((s.1 = 0 ∧ h 56 37 = -9) ∨ (¬ s.1 = 0 ∧ s.2.1 = h 56 37 ∧ 0 ≤ h 56 37 ∧ s.2.2.1 = h 56 34 ∧ s.2.2.2.1 = h 56 35 ∧ ∃ l0 ∈ L1, fgs 0 l0 = h 56 35))
def MJ (g : Mem) (S : List Int) (hm : Nat → Int) (b : Int) (l : List Int) (h : Mem) : Prop := Fr rsc g h ∧ Ar h 64 l ∧ h 56 18 = (S.length : Int) ∧ h 56 19 = b ∧ ∀ p : Nat, p < S.length → h 74 p = hm p ∧ 0 ≤ hm p
theorem mill_s (hR : RR g) (hn : 1 ≤ S.length ∧ S.length ≤ 7) {l : List Int} {L1 : List (List Int)} {s : S5} {h : Mem} (ll : l.length = S.length) (lb : ∀ x ∈ l, 0 ≤ x ∧ x < g 56 10) (ord : ∀ l' ∈ L1, fgs 0 l' < fgs 0 l) (I : MJ g S hm b l h) (hr : rel L1 s h) (K : Mem → Res) :
    ∃ h', (bd (F_X8_isStaged  h) (fun r_55 (h_56 : Mem) => if (¬ r_55 = 0) then (bd (F_X8_movedOf  h_56) (fun r_60 (h_61 : Mem) => bd (F_X8_nightOf 0 h_61) (fun r_63 (h_64 : Mem) => jn (fun (K_66 : Mem → Res) => if ((((h_64 56 37) = (-9)) ∨ (r_60 < (h_64 56 37))) ∨ ((r_60 = (h_64 56 37)) ∧ ((h_64 56 34) < r_63))) then (nm (wr h_64 56 37 r_60) (fun (h_67 : Mem) => nm (wr h_67 56 34 r_63) (fun (h_68 : Mem) => bd (F_X8_orderOf  h_68) (fun r_69 (h_70 : Mem) => nm (wr h_70 56 35 r_69) (fun (h_72 : Mem) => K_66 h_72))))) else (K_66 h_64)) (fun  (h_79 : Mem) => K h_79)))) else (K h_56)) : Res) = K h' ∧ MJ g S hm b l h' ∧ rel (L1 ++ [l]) (Gs (A58 g) (g 59) hm b s l) h' := by
  have w9 := wac_n hR
  have l9 : ∀ x ∈ l, x < 9 := fun x hx => by have := lb x hx; omega
  obtain ⟨i1, i2, i3, i4, i5⟩ := I
  have x58 : h 58 = g 58 := funext (fun k => i1 58 k (by unfold rsc; omega))
  have x59 : h 59 = g 59 := funext (fun k => i1 59 k (by unfold rsc; omega))
  have wq : WQ (qL h l) l.length := by
    have e : qL h l = qL g l := by funext p k; unfold qL; rw [x58]
    rw [e]; exact wq_L hR lb
  obtain ⟨h1, e1, F1, nt⟩ := mst2 (b := b) (h := h) (l := l) (by rw [x59]; exact wt_B hR) i2 (by rw [ll]; exact i3) i4 (by omega) (by omega) (fun x hx => by have := lb x hx; omega) wq
  have ba := bA_e (h := g) (l := l) (T := g 59) (b := b) (by omega) l9
  rw [x58, x59, ba.1] at e1
  rw [x58, x59, ba.2] at nt
  have f56 : ∀ k : Int, ¬ (k = 28 ∨ k = 29) → h1 56 k = h 56 k := fun k z => F1 56 k (by unfold ssc; omega)
  have Fg1 : Fr rsc g h1 := i1.trans (F1.mono (fun _ _ => ssc_r))
  have A1 : Ar h1 64 l := i2.fr (fun k => F1 64 k (by unfold ssc; omega))
  have c1 : ∀ p : Nat, p < S.length → h1 74 p = hm p ∧ 0 ≤ hm p := fun p hp => by rw [F1 74 p (by unfold ssc; omega)]; exact i5 p hp
  have mem : ∀ l0 ∈ L1, l0 ∈ L1 ++ [l] := fun l0 q => List.mem_append.mpr (Or.inl q)
  refine ex_ct (bd_of e1) ?_
  by_cases ok : bFl (A58 g) (g 59) l b = 0
  · have ge : Gs (A58 g) (g 59) hm b s l = wgh s (awF hm 0 l) (bVa (A58 g) (g 59) l b) (fgs 0 l) b := by unfold Gs; rw [if_pos ok]
    rw [ge, if_pos ok, if_pos (by omega)]
    have mv := moved_e (hm := hm) A1 (fun p hp => c1 p (by omega)) (by rw [f56 18 (by omega), ll]; exact i3) (by omega)
    refine ex_ct (bd_of mv) ?_
    obtain ⟨h2, e2, F2⟩ := nt h1 (fun _ _ _ => rfl)
    refine ex_ct (bd_of e2) ?_
    have k2 : ∀ k : Int, ¬ (k = 26 ∨ k = 27 ∨ k = 28 ∨ k = 29) → h2 56 k = h 56 k := fun k z => by rw [F2 56 k (by unfold nvc; omega), f56 k (by omega)]
    have Fg2 : Fr rsc g h2 := fun r k z => by rw [F2 r k (fun q => z (by unfold nvc at q; unfold rsc; omega))]; exact Fg1 r k z
    have A2 : Ar h2 64 l := A1.fr (fun k => F2 64 k (by unfold nvc; omega))
    have c2 : ∀ p : Nat, p < S.length → h2 74 p = hm p ∧ 0 ≤ hm p := fun p hp => by rw [F2 74 p (by unfold nvc; omega)]; exact c1 p hp
    have ab := awF_b (hm := hm) l 0
    have cond : ((((h2 56 37) = (-9)) ∨ (awF hm 0 l < (h2 56 37))) ∨ ((awF hm 0 l = (h2 56 37)) ∧ ((h2 56 34) < bVa (A58 g) (g 59) l b))) ↔ (s.1 = 0 ∨ awF hm 0 l < s.2.1 ∨ (awF hm 0 l = s.2.1 ∧ (s.2.2.1 < bVa (A58 g) (g 59) l b ∨ (bVa (A58 g) (g 59) l b = s.2.2.1 ∧ fgs 0 l < s.2.2.2.1)))) := by
      rw [k2 37 (by omega), k2 34 (by omega)]
      rcases hr.2 with q | ⟨q1, q2, q3, q4, q5, l0, q6, q7⟩
      · omega
      · have := ord l0 q6
        omega
    refine ex_ct jn_of ?_
    by_cases cd : (((h2 56 37) = (-9)) ∨ (awF hm 0 l < (h2 56 37))) ∨ ((awF hm 0 l = (h2 56 37)) ∧ ((h2 56 34) < bVa (A58 g) (g 59) l b))
    · rw [if_pos cd]
      refine ex_ct (nm_of rfl) ?_
      refine ex_ct (nm_of rfl) ?_
      have od := orderOf_e (h := wr (wr h2 56 37 (awF hm 0 l)) 56 34 (bVa (A58 g) (g 59) l b)) (l := l) (A2.fr (fun k => by rw [wr_o (by omega), wr_o (by omega)])) (by rw [wr_k (by omega), wr_k (by omega), k2 18 (by omega), ll]; exact i3) (by omega) (fun x hx => by have := lb x hx; omega)
      refine ex_ct (bd_of od) ?_
      refine ex_ct (nm_of rfl) ?_
      refine ⟨_, rfl, ⟨fun r k z => ?_, A2.fr (fun k => by rw [wr_o (by omega), wr_o (by omega), wr_o (by omega)]), ?_, ?_, fun p hp => ?_⟩, ?_⟩
      · rw [wr_at, if_neg (fun q => z (by unfold rsc; omega)), wr_at, if_neg (fun q => z (by unfold rsc; omega)), wr_at, if_neg (fun q => z (by unfold rsc; omega))]; exact Fg2 r k z
      · rw [wr_k (by omega), wr_k (by omega), wr_k (by omega), k2 18 (by omega)]; exact i3
      · rw [wr_k (by omega), wr_k (by omega), wr_k (by omega), k2 19 (by omega)]; exact i4
      · rw [wr_o (by omega), wr_o (by omega), wr_o (by omega)]; exact c2 p hp
      · have w : wgh s (awF hm 0 l) (bVa (A58 g) (g 59) l b) (fgs 0 l) b = (s.1 + 1, awF hm 0 l, bVa (A58 g) (g 59) l b, fgs 0 l, b) := by unfold wgh; exact if_pos (cond.mp cd)
        rw [w]
        have s0 := hr.1
        refine ⟨by show 0 ≤ s.1 + 1; omega, Or.inr ⟨by show ¬ s.1 + 1 = 0; omega, ?_, ?_, ?_, ?_, l, List.mem_append.mpr (Or.inr (List.mem_singleton.mpr rfl)), ?_⟩⟩
        · rw [wr_k (by omega), wr_k (by omega), wr_s]
        · rw [wr_k (by omega), wr_k (by omega), wr_s]; exact ab.1
        · rw [wr_k (by omega), wr_s]
        · rw [wr_s]
        · rw [wr_s]
    · rw [if_neg cd]
      refine ⟨h2, rfl, ⟨Fg2, A2, by rw [k2 18 (by omega)]; exact i3, by rw [k2 19 (by omega)]; exact i4, c2⟩, ?_⟩
      have w : wgh s (awF hm 0 l) (bVa (A58 g) (g 59) l b) (fgs 0 l) b = (s.1 + 1, s.2) := by unfold wgh; exact if_neg (fun z => cd (cond.mpr z))
      rw [w]
      have s0 := hr.1
      refine ⟨by show 0 ≤ s.1 + 1; omega, Or.inr ?_⟩
      rcases hr.2 with q | ⟨q1, q2, q3, q4, q5, l0, q6, q7⟩
      · exact absurd (cond.mpr (Or.inl q.1)) cd
      · refine ⟨by show ¬ s.1 + 1 = 0; omega, ?_⟩
        rw [k2 37 (by omega), k2 34 (by omega), k2 35 (by omega)]
        exact ⟨q2, q3, q4, q5, l0, mem l0 q6, q7⟩
  · have ge : Gs (A58 g) (g 59) hm b s l = s := by unfold Gs; rw [if_neg ok]
    rw [ge, if_neg ok, if_neg (by omega)]
    refine ⟨h1, rfl, ⟨Fg1, A1, by rw [f56 18 (by omega)]; exact i3, by rw [f56 19 (by omega)]; exact i4, c1⟩, hr.1, ?_⟩
    rw [f56 37 (by omega), f56 34 (by omega), f56 35 (by omega)]
    rcases hr.2 with q | ⟨q1, q2, q3, q4, q5, l0, q6, q7⟩
    · exact Or.inl q
    · exact Or.inr ⟨q1, q2, q3, q4, q5, l0, mem l0 q6, q7⟩
theorem mill2 {i what at0 : Int} (hR : RR g) (hn : 1 ≤ S.length ∧ S.length ≤ 7) (hS : S.Pairwise (fun a b => a < b)) (hm' : ∀ x ∈ S, 0 ≤ x ∧ x < g 56 10) (Kx : Int → Mem → Res) :
    ∀ (B : List (List Int)) (l : List Int) (L1 : List (List Int)) (s : S5) (h : Mem) (f : Nat), perms S.length S = L1 ++ l :: B → ChE (l :: B) none → B.length + 1 < f → MJ g S hm b l h → rel L1 s h →
      ∃ h', L_X8_ill_2 i what at0 Kx f 1 h = Kx 0 h' ∧ Fr rsc g h' ∧ rel (perms S.length S) ((l :: B).foldl (Gs (A58 g) (g 59) hm b) s) h' := by
  have w9 := wac_n hR
  have mono := fgs_mono S.length S rfl hS (fun x hx => by have := hm' x hx; omega)
  intro B
  induction B with
  | nil =>
    intro l L1 s h f hL ch hf I hr
    obtain ⟨f, rfl⟩ : ∃ g, f = g + 1 := ⟨f - 1, by omega⟩
    obtain ⟨f, rfl⟩ : ∃ g, f = g + 1 := ⟨f - 1, by simp only [List.length_nil] at hf; omega⟩
    have lm : l ∈ perms S.length S := by rw [hL]; exact List.mem_append.mpr (Or.inr List.mem_cons_self)
    have pm := perms_m _ _ _ lm
    have lb : ∀ x ∈ l, 0 ≤ x ∧ x < g 56 10 := fun x hx => hm' x (pm.2 x hx)
    have ord : ∀ l' ∈ L1, fgs 0 l' < fgs 0 l := fun l' hl' => by
      rw [hL] at mono
      exact (List.pairwise_append.mp mono).2.2 l' hl' l List.mem_cons_self
    obtain ⟨h2, e2, I2, r2⟩ := mill_s hR hn pm.1 lb ord I hr (fun  (h_80 : Mem) => bd (F_X8_goesOn  h_80) (fun r_81 (h_82 : Mem) => L_X8_ill_2 i what at0 Kx (f + 1) r_81 h_82))
    rw [L_X8_ill_2, if_pos (by omega)]
    refine ex_ct jn_of ?_
    refine ex_ct e2 ?_
    have go := goesOn_e I2.2.1 (by rw [pm.1]; exact I2.2.2.1) (by omega) (by omega) (perms_nd _ _ _ (hS.imp (fun h => by omega)) lm)
    have ne : np l = none := ch
    rcases go with ⟨l', h', e, _⟩ | ⟨_, go⟩
    · rw [ne] at e; cases e
    · refine ex_ct (bd_of go) ?_
      rw [L_X8_ill_2, if_neg (by omega)]
      refine ⟨h2, rfl, I2.1, ?_⟩
      rw [hL]; exact r2
  | cons m B ih =>
    intro l L1 s h f hL ch hf I hr
    obtain ⟨f, rfl⟩ : ∃ g, f = g + 1 := ⟨f - 1, by omega⟩
    simp only [List.length_cons] at hf
    have lm : l ∈ perms S.length S := by rw [hL]; exact List.mem_append.mpr (Or.inr List.mem_cons_self)
    have pm := perms_m _ _ _ lm
    have lb : ∀ x ∈ l, 0 ≤ x ∧ x < g 56 10 := fun x hx => hm' x (pm.2 x hx)
    have ord : ∀ l' ∈ L1, fgs 0 l' < fgs 0 l := fun l' hl' => by
      rw [hL] at mono
      exact (List.pairwise_append.mp mono).2.2 l' hl' l List.mem_cons_self
    obtain ⟨h2, e2, I2, r2⟩ := mill_s hR hn pm.1 lb ord I hr (fun  (h_80 : Mem) => bd (F_X8_goesOn  h_80) (fun r_81 (h_82 : Mem) => L_X8_ill_2 i what at0 Kx f r_81 h_82))
    rw [L_X8_ill_2, if_pos (by omega)]
    refine ex_ct jn_of ?_
    refine ex_ct e2 ?_
    have go := goesOn_e I2.2.1 (by rw [pm.1]; exact I2.2.2.1) (by omega) (by omega) (perms_nd _ _ _ (hS.imp (fun h => by omega)) lm)
    have ne : np l = some m := ch.1
    rcases go with ⟨l', h3, e, go, F3, A3⟩ | ⟨e, _⟩
    · rw [ne] at e
      have : m = l' := Option.some.inj e
      subst this
      refine ex_ct (bd_of go) ?_
      have f56 : ∀ k, h3 56 k = h2 56 k := fun k => F3 56 k (by unfold onr; omega)
      obtain ⟨j1, j2, j3, j4, j5⟩ := I2
      rw [List.foldl_cons]
      refine ih m (L1 ++ [l]) _ h3 f (by rw [hL]; simp) ch.2 (by omega) ⟨j1.trans (F3.mono (fun _ _ => onr_r (Or.inr rfl))), A3, by rw [f56]; exact j3, by rw [f56]; exact j4, fun p hp => by rw [F3 74 p (by unfold onr; omega)]; exact j5 p hp⟩ ?_
      unfold rel at r2 ⊢
      rw [f56, f56, f56]; exact r2
    · rw [ne] at e; cases e
end MIll
theorem ill1 {g : Mem} {n out : Nat} {i what : Int} (hn : g 61 0 = (n : Int)) (h9 : n ≤ 9) (h18 : g 56 18 = ((n - 1 : Nat) : Int)) (ho : out < n) (Kx : Int → Mem → Res) :
    ∃ h2, L_X8_ill_1 i what (out : Int) Kx FU 0 g = Kx ((n - 1 : Nat) : Int) h2 ∧ (∀ r k, ¬ (r = 64 ∨ r = 74) → h2 r k = g r k) ∧ ∀ p : Nat, p < n - 1 → h2 64 p = mW g out p ∧ h2 74 p = mW g out p := by
  have key : ∀ (d p : Nat) (h1 : Mem) (f : Nat), p + d = n - 1 → d < f → (∀ r k, ¬ (r = 64 ∨ r = 74) → h1 r k = g r k) → (∀ j : Nat, j < p → h1 64 j = mW g out j ∧ h1 74 j = mW g out j) →
      ∃ h2, L_X8_ill_1 i what (out : Int) Kx f p h1 = Kx ((n - 1 : Nat) : Int) h2 ∧ (∀ r k, ¬ (r = 64 ∨ r = 74) → h2 r k = g r k) ∧ ∀ p : Nat, p < n - 1 → h2 64 p = mW g out p ∧ h2 74 p = mW g out p := by
    intro d
    induction d with
    | zero =>
      intro p h1 f hp hf hF hI
      obtain ⟨f, rfl⟩ : ∃ g, f = g + 1 := ⟨f - 1, by omega⟩
      have e : p = n - 1 := by omega
      subst e
      exact ⟨h1, by rw [L_X8_ill_1, hF 56 18 (by omega), h18, if_neg (by omega)], hF, hI⟩
    | succ d ih =>
      intro p h1 f hp hf hF hI
      obtain ⟨f, rfl⟩ : ∃ g, f = g + 1 := ⟨f - 1, by omega⟩
      rw [L_X8_ill_1, hF 56 18 (by omega), h18, if_pos (by omega)]
      have fin : ∀ v : Nat, v < n → mW g out p = mB g v → ∃ h2, (gd (0 ≤ (w32 (3 + (v : Int))) ∧ (w32 (3 + (v : Int))) < 12) (gd (0 ≤ (p : Int) ∧ (p : Int) < 10) (nm (wr h1 64 p (h1 61 (w32 (3 + (v : Int))))) (fun (h_36 : Mem) => nm (wr h_36 74 p (h_36 64 p)) (fun (h_37 : Mem) => nm (w32 ((p : Int) + 1)) (fun p_38 => L_X8_ill_1 i what (out : Int) Kx f p_38 h_37))))) : Res) = Kx ((n - 1 : Nat) : Int) h2 ∧ (∀ r k, ¬ (r = 64 ∨ r = 74) → h2 r k = g r k) ∧ ∀ p : Nat, p < n - 1 → h2 64 p = mW g out p ∧ h2 74 p = mW g out p := by
        intro v hv hw
        have e61 : h1 61 (3 + (v : Int)) = mW g out p := by rw [hF 61 _ (by omega), hw]; unfold mB; rw [if_pos (by omega)]
        rw [w32_s (z := 3 + (v : Int)) (by omega) (by omega), e61]
        refine ex_ct (gd_of (by omega)) ?_
        refine ex_ct (gd_of (by omega)) ?_
        refine ex_ct (nm_of rfl) ?_
        rw [wr_s]
        refine ex_ct (nm_of rfl) ?_
        refine ex_ct (nm_of (w32_n (by omega))) ?_
        refine ih (p + 1) _ f (by omega) (by omega) (fun r k z => by rw [wr_o (by omega), wr_o (by omega)]; exact hF r k z) (fun j hj => ?_)
        by_cases z : j = p
        · subst z
          rw [wr_o (by omega), wr_s, wr_s]; exact ⟨rfl, rfl⟩
        · rw [wr_o (by omega), wr_k (by omega), wr_k (by omega), wr_o (by omega)]; exact hI j (by omega)
      by_cases c : (p : Int) < (out : Int)
      · rw [if_pos c]
        refine ex_ct (nm_of rfl) ?_
        exact fin p (by omega) (by unfold mW; rw [if_pos (by omega)])
      · rw [if_neg c]
        refine ex_ct (nm_of (w32_n (by omega))) ?_
        exact fin (p + 1) (by omega) (by unfold mW; rw [if_neg (by omega)])
  exact key (n - 1) 0 g FU (by omega) (by unfold FU; omega) (fun _ _ _ => rfl) (fun j hj => absurd hj (by omega))
