/-! a night depends on the places of its row alone -/
def E9 (q q' : Nat → Int → Int) (p : Nat) : Prop := ∀ j, j < p → ∀ k : Int, 0 ≤ k → k ≤ 8 → q j k = q' j k
theorem E9.mono {q q' : Nat → Int → Int} {p p' : Nat} (e : E9 q q' p) (h : p' ≤ p) : E9 q q' p' := fun j hj => e j (by omega)
section Cong
variable {q q' : Nat → Int → Int} {m m' : Nat → Int} {T : Int → Int} {b : Int} {u : Nat → Int} {n : Nat}
theorem lf_c : ∀ p : Nat, E9 q q' p → sLf q T b p = sLf q' T b p
  | 0, _ => rfl
  | p + 1, e => by rw [sLf, sLf, e p (by omega) 3 (by omega) (by omega), e p (by omega) 5 (by omega) (by omega), e p (by omega) 1 (by omega) (by omega), lf_c p (e.mono (by omega))]
theorem gp_c {p : Nat} (e : E9 q q' (p + 1)) : sGp q T b p = sGp q' T b p := by
  unfold sGp
  rw [e p (by omega) 3 (by omega) (by omega), e p (by omega) 4 (by omega) (by omega), lf_c p (e.mono (by omega))]
theorem en_c : ∀ p : Nat, E9 q q' p → sEn q T b p = sEn q' T b p
  | 0, _ => rfl
  | p + 1, e => by rw [sEn, sEn, e p (by omega) 1 (by omega) (by omega), gp_c e, en_c p (e.mono (by omega))]
theorem it_c {p : Nat} (e : E9 q q' (p + 1)) (em : ∀ j, j < p → m j = m' j) : sIt q m T b n p = sIt q' m' T b n p := by
  unfold sIt
  rw [gp_c e, e p (by omega) 0 (by omega) (by omega), e (p - 1) (by omega) 0 (by omega) (by omega), e p (by omega) 8 (by omega) (by omega), e p (by omega) 7 (by omega) (by omega), en_c (p + 1) e]
  by_cases c : 0 < p
  · rw [em (p - 1) (by omega)]
  · have z : p = 0 := by omega
    subst z
    simp only [Nat.lt_irrefl, false_and, if_false]
theorem fl_c {x : Int} : ∀ p : Nat, E9 q q' p → (∀ j, j < p → m j = m' j) → sFl q m T b n x p = sFl q' m' T b n x p
  | 0, _, _ => rfl
  | p + 1, e, em => by
    have ih := fl_c (x := x) p (e.mono (by omega)) (fun j hj => em j (by omega))
    have it := it_c (T := T) (b := b) (n := n) e (fun j hj => em j (by omega : j < p + 1))
    simp only [sFl, ih, it]
theorem ha_c {p : Nat} {heat : Int} (e : E9 q q' (p + 1)) : sHa q T b p heat = sHa q' T b p heat := by
  unfold sHa
  rw [gp_c e, e p (by omega) 6 (by omega) (by omega), e (p - 1) (by omega) 6 (by omega) (by omega)]
theorem cl_c {p : Nat} {ha v : Int} (e : E9 q q' (p + 1)) : sCl q T p ha v = sCl q' T p ha v := by
  unfold sCl
  rw [e p (by omega) 2 (by omega) (by omega)]
theorem hs_c : ∀ p : Nat, E9 q q' p → sHs q T b u p = sHs q' T b u p
  | 0, _ => rfl
  | p + 1, e => by
    have ih := hs_c p (e.mono (by omega))
    simp only [sHs, ih, ha_c e, cl_c e]
theorem va_c (h1 : 0 < n) (e : E9 q q' n) : sVa q T b u n = sVa q' T b u n := by
  obtain ⟨p, rfl⟩ : ∃ g, n = g + 1 := ⟨n - 1, by omega⟩
  unfold sVa sCp sHt
  rw [show p + 1 - 1 = p by omega, hs_c (p + 1) e, hs_c p (e.mono (by omega)), ha_c e, cl_c e]
end Cong
/-! the acts of the bill in their order -/
def linL (l : List Int) (w : Int) (k : Nat) : List Int := ((List.range k).map (fun i : Nat => (i : Int))).filter (fun i => decide (¬ i = w ∧ i ∈ l))
theorem linL_s (l : List Int) (w : Int) (k : Nat) : linL l w (k + 1) = linL l w k ++ (if ¬ (k : Int) = w ∧ (k : Int) ∈ l then [(k : Int)] else []) := by
  unfold linL
  rw [List.range_succ, List.map_append, List.filter_append]
  congr 1
  by_cases c : ¬ (k : Int) = w ∧ (k : Int) ∈ l
  · rw [if_pos c, List.map_cons, List.map_nil, List.filter_cons, if_pos (decide_eq_true c)]; rfl
  · rw [if_neg c, List.map_cons, List.map_nil, List.filter_cons, if_neg (fun z => c (of_decide_eq_true z))]; rfl
theorem linL_m {l : List Int} {w x : Int} {k : Nat} : x ∈ linL l w k ↔ (0 ≤ x ∧ x < k) ∧ ¬ x = w ∧ x ∈ l := by
  unfold linL
  rw [List.mem_filter, List.mem_map]
  constructor
  · rintro ⟨⟨i, hi, rfl⟩, h⟩
    have hi := List.mem_range.mp hi
    exact ⟨by omega, of_decide_eq_true h⟩
  · rintro ⟨h1, h2⟩
    exact ⟨⟨x.toNat, List.mem_range.mpr (by omega), by omega⟩, decide_eq_true h2⟩
theorem linL_p (l : List Int) (w : Int) (k : Nat) : (linL l w k).Pairwise (fun a b => a < b) := by
  unfold linL
  refine List.Pairwise.filter _ (List.pairwise_map.mpr ?_)
  exact List.pairwise_lt_range.imp (fun h => by omega)
theorem linL_l (l : List Int) (w : Int) (k : Nat) : (linL l w k).length ≤ k := by
  unfold linL
  refine Nat.le_trans (List.length_filter_le _ _) ?_
  rw [List.length_map, List.length_range]; exact Nat.le_refl _
theorem row_m {h : Mem} {n : Nat} {x : Int} (hn : h 61 0 = (n : Int)) : x ∈ rowL h 61 0 ↔ ∃ p, p < n ∧ mB h p = x := by
  unfold rowL
  rw [List.mem_map, hn]
  constructor
  · rintro ⟨p, hp, e⟩
    have hp := List.mem_range.mp hp
    exact ⟨p, by omega, by rw [mB, if_pos (by omega), ← e]; rfl⟩
  · rintro ⟨p, hp, e⟩
    refine ⟨p, List.mem_range.mpr (by omega), ?_⟩
    rw [mB, if_pos (by omega)] at e
    rw [← e]; rfl
theorem row_l {h : Mem} {n : Nat} (hn : h 61 0 = (n : Int)) : (rowL h 61 0).length = n := by
  unfold rowL
  rw [List.length_map, List.length_range, hn]; rfl
theorem row_at {h : Mem} {n p : Nat} (hn : h 61 0 = (n : Int)) (hp : p < n) : (rowL h 61 0).getD p 0 = mB h p := by
  unfold rowL
  rw [List.getD_eq_getElem?_getD, List.getElem?_map, List.getElem?_range (by omega)]
  rw [mB, if_pos (by omega)]; rfl
theorem row_d {h : Mem} (hR : RR h) : (rowL h 61 0).Pairwise (fun a b => ¬ a = b) := by
  have wb := hR.2.2.2.2.2.2.2.1.2.2.2.1
  refine List.pairwise_iff_getElem.mpr (fun i j hi hj hij => ?_)
  unfold rowL at hi hj ⊢
  rw [List.length_map, List.length_range] at hi hj
  rw [List.getElem_map, List.getElem_map, List.getElem_range, List.getElem_range]
  exact wb.2.2.2.2.2.2 i j (by omega) (by omega) (by omega)
/-- the acts of the bill, the least first -/
def onL (h : Mem) : List Int := linL (rowL h 61 0) (-9) (h 56 10).toNat
theorem row_b {h : Mem} (hR : RR h) {x : Int} (hx : x ∈ rowL h 61 0) : 0 ≤ x ∧ x < h 56 10 := by
  obtain ⟨n, e0, _⟩ := n_B hR
  obtain ⟨p, hp, e⟩ := (row_m e0).mp hx
  have := mB_b hR e0 hp
  omega
theorem on_m {h : Mem} (hR : RR h) {x : Int} : x ∈ onL h ↔ x ∈ rowL h 61 0 := by
  have w := wac_n hR
  unfold onL
  rw [linL_m]
  constructor
  · exact fun z => z.2.2
  · intro z
    have := row_b hR z
    exact ⟨by omega, by omega, z⟩
theorem srt_row {l l' : List Int} (hd : l.Pairwise (fun a b => ¬ a = b)) (hs : l'.Pairwise (fun a b => a < b)) (hm : ∀ x, x ∈ l ↔ x ∈ l') : isort (fun x y => decide (x < y)) [] l = l' := by
  have pe := isort_perm (lt := fun x y => decide (x < y)) l []
  refine srt_uniq (R := fun a b => a < b) (fun a => by omega) (fun a b c _ _ => by omega) _ _ (isort_sorted (R := fun a b => a < b) (fun a b c _ _ => by omega) l [] List.Pairwise.nil (fun y hy => absurd hy List.not_mem_nil) (hd.imp (fun {a b} z => ⟨decide_eq_true_iff, by omega⟩))) hs (fun x => ?_)
  rw [pe.mem_iff, List.nil_append]; exact hm x
theorem insI_m {x y : Int} : ∀ l : List Int, y ∈ insI x l ↔ y = x ∨ y ∈ l
  | [] => by rw [insI]; exact List.mem_cons
  | z :: l => by
    rw [insI]
    split
    · exact List.mem_cons
    · rw [List.mem_cons, insI_m l, List.mem_cons]
      constructor
      · rintro (a | a | a)
        · exact Or.inr (Or.inl a)
        · exact Or.inl a
        · exact Or.inr (Or.inr a)
      · rintro (a | a | a)
        · exact Or.inr (Or.inl a)
        · exact Or.inl a
        · exact Or.inr (Or.inr a)
theorem insI_p {x : Int} : ∀ l : List Int, l.Pairwise (fun a b => a < b) → (∀ y ∈ l, ¬ y = x) → (insI x l).Pairwise (fun a b => a < b)
  | [], _, _ => by rw [insI]; exact List.pairwise_singleton _ _
  | z :: l, hp, hx => by
    have hc := List.pairwise_cons.mp hp
    rw [insI]
    split
    · rename_i c
      refine List.pairwise_cons.mpr ⟨fun a ha => ?_, hp⟩
      rcases List.mem_cons.mp ha with e | e
      · rw [e]; exact c
      · have := hc.1 a e; omega
    · rename_i c
      refine List.pairwise_cons.mpr ⟨fun a ha => ?_, insI_p l hc.2 (fun y hy => hx y (List.mem_cons_of_mem _ hy))⟩
      rcases (insI_m l).mp ha with e | e
      · have := hx z List.mem_cons_self; omega
      · exact hc.1 a e
theorem srtI_m {y : Int} : ∀ l : List Int, y ∈ srtI l ↔ y ∈ l
  | [] => Iff.rfl
  | x :: l => by rw [srtI, insI_m, srtI_m l, List.mem_cons]
theorem srtI_p : ∀ l : List Int, l.Pairwise (fun a b => ¬ a = b) → (srtI l).Pairwise (fun a b => a < b)
  | [], _ => List.Pairwise.nil
  | x :: l, h => by
    have hc := List.pairwise_cons.mp h
    rw [srtI]
    refine insI_p _ (srtI_p l hc.2) (fun y hy e => ?_)
    rw [e] at hy
    exact hc.1 x ((srtI_m l).mp hy) rfl
theorem srtI_on {h : Mem} (hR : RR h) : srtI (rowL h 61 0) = onL h :=
  srt_uniq (R := fun a b => a < b) (fun a => by omega) (fun a b c _ _ => by omega) _ _ (srtI_p _ (row_d hR)) (linL_p _ _ _) (fun x => by rw [srtI_m, on_m hR])
theorem nodup_len {l l' : List Int} (h1 : l.Pairwise (fun a b => a < b)) (h2 : l'.Pairwise (fun a b => ¬ a = b)) (hm : ∀ x, x ∈ l' ↔ x ∈ l) : l.length = l'.length := by
  rw [← srt_row h2 h1 hm, (isort_perm (lt := fun x y => decide (x < y)) l' []).length_eq, List.nil_append]
theorem on_len {h : Mem} {n : Nat} (hR : RR h) (hn : h 61 0 = (n : Int)) : (onL h).length = n := by
  rw [nodup_len (l := onL h) (linL_p _ _ _) (row_d hR) (fun x => (on_m hR).symm), row_l hn]
theorem lineUp_e {h : Mem} {w : Int} (hR : RR h) :
    ∃ h1, F_X7_lineUp w h = some (((linL (rowL h 61 0) w (h 56 10).toNat).length : Int), h1) ∧ Fr (onr 55) h h1 ∧ Ar h1 55 (linL (rowL h 61 0) w (h 56 10).toNat) := by
  have wn := wac_n hR
  obtain ⟨n, e0, e9, e26, _⟩ := n_B hR
  have hc : h (h 1 1) 1 = h 56 10 := hR.2.2.1.1
  have hcc := (c_B hR).2
  have key : ∀ (d i : Nat) (h1 : Mem) (f : Nat), i + d = (h 56 10).toNat → d < f → Fr (onr 55) h h1 → Ar h1 55 (linL (rowL h 61 0) w i) →
      ∃ h2, L_X7_lineUp_1 w (fun size_22 i_23 (h_21 : Mem) => some (size_22, h_21)) f ((linL (rowL h 61 0) w i).length : Int) i h1 = some (((linL (rowL h 61 0) w (h 56 10).toNat).length : Int), h2) ∧ Fr (onr 55) h h2 ∧ Ar h2 55 (linL (rowL h 61 0) w (h 56 10).toNat) := by
    intro d
    induction d with
    | zero =>
      intro i h1 f hi hf hF hA
      obtain ⟨f, rfl⟩ : ∃ g, f = g + 1 := ⟨f - 1, by omega⟩
      have ei : i = (h 56 10).toNat := by omega
      have c1 : h1 1 1 = h 1 1 := hF 1 1 (by unfold onr; omega)
      have c2 : h1 (h 1 1) 1 = h 56 10 := by rw [hF _ 1 (by unfold onr; omega)]; exact hc
      refine ⟨h1, ?_, hF, by rw [← ei]; exact hA⟩
      rw [L_X7_lineUp_1]
      refine (nm_of c1).trans ?_
      refine (gd_of (c_B hR).1).trans ?_
      rw [c2, if_neg (by omega), ← ei]
    | succ d ih =>
      intro i h1 f hi hf hF hA
      obtain ⟨f, rfl⟩ : ∃ g, f = g + 1 := ⟨f - 1, by omega⟩
      have c1 : h1 1 1 = h 1 1 := hF 1 1 (by unfold onr; omega)
      have c2 : h1 (h 1 1) 1 = h 56 10 := by rw [hF _ 1 (by unfold onr; omega)]; exact hc
      have po : F_X1_placeOf 26 (i : Int) h1 = some (pOf (mB h) i n 0, h1) := pof7_e (by rw [hF 26 1 (by unfold onr; omega)]; exact e26) e9 (fun p hp => by rw [hF 27 p (by unfold onr; omega)]; exact (mB_b hR e0 hp).2.2.2)
      have ps := pof_s (r := mB h) (i := (i : Int)) n 0
      have ll := linL_l (rowL h 61 0) w i
      have sx := linL_s (rowL h 61 0) w i
      have nx := ih (i + 1)
      rw [L_X7_lineUp_1]
      refine ex_tr (nm_of c1) ?_
      refine ex_tr (gd_of (c_B hR).1) ?_
      rw [c2, if_pos (by omega)]
      refine ex_tr jn_of ?_
      refine ex_tr jn_of ?_
      by_cases c : (i : Int) = w
      · rw [if_neg (by omega)]
        rw [if_neg (fun z => z.1 c), List.append_nil] at sx
        refine ex_tr (nm_of (w32_n (by omega))) ?_
        rw [← sx]
        exact nx h1 f (by omega) (by omega) hF (by rw [sx]; exact hA)
      · rw [if_pos c]
        refine ex_tr (bd_of po) ?_
        rcases ps with ⟨q1, q2⟩ | ⟨j, q1, q2, q3, q4, q5⟩
        · have nm' : ¬ (i : Int) ∈ rowL h 61 0 := fun z => by
            obtain ⟨p, hp, e⟩ := (row_m e0).mp z
            exact q2 p (by omega) (by omega) e
          rw [if_neg (fun z => nm' z.2), List.append_nil] at sx
          rw [if_neg (by omega)]
          refine ex_tr (nm_of (w32_n (by omega))) ?_
          rw [← sx]
          exact nx h1 f (by omega) (by omega) hF (by rw [sx]; exact hA)
        · have im : (i : Int) ∈ rowL h 61 0 := (row_m e0).mpr ⟨j, by omega, q3⟩
          rw [if_pos ⟨c, im⟩] at sx
          rw [if_pos (by omega)]
          refine ex_tr (gd_of (by omega)) ?_
          refine ex_tr (nm_of rfl) ?_
          refine ex_tr (nm_of (w32_n (by omega))) ?_
          refine ex_tr (nm_of (w32_n (by omega))) ?_
          have len : (linL (rowL h 61 0) w (i + 1)).length = (linL (rowL h 61 0) w i).length + 1 := by rw [sx, List.length_append]; rfl
          rw [← len]
          refine nx (wr h1 55 (linL (rowL h 61 0) w i).length i) f (by omega) (by omega) (fun r k z => by rw [wr_o z]; exact hF r k z) (fun p v e => ?_)
          rw [sx] at e
          by_cases l : p < (linL (rowL h 61 0) w i).length
          · rw [List.getElem?_append_left l] at e
            rw [wr_k (by omega)]; exact hA p v e
          · rw [List.getElem?_append_right (by omega)] at e
            have z : p - (linL (rowL h 61 0) w i).length = 0 := by
              have := (List.getElem?_eq_some_iff.mp e).1
              simp only [List.length_cons, List.length_nil] at this
              omega
            rw [z] at e
            have e' : (i : Int) = v := Option.some.inj e
            rw [show p = (linL (rowL h 61 0) w i).length by omega, wr_s]; exact e'
  exact key (h 56 10).toNat 0 h FU (by omega) (by unfold FU; omega) Fr.rfl (fun p v e => by cases e)
