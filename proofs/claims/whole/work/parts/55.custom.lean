/-! rows that are played: the class's line, the reference's row; custom -/
theorem swaps_e {h : Mem} {a b : Int} (ha : 0 ≤ a ∧ a < 10) (hb : 0 ≤ b ∧ b < 10) : F_X8_swaps a b h = some (0, wr (wr h 64 a (h 64 b)) 64 b (h 64 a)) := by
  unfold F_X8_swaps
  refine (gd_of ha).trans ?_
  refine (nm_of rfl).trans ?_
  refine (gd_of hb).trans ?_
  rfl
theorem swapA_e {h : Mem} {p : Nat} (hp : 0 < p ∧ p < 9) : F_X7_swapAhead (p : Int) h = some (0, wr (wr h 55 p (h 55 ((p : Int) - 1))) 55 ((p : Int) - 1) (h 55 p)) := by
  unfold F_X7_swapAhead
  rw [w32_s (z := (p : Int) - 1) (by omega) (by omega)]
  refine (gd_of (by omega)).trans ?_
  refine (nm_of rfl).trans ?_
  refine (gd_of (by omega)).trans ?_
  rfl
theorem sortsRow_e {h : Mem} {l : List Int} (hA : Ar h 64 l) (hn : h 56 18 = (l.length : Int)) (h10 : l.length ≤ 10) :
    ∃ h1, F_X8_sortsRow h = some (0, h1) ∧ Fr (onr 64) h h1 ∧ Ar h1 64 (isort (fun x y => decide (x < y)) [] l) := by
  cases l with
  | nil =>
    refine ⟨h, ?_, Fr.rfl, hA⟩
    unfold F_X8_sortsRow
    show L_X8_sortsRow_1 _ (9999 + 1) 1 h = _
    rw [L_X8_sortsRow_1, hn, if_neg (by simp)]
  | cons x rest =>
    obtain ⟨h1, e1, r1⟩ := isort_gen (h0 := h) (r := 64) (lt := fun x y => decide (x < y)) (Q := fun _ => True) (N := rest.length + 1) (O := L_X8_sortsRow_1 (fun p_20 (h_19 : Mem) => some (0, h_19))) (L := fun k K => L_X8_sortsRow_2 k K) (Kx := fun p_20 (h_19 : Mem) => some (0, h_19)) (fun k K f q g hF _ hq => by
        show L_X8_sortsRow_2 k K (f + 1) q g = _
        rw [L_X8_sortsRow_2]
        refine jn_of.trans ?_
        simp only [List.length_cons] at h10
        by_cases c : 0 < q
        · rw [if_pos (by omega), w32_s (z := (q : Int) - 1) (by omega) (by omega), gd_t (by omega), gd_t (by omega)]
          by_cases d : g 64 q < g 64 ((q : Int) - 1)
          · rw [if_pos d, if_pos ⟨c, decide_eq_true d⟩]
            refine (bd_of (swaps_e (by omega) (by omega))).trans ?_
            refine (nm_of (e' := (q : Int) - 1) (w32_s (by omega) (by omega))).trans ?_
            rfl
          · rw [if_neg d, if_neg (fun z => d (of_decide_eq_true z.2))]
        · rw [if_neg (by omega), if_neg (fun z => c z.1)])
      (fun f k g hF hk => by
        rw [L_X8_sortsRow_1, hF 56 18 (by unfold onr; omega), hn, if_pos (by simp only [List.length_cons]; omega)]
        exact congrArg (fun K => L_X8_sortsRow_2 k K FU k g) (funext fun q' => funext fun h' => nm_of (w32_n (by simp only [List.length_cons] at h10; omega))))
      (fun f g hF => by
        rw [L_X8_sortsRow_1, hF 56 18 (by unfold onr; omega), hn, if_neg (by simp only [List.length_cons]; omega)]) h10 rest [x] h FU Fr.rfl hA (fun _ _ => trivial) (by simp) (by simp only [List.length_cons] at h10; unfold FU; omega)
    exact ⟨h1, e1, r1⟩
section Play
variable {h : Mem} {l : List Int} {b : Int}
theorem wq_L (hR : RR h) (hl : ∀ x ∈ l, 0 ≤ x ∧ x < h 56 10) : WQ (qL h l) l.length := by
  intro j hj
  have m := hl _ (getD_mem hj)
  have w := (hR.2.2.2.2.2.2.2.1.2.1.2.2 _ m.1 m.2).1
  have z : 9 * l.getD j 0 + 0 = 9 * l.getD j 0 := by omega
  simp only [qL, z]; exact w
theorem aq_L (hR : RR h) {x : Int} (m : 0 ≤ x ∧ x < h 56 10) : AQ h (h 1 1 + 2 + x) (fun k => h 58 (9 * x + k)) ∧ h (h 1 1 + 2 + x) 0 = x ∧ okO 0 (h 1 1 + 2 + x) = true := by
  have w := (hR.2.2.1.2 x m.1 m.2).1
  have w9 := wac_n hR
  have z : 9 * x + 0 = 9 * x := by omega
  refine ⟨?_, ?_, ok_mem (c_B hR).1 ⟨m.1, by omega⟩⟩
  · simp only [AQ, z]; exact w
  · have e := hR.1.2.1 x m.1 (by omega)
    rcases (c_B hR).2 with c | c
    · rw [c, show (4 : Int) + 2 + x = 6 + x by omega]; exact e.1
    · rw [c, show (15 : Int) + 2 + x = 17 + x by omega]; exact e.2
/-- the class plays a row of all acts of the bill -/
theorem cplayL {row : Int} (hR : RR h) (hn : h 61 0 = (l.length : Int)) (hA : Ar h row l) (hr : ¬ scr row 0) (hl : ∀ x ∈ l, 0 ≤ x ∧ x < h 56 10) :
    ∃ h1, F_X7_play row b h = some (0, h1) ∧ ShI scr h h1 (qL h l) (fun j => h 1 1 + 2 + mL l j) (h 59) b l.length (fun _ => 0) l.length ∧ CN h1 (qL h l) (mL l) (fun j => h 1 1 + 2 + mL l j) (h 59) b l.length := by
  have w9 := wac_n hR
  obtain ⟨n', e0, e9, e26, _⟩ := n_B hR
  have nn : n' = l.length := by omega
  subst nn
  obtain ⟨h1, e1, hI⟩ := play_e (h := h) (row := row) (pause := b) (c := h 1 1) (n := l.length) (q := qL h l) (m := mL l) (T := h 59) e26 e9 (fun p hp => by have := hl _ (getD_mem hp); exact ⟨hA.at hp, this.1, by show l.getD p 0 < 9; omega⟩) hr rfl (c_B hR).1 (fun j hj => (aq_L hR (hl _ (getD_mem hj))).1) hR.2.2.2.1 (wq_L hR hl) (wt_B hR)
  refine ⟨h1, e1, hI, hI.2.2.1, hI.2.1, ?_, ?_, fun j hj => ⟨(hI.2.2.2.1 j hj).1, ?_⟩⟩
  · rw [hI.1 34 0 (by unfold scr; omega)]; exact hR.2.2.2.1 0 (by omega) (by omega)
  · rw [hI.1 34 1 (by unfold scr; omega)]; exact hR.2.2.2.1 1 (by omega) (by omega)
  · have a := aq_L hR (hl _ (getD_mem hj))
    have f : ∀ k, h1 (h 1 1 + 2 + l.getD j 0) k = h (h 1 1 + 2 + l.getD j 0) k := fun k => hI.1 _ k (okP_scr.2.2 _ k a.2.2)
    refine ⟨a.2.2, ?_, ?_⟩
    · have a1 := a.1
      show AQ h1 (h 1 1 + 2 + l.getD j 0) (fun k => h 58 (9 * l.getD j 0 + k))
      unfold AQ at a1 ⊢
      simp only [f]; exact a1
    · show h1 (h 1 1 + 2 + l.getD j 0) 0 = _
      rw [f]; exact a.2.1
/-- a row of the reference -/
theorem r8_L (hT : WT (h 59)) (hA : Ar h 64 l) (h18 : h 56 18 = (l.length : Int)) (h10 : l.length ≤ 10) (hb : ∀ x ∈ l, 0 ≤ x ∧ x ≤ 9) (hw : WQ (qL h l) l.length) : R8 h l.length ∧ E9 (q8 h) (qL h l) l.length ∧ ∀ j, j < l.length → m8 h j = mL l j := by
  have e : ∀ j, j < l.length → h 64 (j : Int) = l.getD j 0 := fun j hj => hA.at hj
  have q : ∀ j, j < l.length → ∀ k, q8 h j k = qL h l j k := fun j hj k => by unfold q8 qL; rw [e j hj]
  refine ⟨⟨h10, h18, fun p hp => by rw [e p hp]; exact hb _ (getD_mem hp), fun j hj => ?_, hT⟩, fun j hj k _ _ => q j hj k, fun j hj => e j hj⟩
  have := hw j hj
  simp only [q j hj]; exact this
/-- the reference looks whether a row can be staged, and plays it -/
theorem mst_L (hT : WT (h 59)) (hA : Ar h 64 l) (h18 : h 56 18 = (l.length : Int)) (h19 : h 56 19 = b) (h1n : 0 < l.length) (h10 : l.length ≤ 10) (hb : ∀ x ∈ l, 0 ≤ x ∧ x ≤ 9) (hw : WQ (qL h l) l.length) :
    ∃ h1, F_X8_isStaged h = some (if bFl (h 58) (h 59) l b = 0 then 1 else 0, h1) ∧ Fr ssc h h1 ∧ ∃ h2, F_X8_nightOf 0 h1 = some (bVa (h 58) (h 59) l b, h2) ∧ Fr rsc h1 h2 := by
  obtain ⟨R, q, m⟩ := r8_L hT hA h18 h10 hb hw
  obtain ⟨h1, e1, F1, _, I1⟩ := staged8_e R h19
  have x58 : ∀ k, h1 58 k = h 58 k := fun k => F1 58 k (by unfold ssc; omega)
  have x59 : ∀ k, h1 59 k = h 59 k := fun k => F1 59 k (by unfold ssc; omega)
  have x64 : ∀ k, h1 64 k = h 64 k := fun k => F1 64 k (by unfold ssc; omega)
  have R1 : R8 h1 l.length := R8_fr R (F1 56 18 (by unfold ssc; omega)) x58 x59 x64
  have q1 : q8 h1 = q8 h := q8_fr x58 x64
  have t1 : h1 59 = h 59 := funext x59
  have b1 : h1 56 19 = b := by rw [F1 56 19 (by unfold ssc; omega)]; exact h19
  obtain ⟨h2, e2, N2, l2⟩ := night0 (b := b) h1n R1 b1 (fun p hp => by rw [q1, t1]; exact (I1 p hp).1)
  refine ⟨h1, ?_, F1, h2, ?_, nsc_fr N2.1 l2⟩
  · rw [e1]
    refine congrArg (fun z => some (z, h1)) (ifc ?_)
    rw [fl_c l.length q m]
    exact fl_x
  · rw [e2, q1, t1, va_c h1n q]; rfl
end Play
def ltS (A : Int → Int) (x y : Int) : Bool := decide (A (9 * x + 2) < A (9 * y + 2))
theorem list2 {l : List Int} (h : 2 ≤ l.length) : ∃ A y x, l = A ++ [y, x] := by
  obtain ⟨A, x, rfl⟩ : ∃ A x, l = A ++ [x] := by
    refine ⟨l.dropLast, l.getLast (fun z => by rw [z] at h; simp at h), ?_⟩
    exact (List.dropLast_concat_getLast _).symm
  obtain ⟨B, y, rfl⟩ : ∃ B y, A = B ++ [y] := by
    refine ⟨A.dropLast, A.getLast (fun z => by rw [z] at h; simp at h), ?_⟩
    exact (List.dropLast_concat_getLast _).symm
  exact ⟨B, y, x, by simp⟩
/-- the customary order of a row -/
def swL (l : List Int) : List Int := if 2 ≤ l.length then l.take (l.length - 2) ++ (l.drop (l.length - 2)).reverse else l
theorem swL_e {A : List Int} {y x : Int} : swL (A ++ [y, x]) = A ++ [x, y] := by
  unfold swL
  have e : (A ++ [y, x]).length - 2 = A.length := by simp
  rw [if_pos (by simp), e, List.take_left', List.drop_left']
  · rfl
  · rfl
  · rfl
theorem swL_m {l : List Int} {z : Int} : z ∈ swL l ↔ z ∈ l := by
  by_cases c : 2 ≤ l.length
  · obtain ⟨A, y, x, rfl⟩ := list2 c
    rw [swL_e]
    simp only [List.mem_append, List.mem_cons, List.not_mem_nil, or_false]
    constructor
    · rintro (a | a | a)
      · exact Or.inl a
      · exact Or.inr (Or.inr a)
      · exact Or.inr (Or.inl a)
    · rintro (a | a | a)
      · exact Or.inl a
      · exact Or.inr (Or.inr a)
      · exact Or.inr (Or.inl a)
  · unfold swL; rw [if_neg c]
theorem swL_l {l : List Int} : (swL l).length = l.length := by
  by_cases c : 2 ≤ l.length
  · obtain ⟨A, y, x, rfl⟩ := list2 c
    rw [swL_e]; simp
  · unfold swL; rw [if_neg c]
def cuL (h : Mem) : List Int := swL (isort (ltS (h 58)) [] (onL h))
theorem cu_m {h : Mem} (hR : RR h) {x : Int} (hx : x ∈ cuL h) : 0 ≤ x ∧ x < h 56 10 := by
  unfold cuL at hx
  rw [swL_m, (isort_perm _ _).mem_iff, List.nil_append, on_m hR] at hx
  exact row_b hR hx
theorem cu_l {h : Mem} {n : Nat} (hR : RR h) (hn : h 61 0 = (n : Int)) : (cuL h).length = n := by
  unfold cuL
  rw [swL_l, (isort_perm _ _).length_eq, List.nil_append, on_len hR hn]
theorem sortS_e {h : Mem} {l : List Int} (hR : RR h) (hA : Ar h 55 l) (hl : ∀ x ∈ l, 0 ≤ x ∧ x < h 56 10) (hn : h 61 0 = (l.length : Int)) (h1n : 0 < l.length) :
    ∃ h1, F_X7_sortByStrength h = some (0, h1) ∧ Fr (onr 55) h h1 ∧ Ar h1 55 (isort (ltS (h 58)) [] l) := by
  have w9 := wac_n hR
  have hcc := (c_B hR).2
  obtain ⟨n', e0, e9, e26, _⟩ := n_B hR
  have nn : n' = l.length := by omega
  subst nn
  cases l with
  | nil => exact absurd h1n (by simp)
  | cons x rest =>
    simp only [List.length_cons] at e9 e26
    obtain ⟨h1, e1, r1⟩ := isort_gen (h0 := h) (r := 55) (lt := ltS (h 58)) (Q := fun x => 0 ≤ x ∧ x < h 56 10) (N := rest.length + 1) (O := L_X7_sortByStrength_1 (fun p_20 (h_19 : Mem) => some (0, h_19))) (L := fun k K => L_X7_sortByStrength_2 k K) (Kx := fun p_20 (h_19 : Mem) => some (0, h_19)) (fun k K f q g hF hQ hq => by
        show L_X7_sortByStrength_2 k K (f + 1) q g = _
        rw [L_X7_sortByStrength_2]
        refine jn_of.trans ?_
        by_cases c : 0 < q
        · rw [if_pos (by omega), w32_s (z := (q : Int) - 1) (by omega) (by omega), gd_t (by omega), gd_t (by omega)]
          have q1 := hQ q hq
          have q2 := hQ (q - 1) (by omega)
          rw [show ((q - 1 : Nat) : Int) = (q : Int) - 1 by omega] at q2
          have c1 : g 1 1 = h 1 1 := hF 1 1 (by unfold onr; omega)
          have we : F_X7_isWeaker (g 55 q) (g 55 ((q : Int) - 1)) g = some (if ltS (h 58) (g 55 q) (g 55 ((q : Int) - 1)) = true then 1 else 0, g) := by
            unfold F_X7_isWeaker
            refine (nm_of c1).trans ?_
            refine (gd_of (c_B hR).1).trans ?_
            refine (gd_of (by omega)).trans ?_
            refine (nm_of c1).trans ?_
            refine (gd_of (c_B hR).1).trans ?_
            refine (gd_of (by omega)).trans ?_
            have s1 := (hR.2.2.1.2 _ q1.1 q1.2).1.2.2.1
            have s2 := (hR.2.2.1.2 _ q2.1 q2.2).1.2.2.1
            rw [hF (h 1 1 + 2 + g 55 q) 3 (by unfold onr; omega), hF (h 1 1 + 2 + g 55 ((q : Int) - 1)) 3 (by unfold onr; omega), s1, s2]
            unfold ltS
            by_cases d : h 58 (9 * g 55 q + 2) < h 58 (9 * g 55 ((q : Int) - 1) + 2)
            · rw [if_pos d, if_pos (decide_eq_true d)]
            · rw [if_neg d, if_neg (fun z => d (of_decide_eq_true z))]
          refine (bd_of we).trans ?_
          by_cases d : ltS (h 58) (g 55 q) (g 55 ((q : Int) - 1)) = true
          · rw [if_pos d, if_pos (by omega), if_pos ⟨c, d⟩]
            refine (bd_of (swapA_e (by omega))).trans ?_
            refine (nm_of (e' := (q : Int) - 1) (w32_s (by omega) (by omega))).trans ?_
            rfl
          · rw [if_neg d, if_neg (by omega), if_neg (fun z => d z.2)]
        · rw [if_neg (by omega), if_neg (fun z => c z.1)])
      (fun f k g hF hk => by
        rw [L_X7_sortByStrength_1, hF 26 1 (by unfold onr; omega), e26, if_pos (by omega)]
        exact congrArg (fun K => L_X7_sortByStrength_2 k K FU k g) (funext fun q' => funext fun h' => nm_of (w32_n (by omega))))
      (fun f g hF => by
        rw [L_X7_sortByStrength_1, hF 26 1 (by unfold onr; omega), e26, if_neg (by omega)]) (by omega) rest [x] h FU Fr.rfl hA hl (by simp) (by unfold FU; omega)
    exact ⟨h1, e1, r1⟩
theorem sortC_e {h : Mem} {l : List Int} (hA : Ar h 64 l) (hl : ∀ x ∈ l, 0 ≤ x ∧ x < 9) (hn : h 56 18 = (l.length : Int)) (h1n : 0 < l.length) (h10 : l.length ≤ 10) (Kx : Int → Mem → Res) :
    ∃ h1, L_X8_custom_1 Kx FU 1 h = Kx l.length h1 ∧ Fr (onr 64) h h1 ∧ Ar h1 64 (isort (ltS (h 58)) [] l) := by
  cases l with
  | nil => exact absurd h1n (by simp)
  | cons x rest =>
    simp only [List.length_cons] at h10 hn
    obtain ⟨h1, e1, r1⟩ := isort_gen (h0 := h) (r := 64) (lt := ltS (h 58)) (Q := fun x => 0 ≤ x ∧ x < 9) (N := rest.length + 1) (O := L_X8_custom_1 Kx) (L := fun k K => L_X8_custom_2 k K) (Kx := Kx) (fun k K f q g hF hQ hq => by
        show L_X8_custom_2 k K (f + 1) q g = _
        rw [L_X8_custom_2]
        refine jn_of.trans ?_
        by_cases c : 0 < q
        · rw [if_pos (by omega), w32_s (z := (q : Int) - 1) (by omega) (by omega), gd_t (by omega)]
          have q1 := hQ q hq
          have q2 := hQ (q - 1) (by omega)
          rw [show ((q - 1 : Nat) : Int) = (q : Int) - 1 by omega] at q2
          refine (bd_of (of_e (by omega) (by omega) (by omega) (by omega))).trans ?_
          refine (gd_of (by omega)).trans ?_
          refine (bd_of (of_e (by omega) (by omega) (by omega) (by omega))).trans ?_
          rw [hF 58 _ (by unfold onr; omega), hF 58 _ (by unfold onr; omega)]
          by_cases d : h 58 (9 * g 64 q + 2) < h 58 (9 * g 64 ((q : Int) - 1) + 2)
          · rw [if_pos d, if_pos ⟨c, decide_eq_true d⟩]
            refine (bd_of (swaps_e (by omega) (by omega))).trans ?_
            refine (nm_of (e' := (q : Int) - 1) (w32_s (by omega) (by omega))).trans ?_
            rfl
          · rw [if_neg d, if_neg (fun z => d (of_decide_eq_true z.2))]
        · rw [if_neg (by omega), if_neg (fun z => c z.1)])
      (fun f k g hF hk => by
        rw [L_X8_custom_1, hF 56 18 (by unfold onr; omega), hn, if_pos (by omega)]
        exact congrArg (fun K => L_X8_custom_2 k K FU k g) (funext fun q' => funext fun h' => nm_of (w32_n (by omega))))
      (fun f g hF => by
        rw [L_X8_custom_1, hF 56 18 (by unfold onr; omega), hn, if_neg (by omega)]) (by omega) rest [x] h FU Fr.rfl hA hl (by simp) (by unfold FU; omega)
    exact ⟨h1, e1, r1⟩
theorem onr_r {r : Int} {r' k : Int} (hr : r = 55 ∨ r = 64) (h : onr r r' k) : rsc r' k := by unfold onr at h; unfold rsc; omega
