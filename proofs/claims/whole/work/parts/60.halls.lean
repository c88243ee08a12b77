/-! halves: sets of acts, their kinds, counts and strengths -/
def kM (b : Nat → Bool) (K : Nat → Int) : Nat → Int
  | 0 => 0
  | i + 1 => if b i = true then ior (kM b K i) (ishl 1 (K i)) else kM b K i
def kR (b : Nat → Bool) (K : Nat → Int) : Nat → Int
  | 0 => 0
  | i + 1 => if b i = true ∧ ¬ iand (kM b K i) (ishl 1 (K i)) = 0 then kR b K i + 1 else kR b K i
def kC (b : Nat → Bool) : Nat → Int
  | 0 => 0
  | i + 1 => if b i = true then kC b i + 1 else kC b i
def kS (b : Nat → Bool) (s : Nat → Int) : Nat → Int
  | 0 => 0
  | i + 1 => if b i = true then kS b s i + s i else kS b s i
theorem pw9 : ∀ m : Nat, m < 10 → (2 : Int) ^ m ≤ 512 := by decide
section K
variable {b b' : Nat → Bool} {K s : Nat → Int}
theorem k_c : ∀ i : Nat, (∀ j, j < i → b j = b' j) → kM b K i = kM b' K i ∧ kR b K i = kR b' K i ∧ kC b i = kC b' i ∧ kS b s i = kS b' s i
  | 0, _ => ⟨rfl, rfl, rfl, rfl⟩
  | i + 1, e => by
    have ih := k_c i (fun j hj => e j (by omega))
    simp only [kM, kR, kC, kS, ih.1, ih.2.1, ih.2.2.1, ih.2.2.2, e i (by omega), and_self]
theorem kR_b : ∀ i : Nat, 0 ≤ kR b K i ∧ kR b K i ≤ i
  | 0 => ⟨Int.le_refl _, Int.le_refl _⟩
  | i + 1 => by
    have ih := kR_b i
    rw [kR]
    split <;> omega
theorem kC_b : ∀ i : Nat, 0 ≤ kC b i ∧ kC b i ≤ i
  | 0 => ⟨Int.le_refl _, Int.le_refl _⟩
  | i + 1 => by
    have ih := kC_b i
    rw [kC]
    split <;> omega
theorem kS_b : ∀ i : Nat, (∀ j, j < i → 0 ≤ s j ∧ s j ≤ 30) → 0 ≤ kS b s i ∧ kS b s i ≤ 30 * i
  | 0, _ => ⟨Int.le_refl _, Int.le_refl _⟩
  | i + 1, e => by
    have ih := kS_b i (fun j hj => e j (by omega))
    have := e i (by omega)
    rw [kS]
    split <;> omega
theorem kC_x : ∀ d i : Nat, (∀ j, i ≤ j → j < i + d → b j = false) → kC b (i + d) = kC b i
  | 0, i, _ => rfl
  | d + 1, i, e => by
    rw [← Nat.add_assoc, kC, if_neg (by rw [e (i + d) (by omega) (by omega)]; decide), kC_x d i (fun j h1 h2 => e j h1 (by omega))]
theorem kS_ins {r : Nat} (hr : b r = false) : ∀ m : Nat, kS (fun i => b i || decide (i = r)) s m = kS b s m + if r < m then s r else 0
  | 0 => rfl
  | m + 1 => by
    have ih := kS_ins hr m
    rw [kS, kS, ih]
    by_cases c : m = r
    · subst c
      simp [hr]
    · have e : (if r < m + 1 then s r else 0) = if r < m then s r else 0 := by
        by_cases d : r < m
        · rw [if_pos d, if_pos (by omega)]
        · rw [if_neg d, if_neg (by omega)]
      rw [decide_eq_false c, Bool.or_false, e]
      generalize (if r < m then s r else 0) = t
      cases b m <;> simp only [Bool.false_eq_true, if_true, if_false] <;> omega
theorem kS_two {b2 : Nat → Bool} : ∀ m : Nat, (∀ j, j < m → b j = true → b' j = true) → (∀ j, j < m → b2 j = (!(b j) && b' j)) → kS b' s m = kS b s m + kS b2 s m
  | 0, _, _ => rfl
  | m + 1, h1, h2 => by
    have ih := kS_two m (fun j hj => h1 j (by omega)) (fun j hj => h2 j (by omega))
    have e1 := h1 m (by omega)
    have e2 := h2 m (by omega)
    rw [kS, kS, kS, ih, e2]
    cases hb : b m with
    | true => rw [e1 hb]; simp only [Bool.not_true, Bool.false_and, if_true, Bool.false_eq_true, if_false]; omega
    | false => 
      cases hb' : b' m with
      | true => simp only [Bool.not_false, Bool.true_and, if_true, Bool.false_eq_true, if_false]; omega
      | false => simp only [Bool.not_false, Bool.true_and, Bool.false_eq_true, if_false]
end K
def bcv (i_0 : Int) : Int :=
  let i_1 := w32 (i_0 - (iand (iushr i_0 1) 1431655765))
  let i_2 := w32 ((iand i_1 858993459) + (iand (iushr i_1 2) 858993459))
  let i_3 := iand (w32 (i_2 + (iushr i_2 4))) 252645135
  let i_4 := w32 (i_3 + (iushr i_3 8))
  let i_5 := w32 (i_4 + (iushr i_4 16))
  iand i_5 63
theorem bc_e {x : Int} (h0 : 0 ≤ x) (h1 : x < 512) (h : Mem) : F_X10_bitCount x h = some (kC (bt x) 9, h) := by
  have key : ((List.range 512).all (fun x => decide (bcv (x : Int) = kC (bt (x : Int)) 9))) = true := by decide +kernel
  have e := of_decide_eq_true (List.all_eq_true.mp key x.toNat (List.mem_range.mpr (by omega)))
  rw [show ((x.toNat : Nat) : Int) = x by omega] at e
  have f : F_X10_bitCount x h = some (bcv x, h) := rfl
  rw [f, e]
theorem lst_e {a : Int} {f : Nat} (h0 : 0 ≤ a) (h1 : a < 512) (hf : f < 9) (hb : bt a f = true) (hl : ∀ g, g < f → bt a g = false) : iand a (w32 (-a)) = ishl 1 (f : Int) := by
  have key : ((List.range 512).all (fun a => (List.range 9).all (fun f => !(bt (a : Int) f && (List.range f).all (fun g => !(bt (a : Int) g))) || decide (iand (a : Int) (w32 (-(a : Int))) = ishl 1 (f : Int))))) = true := by decide +kernel
  have e := List.all_eq_true.mp (List.all_eq_true.mp key a.toNat (List.mem_range.mpr (by omega))) f (List.mem_range.mpr hf)
  rw [show ((a.toNat : Nat) : Int) = a by omega, hb, Bool.true_and] at e
  have q : ((List.range f).all (fun g => !(bt a g))) = true := List.all_eq_true.mpr (fun g hg => by rw [hl g (List.mem_range.mp hg)]; rfl)
  rw [q, Bool.not_true, Bool.false_or] at e
  exact of_decide_eq_true e
section Halls
variable {h : Mem} {m : Nat} {x al : Int}
/-- kinds and strengths of the acts -/
def hK (h : Mem) : Nat → Int := fun i => h 58 (9 * (i : Int))
def hT (h : Mem) : Nat → Int := fun i => h 58 (9 * (i : Int) + 2)
def oth (x al : Int) : Nat → Bool := fun i => !(bt x i) && bt al i
theorem one_e (hR : RR h) (hm : h 56 10 = (m : Int)) : F_X7_hasOneOfAKind x h = some (if kR (bt x) (hK h) m = 0 then 1 else 0, h) := by
  have w9 := wac_n hR
  have hc : h (h 1 1) 1 = h 56 10 := hR.2.2.1.1
  have mono : ∀ d i, 0 < kR (bt x) (hK h) i → 0 < kR (bt x) (hK h) (i + d) := by
    intro d
    induction d with
    | zero => intro i q; exact q
    | succ d ih =>
      intro i q
      have := ih i q
      rw [← Nat.add_assoc, kR]
      split <;> omega
  have key : ∀ (d i f : Nat), i + d = m → d < f → kR (bt x) (hK h) i = 0 → L_X7_hasOneOfAKind_1 x (fun kinds_19 i_20 (h_18 : Mem) => some (1, h_18)) f (kM (bt x) (hK h) i) i h = some (if kR (bt x) (hK h) m = 0 then 1 else 0, h) := by
    intro d
    induction d with
    | zero =>
      intro i f hi hf hz
      obtain ⟨f, rfl⟩ : ∃ g, f = g + 1 := ⟨f - 1, by omega⟩
      rw [L_X7_hasOneOfAKind_1]
      refine (nm_of rfl).trans ?_
      refine (gd_of (c_B hR).1).trans ?_
      rw [hc, if_neg (by omega), if_pos (by rw [show m = i by omega]; exact hz)]
    | succ d ih =>
      intro i f hi hf hz
      obtain ⟨f, rfl⟩ : ∃ g, f = g + 1 := ⟨f - 1, by omega⟩
      have nx := ih (i + 1) f (by omega) (by omega)
      have k1 : h (h 1 1 + 2 + (i : Int)) 1 = hK h i := (hR.2.2.1.2 (i : Int) (by omega) (by omega)).1.1
      rw [L_X7_hasOneOfAKind_1]
      refine (nm_of rfl).trans ?_
      refine (gd_of (c_B hR).1).trans ?_
      rw [hc, if_pos (by omega)]
      refine jn_of.trans ?_
      rw [bt_bit (by omega)]
      rw [kM, kR] at nx
      cases hb : bt x i with
      | true =>
        rw [hb] at nx
        simp only [true_and, if_true] at nx
        rw [if_pos rfl, if_pos rfl]
        refine (nm_of rfl).trans ?_
        refine (gd_of (c_B hR).1).trans ?_
        refine (gd_of (by omega)).trans ?_
        refine (nm_of (congrArg (ishl 1) k1)).trans ?_
        by_cases c : iand (kM (bt x) (hK h) i) (ishl 1 (hK h i)) = 0
        · rw [if_neg (fun z => z c)]
          rw [if_neg (fun z => z c)] at nx
          refine (nm_of rfl).trans ?_
          refine (nm_of (w32_n (by omega))).trans ?_
          exact nx hz
        · rw [if_pos c]
          have big := mono d (i + 1) (by rw [kR, if_pos ⟨hb, c⟩]; omega)
          rw [show i + 1 + d = m by omega] at big
          rw [if_neg (by omega)]
      | false =>
        rw [hb] at nx
        simp only [Bool.false_eq_true, false_and, if_false] at nx
        rw [if_neg (by decide)]
        refine (nm_of (w32_n (by omega))).trans ?_
        exact nx hz
  exact key m 0 FU (by omega) (by unfold FU; omega) rfl
theorem apart_e (hR : RR h) (hm : h 56 10 = (m : Int)) : F_X7_apart x al h = some (abI (kS (bt x) (hT h) m - kS (oth x al) (hT h) m), h) := by
  have w9 := wac_n hR
  have hc : h (h 1 1) 1 = h 56 10 := hR.2.2.1.1
  have sb : ∀ j, j < m → 0 ≤ hT h j ∧ hT h j ≤ 30 := fun j hj => (hR.2.2.2.2.2.2.2.1.2.1.2.2 (j : Int) (by omega) (by omega)).1.2.2.1
  have key : ∀ (d i f : Nat), i + d = m → d < f → L_X7_apart_1 x al (fun more_25 i_26 (h_24 : Mem) => some (abI more_25, h_24)) f (kS (bt x) (hT h) i - kS (oth x al) (hT h) i) i h = some (abI (kS (bt x) (hT h) m - kS (oth x al) (hT h) m), h) := by
    intro d
    induction d with
    | zero =>
      intro i f hi hf
      obtain ⟨f, rfl⟩ : ∃ g, f = g + 1 := ⟨f - 1, by omega⟩
      rw [L_X7_apart_1]
      refine (nm_of rfl).trans ?_
      refine (gd_of (c_B hR).1).trans ?_
      rw [hc, if_neg (by omega), show m = i by omega]
    | succ d ih =>
      intro i f hi hf
      obtain ⟨f, rfl⟩ : ∃ g, f = g + 1 := ⟨f - 1, by omega⟩
      have nx := ih (i + 1) f (by omega) (by omega)
      have k1 : h (h 1 1 + 2 + (i : Int)) 3 = hT h i := (hR.2.2.1.2 (i : Int) (by omega) (by omega)).1.2.2.1
      have b1 := kS_b (b := bt x) (s := hT h) i (fun j hj => sb j (by omega))
      have b2 := kS_b (b := oth x al) (s := hT h) i (fun j hj => sb j (by omega))
      have b3 := sb i (by omega)
      rw [L_X7_apart_1]
      refine (nm_of rfl).trans ?_
      refine (gd_of (c_B hR).1).trans ?_
      rw [hc, if_pos (by omega)]
      refine jn_of.trans ?_
      rw [bt_bit (by omega), bt_bit (by omega)]
      rw [kS, kS] at nx
      have oe : oth x al i = (!(bt x i) && bt al i) := rfl
      rw [oe] at nx
      generalize kS (bt x) (hT h) i = a at *
      generalize kS (oth x al) (hT h) i = b at *
      cases hb : bt x i with
      | true =>
        rw [hb] at nx
        simp only [if_true, Bool.not_true, Bool.false_and, Bool.false_eq_true, if_false] at nx
        rw [if_pos rfl, if_pos rfl]
        refine (nm_of rfl).trans ?_
        refine (gd_of (c_B hR).1).trans ?_
        refine (gd_of (by omega)).trans ?_
        rw [k1]
        refine (nm_of (e' := a + hT h i - b) (by rw [w32_s (by omega) (by omega)]; omega)).trans ?_
        refine (nm_of (w32_n (by omega))).trans ?_
        exact nx
      | false =>
        rw [hb] at nx
        simp only [Bool.not_false, Bool.true_and, Bool.false_eq_true, if_false] at nx
        rw [if_neg (by decide)]
        refine jn_of.trans ?_
        cases ha : bt al i with
        | true =>
          rw [ha] at nx
          simp only [if_true] at nx
          rw [if_pos rfl, if_pos rfl]
          refine (nm_of rfl).trans ?_
          refine (gd_of (c_B hR).1).trans ?_
          refine (gd_of (by omega)).trans ?_
          rw [k1]
          refine (nm_of (e' := a - (b + hT h i)) (by rw [w32_s (by omega) (by omega)]; omega)).trans ?_
          refine (nm_of (w32_n (by omega))).trans ?_
          exact nx
        | false =>
          rw [ha] at nx
          simp only [Bool.false_eq_true, if_false] at nx
          rw [if_neg (by decide)]
          refine (nm_of (w32_n (by omega))).trans ?_
          exact nx
  exact key m 0 FU (by omega) (by unfold FU; omega)
/-- whether a set is a hall -/
def isH (h : Mem) (m f : Nat) (x al : Int) : Prop := (iand x (ixor al (-1)) = 0 ∧ bt x f = true) ∧ (-1 ≤ kC (bt x) m - kC (oth x al) m ∧ kC (bt x) m - kC (oth x al) m ≤ 1) ∧ kR (bt x) (hK h) m = 0 ∧ kR (oth x al) (hK h) m = 0
theorem isH_e {f : Nat} (hR : RR h) (hm : h 56 10 = (m : Int)) (h0 : 0 ≤ x) (hx : x ≤ al) (ha : al < 2 ^ m) (hf : f < m) (hb : bt al f = true) (hl : ∀ g, g < f → bt al g = false) :
    ∃ v, F_X7_isHall x al h = some (v, h) ∧ ((v = 1 ∧ isH h m f x al) ∨ (v = 0 ∧ ¬ isH h m f x al)) := by
  have w9 := wac_n hR
  have m9 : m ≤ 9 := by omega
  have p9 : (2 : Int) ^ m ≤ 512 := pw9 m (by omega)
  have le := lst_e (by omega) (by omega) (by omega) hb hl
  have lq : iand x (ishl 1 (f : Int)) = 0 ↔ bt x f = false := by
    rw [iand_0]
    constructor
    · intro q
      cases hx : bt x f with
      | false => rfl
      | true =>
        have := q f (by omega) hx
        rw [bt_1 (by omega) (by omega), decide_eq_true rfl] at this
        exact absurd this (by decide)
    · intro q i hi hx
      rw [bt_1 (by omega) hi]
      refine decide_eq_false (fun e => ?_)
      rw [e, q] at hx
      exact absurd hx (by decide)
  unfold F_X7_isHall
  rw [le]
  have ob : ∀ i, i < 32 → bt (iand al (ixor x (-1))) i = oth x al i := fun i hi => by
    rw [bt_and, bt_not _ hi, Bool.and_comm]; rfl
  have ol : 0 ≤ iand al (ixor x (-1)) ∧ iand al (ixor x (-1)) < 2 ^ m := bt_lo (in_iand _ _) (by omega) (fun i h1 h2 => by
    rw [ob i h2]
    unfold oth
    rw [bt_hi (by omega) (by omega) ha h1, Bool.and_false])
  have c1 : kC (bt x) 9 = kC (bt x) m := by
    have := kC_x (b := bt x) (9 - m) m (fun j h1 _ => bt_hi h0 (by omega) (by omega) h1)
    rw [show m + (9 - m) = 9 by omega] at this; exact this
  have c2 : kC (bt (iand al (ixor x (-1)))) 9 = kC (oth x al) m := by
    have := kC_x (b := bt (iand al (ixor x (-1)))) (9 - m) m (fun j h1 _ => bt_hi ol.1 (by omega) ol.2 h1)
    rw [show m + (9 - m) = 9 by omega] at this
    rw [this]
    exact (k_c (K := fun _ => 0) (s := fun _ => 0) m (fun j hj => ob j (by omega))).2.2.1
  have r2 : kR (bt (iand al (ixor x (-1)))) (hK h) m = kR (oth x al) (hK h) m := (k_c (s := fun _ => 0) m (fun j hj => ob j (by omega))).2.1
  have e1 := bc_e h0 (by omega) h
  have e2 := bc_e ol.1 (by omega) h
  have e3 := one_e (x := x) hR hm
  have e4 := one_e (x := iand al (ixor x (-1))) hR hm
  have q1 := kC_b (b := bt x) m
  have q2 := kC_b (b := oth x al) m
  rw [c1] at e1
  rw [c2] at e2
  rw [r2] at e4
  generalize iand al (ixor x (-1)) = o at *
  unfold isH
  by_cases d1 : (iand x (ixor al (-1)) = 0 ∧ bt x f = true)
  · have d1' : ¬ (¬ iand x (ixor al (-1)) = 0 ∨ iand x (ishl 1 (f : Int)) = 0) := by
      rw [lq]
      intro z
      rcases z with z | z
      · exact z d1.1
      · rw [d1.2] at z; exact absurd z (by decide)
    by_cases d2 : (-1 ≤ kC (bt x) m - kC (oth x al) m ∧ kC (bt x) m - kC (oth x al) m ≤ 1)
    · by_cases d3 : kR (bt x) (hK h) m = 0
      · by_cases d4 : kR (oth x al) (hK h) m = 0
        · refine ⟨1, ?_, Or.inl ⟨rfl, d1, d2, d3, d4⟩⟩
          refine (nm_of rfl).trans ?_
          refine (nm_of rfl).trans ?_
          rw [if_neg d1', e1, bd_s, e2, bd_s]
          refine (nm_of (w32_s (by omega) (by omega))).trans ?_
          refine jn_of.trans ?_
          rw [if_pos d2.1, if_pos d2.2, e3, bd_s, if_pos d3, if_pos (by omega), e4, bd_s, if_pos d4, if_pos (by omega)]
        · refine ⟨0, ?_, Or.inr ⟨rfl, fun z => d4 z.2.2.2⟩⟩
          refine (nm_of rfl).trans ?_
          refine (nm_of rfl).trans ?_
          rw [if_neg d1', e1, bd_s, e2, bd_s]
          refine (nm_of (w32_s (by omega) (by omega))).trans ?_
          refine jn_of.trans ?_
          rw [if_pos d2.1, if_pos d2.2, e3, bd_s, if_pos d3, if_pos (by omega), e4, bd_s, if_neg d4, if_neg (by omega)]
      · refine ⟨0, ?_, Or.inr ⟨rfl, fun z => d3 z.2.2.1⟩⟩
        refine (nm_of rfl).trans ?_
        refine (nm_of rfl).trans ?_
        rw [if_neg d1', e1, bd_s, e2, bd_s]
        refine (nm_of (w32_s (by omega) (by omega))).trans ?_
        refine jn_of.trans ?_
        rw [if_pos d2.1, if_pos d2.2, e3, bd_s, if_neg d3, if_neg (by omega)]
    · refine ⟨0, ?_, Or.inr ⟨rfl, fun z => d2 z.2.1⟩⟩
      refine (nm_of rfl).trans ?_
      refine (nm_of rfl).trans ?_
      rw [if_neg d1', e1, bd_s, e2, bd_s]
      refine (nm_of (w32_s (by omega) (by omega))).trans ?_
      refine jn_of.trans ?_
      by_cases d5 : -1 ≤ kC (bt x) m - kC (oth x al) m
      · rw [if_pos d5, if_neg (fun z => d2 ⟨d5, z⟩)]
      · rw [if_neg d5]
  · refine ⟨0, ?_, Or.inr ⟨rfl, fun z => d1 z.1⟩⟩
    refine (nm_of rfl).trans ?_
    refine (nm_of rfl).trans ?_
    rw [if_pos ?_]
    rw [lq]
    by_cases d6 : iand x (ixor al (-1)) = 0
    · right
      cases hx : bt x f with
      | false => rfl
      | true => exact absurd ⟨d6, hx⟩ d1
    · exact Or.inl d6
end Halls
