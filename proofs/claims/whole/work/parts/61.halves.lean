/-! halves agree -/
section HallsM
variable {h : Mem} {m : Nat} {x al : Int}
noncomputable def hV (h : Mem) (m f : Nat) (al x : Int) : Int := @ite Int (isH h m f x al) (Classical.propDecidable _) (abI (kS (bt x) (hT h) m - kS (oth x al) (hT h) m)) (-9)
theorem hV_t {f : Nat} (q : isH h m f x al) : hV h m f al x = abI (kS (bt x) (hT h) m - kS (oth x al) (hT h) m) := by unfold hV; exact if_pos q
theorem hV_f {f : Nat} (q : ¬ isH h m f x al) : hV h m f al x = -9 := by unfold hV; exact if_neg q
theorem abI_e {z : Int} (h1 : -1000000 ≤ z) (h2 : z ≤ 1000000) : abI z = if z < 0 then -z else z := by
  unfold abI
  by_cases c : 0 ≤ z
  · rw [if_pos c, if_neg (by omega)]
  · rw [if_neg c, if_pos (by omega), w32_s (by omega) (by omega)]; omega
theorem halls_e {f : Nat} {sum : Int} (hm : h 56 10 = (m : Int)) (m9 : m ≤ 9) (hs : ∀ j, j < m → 0 ≤ hT h j ∧ hT h j ≤ 30) (h0 : 0 ≤ x) (hx : x ≤ al) (ha : al < 2 ^ m) (hf : f < m) (hb : bt al f = true) (hl : ∀ g, g < f → bt al g = false) (hsum : sum = kS (bt al) (hT h) m) :
    F_X8_hallsOf x al sum h = some (hV h m f al x, h) := by
  have k1 : ∀ (d i n : Nat) (Kx : Int → Mem → Res), i + d = f → d < n → L_X8_hallsOf_1 x al sum Kx n i h = Kx f h := by
    intro d
    induction d with
    | zero =>
      intro i n Kx hi hn
      obtain ⟨n, rfl⟩ : ∃ g, n = g + 1 := ⟨n - 1, by omega⟩
      have e : i = f := by omega
      subst e
      rw [L_X8_hallsOf_1, bt_bit (by omega), hb, if_neg (by decide)]
    | succ d ih =>
      intro i n Kx hi hn
      obtain ⟨n, rfl⟩ : ∃ g, n = g + 1 := ⟨n - 1, by omega⟩
      rw [L_X8_hallsOf_1, bt_bit (by omega), hl i (by omega), if_pos (by decide)]
      refine (nm_of (w32_n (by omega))).trans ?_
      exact ih (i + 1) n Kx (by omega) (by omega)
  have k2 : ∀ (d i n : Nat) (Kx : Int → Int → Int → Int → Int → Int → Mem → Res), i + d = m → d < n → L_X8_hallsOf_2 x al sum f Kx n (kC (bt x) i + 99 * kR (bt x) (hK h) i) (kC (oth x al) i + 99 * kR (oth x al) (hK h) i) (kM (bt x) (hK h) i) (kM (oth x al) (hK h) i) (kS (bt x) (hT h) i) i h
      = Kx (kC (bt x) m + 99 * kR (bt x) (hK h) m) (kC (oth x al) m + 99 * kR (oth x al) (hK h) m) (kM (bt x) (hK h) m) (kM (oth x al) (hK h) m) (kS (bt x) (hT h) m) m h := by
    intro d
    induction d with
    | zero =>
      intro i n Kx hi hn
      obtain ⟨n, rfl⟩ : ∃ g, n = g + 1 := ⟨n - 1, by omega⟩
      have e : i = m := by omega
      subst e
      rw [L_X8_hallsOf_2, hm, if_neg (by omega)]
    | succ d ih =>
      intro i n Kx hi hn
      obtain ⟨n, rfl⟩ : ∃ g, n = g + 1 := ⟨n - 1, by omega⟩
      have nx := ih (i + 1) n Kx (by omega) (by omega)
      have c1 := kC_b (b := bt x) i
      have c2 := kC_b (b := oth x al) i
      have r1 := kR_b (b := bt x) (K := hK h) i
      have r2 := kR_b (b := oth x al) (K := hK h) i
      have s1 := kS_b (b := bt x) (s := hT h) i (fun j hj => hs j (by omega))
      have s2 := hs i (by omega)
      have oe : oth x al i = (!(bt x i) && bt al i) := rfl
      have ke : h 58 (9 * (i : Int) + 0) = hK h i := by rw [Int.add_zero]; rfl
      rw [L_X8_hallsOf_2, hm, if_pos (by omega)]
      refine (bd_of (of_e (by omega) (by omega) (by omega) (by omega))).trans ?_
      rw [ke]
      refine (nm_of rfl).trans ?_
      refine jn_of.trans ?_
      rw [bt_bit (by omega), bt_bit (by omega)]
      rw [kC, kC, kR, kR, kM, kM, kS, oe] at nx
      generalize kC (bt x) i = a1 at *
      generalize kC (oth x al) i = a2 at *
      generalize kR (bt x) (hK h) i = b1 at *
      generalize kR (oth x al) (hK h) i = b2 at *
      generalize kS (bt x) (hT h) i = t1 at *
      generalize kM (bt x) (hK h) i = g1 at *
      generalize kM (oth x al) (hK h) i = g2 at *
      cases hb : bt x i with
      | true =>
        rw [hb] at nx
        simp only [if_true, Bool.not_true, Bool.false_and, Bool.false_eq_true, if_false, false_and, true_and] at nx
        rw [if_pos (by decide)]
        refine (nm_of rfl).trans ?_
        by_cases c : iand g1 (ishl 1 (hK h i)) = 0
        · rw [if_pos c]
          rw [if_neg (fun z => z c)] at nx
          refine (nm_of (e' := a1 + 1 + 99 * b1) (by rw [w32_s (by omega) (by omega)]; omega)).trans ?_
          refine (nm_of rfl).trans ?_
          refine (bd_of (of_e (by omega) (by omega) (by omega) (by omega))).trans ?_
          refine (nm_of (e' := t1 + hT h i) (w32_s (by show _ ≤ t1 + hT h i; omega) (by show t1 + hT h i < _; omega))).trans ?_
          refine (nm_of (w32_n (by omega))).trans ?_
          exact nx
        · rw [if_neg c]
          rw [if_pos c] at nx
          refine (nm_of (e' := a1 + 1 + 99 * (b1 + 1)) (by rw [w32_s (by omega) (by omega)]; omega)).trans ?_
          refine (nm_of rfl).trans ?_
          refine (bd_of (of_e (by omega) (by omega) (by omega) (by omega))).trans ?_
          refine (nm_of (e' := t1 + hT h i) (w32_s (by show _ ≤ t1 + hT h i; omega) (by show t1 + hT h i < _; omega))).trans ?_
          refine (nm_of (w32_n (by omega))).trans ?_
          exact nx
      | false =>
        rw [hb] at nx
        simp only [Bool.not_false, Bool.true_and, Bool.false_eq_true, if_false, false_and] at nx
        rw [if_neg (by decide)]
        refine jn_of.trans ?_
        cases hc : bt al i with
        | true =>
          rw [hc] at nx
          simp only [if_true, true_and] at nx
          rw [if_pos (by decide)]
          refine (nm_of rfl).trans ?_
          by_cases c : iand g2 (ishl 1 (hK h i)) = 0
          · rw [if_pos c]
            rw [if_neg (fun z => z c)] at nx
            refine (nm_of (e' := a2 + 1 + 99 * b2) (by rw [w32_s (by omega) (by omega)]; omega)).trans ?_
            refine (nm_of rfl).trans ?_
            refine (nm_of (w32_n (by omega))).trans ?_
            exact nx
          · rw [if_neg c]
            rw [if_pos c] at nx
            refine (nm_of (e' := a2 + 1 + 99 * (b2 + 1)) (by rw [w32_s (by omega) (by omega)]; omega)).trans ?_
            refine (nm_of rfl).trans ?_
            refine (nm_of (w32_n (by omega))).trans ?_
            exact nx
        | false =>
          rw [hc] at nx
          simp only [Bool.false_eq_true, if_false, false_and] at nx
          rw [if_neg (by decide)]
          refine (nm_of (w32_n (by omega))).trans ?_
          exact nx
  unfold F_X8_hallsOf
  refine (k1 f 0 FU _ (by omega) (by unfold FU; omega)).trans ?_
  rw [bt_bit (by omega)]
  by_cases d1 : iand x (ixor al (-1)) = 0 ∧ bt x f = true
  · rw [d1.2, if_neg (by
      intro z
      rcases z with z | z
      · exact z d1.1
      · exact absurd z (by decide))]
    refine (k2 m 0 FU _ (by omega) (by unfold FU; omega)).trans ?_
    refine jn_of.trans ?_
    have c1 := kC_b (b := bt x) m
    have c2 := kC_b (b := oth x al) m
    have r1 := kR_b (b := bt x) (K := hK h) m
    have r2 := kR_b (b := oth x al) (K := hK h) m
    have s1 := kS_b (b := bt x) (s := hT h) m hs
    have s2 := kS_b (b := oth x al) (s := hT h) m hs
    have two := kS_two (b := bt x) (b' := bt al) (b2 := oth x al) (s := hT h) m (fun j hj q => by
      have z := iand_0.mp d1.1 j (by omega) q
      rw [bt_not _ (by omega)] at z
      cases hc : bt al j with
      | true => rfl
      | false => rw [hc] at z; exact absurd z (by decide)) (fun j hj => rfl)
    by_cases d2 : isH h m f x al
    · obtain ⟨_, q2, q3, q4⟩ := d2
      rw [hV_t ⟨d1, q2, q3, q4⟩, q3, q4, hsum, two]
      generalize kC (bt x) m = a1 at *
      generalize kC (oth x al) m = a2 at *
      generalize kS (bt x) (hT h) m = t1 at *
      generalize kS (oth x al) (hT h) m = t2 at *
      rw [if_neg (by omega), if_neg (by omega), w32_s (z := a1 + 99 * 0 - (a2 + 99 * 0)) (by omega) (by omega)]
      refine (bd_of (in_t (by omega) (by omega))).trans ?_
      rw [if_pos (by omega), w32_s (z := 2 * t1) (by omega) (by omega), w32_s (z := 2 * t1 - (t1 + t2)) (by omega) (by omega)]
      refine (nm_of (e' := t1 - t2) (by omega)).trans ?_
      rw [abI_e (by omega) (by omega)]
      by_cases c : t1 - t2 < 0
      · rw [if_pos c, if_pos c, w32_s (by omega) (by omega)]
      · rw [if_neg c, if_neg c]
    · rw [hV_f d2]
      have q : ¬ (-1 ≤ kC (bt x) m - kC (oth x al) m ∧ kC (bt x) m - kC (oth x al) m ≤ 1) ∨ ¬ kR (bt x) (hK h) m = 0 ∨ ¬ kR (oth x al) (hK h) m = 0 := by
        by_cases u1 : (-1 ≤ kC (bt x) m - kC (oth x al) m ∧ kC (bt x) m - kC (oth x al) m ≤ 1)
        · by_cases u2 : kR (bt x) (hK h) m = 0
          · by_cases u3 : kR (oth x al) (hK h) m = 0
            · exact absurd ⟨d1, u1, u2, u3⟩ d2
            · exact Or.inr (Or.inr u3)
          · exact Or.inr (Or.inl u2)
        · exact Or.inl u1
      clear d2
      generalize kC (bt x) m = a1 at *
      generalize kC (oth x al) m = a2 at *
      generalize kR (bt x) (hK h) m = b1 at *
      generalize kR (oth x al) (hK h) m = b2 at *
      by_cases u : 9 < a1 + 99 * b1
      · rw [if_pos u]
      · rw [if_neg u]
        by_cases u' : 9 < a2 + 99 * b2
        · rw [if_pos u']
        · rw [if_neg u', w32_s (z := a1 + 99 * b1 - (a2 + 99 * b2)) (by omega) (by omega)]
          refine (bd_of (in_f (by omega))).trans ?_
          rw [if_neg (by omega)]
  · have d2 : ¬ isH h m f x al := fun z => d1 z.1
    rw [hV_f d2, if_pos]
    by_cases d6 : iand x (ixor al (-1)) = 0
    · right
      cases hx : bt x f with
      | false => rfl
      | true => exact absurd ⟨d6, hx⟩ d1
    · exact Or.inl d6
end HallsM
/-- the best hall of all up to k -/
noncomputable def pS (V : Int → Int) : Nat → Int × Int
  | 0 => (-9, -9)
  | k + 1 => if ¬ V ((k + 1 : Nat) : Int) = -9 ∧ ((pS V k).1 = -9 ∨ V ((k + 1 : Nat) : Int) < (pS V k).2) then (((k + 1 : Nat) : Int), V ((k + 1 : Nat) : Int)) else pS V k
theorem pS_i {V : Int → Int} : ∀ k : Nat, ((pS V k).1 = -9 ∧ (pS V k).2 = -9) ∨ (1 ≤ (pS V k).1 ∧ (pS V k).1 ≤ k ∧ (pS V k).2 = V (pS V k).1 ∧ ¬ V (pS V k).1 = -9)
  | 0 => Or.inl ⟨rfl, rfl⟩
  | k + 1 => by
    have ih := pS_i (V := V) k
    rw [pS]
    split
    · rename_i c
      refine Or.inr ⟨?_, ?_, rfl, c.1⟩
      · show 1 ≤ ((k + 1 : Nat) : Int); omega
      · show ((k + 1 : Nat) : Int) ≤ _; omega
    · rcases ih with q | q
      · exact Or.inl q
      · exact Or.inr ⟨q.1, by omega, q.2.2⟩
/-- the bits of a row -/
def aB (r : Nat → Int) : Nat → Int
  | 0 => 0
  | p + 1 => ior (aB r p) (ishl 1 (r p))
theorem aB_b {r : Nat → Int} {m : Nat} (m9 : m ≤ 9) : ∀ p : Nat, (∀ q, q < p → 0 ≤ r q ∧ r q < m) → (0 ≤ aB r p ∧ aB r p < 2 ^ m) ∧ ∀ i, i < 32 → (bt (aB r p) i = true ↔ ∃ q, q < p ∧ r q = (i : Int))
  | 0, _ => ⟨⟨Int.le_refl _, by show (0 : Int) < 2 ^ m; exact Int.pow_pos (by omega)⟩, fun i _ => ⟨fun z => absurd z (by rw [aB, bt_0]; decide), fun ⟨q, hq, _⟩ => absurd hq (by omega)⟩⟩
  | p + 1, e => by
    have ih := aB_b m9 p (fun q hq => e q (by omega))
    have ep := e p (by omega)
    obtain ⟨k, hk⟩ : ∃ k : Nat, r p = (k : Int) := ⟨(r p).toNat, by omega⟩
    rw [aB, hk]
    refine ⟨ior_b ih.1.1 ih.1.2 (by omega) (by omega), fun i hi => ?_⟩
    rw [bt_ins (by omega) hi, Bool.or_eq_true, ih.2 i hi, decide_eq_true_iff]
    constructor
    · rintro (⟨q, h1, h2⟩ | h1)
      · exact ⟨q, by omega, h2⟩
      · exact ⟨p, by omega, by rw [hk, h1]⟩
    · rintro ⟨q, h1, h2⟩
      by_cases c : q = p
      · rw [c, hk] at h2; right; omega
      · exact Or.inl ⟨q, by omega, h2⟩
theorem bits_e {h : Mem} {n : Nat} (hR : RR h) (hn : h 61 0 = (n : Int)) : F_X1_bits 26 h = some (aB (mB h) n, h) := by
  obtain ⟨n', e0, e9, e26, _⟩ := n_B hR
  have nn : n' = n := by omega
  subst nn
  have key : ∀ (d p f : Nat), p + d = n' → d < f → L_X1_bits_1 26 (fun bits_9 p_10 (h_8 : Mem) => some (bits_9, h_8)) f (aB (mB h) p) p h = some (aB (mB h) n', h) := by
    intro d
    induction d with
    | zero =>
      intro p f hp hf
      obtain ⟨f, rfl⟩ : ∃ g, f = g + 1 := ⟨f - 1, by omega⟩
      rw [L_X1_bits_1, e26, if_neg (by omega), show p = n' by omega]
    | succ d ih =>
      intro p f hp hf
      obtain ⟨f, rfl⟩ : ∃ g, f = g + 1 := ⟨f - 1, by omega⟩
      have mb := mB_b hR hn (show p < n' by omega)
      rw [L_X1_bits_1, e26, if_pos (by omega)]
      refine (gd_of (by omega)).trans ?_
      rw [show (26 : Int) + 1 = 27 from rfl, mb.2.2.2]
      refine (nm_of rfl).trans ?_
      refine (nm_of (w32_n (by omega))).trans ?_
      exact ih (p + 1) f (by omega) (by omega)
  exact key n' 0 FU (by omega) (by unfold FU; omega)
theorem op_halves (what : Int) : OP (F_X7_halves what) (F_X8_halves what) := by
  intro h hR
  obtain ⟨n, e0, e9, e26, eb⟩ := n_B hR
  have w9 := wac_n hR
  by_cases v : 0 ≤ what ∧ what ≤ 1
  · by_cases z : n < 2
    · refine ⟨-2, h, wr h 56 0 0, ?_, ?_, hR.g0 Fr.rfl⟩
      · unfold F_X7_halves
        rw [if_neg (by omega), if_pos (by omega)]
      · unfold F_X8_halves
        refine (nm_of rfl).trans ?_
        refine (bd_of (in_t v.1 v.2)).trans ?_
        rw [if_pos (by omega), if_pos (by rw [wr_o (by omega)]; omega)]
    · obtain ⟨m, hm⟩ : ∃ m : Nat, h 56 10 = (m : Int) := ⟨(h 56 10).toNat, by omega⟩
      have m9 : m ≤ 9 := by omega
      have rb : ∀ q, q < n → 0 ≤ mB h q ∧ mB h q < m := fun q hq => by have := mB_b hR e0 hq; omega
      have ab := aB_b m9 n rb
      have p9 := pw9 m (by omega)
      have hs : ∀ j, j < m → 0 ≤ hT h j ∧ hT h j ≤ 30 := fun j hj => (hR.2.2.2.2.2.2.2.1.2.1.2.2 (j : Int) (by omega) (by omega)).1.2.2.1
      obtain ⟨f, hf, fl⟩ := pk_least (fun f => bt (aB (mB h) n) f = true) (by
        have := rb 0 (by omega)
        exact ⟨(mB h 0).toNat, (ab.2 (mB h 0).toNat (by omega)).mpr ⟨0, by omega, by omega⟩⟩)
      have fm : f < m := by
        by_cases c : f < m
        · exact c
        · rw [bt_hi ab.1.1 (by omega) ab.1.2 (by omega)] at hf
          exact absurd hf (by decide)
      have fl' : ∀ g, g < f → bt (aB (mB h) n) g = false := fun g hg => by
        cases c : bt (aB (mB h) n) g with
        | false => rfl
        | true => exact absurd c (fl g hg)
      have bits := bits_e hR e0
      have Rg := hR.g0 Fr.rfl
      have g58 : ∀ k, (wr h 56 0 0) 58 k = h 58 k := fun k => wr_o (by omega)
      -- the reference's first loop
      have k1 : ∀ (d p f : Nat) (Kx : Int → Int → Int → Mem → Res), p + d = n → d < f → L_X8_halves_1 what Kx f (aB (mB h) p) (kS (bt (aB (mB h) p)) (hT h) m) p (wr h 56 0 0) = Kx (aB (mB h) n) (kS (bt (aB (mB h) n)) (hT h) m) n (wr h 56 0 0) := by
        intro d
        induction d with
        | zero =>
          intro p f Kx hp hf
          obtain ⟨f, rfl⟩ : ∃ g, f = g + 1 := ⟨f - 1, by omega⟩
          rw [L_X8_halves_1, wr_o (by omega), e0, if_neg (by omega), show p = n by omega]
        | succ d ih =>
          intro p f Kx hp hf
          obtain ⟨f, rfl⟩ : ∃ g, f = g + 1 := ⟨f - 1, by omega⟩
          have nx := ih (p + 1) f Kx (by omega) (by omega)
          have rp := rb p (by omega)
          have abp := aB_b m9 p (fun q hq => rb q (by omega))
          have me : mB h p = h 61 (3 + (p : Int)) := by unfold mB; rw [if_pos (by omega)]
          obtain ⟨k, hk⟩ : ∃ k : Nat, mB h p = (k : Int) := ⟨(mB h p).toNat, by omega⟩
          have nb : bt (aB (mB h) p) k = false := by
            cases c : bt (aB (mB h) p) k with
            | false => rfl
            | true =>
              obtain ⟨q, hq, e⟩ := (abp.2 k (by omega)).mp c
              have wb : ¬ h 61 (0 + 3 + (q : Int)) = h 61 (0 + 3 + (p : Int)) := hR.2.2.2.2.2.2.2.1.2.2.2.1.2.2.2.2.2.2 q p (by omega) (by omega) (by omega)
              rw [show (0 : Int) + 3 + (q : Int) = 3 + q by omega, show (0 : Int) + 3 + (p : Int) = 3 + p by omega, ← me, hk, ← e] at wb
              exact absurd (by unfold mB; rw [if_pos (by omega)]) wb
          have ins := kS_ins (b := bt (aB (mB h) p)) (s := hT h) (r := k) nb m
          rw [if_pos (by omega)] at ins
          have cg := (k_c (b := bt (aB (mB h) (p + 1))) (b' := fun i => bt (aB (mB h) p) i || decide (i = k)) (K := fun _ => 0) (s := hT h) m (fun j hj => by rw [aB, hk, bt_ins (by omega) (by omega)])).2.2.2
          rw [cg, ins] at nx
          have sb := kS_b (b := bt (aB (mB h) p)) (s := hT h) m hs
          have sk := hs k (by omega)
          rw [L_X8_halves_1, wr_o (by omega), e0, if_pos (by omega), w32_s (z := 3 + (p : Int)) (by omega) (by omega)]
          refine (gd_of (by omega)).trans ?_
          rw [wr_o (by omega), ← me]
          refine (nm_of (e' := aB (mB h) (p + 1)) rfl).trans ?_
          refine (bd_of (of_e (by omega) (by omega) (by omega) (by omega))).trans ?_
          rw [g58, hk]
          refine (nm_of (e' := kS (bt (aB (mB h) p)) (hT h) m + hT h k) (w32_s (by show _ ≤ _ + hT h k; omega) (by show _ + hT h k < _; omega))).trans ?_
          refine (nm_of (w32_n (by omega))).trans ?_
          exact nx
      -- the second
      generalize hal : aB (mB h) n = al at *
      obtain ⟨a, ha⟩ : ∃ a : Nat, al = (a : Int) := ⟨al.toNat, by omega⟩
      have he : ∀ x : Int, 0 ≤ x → x ≤ al → F_X8_hallsOf x al (kS (bt al) (hT h) m) (wr h 56 0 0) = some (hV h m f al x, wr h 56 0 0) := fun x x0 x1 => by
        have tt : hT (wr h 56 0 0) = hT h := by funext i; unfold hT; rw [g58]
        have tk : hK (wr h 56 0 0) = hK h := by funext i; unfold hK; rw [g58]
        have q := halls_e (h := wr h 56 0 0) (m := m) (x := x) (al := al) (f := f) (sum := kS (bt al) (hT h) m) (by rw [wr_k (by omega)]; exact hm) m9 (by rw [tt]; exact hs) x0 x1 ab.1.2 fm hf fl' (by rw [tt])
        rw [q]
        have vv : hV (wr h 56 0 0) m f al x = hV h m f al x := by unfold hV isH; rw [tt, tk]
        rw [vv]
      have k2 : ∀ (d k fu : Nat) (Kx : Int → Int → Int → Mem → Res), k + d = a → d < fu → L_X8_halves_2 what al (kS (bt al) (hT h) m) Kx fu (pS (hV h m f al) k).1 (pS (hV h m f al) k).2 ((k + 1 : Nat) : Int) (wr h 56 0 0) = Kx (pS (hV h m f al) a).1 (pS (hV h m f al) a).2 ((a + 1 : Nat) : Int) (wr h 56 0 0) := by
        intro d
        induction d with
        | zero =>
          intro k fu Kx hk hfu
          obtain ⟨fu, rfl⟩ : ∃ g, fu = g + 1 := ⟨fu - 1, by omega⟩
          rw [L_X8_halves_2, if_neg (by omega), show k = a by omega]
        | succ d ih =>
          intro k fu Kx hk hfu
          obtain ⟨fu, rfl⟩ : ∃ g, fu = g + 1 := ⟨fu - 1, by omega⟩
          have nx := ih (k + 1) fu Kx (by omega) (by omega)
          rw [L_X8_halves_2, if_pos (by omega)]
          refine (bd_of (he _ (by omega) (by omega))).trans ?_
          refine jn_of.trans ?_
          rw [pS] at nx
          by_cases c : ¬ hV h m f al ((k + 1 : Nat) : Int) = -9 ∧ ((pS (hV h m f al) k).1 = -9 ∨ hV h m f al ((k + 1 : Nat) : Int) < (pS (hV h m f al) k).2)
          · rw [if_pos c]
            rw [if_pos c] at nx
            refine (nm_of (w32_n (by omega))).trans ?_
            exact nx
          · rw [if_neg c]
            rw [if_neg c] at nx
            refine (nm_of (w32_n (by omega))).trans ?_
            exact nx
      -- the class
      have ap : ∀ x : Int, ¬ hV h m f al x = -9 → F_X7_apart x al h = some (hV h m f al x, h) := fun x q => by
        have i : isH h m f x al := Classical.byContradiction (fun z => q (hV_f z))
        rw [apart_e hR hm, hV_t i]
      have k3 : ∀ (d k fu : Nat) (Kx : Int → Int → Mem → Res), k + d = a → d < fu → L_X7_halves_1 what al Kx fu (pS (hV h m f al) k).1 ((k + 1 : Nat) : Int) h = Kx (pS (hV h m f al) a).1 ((a + 1 : Nat) : Int) h := by
        intro d
        induction d with
        | zero =>
          intro k fu Kx hk hfu
          obtain ⟨fu, rfl⟩ : ∃ g, fu = g + 1 := ⟨fu - 1, by omega⟩
          rw [L_X7_halves_1, if_neg (by omega), show k = a by omega]
        | succ d ih =>
          intro k fu Kx hk hfu
          obtain ⟨fu, rfl⟩ : ∃ g, fu = g + 1 := ⟨fu - 1, by omega⟩
          have nx := ih (k + 1) fu Kx (by omega) (by omega)
          obtain ⟨v, e1, e2⟩ := isH_e (x := ((k + 1 : Nat) : Int)) (al := al) hR hm (by omega) (by omega) ab.1.2 fm hf fl'
          have si := pS_i (V := hV h m f al) k
          rw [L_X7_halves_1, if_pos (by omega)]
          refine jn_of.trans ?_
          refine jn_of.trans ?_
          refine jn_of.trans ?_
          refine (bd_of e1).trans ?_
          rw [pS] at nx
          rcases e2 with ⟨v1, q⟩ | ⟨v0, q⟩
          · have hv : ¬ hV h m f al ((k + 1 : Nat) : Int) = -9 := by
              rw [hV_t q]
              have s1 := kS_b (b := bt ((k + 1 : Nat) : Int)) (s := hT h) m hs
              have s2 := kS_b (b := oth ((k + 1 : Nat) : Int) al) (s := hT h) m hs
              generalize kS (bt ((k + 1 : Nat) : Int)) (hT h) m = t1 at *
              generalize kS (oth ((k + 1 : Nat) : Int) al) (hT h) m = t2 at *
              rw [abI_e (by omega) (by omega)]
              split <;> omega
            rw [v1, if_pos (by omega)]
            by_cases c : (pS (hV h m f al) k).1 = -9
            · rw [if_pos c]
              rw [if_pos ⟨hv, Or.inl c⟩] at nx
              refine (nm_of (w32_n (by omega))).trans ?_
              exact nx
            · have s2 := si.resolve_left (fun z => c z.1)
              rw [if_neg c, ap _ hv, bd_s, ap _ s2.2.2.2, bd_s]
              by_cases c2 : hV h m f al ((k + 1 : Nat) : Int) < hV h m f al (pS (hV h m f al) k).1
              · rw [if_pos c2]
                rw [if_pos ⟨hv, Or.inr (by rw [s2.2.2.1]; exact c2)⟩] at nx
                refine (nm_of (w32_n (by omega))).trans ?_
                exact nx
              · rw [if_neg c2]
                rw [if_neg (fun z => z.2.elim c (fun y => c2 (by rw [← s2.2.2.1]; exact y)))] at nx
                refine (nm_of (w32_n (by omega))).trans ?_
                exact nx
          · rw [v0, if_neg (by omega)]
            rw [if_neg (fun z => z.1 (hV_f q))] at nx
            refine (nm_of (w32_n (by omega))).trans ?_
            exact nx
      have sa := pS_i (V := hV h m f al) a
      refine ⟨if what = 0 then (pS (hV h m f al) a).1 else (pS (hV h m f al) a).2, h, wr h 56 0 0, ?_, ?_, Rg⟩
      · unfold F_X7_halves
        rw [if_neg (by omega), if_neg (by omega)]
        refine (bd_of bits).trans ?_
        refine (k3 a 0 FU _ (by omega) (by unfold FU; omega)).trans ?_
        rcases sa with s | s
        · rw [if_pos s.1, s.1, s.2]
          split <;> rfl
        · rw [if_neg (by omega)]
          by_cases c : what = 0
          · rw [if_pos c, if_pos c]
          · rw [if_neg c, if_neg c]
            refine (bd_of (ap _ s.2.2.2)).trans ?_
            rw [s.2.2.1]
      · unfold F_X8_halves
        refine (nm_of rfl).trans ?_
        refine (bd_of (in_t v.1 v.2)).trans ?_
        rw [if_pos (by omega), if_neg (by rw [wr_o (by omega)]; omega)]
        have q := k1 n 0 FU (fun all_20 sum_21 p_22 (h_19 : Mem) => L_X8_halves_2 what all_20 sum_21 (fun best_42 least_43 set_44 (h_41 : Mem) => if (what = 0) then (some (best_42, h_41)) else (some (least_43, h_41))) FU (-9) (-9) 1 h_19) (by omega) (by unfold FU; omega)
        have z0 : kS (bt (aB (mB h) 0)) (hT h) m = 0 := by
          have : ∀ i, kS (bt (aB (mB h) 0)) (hT h) i = 0 := by
            intro i
            induction i with
            | zero => rfl
            | succ i ih => rw [kS, ih, aB, bt_0]; rfl
          exact this m
        rw [z0] at q
        refine q.trans ?_
        refine (k2 a 0 FU _ (by omega) (by unfold FU; omega)).trans ?_
        split <;> rfl
  · refine ⟨-1, h, wr h 56 0 0, ?_, ?_, hR.g0 Fr.rfl⟩
    · unfold F_X7_halves
      rw [if_pos (by omega)]
    · unfold F_X8_halves
      refine (nm_of rfl).trans ?_
      refine (bd_of (in_f (by omega))).trans ?_
      rw [if_neg (by omega)]
