/-! the reference's house -/
theorem nm_of {α : Type} {e e' : α} {k : α → Res} (he : e = e') : nm e k = k e' := by rw [he]; rfl
theorem bd_of {f : Res} {k : Int → Mem → Res} {v : Int} {h : Mem} (hf : f = some (v, h)) : bd f k = k v h := by rw [hf]; rfl
theorem gd_of {c : Prop} [Decidable c] {a : Res} (h : c) : gd c a = a := if_pos h
theorem jn_of {α : Type} {B : α → Res} {K : α} : jn B K = B K := rfl
theorem clamp_e (z : Int) : (if z < 0 then 0 else if 100 < z then 100 else z) = mxI 0 (mnI 100 z) := by
  unfold mxI mnI
  by_cases a : z < 0
  · rw [if_pos a, if_pos (show z < 100 by omega), if_neg (by omega)]
  · rw [if_neg a]
    by_cases b : 100 < z
    · rw [if_pos b, if_neg (show ¬ z < 100 by omega), if_pos (by omega)]
    · rw [if_neg b]
      by_cases c : z < 100
      · rw [if_pos c]
        by_cases d : 0 < z
        · rw [if_pos d]
        · rw [if_neg d]; omega
      · rw [if_neg c, if_pos (by omega)]; omega
def nsc (r k : Int) : Prop := (67 ≤ r ∧ r ≤ 70) ∨ (r = 56 ∧ (k = 26 ∨ k = 27)) ∨ (r = 61 ∧ k = 2)
theorem ic_0 {q : Nat → Int → Int} {T : Int → Int} {b : Int} {u : Nat → Int} : ∀ p : Nat, (p : Int) ≤ b ∨ b ≤ 0 → (sHs q T b u p).2.2.2 = 0
  | 0, _ => rfl
  | p + 1, hp => by
    have ih := ic_0 (q := q) (T := T) (b := b) (u := u) p (by omega)
    simp only [sHs]
    rw [if_neg (by omega)]
    exact ih
section NightOf
variable {h0 : Mem} {n : Nat} {b isD : Int} {u : Nat → Int} {LK : Nat → Mem → Prop}
def NI (h0 : Mem) (n : Nat) (b : Int) (u : Nat → Int) (LK : Nat → Mem → Prop) (p : Nat) (heat people : Int) (h : Mem) : Prop :=
  Fr nsc h0 h ∧ heat = (sHs (q8 h0) (h0 59) b u p).1 ∧ people = (sHs (q8 h0) (h0 59) b u p).2.1 ∧ h 56 26 = (sHs (q8 h0) (h0 59) b u p).2.2.2 ∧ h 56 27 = (sHs (q8 h0) (h0 59) b u p).2.2.1 + (if 0 < p ∧ p = n then sCp (q8 h0) (h0 59) b u (n - 1) else 0)
  ∧ (∀ j : Nat, j < p → h 67 j = sHt (q8 h0) (h0 59) b u j ∧ h 68 j = sCp (q8 h0) (h0 59) b u j ∧ h 69 j = (sHs (q8 h0) (h0 59) b u (j + 1)).1 ∧ h 70 j = (sHs (q8 h0) (h0 59) b u (j + 1)).2.1) ∧ LK p h
theorem night_s (hR : R8 h0 n) (hb : h0 56 19 = b) (h65 : ∀ p : Nat, p < n → h0 65 p = sGp (q8 h0) (h0 59) b p) (hu : ∀ j, -2 ≤ u j ∧ u j ≤ 2)
    (hL : ∀ (p : Nat) (h1 : Mem) (c0 : Int), p < n → LK p h1 → 0 ≤ c0 → c0 ≤ 60 → ∃ h2, (∀ K : Int → Mem → Res, (if ¬ isD = 0 then bd (F_X8_draws h1) (fun r_61 h_62 => bd (F_X8_less c0 (w32 (2 - r_61)) h_62) (fun r_64 h_65 => K r_64 h_65)) else K c0 h1) = K (mxI 0 (c0 + u p)) h2) ∧ (∀ r k : Int, ¬ (r = 61 ∧ k = 2) → h2 r k = h1 r k) ∧ LK (p + 1) h2)
    (hLf : ∀ (p : Nat) (h1 h2 : Mem), h2 61 2 = h1 61 2 → LK p h1 → LK p h2)
    {p : Nat} {heat people : Int} {h : Mem} (hp : p < n) (hI : NI h0 n b u LK p heat people h) (Kx : Int → Int → Int → Mem → Res) (f : Nat) :
    ∃ heat' people' h', L_X8_nightOf_1 isD Kx (f + 1) heat people p h = L_X8_nightOf_1 isD Kx f heat' people' ((p + 1 : Nat) : Int) h' ∧ NI h0 n b u LK (p + 1) heat' people' h' := by
  obtain ⟨hF, i1, i2, i3, i4, i5, i6⟩ := hI
  have h10 := hR.1
  have nm1 : h 56 18 = n := by rw [hF 56 18 (by unfold nsc; omega)]; exact hR.2.1
  have b1 : h 56 19 = b := by rw [hF 56 19 (by unfold nsc; omega)]; exact hb
  have f58 : ∀ k, h 58 k = h0 58 k := fun k => hF 58 k (by unfold nsc; omega)
  have f59 : ∀ k, h 59 k = h0 59 k := fun k => hF 59 k (by unfold nsc; omega)
  have f64 : ∀ k, h 64 k = h0 64 k := fun k => hF 64 k (by unfold nsc; omega)
  have f65 : h 65 p = sGp (q8 h0) (h0 59) b p := by rw [hF 65 p (by unfold nsc; omega)]; exact h65 p hp
  have hT := hR.2.2.2.2
  obtain ⟨w0, w1, w2, w3, w4, w5, w6, w7⟩ := id hT
  have wq := hR.2.2.2.1 p hp
  have rp := hR.2.2.1 p hp
  have s1 := hs_b (b := b) hR.2.2.2.1 hT hu p (by omega)
  have g1 := gp_b (b := b) hR.2.2.2.1 hT hp
  have ha1 := ha_b (q := q8 h0) (b := b) hT g1.1 s1.1
  have cl1 := cl_b (q := q8 h0) hT wq.2.2.1 ha1 (hu p)
  rw [← i1] at s1 ha1 cl1
  rw [← i2] at s1
  -- names of the numbers of this place
  obtain ⟨ha, eha⟩ : ∃ x, x = sHa (q8 h0) (h0 59) b p heat := ⟨_, rfl⟩
  obtain ⟨cl, ecl⟩ : ∃ x, x = sCl (q8 h0) (h0 59) p ha (u p) := ⟨_, rfl⟩
  rw [← eha] at ha1 cl1
  rw [← ecl] at cl1
  have Ht : sHt (q8 h0) (h0 59) b u p = ha := by unfold sHt; rw [← i1, ← eha]
  have Cp : sCp (q8 h0) (h0 59) b u p = cl := by unfold sCp; rw [Ht, ← ecl]
  have S1 : (sHs (q8 h0) (h0 59) b u (p + 1)).1 = mxI 0 (mnI 100 (ha + cl - 12)) := by simp only [sHs]; rw [← i1, ← eha, ← ecl]
  have S2 : (sHs (q8 h0) (h0 59) b u (p + 1)).2.1 = if cl < 8 then people - people * (8 - cl) / 100 else people := by simp only [sHs]; rw [← i1, ← i2, ← eha, ← ecl]
  have S3 : (sHs (q8 h0) (h0 59) b u (p + 1)).2.2.1 = (sHs (q8 h0) (h0 59) b u p).2.2.1 + cl := by simp only [sHs]; rw [← i1, ← eha, ← ecl]
  have S4 : (sHs (q8 h0) (h0 59) b u (p + 1)).2.2.2 = if 0 < b ∧ (p : Int) = b then people * heat / 1000 else (sHs (q8 h0) (h0 59) b u p).2.2.2 := by simp only [sHs]; rw [← i1, ← i2]
  have m2 := mul_b (A := 999) (B := 100) s1.2.1.1 s1.2.1.2 s1.1.1 s1.1.2
  have m1 := mul_b (A := 9) (B := 18) w3.1 w3.2 g1.1 g1.2
  -- the heat behind a break
  have K1 : ∃ h1 hx, (∀ K : Int → Mem → Res, (if ¬ (if 0 < b ∧ (p : Int) = b then (1 : Int) else 0) = 0 then nm (wr h 56 26 (w32 (h 56 26 + idv (w32 (people * heat)) 1000))) (fun (h_13 : Mem) => nm (idv heat 2) (fun heat_14 => K heat_14 h_13)) else K heat h) = K h1 hx) ∧ h1 = (if 0 < b ∧ (p : Int) = b then heat / 2 else heat) ∧ hx 56 26 = (sHs (q8 h0) (h0 59) b u (p + 1)).2.2.2 ∧ ∀ r k : Int, ¬ (r = 56 ∧ k = 26) → hx r k = h r k := by
    by_cases c : 0 < b ∧ (p : Int) = b
    · refine ⟨heat / 2, wr h 56 26 (people * heat / 1000), fun K => ?_, by rw [if_pos c], by rw [S4, if_pos c]; simp only [nm, jn, bd, gd, wr_at, Int.reduceEq, Int.reduceNeg, Int.reduceLT, Int.reduceLE, Int.reduceAdd, Int.reduceSub, false_and, true_and, and_true, and_false, and_self, or_false, false_or, or_true, true_or, if_true, if_false, ite_self, not_true_eq_false, not_false_eq_true, true_implies, implies_true], fun r k hn => by rw [wr_at, if_neg hn]⟩
      rw [if_pos c, if_pos (by omega)]
      refine (nm_of (e' := wr h 56 26 (people * heat / 1000)) ?_).trans ?_
      · rw [i3, ic_0 p (Or.inl (by omega)), w32_s (z := people * heat) (by omega) (by omega), idv_e (by omega) (by omega) (by omega), Int.zero_add, w32_s (by omega) (by omega)]
      · refine nm_of ?_
        exact idv_e (by omega) (by omega) (by omega)
    · exact ⟨heat, h, fun K => by rw [if_neg c, if_neg (by omega)], by rw [if_neg c], by rw [S4, if_neg c]; exact i3, fun _ _ _ => rfl⟩
  obtain ⟨h1, hx, K1, eh1, x26, hxf⟩ := K1
  have bh1 : 0 ≤ h1 ∧ h1 ≤ 100 := by rw [eh1]; split <;> omega
  have xf : ∀ r k : Int, ¬ r = 56 → hx r k = h r k := fun r k hr => hxf r k (fun z => hr z.1)
  have l1 : F_X8_less h1 (w32 (hx 59 3 * hx 65 p)) hx = some (mxI 0 (h1 - h0 59 3 * sGp (q8 h0) (h0 59) b p), hx) := by
    rw [xf 59 3 (by omega), xf 65 p (by omega), f59, f65, w32_s (by omega) (by omega)]
    exact less_e (by omega) (by omega) (by omega) (by omega)
  have of1 : ∀ k : Int, 0 ≤ k → k < 9 → ∀ hy : Mem, (∀ z, hy 58 z = h0 58 z) → hy 64 p = h0 64 p → F_X8_of (hy 64 p) k hy = some (q8 h0 p k, hy) := by
    intro k k0 k9 hy e58 e64
    rw [e64, of_e rp.1 (by omega) k0 k9, e58]; rfl
  have x58 : ∀ z, hx 58 z = h0 58 z := fun z => by rw [xf 58 z (by omega)]; exact f58 z
  have x64 : ∀ z, hx 64 z = h0 64 z := fun z => by rw [xf 64 z (by omega)]; exact f64 z
  have x1 := @mxI_b 0 (h1 - h0 59 3 * sGp (q8 h0) (h0 59) b p)
  -- the tone of the act ahead
  have K2 : ∃ t, (∀ K : Int → Mem → Res, (if (0 < (p : Int) ∧ ¬ (¬ (if 0 < b ∧ (p : Int) = b then (1 : Int) else 0) = 0)) then gd (0 ≤ w32 ((p : Int) - 1) ∧ w32 ((p : Int) - 1) < 10) (bd (F_X8_of (hx 64 (w32 ((p : Int) - 1))) 6 hx) (fun r_27 h_28 => K r_27 h_28)) else K 0 hx) = K t hx) ∧ t = (if 0 < p ∧ ¬ (0 < b ∧ (p : Int) = b) then q8 h0 (p - 1) 6 else 0) := by
    by_cases c : 0 < p ∧ ¬ (0 < b ∧ (p : Int) = b)
    · obtain ⟨j, rfl⟩ : ∃ j, p = j + 1 := ⟨p - 1, by omega⟩
      have rj := hR.2.2.1 j (by omega)
      refine ⟨q8 h0 j 6, fun K => ?_, by rw [if_pos c, Nat.add_sub_cancel]⟩
      rw [if_neg c.2, if_pos ⟨by omega, fun z => z rfl⟩, w32_p (by omega)]
      refine (gd_of (by omega)).trans ?_
      refine bd_of ?_
      rw [x64, of_e rj.1 (by omega) (by omega) (by omega), x58]; rfl
    · refine ⟨0, fun K => ?_, by rw [if_neg c]⟩
      by_cases d : 0 < b ∧ (p : Int) = b
      · rw [if_pos d, if_neg (fun z => z.2 (by omega))]
      · rw [if_neg d, if_neg (fun z => c ⟨by omega, d⟩)]
  obtain ⟨t, K2, et⟩ := K2
  have hd1 : mxI 0 (mxI 0 (mxI 0 (h1 - h0 59 3 * sGp (q8 h0) (h0 59) b p) - (if 0 < q8 h0 p 6 ∧ q8 h0 p 6 = t then 10 else 0)) - (if q8 h0 p 6 = 2 ∧ t = 1 then 5 else 0)) = ha := by
    rw [eha]
    unfold sHa
    dsimp only
    rw [← eh1]
    have w6' := wq.2.2.2.2.2.2.1
    by_cases c : 0 < p ∧ ¬ (0 < b ∧ (p : Int) = b)
    · rw [if_pos c] at et ⊢
      rw [← et]
      by_cases d : q8 h0 p 6 = t ∧ ¬ q8 h0 p 6 = 0
      · rw [if_pos d, if_pos (by omega), if_neg (by omega), Int.sub_zero, mxI_0 (@mxI_b 0 _).1]
      · rw [if_neg d, if_neg (by omega), Int.sub_zero, mxI_0 (a := mxI 0 _) x1.1]
    · rw [if_neg c] at et ⊢
      subst et
      rw [if_neg (by omega), if_neg (by omega)]
      simp only [Int.sub_zero]
      rw [mxI_0 (a := mxI 0 _) x1.1, mxI_0 (a := mxI 0 _) x1.1]
  -- the claps
  have m3 := mul_b (A := 30) (B := 200) wq.2.2.1.1 wq.2.2.1.2 (show 0 ≤ 100 + ha by omega) (by omega)
  have bs := se_b hT p
  have m4 := mul_b (A := 60) (B := 10) (show 0 ≤ q8 h0 p 2 * (100 + ha) / 100 by omega) (by omega) bs.1 bs.2
  obtain ⟨ti, eti⟩ : ∃ x, x = (if 5 < p then h0 59 5 * ((p : Int) - 5) else 0) := ⟨_, rfl⟩
  have bti : 0 ≤ ti ∧ ti ≤ 36 ∧ (if 5 < (p : Int) then w32 (h0 59 5 * w32 ((p : Int) - 5)) else 0) = ti := by
    rw [eti]
    by_cases c : 5 < p
    · have m5 := mul_b (A := 9) (B := 4) w5.1 w5.2 (show 0 ≤ (p : Int) - 5 by omega) (by omega)
      rw [if_pos c, if_pos (by omega), w32_s (z := (p : Int) - 5) (by omega) (by omega), w32_s (by omega) (by omega)]
      exact ⟨by omega, by omega, rfl⟩
    · rw [if_neg c, if_neg (by omega)]; exact ⟨by omega, by omega, rfl⟩
  obtain ⟨c0, ec0⟩ : ∃ x, x = mxI 0 (q8 h0 p 2 * (100 + ha) / 100 * sSe (h0 59) p / 10 - ti) := ⟨_, rfl⟩
  have x2 := @mxI_b 0 (q8 h0 p 2 * (100 + ha) / 100 * sSe (h0 59) p / 10 - ti)
  have bc0 : 0 ≤ c0 ∧ c0 ≤ 60 := by omega
  have ecl' : cl = mxI 0 (c0 + u p) := by rw [ecl, ec0, eti]; rfl
  obtain ⟨hy, KL, yf, LK1⟩ := hL p (wr hx 67 p ha) c0 hp (hLf p h _ (by simp only [nm, jn, bd, gd, wr_at, Int.reduceEq, Int.reduceNeg, Int.reduceLT, Int.reduceLE, Int.reduceAdd, Int.reduceSub, false_and, true_and, and_true, and_false, and_self, or_false, false_or, or_true, true_or, if_true, if_false, ite_self, not_true_eq_false, not_false_eq_true, true_implies, implies_true]; exact xf 61 2 (by omega)) i6) bc0.1 bc0.2
  rw [← ecl'] at KL
  have yv : ∀ r k : Int, ¬ r = 61 → hy r k = wr hx 67 p ha r k := fun r k hr => yf r k (fun z => hr z.1)
  -- what stands then
  obtain ⟨pe, epe⟩ : ∃ x, x = (if cl < 8 then people - people * (8 - cl) / 100 else people) := ⟨_, rfl⟩
  obtain ⟨hb', ehb⟩ : ∃ x, x = mxI 0 (mnI 100 (ha + cl - 12)) := ⟨_, rfl⟩
  obtain ⟨la, ela⟩ : ∃ x, x = (if (p : Int) = (n : Int) - 1 then cl else 0) := ⟨_, rfl⟩
  have bla : 0 ≤ la ∧ la ≤ 62 := by rw [ela]; split <;> omega
  have wor : hx 56 27 = (sHs (q8 h0) (h0 59) b u p).2.2.1 := by
    rw [hxf 56 27 (by omega), i4, if_neg (by omega), Int.add_zero]
  have s3 := (hs_b (b := b) hR.2.2.2.1 hT hu p (by omega)).2.2.1
  refine ⟨hb', pe, wr (wr (wr (wr hy 68 p cl) 69 p hb') 70 p pe) 56 27 ((sHs (q8 h0) (h0 59) b u p).2.2.1 + (cl + la)), ?_, ?_⟩
  · rw [L_X8_nightOf_1, nm1, b1, if_pos (by omega)]
    refine (nm_of (Eq.refl _)).trans ?_
    refine jn_of.trans ?_
    refine (K1 _).trans ?_
    refine (gd_of (by omega)).trans ?_
    refine (bd_of l1).trans ?_
    refine (bd_of (of1 6 (by omega) (by omega) hx x58 (x64 p))).trans ?_
    refine jn_of.trans ?_
    refine (K2 _).trans ?_
    refine (nm_of (Eq.refl _)).trans ?_
    refine (bd_of (less_e x1.1 (by omega) (by split <;> omega) (by split <;> omega))).trans ?_
    refine (nm_of (Eq.refl _)).trans ?_
    refine (bd_of (v := ha) (h := hx) ?_).trans ?_
    · have y1 := @mxI_b 0 (mxI 0 (h1 - h0 59 3 * sGp (q8 h0) (h0 59) b p) - (if 0 < q8 h0 p 6 ∧ q8 h0 p 6 = t then 10 else 0))
      have y2 : 0 ≤ (if 0 < q8 h0 p 6 ∧ q8 h0 p 6 = t then (10 : Int) else 0) := by split <;> omega
      rw [less_e y1.1 (by omega) (by split <;> omega) (by split <;> omega), hd1]
    refine (nm_of (Eq.refl _)).trans ?_
    refine (nm_of (e' := sSe (h0 59) p) ?_).trans ?_
    · simp only [nm, jn, bd, gd, wr_at, Int.reduceEq, Int.reduceNeg, Int.reduceLT, Int.reduceLE, Int.reduceAdd, Int.reduceSub, false_and, true_and, and_true, and_false, and_self, or_false, false_or, or_true, true_or, if_true, if_false, ite_self, not_true_eq_false, not_false_eq_true, true_implies, implies_true]
      rw [xf 59 4 (by omega), f59]
      unfold sSe
      by_cases c0 : p = 0
      · rw [if_pos (by omega), if_pos c0]
      · rw [if_neg (by omega), if_neg c0]
        by_cases c1 : p = 1
        · rw [if_pos (by omega), if_pos c1, w32_s (by omega) (by omega), idv_e (by omega) (by omega) (by omega)]
        · rw [if_neg (by omega), if_neg c1]
    refine (bd_of (of1 2 (by omega) (by omega) (wr hx 67 p ha) (fun z => by simp only [nm, jn, bd, gd, wr_at, Int.reduceEq, Int.reduceNeg, Int.reduceLT, Int.reduceLE, Int.reduceAdd, Int.reduceSub, false_and, true_and, and_true, and_false, and_self, or_false, false_or, or_true, true_or, if_true, if_false, ite_self, not_true_eq_false, not_false_eq_true, true_implies, implies_true]; exact x58 z) (by simp only [nm, jn, bd, gd, wr_at, Int.reduceEq, Int.reduceNeg, Int.reduceLT, Int.reduceLE, Int.reduceAdd, Int.reduceSub, false_and, true_and, and_true, and_false, and_self, or_false, false_or, or_true, true_or, if_true, if_false, ite_self, not_true_eq_false, not_false_eq_true, true_implies, implies_true]; exact x64 p))).trans ?_
    refine (nm_of (e' := q8 h0 p 2 * (100 + ha) / 100 * sSe (h0 59) p / 10) ?_).trans ?_
    · rw [w32_s (z := 100 + ha) (by omega) (by omega), w32_s (z := q8 h0 p 2 * (100 + ha)) (by omega) (by omega), idv_e (x := q8 h0 p 2 * (100 + ha)) (by omega) (by omega) (by omega), w32_s (by omega) (by omega), idv_e (by omega) (by omega) (by omega)]
    refine (nm_of (e' := ti) ?_).trans ?_
    · simp only [nm, jn, bd, gd, wr_at, Int.reduceEq, Int.reduceNeg, Int.reduceLT, Int.reduceLE, Int.reduceAdd, Int.reduceSub, false_and, true_and, and_true, and_false, and_self, or_false, false_or, or_true, true_or, if_true, if_false, ite_self, not_true_eq_false, not_false_eq_true, true_implies, implies_true]
      rw [xf 59 5 (by omega), f59]
      exact bti.2.2
    refine (bd_of (v := c0) (h := wr hx 67 p ha) ?_).trans ?_
    · rw [less_e (by omega) (by omega) (by omega) (by omega), ← ec0]
    refine jn_of.trans ?_
    refine (KL _).trans ?_
    refine (nm_of (Eq.refl _)).trans ?_
    refine (nm_of (e' := ha + cl - 12) ?_).trans ?_
    · rw [w32_s (z := ha + cl) (by omega) (by omega)]; exact w32_s (by omega) (by omega)
    refine (nm_of (e' := hb') ?_).trans ?_
    · rw [ehb]; exact clamp_e _
    refine (nm_of (e' := (if cl < 8 then people * (8 - cl) / 100 else 0)) ?_).trans ?_
    · by_cases a : cl < 8
      · have m := mul_b (A := 999) (B := 8) s1.2.1.1 s1.2.1.2 (show 0 ≤ 8 - cl by omega) (by omega)
        rw [if_pos a, if_pos a, w32_s (z := 8 - cl) (by omega) (by omega), w32_s (by omega) (by omega), idv_e (by omega) (by omega) (by omega)]
      · rw [if_neg a, if_neg a]
    refine (nm_of (e' := pe) ?_).trans ?_
    · rw [epe]
      by_cases a : cl < 8
      · have m := mul_b (A := 999) (B := 8) s1.2.1.1 s1.2.1.2 (show 0 ≤ 8 - cl by omega) (by omega)
        rw [if_pos a, if_pos a]; exact w32_s (by omega) (by omega)
      · rw [if_neg a, if_neg a, Int.sub_zero]; exact w32_s (by omega) (by omega)
    refine (nm_of (Eq.refl _)).trans ?_
    refine (nm_of (Eq.refl _)).trans ?_
    refine (nm_of (e' := la) ?_).trans ?_
    · simp only [nm, jn, bd, gd, wr_at, Int.reduceEq, Int.reduceNeg, Int.reduceLT, Int.reduceLE, Int.reduceAdd, Int.reduceSub, false_and, true_and, and_true, and_false, and_self, or_false, false_or, or_true, true_or, if_true, if_false, ite_self, not_true_eq_false, not_false_eq_true, true_implies, implies_true]
      rw [yv 56 18 (by omega)]
      simp only [nm, jn, bd, gd, wr_at, Int.reduceEq, Int.reduceNeg, Int.reduceLT, Int.reduceLE, Int.reduceAdd, Int.reduceSub, false_and, true_and, and_true, and_false, and_self, or_false, false_or, or_true, true_or, if_true, if_false, ite_self, not_true_eq_false, not_false_eq_true, true_implies, implies_true]
      rw [hxf 56 18 (by omega), nm1, w32_s (by omega) (by omega), ela]
    refine (nm_of (e' := wr (wr (wr (wr hy 68 p cl) 69 p hb') 70 p pe) 56 27 ((sHs (q8 h0) (h0 59) b u p).2.2.1 + (cl + la))) ?_).trans ?_
    · simp only [nm, jn, bd, gd, wr_at, Int.reduceEq, Int.reduceNeg, Int.reduceLT, Int.reduceLE, Int.reduceAdd, Int.reduceSub, false_and, true_and, and_true, and_false, and_self, or_false, false_or, or_true, true_or, if_true, if_false, ite_self, not_true_eq_false, not_false_eq_true, true_implies, implies_true]
      rw [yv 56 27 (by omega)]
      simp only [nm, jn, bd, gd, wr_at, Int.reduceEq, Int.reduceNeg, Int.reduceLT, Int.reduceLE, Int.reduceAdd, Int.reduceSub, false_and, true_and, and_true, and_false, and_self, or_false, false_or, or_true, true_or, if_true, if_false, ite_self, not_true_eq_false, not_false_eq_true, true_implies, implies_true]
      rw [wor, w32_s (z := cl + la) (by omega) (by omega), w32_s (by omega) (by omega)]
    refine (nm_of (e' := ((p + 1 : Nat) : Int)) (w32_n (by omega))).trans ?_
    rfl
  · refine ⟨fun r k hn => ?_, by rw [S1, ehb], by rw [S2, epe], ?_, ?_, fun j hj => ?_, ?_⟩
    · have n1 : ¬ r = 67 := fun z => hn (Or.inl (by omega))
      have n2 : ¬ r = 68 := fun z => hn (Or.inl (by omega))
      have n3 : ¬ r = 69 := fun z => hn (Or.inl (by omega))
      have n4 : ¬ r = 70 := fun z => hn (Or.inl (by omega))
      have n5 : ¬ (r = 56 ∧ k = 27) := fun z => hn (Or.inr (Or.inl ⟨z.1, Or.inr z.2⟩))
      have n6 : ¬ (r = 56 ∧ k = 26) := fun z => hn (Or.inr (Or.inl ⟨z.1, Or.inl z.2⟩))
      have n7 : ¬ (r = 61 ∧ k = 2) := fun z => hn (Or.inr (Or.inr z))
      simp only [n1, n2, n3, n4, n5, nm, jn, bd, gd, wr_at, Int.reduceEq, Int.reduceNeg, Int.reduceLT, Int.reduceLE, Int.reduceAdd, Int.reduceSub, false_and, true_and, and_true, and_false, and_self, or_false, false_or, or_true, true_or, if_true, if_false, ite_self, not_true_eq_false, not_false_eq_true, true_implies, implies_true]
      rw [yf r k n7]
      simp only [n1, nm, jn, bd, gd, wr_at, Int.reduceEq, Int.reduceNeg, Int.reduceLT, Int.reduceLE, Int.reduceAdd, Int.reduceSub, false_and, true_and, and_true, and_false, and_self, or_false, false_or, or_true, true_or, if_true, if_false, ite_self, not_true_eq_false, not_false_eq_true, true_implies, implies_true]
      rw [hxf r k n6]
      exact hF r k hn
    · simp only [nm, jn, bd, gd, wr_at, Int.reduceEq, Int.reduceNeg, Int.reduceLT, Int.reduceLE, Int.reduceAdd, Int.reduceSub, false_and, true_and, and_true, and_false, and_self, or_false, false_or, or_true, true_or, if_true, if_false, ite_self, not_true_eq_false, not_false_eq_true, true_implies, implies_true]
      rw [yv 56 26 (by omega)]
      simp only [nm, jn, bd, gd, wr_at, Int.reduceEq, Int.reduceNeg, Int.reduceLT, Int.reduceLE, Int.reduceAdd, Int.reduceSub, false_and, true_and, and_true, and_false, and_self, or_false, false_or, or_true, true_or, if_true, if_false, ite_self, not_true_eq_false, not_false_eq_true, true_implies, implies_true]
      exact x26
    · simp only [nm, jn, bd, gd, wr_at, Int.reduceEq, Int.reduceNeg, Int.reduceLT, Int.reduceLE, Int.reduceAdd, Int.reduceSub, false_and, true_and, and_true, and_false, and_self, or_false, false_or, or_true, true_or, if_true, if_false, ite_self, not_true_eq_false, not_false_eq_true, true_implies, implies_true]
      rw [S3]
      by_cases a : p + 1 = n
      · rw [if_pos ⟨by omega, a⟩, show n - 1 = p by omega, Cp, ela, if_pos (by omega)]; omega
      · rw [if_neg (fun z => a z.2), ela, if_neg (by omega)]; omega
    · by_cases z : j = p
      · subst z
        simp only [nm, jn, bd, gd, wr_at, Int.reduceEq, Int.reduceNeg, Int.reduceLT, Int.reduceLE, Int.reduceAdd, Int.reduceSub, false_and, true_and, and_true, and_false, and_self, or_false, false_or, or_true, true_or, if_true, if_false, ite_self, not_true_eq_false, not_false_eq_true, true_implies, implies_true]
        rw [yv 67 j (by omega)]
        simp only [nm, jn, bd, gd, wr_at, Int.reduceEq, Int.reduceNeg, Int.reduceLT, Int.reduceLE, Int.reduceAdd, Int.reduceSub, false_and, true_and, and_true, and_false, and_self, or_false, false_or, or_true, true_or, if_true, if_false, ite_self, not_true_eq_false, not_false_eq_true, true_implies, implies_true]
        exact ⟨Ht.symm, Cp.symm, by rw [S1, ehb], by rw [S2, epe]⟩
      · have n1 : ¬ (j : Int) = (p : Int) := by omega
        simp only [n1, nm, jn, bd, gd, wr_at, Int.reduceEq, Int.reduceNeg, Int.reduceLT, Int.reduceLE, Int.reduceAdd, Int.reduceSub, false_and, true_and, and_true, and_false, and_self, or_false, false_or, or_true, true_or, if_true, if_false, ite_self, not_true_eq_false, not_false_eq_true, true_implies, implies_true]
        rw [yv 67 j (by omega), yv 68 j (by omega), yv 69 j (by omega), yv 70 j (by omega)]
        simp only [n1, nm, jn, bd, gd, wr_at, Int.reduceEq, Int.reduceNeg, Int.reduceLT, Int.reduceLE, Int.reduceAdd, Int.reduceSub, false_and, true_and, and_true, and_false, and_self, or_false, false_or, or_true, true_or, if_true, if_false, ite_self, not_true_eq_false, not_false_eq_true, true_implies, implies_true]
        rw [xf 67 j (by omega), xf 68 j (by omega), xf 69 j (by omega), xf 70 j (by omega)]
        exact i5 j (by omega)
    · exact hLf (p + 1) hy _ (by simp only [nm, jn, bd, gd, wr_at, Int.reduceEq, Int.reduceNeg, Int.reduceLT, Int.reduceLE, Int.reduceAdd, Int.reduceSub, false_and, true_and, and_true, and_false, and_self, or_false, false_or, or_true, true_or, if_true, if_false, ite_self, not_true_eq_false, not_false_eq_true, true_implies, implies_true]) LK1
end NightOf
