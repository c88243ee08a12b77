/-! the reference's night -/
def q8 (h : Mem) : Nat → Int → Int := fun p k => h 58 (9 * h 64 p + k)
theorem of_e {i k : Int} {h : Mem} (h1 : 0 ≤ i) (h2 : i ≤ 18) (h3 : 0 ≤ k) (h4 : k < 9) : F_X8_of i k h = some (h 58 (9 * i + k), h) := by
  unfold F_X8_of
  have e : w32 (w32 (9 * i) + k) = 9 * i + k := by rw [w32_s (z := 9 * i) (by omega) (by omega)]; exact w32_s (by omega) (by omega)
  rw [e, gd_t (by omega)]
theorem less_e {v y : Int} {h : Mem} (h1 : 0 ≤ v) (h2 : v ≤ 1000000) (h3 : -1000000 ≤ y) (h4 : y ≤ 1000000) : F_X8_less v y h = some (mxI 0 (v - y), h) := by
  unfold F_X8_less
  have e : w32 (v - y) = v - y := w32_s (by omega) (by omega)
  by_cases c : v < y
  · rw [if_pos c]
    have : mxI 0 (v - y) = 0 := by unfold mxI; rw [if_neg (by omega)]
    rw [this]
  · rw [if_neg c, e, mxI_0 (by omega)]
/-- the row that is laid out: acts' numbers in range, the acts as they may be -/
def R8 (h : Mem) (n : Nat) : Prop := n ≤ 10 ∧ h 56 18 = n ∧ (∀ p : Nat, p < n → 0 ≤ h 64 p ∧ h 64 p ≤ 9) ∧ WQ (q8 h) n ∧ WT (h 59)
theorem front_e {h : Mem} {n p : Nat} (hR : R8 h n) (hp : p < n) : F_X8_isFront (p : Int) h = some (if q8 h p 3 = 0 then 0 else 1, h) := by
  have r := hR.2.2.1 p hp
  have w := (hR.2.2.2.1 p hp).2.2.2.1
  have h10 := hR.1
  unfold F_X8_isFront
  rw [gd_t (by omega), of_e r.1 (by omega) (by omega) (by omega), bd_s]
  show (if q8 h p 3 = 1 then _ else _) = _
  rcases w with w | w
  · rw [w]; rfl
  · rw [w]; rfl
theorem gap_l {h : Mem} {n p : Nat} {b : Int} (hR : R8 h n) (hp : p < n) (hb : h 56 19 = b) (Kx : Int → Int → Mem → Res) (s : Int) (hs : 0 ≤ s ∧ s ≤ 9) :
    ∀ (t : Nat) (v : Int) (f : Nat), t ≤ p → t < f → (-(60 * ((p : Int) - t)) ≤ v ∧ v ≤ 9) → s + sLf (q8 h) (h 59) b p = v + sLf (q8 h) (h 59) b t - (if 0 < b ∧ (t : Int) ≤ b ∧ b < p then h 59 2 else 0) →
      ∃ (v' : Int) (t' : Nat), L_X8_gapOf_1 (p : Int) Kx f v ((t : Int) - 1) h = Kx v' ((t' : Int) - 1) h ∧ t' ≤ p ∧ (-600 ≤ v' ∧ v' ≤ 9) ∧ s + sLf (q8 h) (h 59) b p = v' + sLf (q8 h) (h 59) b t' - (if 0 < b ∧ (t' : Int) ≤ b ∧ b < p then h 59 2 else 0) ∧ (t' = 0 ∨ q8 h (t' - 1) 3 = 0) := by
  have h10 := hR.1
  intro t
  induction t with
  | zero =>
    intro v f ht hf hv he
    obtain ⟨f, rfl⟩ : ∃ g, f = g + 1 := ⟨f - 1, by omega⟩
    refine ⟨v, 0, ?_, by omega, by omega, he, Or.inl rfl⟩
    rw [L_X8_gapOf_1, jn, if_neg (by omega)]
  | succ t ih =>
    intro v f ht hf hv he
    obtain ⟨f, rfl⟩ : ∃ g, f = g + 1 := ⟨f - 1, by omega⟩
    have ef := front_e hR (p := t) (by omega)
    have r := hR.2.2.1 t (by omega)
    have wq := hR.2.2.2.1 t (by omega)
    have e1 : ((t + 1 : Nat) : Int) - 1 = (t : Int) := by omega
    by_cases c : q8 h t 3 = 0
    · refine ⟨v, t + 1, ?_, ht, by omega, he, Or.inr c⟩
      rw [L_X8_gapOf_1, jn, e1, if_pos (by omega), ef, bd_s, if_pos c, if_neg (by omega)]
    · have wl := wq.2.1
      have el : F_X8_of (h 64 t) 1 h = some (q8 h t 1, h) := of_e r.1 (by omega) (by omega) (by omega)
      have s1 : sLf (q8 h) (h 59) b (t + 1) = sLf (q8 h) (h 59) b t - sRs (h 59) b t - q8 h t 1 := by rw [sLf, if_neg c]
      have he2 : s + sLf (q8 h) (h 59) b p = (v - q8 h t 1) + sLf (q8 h) (h 59) b t - (if 0 < b ∧ (t : Int) ≤ b ∧ b < p then h 59 2 else 0) := by
        rw [he, s1]
        unfold sRs
        by_cases x : 0 < b ∧ (t : Int) = b
        · rw [if_pos x, if_neg (by omega), if_pos (by omega)]; omega
        · rw [if_neg x]
          by_cases y : 0 < b ∧ ((t + 1 : Nat) : Int) ≤ b ∧ b < p
          · rw [if_pos y, if_pos (by omega)]; omega
          · rw [if_neg y, if_neg (by omega)]; omega
      obtain ⟨v', t', e2, c1, c2, c3, c4⟩ := ih (v - q8 h t 1) f (by omega) (by omega) (by omega) he2
      refine ⟨v', t', ?_, c1, c2, c3, c4⟩
      have x1 : w32 (v - q8 h t 1) = v - q8 h t 1 := w32_s (by omega) (by omega)
      have x2 : w32 ((t : Int) + -1) = (t : Int) - 1 := by rw [w32_s (by omega) (by omega)]; omega
      rw [L_X8_gapOf_1, jn, e1, if_pos (by omega), ef, bd_s, if_neg c, if_pos (by omega), gd_t (by omega), el, bd_s]
      simp only [nm, x1, x2]
      exact e2
theorem gap_e {h : Mem} {n p : Nat} {b : Int} (hR : R8 h n) (hp : p < n) (hb : h 56 19 = b) : F_X8_gapOf (p : Int) h = some (sGp (q8 h) (h 59) b p, h) := by
  have h10 := hR.1
  have ef := front_e hR hp
  have r := hR.2.2.1 p hp
  have wq := hR.2.2.2.1 p hp
  unfold F_X8_gapOf
  rw [ef, bd_s]
  by_cases c : q8 h p 3 = 0
  · have es : F_X8_of (h 64 p) 4 h = some (q8 h p 4, h) := of_e r.1 (by omega) (by omega) (by omega)
    obtain ⟨v', t', e2, c1, c2, c3, c4⟩ := gap_l hR hp hb (fun v_29 q_30 (h_28 : Mem) => jn (fun (K_31 : Int → Mem → Res) => if (0 ≤ q_30) then (gd (0 ≤ q_30 ∧ q_30 < 10) (bd (F_X8_of (h_28 64 q_30) 5 h_28) (fun r_33 (h_34 : Mem) => K_31 r_33 h_34))) else (K_31 0 h_28)) (fun v_38 (h_37 : Mem) => nm (w32 (v_29 + v_38)) (fun v_39 => nm (α := Int) (if (((0 < (h_37 56 19)) ∧ (q_30 < (h_37 56 19))) ∧ ((h_37 56 19) ≤ (p : Int))) then (h_37 59 2) else 0) (fun v_40 => nm (w32 (v_39 - v_40)) (fun v_44 => if (v_44 < 0) then (some (0, h_37)) else (some (v_44, h_37))))))) (q8 h p 4) (by omega) p (q8 h p 4) FU (by omega) (by unfold FU; omega) (by omega) (by rw [if_neg (by omega)]; omega)
    have x1 : w32 ((p : Int) - 1) = (p : Int) - 1 := w32_s (by omega) (by omega)
    rw [if_pos c, if_neg (by omega), gd_t (by omega), es, bd_s]
    simp only [nm, x1] at e2 ⊢
    rw [e2]
    have T2 := hR.2.2.2.2.2.2.1
    -- what the last whole act ahead has to strike
    have hst : ∃ k, sLf (q8 h) (h 59) b t' = k ∧ (0 ≤ k ∧ k ≤ 9) ∧ ∀ K : Int → Mem → Res, (if 0 ≤ (t' : Int) - 1 then gd (0 ≤ (t' : Int) - 1 ∧ (t' : Int) - 1 < 10) (bd (F_X8_of (h 64 ((t' : Int) - 1)) 5 h) (fun r_33 h_34 => K r_33 h_34)) else K 0 h) = K k h := by
      rcases c4 with rfl | c4
      · exact ⟨0, rfl, by omega, fun K => by rw [if_neg (by omega)]⟩
      · by_cases z : t' = 0
        · subst z
          exact ⟨0, rfl, by omega, fun K => by rw [if_neg (by omega)]⟩
        · obtain ⟨j, rfl⟩ : ∃ j, t' = j + 1 := ⟨t' - 1, by omega⟩
          have rj := hR.2.2.1 j (by omega)
          have wj := hR.2.2.2.1 j (by omega)
          rw [Nat.add_sub_cancel] at c4
          refine ⟨q8 h j 5, by rw [sLf, if_pos c4], by omega, fun K => ?_⟩
          rw [if_pos (by omega), gd_t (by omega), show ((j + 1 : Nat) : Int) - 1 = (j : Int) by omega, of_e rj.1 (by omega) (by omega) (by omega), bd_s]
          rfl
    obtain ⟨k, hk, bk, eK⟩ := hst
    rw [hk] at c3
    rw [jn, eK]
    have x2 : w32 (v' + k) = v' + k := w32_s (by omega) (by omega)
    simp only [x2, hb]
    have hg : sGp (q8 h) (h 59) b p = mxI 0 (q8 h p 4 + (sLf (q8 h) (h 59) b p - sRs (h 59) b p)) := by unfold sGp; rw [if_pos c]
    have hv : v' + k - (if ((0 < b ∧ (t' : Int) - 1 < b) ∧ b ≤ (p : Int)) then h 59 2 else 0) = q8 h p 4 + (sLf (q8 h) (h 59) b p - sRs (h 59) b p) := by
      unfold sRs
      by_cases y : 0 < b ∧ (p : Int) = b
      · rw [if_pos y, if_pos (by omega)]
        rw [if_neg (by omega)] at c3
        omega
      · rw [if_neg y]
        by_cases z : 0 < b ∧ (t' : Int) ≤ b ∧ b < p
        · rw [if_pos z] at c3
          rw [if_pos (by omega)]; omega
        · rw [if_neg z] at c3
          rw [if_neg (by omega)]; omega
    have x3 : w32 (v' + k - (if ((0 < b ∧ (t' : Int) - 1 < b) ∧ b ≤ (p : Int)) then h 59 2 else 0)) = q8 h p 4 + (sLf (q8 h) (h 59) b p - sRs (h 59) b p) := by
      rw [hv] 
      have l1 := lf_b (b := b) hR.2.2.2.1 hR.2.2.2.2 p (by omega)
      have l2 := rs_b (b := b) hR.2.2.2.2 p
      exact w32_s (by omega) (by omega)
    rw [x3, hg]
    unfold mxI
    by_cases z : q8 h p 4 + (sLf (q8 h) (h 59) b p - sRs (h 59) b p) < 0
    · rw [if_pos z, if_neg (by omega)]
    · rw [if_neg z]
      by_cases y : 0 < q8 h p 4 + (sLf (q8 h) (h 59) b p - sRs (h 59) b p)
      · rw [if_pos y]
      · rw [if_neg y]
        have : q8 h p 4 + (sLf (q8 h) (h 59) b p - sRs (h 59) b p) = 0 := by omega
        rw [this]
  · have hg : sGp (q8 h) (h 59) b p = 0 := by unfold sGp; rw [if_neg c]
    rw [if_neg c, if_pos (by omega), hg]
theorem w32_p {j : Nat} (h : j < 1000000) : w32 (((j + 1 : Nat) : Int) - 1) = (j : Int) := by
  rw [w32_s (by omega) (by omega)]; omega
def lsc (r _k : Int) : Prop := r = 65 ∨ r = 66
theorem q8_fr {h h1 : Mem} (h58 : ∀ k, h1 58 k = h 58 k) (h64 : ∀ k, h1 64 k = h 64 k) : q8 h1 = q8 h := by
  funext p k; unfold q8; rw [h64, h58]
theorem R8_fr {h h1 : Mem} {n : Nat} (hR : R8 h n) (h56 : h1 56 18 = h 56 18) (h58 : ∀ k, h1 58 k = h 58 k) (h59 : ∀ k, h1 59 k = h 59 k) (h64 : ∀ k, h1 64 k = h 64 k) : R8 h1 n := by
  obtain ⟨a, b, c, d, e⟩ := hR
  have e59 : h1 59 = h 59 := funext h59
  refine ⟨a, by rw [h56]; exact b, fun p hp => by rw [h64]; exact c p hp, by rw [q8_fr h58 h64]; exact d, by rw [e59]; exact e⟩
theorem end_e {h : Mem} {n p : Nat} {b : Int} {q : Nat → Int → Int} {T : Int → Int} (hR : R8 h n) (hq : q8 h = q) (hT : h 59 = T) (hp : p < n) (h66 : h 66 p = sSt q T b p) : F_X8_end (p : Int) h = some (sEn q T b (p + 1), h) := by
  subst hq; subst hT
  have h10 := hR.1
  have r := hR.2.2.1 p hp
  have wq := hR.2.2.2.1 p hp
  have l1 := en_b (b := b) hR.2.2.2.1 hR.2.2.2.2 p (by omega)
  have l2 := rs_b (b := b) hR.2.2.2.2 p
  have l3 := gp_b (b := b) hR.2.2.2.1 hR.2.2.2.2 hp
  unfold F_X8_end
  rw [gd_t (by omega), of_e r.1 (by omega) (by omega) (by omega), bd_s, h66]
  have e : w32 (sSt (q8 h) (h 59) b p + h 58 (9 * h 64 p + 1)) = sEn (q8 h) (h 59) b (p + 1) := by
    show w32 (sSt (q8 h) (h 59) b p + q8 h p 1) = _
    unfold sSt
    rw [w32_s (by omega) (by omega), sEn]
  rw [e]
theorem lays_e {h : Mem} {n : Nat} {b : Int} (hR : R8 h n) (hb : h 56 19 = b) :
    ∃ h1, F_X8_lays h = some (0, h1) ∧ Fr lsc h h1 ∧ ∀ p : Nat, p < n → h1 65 p = sGp (q8 h) (h 59) b p ∧ h1 66 p = sSt (q8 h) (h 59) b p := by
  have h10 := hR.1
  have key : ∀ (d p : Nat) (h1 : Mem) (f : Nat) (Kx : Int → Mem → Res), p + d = n → d < f → Fr lsc h h1 → (∀ j : Nat, j < p → h1 65 j = sGp (q8 h) (h 59) b j ∧ h1 66 j = sSt (q8 h) (h 59) b j) →
      ∃ h2, L_X8_lays_1 Kx f p h1 = Kx n h2 ∧ Fr lsc h h2 ∧ ∀ j : Nat, j < n → h2 65 j = sGp (q8 h) (h 59) b j ∧ h2 66 j = sSt (q8 h) (h 59) b j := by
    intro d
    induction d with
    | zero =>
      intro p h1 f Kx hp hf hF hI
      obtain ⟨f, rfl⟩ : ∃ g, f = g + 1 := ⟨f - 1, by omega⟩
      have hpn : p = n := by omega
      subst hpn
      refine ⟨h1, ?_, hF, hI⟩
      rw [L_X8_lays_1, hF 56 18 (by unfold lsc; omega), hR.2.1, if_neg (by omega)]
    | succ d ih =>
      intro p h1 f Kx hp hf hF hI
      obtain ⟨f, rfl⟩ : ∃ g, f = g + 1 := ⟨f - 1, by omega⟩
      have hpn : p < n := by omega
      have f58 : ∀ k, h1 58 k = h 58 k := fun k => hF 58 k (by unfold lsc; omega)
      have f59 : ∀ k, h1 59 k = h 59 k := fun k => hF 59 k (by unfold lsc; omega)
      have f64 : ∀ k, h1 64 k = h 64 k := fun k => hF 64 k (by unfold lsc; omega)
      have R1 : R8 h1 n := R8_fr hR (hF 56 18 (by unfold lsc; omega)) f58 f59 f64
      have b1 : h1 56 19 = b := by rw [hF 56 19 (by unfold lsc; omega)]; exact hb
      have eq1 : q8 h1 = q8 h := q8_fr f58 f64
      have e59 : h1 59 = h 59 := funext f59
      have g1 := gap_e R1 hpn b1
      rw [eq1, e59] at g1
      have l1 := en_b (b := b) hR.2.2.2.1 hR.2.2.2.2 p (by omega)
      have l2 := rs_b (b := b) hR.2.2.2.2 p
      have l3 := gp_b (b := b) hR.2.2.2.1 hR.2.2.2.2 hpn
      have T2 := hR.2.2.2.2.2.2.1
      -- the end of the place ahead
      have hen : ∀ K : Int → Mem → Res, (if (p : Int) = 0 then K 0 (wr h1 65 p (sGp (q8 h) (h 59) b p)) else bd (F_X8_end (w32 ((p : Int) - 1)) (wr h1 65 p (sGp (q8 h) (h 59) b p))) (fun r_9 h_10 => K r_9 h_10)) = K (sEn (q8 h) (h 59) b p) (wr h1 65 p (sGp (q8 h) (h 59) b p)) := by
        intro K
        cases p with
        | zero => rw [if_pos (by omega)]; rfl
        | succ j =>
          have en := end_e (h := wr h1 65 ((j + 1 : Nat) : Int) (sGp (q8 h) (h 59) b (j + 1))) (n := n) (p := j) (b := b) (q := q8 h) (T := h 59) (R8_fr R1 (by simp only [nm, jn, bd, gd, wr_at, Int.reduceEq, Int.reduceNeg, Int.reduceLT, Int.reduceLE, Int.reduceAdd, Int.reduceSub, false_and, true_and, and_true, and_false, and_self, or_false, false_or, or_true, true_or, if_true, if_false, ite_self, not_true_eq_false, not_false_eq_true, true_implies, implies_true]) (fun k => by simp only [nm, jn, bd, gd, wr_at, Int.reduceEq, Int.reduceNeg, Int.reduceLT, Int.reduceLE, Int.reduceAdd, Int.reduceSub, false_and, true_and, and_true, and_false, and_self, or_false, false_or, or_true, true_or, if_true, if_false, ite_self, not_true_eq_false, not_false_eq_true, true_implies, implies_true]) (fun k => by simp only [nm, jn, bd, gd, wr_at, Int.reduceEq, Int.reduceNeg, Int.reduceLT, Int.reduceLE, Int.reduceAdd, Int.reduceSub, false_and, true_and, and_true, and_false, and_self, or_false, false_or, or_true, true_or, if_true, if_false, ite_self, not_true_eq_false, not_false_eq_true, true_implies, implies_true]) (fun k => by simp only [nm, jn, bd, gd, wr_at, Int.reduceEq, Int.reduceNeg, Int.reduceLT, Int.reduceLE, Int.reduceAdd, Int.reduceSub, false_and, true_and, and_true, and_false, and_self, or_false, false_or, or_true, true_or, if_true, if_false, ite_self, not_true_eq_false, not_false_eq_true, true_implies, implies_true])) (by rw [← eq1]; exact q8_fr (fun k => by simp only [nm, jn, bd, gd, wr_at, Int.reduceEq, Int.reduceNeg, Int.reduceLT, Int.reduceLE, Int.reduceAdd, Int.reduceSub, false_and, true_and, and_true, and_false, and_self, or_false, false_or, or_true, true_or, if_true, if_false, ite_self, not_true_eq_false, not_false_eq_true, true_implies, implies_true]) (fun k => by simp only [nm, jn, bd, gd, wr_at, Int.reduceEq, Int.reduceNeg, Int.reduceLT, Int.reduceLE, Int.reduceAdd, Int.reduceSub, false_and, true_and, and_true, and_false, and_self, or_false, false_or, or_true, true_or, if_true, if_false, ite_self, not_true_eq_false, not_false_eq_true, true_implies, implies_true])) (by funext k; simp only [nm, jn, bd, gd, wr_at, Int.reduceEq, Int.reduceNeg, Int.reduceLT, Int.reduceLE, Int.reduceAdd, Int.reduceSub, false_and, true_and, and_true, and_false, and_self, or_false, false_or, or_true, true_or, if_true, if_false, ite_self, not_true_eq_false, not_false_eq_true, true_implies, implies_true]; exact f59 k) (by omega) (by simp only [nm, jn, bd, gd, wr_at, Int.reduceEq, Int.reduceNeg, Int.reduceLT, Int.reduceLE, Int.reduceAdd, Int.reduceSub, false_and, true_and, and_true, and_false, and_self, or_false, false_or, or_true, true_or, if_true, if_false, ite_self, not_true_eq_false, not_false_eq_true, true_implies, implies_true]; exact (hI j (by omega)).2)
          rw [if_neg (by omega), w32_p (by omega), en, bd_s]
      have x1 : w32 (sEn (q8 h) (h 59) b p + sRs (h 59) b p) = sEn (q8 h) (h 59) b p + sRs (h 59) b p := w32_s (by omega) (by omega)
      have x2 : w32 (sEn (q8 h) (h 59) b p + sRs (h 59) b p + sGp (q8 h) (h 59) b p) = sSt (q8 h) (h 59) b p := w32_s (by omega) (by omega)
      obtain ⟨h2, e2, F2, I2⟩ := ih (p + 1) (wr (wr h1 65 p (sGp (q8 h) (h 59) b p)) 66 p (sSt (q8 h) (h 59) b p)) f Kx (by omega) (by omega) (fun r k hn => by
        have n1 : ¬ r = 65 := fun z => hn (Or.inl z)
        have n2 : ¬ r = 66 := fun z => hn (Or.inr z)
        simp only [n1, n2, nm, jn, bd, gd, wr_at, Int.reduceEq, Int.reduceNeg, Int.reduceLT, Int.reduceLE, Int.reduceAdd, Int.reduceSub, false_and, true_and, and_true, and_false, and_self, or_false, false_or, or_true, true_or, if_true, if_false, ite_self, not_true_eq_false, not_false_eq_true, true_implies, implies_true]; exact hF r k hn) (fun j hj => by
        by_cases z : j = p
        · subst z; simp only [nm, jn, bd, gd, wr_at, Int.reduceEq, Int.reduceNeg, Int.reduceLT, Int.reduceLE, Int.reduceAdd, Int.reduceSub, false_and, true_and, and_true, and_false, and_self, or_false, false_or, or_true, true_or, if_true, if_false, ite_self, not_true_eq_false, not_false_eq_true, true_implies, implies_true]
        · have n1 : ¬ (j : Int) = (p : Int) := by omega
          simp only [n1, nm, jn, bd, gd, wr_at, Int.reduceEq, Int.reduceNeg, Int.reduceLT, Int.reduceLE, Int.reduceAdd, Int.reduceSub, false_and, true_and, and_true, and_false, and_self, or_false, false_or, or_true, true_or, if_true, if_false, ite_self, not_true_eq_false, not_false_eq_true, true_implies, implies_true]; exact hI j (by omega))
      refine ⟨h2, ?_, F2, I2⟩
      rw [L_X8_lays_1, hF 56 18 (by unfold lsc; omega), hR.2.1, if_pos (by omega), g1, bd_s, gd_t (by omega)]
      simp only [nm]
      refine (hen _).trans ?_
      have rs : (if 0 < h1 56 19 ∧ (p : Int) = h1 56 19 then h1 59 2 else 0) = sRs (h 59) b p := by
        rw [b1, f59]; rfl
      simp only [nm, jn, bd, gd, wr_at, Int.reduceEq, Int.reduceNeg, Int.reduceLT, Int.reduceLE, Int.reduceAdd, Int.reduceSub, false_and, true_and, and_true, and_false, and_self, or_false, false_or, or_true, true_or, if_true, if_false, ite_self, not_true_eq_false, not_false_eq_true, true_implies, implies_true]
      rw [rs, x1, x2, w32_n (by omega)]
      exact e2
  obtain ⟨h2, e2, F2, I2⟩ := key n 0 h FU (fun _ h_21 => some (0, h_21)) (by omega) (by unfold FU; omega) Fr.rfl (fun j hj => absurd hj (by omega))
  exact ⟨h2, e2, F2, I2⟩
