/-! the reference's night, whole; draws -/
theorem night_l {h0 : Mem} {n : Nat} {b isD : Int} {u : Nat → Int} {LK : Nat → Mem → Prop} (hR : R8 h0 n) (hb : h0 56 19 = b) (h65 : ∀ p : Nat, p < n → h0 65 p = sGp (q8 h0) (h0 59) b p) (hu : ∀ j, -2 ≤ u j ∧ u j ≤ 2)
    (hL : ∀ (p : Nat) (h1 : Mem) (c0 : Int), p < n → LK p h1 → 0 ≤ c0 → c0 ≤ 60 → ∃ h2, (∀ K : Int → Mem → Res, (if ¬ isD = 0 then bd (F_X8_draws h1) (fun r_61 h_62 => bd (F_X8_less c0 (w32 (2 - r_61)) h_62) (fun r_64 h_65 => K r_64 h_65)) else K c0 h1) = K (mxI 0 (c0 + u p)) h2) ∧ (∀ r k : Int, ¬ (r = 61 ∧ k = 2) → h2 r k = h1 r k) ∧ LK (p + 1) h2)
    (hLf : ∀ (p : Nat) (h1 h2 : Mem), h2 61 2 = h1 61 2 → LK p h1 → LK p h2) (Kx : Int → Int → Int → Mem → Res) :
    ∀ (d p : Nat) (heat people : Int) (h : Mem) (f : Nat), p + d = n → d < f → NI h0 n b u LK p heat people h → ∃ heat' people' h', L_X8_nightOf_1 isD Kx f heat people p h = Kx heat' people' n h' ∧ NI h0 n b u LK n heat' people' h' := by
  intro d
  induction d with
  | zero =>
    intro p heat people h f hp hf hI
    obtain ⟨f, rfl⟩ : ∃ g, f = g + 1 := ⟨f - 1, by omega⟩
    have hpn : p = n := by omega
    subst hpn
    refine ⟨heat, people, h, ?_, hI⟩
    rw [L_X8_nightOf_1, hI.1 56 18 (by unfold nsc; omega), hR.2.1, if_neg (by omega)]
  | succ d ih =>
    intro p heat people h f hp hf hI
    obtain ⟨f, rfl⟩ : ∃ g, f = g + 1 := ⟨f - 1, by omega⟩
    obtain ⟨a, c, h1, e1, I1⟩ := night_s hR hb h65 hu hL hLf (by omega) hI Kx f
    obtain ⟨a2, c2, h2, e2, I2⟩ := ih (p + 1) a c h1 f (by omega) (by omega) I1
    exact ⟨a2, c2, h2, e1.trans e2, I2⟩
/-- what a night leaves in the reference's rows -/
def NR (h0 h : Mem) (n : Nat) (b : Int) (u : Nat → Int) : Prop :=
  Fr nsc h0 h ∧ h 56 26 = (sHs (q8 h0) (h0 59) b u n).2.2.2 ∧ h 56 27 = sVa (q8 h0) (h0 59) b u n ∧ ∀ j : Nat, j < n → h 67 j = sHt (q8 h0) (h0 59) b u j ∧ h 68 j = sCp (q8 h0) (h0 59) b u j ∧ h 69 j = (sHs (q8 h0) (h0 59) b u (j + 1)).1 ∧ h 70 j = (sHs (q8 h0) (h0 59) b u (j + 1)).2.1
theorem nightG {h0 : Mem} {n : Nat} {b isD : Int} {u : Nat → Int} {LK : Nat → Mem → Prop} (hn : 0 < n) (hR : R8 h0 n) (hb : h0 56 19 = b) (h65 : ∀ p : Nat, p < n → h0 65 p = sGp (q8 h0) (h0 59) b p) (hu : ∀ j, -2 ≤ u j ∧ u j ≤ 2)
    (hL : ∀ (p : Nat) (h1 : Mem) (c0 : Int), p < n → LK p h1 → 0 ≤ c0 → c0 ≤ 60 → ∃ h2, (∀ K : Int → Mem → Res, (if ¬ isD = 0 then bd (F_X8_draws h1) (fun r_61 h_62 => bd (F_X8_less c0 (w32 (2 - r_61)) h_62) (fun r_64 h_65 => K r_64 h_65)) else K c0 h1) = K (mxI 0 (c0 + u p)) h2) ∧ (∀ r k : Int, ¬ (r = 61 ∧ k = 2) → h2 r k = h1 r k) ∧ LK (p + 1) h2)
    (hLf : ∀ (p : Nat) (h1 h2 : Mem), h2 61 2 = h1 61 2 → LK p h1 → LK p h2) (hL0 : LK 0 h0) :
    ∃ h1, F_X8_nightOf isD h0 = some (sVa (q8 h0) (h0 59) b u n, h1) ∧ NR h0 h1 n b u ∧ LK n h1 := by
  have h10 := hR.1
  have hT := hR.2.2.2.2
  obtain ⟨a, c, h1, e1, I1⟩ := night_l hR hb h65 hu hL hLf (fun heat_86 people_87 p_88 (h_85 : Mem) => nm (wr h_85 56 27 (w32 ((h_85 56 27) + (h_85 56 26)))) (fun (h_89 : Mem) => some (h_89 56 27, h_89))) n 0 (h0 59 6) (h0 59 7) (wr (wr h0 56 26 0) 56 27 0) FU (by omega) (by unfold FU; omega) (by
    refine ⟨fun r k hnn => ?_, rfl, rfl, by simp only [sHs, nm, jn, bd, gd, wr_at, Int.reduceEq, Int.reduceNeg, Int.reduceLT, Int.reduceLE, Int.reduceAdd, Int.reduceSub, false_and, true_and, and_true, and_false, and_self, or_false, false_or, or_true, true_or, if_true, if_false, ite_self, not_true_eq_false, not_false_eq_true, true_implies, implies_true], by simp only [sHs, Nat.lt_irrefl, nm, jn, bd, gd, wr_at, Int.reduceEq, Int.reduceNeg, Int.reduceLT, Int.reduceLE, Int.reduceAdd, Int.reduceSub, false_and, true_and, and_true, and_false, and_self, or_false, false_or, or_true, true_or, if_true, if_false, ite_self, not_true_eq_false, not_false_eq_true, true_implies, implies_true], fun j hj => absurd hj (by omega), hLf 0 h0 _ (by simp only [nm, jn, bd, gd, wr_at, Int.reduceEq, Int.reduceNeg, Int.reduceLT, Int.reduceLE, Int.reduceAdd, Int.reduceSub, false_and, true_and, and_true, and_false, and_self, or_false, false_or, or_true, true_or, if_true, if_false, ite_self, not_true_eq_false, not_false_eq_true, true_implies, implies_true]) hL0⟩
    have n1 : ¬ (r = 56 ∧ k = 27) := fun z => hnn (Or.inr (Or.inl ⟨z.1, Or.inr z.2⟩))
    have n2 : ¬ (r = 56 ∧ k = 26) := fun z => hnn (Or.inr (Or.inl ⟨z.1, Or.inl z.2⟩))
    simp only [n1, n2, nm, jn, bd, gd, wr_at, Int.reduceEq, Int.reduceNeg, Int.reduceLT, Int.reduceLE, Int.reduceAdd, Int.reduceSub, false_and, true_and, and_true, and_false, and_self, or_false, false_or, or_true, true_or, if_true, if_false, ite_self, not_true_eq_false, not_false_eq_true, true_implies, implies_true])
  obtain ⟨hF, i1, i2, i3, i4, i5, i6⟩ := I1
  have sb := hs_b (b := b) hR.2.2.2.1 hT hu n (by omega)
  have sb1 := hs_b (b := b) hR.2.2.2.1 hT hu (n - 1) (by omega)
  have gb := gp_b (b := b) hR.2.2.2.1 hT (p := n - 1) (by omega)
  have hb1 := ha_b (q := q8 h0) (b := b) hT gb.1 sb1.1
  have cb := cl_b (q := q8 h0) hT (hR.2.2.2.1 (n - 1) (by omega)).2.2.1 hb1 (hu (n - 1))
  have cb : 0 ≤ sCp (q8 h0) (h0 59) b u (n - 1) ∧ sCp (q8 h0) (h0 59) b u (n - 1) ≤ 62 := cb
  rw [if_pos ⟨hn, rfl⟩] at i4
  have ev : w32 (h1 56 27 + h1 56 26) = sVa (q8 h0) (h0 59) b u n := by
    rw [i3, i4, w32_s (by omega) (by omega)]; rfl
  refine ⟨wr h1 56 27 (sVa (q8 h0) (h0 59) b u n), ?_, ⟨fun r k hnn => ?_, ?_, ?_, fun j hj => ?_⟩, hLf n h1 _ (by simp only [nm, jn, bd, gd, wr_at, Int.reduceEq, Int.reduceNeg, Int.reduceLT, Int.reduceLE, Int.reduceAdd, Int.reduceSub, false_and, true_and, and_true, and_false, and_self, or_false, false_or, or_true, true_or, if_true, if_false, ite_self, not_true_eq_false, not_false_eq_true, true_implies, implies_true]) i6⟩
  · unfold F_X8_nightOf
    refine (nm_of (Eq.refl _)).trans ?_
    refine (nm_of (Eq.refl _)).trans ?_
    refine (nm_of (Eq.refl _)).trans ?_
    refine (nm_of (Eq.refl _)).trans ?_
    refine e1.trans ?_
    refine (nm_of (e' := wr h1 56 27 (sVa (q8 h0) (h0 59) b u n)) (by rw [ev])).trans ?_
    simp only [nm, jn, bd, gd, wr_at, Int.reduceEq, Int.reduceNeg, Int.reduceLT, Int.reduceLE, Int.reduceAdd, Int.reduceSub, false_and, true_and, and_true, and_false, and_self, or_false, false_or, or_true, true_or, if_true, if_false, ite_self, not_true_eq_false, not_false_eq_true, true_implies, implies_true]
  · have n1 : ¬ (r = 56 ∧ k = 27) := fun z => hnn (Or.inr (Or.inl ⟨z.1, Or.inr z.2⟩))
    simp only [n1, nm, jn, bd, gd, wr_at, Int.reduceEq, Int.reduceNeg, Int.reduceLT, Int.reduceLE, Int.reduceAdd, Int.reduceSub, false_and, true_and, and_true, and_false, and_self, or_false, false_or, or_true, true_or, if_true, if_false, ite_self, not_true_eq_false, not_false_eq_true, true_implies, implies_true]; exact hF r k hnn
  · simp only [nm, jn, bd, gd, wr_at, Int.reduceEq, Int.reduceNeg, Int.reduceLT, Int.reduceLE, Int.reduceAdd, Int.reduceSub, false_and, true_and, and_true, and_false, and_self, or_false, false_or, or_true, true_or, if_true, if_false, ite_self, not_true_eq_false, not_false_eq_true, true_implies, implies_true]; exact i3
  · simp only [nm, jn, bd, gd, wr_at, Int.reduceEq, Int.reduceNeg, Int.reduceLT, Int.reduceLE, Int.reduceAdd, Int.reduceSub, false_and, true_and, and_true, and_false, and_self, or_false, false_or, or_true, true_or, if_true, if_false, ite_self, not_true_eq_false, not_false_eq_true, true_implies, implies_true]
  · simp only [nm, jn, bd, gd, wr_at, Int.reduceEq, Int.reduceNeg, Int.reduceLT, Int.reduceLE, Int.reduceAdd, Int.reduceSub, false_and, true_and, and_true, and_false, and_self, or_false, false_or, or_true, true_or, if_true, if_false, ite_self, not_true_eq_false, not_false_eq_true, true_implies, implies_true]; exact i5 j hj
/-- the night without draws -/
theorem night0 {h0 : Mem} {n : Nat} {b : Int} (hn : 0 < n) (hR : R8 h0 n) (hb : h0 56 19 = b) (h65 : ∀ p : Nat, p < n → h0 65 p = sGp (q8 h0) (h0 59) b p) :
    ∃ h1, F_X8_nightOf 0 h0 = some (sVa (q8 h0) (h0 59) b (fun _ => 0) n, h1) ∧ NR h0 h1 n b (fun _ => 0) ∧ h1 61 2 = h0 61 2 :=
  nightG (isD := 0) (u := fun _ => 0) (LK := fun _ h => h 61 2 = h0 61 2) hn hR hb h65 (fun _ => by omega)
    (fun p h1 c0 _ hl h1' h2' => ⟨h1, fun K => by rw [if_neg (fun z => z rfl), Int.add_zero, mxI_0 h1'], fun _ _ _ => rfl, hl⟩) (fun p h1 h2 e hl => by rw [e]; exact hl) rfl
/-- draws -/
def nxL (x : Int) : Int := w32 (w32 (x * 1103515245) + 12345)
def drL (x : Int) : Int := irm (iushr x 16) 5
def loS (L : Int) : Nat → Int
  | 0 => L
  | k + 1 => nxL (loS L k)
theorem bv_int (x : Int32) : (x.toBitVec.toNat : Int) = x.toInt % 4294967296 := by
  have := x.toBitVec.toInt_eq_toNat_cond
  have h2 : x.toInt = x.toBitVec.toInt := rfl
  rw [h2, this]
  have l := x.toBitVec.isLt
  split <;> omega
theorem ushr16 {x : Int} (hx : in32 x) : iushr x 16 = x % 4294967296 / 65536 := by
  have e := pk_ushr (Int32.ofInt x) (Int32.ofInt 16) 16 (by decide +kernel)
  have b1 := bv_int (Int32.ofInt x)
  rw [n_id32 hx] at b1
  have e2 := bv_int (((Int32.ofInt x).toUInt32 >>> ((Int32.ofInt 16).toUInt32 &&& Int32.toUInt32 31)).toInt32)
  have r := n_in32 (((Int32.ofInt x).toUInt32 >>> ((Int32.ofInt 16).toUInt32 &&& Int32.toUInt32 31)).toInt32)
  rw [e] at e2
  unfold in32 at r
  unfold iushr
  omega
theorem shr16 {x : Int} (hx : in32 x) : iand (ishr x 16) 65535 = x % 4294967296 / 65536 := by
  have e := pk_shr (Int32.ofInt x) (Int32.ofInt 16 &&& 31) 16 (by decide +kernel)
  rw [n_id32 hx] at e
  have r := n_in32 (Int32.ofInt x >>> (Int32.ofInt 16 &&& 31))
  unfold iand ishr
  rw [Int32.ofInt_toInt, show (Int32.ofInt 65535 : Int32) = 65535 from rfl, pk_and _ (m := 65535) 16 (by decide +kernel)]
  have b1 := bv_int (Int32.ofInt x >>> (Int32.ofInt 16 &&& 31))
  rw [e] at b1
  have e3 : x >>> 16 = x / 65536 := Int.shiftRight_eq_div_pow x 16
  rw [e3] at b1
  rw [nI_toInt (by omega)]
  unfold in32 at hx
  omega
theorem dr_eq {x : Int} (hx : in32 x) : irm (iand (ishr x 16) 65535) 5 = drL x := by unfold drL; rw [shr16 hx, ushr16 hx]
theorem dr_b {x : Int} (hx : in32 x) : 0 ≤ drL x ∧ drL x ≤ 4 := by
  unfold drL
  rw [ushr16 hx]
  unfold irm
  rw [Int.tmod_eq_emod_of_nonneg (by omega)]
  rw [w32_s (by omega) (by omega)]
  omega
theorem nx_in (x : Int) : in32 (nxL x) := w32_in _
theorem lo_in {L : Int} (hL : in32 L) : ∀ k, in32 (loS L k)
  | 0 => hL
  | k + 1 => nx_in _
theorem draws_e {h : Mem} : F_X8_draws h = some (irm (iand (ishr (nxL (h 61 2)) 16) 65535) 5, wr h 61 2 (nxL (h 61 2))) := by
  simp only [F_X8_draws, nxL, nm, jn, bd, gd, wr_at, Int.reduceEq, Int.reduceNeg, Int.reduceLT, Int.reduceLE, Int.reduceAdd, Int.reduceSub, false_and, true_and, and_true, and_false, and_self, or_false, false_or, or_true, true_or, if_true, if_false, ite_self, not_true_eq_false, not_false_eq_true, true_implies, implies_true]
theorem night1 {h0 : Mem} {n : Nat} {b L : Int} (hn : 0 < n) (hR : R8 h0 n) (hb : h0 56 19 = b) (h65 : ∀ p : Nat, p < n → h0 65 p = sGp (q8 h0) (h0 59) b p) (hL : h0 61 2 = L) (hLi : in32 L) :
    ∃ h1, F_X8_nightOf 1 h0 = some (sVa (q8 h0) (h0 59) b (fun p => drL (loS L (p + 1)) - 2) n, h1) ∧ NR h0 h1 n b (fun p => drL (loS L (p + 1)) - 2) ∧ h1 61 2 = loS L n := by
  refine nightG (isD := 1) (u := fun p => drL (loS L (p + 1)) - 2) (LK := fun p h => h 61 2 = loS L p) hn hR hb h65 (fun p => ?_) (fun p h1 c0 _ hl c1 c2 => ?_) (fun p h1 h2 e hl => by rw [e]; exact hl) hL
  · have := dr_b (lo_in hLi (p + 1)); omega
  · have hin : in32 (nxL (h1 61 2)) := nx_in _
    have hdr : nxL (h1 61 2) = loS L (p + 1) := by rw [hl]; rfl
    have db := dr_b (lo_in hLi (p + 1))
    refine ⟨wr h1 61 2 (loS L (p + 1)), fun K => ?_, fun r k hn => by rw [wr_at, if_neg hn], by simp only [nm, jn, bd, gd, wr_at, Int.reduceEq, Int.reduceNeg, Int.reduceLT, Int.reduceLE, Int.reduceAdd, Int.reduceSub, false_and, true_and, and_true, and_false, and_self, or_false, false_or, or_true, true_or, if_true, if_false, ite_self, not_true_eq_false, not_false_eq_true, true_implies, implies_true]⟩
    rw [if_pos (by omega)]
    refine (bd_of (v := drL (loS L (p + 1))) (h := wr h1 61 2 (loS L (p + 1))) ?_).trans ?_
    · rw [draws_e, dr_eq hin, hdr]
    · refine (bd_of (v := mxI 0 (c0 + (drL (loS L (p + 1)) - 2))) (h := wr h1 61 2 (loS L (p + 1))) ?_).trans rfl
      rw [w32_s (by omega) (by omega), less_e (by omega) (by omega) (by omega) (by omega), show c0 - (2 - drL (loS L (p + 1))) = c0 + (drL (loS L (p + 1)) - 2) by omega]
