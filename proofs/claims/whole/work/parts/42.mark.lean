/-! mark -/
theorem mk_ext {V W : Mem} {i p : Int} : ∀ n : Nat, (∀ k : Nat, k < n → W 71 k = V 71 k ∧ W 72 k = V 72 k ∧ W 73 k = V 73 k) → mkC W i p n = mkC V i p n ∧ mkS W i p n = mkS V i p n
  | 0, _ => ⟨rfl, rfl⟩
  | n + 1, e => by
    have ih := mk_ext (V := V) (W := W) (i := i) (p := p) n (fun k hk => e k (by omega))
    have x := e n (by omega)
    simp only [mkC, mkS, ih.1, ih.2, x.1, x.2.1, x.2.2, and_self]
theorem mk_b {V : Mem} {i p : Int} : ∀ n : Nat, (∀ k : Nat, k < n → 0 ≤ V 73 k ∧ V 73 k < 100) → (0 ≤ mkC V i p n ∧ mkC V i p n ≤ n) ∧ (0 ≤ mkS V i p n ∧ mkS V i p n ≤ 99 * n)
  | 0, _ => ⟨⟨Int.le_refl _, Int.le_refl _⟩, Int.le_refl _, Int.le_refl _⟩
  | n + 1, e => by
    have ih := mk_b (V := V) (i := i) (p := p) n (fun k hk => e k (by omega))
    have x := e n (by omega)
    simp only [mkC, mkS]
    by_cases c : V 71 n = i ∧ V 72 n = p
    · rw [if_pos c, if_pos c]; omega
    · rw [if_neg c, if_neg c]; omega
theorem op_mark (i q v : Int) : OP (F_X7_mark i q v) (F_X8_mark i q v) := by
  intro h hR
  have p := hR.ps
  have w := wac_n hR
  obtain ⟨⟨m1, m2⟩, m3, m4, m5⟩ := p.2.2.2.2.2.2.1
  by_cases c : (0 ≤ i ∧ i < h 56 10) ∧ (0 ≤ q ∧ q ≤ 8) ∧ 0 ≤ v ∧ v ≤ 99
  · by_cases f : h 56 33 = 60
    · refine ⟨-3, h, wr h 56 0 0, ?_, ?_, hR.g0 Fr.rfl⟩
      · unfold F_X7_mark
        refine jn_of.trans ?_
        refine (bd_of (isAct7_e hR)).trans ?_
        rw [if_pos c.1, if_pos (by omega), if_neg (by omega), if_neg (by omega), if_neg (by omega), if_neg (by omega), m1, if_pos (by omega)]
      · unfold F_X8_mark
        refine (nm_of rfl).trans ?_
        refine jn_of.trans ?_
        refine (bd_of (isAct8_g hR)).trans ?_
        rw [if_pos c.1, if_pos (by omega)]
        refine (bd_of (in_t (by omega) (by omega))).trans ?_
        rw [if_pos (by omega)]
        refine (bd_of (in_t (by omega) (by omega))).trans ?_
        rw [if_pos (by omega), g_56 (by omega), if_pos f]
    · obtain ⟨n, en⟩ : ∃ n : Nat, h 56 33 = (n : Int) := ⟨(h 56 33).toNat, by omega⟩
      have tn : (h 56 33).toNat = n := by omega
      have b := mk_b (V := h) (i := i) (p := q) n (fun k hk => (m5 k (by omega) (by omega)).2.2)
      have x := m2 i q c.1.1 (by omega) c.2.1.1 (by omega)
      rw [tn] at x
      have wi : w32 (w32 (i * 9) + q) = 9 * i + q := by rw [w32_s (z := i * 9) (by omega) (by omega), w32_s (by omega) (by omega)]; omega
      have w1 : w32 (h 52 (9 * i + q) + 1) = h 52 (9 * i + q) + 1 := w32_s (by omega) (by omega)
      have w2 : w32 (h 53 (9 * i + q) + v) = h 53 (9 * i + q) + v := w32_s (by omega) (by omega)
      have w3 : w32 ((n : Int) + 1) = (n : Int) + 1 := w32_s (by omega) (by omega)
      have ea : F_X3_append i q v h = some (0, wr (wr (wr h 52 (9 * i + q) (h 52 (9 * i + q) + 1)) 53 (9 * i + q) (h 53 (9 * i + q) + v)) 51 2 ((n : Int) + 1)) := by
        unfold F_X3_append
        rw [wi]
        refine (gd_of (by clear w1 w2 w3 wi; omega)).trans ?_
        rw [w1]
        refine (nm_of rfl).trans ?_
        rw [wr_o (by clear w1 w2 w3 wi; omega), w2]
        refine (nm_of rfl).trans ?_
        rw [wr_o (by clear w1 w2 w3 wi; omega), wr_o (by clear w1 w2 w3 wi; omega), m1, en, w3]
        rfl
      clear w1 w2 wi
      refine ⟨(n : Int) + 1, wr (wr (wr h 52 (9 * i + q) (h 52 (9 * i + q) + 1)) 53 (9 * i + q) (h 53 (9 * i + q) + v)) 51 2 ((n : Int) + 1),
        wr (wr (wr (wr (wr (wr (wr (wr h 52 (9 * i + q) (h 52 (9 * i + q) + 1)) 53 (9 * i + q) (h 53 (9 * i + q) + v)) 51 2 ((n : Int) + 1)) 56 0 0) 71 n i) 72 n q) 73 n v) 56 33 ((n : Int) + 1), ?_, ?_, ?_⟩
      · clear w3
        unfold F_X7_mark
        refine jn_of.trans ?_
        refine (bd_of (isAct7_e hR)).trans ?_
        rw [if_pos c.1, if_pos (by omega), if_neg (by omega), if_neg (by omega), if_neg (by omega), if_neg (by omega), m1, if_neg (by omega)]
        refine (bd_of ea).trans ?_
        rw [wr_s]
      · generalize hg : wr (wr (wr h 52 (9 * i + q) (h 52 (9 * i + q) + 1)) 53 (9 * i + q) (h 53 (9 * i + q) + v)) 51 2 ((n : Int) + 1) = g
        have g10 : (wr g 56 0 0) 56 10 = h 56 10 := by rw [← hg, wr_k (by clear w3; omega), wr_o (by clear w3; omega), wr_o (by clear w3; omega), wr_o (by clear w3; omega)]
        have g33 : (wr g 56 0 0) 56 33 = (n : Int) := by rw [← hg, wr_k (by clear w3; omega), wr_o (by clear w3; omega), wr_o (by clear w3; omega), wr_o (by clear w3; omega)]; exact en
        have gn : 0 ≤ (n : Int) ∧ (n : Int) < 60 := by clear w3; omega
        have nf : ¬ (n : Int) = 60 := by clear w3; omega
        unfold F_X8_mark
        refine (nm_of rfl).trans ?_
        refine jn_of.trans ?_
        refine (bd_of (isAct8_e (by clear w3; omega) (by clear w3; omega))).trans ?_
        rw [g10, if_pos c.1, if_pos (by clear w3; omega)]
        refine (bd_of (in_t c.2.1.1 c.2.1.2)).trans ?_
        rw [if_pos (by clear w3; omega)]
        refine (bd_of (in_t c.2.2.1 c.2.2.2)).trans ?_
        rw [if_pos (by clear w3; omega), g33, if_neg nf]
        refine (gd_of gn).trans ?_
        refine (nm_of rfl).trans ?_
        rw [wr_o (by clear w3; omega), g33]
        refine (gd_of gn).trans ?_
        refine (nm_of rfl).trans ?_
        rw [wr_o (by clear w3; omega), wr_o (by clear w3; omega), g33]
        refine (gd_of gn).trans ?_
        refine (nm_of rfl).trans ?_
        rw [wr_o (by clear w3; omega), wr_o (by clear w3; omega), wr_o (by clear w3; omega), g33, w3]
        refine (nm_of rfl).trans ?_
        rw [wr_s]
      · clear w3 ea
        refine RR.of (fCC (fun r k d => by unfold dCC at d; rw [wr_at, if_neg (by omega), wr_at, if_neg (by omega), wr_at, if_neg (by omega), wr_at, if_neg (by omega), wr_at, if_neg (by omega), wr_at, if_neg (by omega), wr_at, if_neg (by omega), wr_at, if_neg (by omega)]) p.1) (fTx (fun r k d => by unfold dTx at d; rw [wr_at, if_neg (by omega), wr_at, if_neg (by omega), wr_at, if_neg (by omega), wr_at, if_neg (by omega), wr_at, if_neg (by omega), wr_at, if_neg (by omega), wr_at, if_neg (by omega), wr_at, if_neg (by omega)]) p.2.1) (fAc (fun r k d => by unfold dAc at d; rw [wr_at, if_neg (by omega), wr_at, if_neg (by omega), wr_at, if_neg (by omega), wr_at, if_neg (by omega), wr_at, if_neg (by omega), wr_at, if_neg (by omega), wr_at, if_neg (by omega), wr_at, if_neg (by omega)]) (c_B hR).2 p.2.2.1) (fTu (fun r k d => by unfold dTu at d; rw [wr_at, if_neg (by omega), wr_at, if_neg (by omega), wr_at, if_neg (by omega), wr_at, if_neg (by omega), wr_at, if_neg (by omega), wr_at, if_neg (by omega), wr_at, if_neg (by omega), wr_at, if_neg (by omega)]) p.2.2.2.1) (fB (fun r k d => by unfold dB at d; rw [wr_at, if_neg (by omega), wr_at, if_neg (by omega), wr_at, if_neg (by omega), wr_at, if_neg (by omega), wr_at, if_neg (by omega), wr_at, if_neg (by omega), wr_at, if_neg (by omega), wr_at, if_neg (by omega)]) p.2.2.2.2.1) (fIm (fun r k d => by unfold dIm at d; rw [wr_at, if_neg (by omega), wr_at, if_neg (by omega), wr_at, if_neg (by omega), wr_at, if_neg (by omega), wr_at, if_neg (by omega), wr_at, if_neg (by omega), wr_at, if_neg (by omega), wr_at, if_neg (by omega)]) p.2.2.2.2.2.1) ?_ (fTr (fun r k d => by unfold dTr at d; rw [wr_at, if_neg (by omega), wr_at, if_neg (by omega), wr_at, if_neg (by omega), wr_at, if_neg (by omega), wr_at, if_neg (by omega), wr_at, if_neg (by omega), wr_at, if_neg (by omega), wr_at, if_neg (by omega)]) p.2.2.2.2.2.2.2.1) (fBs (fun r k d => by unfold dBs at d; rw [wr_at, if_neg (by omega), wr_at, if_neg (by omega), wr_at, if_neg (by omega), wr_at, if_neg (by omega), wr_at, if_neg (by omega), wr_at, if_neg (by omega), wr_at, if_neg (by omega), wr_at, if_neg (by omega)]) p.2.2.2.2.2.2.2.2)
        have e52 : ∀ k : Int, (wr (wr (wr (wr (wr (wr (wr (wr h 52 (9 * i + q) (h 52 (9 * i + q) + 1)) 53 (9 * i + q) (h 53 (9 * i + q) + v)) 51 2 ((n : Int) + 1)) 56 0 0) 71 n i) 72 n q) 73 n v) 56 33 ((n : Int) + 1)) 52 k = if k = 9 * i + q then h 52 (9 * i + q) + 1 else h 52 k := fun k => by
          by_cases z : k = 9 * i + q
          · rw [if_pos z, z, wr_o (by omega), wr_o (by omega), wr_o (by omega), wr_o (by omega), wr_o (by omega), wr_o (by omega), wr_o (by omega), wr_s]
          · rw [if_neg z, wr_o (by omega), wr_o (by omega), wr_o (by omega), wr_o (by omega), wr_o (by omega), wr_o (by omega), wr_o (by omega), wr_k z]
        have e53 : ∀ k : Int, (wr (wr (wr (wr (wr (wr (wr (wr h 52 (9 * i + q) (h 52 (9 * i + q) + 1)) 53 (9 * i + q) (h 53 (9 * i + q) + v)) 51 2 ((n : Int) + 1)) 56 0 0) 71 n i) 72 n q) 73 n v) 56 33 ((n : Int) + 1)) 53 k = if k = 9 * i + q then h 53 (9 * i + q) + v else h 53 k := fun k => by
          by_cases z : k = 9 * i + q
          · rw [if_pos z, z, wr_o (by omega), wr_o (by omega), wr_o (by omega), wr_o (by omega), wr_o (by omega), wr_o (by omega), wr_s]
          · rw [if_neg z, wr_o (by omega), wr_o (by omega), wr_o (by omega), wr_o (by omega), wr_o (by omega), wr_o (by omega), wr_k z, wr_o (by omega)]
        have e71 : ∀ k : Int, (wr (wr (wr (wr (wr (wr (wr (wr h 52 (9 * i + q) (h 52 (9 * i + q) + 1)) 53 (9 * i + q) (h 53 (9 * i + q) + v)) 51 2 ((n : Int) + 1)) 56 0 0) 71 n i) 72 n q) 73 n v) 56 33 ((n : Int) + 1)) 71 k = if k = (n : Int) then i else h 71 k := fun k => by
          by_cases z : k = (n : Int)
          · rw [if_pos z, z, wr_o (by omega), wr_o (by omega), wr_o (by omega), wr_s]
          · rw [if_neg z, wr_o (by omega), wr_o (by omega), wr_o (by omega), wr_k z, wr_o (by omega), wr_o (by omega), wr_o (by omega), wr_o (by omega)]
        have e72 : ∀ k : Int, (wr (wr (wr (wr (wr (wr (wr (wr h 52 (9 * i + q) (h 52 (9 * i + q) + 1)) 53 (9 * i + q) (h 53 (9 * i + q) + v)) 51 2 ((n : Int) + 1)) 56 0 0) 71 n i) 72 n q) 73 n v) 56 33 ((n : Int) + 1)) 72 k = if k = (n : Int) then q else h 72 k := fun k => by
          by_cases z : k = (n : Int)
          · rw [if_pos z, z, wr_o (by omega), wr_o (by omega), wr_s]
          · rw [if_neg z, wr_o (by omega), wr_o (by omega), wr_k z, wr_o (by omega), wr_o (by omega), wr_o (by omega), wr_o (by omega), wr_o (by omega)]
        have e73 : ∀ k : Int, (wr (wr (wr (wr (wr (wr (wr (wr h 52 (9 * i + q) (h 52 (9 * i + q) + 1)) 53 (9 * i + q) (h 53 (9 * i + q) + v)) 51 2 ((n : Int) + 1)) 56 0 0) 71 n i) 72 n q) 73 n v) 56 33 ((n : Int) + 1)) 73 k = if k = (n : Int) then v else h 73 k := fun k => by
          by_cases z : k = (n : Int)
          · rw [if_pos z, z, wr_o (by omega), wr_s]
          · rw [if_neg z, wr_o (by omega), wr_k z, wr_o (by omega), wr_o (by omega), wr_o (by omega), wr_o (by omega), wr_o (by omega), wr_o (by omega)]
        have e51 : (wr (wr (wr (wr (wr (wr (wr (wr h 52 (9 * i + q) (h 52 (9 * i + q) + 1)) 53 (9 * i + q) (h 53 (9 * i + q) + v)) 51 2 ((n : Int) + 1)) 56 0 0) 71 n i) 72 n q) 73 n v) 56 33 ((n : Int) + 1)) 51 2 = (n : Int) + 1 := by rw [wr_o (by omega), wr_o (by omega), wr_o (by omega), wr_o (by omega), wr_o (by omega), wr_s]
        have e33 : (wr (wr (wr (wr (wr (wr (wr (wr h 52 (9 * i + q) (h 52 (9 * i + q) + 1)) 53 (9 * i + q) (h 53 (9 * i + q) + v)) 51 2 ((n : Int) + 1)) 56 0 0) 71 n i) 72 n q) 73 n v) 56 33 ((n : Int) + 1)) 56 33 = (n : Int) + 1 := wr_s
        have e10 : (wr (wr (wr (wr (wr (wr (wr (wr h 52 (9 * i + q) (h 52 (9 * i + q) + 1)) 53 (9 * i + q) (h 53 (9 * i + q) + v)) 51 2 ((n : Int) + 1)) 56 0 0) 71 n i) 72 n q) 73 n v) 56 33 ((n : Int) + 1)) 56 10 = h 56 10 := by rw [wr_k (by omega), wr_o (by omega), wr_o (by omega), wr_o (by omega), wr_k (by omega), wr_o (by omega), wr_o (by omega), wr_o (by omega)]
        generalize (wr (wr (wr (wr (wr (wr (wr (wr h 52 (9 * i + q) (h 52 (9 * i + q) + 1)) 53 (9 * i + q) (h 53 (9 * i + q) + v)) 51 2 ((n : Int) + 1)) 56 0 0) 71 n i) 72 n q) 73 n v) 56 33 ((n : Int) + 1)) = W at e52 e53 e71 e72 e73 e51 e33 e10 ⊢
        have tW : (W 56 33).toNat = n + 1 := by omega
        have ext : ∀ k : Nat, k < n → W 71 k = h 71 k ∧ W 72 k = h 72 k ∧ W 73 k = h 73 k := fun k hk => by
          rw [e71, e72, e73, if_neg (by omega), if_neg (by omega), if_neg (by omega)]; exact ⟨rfl, rfl, rfl⟩
        refine ⟨⟨by rw [e51, e33], fun i' p' a1 a2 b1 b2 => ?_⟩, by omega, by omega, fun k k1 k2 => ?_⟩
        · have y := m2 i' p' a1 a2 b1 b2
          rw [tn] at y
          have me := mk_ext (i := i') (p := p') n ext
          rw [tW, mkC, mkS, me.1, me.2, e71, e72, e73, if_pos rfl, if_pos rfl, if_pos rfl, e52, e53]
          by_cases z : i = i' ∧ q = p'
          · rw [if_pos (show 9 * i' + p' = 9 * i + q by omega), if_pos (show 9 * i' + p' = 9 * i + q by omega), if_pos z, if_pos z, ← y.1, ← y.2, z.1, z.2]; exact ⟨rfl, rfl⟩
          · rw [if_neg (show ¬ 9 * i' + p' = 9 * i + q by omega), if_neg (show ¬ 9 * i' + p' = 9 * i + q by omega), if_neg z, if_neg z, Int.add_zero, Int.add_zero]; exact y
        · rw [e71, e72, e73, e10]
          by_cases z : k = (n : Int)
          · rw [if_pos z, if_pos z, if_pos z]; omega
          · rw [if_neg z, if_neg z, if_neg z]; exact m5 k k1 (by omega)
  · refine ⟨-1, h, wr h 56 0 0, ?_, ?_, hR.g0 Fr.rfl⟩
    · unfold F_X7_mark
      refine jn_of.trans ?_
      refine (bd_of (isAct7_e hR)).trans ?_
      by_cases d : 0 ≤ i ∧ i < h 56 10
      · rw [if_pos d, if_pos (by omega)]
        by_cases d1 : q < 0
        · rw [if_pos d1]
        · by_cases d2 : 9 ≤ q
          · rw [if_neg d1, if_pos d2]
          · by_cases d3 : v < 0
            · rw [if_neg d1, if_neg d2, if_pos d3]
            · rw [if_neg d1, if_neg d2, if_neg d3, if_pos (by omega)]
      · rw [if_neg d, if_neg (by omega)]
    · unfold F_X8_mark
      refine (nm_of rfl).trans ?_
      refine jn_of.trans ?_
      refine (bd_of (isAct8_g hR)).trans ?_
      by_cases d : 0 ≤ i ∧ i < h 56 10
      · rw [if_pos d, if_pos (by omega)]
        by_cases d1 : 0 ≤ q ∧ q ≤ 8
        · refine (bd_of (in_t d1.1 d1.2)).trans ?_
          rw [if_pos (by omega)]
          refine (bd_of (in_f (by omega))).trans ?_
          rw [if_neg (by omega)]
        · refine (bd_of (in_f d1)).trans ?_
          rw [if_neg (by omega)]
      · rw [if_neg d, if_neg (by omega)]
