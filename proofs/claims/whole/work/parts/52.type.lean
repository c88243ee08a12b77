/-! type, opener -/
theorem ex_ct {A B : Res} {C : Mem → Res} {P : Mem → Prop} (e : A = B) (h : ∃ h2, B = C h2 ∧ P h2) : ∃ h2, A = C h2 ∧ P h2 := by rw [e]; exact h
theorem bv255 (B : BitVec 64) {s : Nat} (hs : s ≤ 56) : (B >>> s) &&& 255#64 = (B.sshiftRight s) &&& 255#64 := by
  apply BitVec.eq_of_getLsbD_eq
  intro i hi
  rw [BitVec.getLsbD_and, BitVec.getLsbD_and, BitVec.getLsbD_ushiftRight, BitVec.getLsbD_sshiftRight]
  by_cases c : i < 8
  · rw [if_pos (by omega)]
    have e : decide (64 ≤ i) = false := decide_eq_false (by omega)
    rw [e]
    simp
  · have z : (255#64).getLsbD i = false := by
      rw [BitVec.getLsbD_ofNat, show (255 : Nat) = 2 ^ 8 - 1 from rfl, Nat.testBit_two_pow_sub_one, decide_eq_false c, Bool.and_false]
    rw [z, Bool.and_false, Bool.and_false]
theorem land255 (x : Int) : 0 ≤ land x 255 ∧ land x 255 < 256 := by
  have e : (Int64.ofInt x &&& Int64.ofInt 255).toBitVec.toNat = (Int64.ofInt x).toBitVec.toNat % 256 := by
    rw [Int64.toBitVec_and, BitVec.toNat_and]
    exact Nat.and_two_pow_sub_one_eq_mod _ 8
  have l := Nat.mod_lt (Int64.ofInt x).toBitVec.toNat (show 0 < 256 by omega)
  have t : land x 255 = ((Int64.ofInt x &&& Int64.ofInt 255).toBitVec.toNat : Int) := by
    unfold land
    exact BitVec.toInt_eq_toNat_of_lt (by rw [e]; omega)
  rw [t, e]
  omega
theorem byte_e {v : Int} {k : Nat} (hk : k < 8) : land (lushr v (8 * (k : Int))) 255 = land (lshr v (8 * (k : Int))) 255 := by
  have key : ∀ s : Nat, s ≤ 56 → (((Int32.ofInt (s : Int)).toInt64 &&& 63).toBitVec.smod 64) = BitVec.ofNat 64 s → ((((Int32.ofInt (s : Int)).toInt64.toUInt64 &&& Int64.toUInt64 63)).toBitVec % 64) = BitVec.ofNat 64 s → land (lushr v (s : Int)) 255 = land (lshr v (s : Int)) 255 := by
    intro s hs e1 e2
    unfold land
    refine congrArg Int64.toInt (Int64.toBitVec_inj.1 ?_)
    rw [Int64.toBitVec_and, Int64.toBitVec_and]
    unfold lushr lshr
    rw [Int64.ofInt_toInt, Int64.ofInt_toInt, Int64.toBitVec_shiftRight, e1]
    show ((Int64.ofInt v).toUInt64 >>> ((Int32.ofInt (s : Int)).toInt64.toUInt64 &&& Int64.toUInt64 63)).toBitVec &&& _ = _
    rw [UInt64.toBitVec_shiftRight, e2]
    have ts : (BitVec.ofNat 64 s).toNat = s := by rw [BitVec.toNat_ofNat]; exact Nat.mod_eq_of_lt (by omega)
    show ((Int64.ofInt v).toBitVec >>> (BitVec.ofNat 64 s)) &&& 255#64 = ((Int64.ofInt v).toBitVec.sshiftRight' (BitVec.ofNat 64 s)) &&& 255#64
    rw [BitVec.sshiftRight_eq', BitVec.ushiftRight_eq', ts]
    exact bv255 _ hs
  have kk : k = 0 ∨ k = 1 ∨ k = 2 ∨ k = 3 ∨ k = 4 ∨ k = 5 ∨ k = 6 ∨ k = 7 := by omega
  rcases kk with r | r | r | r | r | r | r | r <;> subst r
  · exact key 0 (by omega) (by decide +kernel) (by decide +kernel)
  · exact key 8 (by omega) (by decide +kernel) (by decide +kernel)
  · exact key 16 (by omega) (by decide +kernel) (by decide +kernel)
  · exact key 24 (by omega) (by decide +kernel) (by decide +kernel)
  · exact key 32 (by omega) (by decide +kernel) (by decide +kernel)
  · exact key 40 (by omega) (by decide +kernel) (by decide +kernel)
  · exact key 48 (by omega) (by decide +kernel) (by decide +kernel)
  · exact key 56 (by omega) (by decide +kernel) (by decide +kernel)
/-- the byte that comes at place j of the text, when n bytes of v come to a text of t -/
def tyB (v : Int) (n t : Nat) (j : Int) : Int := land (lshr v (8 * ((t : Int) + n - 1 - j))) 255
theorem type7 {v : Int} {n t : Nat} {h : Mem} (hn : n ≤ 8) (ht : h 2 1 = (t : Int)) (hl : t + n ≤ 400) (Kx : Int → Mem → Res) :
    ∃ h2, L_X4_append_1 v n Kx FU ((n : Int) - 1) h = Kx (-1) h2 ∧ h2 2 1 = ((t + n : Nat) : Int) ∧ (∀ j : Int, h2 3 j = if (t : Int) ≤ j ∧ j < t + n then tyB v n t j else h 3 j) ∧ ∀ r k : Int, ¬ r = 3 → ¬ (r = 2 ∧ k = 1) → h2 r k = h r k := by
  have key : ∀ (d : Nat) (h1 : Mem) (f : Nat), d ≤ n → d < f → h1 2 1 = ((t + n - d : Nat) : Int) → (∀ j : Int, h1 3 j = if (t : Int) ≤ j ∧ j < t + n - d then tyB v n t j else h 3 j) → (∀ r k : Int, ¬ r = 3 → ¬ (r = 2 ∧ k = 1) → h1 r k = h r k) →
      ∃ h2, L_X4_append_1 v n Kx f ((d : Int) - 1) h1 = Kx (-1) h2 ∧ h2 2 1 = ((t + n : Nat) : Int) ∧ (∀ j : Int, h2 3 j = if (t : Int) ≤ j ∧ j < t + n then tyB v n t j else h 3 j) ∧ ∀ r k : Int, ¬ r = 3 → ¬ (r = 2 ∧ k = 1) → h2 r k = h r k := by
    intro d
    induction d with
    | zero =>
      intro h1 f hd hf i1 i2 i3
      obtain ⟨f, rfl⟩ : ∃ g, f = g + 1 := ⟨f - 1, by omega⟩
      refine ⟨h1, ?_, by rw [i1]; rfl, fun j => by rw [i2, show (t : Int) + n - ((0 : Nat) : Int) = t + n by omega], i3⟩
      rw [L_X4_append_1, if_neg (by omega)]; rfl
    | succ d ih =>
      intro h1 f hd hf i1 i2 i3
      obtain ⟨f, rfl⟩ : ∃ g, f = g + 1 := ⟨f - 1, by omega⟩
      have kd : ((d + 1 : Nat) : Int) - 1 = (d : Int) := by omega
      have val : i2c (w32 (land (lushr v (w32 (8 * (d : Int)))) 255)) = tyB v n t ((t + n - (d + 1) : Nat) : Int) := by
        rw [w32_s (z := 8 * (d : Int)) (by omega) (by omega), byte_e (by omega)]
        have b := land255 (lshr v (8 * (d : Int)))
        rw [w32_s (by omega) (by omega)]
        unfold tyB
        rw [show (t : Int) + n - 1 - ((t + n - (d + 1) : Nat) : Int) = (d : Int) by omega]
        unfold i2c
        omega
      rw [kd, L_X4_append_1, if_pos (by rw [i1]; omega)]
      refine ex_ct (gd_of (by rw [i1]; omega)) ?_
      rw [val, i1]
      refine ex_ct (nm_of rfl) ?_
      rw [wr_o (by omega), i1, w32_n (by omega)]
      refine ex_ct (nm_of rfl) ?_
      refine ex_ct (nm_of (e' := (d : Int) - 1) (w32_s (by omega) (by omega))) ?_
      refine ih _ f (by omega) (by omega) (by rw [wr_s]; omega) (fun j => ?_) (fun r k a b => ?_)
      · rw [wr_o (by omega)]
        by_cases z : j = ((t + n - (d + 1) : Nat) : Int)
        · rw [z, wr_s, if_pos (by omega)]
        · rw [wr_k z, i2]
          by_cases y : (t : Int) ≤ j ∧ j < t + n - ((d + 1 : Nat) : Int)
          · rw [if_pos y, if_pos (by omega)]
          · rw [if_neg y, if_neg (by omega)]
      · rw [wr_at, if_neg b, wr_o a]; exact i3 r k a b
  exact key n h FU (by omega) (by unfold FU; omega) (by rw [ht]; omega) (fun j => by rw [if_neg (by omega)]) (fun r k _ _ => rfl)
theorem type8 {v : Int} {n t : Nat} {h : Mem} (hn : n ≤ 8) (ht : h 56 3 = (t : Int)) (hl : t + n ≤ 400) (Kx : Int → Mem → Res) :
    ∃ h2, L_X8_type_1 v n Kx FU ((n : Int) - 1) h = Kx (-1) h2 ∧ h2 56 3 = ((t + n : Nat) : Int) ∧ (∀ j : Int, h2 57 j = if (t : Int) ≤ j ∧ j < t + n then tyB v n t j else h 57 j) ∧ ∀ r k : Int, ¬ r = 57 → ¬ (r = 56 ∧ k = 3) → h2 r k = h r k := by
  have key : ∀ (d : Nat) (h1 : Mem) (f : Nat), d ≤ n → d < f → h1 56 3 = ((t + n - d : Nat) : Int) → (∀ j : Int, h1 57 j = if (t : Int) ≤ j ∧ j < t + n - d then tyB v n t j else h 57 j) → (∀ r k : Int, ¬ r = 57 → ¬ (r = 56 ∧ k = 3) → h1 r k = h r k) →
      ∃ h2, L_X8_type_1 v n Kx f ((d : Int) - 1) h1 = Kx (-1) h2 ∧ h2 56 3 = ((t + n : Nat) : Int) ∧ (∀ j : Int, h2 57 j = if (t : Int) ≤ j ∧ j < t + n then tyB v n t j else h 57 j) ∧ ∀ r k : Int, ¬ r = 57 → ¬ (r = 56 ∧ k = 3) → h2 r k = h r k := by
    intro d
    induction d with
    | zero =>
      intro h1 f hd hf i1 i2 i3
      obtain ⟨f, rfl⟩ : ∃ g, f = g + 1 := ⟨f - 1, by omega⟩
      refine ⟨h1, ?_, by rw [i1]; rfl, fun j => by rw [i2, show (t : Int) + n - ((0 : Nat) : Int) = t + n by omega], i3⟩
      rw [L_X8_type_1, if_neg (by omega)]; rfl
    | succ d ih =>
      intro h1 f hd hf i1 i2 i3
      obtain ⟨f, rfl⟩ : ∃ g, f = g + 1 := ⟨f - 1, by omega⟩
      have kd : ((d + 1 : Nat) : Int) - 1 = (d : Int) := by omega
      have val : w32 (land (lshr v (w32 (8 * (d : Int)))) 255) = tyB v n t ((t + n - (d + 1) : Nat) : Int) := by
        rw [w32_s (z := 8 * (d : Int)) (by omega) (by omega)]
        have b := land255 (lshr v (8 * (d : Int)))
        rw [w32_s (by omega) (by omega)]
        unfold tyB
        rw [show (t : Int) + n - 1 - ((t + n - (d + 1) : Nat) : Int) = (d : Int) by omega]
      rw [kd, L_X8_type_1, if_pos (by omega)]
      refine ex_ct (gd_of (by rw [i1]; omega)) ?_
      rw [val, i1]
      refine ex_ct (nm_of rfl) ?_
      rw [wr_o (by omega), i1, w32_n (by omega)]
      refine ex_ct (nm_of rfl) ?_
      refine ex_ct (nm_of (e' := (d : Int) - 1) (w32_s (by omega) (by omega))) ?_
      refine ih _ f (by omega) (by omega) (by rw [wr_s]; omega) (fun j => ?_) (fun r k a b => ?_)
      · rw [wr_o (by omega)]
        by_cases z : j = ((t + n - (d + 1) : Nat) : Int)
        · rw [z, wr_s, if_pos (by omega)]
        · rw [wr_k z, i2]
          by_cases y : (t : Int) ≤ j ∧ j < t + n - ((d + 1 : Nat) : Int)
          · rw [if_pos y, if_pos (by omega)]
          · rw [if_neg y, if_neg (by omega)]
      · rw [wr_at, if_neg b, wr_o a]; exact i3 r k a b
  exact key n h FU (by omega) (by unfold FU; omega) (by rw [ht]; omega) (fun j => by rw [if_neg (by omega)]) (fun r k _ _ => rfl)
theorem op_type (v n : Int) : OP (F_X7_type v n) (F_X8_type v n) := by
  intro h hR
  have p := hR.ps
  obtain ⟨⟨t1, t2⟩, w1, w2, w3⟩ := p.2.1
  obtain ⟨t, et⟩ : ∃ t : Nat, h 56 3 = (t : Int) := ⟨(h 56 3).toNat, by omega⟩
  by_cases c : 1 ≤ n ∧ n ≤ 8
  · obtain ⟨m, rfl⟩ : ∃ j : Nat, n = (j : Int) := ⟨n.toNat, by omega⟩
    have ws : w32 ((t : Int) + (m : Int)) = (t : Int) + m := w32_s (by omega) (by omega)
    have g3 : (wr h 56 0 0) 56 3 = (t : Int) := by rw [g_56 (by omega)]; exact et
    by_cases f : 400 < t + m
    · refine ⟨-3, h, wr h 56 0 0, ?_, ?_, hR.g0 Fr.rfl⟩
      · unfold F_X7_type
        rw [if_neg (by omega), t1, et, ws, if_pos (by omega)]
      · unfold F_X8_type
        refine (nm_of rfl).trans ?_
        refine (bd_of (in_t c.1 c.2)).trans ?_
        rw [if_pos (by omega), g3, ws, if_pos (by omega)]
    · obtain ⟨h1, e1, i1, i2, i3⟩ := type7 (v := v) (n := m) (t := t) (h := h) (by omega) (by rw [t1]; exact et) (by omega) (fun k_12 (h_11 : Mem) => some (0, h_11))
      have g3' : (wr h1 56 0 0) 56 3 = (t : Int) := by rw [g_56 (by omega), i3 56 3 (by omega) (by omega)]; exact et
      obtain ⟨h2, e2, j1, j2, j3⟩ := type8 (v := v) (n := m) (t := t) (h := wr h1 56 0 0) (by omega) g3' (by omega) (fun k_16 (h_15 : Mem) => some (h_15 56 3, h_15))
      have hW : ∀ r k : Int, ¬ (r = 3 ∨ r = 57) → ¬ (r = 2 ∧ k = 1) → ¬ (r = 56 ∧ (k = 0 ∨ k = 3)) → h2 r k = h r k := fun r k a b x => by
        rw [j3 r k (by omega) (by omega), wr_at, if_neg (by omega), i3 r k (by omega) (by omega)]
      refine ⟨((t + m : Nat) : Int), h1, h2, ?_, ?_, ?_⟩
      · unfold F_X7_type
        rw [if_neg (by omega), t1, et, ws, if_neg (by omega)]
        refine (bd_of (v := 0) (h := h1) ?_).trans ?_
        · unfold F_X4_append
          refine (nm_of (e' := (m : Int) - 1) (w32_s (by omega) (by omega))).trans ?_
          exact e1
        · rw [i1]
      · unfold F_X8_type
        refine (nm_of rfl).trans ?_
        refine (bd_of (in_t c.1 c.2)).trans ?_
        rw [if_pos (by omega), g3', ws, if_neg (by omega)]
        refine (nm_of (e' := (m : Int) - 1) (w32_s (by omega) (by omega))).trans ?_
        refine e2.trans ?_
        rw [j1]
      · refine RR.of (fCC (fun r k d => hW r k (by unfold dCC at d; omega) (by unfold dCC at d; omega) (by unfold dCC at d; omega)) p.1) ?_ (fAc (fun r k d => hW r k (by unfold dAc at d; omega) (by unfold dAc at d; omega) (by unfold dAc at d; omega)) (c_B hR).2 p.2.2.1) (fTu (fun r k d => hW r k (by unfold dTu at d; omega) (by unfold dTu at d; omega) (by unfold dTu at d; omega)) p.2.2.2.1) (fB (fun r k d => hW r k (by unfold dB at d; omega) (by unfold dB at d; omega) (by unfold dB at d; omega)) p.2.2.2.2.1) (fIm (fun r k d => hW r k (by unfold dIm at d; omega) (by unfold dIm at d; omega) (by unfold dIm at d; omega)) p.2.2.2.2.2.1) (fMk (fun r k d => hW r k (by unfold dMk at d; omega) (by unfold dMk at d; omega) (by unfold dMk at d; omega)) p.2.2.2.2.2.2.1) (fTr (fun r k d => hW r k (by unfold dTr at d; omega) (by unfold dTr at d; omega) (by unfold dTr at d; omega)) p.2.2.2.2.2.2.2.1) (fBs (fun r k d => hW r k (by unfold dBs at d; omega) (by unfold dBs at d; omega) (by unfold dBs at d; omega)) p.2.2.2.2.2.2.2.2)
        have x3 : h2 2 1 = ((t + m : Nat) : Int) := by rw [j3 2 1 (by omega) (by omega), wr_o (by omega), i1]
        have y3 : ∀ k, h2 3 k = h1 3 k := fun k => by rw [j3 3 k (by omega) (by omega), wr_o (by omega)]
        have z57 : ∀ k, (wr h1 56 0 0) 57 k = h 57 k := fun k => by rw [wr_o (by omega), i3 57 k (by omega) (by omega)]
        refine ⟨⟨by rw [x3, j1], fun k x y => ?_⟩, by rw [j1]; omega, by rw [j1]; omega, fun k x y => ?_⟩
        · rw [j1] at y
          rw [y3, i2, j2, z57]
          by_cases z : (t : Int) ≤ k ∧ k < t + m
          · rw [if_pos z, if_pos z]
          · rw [if_neg z, if_neg z]; exact t2 k x (by omega)
        · rw [j1] at y
          rw [j2, z57]
          by_cases z : (t : Int) ≤ k ∧ k < t + m
          · rw [if_pos z]; exact land255 _
          · rw [if_neg z]; exact w3 k x (by omega)
  · refine ⟨-1, h, wr h 56 0 0, ?_, ?_, hR.g0 Fr.rfl⟩
    · unfold F_X7_type
      rw [if_pos (by omega)]
    · unfold F_X8_type
      refine (nm_of rfl).trans ?_
      refine (bd_of (in_f (by omega))).trans ?_
      rw [if_neg (by omega)]
/-- the opener among the first i acts -/
def opP (V : Mem) (n : Nat) (i j : Int) : Prop := j = -9 ∨ mkC V i 0 n < mkC V j 0 n ∨ (mkC V i 0 n = mkC V j 0 n ∧ V 58 (9 * i + 2) < V 58 (9 * j + 2))
def opS (V : Mem) (n : Nat) : Nat → Int
  | 0 => -9
  | i + 1 => if opS V n i = -9 ∨ mkC V i 0 n < mkC V (opS V n i) 0 n ∨ (mkC V i 0 n = mkC V (opS V n i) 0 n ∧ V 58 (9 * (i : Int) + 2) < V 58 (9 * opS V n i + 2)) then (i : Int) else opS V n i
theorem opS_b {V : Mem} {n : Nat} : ∀ i : Nat, opS V n i = -9 ∨ (0 ≤ opS V n i ∧ opS V n i < i)
  | 0 => Or.inl rfl
  | i + 1 => by
    have ih := opS_b (V := V) (n := n) i
    rw [opS]
    split
    · omega
    · omega
theorem opener7 {h : Mem} (hR : RR h) : F_X7_opener h = some (opS h (h 56 33).toNat (h 56 10).toNat, h) := by
  have w := wac_n hR
  have hc : h (h 1 1) 1 = h 56 10 := hR.2.2.1.1
  obtain ⟨m1, m2⟩ := hR.2.2.2.2.2.2.1
  obtain ⟨w1, w2, w3⟩ := hR.2.2.2.2.2.2.2.1.2.2.2.2.2.1
  have mb := fun i => mk_b (V := h) (i := i) (p := 0) (h 56 33).toNat (fun k hk => (w3 k (by omega) (by omega)).2.2)
  have key : ∀ (d i f : Nat), i + d = (h 56 10).toNat → d < f → L_X7_opener_1 (fun best_20 i_21 (h_19 : Mem) => some (best_20, h_19)) f (opS h (h 56 33).toNat i) i h = some (opS h (h 56 33).toNat (h 56 10).toNat, h) := by
    intro d
    induction d with
    | zero =>
      intro i f hi hf
      obtain ⟨f, rfl⟩ : ∃ g, f = g + 1 := ⟨f - 1, by omega⟩
      rw [L_X7_opener_1]
      refine (nm_of rfl).trans ?_
      refine (gd_of (c_B hR).1).trans ?_
      rw [hc, if_neg (by omega), show i = (h 56 10).toNat by omega]
    | succ d ih =>
      intro i f hi hf
      obtain ⟨f, rfl⟩ : ∃ g, f = g + 1 := ⟨f - 1, by omega⟩
      have sb := opS_b (V := h) (n := (h 56 33).toNat) i
      have nx := ih (i + 1) f (by omega) (by omega)
      rw [L_X7_opener_1]
      refine (nm_of rfl).trans ?_
      refine (gd_of (c_B hR).1).trans ?_
      rw [hc, if_pos (by omega)]
      refine jn_of.trans ?_
      refine jn_of.trans ?_
      rw [opS] at nx
      by_cases c : opS h (h 56 33).toNat i = -9
      · rw [if_pos c]
        rw [if_pos (Or.inl c)] at nx
        refine (nm_of (w32_n (by omega))).trans ?_
        exact nx
      · rw [if_neg c]
        generalize hj : opS h (h 56 33).toNat i = j at *
        have x1 := (m2 (i : Int) 0 (by omega) (by omega) (by omega) (by omega)).1
        have x2 := (m2 j 0 (by omega) (by omega) (by omega) (by omega)).1
        have s1 := (hR.2.2.1.2 (i : Int) (by omega) (by omega)).1.2.2.1
        have s2 := (hR.2.2.1.2 j (by omega) (by omega)).1.2.2.1
        have b1 := (mb (i : Int)).1
        have b2 := (mb j).1
        rw [Int.add_zero] at x1 x2
        have oa : F_X7_opensAhead (i : Int) j h = some (if mkC h i 0 (h 56 33).toNat < mkC h j 0 (h 56 33).toNat ∨ (mkC h i 0 (h 56 33).toNat = mkC h j 0 (h 56 33).toNat ∧ h 58 (9 * (i : Int) + 2) < h 58 (9 * j + 2)) then 1 else 0, h) := by
          unfold F_X7_opensAhead
          rw [w32_s (z := (i : Int) * 9) (by omega) (by omega), w32_s (z := j * 9) (by omega) (by omega)]
          refine (gd_of (by omega)).trans ?_
          refine (gd_of (by omega)).trans ?_
          rw [Int.mul_comm (i : Int) 9, Int.mul_comm j 9, x1, x2]
          generalize mkC h i 0 (h 56 33).toNat = a at *
          generalize mkC h j 0 (h 56 33).toNat = b at *
          refine (nm_of (e' := a - b) (w32_s (by omega) (by omega))).trans ?_
          by_cases z : a - b = 0
          · rw [if_neg (by omega)]
            refine (nm_of rfl).trans ?_
            refine (gd_of (c_B hR).1).trans ?_
            refine (gd_of (by omega)).trans ?_
            refine (nm_of rfl).trans ?_
            refine (gd_of (c_B hR).1).trans ?_
            refine (gd_of (by omega)).trans ?_
            rw [s1, s2]
            by_cases y : h 58 (9 * (i : Int) + 2) < h 58 (9 * j + 2)
            · rw [if_pos y, if_pos (by omega)]
            · rw [if_neg y, if_neg (by omega)]
          · rw [if_pos z]
            by_cases y : a - b < 0
            · rw [if_pos y, if_pos (by omega)]
            · rw [if_neg y, if_neg (by omega)]
        refine (bd_of oa).trans ?_
        by_cases y : mkC h i 0 (h 56 33).toNat < mkC h j 0 (h 56 33).toNat ∨ (mkC h i 0 (h 56 33).toNat = mkC h j 0 (h 56 33).toNat ∧ h 58 (9 * (i : Int) + 2) < h 58 (9 * j + 2))
        · rw [if_pos y, if_pos (by omega)]
          rw [if_pos (Or.inr y)] at nx
          refine (nm_of (w32_n (by omega))).trans ?_
          exact nx
        · rw [if_neg y, if_neg (by omega)]
          rw [if_neg (fun z => z.elim c y)] at nx
          refine (nm_of (w32_n (by omega))).trans ?_
          exact nx
  exact key (h 56 10).toNat 0 FU (by omega) (by unfold FU; omega)
theorem opener8 {h : Mem} (hR : RR h) (h0 : h 56 0 = 0) : F_X8_opener h = some (opS h (h 56 33).toNat (h 56 10).toNat, h) := by
  have w := wac_n hR
  obtain ⟨w1, w2, w3⟩ := hR.2.2.2.2.2.2.2.1.2.2.2.2.2.1
  obtain ⟨n, en⟩ : ∃ n : Nat, h 56 33 = (n : Int) := ⟨(h 56 33).toNat, by omega⟩
  have tn : (h 56 33).toNat = n := by omega
  rw [tn]
  have mb := fun i => mk_b (V := h) (i := i) (p := 0) n (fun k hk => (w3 k (by omega) (by omega)).2.2)
  have gg : wr h 56 0 0 = h := by
    funext r k
    rw [wr_at]
    by_cases c : r = 56 ∧ k = 0
    · rw [if_pos c, c.1, c.2, h0]
    · rw [if_neg c]
  have inner : ∀ (b l i : Int) (Kx : Int → Int → Mem → Res) (d k f : Nat), k + d = n → d < f → L_X8_opener_2 b l i Kx f (mkC h i 0 k) k h = Kx (mkC h i 0 n) n h := by
    intro b l i Kx d
    induction d with
    | zero =>
      intro k f hk hf
      obtain ⟨f, rfl⟩ : ∃ g, f = g + 1 := ⟨f - 1, by omega⟩
      rw [L_X8_opener_2, en, if_neg (by omega), show k = n by omega]
    | succ d ih =>
      intro k f hk hf
      obtain ⟨f, rfl⟩ : ∃ g, f = g + 1 := ⟨f - 1, by omega⟩
      have nx := ih (k + 1) f (by omega) (by omega)
      have b1 := (mk_b (V := h) (i := i) (p := 0) k (fun k hk => (w3 k (by omega) (by omega)).2.2)).1
      rw [mkC] at nx
      rw [L_X8_opener_2, en, if_pos (by omega)]
      refine jn_of.trans ?_
      refine jn_of.trans ?_
      refine (gd_of (by omega)).trans ?_
      generalize mkC h i 0 k = a at *
      by_cases c : h 71 k = i
      · by_cases c2 : h 72 k = 0
        · rw [if_pos c, if_pos c2]
          rw [if_pos ⟨c, c2⟩] at nx
          refine (nm_of (e' := a + 1) (w32_s (by omega) (by omega))).trans ?_
          refine (nm_of (w32_n (by omega))).trans ?_
          exact nx
        · rw [if_pos c, if_neg c2]
          rw [if_neg (fun z => c2 z.2)] at nx
          refine (nm_of (e' := a + 0) (w32_s (by omega) (by omega))).trans ?_
          refine (nm_of (w32_n (by omega))).trans ?_
          exact nx
      · rw [if_neg c]
        rw [if_neg (fun z => c z.1)] at nx
        refine (nm_of (e' := a + 0) (w32_s (by omega) (by omega))).trans ?_
        refine (nm_of (w32_n (by omega))).trans ?_
        exact nx
  have key : ∀ (d i f : Nat) (l : Int), i + d = (h 56 10).toNat → d < f → (¬ opS h n i = -9 → l = mkC h (opS h n i) 0 n) → L_X8_opener_1 (fun best_44 least_45 i_46 (h_43 : Mem) => some (best_44, h_43)) f (opS h n i) l i h = some (opS h n (h 56 10).toNat, h) := by
    intro d
    induction d with
    | zero =>
      intro i f l hi hf hl
      obtain ⟨f, rfl⟩ : ∃ g, f = g + 1 := ⟨f - 1, by omega⟩
      rw [L_X8_opener_1, if_neg (by omega), show i = (h 56 10).toNat by omega]
    | succ d ih =>
      intro i f l hi hf hl
      obtain ⟨f, rfl⟩ : ∃ g, f = g + 1 := ⟨f - 1, by omega⟩
      have sb := opS_b (V := h) (n := n) i
      have nx := fun l => ih (i + 1) f l (by omega) (by omega)
      have i0 := inner (opS h n i) l i
      rw [L_X8_opener_1, if_pos (by omega)]
      refine (i0 _ n 0 FU (by omega) (by unfold FU; omega)).trans ?_
      clear i0 ih
      rw [opS] at nx
      generalize hj : opS h n i = j at *
      refine jn_of.trans ?_
      refine jn_of.trans ?_
      refine jn_of.trans ?_
      by_cases c : j = -9
      · rw [if_pos c]
        rw [if_pos (Or.inl c)] at nx
        refine (nm_of (w32_n (by omega))).trans ?_
        exact nx _ (fun _ => rfl)
      · have el := hl c
        rw [if_neg c]
        by_cases y : mkC h i 0 n < mkC h j 0 n ∨ (mkC h i 0 n = mkC h j 0 n ∧ h 58 (9 * (i : Int) + 2) < h 58 (9 * j + 2))
        · rw [if_pos (Or.inr y)] at nx
          have nx := nx _ (fun _ => rfl)
          rw [of_e (by omega) (by omega) (by omega) (by omega), bd_s, of_e (by omega) (by omega) (by omega) (by omega), bd_s, el]
          by_cases z : mkC h i 0 n < mkC h j 0 n
          · rw [if_pos z]
            refine (nm_of (w32_n (by omega))).trans ?_
            exact nx
          · rw [if_neg z, if_pos (by omega), if_pos (by omega)]
            refine (nm_of (w32_n (by omega))).trans ?_
            exact nx
        · rw [if_neg (fun z => z.elim c y)] at nx
          have nx := nx l (fun _ => el)
          rw [of_e (by omega) (by omega) (by omega) (by omega), bd_s, of_e (by omega) (by omega) (by omega) (by omega), bd_s, el]
          rw [el] at nx
          rw [if_neg (by omega)]
          by_cases z : mkC h i 0 n = mkC h j 0 n
          · rw [if_pos z, if_neg (by omega)]
            refine (nm_of (w32_n (by omega))).trans ?_
            exact nx
          · rw [if_neg z]
            refine (nm_of (w32_n (by omega))).trans ?_
            exact nx
  unfold F_X8_opener
  rw [gg]
  refine (nm_of rfl).trans ?_
  exact key (h 56 10).toNat 0 FU 0 (by omega) (by unfold FU; omega) (fun z => absurd rfl z)
theorem op_opener : OP F_X7_opener F_X8_opener := by
  intro h hR
  have Rg := hR.g0 Fr.rfl
  have e2 := opener8 Rg wr_s
  have x : F_X8_opener (wr h 56 0 0) = F_X8_opener h := by unfold F_X8_opener; rw [wr_wr]
  have m : ∀ i p n, mkC (wr h 56 0 0) i p n = mkC h i p n := fun i p n => (mk_fr (V := h) (W := wr h 56 0 0) (funext fun k => wr_o (by omega)) (funext fun k => wr_o (by omega)) (funext fun k => wr_o (by omega)) n).1
  have s : ∀ n i, opS (wr h 56 0 0) n i = opS h n i := fun n i => by
    induction i with
    | zero => rfl
    | succ i ih =>
      rw [opS, opS, ih, m, m, wr_o (by omega), wr_o (by omega)]
  rw [x, s, g_56 (by omega), g_56 (by omega)] at e2
  exact ⟨_, h, wr h 56 0 0, opener7 hR, e2, Rg⟩
