/-! the parser: an act's parts -/
section Stg
variable {t : Int → Int} {N : Nat} {c m : Mem} {q e : Nat} {one at0 : Int}
/-- only the tokens and some fields of an act change -/
def fC (one lo hi : Int) (c c' : Mem) : Prop := ∀ r k : Int, ¬ (r = 2 ∧ 2 ≤ k ∧ k ≤ 5) → ¬ (r = one ∧ lo ≤ k ∧ k ≤ hi) → c' r k = c r k
def fM (lo hi : Int) (m m' : Mem) : Prop := ∀ r k : Int, ¬ (r = 56 ∧ 4 ≤ k ∧ k ≤ 8) → ¬ (r = 58 ∧ lo ≤ k ∧ k ≤ hi) → m' r k = m r k
theorem fC.refl {lo hi : Int} : fC one lo hi c c := fun _ _ _ _ => rfl
theorem fM.refl {lo hi : Int} : fM lo hi m m := fun _ _ _ _ => rfl
theorem fC.trans {lo hi lo' hi' l h : Int} {c1 c2 : Mem} (a : fC one lo hi c c1) (b : fC one lo' hi' c1 c2) (h1 : l ≤ lo ∧ hi ≤ h) (h2 : l ≤ lo' ∧ hi' ≤ h) : fC one l h c c2 := fun r k x y => by rw [b r k x (by omega), a r k x (by omega)]
theorem fM.trans {lo hi lo' hi' l h : Int} {m1 m2 : Mem} (a : fM lo hi m m1) (b : fM lo' hi' m1 m2) (h1 : l ≤ lo ∧ hi ≤ h) (h2 : l ≤ lo' ∧ hi' ≤ h) : fM l h m m2 := fun r k x y => by rw [b r k x (by omega), a r k x (by omega)]
/-- a number that goes into a field -/
theorem nf_r {lo hi j i : Int} (T : TokR t N c m q e) (w : m 56 8 < 0) (ho : 4 ≤ one ∧ one ≤ 25) (hj : 1 ≤ j) (KC KM : Mem → Res) :
    (∃ c' m' q' e', (bd (F_X4_isNumber lo hi c) (fun r_1 (h_2 : Mem) => if (¬ r_1 = 0) then (nm (wr h_2 one j (h_2 2 4)) (fun (h_6 : Mem) => bd (F_X4_advance  h_6) (fun _ (h_8 : Mem) => KC h_8))) else (some (0, h_2))) : Res) = KC c' ∧ (bd (F_X8_number lo hi m) (fun r_2 (h_3 : Mem) => nm (wr h_3 58 i r_2) (fun (h_6 : Mem) => KM h_6)) : Res) = KM m' ∧ TokR t N c' m' q' e' ∧ q < q' ∧ m' 56 8 = m 56 8 ∧ c' one j = m' 58 i ∧ lo ≤ m' 58 i ∧ m' 58 i ≤ hi ∧ fC one j j c c' ∧ fM i i m m') ∨
    (∃ m', (bd (F_X4_isNumber lo hi c) (fun r_1 (h_2 : Mem) => if (¬ r_1 = 0) then (nm (wr h_2 one j (h_2 2 4)) (fun (h_6 : Mem) => bd (F_X4_advance  h_6) (fun _ (h_8 : Mem) => KC h_8))) else (some (0, h_2))) : Res) = some (0, c) ∧ (bd (F_X8_number lo hi m) (fun r_2 (h_3 : Mem) => nm (wr h_3 58 i r_2) (fun (h_6 : Mem) => KM h_6)) : Res) = KM m' ∧ m' 56 8 = c 2 3 ∧ (0 ≤ m' 56 8 ∧ m' 56 8 ≤ 400) ∧ fM i i m m') := by
  by_cases z : c 2 2 = 2 ∧ lo ≤ c 2 4 ∧ c 2 4 ≤ hi
  · left
    have T1 : TokR t N (wr c one j (c 2 4)) m q e := T.fr (fun r k x => by rw [wr_o (by omega)]) (fun r k x => rfl)
    obtain ⟨c', m', q', e', a1, a2, a3, a4, a5, a6⟩ := T1.adv
    have lt := T.lt (by omega)
    have nu := nu_1 w T z a2
    refine ⟨c', wr m' 58 i (c 2 4), q', e', ?_, ?_, a5.fr (fun _ _ _ => rfl) (fun r k x => by rw [wr_o (by omega)]), by omega, by rw [wr_o (by omega), a4 56 8 (by omega)], ?_, by rw [wr_s]; exact z.2.1, by rw [wr_s]; exact z.2.2, fun r k x y => ?_, fun r k x y => ?_⟩
    · rw [isNum_c, bd_s, if_pos z, if_pos (by omega)]
      refine (nm_of rfl).trans ?_
      refine (bd_of a1).trans ?_
      rfl
    · refine (bd_of nu).trans ?_
      rfl
    · rw [wr_s, a3 one j (by omega), wr_s]
    · rw [a3 r k x, wr_at, if_neg (by omega)]
    · rw [wr_at, if_neg (by omega)]; exact a4 r k (by omega)
  · right
    have nu := nu_0 w T z
    have q0 := T.2.2.2.2.2.2.1
    have q9 := T.2.2.2.2.1
    have q8 := T.2.2.2.2.2.2.2.2.2.2.1
    have q7 := T.2.2.2.2.2.2.2.2.2.2.2.1
    refine ⟨wr (wr m 56 8 (q : Int)) 58 i 0, ?_, ?_, ?_, ?_, fun r k x y => ?_⟩
    · rw [isNum_c, bd_s, if_neg z, if_neg (fun y => y rfl)]
    · refine (bd_of nu).trans ?_
      rfl
    · rw [wr_o (by omega), wr_s, q0]
    · rw [wr_o (by omega), wr_s]; omega
    · rw [wr_at, if_neg (by omega), wr_at, if_neg (by omega)]
theorem nf_f {lo hi i : Int} (w : 0 ≤ m 56 8) (KM : Mem → Res) : (bd (F_X8_number lo hi m) (fun r_2 (h_3 : Mem) => nm (wr h_3 58 i r_2) (fun (h_6 : Mem) => KM h_6)) : Res) = KM (wr m 58 i 0) := by
  rw [nu_f w, bd_s]; rfl
/-- kind, long, strength -/
theorem fig_r (T : TokR t N c m q e) (w : m 56 8 < 0) (ho : 4 ≤ one ∧ one ≤ 25) (ha : 90 ≤ at0 ∧ at0 ≤ 162) (KM : Mem → Res) :
    ∃ v c' m', F_X4_tellFigures one c = some (v, c') ∧ (bd (F_X8_number 0 5 m) (fun r_2 (h_3 : Mem) => nm (wr h_3 58 (at0 + 0) r_2) (fun (h_6 : Mem) => bd (F_X8_number 1 30 h_6) (fun r_7 (h_8 : Mem) => nm (wr h_8 58 (at0 + 1) r_7) (fun (h_11 : Mem) => bd (F_X8_number 0 30 h_11) (fun r_12 (h_13 : Mem) => nm (wr h_13 58 (at0 + 2) r_12) (fun (h_16 : Mem) => KM h_16)))))) : Res) = KM m' ∧ fC one 1 3 c c' ∧ fM at0 (at0 + 2) m m' ∧
      ((v = 1 ∧ m' 56 8 = m 56 8 ∧ (∃ q' e', TokR t N c' m' q' e' ∧ q < q') ∧ (c' one 1 = m' 58 (at0 + 0) ∧ 0 ≤ m' 58 (at0 + 0) ∧ m' 58 (at0 + 0) ≤ 5) ∧ (c' one 2 = m' 58 (at0 + 1) ∧ 1 ≤ m' 58 (at0 + 1) ∧ m' 58 (at0 + 1) ≤ 30) ∧ (c' one 3 = m' 58 (at0 + 2) ∧ 0 ≤ m' 58 (at0 + 2) ∧ m' 58 (at0 + 2) ≤ 30)) ∨ (v = 0 ∧ m' 56 8 = c' 2 3 ∧ (0 ≤ m' 56 8 ∧ m' 56 8 ≤ 400))) := by
  unfold F_X4_tellFigures
  rcases nf_r (one := one) (lo := 0) (hi := 5) (j := 1) (i := at0 + 0) T w ho (by omega) (fun h_8 => bd (F_X4_isNumber 1 30 h_8) (fun r_10 (h_11 : Mem) => if (¬ r_10 = 0) then (nm (wr h_11 one 2 (h_11 2 4)) (fun (h_15 : Mem) => bd (F_X4_advance  h_15) (fun _ (h_17 : Mem) => bd (F_X4_isNumber 0 30 h_17) (fun r_19 (h_20 : Mem) => if (¬ r_19 = 0) then (nm (wr h_20 one 3 (h_20 2 4)) (fun (h_24 : Mem) => bd (F_X4_advance  h_24) (fun _ (h_26 : Mem) => some (1, h_26)))) else (some (0, h_20)))))) else (some (0, h_11)))) (fun h_6 => bd (F_X8_number 1 30 h_6) (fun r_7 (h_8 : Mem) => nm (wr h_8 58 (at0 + 1) r_7) (fun (h_11 : Mem) => bd (F_X8_number 0 30 h_11) (fun r_12 (h_13 : Mem) => nm (wr h_13 58 (at0 + 2) r_12) (fun (h_16 : Mem) => KM h_16))))) with ⟨c1, m1, q1, e1, x1, x2, T1, lq1, w1, f1, f2, f3, fc1, fm1⟩ | ⟨m1, x1, x2, w1, w1', fm1⟩
  · rcases nf_r (one := one) (lo := 1) (hi := 30) (j := 2) (i := at0 + 1) T1 (by omega) ho (by omega) (fun h_17 => bd (F_X4_isNumber 0 30 h_17) (fun r_19 (h_20 : Mem) => if (¬ r_19 = 0) then (nm (wr h_20 one 3 (h_20 2 4)) (fun (h_24 : Mem) => bd (F_X4_advance  h_24) (fun _ (h_26 : Mem) => some (1, h_26)))) else (some (0, h_20)))) (fun h_11 => bd (F_X8_number 0 30 h_11) (fun r_12 (h_13 : Mem) => nm (wr h_13 58 (at0 + 2) r_12) (fun (h_16 : Mem) => KM h_16))) with ⟨c2, m2, q2, e2, y1, y2, T2, lq2, w2, g1, g2, g3, fc2, fm2⟩ | ⟨m2, y1, y2, w2, w2', fm2⟩
    · rcases nf_r (one := one) (lo := 0) (hi := 30) (j := 3) (i := at0 + 2) T2 (by omega) ho (by omega) (fun h_26 => some (1, h_26)) KM with ⟨c3, m3, q3, e3, z1, z2, T3, lq3, w3, k1, k2, k3, fc3, fm3⟩ | ⟨m3, z1, z2, w3, w3', fm3⟩
      · refine ⟨1, c3, m3, (x1.trans y1).trans z1, (x2.trans y2).trans z2, (fc1.trans fc2 (l := 1) (h := 2) (by omega) (by omega)).trans fc3 (by omega) (by omega), (fm1.trans fm2 (l := at0) (h := at0 + 1) (by omega) (by omega)).trans fm3 (by omega) (by omega), Or.inl ⟨rfl, by omega, ⟨q3, e3, T3, by omega⟩, ?_, ?_, k1, k2, k3⟩⟩
        · rw [fc3 one 1 (by omega) (by omega), fc2 one 1 (by omega) (by omega), fm3 58 (at0 + 0) (by omega) (by omega), fm2 58 (at0 + 0) (by omega) (by omega)]; exact ⟨f1, f2, f3⟩
        · rw [fc3 one 2 (by omega) (by omega), fm3 58 (at0 + 1) (by omega) (by omega)]; exact ⟨g1, g2, g3⟩
      · exact ⟨0, c2, m3, (x1.trans y1).trans z1, (x2.trans y2).trans z2, fc1.trans fc2 (by omega) (by omega), (fm1.trans fm2 (l := at0) (h := at0 + 1) (by omega) (by omega)).trans fm3 (by omega) (by omega), Or.inr ⟨rfl, w3, w3'⟩⟩
    · have z2 := nf_f (lo := 0) (hi := 30) (i := at0 + 2) w2'.1 KM
      refine ⟨0, c1, wr m2 58 (at0 + 2) 0, x1.trans y1, (x2.trans y2).trans z2, fc1.trans fC.refl (lo' := 1) (hi' := 1) (by omega) (by omega), ?_, Or.inr ⟨rfl, by rw [wr_o (by omega)]; exact w2, by rw [wr_o (by omega)]; exact w2'⟩⟩
      exact (fm1.trans fm2 (l := at0) (h := at0 + 1) (by omega) (by omega)).trans (show fM (at0 + 2) (at0 + 2) m2 (wr m2 58 (at0 + 2) 0) from fun r k x y => by rw [wr_at, if_neg (by omega)]) (by omega) (by omega)
  · have y2 := nf_f (lo := 1) (hi := 30) (i := at0 + 1) w1'.1 (fun h_11 => bd (F_X8_number 0 30 h_11) (fun r_12 (h_13 : Mem) => nm (wr h_13 58 (at0 + 2) r_12) (fun (h_16 : Mem) => KM h_16)))
    have z2 := nf_f (m := wr m1 58 (at0 + 1) 0) (lo := 0) (hi := 30) (i := at0 + 2) (by rw [wr_o (by omega)]; exact w1'.1) KM
    refine ⟨0, c, wr (wr m1 58 (at0 + 1) 0) 58 (at0 + 2) 0, x1, (x2.trans y2).trans z2, fC.refl, ?_, Or.inr ⟨rfl, by rw [wr_o (by omega), wr_o (by omega)]; exact w1, by rw [wr_o (by omega), wr_o (by omega)]; exact w1'⟩⟩
    exact fm1.trans (show fM (at0 + 1) (at0 + 2) m1 (wr (wr m1 58 (at0 + 1) 0) 58 (at0 + 2) 0) from fun r k x y => by rw [wr_at, if_neg (by omega), wr_at, if_neg (by omega)]) (by omega) (by omega)
/-- front, or set and strike -/
theorem stage_r (T : TokR t N c m q e) (w : m 56 8 < 0) (ho : 4 ≤ one ∧ one ≤ 25) (ha : 90 ≤ at0 ∧ at0 ≤ 162) (z4 : c one 4 = 0 ∧ m 58 (at0 + 3) = 0) (z5 : c one 5 = 0 ∧ m 58 (at0 + 4) = 0) (z6 : c one 6 = 0 ∧ m 58 (at0 + 5) = 0) (KM : Mem → Res) :
    ∃ v c' m', F_X4_tellStage one c = some (v, c') ∧ (jn (fun (K_29 : Mem → Res) => bd (F_X8_isWord 1 m) (fun r_30 (h_31 : Mem) => if (¬ r_30 = 0) then (nm (wr h_31 58 (at0 + 3) 1) (fun (h_35 : Mem) => bd (F_X8_advances  h_35) (fun _ (h_37 : Mem) => K_29 h_37))) else (jn (fun (K_39 : Mem → Res) => bd (F_X8_isWord 2 h_31) (fun r_40 (h_41 : Mem) => if (¬ r_40 = 0) then (bd (F_X8_advances  h_41) (fun _ (h_46 : Mem) => bd (F_X8_number 0 9 h_46) (fun r_48 (h_49 : Mem) => nm (wr h_49 58 (at0 + 4) r_48) (fun (h_51 : Mem) => bd (F_X8_number 0 9 h_51) (fun r_52 (h_53 : Mem) => nm (wr h_53 58 (at0 + 5) r_52) (fun (h_55 : Mem) => K_39 h_55)))))) else (K_39 h_41))) (fun  (h_56 : Mem) => K_29 h_56)))) KM : Res) = KM m' ∧ fC one 4 6 c c' ∧ fM (at0 + 3) (at0 + 5) m m' ∧
      ((v = 1 ∧ m' 56 8 = m 56 8 ∧ (∃ q' e', TokR t N c' m' q' e' ∧ q ≤ q') ∧ (c' one 4 = m' 58 (at0 + 3) ∧ (m' 58 (at0 + 3) = 0 ∨ m' 58 (at0 + 3) = 1)) ∧ (c' one 5 = m' 58 (at0 + 4) ∧ 0 ≤ m' 58 (at0 + 4) ∧ m' 58 (at0 + 4) ≤ 9) ∧ (c' one 6 = m' 58 (at0 + 5) ∧ 0 ≤ m' 58 (at0 + 5) ∧ m' 58 (at0 + 5) ≤ 9)) ∨ (v = 0 ∧ m' 56 8 = c' 2 3 ∧ (0 ≤ m' 56 8 ∧ m' 56 8 ≤ 400))) := by
  unfold F_X4_tellStage
  simp only [jn]
  rw [iw_e w T (by omega)]
  simp only [bd_s]
  by_cases d1 : c 2 2 = 5
  · rw [if_pos d1, if_pos (show c 2 2 = 4 + 1 by omega), if_pos (show ¬ (1 : Int) = 0 by omega)]
    have T1 : TokR t N (wr c one 4 1) (wr m 58 (at0 + 3) 1) q e := T.fr (fun r k x => by rw [wr_o (by omega)]) (fun r k x => by rw [wr_o (by omega)])
    obtain ⟨c', m', q', e', a1, a2, a3, a4, a5, a6⟩ := T1.adv
    have lt := T.lt (by omega)
    refine ⟨1, c', m', ?_, ?_, fun r k x y => by rw [a3 r k x, wr_at, if_neg (by omega)], fun r k x y => by rw [a4 r k (by omega), wr_at, if_neg (by omega)], Or.inl ⟨rfl, by rw [a4 56 8 (by omega), wr_o (by omega)], ⟨q', e', a5, by omega⟩, ?_, ?_, ?_⟩⟩
    · refine (nm_of rfl).trans ?_
      refine (bd_of a1).trans ?_
      rfl
    · refine (nm_of rfl).trans ?_
      refine (bd_of a2).trans ?_
      rfl
    · rw [a3 one 4 (by omega), wr_s, a4 58 (at0 + 3) (by omega), wr_s]; exact ⟨rfl, Or.inr rfl⟩
    · rw [a3 one 5 (by omega), wr_k (by omega), a4 58 (at0 + 4) (by omega), wr_k (by omega)]; omega
    · rw [a3 one 6 (by omega), wr_k (by omega), a4 58 (at0 + 5) (by omega), wr_k (by omega)]; omega
  · rw [if_neg d1, if_neg (show ¬ c 2 2 = 4 + 1 by omega), if_neg (show ¬ ¬ (0 : Int) = 0 from fun y => y rfl), iw_e w T (by omega), bd_s]
    by_cases d2 : c 2 2 = 6
    · rw [if_neg (fun y => y d2), if_pos (show c 2 2 = 4 + 2 by omega), if_pos (show ¬ (1 : Int) = 0 by omega)]
      obtain ⟨c0, m0, q0, e0, a1, a2, a3, a4, a5, a6⟩ := T.adv
      have lt := T.lt (by omega)
      have f0 : fC one 4 6 c c0 := fun r k x _ => a3 r k x
      have g0 : fM (at0 + 3) (at0 + 5) m m0 := fun r k x _ => a4 r k (by omega)
      have w0 : m0 56 8 = m 56 8 := a4 56 8 (by omega)
      rw [a1, a2, bd_s, bd_s]
      rcases nf_r (one := one) (lo := 0) (hi := 9) (j := 5) (i := at0 + 4) a5 (by omega) ho (by omega) (fun h_15 => bd (F_X4_isNumber 0 9 h_15) (fun r_17 (h_18 : Mem) => if (¬ r_17 = 0) then (nm (wr h_18 one 6 (h_18 2 4)) (fun (h_22 : Mem) => bd (F_X4_advance  h_22) (fun _ (h_24 : Mem) => some (1, h_24)))) else (some (0, h_18)))) (fun h_51 => bd (F_X8_number 0 9 h_51) (fun r_52 (h_53 : Mem) => nm (wr h_53 58 (at0 + 5) r_52) (fun (h_55 : Mem) => KM h_55))) with ⟨c2, m2, q2, e2, y1, y2, T2, lq2, w2, g1, g2, g3, fc2, fm2⟩ | ⟨m2, y1, y2, w2, w2', fm2⟩
      · rcases nf_r (one := one) (lo := 0) (hi := 9) (j := 6) (i := at0 + 5) T2 (by omega) ho (by omega) (fun h_26 => some (1, h_26)) KM with ⟨c3, m3, q3, e3, z1, z2, T3, lq3, w3, k1, k2, k3, fc3, fm3⟩ | ⟨m3, z1, z2, w3, w3', fm3⟩
        · refine ⟨1, c3, m3, y1.trans z1, y2.trans z2, (f0.trans fc2 (l := 4) (h := 6) (by omega) (by omega)).trans fc3 (by omega) (by omega), (g0.trans fm2 (l := at0 + 3) (h := at0 + 5) (by omega) (by omega)).trans fm3 (by omega) (by omega), Or.inl ⟨rfl, by omega, ⟨q3, e3, T3, by omega⟩, ?_, ?_, k1, k2, k3⟩⟩
          · rw [fc3 one 4 (by omega) (by omega), fc2 one 4 (by omega) (by omega), a3 one 4 (by omega), fm3 58 (at0 + 3) (by omega) (by omega), fm2 58 (at0 + 3) (by omega) (by omega), a4 58 (at0 + 3) (by omega)]; omega
          · rw [fc3 one 5 (by omega) (by omega), fm3 58 (at0 + 4) (by omega) (by omega)]; exact ⟨g1, g2, g3⟩
        · exact ⟨0, c2, m3, y1.trans z1, y2.trans z2, f0.trans fc2 (by omega) (by omega), (g0.trans fm2 (l := at0 + 3) (h := at0 + 5) (by omega) (by omega)).trans fm3 (by omega) (by omega), Or.inr ⟨rfl, w3, w3'⟩⟩
      · have z2 := nf_f (lo := 0) (hi := 9) (i := at0 + 5) w2'.1 KM
        refine ⟨0, c0, wr m2 58 (at0 + 5) 0, y1, y2.trans z2, f0, ?_, Or.inr ⟨rfl, by rw [wr_o (by omega)]; exact w2, by rw [wr_o (by omega)]; exact w2'⟩⟩
        exact (g0.trans fm2 (l := at0 + 3) (h := at0 + 5) (by omega) (by omega)).trans (show fM (at0 + 5) (at0 + 5) m2 (wr m2 58 (at0 + 5) 0) from fun r k x y => by rw [wr_at, if_neg (by omega)]) (by omega) (by omega)
    · rw [if_pos d2, if_neg (show ¬ c 2 2 = 4 + 2 by omega), if_neg (show ¬ ¬ (0 : Int) = 0 from fun y => y rfl)]
      exact ⟨1, c, m, rfl, rfl, fC.refl, fM.refl, Or.inl ⟨rfl, rfl, ⟨q, e, T, Nat.le_refl _⟩, by omega, by omega, by omega⟩⟩
/-- sad or loud -/
theorem tone_r (T : TokR t N c m q e) (w : m 56 8 < 0) (ho : 4 ≤ one ∧ one ≤ 25) (ha : 90 ≤ at0 ∧ at0 ≤ 162) (z7 : c one 7 = 0 ∧ m 58 (at0 + 6) = 0) (KM : Mem → Res) :
    ∃ c' m', F_X4_tellTone one c = some (0, c') ∧ (jn (fun (K_58 : Mem → Res) => jn (fun (K_59 : Mem → Res) => bd (F_X8_isWord 3 m) (fun r_67 (h_68 : Mem) => if (¬ r_67 = 0) then (K_59 h_68) else (bd (F_X8_isWord 4 h_68) (fun r_72 (h_73 : Mem) => if (¬ r_72 = 0) then (K_59 h_73) else (K_58 h_73))))) (fun (h_60 : Mem) => nm (α := Int) (if ((h_60 56 7) = 3) then 1 else 2) (fun v_61 => nm (wr h_60 58 (at0 + 6) v_61) (fun (h_63 : Mem) => bd (F_X8_advances  h_63) (fun _ (h_65 : Mem) => K_58 h_65))))) KM : Res) = KM m' ∧ fC one 7 7 c c' ∧ fM (at0 + 6) (at0 + 6) m m' ∧ m' 56 8 = m 56 8 ∧ (∃ q' e', TokR t N c' m' q' e' ∧ q ≤ q') ∧ c' one 7 = m' 58 (at0 + 6) ∧ 0 ≤ m' 58 (at0 + 6) ∧ m' 58 (at0 + 6) ≤ 2 := by
  unfold F_X4_tellTone
  simp only [jn]
  rw [iw_e w T (by omega)]
  simp only [bd_s]
  have k := T.k
  unfold TKd at k
  have go : ∀ v : Int, (v = 1 ∨ v = 2) → ∃ c' m', (nm (wr c one 7 v) (fun (h_3 : Mem) => bd (F_X4_advance  h_3) (fun _ (h_5 : Mem) => some (0, h_5))) : Res) = some (0, c') ∧ (nm (wr m 58 (at0 + 6) v) (fun (h_63 : Mem) => bd (F_X8_advances  h_63) (fun _ (h_65 : Mem) => KM h_65)) : Res) = KM m' ∧ fC one 7 7 c c' ∧ fM (at0 + 6) (at0 + 6) m m' ∧ m' 56 8 = m 56 8 ∧ (∃ q' e', TokR t N c' m' q' e' ∧ q ≤ q') ∧ c' one 7 = m' 58 (at0 + 6) ∧ 0 ≤ m' 58 (at0 + 6) ∧ m' 58 (at0 + 6) ≤ 2 := by
    intro v hv
    have T1 : TokR t N (wr c one 7 v) (wr m 58 (at0 + 6) v) q e := T.fr (fun r k x => by rw [wr_o (by omega)]) (fun r k x => by rw [wr_o (by omega)])
    obtain ⟨c', m', q', e', a1, a2, a3, a4, a5, a6⟩ := T1.adv
    have qe := T.2.2.2.2.2.2.2.2.2.2.1
    refine ⟨c', m', (nm_of rfl).trans ((bd_of a1).trans rfl), (nm_of rfl).trans ((bd_of a2).trans rfl), fun r k x y => by rw [a3 r k x, wr_at, if_neg (by omega)], fun r k x y => by rw [a4 r k (by omega), wr_at, if_neg (by omega)], by rw [a4 56 8 (by omega), wr_o (by omega)], ⟨q', e', a5, by omega⟩, ?_⟩
    rw [a3 one 7 (by omega), wr_s, a4 58 (at0 + 6) (by omega), wr_s]
    exact ⟨rfl, by omega, by omega⟩
  by_cases d7 : c 2 2 = 7
  · rw [if_pos (Or.inl d7), if_pos (show c 2 2 = 4 + 3 by omega), if_pos (show ¬ (1 : Int) = 0 by omega), if_pos d7, if_pos (show m 56 7 = 3 by omega)]
    exact go 1 (Or.inl rfl)
  · rw [if_neg (show ¬ c 2 2 = 4 + 3 by omega), if_neg (show ¬ ¬ (0 : Int) = 0 from fun y => y rfl), iw_e w T (by omega), bd_s]
    by_cases d8 : c 2 2 = 8
    · rw [if_pos (Or.inr d8), if_pos (show c 2 2 = 4 + 4 by omega), if_pos (show ¬ (1 : Int) = 0 by omega), if_neg d7, if_neg (show ¬ m 56 7 = 3 by omega)]
      exact go 2 (Or.inr rfl)
    · rw [if_neg (show ¬ (c 2 2 = 7 ∨ c 2 2 = 8) by omega), if_neg (show ¬ c 2 2 = 4 + 4 by omega), if_neg (show ¬ ¬ (0 : Int) = 0 from fun y => y rfl)]
      exact ⟨c, m, rfl, rfl, fC.refl, fM.refl, rfl, ⟨q, e, T, Nat.le_refl _⟩, by omega, by omega, by omega⟩
/-- a train -/
theorem train_r (T : TokR t N c m q e) (w : m 56 8 < 0) (ho : 4 ≤ one ∧ one ≤ 25) (ha : 90 ≤ at0 ∧ at0 ≤ 162) (z8 : c one 8 = 0 ∧ m 58 (at0 + 7) = 0) (KM : Mem → Res) :
    ∃ v c' m', F_X4_tellTrain one c = some (v, c') ∧ (jn (fun (K_78 : Mem → Res) => bd (F_X8_isWord 5 m) (fun r_79 (h_80 : Mem) => if (¬ r_79 = 0) then (bd (F_X8_advances  h_80) (fun _ (h_85 : Mem) => bd (F_X8_number 1 250 h_85) (fun r_87 (h_88 : Mem) => nm (wr h_88 58 (at0 + 7) r_87) (fun (h_90 : Mem) => K_78 h_90)))) else (K_78 h_80))) KM : Res) = KM m' ∧ fC one 8 8 c c' ∧ fM (at0 + 7) (at0 + 7) m m' ∧
      ((v = 1 ∧ m' 56 8 = m 56 8 ∧ (∃ q' e', TokR t N c' m' q' e' ∧ q ≤ q') ∧ c' one 8 = m' 58 (at0 + 7) ∧ 0 ≤ m' 58 (at0 + 7) ∧ m' 58 (at0 + 7) ≤ 250) ∨ (v = 0 ∧ m' 56 8 = c' 2 3 ∧ (0 ≤ m' 56 8 ∧ m' 56 8 ≤ 400))) := by
  unfold F_X4_tellTrain
  simp only [jn]
  rw [iw_e w T (by omega)]
  simp only [bd_s]
  by_cases d2 : c 2 2 = 9
  · rw [if_neg (fun y => y d2), if_pos (show c 2 2 = 4 + 5 by omega), if_pos (show ¬ (1 : Int) = 0 by omega)]
    obtain ⟨c0, m0, q0, e0, a1, a2, a3, a4, a5, a6⟩ := T.adv
    have lt := T.lt (by omega)
    have f0 : fC one 8 8 c c0 := fun r k x _ => a3 r k x
    have g0 : fM (at0 + 7) (at0 + 7) m m0 := fun r k x _ => a4 r k (by omega)
    have w0 : m0 56 8 = m 56 8 := a4 56 8 (by omega)
    rw [a1, a2, bd_s, bd_s]
    rcases nf_r (one := one) (lo := 1) (hi := 250) (j := 8) (i := at0 + 7) a5 (by omega) ho (by omega) (fun h_26 => some (1, h_26)) KM with ⟨c3, m3, q3, e3, z1, z2, T3, lq3, w3, k1, k2, k3, fc3, fm3⟩ | ⟨m3, z1, z2, w3, w3', fm3⟩
    · exact ⟨1, c3, m3, z1, z2, f0.trans fc3 (by omega) (by omega), g0.trans fm3 (by omega) (by omega), Or.inl ⟨rfl, by omega, ⟨q3, e3, T3, by omega⟩, k1, by omega, k3⟩⟩
    · exact ⟨0, c0, m3, z1, z2, f0, g0.trans fm3 (by omega) (by omega), Or.inr ⟨rfl, w3, w3'⟩⟩
  · rw [if_pos d2, if_neg (show ¬ c 2 2 = 4 + 5 by omega), if_neg (show ¬ ¬ (0 : Int) = 0 from fun y => y rfl)]
    exact ⟨1, c, m, rfl, rfl, fC.refl, fM.refl, Or.inl ⟨rfl, rfl, ⟨q, e, T, Nat.le_refl _⟩, by omega, by omega, by omega⟩⟩
end Stg
