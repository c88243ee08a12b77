/-! the parser, both sides in step -/
def TokR (t : Int → Int) (N : Nat) (c m : Mem) (q e : Nat) : Prop :=
  c 2 1 = (N : Int) ∧ c 3 = t ∧ m 56 3 = (N : Int) ∧ (∀ k : Nat, k < N → m 57 (k : Int) = t (k : Int)) ∧ N ≤ 400 ∧ (∀ k : Nat, k < N → 0 ≤ t (k : Int) ∧ t (k : Int) < 256) ∧ c 2 3 = (q : Int) ∧ m 56 6 = (q : Int) ∧ c 2 5 = (e : Int) ∧ m 56 4 = (e : Int) ∧ q ≤ e ∧ e ≤ N ∧ TKd t N q e (c 2 2) (c 2 4) (m 56 5) (m 56 7)
section Par
variable {t : Int → Int} {N : Nat} {c c' m m' : Mem} {q e : Nat}
theorem TokR.fr (T : TokR t N c m q e) (hc : ∀ r k : Int, (r = 2 ∧ 1 ≤ k ∧ k ≤ 5) ∨ r = 3 → c' r k = c r k) (hm : ∀ r k : Int, (r = 56 ∧ 3 ≤ k ∧ k ≤ 7) ∨ r = 57 → m' r k = m r k) : TokR t N c' m' q e := by
  obtain ⟨a1, a2, a3, a4, a5, a6, a7, a8, a9, a10, a11, a12, a13⟩ := T
  refine ⟨by rw [hc 2 1 (by omega)]; exact a1, by rw [← a2]; funext k; exact hc 3 k (by omega), by rw [hm 56 3 (by omega)]; exact a3, fun k hk => by rw [hm 57 k (by omega)]; exact a4 k hk, a5, a6, by rw [hc 2 3 (by omega)]; exact a7, by rw [hm 56 6 (by omega)]; exact a8, by rw [hc 2 5 (by omega)]; exact a9, by rw [hm 56 4 (by omega)]; exact a10, a11, a12, ?_⟩
  rw [hc 2 2 (by omega), hc 2 4 (by omega), hm 56 5 (by omega), hm 56 7 (by omega)]; exact a13
theorem adv_r {a : Nat} (c1 : c 2 1 = (N : Int)) (c3 : c 3 = t) (m3 : m 56 3 = (N : Int)) (m57 : ∀ k : Nat, k < N → m 57 (k : Int) = t (k : Int)) (h4 : N ≤ 400) (tb : ∀ k : Nat, k < N → 0 ≤ t (k : Int) ∧ t (k : Int) < 256) (c5 : c 2 5 = (a : Int)) (m4 : m 56 4 = (a : Int)) (ha : a ≤ N) :
    ∃ c' m' q' e', F_X4_advance c = some (0, c') ∧ F_X8_advances m = some (0, m') ∧ ft c c' ∧ fm m m' ∧ TokR t N c' m' q' e' ∧ a ≤ q' := by
  obtain ⟨c', e1, f1, g1, k3, k5, tc⟩ := cadv c1 h4 c3 c5 ha
  obtain ⟨m', e2, f2, g2, l6, l4, tm⟩ := madv m3 h4 m57 tb m4 ha
  have rb := run_b (P := isB) (t := t) (N - a) a
  have rl := tk_rel tc tm
  have ee := rl.1
  subst ee
  have qe : run isB t (N - a) a ≤ e1 ∧ e1 ≤ N := by
    rcases rl.2 with x | x
    · omega
    · omega
  exact ⟨c', m', run isB t (N - a) a, e1, f1, f2, g1, g2, ⟨by rw [g1 2 1 (by omega)]; exact c1, by rw [← c3]; funext k; exact g1 3 k (by omega), by rw [g2 56 3 (by omega)]; exact m3, fun k hk => by rw [g2 57 k (by omega)]; exact m57 k hk, h4, tb, k3, l6, k5, l4, qe.1, qe.2, rl.2⟩, rb.1⟩
theorem TokR.adv (T : TokR t N c m q e) : ∃ c' m' q' e', F_X4_advance c = some (0, c') ∧ F_X8_advances m = some (0, m') ∧ ft c c' ∧ fm m m' ∧ TokR t N c' m' q' e' ∧ e ≤ q' :=
  adv_r T.1 T.2.1 T.2.2.1 T.2.2.2.1 T.2.2.2.2.1 T.2.2.2.2.2.1 T.2.2.2.2.2.2.2.2.1 T.2.2.2.2.2.2.2.2.2.1 T.2.2.2.2.2.2.2.2.2.2.2.1
theorem TokR.k (T : TokR t N c m q e) : TKd t N q e (c 2 2) (c 2 4) (m 56 5) (m 56 7) := T.2.2.2.2.2.2.2.2.2.2.2.2
theorem TokR.lt (T : TokR t N c m q e) (h : ¬ c 2 2 = 0) : q < e ∧ q < N := by
  rcases T.k with x | x
  · exact absurd x.2.2.1 h
  · exact ⟨x.2.1, x.1⟩
theorem isNum_c {lo hi : Int} : F_X4_isNumber lo hi c = some (if c 2 2 = 2 ∧ lo ≤ c 2 4 ∧ c 2 4 ≤ hi then 1 else 0, c) := by
  unfold F_X4_isNumber
  by_cases z : ((c 2 2 = 2) ∧ (lo ≤ c 2 4)) ∧ (c 2 4 ≤ hi)
  · rw [if_pos z, if_pos ⟨z.1.1, z.1.2, z.2⟩]
  · rw [if_neg z, if_neg (fun y => z ⟨⟨y.1, y.2.1⟩, y.2.2⟩)]
theorem well_e (h : m 56 8 < 0) : F_X8_isWell m = some (1, m) := if_pos h
theorem ill_e (h : 0 ≤ m 56 8) : F_X8_isWell m = some (0, m) := if_neg (by omega)
theorem tk_1 {v : Int} (h : m 56 8 < 0) (hv : ¬ v = 0) (ha : F_X8_advances m = some (0, m')) : F_X8_takes v m = some (m 56 7, m') := by
  unfold F_X8_takes
  rw [well_e h, bd_s, if_pos (by omega), if_neg (fun z => z hv)]
  refine (nm_of rfl).trans ?_
  rw [ha, bd_s]
theorem tk_0 (h : m 56 8 < 0) : F_X8_takes 0 m = some (0, wr m 56 8 (m 56 6)) := by
  unfold F_X8_takes
  rw [well_e h, bd_s, if_pos (by omega), if_pos (fun z => z rfl)]; rfl
theorem tk_f {v : Int} (h : 0 ≤ m 56 8) : F_X8_takes v m = some (0, m) := by
  unfold F_X8_takes
  rw [ill_e h, bd_s, if_neg (fun z => z rfl)]
theorem nu_f {lo hi : Int} (h : 0 ≤ m 56 8) : F_X8_number lo hi m = some (0, m) := by
  unfold F_X8_number
  simp only [jn]
  rw [in_e, bd_s, tk_f h, tk_f h, bd_s]
  split
  · split <;> rfl
  · rfl
theorem iw_f {w : Int} (h : 0 ≤ m 56 8) : F_X8_isWord w m = some (0, m) := by
  unfold F_X8_isWord
  simp only [jn]
  rw [ill_e h, bd_s, if_neg (fun z => z rfl)]
theorem iw_e {w : Int} (h : m 56 8 < 0) (T : TokR t N c m q e) (hw : 0 ≤ w ∧ w ≤ 6) : F_X8_isWord w m = some (if c 2 2 = 4 + w then 1 else 0, m) := by
  unfold F_X8_isWord
  simp only [jn]
  rw [well_e h, bd_s, if_pos (by omega)]
  have k := T.k
  unfold TKd at k
  by_cases z : c 2 2 = 4 + w
  · rw [if_pos z, if_pos (by omega), if_pos (by omega)]
  · rw [if_neg z]
    by_cases y : m 56 5 = 1
    · rw [if_pos y, if_neg (by omega)]
    · rw [if_neg y]
theorem nu_0 {lo hi : Int} (h : m 56 8 < 0) (T : TokR t N c m q e) (hn : ¬ (c 2 2 = 2 ∧ lo ≤ c 2 4 ∧ c 2 4 ≤ hi)) : F_X8_number lo hi m = some (0, wr m 56 8 (q : Int)) := by
  have k := T.k
  unfold TKd at k
  unfold F_X8_number
  simp only [jn]
  rw [in_e, bd_s, tk_0 h, bd_s, T.2.2.2.2.2.2.2.1]
  by_cases z : m 56 5 = 2
  · rw [if_pos z, if_neg (show ¬ (lo ≤ m 56 7 ∧ m 56 7 ≤ hi) by omega), if_neg (fun z => z rfl)]
  · rw [if_neg z]
theorem nu_1 {lo hi : Int} (h : m 56 8 < 0) (T : TokR t N c m q e) (hn : c 2 2 = 2 ∧ lo ≤ c 2 4 ∧ c 2 4 ≤ hi) (ha : F_X8_advances m = some (0, m')) : F_X8_number lo hi m = some (c 2 4, m') := by
  have k := T.k
  unfold TKd at k
  unfold F_X8_number
  simp only [jn]
  rw [in_e, bd_s, tk_1 h (by omega) ha, bd_s, if_pos (show m 56 5 = 2 by omega), if_pos (show lo ≤ m 56 7 ∧ m 56 7 ≤ hi by omega), if_pos (by omega), show m 56 7 = c 2 4 by omega]
end Par
