/-! hold agrees -/
def fgs (o : Int) (l : List Int) : Int := l.foldl (fun v x => 10 * v + x) o
theorem pw10 : ∀ e : Nat, e < 10 → (10 : Int) ^ e ≤ 1000000000 := by decide
section HOrd
variable {F M : Int → Int} {S : List Int} {g : Mem} {what : Int}
theorem hold5 {z o : Int} {y : Int} {T : List Int} (hO : hOk F M S) (H : hMem F M S g) (z0 : 0 ≤ z) (zn : z < 2 ^ S.length) (hb : ∀ y, 0 ≤ y → y < 2 ^ S.length → g 75 y = Wz F M S y) (hy : hSrt F M (remL S z) = y :: T) (Kx : Int → Mem → Res) :
    ∃ p, p < S.length ∧ bt z p = false ∧ S.getD p 0 = y ∧ hSrt F M (remL S (ior z (ishl 1 (p : Int)))) = T ∧ L_X8_hold_5 what (2 ^ S.length - 1) o z (tmz M S z) Kx FU 0 g = Kx p g := by
  have h9 := hO.2.1
  have p9 := pw9 S.length (by omega)
  have tb := tm_b (z := z) hO
  have wb := Wz_b (z := z) hO
  obtain ⟨p, hp, hbp, e⟩ := rem_m.mp (hSrt_m.mp (show y ∈ hSrt F M (remL S z) by rw [hy]; exact List.mem_cons_self))
  obtain ⟨_, y', T', e', s1, _⟩ := W_step (F := F) hO hp hbp
  rw [hy] at e'
  have ce := List.cons.inj e'
  have s1 := s1 (by rw [e]; exact ce.1)
  refine ⟨p, hp, hbp, e, by rw [s1.2]; exact ce.2.symm, ?_⟩
  have key : ∀ (d q f : Nat), q + d = p → d < f → L_X8_hold_5 what (2 ^ S.length - 1) o z (tmz M S z) Kx f q g = Kx p g := by
    intro d
    induction d with
    | zero =>
      intro q f hq hf
      obtain ⟨f, rfl⟩ : ∃ g, f = g + 1 := ⟨f - 1, by omega⟩
      have qp : q = p := by omega
      subst qp
      have mx := getD_mem (l := S) (p := q) hp
      have a := H.2.2 _ mx
      have b := hO.2.2.2 _ mx
      have ar := H.1.at hp
      have ib := ior_b (k := q) z0 zn (by omega) hp
      have wb' := Wz_b (z := ior z (ishl 1 (q : Int))) hO
      have pb := mul_b b.1.1 b.1.2 (show 0 ≤ tmz M S z + M (S.getD q 0) by omega) (show tmz M S z + M (S.getD q 0) ≤ 300 by omega)
      rw [L_X8_hold_5]
      refine jn_of.trans ?_
      rw [bt_bit (by omega), hbp, if_neg (by decide)]
      refine (gd_of (by omega)).trans ?_
      refine (gd_of (by omega)).trans ?_
      rw [ar]
      refine (gd_of (by omega)).trans ?_
      refine (bd_of (of_e (by omega) (by omega) (by omega) (by omega))).trans ?_
      refine (gd_of (by omega)).trans ?_
      rw [a.2.1, a.2.2, hb _ ib.1 ib.2, hb z z0 zn, w32_s (z := tmz M S z + M (S.getD q 0)) (by omega) (by omega)]
      have s1 := s1.1
      generalize F (S.getD q 0) * (tmz M S z + M (S.getD q 0)) = u at *
      generalize Wz F M S (ior z (ishl 1 (q : Int))) = w at *
      rw [w32_s (z := u) (by omega) (by omega), w32_s (z := w + u) (by omega) (by omega), if_neg (by omega)]
    | succ d ih =>
      intro q f hq hf
      obtain ⟨f, rfl⟩ : ∃ g, f = g + 1 := ⟨f - 1, by omega⟩
      have nx := ih (q + 1) f (by omega) (by omega)
      rw [L_X8_hold_5]
      refine jn_of.trans ?_
      rw [bt_bit (by omega)]
      cases c : bt z q with
      | true =>
        rw [if_pos (by decide)]
        refine (nm_of (w32_n (by omega))).trans ?_
        exact nx
      | false =>
        have mx := getD_mem (l := S) (p := q) (by omega)
        have a := H.2.2 _ mx
        have b := hO.2.2.2 _ mx
        have ar := H.1.at (show q < S.length by omega)
        have ib := ior_b (k := q) z0 zn (by omega) (by omega)
        have wb' := Wz_b (z := ior z (ishl 1 (q : Int))) hO
        have pb := mul_b b.1.1 b.1.2 (show 0 ≤ tmz M S z + M (S.getD q 0) by omega) (show tmz M S z + M (S.getD q 0) ≤ 300 by omega)
        obtain ⟨_, y2, T2, e2, _, s2⟩ := W_step (F := F) hO (show q < S.length by omega) c
        rw [hy] at e2
        have s2 := s2 (by rw [← (List.cons.inj e2).1, ← e]; exact getD_lt hO.1 (by omega) hp)
        rw [if_neg (by decide)]
        refine (gd_of (by omega)).trans ?_
        refine (gd_of (by omega)).trans ?_
        rw [ar]
        refine (gd_of (by omega)).trans ?_
        refine (bd_of (of_e (by omega) (by omega) (by omega) (by omega))).trans ?_
        refine (gd_of (by omega)).trans ?_
        rw [a.2.1, a.2.2, hb _ ib.1 ib.2, hb z z0 zn, w32_s (z := tmz M S z + M (S.getD q 0)) (by omega) (by omega)]
        generalize F (S.getD q 0) * (tmz M S z + M (S.getD q 0)) = u at *
        generalize Wz F M S (ior z (ishl 1 (q : Int))) = w at *
        rw [w32_s (z := u) (by omega) (by omega), w32_s (z := w + u) (by omega) (by omega), if_pos (by omega)]
        refine (nm_of (w32_n (by omega))).trans ?_
        exact nx
  exact key p 0 FU (by omega) (by unfold FU; omega)
theorem hold4 (hO : hOk F M S) (H : hMem F M S g) (hb : ∀ y, 0 ≤ y → y < 2 ^ S.length → g 75 y = Wz F M S y) (Kx : Int → Int → Int → Mem → Res) :
    ∀ (L : List Int) (z o : Int) (e f : Nat), hSrt F M (remL S z) = L → 0 ≤ z → z < 2 ^ S.length → 0 ≤ o → o < 10 ^ e → e + L.length ≤ 9 → L.length < f →
      ∃ s t, L_X8_hold_4 what (2 ^ S.length - 1) Kx f o z (tmz M S z) g = Kx (fgs o L) s t g
  | [], z, o, e, f, hL, z0, zn, o0, oe, he, hf => by
    obtain ⟨f, rfl⟩ : ∃ g, f = g + 1 := ⟨f - 1, by omega⟩
    have h9 := hO.2.1
    have za : z = 2 ^ S.length - 1 := (all_iff (show S.length < 10 by omega) z0 zn).mpr (fun p hp => by
      cases c : bt z p with
      | true => rfl
      | false =>
        have := hSrt_m (F := F) (M := M).mpr (rem_m.mpr ⟨p, hp, c, rfl⟩)
        rw [hL] at this
        exact absurd this List.not_mem_nil)
    refine ⟨z, tmz M S z, ?_⟩
    rw [L_X8_hold_4, if_neg (fun k => k za)]; rfl
  | y :: T, z, o, e, f, hL, z0, zn, o0, oe, he, hf => by
    obtain ⟨f, rfl⟩ : ∃ g, f = g + 1 := ⟨f - 1, by omega⟩
    have h9 := hO.2.1
    have p9 := pw9 S.length (by omega)
    obtain ⟨p, hp, hbp, ey, eT, e5⟩ := hold5 (what := what) (o := o) hO H z0 zn hb hL (fun p_83 (h_82 : Mem) => gd (0 ≤ p_83 ∧ p_83 < 10) (nm (w32 ((w32 (10 * o)) + (h_82 64 p_83))) (fun order_85 => bd (F_X8_of (h_82 64 p_83) 1 h_82) (fun r_86 (h_87 : Mem) => nm (w32 ((tmz M S z) + r_86)) (fun time_89 => nm (ior z (ishl 1 p_83)) (fun set_90 => L_X8_hold_4 what (2 ^ S.length - 1) Kx f order_85 set_90 time_89 h_87))))))
    simp only [List.length_cons] at he hf
    have tb := tm_b (z := z) hO
    have mx := getD_mem (l := S) (p := p) hp
    have a := H.2.2 _ mx
    have b := hO.2.2.2 _ mx
    have ar := H.1.at hp
    have ib := ior_b (k := p) z0 zn (by omega) hp
    have q10 := pw10 e (by omega)
    have q11 := pw10 (e + 1) (by omega)
    have es : (10 : Int) ^ (e + 1) = 10 ^ e * 10 := Int.pow_succ 10 e
    have za : ¬ z = 2 ^ S.length - 1 := fun k => by
      have := (all_iff (show S.length < 10 by omega) z0 zn).mp k p hp
      rw [hbp] at this; exact absurd this (by decide)
    obtain ⟨s, t, e4⟩ := hold4 hO H hb Kx T (ior z (ishl 1 (p : Int))) (10 * o + y) (e + 1) f eT ib.1 ib.2 (by rw [← ey]; omega) (by rw [es, ← ey]; omega) (by omega) (by omega)
    refine ⟨s, t, ?_⟩
    rw [L_X8_hold_4, if_pos za]
    refine e5.trans ?_
    refine (gd_of (by omega)).trans ?_
    rw [ar]
    refine (nm_of (e' := 10 * o + y) (by rw [w32_s (z := 10 * o) (by omega) (by omega), ey, w32_s (by rw [← ey]; omega) (by rw [← ey]; omega)])).trans ?_
    refine (bd_of (of_e (by omega) (by omega) (by omega) (by omega))).trans ?_
    rw [a.2.2]
    refine (nm_of (e' := tmz M S (ior z (ishl 1 (p : Int)))) (by rw [tm_ins h9 hp hbp, w32_s (by omega) (by omega)])).trans ?_
    refine (nm_of rfl).trans ?_
    exact e4
end HOrd
def hMn (h : Mem) : Int → Int := fun x => if 0 < h 58 (9 * x + 1) then h 58 (9 * x + 1) else 1
theorem hMn_e {h : Mem} (hR : RR h) {x : Int} (m : 0 ≤ x ∧ x < h 56 10) : hMn h x = h 58 (9 * x + 1) ∧ (1 ≤ h 58 (9 * x + 1) ∧ h 58 (9 * x + 1) ≤ 30) ∧ 0 ≤ h 60 x ∧ h 60 x ≤ 99 := by
  have w := hR.2.2.2.2.2.2.2.1.2.1.2.2 x m.1 m.2
  have w2 := w.1.2.1
  refine ⟨?_, w2, w.2⟩
  unfold hMn
  rw [if_pos (by omega)]
theorem hOk_on {h : Mem} {n : Nat} (hR : RR h) (hn : h 61 0 = (n : Int)) : hOk (h 60) (hMn h) (onL h) := by
  obtain ⟨n', e0, e9, _⟩ := n_B hR
  refine ⟨linL_p _ _ _, by rw [on_len hR e0]; exact e9, fun x => ?_, fun x hx => ?_⟩
  · unfold hMn; split <;> omega
  · have q := hMn_e hR (row_b hR ((on_m hR).mp hx))
    rw [q.1]; exact ⟨q.2.2, q.2.1⟩
theorem sortF_e {h : Mem} {l : List Int} (hR : RR h) (hA : Ar h 55 l) (hl : ∀ x ∈ l, 0 ≤ x ∧ x < h 56 10) (hn : h 61 0 = (l.length : Int)) (h1n : 0 < l.length) :
    ∃ h1, F_X7_sortByFamilies h = some (0, h1) ∧ Fr (onr 55) h h1 ∧ Ar h1 55 (isort (hlb (h 60) (hMn h)) [] l) := by
  have w9 := wac_n hR
  have hcc := (c_B hR).2
  obtain ⟨n', e0, e9, e26, _⟩ := n_B hR
  have nn : n' = l.length := by omega
  subst nn
  cases l with
  | nil => exact absurd h1n (by simp)
  | cons x rest =>
    simp only [List.length_cons] at e9 e26
    obtain ⟨h1, e1, r1⟩ := isort_gen (h0 := h) (r := 55) (lt := hlb (h 60) (hMn h)) (Q := fun x => 0 ≤ x ∧ x < h 56 10) (N := rest.length + 1) (O := L_X7_sortByFamilies_1 (fun p_20 (h_19 : Mem) => some (0, h_19))) (L := fun k K => L_X7_sortByFamilies_2 k K) (Kx := fun p_20 (h_19 : Mem) => some (0, h_19)) (fun k K f q g hF hQ hq => by
        show L_X7_sortByFamilies_2 k K (f + 1) q g = _
        rw [L_X7_sortByFamilies_2]
        refine jn_of.trans ?_
        by_cases c : 0 < q
        · rw [if_pos (by omega), w32_s (z := (q : Int) - 1) (by omega) (by omega), gd_t (by omega), gd_t (by omega)]
          have q1 := hQ q hq
          have q2 := hQ (q - 1) (by omega)
          rw [show ((q - 1 : Nat) : Int) = (q : Int) - 1 by omega] at q2
          have c1 : g 1 1 = h 1 1 := hF 1 1 (by unfold onr; omega)
          have we : F_X7_holdsLess (g 55 q) (g 55 ((q : Int) - 1)) g = some (if hlb (h 60) (hMn h) (g 55 q) (g 55 ((q : Int) - 1)) = true then 1 else 0, g) := by
            unfold F_X7_holdsLess
            refine (nm_of c1).trans ?_
            refine (gd_of (c_B hR).1).trans ?_
            refine (gd_of (by omega)).trans ?_
            refine (nm_of rfl).trans ?_
            refine (nm_of c1).trans ?_
            refine (gd_of (c_B hR).1).trans ?_
            refine (gd_of (by omega)).trans ?_
            refine (nm_of rfl).trans ?_
            have s1 := hR.2.2.1.2 _ q1.1 q1.2
            have s2 := hR.2.2.1.2 _ q2.1 q2.2
            have t1 := hMn_e hR q1
            have t2 := hMn_e hR q2
            rw [hF (h 1 1 + 2 + g 55 q) 9 (by unfold onr; omega), hF (h 1 1 + 2 + g 55 ((q : Int) - 1)) 9 (by unfold onr; omega), hF (h 1 1 + 2 + g 55 q) 2 (by unfold onr; omega), hF (h 1 1 + 2 + g 55 ((q : Int) - 1)) 2 (by unfold onr; omega), s1.2, s2.2, s1.1.2.1, s2.1.2.1]
            unfold hlb
            rw [t1.1, t2.1]
            have m1 := mul_b t1.2.2.1 t1.2.2.2 (show 0 ≤ h 58 (9 * g 55 ((q : Int) - 1) + 1) by omega) t2.2.1.2
            have m2 := mul_b t2.2.2.1 t2.2.2.2 (show 0 ≤ h 58 (9 * g 55 q + 1) by omega) t1.2.1.2
            generalize h 60 (g 55 q) * h 58 (9 * g 55 ((q : Int) - 1) + 1) = u1 at *
            generalize h 60 (g 55 ((q : Int) - 1)) * h 58 (9 * g 55 q + 1) = u2 at *
            rw [w32_s (z := u1) (by omega) (by omega), w32_s (z := u2) (by omega) (by omega)]
            by_cases d : u1 < u2
            · rw [if_pos d, if_pos (decide_eq_true d)]
            · rw [if_neg d, if_neg (fun z => d (of_decide_eq_true z))]
          refine (bd_of we).trans ?_
          by_cases d : hlb (h 60) (hMn h) (g 55 q) (g 55 ((q : Int) - 1)) = true
          · rw [if_pos d, if_pos (by omega), if_pos ⟨c, d⟩]
            refine (bd_of (swapA_e (by omega))).trans ?_
            refine (nm_of (e' := (q : Int) - 1) (w32_s (by omega) (by omega))).trans ?_
            rfl
          · rw [if_neg d, if_neg (by omega), if_neg (fun z => d z.2)]
        · rw [if_neg (by omega), if_neg (fun z => c z.1)])
      (fun f k g hF hk => by
        rw [L_X7_sortByFamilies_1, hF 26 1 (by unfold onr; omega), e26, if_pos (by omega)]
        exact congrArg (fun K => L_X7_sortByFamilies_2 k K FU k g) (funext fun q' => funext fun h' => nm_of (w32_n (by omega))))
      (fun f g hF => by
        rw [L_X7_sortByFamilies_1, hF 26 1 (by unfold onr; omega), e26, if_neg (by omega)]) (by omega) rest [x] h FU Fr.rfl hA hl (by simp) (by unfold FU; omega)
    exact ⟨h1, e1, r1⟩
theorem chold {h : Mem} {what : Int} {H : List Int} (hR : RR h) (hA : Ar h 55 H) (hn : h 61 0 = (H.length : Int)) (hl : ∀ x ∈ H, 0 ≤ x ∧ x < h 56 10) (Kx : Int → Int → Int → Int → Mem → Res) :
    ∀ (B A : List Int) (t v o : Int) (e f : Nat), A ++ B = H → 0 ≤ t → t ≤ 30 * A.length → 0 ≤ v → v ≤ 30000 * A.length → 0 ≤ o → o < 10 ^ e → e + B.length ≤ 9 → B.length < f →
      ∃ t', L_X7_hold_1 what Kx f t v o A.length h = Kx t' (v + hval (h 60) (hMn h) t B) (fgs o B) H.length h
  | [], A, t, v, o, e, f, hAB, t0, t1, v0, v1, o0, o1, he, hf => by
    obtain ⟨f, rfl⟩ : ∃ g, f = g + 1 := ⟨f - 1, by omega⟩
    obtain ⟨n', e0, e9, e26, _⟩ := n_B hR
    rw [List.append_nil] at hAB
    subst hAB
    refine ⟨t, ?_⟩
    rw [L_X7_hold_1, e26, if_neg (by omega), hval, Int.add_zero]; rfl
  | x :: B, A, t, v, o, e, f, hAB, t0, t1, v0, v1, o0, o1, he, hf => by
    obtain ⟨f, rfl⟩ : ∃ g, f = g + 1 := ⟨f - 1, by omega⟩
    obtain ⟨n', e0, e9, e26, _⟩ := n_B hR
    have w9 := wac_n hR
    have hlen : A.length + (B.length + 1) = H.length := by rw [← hAB]; simp
    simp only [List.length_cons] at he hf
    have xm : x ∈ H := by rw [← hAB]; exact List.mem_append.mpr (Or.inr List.mem_cons_self)
    have q := hl x xm
    have ar : h 55 A.length = x := hA A.length x (by rw [← hAB, List.getElem?_append_right (Nat.le_refl _), Nat.sub_self]; rfl)
    have s := hR.2.2.1.2 x q.1 q.2
    have m := hMn_e hR q
    have nb := (aq_L hR q).2.1
    have q10 := pw10 e (by omega)
    have q11 := pw10 (e + 1) (by omega)
    have es : (10 : Int) ^ (e + 1) = 10 ^ e * 10 := Int.pow_succ 10 e
    have mb := mul_b m.2.2.1 m.2.2.2 (show 0 ≤ t + h 58 (9 * x + 1) by omega) (show t + h 58 (9 * x + 1) ≤ 300 by omega)
    obtain ⟨t', e4⟩ := chold (what := what) hR hA hn hl Kx B (A ++ [x]) (t + h 58 (9 * x + 1)) (v + h 60 x * (t + h 58 (9 * x + 1))) (10 * o + x) (e + 1) f (by rw [← hAB]; simp) (by omega) (by simp only [List.length_append, List.length_cons, List.length_nil]; omega) (by omega) (by simp only [List.length_append, List.length_cons, List.length_nil]; omega) (by omega) (by rw [es]; omega) (by omega) (by omega)
    have al : ((A ++ [x]).length : Int) = ((A.length + 1 : Nat) : Int) := by simp
    rw [al] at e4
    refine ⟨t', ?_⟩
    rw [L_X7_hold_1, e26, if_pos (by omega)]
    refine (nm_of rfl).trans ?_
    refine (gd_of (c_B hR).1).trans ?_
    refine (gd_of (by omega)).trans ?_
    rw [ar]
    refine (gd_of (by omega)).trans ?_
    refine (nm_of rfl).trans ?_
    rw [s.1.2.1, s.2, nb]
    refine (nm_of (w32_s (by omega) (by omega))).trans ?_
    have hv : hval (h 60) (hMn h) t (x :: B) = h 60 x * (t + h 58 (9 * x + 1)) + hval (h 60) (hMn h) (t + h 58 (9 * x + 1)) B := by rw [hval, m.1]
    rw [hv]
    generalize h 60 x * (t + h 58 (9 * x + 1)) = u at *
    refine (nm_of (e' := v + u) (by rw [w32_s (z := u) (by omega) (by omega), w32_s (by omega) (by omega)])).trans ?_
    refine (nm_of (e' := 10 * o + x) (by rw [w32_s (z := o * 10) (by omega) (by omega), w32_s (by omega) (by omega)]; omega)).trans ?_
    refine (nm_of (w32_n (by omega))).trans ?_
    rw [e4, Int.add_assoc]; rfl
theorem op_hold (what : Int) : OP (F_X7_hold what) (F_X8_hold what) := by
  intro h hR
  obtain ⟨n, e0, e9, e26, eb⟩ := n_B hR
  have w9 := wac_n hR
  by_cases v : 0 ≤ what ∧ what ≤ 1
  · by_cases z : n = 0
    · refine ⟨-2, h, wr h 56 0 0, ?_, ?_, hR.g0 Fr.rfl⟩
      · unfold F_X7_hold
        rw [if_neg (by omega), if_pos (by omega)]
      · unfold F_X8_hold
        refine (nm_of rfl).trans ?_
        refine (bd_of (in_t v.1 v.2)).trans ?_
        rw [if_pos (by omega), if_pos (by rw [wr_o (by omega)]; omega)]
    · have hO := hOk_on hR e0
      have ol := on_len hR e0
      -- the class
      obtain ⟨h1, e1, F1, A1⟩ := lineUp_e (w := -9) hR
      have R1 : RR h1 := hR.fr (F1.mono (fun _ _ => onr_r (Or.inl rfl)))
      have m1 : h1 56 10 = h 56 10 := F1 56 10 (by unfold onr; omega)
      have n1 : h1 61 0 = ((onL h).length : Int) := by rw [F1 61 0 (by unfold onr; omega), ol]; exact e0
      obtain ⟨h2, e2, F2, A2⟩ := sortF_e R1 A1 (fun x hx => by rw [m1]; exact row_b hR ((on_m hR).mp hx)) n1 (by show 0 < (onL h).length; omega)
      have x60 : h1 60 = h 60 := funext (fun k => F1 60 k (by unfold onr; omega))
      have xM : hMn h1 = hMn h := by funext x; unfold hMn; rw [F1 58 (9 * x + 1) (by unfold onr; omega)]
      rw [x60, xM] at A2
      have A2 : Ar h2 55 (hSrt (h 60) (hMn h) (onL h)) := A2
      have F12 : Fr (onr 55) h h2 := F1.trans F2
      have R2 : RR h2 := hR.fr (F12.mono (fun _ _ => onr_r (Or.inl rfl)))
      have y60 : h2 60 = h 60 := funext (fun k => F12 60 k (by unfold onr; omega))
      have yM : hMn h2 = hMn h := by funext x; unfold hMn; rw [F12 58 (9 * x + 1) (by unfold onr; omega)]
      have m2 : h2 56 10 = h 56 10 := F12 56 10 (by unfold onr; omega)
      obtain ⟨t', e3⟩ := chold (what := what) R2 A2 (by rw [F12 61 0 (by unfold onr; omega), hSrt_l, ol]; exact e0) (fun x hx => by rw [m2]; exact row_b hR ((on_m hR).mp (hSrt_m.mp hx))) (fun clock_23 held_24 order_25 p_26 (h_22 : Mem) => if (what = 0) then (some (held_24, h_22)) else (some (order_25, h_22))) (hSrt (h 60) (hMn h) (onL h)) [] 0 0 0 0 FU rfl (by omega) (by simp) (by omega) (by simp) (by omega) (by decide) (by rw [hSrt_l, ol]; omega) (by rw [hSrt_l, ol]; unfold FU; omega)
      rw [y60, yM, Int.zero_add] at e3
      -- the reference
      have G : Fr rsc h (wr h2 56 0 0) := (F12.mono (fun _ _ => onr_r (Or.inl rfl))).trans (fun r k hr => by rw [wr_at, if_neg (fun z => hr (by unfold rsc; omega))])
      have Rg : RR (wr h2 56 0 0) := hR.fr G
      have g61 : (wr h2 56 0 0) 61 = h 61 := funext (fun k => G 61 k (by unfold rsc; omega))
      have g10 : (wr h2 56 0 0) 56 10 = h 56 10 := G 56 10 (by unfold rsc; omega)
      obtain ⟨a1, a2, f1, f2, Fa, Fb, Aa, n18, n19⟩ := msort Rg (n := n) (by rw [g61]; exact e0)
      rw [on_fr g61 g10] at Aa
      have G2 : Fr rsc h a2 := (G.trans (Fa.mono (fun _ _ => asc_r))).trans (Fb.mono (fun _ _ => onr_r (Or.inr rfl)))
      have HM : hMem (h 60) (hMn h) (onL h) a2 := ⟨Aa, by rw [ol]; exact n18, fun x hx => by
        have rb := row_b hR ((on_m hR).mp hx)
        refine ⟨by omega, G2 60 x (by unfold rsc; omega), ?_⟩
        rw [G2 58 _ (by unfold rsc; omega), (hMn_e hR rb).1]⟩
      obtain ⟨a3, f3, Fc, W3⟩ := hold1 (what := what) hO HM (fun set_63 (h_62 : Mem) => if (what = 0) then (some (h_62 75 0, h_62)) else (L_X8_hold_4 what (2 ^ (onL h).length - 1) (fun order_93 set_94 time_95 (h_92 : Mem) => some (order_93, h_92)) FU 0 0 0 h_62))
      have pp : (0 : Int) < 2 ^ (onL h).length := Int.pow_pos (by omega)
      have r0 : remL (onL h) 0 = onL h := srt_uniq (R := fun a b => a < b) (fun a => by omega) (fun a b c _ _ => by omega) _ _ (rem_p hO.1 0) hO.1 (fun y => by
        rw [rem_m]
        constructor
        · rintro ⟨p, hp, _, e⟩
          rw [← e]; exact getD_mem hp
        · intro hy
          obtain ⟨p, hp⟩ := List.getElem?_of_mem hy
          obtain ⟨hp1, _⟩ := List.getElem?_eq_some_iff.mp hp
          exact ⟨p, hp1, bt_0 p, by rw [List.getD_eq_getElem?_getD, hp]; rfl⟩)
      have t0 : tmz (hMn h) (onL h) 0 = 0 := by
        unfold tmz
        have : ∀ i, kS (bt 0) (fun p => hMn h ((onL h).getD p 0)) i = 0 := by
          intro i
          induction i with
          | zero => rfl
          | succ i ih => rw [kS, ih, bt_0]; rfl
        exact this _
      have G3 : Fr rsc h a3 := G2.trans (Fc.mono (fun r k q => by unfold onr at q; unfold rsc; omega))
      have w0 : Wz (h 60) (hMn h) (onL h) 0 = hval (h 60) (hMn h) 0 (hSrt (h 60) (hMn h) (onL h)) := by unfold Wz; rw [t0, r0]
      refine ⟨if what = 0 then hval (h 60) (hMn h) 0 (hSrt (h 60) (hMn h) (onL h)) else fgs 0 (hSrt (h 60) (hMn h) (onL h)), h2, a3, ?_, ?_, hR.fr G3⟩
      · unfold F_X7_hold
        rw [if_neg (by omega), if_neg (by omega)]
        refine (bd_of e1).trans ?_
        refine (bd_of e2).trans ?_
        refine e3.trans ?_
        split <;> rfl
      · unfold F_X8_hold
        refine (nm_of rfl).trans ?_
        refine (bd_of (in_t v.1 v.2)).trans ?_
        rw [if_pos (by omega), if_neg (by rw [g61]; omega)]
        refine (bd_of f1).trans ?_
        refine (bd_of f2).trans ?_
        rw [n18]
        refine (nm_of (e' := 2 ^ (onL h).length - 1) (by rw [ol]; exact all_e n (by omega))).trans ?_
        refine f3.trans ?_
        by_cases c : what = 0
        · rw [if_pos c, if_pos c, W3 0 (by omega) pp, w0]
        · rw [if_neg c, if_neg c]
          obtain ⟨s, t, f4⟩ := hold4 (what := what) hO (HM.fr Fc) W3 (fun order_93 set_94 time_95 (h_92 : Mem) => some (order_93, h_92)) (hSrt (h 60) (hMn h) (onL h)) 0 0 0 FU (by rw [r0]) (by omega) pp (by omega) (by decide) (by rw [hSrt_l, ol]; omega) (by rw [hSrt_l, ol]; unfold FU; omega)
          rw [t0] at f4
          exact f4
  · refine ⟨-1, h, wr h 56 0 0, ?_, ?_, hR.g0 Fr.rfl⟩
    · unfold F_X7_hold
      rw [if_pos (by omega)]
    · unfold F_X8_hold
      refine (nm_of rfl).trans ?_
      refine (bd_of (in_f (by omega))).trans ?_
      rw [if_neg (by omega)]
