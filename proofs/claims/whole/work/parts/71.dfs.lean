/-! the class's search: all orders, place by place -/
def qA (A : Int → Int) (P : List Int) : Nat → Int → Int := fun p k => A (9 * P.getD p 0 + k)
def RA (c : Int) (P : List Int) : Nat → Int := fun j => c + 2 + P.getD j 0
theorem getD_app {P R : List Int} {j : Nat} (h : j < P.length) : (P ++ R).getD j 0 = P.getD j 0 := by
  rw [List.getD_eq_getElem?_getD, List.getD_eq_getElem?_getD, List.getElem?_append_left h]
theorem getD_last {P R : List Int} {x : Int} : (P ++ x :: R).getD P.length 0 = x := by
  rw [List.getD_eq_getElem?_getD, List.getElem?_append_right (Nat.le_refl _), Nat.sub_self]; rfl
theorem qA_app {A : Int → Int} {P R : List Int} : E9 (qA A P) (qA A (P ++ R)) P.length := fun j hj k _ _ => by unfold qA; rw [getD_app hj]
section CongS
variable {h : Mem} {q q' : Nat → Int → Int} {m m' R R' : Nat → Int} {T : Int → Int} {b : Int} {u : Nat → Int} {j : Nat}
theorem ShP_c (e : E9 q q' (j + 1)) (r : R j = R' j) (H : ShP h q R T b j) : ShP h q' R' T b j := by
  unfold ShP sSt at H ⊢
  rw [← r, ← gp_c e, ← en_c (j + 1) e, ← lf_c (j + 1) e, ← en_c j (e.mono (by omega))]; exact H
theorem ShA_c (e : E9 q q' (j + 1)) (H : ShA h q T b u j) : ShA h q' T b u j := by
  unfold ShA sCp sHt at H ⊢
  rw [← hs_c (j + 1) e, ← hs_c j (e.mono (by omega)), ← ha_c e, ← cl_c e]; exact H
theorem fi_c (e : E9 q q' (j + 1)) (em : ∀ i, i < j → m i = m' i) : sFi q m T b j ↔ sFi q' m' T b j := by
  unfold sFi
  rw [gp_c e, e j (by omega) 0 (by omega) (by omega), e (j - 1) (by omega) 0 (by omega) (by omega), e j (by omega) 8 (by omega) (by omega), e j (by omega) 7 (by omega) (by omega), en_c (j + 1) e]
  by_cases c : 0 < j
  · rw [em (j - 1) (by omega)]
  · have z : j = 0 := by omega
    subst z
    simp only [Nat.lt_irrefl, false_and]
end CongS
/-- away from home -/
def awF (hm : Nat → Int) : Nat → List Int → Int
  | _, [] => 0
  | p, x :: l => (if hm p = -9 ∨ hm p = x then 0 else 1) + awF hm (p + 1) l
theorem awF_app {hm : Nat → Int} {x : Int} : ∀ (P : List Int) (p : Nat), awF hm p (P ++ [x]) = awF hm p P + if hm (p + P.length) = -9 ∨ hm (p + P.length) = x then 0 else 1
  | [], p => by simp only [List.nil_append, awF, List.length_nil, Nat.add_zero]; omega
  | y :: P, p => by
    have ih := awF_app (hm := hm) (x := x) P (p + 1)
    rw [List.cons_append, awF, awF, ih, List.length_cons, show p + 1 + P.length = p + (P.length + 1) by omega]; omega
theorem awF_b {hm : Nat → Int} : ∀ (P : List Int) (p : Nat), 0 ≤ awF hm p P ∧ awF hm p P ≤ P.length
  | [], p => by rw [awF]; simp
  | y :: P, p => by
    have ih := awF_b (hm := hm) P (p + 1)
    rw [awF, List.length_cons]
    split <;> omega
abbrev S5 : Type := Int × Int × Int × Int × Int
def btr (s : S5) (a v f : Int) : Prop := a < s.2.1 ∨ (a = s.2.1 ∧ (s.2.2.1 < v ∨ (v = s.2.2.1 ∧ f < s.2.2.2.1)))
def wgh (s : S5) (a v f b : Int) : S5 := if s.1 = 0 ∨ a < s.2.1 ∨ (a = s.2.1 ∧ (s.2.2.1 < v ∨ (v = s.2.2.1 ∧ f < s.2.2.2.1))) then (s.1 + 1, a, v, f, b) else (s.1 + 1, s.2)
def Gs (A T : Int → Int) (hm : Nat → Int) (b : Int) (s : S5) (l : List Int) : S5 := if bFl A T l b = 0 then wgh s (awF hm 0 l) (bVa A T l b) (fgs 0 l) b else s
def St (o : Int) (h : Mem) : S5 := (h o 3, h o 4, h o 5, h o 6, h o 7)
theorem weigh_e {h : Mem} {o a v f b : Int} (ho : o = 45 ∨ o = 48) (ht : F_X6_total h = some (v, h)) (hb : h 33 12 = b) (h0 : 0 ≤ h o 3) (h1 : h o 3 ≤ 100000000) :
    ∃ h2, F_X5_weigh o a f h = some (0, h2) ∧ St o h2 = wgh (St o h) a v f b ∧ ∀ r k : Int, ¬ (r = o ∧ 3 ≤ k ∧ k ≤ 7) → h2 r k = h r k := by
  have up : ∀ h3 : Mem, h3 o 3 = h o 3 → (∀ r k : Int, ¬ (r = o ∧ 3 ≤ k ∧ k ≤ 7) → h3 r k = h r k) → (nm (wr h3 o 3 (w32 ((h3 o 3) + 1))) (fun (h_18 : Mem) => some (0, h_18)) : Res) = some (0, wr h3 o 3 (h o 3 + 1)) ∧ (∀ r k : Int, ¬ (r = o ∧ 3 ≤ k ∧ k ≤ 7) → (wr h3 o 3 (h o 3 + 1)) r k = h r k) := fun h3 e q => by
    refine ⟨?_, fun r k z => by rw [wr_at, if_neg (by omega)]; exact q r k z⟩
    rw [e, w32_s (by omega) (by omega)]; rfl
  have set4 : ∀ K : Mem → Res, (nm (wr h o 4 a) (fun (h_7 : Mem) => nm (wr h_7 o 5 v) (fun (h_8 : Mem) => nm (wr h_8 o 6 f) (fun (h_9 : Mem) => nm (wr h_9 o 7 (h_9 33 12)) (fun (h_10 : Mem) => K h_10)))) : Res) = K (wr (wr (wr (wr h o 4 a) o 5 v) o 6 f) o 7 b) := fun K => by
    refine (nm_of rfl).trans ?_
    refine (nm_of rfl).trans ?_
    refine (nm_of rfl).trans ?_
    rw [wr_o (by omega), wr_o (by omega), wr_o (by omega), hb]; rfl
  have u1 := up (wr (wr (wr (wr h o 4 a) o 5 v) o 6 f) o 7 b) (by rw [wr_k (by omega), wr_k (by omega), wr_k (by omega), wr_k (by omega)]) (fun r k z => by rw [wr_at, if_neg (by omega), wr_at, if_neg (by omega), wr_at, if_neg (by omega), wr_at, if_neg (by omega)])
  have s1 : St o (wr (wr (wr (wr (wr h o 4 a) o 5 v) o 6 f) o 7 b) o 3 (h o 3 + 1)) = (h o 3 + 1, a, v, f, b) := by
    unfold St
    rw [wr_s, wr_k (by omega), wr_k (by omega), wr_k (by omega), wr_k (by omega), wr_s, wr_k (by omega), wr_k (by omega), wr_k (by omega), wr_s, wr_k (by omega), wr_k (by omega), wr_s, wr_k (by omega), wr_s]
  have u2 := up h rfl (fun _ _ _ => rfl)
  have s2 : St o (wr h o 3 (h o 3 + 1)) = (h o 3 + 1, (St o h).2) := by
    unfold St
    rw [wr_s, wr_k (by omega), wr_k (by omega), wr_k (by omega), wr_k (by omega)]
  have yes : (h o 3 = 0 ∨ a < h o 4 ∨ (a = h o 4 ∧ (h o 5 < v ∨ (v = h o 5 ∧ f < h o 6)))) → wgh (St o h) a v f b = (h o 3 + 1, a, v, f, b) := fun q => by unfold wgh St; exact if_pos q
  have no : ¬ (h o 3 = 0 ∨ a < h o 4 ∨ (a = h o 4 ∧ (h o 5 < v ∨ (v = h o 5 ∧ f < h o 6)))) → wgh (St o h) a v f b = (h o 3 + 1, (St o h).2) := fun q => by unfold wgh St; exact if_neg q
  unfold F_X5_weigh
  rw [ht, bd_s]
  simp only [jn]
  rw [set4]
  by_cases c0 : h o 3 = 0
  · rw [if_pos c0]
    exact ⟨_, u1.1, by rw [s1, yes (Or.inl c0)], u1.2⟩
  · rw [if_neg c0]
    have ib : F_X5_isBetter o a v f h = some (if a < h o 4 ∨ (a = h o 4 ∧ (h o 5 < v ∨ (v = h o 5 ∧ f < h o 6))) then 1 else 0, h) := by
      unfold F_X5_isBetter
      by_cases c1 : a = h o 4
      · rw [if_neg (fun z => z c1)]
        by_cases c2 : v = h o 5
        · rw [if_neg (fun z => z c2)]
          by_cases c3 : f < h o 6
          · rw [if_pos c3, if_pos (by omega)]
          · rw [if_neg c3, if_neg (by omega)]
        · rw [if_pos c2]
          by_cases c3 : h o 5 < v
          · rw [if_pos c3, if_pos (by omega)]
          · rw [if_neg c3, if_neg (by omega)]
      · rw [if_pos c1]
        by_cases c3 : a < h o 4
        · rw [if_pos c3, if_pos (by omega)]
        · rw [if_neg c3, if_neg (by omega)]
    rw [ib, bd_s]
    by_cases c1 : a < h o 4 ∨ (a = h o 4 ∧ (h o 5 < v ∨ (v = h o 5 ∧ f < h o 6)))
    · rw [if_pos c1, if_pos (by omega), set4]
      exact ⟨_, u1.1, by rw [s1, yes (Or.inr c1)], u1.2⟩
    · rw [if_neg c1, if_neg (by omega)]
      exact ⟨_, u2.1, by rw [s2, no (fun z => z.elim c0 c1)], u2.2⟩
