/-! the reference goes on to the next order -/
theorem ar_sw2 {h : Mem} {r x y : Int} {A B C : List Int} {a b : Nat} (ha : a = A.length) (hb : b = A.length + 1 + B.length) (H : Ar h r (A ++ x :: (B ++ y :: C))) : Ar (wr (wr h r a (h r b)) r b (h r a)) r (A ++ y :: (B ++ x :: C)) := by
  subst ha; subst hb
  have hx : h r (A.length : Int) = x := H _ _ (by rw [List.getElem?_append_right (Nat.le_refl _), Nat.sub_self]; rfl)
  have hy : h r ((A.length + 1 + B.length : Nat) : Int) = y := H _ _ (by
    rw [List.getElem?_append_right (by omega), show A.length + 1 + B.length - A.length = B.length + 1 by omega, List.getElem?_cons_succ, List.getElem?_append_right (Nat.le_refl _), Nat.sub_self]; rfl)
  intro p v hv
  by_cases c : p = A.length + 1 + B.length
  · subst c
    rw [List.getElem?_append_right (by omega), show A.length + 1 + B.length - A.length = B.length + 1 by omega, List.getElem?_cons_succ, List.getElem?_append_right (Nat.le_refl _), Nat.sub_self] at hv
    rw [wr_s, hx]; exact Option.some.inj hv
  · rw [wr_k (by omega)]
    by_cases c2 : p = A.length
    · subst c2
      rw [List.getElem?_append_right (Nat.le_refl _), Nat.sub_self] at hv
      rw [wr_s, hy]; exact Option.some.inj hv
    · rw [wr_k (by omega)]
      refine H p v ?_
      rw [← hv]
      by_cases c3 : p < A.length
      · rw [List.getElem?_append_left c3, List.getElem?_append_left c3]
      · rw [List.getElem?_append_right (by omega), List.getElem?_append_right (by omega)]
        obtain ⟨k, hk⟩ : ∃ k, p - A.length = k + 1 := ⟨p - A.length - 1, by omega⟩
        rw [hk, List.getElem?_cons_succ, List.getElem?_cons_succ]
        by_cases c4 : k < B.length
        · rw [List.getElem?_append_left c4, List.getElem?_append_left c4]
        · rw [List.getElem?_append_right (by omega), List.getElem?_append_right (by omega)]
          obtain ⟨k', hk'⟩ : ∃ k', k - B.length = k' + 1 := ⟨k - B.length - 1, by omega⟩
          rw [hk']; rfl
theorem ex_two {M : List Int} (h : 2 ≤ M.length) : ∃ m M' m', M = m :: (M' ++ [m']) := by
  cases M with
  | nil => simp at h
  | cons m T =>
    have hT : ¬ T = [] := fun z => by rw [z] at h; simp at h
    exact ⟨m, T.dropLast, T.getLast hT, by rw [List.dropLast_concat_getLast]⟩
theorem go3 {at0 wi : Int} (Kx : Int → Int → Mem → Res) : ∀ (k : Nat) (M pre post : List Int) (h : Mem) (f : Nat) (a : Nat), M.length = k → a = pre.length → (pre ++ M ++ post).length ≤ 10 → k < f → Ar h 64 (pre ++ M ++ post) →
    ∃ a' b' h', L_X8_goesOn_3 at0 wi Kx f (a : Int) ((a : Int) + (M.length : Int) - 1) h = Kx a' b' h' ∧ Fr (onr 64) h h' ∧ Ar h' 64 (pre ++ M.reverse ++ post) := by
  intro k
  induction k using Nat.strongRecOn with
  | _ k ih =>
    intro M pre post h f a hk ha hl hf hA
    obtain ⟨f, rfl⟩ : ∃ g, f = g + 1 := ⟨f - 1, by omega⟩
    by_cases c : 2 ≤ M.length
    · obtain ⟨m, M', m', rfl⟩ := ex_two c
      simp only [List.length_append, List.length_cons, List.length_nil] at hl hk c
      have A2 : Ar h 64 (pre ++ m :: (M' ++ m' :: post)) := by simp only [List.append_assoc, List.cons_append, List.nil_append] at hA ⊢; exact hA
      have sw := ar_sw2 (a := a) (b := pre.length + 1 + M'.length) ha rfl A2
      have be : (a : Int) + ((m :: (M' ++ [m'])).length : Int) - 1 = ((pre.length + 1 + M'.length : Nat) : Int) := by simp only [List.length_append, List.length_cons, List.length_nil]; omega
      obtain ⟨a', b', h', e', F', A'⟩ := ih M'.length (by omega) M' (pre ++ [m']) (m :: post) _ f (a + 1) rfl (by simp; omega) (by simp; omega) (by omega) (by simp only [List.append_assoc, List.cons_append, List.nil_append]; exact sw)
      refine ⟨a', b', h', ?_, ?_, ?_⟩
      · rw [be, L_X8_goesOn_3, if_pos (by omega)]
        refine (bd_of (swaps_e (by omega) (by omega))).trans ?_
        refine (nm_of (w32_n (by omega))).trans ?_
        refine (nm_of (e' := ((a + 1 : Nat) : Int) + (M'.length : Int) - 1) (by rw [w32_s (by omega) (by omega)]; omega)).trans ?_
        exact e'
      · intro r q z
        rw [F' r q z, wr_o z, wr_o z]
      · have ee : pre ++ (m :: (M' ++ [m'])).reverse ++ post = pre ++ [m'] ++ M'.reverse ++ m :: post := by simp
        rw [ee]; exact A'
    · refine ⟨a, (a : Int) + (M.length : Int) - 1, h, ?_, Fr.rfl, ?_⟩
      · rw [L_X8_goesOn_3, if_neg (by omega)]
      · have : M.reverse = M := by
          match M, c with
          | [], _ => rfl
          | [m], _ => rfl
          | m :: m' :: M', c => exact absurd (by simp) c
        rw [this]; exact hA
theorem go2 {h : Mem} {pre A B : List Int} {x y : Int} {n : Nat} (Kx : Int → Mem → Res) (hl : n = pre.length + 1 + (B.length + 1 + A.length)) (hn : n ≤ 10) (hA : Ar h 64 (pre ++ x :: (B.reverse ++ y :: A.reverse))) (ha : ∀ a ∈ A, a < x) (hy : x < y) :
    L_X8_goesOn_2 (pre.length : Int) Kx FU ((n : Int) - 1) h = Kx ((pre.length + 1 + B.length : Nat) : Int) h := by
  have hx : h 64 (pre.length : Int) = x := hA _ _ (by rw [List.getElem?_append_right (Nat.le_refl _), Nat.sub_self]; rfl)
  have hyy : h 64 ((pre.length + 1 + B.length : Nat) : Int) = y := hA _ _ (by
    rw [List.getElem?_append_right (by omega), show pre.length + 1 + B.length - pre.length = B.length + 1 by omega, List.getElem?_cons_succ, List.getElem?_append_right (by rw [List.length_reverse]; exact Nat.le_refl _), List.length_reverse, Nat.sub_self]; rfl)
  have key : ∀ (d w f : Nat), w = pre.length + 1 + B.length + d → d ≤ A.length → d < f → L_X8_goesOn_2 (pre.length : Int) Kx f (w : Int) h = Kx ((pre.length + 1 + B.length : Nat) : Int) h := by
    intro d
    induction d with
    | zero =>
      intro w f hw hd hf
      obtain ⟨f, rfl⟩ : ∃ g, f = g + 1 := ⟨f - 1, by omega⟩
      rw [Nat.add_zero] at hw
      subst hw
      rw [L_X8_goesOn_2]
      refine (gd_of (by omega)).trans ?_
      refine (gd_of (by omega)).trans ?_
      rw [hx, hyy, if_neg (by omega)]
    | succ d ih =>
      intro w f hw hd hf
      obtain ⟨f, rfl⟩ : ∃ g, f = g + 1 := ⟨f - 1, by omega⟩
      have el : h 64 (w : Int) < x := by
        have hm : A.reverse[d]? = some (A.reverse[d]'(by rw [List.length_reverse]; omega)) := List.getElem?_eq_getElem _
        have e := hA w (A.reverse[d]'(by rw [List.length_reverse]; omega)) (by
          rw [List.getElem?_append_right (by omega), show w - pre.length = (B.length + (d + 1)) + 1 by omega, List.getElem?_cons_succ, List.getElem?_append_right (by rw [List.length_reverse]; omega), List.length_reverse, show B.length + (d + 1) - B.length = d + 1 by omega, List.getElem?_cons_succ]
          exact hm)
        rw [e]
        exact ha _ (List.mem_reverse.mp (List.getElem_mem _))
      rw [L_X8_goesOn_2]
      refine (gd_of (by omega)).trans ?_
      refine (gd_of (by omega)).trans ?_
      rw [hx, if_pos el]
      refine (nm_of (e' := ((w - 1 : Nat) : Int)) (by rw [w32_s (by omega) (by omega)]; omega)).trans ?_
      exact ih (w - 1) f (by omega) (by omega) (by omega)
  have k := key A.length (n - 1) FU (by omega) (Nat.le_refl _) (by unfold FU; omega)
  rw [show ((n - 1 : Nat) : Int) = (n : Int) - 1 by omega] at k
  exact k
theorem go1 {h : Mem} {l : List Int} (Kx : Int → Mem → Res) (hA : Ar h 64 l) (hl : l.length ≤ 10) (hd : l.Pairwise (fun a b => ¬ a = b)) : ∀ (rp : List Int) (x y : Int) (suf : List Int) (f : Nat), l = rp.reverse ++ x :: y :: suf → (y :: suf).Pairwise (fun a b => b < a) → rp.length + 1 < f →
    (∃ (pre : List Int) (x' y' : Int) (suf' : List Int), l = pre ++ x' :: y' :: suf' ∧ (y' :: suf').Pairwise (fun a b => b < a) ∧ x' < y' ∧ L_X8_goesOn_1 Kx f (rp.length : Int) h = Kx pre.length h) ∨ (l.Pairwise (fun a b => b < a) ∧ L_X8_goesOn_1 Kx f (rp.length : Int) h = Kx (-1) h)
  | rp, x, y, suf, f, he, hp, hf => by
    obtain ⟨f, rfl⟩ : ∃ g, f = g + 1 := ⟨f - 1, by omega⟩
    have len : rp.length + (suf.length + 2) = l.length := by rw [he]; simp
    have hx : h 64 (rp.length : Int) = x := hA _ _ (by rw [he, List.getElem?_append_right (by rw [List.length_reverse]; exact Nat.le_refl _), List.length_reverse, Nat.sub_self]; rfl)
    have hy : h 64 ((rp.length + 1 : Nat) : Int) = y := hA _ _ (by rw [he, List.getElem?_append_right (by rw [List.length_reverse]; omega), List.length_reverse, show rp.length + 1 - rp.length = 1 by omega]; rfl)
    have nxy : ¬ x = y := by
      rw [he] at hd
      exact (List.pairwise_cons.mp (List.pairwise_append.mp hd).2.1).1 y List.mem_cons_self
    have step : L_X8_goesOn_1 Kx (f + 1) (rp.length : Int) h = if y < x then L_X8_goesOn_1 Kx f ((rp.length : Int) - 1) h else Kx rp.length h := by
      rw [L_X8_goesOn_1]
      refine jn_of.trans ?_
      rw [if_pos (by omega), w32_n (by omega), gd_t (by omega), gd_t (by omega), hx, hy]
      by_cases c : y < x
      · rw [if_pos c, if_pos c]
        exact nm_of (w32_s (by omega) (by omega))
      · rw [if_neg c, if_neg c]
    rw [step]
    by_cases c : y < x
    · rw [if_pos c]
      have hp' : (x :: y :: suf).Pairwise (fun a b => b < a) := List.pairwise_cons.mpr ⟨fun b hb => by
        rcases List.mem_cons.mp hb with q | q
        · rw [q]; exact c
        · have := (List.pairwise_cons.mp hp).1 b q; omega, hp⟩
      cases rp with
      | nil =>
        right
        refine ⟨by rw [he]; exact hp', ?_⟩
        obtain ⟨f, rfl⟩ : ∃ g, f = g + 1 := ⟨f - 1, by simp only [List.length_nil] at hf; omega⟩
        show L_X8_goesOn_1 Kx (f + 1) (((([] : List Int).length : Nat) : Int) - 1) h = _
        rw [L_X8_goesOn_1]
        refine jn_of.trans ?_
        rw [if_neg (by simp)]; rfl
      | cons z rp =>
        have q := go1 Kx hA hl hd rp z x (y :: suf) f (by rw [he]; simp) hp' (by simp only [List.length_cons] at hf; omega)
        rw [show (((z :: rp).length : Nat) : Int) - 1 = (rp.length : Int) by simp only [List.length_cons]; omega]
        exact q
    · rw [if_neg c]
      exact Or.inl ⟨rp.reverse, x, y, suf, he, hp, by omega, by rw [List.length_reverse]⟩
  termination_by rp => rp.length
theorem first_gt {x : Int} : ∀ r : List Int, (∃ z ∈ r, x < z) → (∀ z ∈ r, ¬ z = x) → ∃ A y B, r = A ++ y :: B ∧ (∀ a ∈ A, a < x) ∧ x < y
  | [], ⟨z, hz, _⟩, _ => absurd hz List.not_mem_nil
  | a :: r, hz, hn => by
    by_cases c : x < a
    · exact ⟨[], a, r, rfl, fun b hb => absurd hb List.not_mem_nil, c⟩
    · have na := hn a List.mem_cons_self
      obtain ⟨A, y, B, e, h1, h2⟩ := first_gt r (by
        obtain ⟨z, q, l⟩ := hz
        rcases List.mem_cons.mp q with q | q
        · rw [q] at l; exact absurd l c
        · exact ⟨z, q, l⟩) (fun z q => hn z (List.mem_cons_of_mem _ q))
      refine ⟨a :: A, y, B, by rw [e]; rfl, fun b hb => ?_, h2⟩
      rcases List.mem_cons.mp hb with q | q
      · rw [q]; omega
      · exact h1 b q
theorem goesOn_e {h : Mem} {l : List Int} (hA : Ar h 64 l) (hn : h 56 18 = (l.length : Int)) (h1 : 1 ≤ l.length) (h10 : l.length ≤ 10) (hd : l.Pairwise (fun a b => ¬ a = b)) :
    (∃ l' h', np l = some l' ∧ F_X8_goesOn h = some (1, h') ∧ Fr (onr 64) h h' ∧ Ar h' 64 l') ∨ (np l = none ∧ F_X8_goesOn h = some (0, h)) := by
  have en : w32 (h 56 18 - 2) = (l.length : Int) - 2 := by rw [hn, w32_s (by omega) (by omega)]
  by_cases c : l.length = 1
  · obtain ⟨z, rfl⟩ := List.length_eq_one_iff.mp c
    right
    refine ⟨rfl, ?_⟩
    unfold F_X8_goesOn
    rw [en]
    refine (nm_of rfl).trans ?_
    show L_X8_goesOn_1 _ (9999 + 1) _ h = _
    rw [L_X8_goesOn_1]
    refine jn_of.trans ?_
    rw [if_neg (by simp)]
    exact if_pos (by simp)
  · obtain ⟨A0, x0, y0, e0⟩ := list2 (l := l) (by omega)
    have l0 : A0.length + 2 = l.length := by rw [e0]; simp
    have g := go1 (fun at_12 (h_11 : Mem) => if (at_12 < 0) then (some (0, h_11)) else (nm (w32 ((h_11 56 18) - 1)) (fun with_13 => L_X8_goesOn_2 at_12 (fun with_21 (h_20 : Mem) => bd (F_X8_swaps at_12 with_21 h_20) (fun _ (h_23 : Mem) => nm (w32 (at_12 + 1)) (fun a_25 => nm (w32 ((h_23 56 18) - 1)) (fun b_26 => L_X8_goesOn_3 at_12 with_21 (fun a_37 b_38 (h_36 : Mem) => some (1, h_36)) FU a_25 b_26 h_23)))) FU with_13 h_11))) hA h10 hd A0.reverse x0 y0 [] FU (by rw [List.reverse_reverse]; exact e0) (List.pairwise_singleton _ _) (by rw [List.length_reverse]; unfold FU; omega)
    have st : F_X8_goesOn h = L_X8_goesOn_1 (fun at_12 (h_11 : Mem) => if (at_12 < 0) then (some (0, h_11)) else (nm (w32 ((h_11 56 18) - 1)) (fun with_13 => L_X8_goesOn_2 at_12 (fun with_21 (h_20 : Mem) => bd (F_X8_swaps at_12 with_21 h_20) (fun _ (h_23 : Mem) => nm (w32 (at_12 + 1)) (fun a_25 => nm (w32 ((h_23 56 18) - 1)) (fun b_26 => L_X8_goesOn_3 at_12 with_21 (fun a_37 b_38 (h_36 : Mem) => some (1, h_36)) FU a_25 b_26 h_23)))) FU with_13 h_11))) FU (A0.reverse.length : Int) h := by
      unfold F_X8_goesOn
      rw [en]
      refine (nm_of (e' := (A0.reverse.length : Int)) (by rw [List.length_reverse]; omega)).trans ?_
      rfl
    rw [st]
    rcases g with ⟨pre, x, y, suf, e1, p1, xy, g1⟩ | ⟨p1, g1⟩
    · left
      rw [g1, if_neg (by omega)]
      have hd' := hd
      rw [e1] at hd'
      have nx1 := (List.pairwise_cons.mp (List.pairwise_append.mp hd').2.1).1
      obtain ⟨A, y1, B, e2, ha, hy⟩ := first_gt (x := x) (y :: suf).reverse ⟨y, List.mem_reverse.mpr List.mem_cons_self, xy⟩ (fun z hz q => nx1 z (List.mem_reverse.mp hz) q.symm)
      have e3 : y :: suf = B.reverse ++ y1 :: A.reverse := by
        have := congrArg List.reverse e2
        rw [List.reverse_reverse] at this
        rw [this]; simp
      have hl2 : l.length = pre.length + 1 + (B.length + 1 + A.length) := by rw [e1, e3]; simp; omega
      have A1 : Ar h 64 (pre ++ x :: (B.reverse ++ y1 :: A.reverse)) := by rw [← e3, ← e1]; exact hA
      have sw := ar_sw2 (a := pre.length) (b := pre.length + 1 + B.length) rfl (by rw [List.length_reverse]) A1
      have npe : np l = some (pre ++ y1 :: (A ++ x :: B)) := by
        rw [e1]
        refine np_pre ?_ pre
        rw [np_n (np_desc _ p1), e2, nx_at hy A ha]; rfl
      obtain ⟨a', b', h3, g3, F3, A3⟩ := go3 (at0 := (pre.length : Int)) (wi := ((pre.length + 1 + B.length : Nat) : Int)) (fun a_37 b_38 (h_36 : Mem) => some (1, h_36)) (B.reverse ++ x :: A.reverse).length (B.reverse ++ x :: A.reverse) (pre ++ [y1]) [] _ FU (pre.length + 1) rfl (by simp) (by simp; omega) (by simp; unfold FU; omega) (by simp only [List.append_nil, List.append_assoc, List.cons_append, List.nil_append]; exact sw)
      refine ⟨_, h3, npe, ?_, fun r k z => by rw [F3 r k z, wr_o z, wr_o z], ?_⟩
      · refine (nm_of (e' := (l.length : Int) - 1) (by rw [hn, w32_s (by omega) (by omega)])).trans ?_
        refine (go2 (n := l.length) _ hl2 h10 A1 ha hy).trans ?_
        refine (bd_of (swaps_e (by omega) (by omega))).trans ?_
        refine (nm_of (w32_n (by omega))).trans ?_
        refine (nm_of (e' := ((pre.length + 1 : Nat) : Int) + ((B.reverse ++ x :: A.reverse).length : Int) - 1) (by rw [wr_o (by omega), wr_o (by omega), hn, w32_s (by omega) (by omega)]; simp; omega)).trans ?_
        exact g3
      · have ee : pre ++ y1 :: (A ++ x :: B) = pre ++ [y1] ++ (B.reverse ++ x :: A.reverse).reverse ++ [] := by simp
        rw [ee]; exact A3
    · right
      exact ⟨np_desc l p1, by rw [g1, if_pos (by omega)]⟩
theorem orderOf_e {h : Mem} {l : List Int} (hA : Ar h 64 l) (hn : h 56 18 = (l.length : Int)) (h9 : l.length ≤ 9) (hb : ∀ x ∈ l, 0 ≤ x ∧ x ≤ 9) : F_X8_orderOf h = some (fgs 0 l, h) := by
  have key : ∀ (B A : List Int) (o : Int) (e f : Nat), l = A ++ B → 0 ≤ o → o < 10 ^ e → e + B.length ≤ 9 → B.length < f → L_X8_orderOf_1 (fun v_9 p_10 (h_8 : Mem) => some (v_9, h_8)) f o (A.length : Int) h = some (fgs o B, h) := by
    intro B
    induction B with
    | nil =>
      intro A o e f he o0 o1 h1 hf
      obtain ⟨f, rfl⟩ : ∃ g, f = g + 1 := ⟨f - 1, by omega⟩
      rw [List.append_nil] at he
      rw [L_X8_orderOf_1, hn, he, if_neg (by omega)]; rfl
    | cons x B ih =>
      intro A o e f he o0 o1 h1 hf
      obtain ⟨f, rfl⟩ : ∃ g, f = g + 1 := ⟨f - 1, by omega⟩
      simp only [List.length_cons] at h1 hf
      have hlen : A.length + (B.length + 1) = l.length := by rw [he]; simp
      have xb := hb x (by rw [he]; exact List.mem_append.mpr (Or.inr List.mem_cons_self))
      have ar : h 64 (A.length : Int) = x := hA _ _ (by rw [he, List.getElem?_append_right (Nat.le_refl _), Nat.sub_self]; rfl)
      have q10 := pw10 e (by omega)
      have q11 := pw10 (e + 1) (by omega)
      have es : (10 : Int) ^ (e + 1) = 10 ^ e * 10 := Int.pow_succ 10 e
      have nx := ih (A ++ [x]) (10 * o + x) (e + 1) f (by rw [he]; simp) (by omega) (by rw [es]; omega) (by omega) (by omega)
      have al : ((A ++ [x]).length : Int) = ((A.length + 1 : Nat) : Int) := by simp
      rw [al] at nx
      rw [L_X8_orderOf_1, hn, if_pos (by omega)]
      refine (gd_of (by omega)).trans ?_
      rw [ar, w32_s (z := 10 * o) (by omega) (by omega)]
      refine (nm_of (e' := 10 * o + x) (w32_s (by omega) (by omega))).trans ?_
      refine (nm_of (w32_n (by omega))).trans ?_
      exact nx
  exact key l [] 0 0 FU rfl (by omega) (by decide) (by omega) (by unfold FU; omega)
