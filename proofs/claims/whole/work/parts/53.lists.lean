/-! rows as lists; sorting by insertion -/
def Ar (h : Mem) (r : Int) (l : List Int) : Prop := ∀ (p : Nat) (v : Int), l[p]? = some v → h r (p : Int) = v
theorem Ar.at {h : Mem} {r : Int} {l : List Int} (H : Ar h r l) {p : Nat} (hp : p < l.length) : h r (p : Int) = l.getD p 0 := by
  refine H p _ ?_
  rw [List.getD_eq_getElem?_getD, List.getElem?_eq_getElem hp]; rfl
theorem getD_mem {l : List Int} {p : Nat} (hp : p < l.length) : l.getD p 0 ∈ l := by
  rw [List.getD_eq_getElem?_getD, List.getElem?_eq_getElem hp]; exact List.getElem_mem hp
theorem Ar.of {h : Mem} {r : Int} {l : List Int} (H : ∀ p : Nat, p < l.length → h r (p : Int) = l.getD p 0) : Ar h r l := fun p v e => by
  obtain ⟨hp, e2⟩ := List.getElem?_eq_some_iff.mp e
  rw [H p hp, List.getD_eq_getElem?_getD, e]; rfl
theorem Ar.fr {h h' : Mem} {r : Int} {l : List Int} (H : Ar h r l) (e : ∀ k, h' r k = h r k) : Ar h' r l := fun p v q => by rw [e]; exact H p v q
theorem ar_swap {h : Mem} {r x y : Int} {A B : List Int} (q : Nat) (hq : q = A.length + 1) (H : Ar h r (A ++ y :: x :: B)) : Ar (wr (wr h r q (h r ((q : Int) - 1))) r ((q : Int) - 1) (h r q)) r (A ++ x :: y :: B) := by
  have hy : h r (A.length : Int) = y := H _ _ (by rw [List.getElem?_append_right (Nat.le_refl _), Nat.sub_self]; rfl)
  have hx : h r ((A.length + 1 : Nat) : Int) = x := H _ _ (by rw [List.getElem?_append_right (by omega), show A.length + 1 - A.length = 1 by omega]; rfl)
  have eq : (q : Int) - 1 = (A.length : Int) := by omega
  subst hq
  rw [eq]
  intro p v hv
  by_cases c : p = A.length
  · subst c
    rw [List.getElem?_append_right (Nat.le_refl _), Nat.sub_self] at hv
    rw [wr_s, hx]; exact Option.some.inj hv
  · rw [wr_k (by omega)]
    by_cases c2 : p = A.length + 1
    · subst c2
      rw [List.getElem?_append_right (by omega), show A.length + 1 - A.length = 1 by omega] at hv
      rw [wr_s, hy]; exact Option.some.inj hv
    · rw [wr_k (by omega)]
      refine H p v ?_
      rw [← hv]
      by_cases c3 : p < A.length
      · rw [List.getElem?_append_left c3, List.getElem?_append_left c3]
      · rw [List.getElem?_append_right (by omega), List.getElem?_append_right (by omega)]
        obtain ⟨k, hk⟩ : ∃ k, p - A.length = k + 2 := ⟨p - A.length - 2, by omega⟩
        rw [hk]; rfl
def insB (lt : Int → Int → Bool) (x : Int) : List Int → List Int → List Int
  | [], post => x :: post
  | y :: ys, post => if lt x y = true then insB lt x ys (y :: post) else (y :: ys).reverse ++ x :: post
def isort (lt : Int → Int → Bool) : List Int → List Int → List Int
  | P, [] => P
  | P, x :: rest => isort lt (insB lt x P.reverse []) rest
theorem rv_app (y : Int) (ys post : List Int) : (y :: ys).reverse ++ post = ys.reverse ++ y :: post := by simp
theorem insB_perm {lt : Int → Int → Bool} {x : Int} : ∀ rp post : List Int, (insB lt x rp post).Perm (rp.reverse ++ x :: post)
  | [], post => List.Perm.refl _
  | y :: ys, post => by
    rw [insB]
    split
    · refine (insB_perm ys (y :: post)).trans ?_
      rw [rv_app]
      exact List.Perm.append_left _ (List.Perm.swap _ _ _)
    · exact List.Perm.refl _
theorem isort_perm {lt : Int → Int → Bool} : ∀ rest P : List Int, (isort lt P rest).Perm (P ++ rest)
  | [], P => by rw [List.append_nil]; exact List.Perm.refl _
  | x :: rest, P => by
    rw [isort]
    refine (isort_perm rest _).trans ?_
    have e := (insB_perm (lt := lt) (x := x) P.reverse []).append_right rest
    rw [List.reverse_reverse, List.append_assoc] at e
    exact e
theorem insB_sorted {lt : Int → Int → Bool} {R : Int → Int → Prop} {x : Int} (tr : ∀ a b c, R a b → R b c → R a c) : ∀ rp post : List Int, List.Pairwise R (rp.reverse ++ post) → (∀ z ∈ post, R x z) → (∀ y ∈ rp, (lt x y = true ↔ R x y) ∧ (R x y ∨ R y x)) → List.Pairwise R (insB lt x rp post)
  | [], post, hp, hx, _ => List.pairwise_cons.mpr ⟨hx, hp⟩
  | y :: ys, post, hp, hx, hr => by
    have q := hr y List.mem_cons_self
    rw [insB]
    split
    · rename_i c
      rw [rv_app] at hp
      refine insB_sorted tr ys (y :: post) hp (fun z hz => ?_) (fun z hz => hr z (List.mem_cons_of_mem _ hz))
      rcases List.mem_cons.mp hz with rfl | hz
      · exact q.1.mp c
      · exact hx z hz
    · rename_i c
      have yx : R y x := q.2.resolve_left (fun z => c (q.1.mpr z))
      have hp' := List.pairwise_append.mp hp
      refine List.pairwise_append.mpr ⟨hp'.1, List.pairwise_cons.mpr ⟨hx, hp'.2.1⟩, fun a ha b hb => ?_⟩
      rcases List.mem_cons.mp hb with rfl | hb
      · rw [List.reverse_cons] at hp' ha
        rcases List.mem_append.mp ha with ha | ha
        · exact tr a y _ ((List.pairwise_append.mp hp'.1).2.2 a ha y (List.mem_singleton.mpr rfl)) yx
        · rw [List.mem_singleton.mp ha]; exact yx
      · exact hp'.2.2 a ha b hb
theorem isort_sorted {lt : Int → Int → Bool} {R : Int → Int → Prop} (tr : ∀ a b c, R a b → R b c → R a c) : ∀ rest P : List Int, List.Pairwise R P → (∀ y ∈ P, ∀ x ∈ rest, (lt x y = true ↔ R x y) ∧ (R x y ∨ R y x)) → rest.Pairwise (fun y x => (lt x y = true ↔ R x y) ∧ (R x y ∨ R y x)) → List.Pairwise R (isort lt P rest)
  | [], P, hp, _, _ => hp
  | x :: rest, P, hp, hd, hr => by
    rw [isort]
    have hc := List.pairwise_cons.mp hr
    refine isort_sorted tr rest _ ?_ ?_ hc.2
    · refine insB_sorted tr P.reverse [] (by rw [List.append_nil, List.reverse_reverse]; exact hp) (fun z hz => absurd hz (List.not_mem_nil)) (fun y hy => hd y (List.mem_reverse.mp hy) x List.mem_cons_self)
    · have pe := insB_perm (lt := lt) (x := x) P.reverse []
      rw [List.reverse_reverse] at pe
      intro a ha b hb
      rcases List.mem_append.mp (pe.mem_iff.mp ha) with q | q
      · exact hd a q b (List.mem_cons_of_mem _ hb)
      · rw [List.mem_singleton.mp q]; exact hc.1 b hb
/-- two rows that are in order and have the same members are one -/
theorem srt_uniq {R : Int → Int → Prop} (ir : ∀ a, ¬ R a a) (tr : ∀ a b c, R a b → R b c → R a c) : ∀ l l' : List Int, l.Pairwise R → l'.Pairwise R → (∀ x, x ∈ l ↔ x ∈ l') → l = l'
  | [], [], _, _, _ => rfl
  | [], b :: l', _, _, h => absurd ((h b).mpr List.mem_cons_self) List.not_mem_nil
  | a :: l, [], _, _, h => absurd ((h a).mp List.mem_cons_self) List.not_mem_nil
  | a :: l, b :: l', h1, h2, h => by
    have h1' := List.pairwise_cons.mp h1
    have h2' := List.pairwise_cons.mp h2
    have ab : a = b := by
      rcases List.mem_cons.mp ((h a).mp List.mem_cons_self) with q | q
      · exact q
      · rcases List.mem_cons.mp ((h b).mpr List.mem_cons_self) with q' | q'
        · exact q'.symm
        · exact absurd (tr _ _ _ (h1'.1 b q') (h2'.1 a q)) (ir a)
    subst ab
    refine congrArg (List.cons a) (srt_uniq ir tr l l' h1'.2 h2'.2 (fun x => ⟨fun q => ?_, fun q => ?_⟩))
    · rcases List.mem_cons.mp ((h x).mp (List.mem_cons_of_mem _ q)) with e | e
      · rw [e] at q; exact absurd (h1'.1 a q) (ir a)
      · exact e
    · rcases List.mem_cons.mp ((h x).mpr (List.mem_cons_of_mem _ q)) with e | e
      · rw [e] at q; exact absurd (h2'.1 a q) (ir a)
      · exact e
def onr (r : Int) (r' _k : Int) : Prop := r' = r
/-- a loop that carries the entry at q back to its place -/
theorem ins_gen {h0 : Mem} {r : Int} {lt : Int → Int → Bool} {Q : Int → Prop} {N : Nat} {L : Nat → Int → Mem → Res} {Kx : Int → Mem → Res}
    (st : ∀ (f q : Nat) (h : Mem), Fr (onr r) h0 h → (∀ p : Nat, p < N → Q (h r p)) → q < N → L (f + 1) q h = if 0 < q ∧ lt (h r q) (h r ((q : Int) - 1)) = true then L f ((q : Int) - 1) (wr (wr h r q (h r ((q : Int) - 1))) r ((q : Int) - 1) (h r q)) else Kx q h) :
    ∀ (rp : List Int) (x : Int) (post : List Int) (h : Mem) (f : Nat), Fr (onr r) h0 h → Ar h r (rp.reverse ++ x :: post) → (∀ z ∈ rp.reverse ++ x :: post, Q z) → (rp.reverse ++ x :: post).length = N → rp.length < f →
      ∃ q' h', L f (rp.length : Int) h = Kx q' h' ∧ Fr (onr r) h0 h' ∧ Ar h' r (insB lt x rp post)
  | [], x, post, h, f, hF, hA, hQ, hN, hf => by
    obtain ⟨f, rfl⟩ : ∃ g, f = g + 1 := ⟨f - 1, by omega⟩
    refine ⟨(0 : Nat), h, ?_, hF, hA⟩
    have s := st f 0 h hF (fun p hp => by rw [hA.at (by omega)]; exact hQ _ (getD_mem (by omega))) (by rw [← hN]; simp)
    rw [if_neg (by omega)] at s
    exact s
  | y :: ys, x, post, h, f, hF, hA, hQ, hN, hf => by
    obtain ⟨f, rfl⟩ : ∃ g, f = g + 1 := ⟨f - 1, by omega⟩
    have s := st f (ys.length + 1) h hF (fun p hp => by rw [hA.at (by omega)]; exact hQ _ (getD_mem (by omega))) (by rw [← hN]; simp)
    rw [rv_app] at hA hQ hN
    have hx : h r ((ys.length + 1 : Nat) : Int) = x := hA _ _ (by rw [List.getElem?_append_right (by simp), List.length_reverse, show ys.length + 1 - ys.length = 1 by omega]; rfl)
    have hy : h r (((ys.length + 1 : Nat) : Int) - 1) = y := by
      rw [show ((ys.length + 1 : Nat) : Int) - 1 = (ys.length : Int) by omega]
      exact hA _ _ (by rw [List.getElem?_append_right (by simp), List.length_reverse, Nat.sub_self]; rfl)
    have sw := ar_swap (ys.length + 1) (by simp) hA
    rw [hx, hy] at s sw
    rw [insB, List.length_cons]
    by_cases c : lt x y = true
    · rw [if_pos ⟨by omega, c⟩] at s
      obtain ⟨q', h', e', r'⟩ := ins_gen st ys x (y :: post) _ f (fun a b z => by rw [wr_o z, wr_o z]; exact hF a b z) sw (fun z hz => hQ z (by
        rcases List.mem_append.mp hz with u | u
        · exact List.mem_append.mpr (Or.inl u)
        · refine List.mem_append.mpr (Or.inr ?_)
          rcases List.mem_cons.mp u with u | u
          · rw [u]; exact List.mem_cons_of_mem _ List.mem_cons_self
          · rcases List.mem_cons.mp u with u | u
            · rw [u]; exact List.mem_cons_self
            · exact List.mem_cons_of_mem _ (List.mem_cons_of_mem _ u))) (by rw [← hN]; simp) (by simp only [List.length_cons] at hf; omega)
      rw [if_pos c]
      refine ⟨q', h', ?_, r'⟩
      rw [s]
      rw [show ((ys.length + 1 : Nat) : Int) - 1 = (ys.length : Int) by omega] at e' ⊢; exact e'
    · rw [if_neg (fun z => c z.2)] at s
      rw [if_neg c]
      refine ⟨_, h, s, hF, ?_⟩
      rw [rv_app]; exact hA
/-- the loop around it -/
theorem isort_gen {h0 : Mem} {r : Int} {lt : Int → Int → Bool} {Q : Int → Prop} {N : Nat} {O : Nat → Int → Mem → Res} {L : Nat → (Int → Mem → Res) → Nat → Int → Mem → Res} {Kx : Int → Mem → Res}
    (st : ∀ (k : Nat) (K : Int → Mem → Res) (f q : Nat) (h : Mem), Fr (onr r) h0 h → (∀ p : Nat, p < N → Q (h r p)) → q < N → L k K (f + 1) q h = if 0 < q ∧ lt (h r q) (h r ((q : Int) - 1)) = true then L k K f ((q : Int) - 1) (wr (wr h r q (h r ((q : Int) - 1))) r ((q : Int) - 1) (h r q)) else K q h)
    (so : ∀ (f k : Nat) (h : Mem), Fr (onr r) h0 h → k < N → O (f + 1) k h = L k (fun _ h' => O f ((k + 1 : Nat) : Int) h') FU k h)
    (se : ∀ (f : Nat) (h : Mem), Fr (onr r) h0 h → O (f + 1) N h = Kx N h) (hN : N ≤ 10) :
    ∀ (rest P : List Int) (h : Mem) (f : Nat), Fr (onr r) h0 h → Ar h r (P ++ rest) → (∀ z ∈ P ++ rest, Q z) → (P ++ rest).length = N → rest.length < f →
      ∃ h', O f (P.length : Int) h = Kx N h' ∧ Fr (onr r) h0 h' ∧ Ar h' r (isort lt P rest)
  | [], P, h, f, hF, hA, hQ, hl, hf => by
    obtain ⟨f, rfl⟩ : ∃ g, f = g + 1 := ⟨f - 1, by omega⟩
    rw [List.append_nil] at hA hl
    exact ⟨h, by rw [hl]; exact se f h hF, hF, hA⟩
  | x :: rest, P, h, f, hF, hA, hQ, hl, hf => by
    obtain ⟨f, rfl⟩ : ∃ g, f = g + 1 := ⟨f - 1, by omega⟩
    have hl' : P.length + (rest.length + 1) = N := by rw [← hl]; simp
    have s := so f P.length h hF (by omega)
    obtain ⟨q', h', e', F', A'⟩ := ins_gen (h0 := h0) (r := r) (lt := lt) (Q := Q) (N := N) (L := L P.length (fun _ h' => O f ((P.length + 1 : Nat) : Int) h')) (Kx := fun _ h' => O f ((P.length + 1 : Nat) : Int) h') (fun f q h a b c => st P.length _ f q h a b c) P.reverse x rest h FU hF (by rw [List.reverse_reverse]; exact hA) (by rw [List.reverse_reverse]; exact hQ) (by rw [List.reverse_reverse]; exact hl) (by rw [List.length_reverse]; unfold FU; omega)
    rw [List.length_reverse] at e'
    have cat : ∀ rp post : List Int, insB lt x rp (post ++ rest) = insB lt x rp post ++ rest := by
      intro rp
      induction rp with
      | nil => intro post; rfl
      | cons y ys ih =>
        intro post
        rw [insB, insB]
        split
        · exact ih (y :: post)
        · rw [List.append_assoc]; rfl
    have cat0 := cat P.reverse []
    rw [List.nil_append] at cat0
    have pe := insB_perm (lt := lt) (x := x) P.reverse []
    rw [List.reverse_reverse] at pe
    have pl : (insB lt x P.reverse []).length = P.length + 1 := by rw [pe.length_eq]; simp
    rw [cat0] at A'
    obtain ⟨h2, e2, r2⟩ := isort_gen st so se hN rest (insB lt x P.reverse []) h' f F' A' (fun z hz => hQ z (by
      rcases List.mem_append.mp hz with u | u
      · rcases List.mem_append.mp (pe.mem_iff.mp u) with v | v
        · exact List.mem_append.mpr (Or.inl v)
        · rw [List.mem_singleton.mp v]; exact List.mem_append.mpr (Or.inr List.mem_cons_self)
      · exact List.mem_append.mpr (Or.inr (List.mem_cons_of_mem _ u)))) (by rw [List.length_append, pl]; omega) (by simp only [List.length_cons] at hf; omega)
    refine ⟨h2, ?_, r2⟩
    rw [s, e', ← pl]; exact e2
