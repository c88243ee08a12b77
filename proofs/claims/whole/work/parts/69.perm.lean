/-! all orders of a row: the next one, their figures, how many -/
def nx (x : Int) : List Int → Option (Int × List Int)
  | [] => none
  | a :: r => if x < a then some (a, x :: r) else (nx x r).map (fun p => (p.1, a :: p.2))
def np : List Int → Option (List Int)
  | [] => none
  | x :: l => match np l with
    | some l' => some (x :: l')
    | none => (nx x l.reverse).map (fun p => p.1 :: p.2)
theorem np_c {x : Int} {l l' : List Int} (h : np l = some l') : np (x :: l) = some (x :: l') := by rw [np, h]
theorem np_n {x : Int} {l : List Int} (h : np l = none) : np (x :: l) = (nx x l.reverse).map (fun p => p.1 :: p.2) := by rw [np, h]
theorem nx_at {x y : Int} {B : List Int} (hxy : x < y) : ∀ A : List Int, (∀ a ∈ A, a < x) → nx x (A ++ y :: B) = some (y, A ++ x :: B)
  | [], _ => by rw [List.nil_append, nx, if_pos hxy]; rfl
  | a :: A, h => by
    have ha := h a List.mem_cons_self
    rw [List.cons_append, nx, if_neg (by omega), nx_at hxy A (fun b hb => h b (List.mem_cons_of_mem _ hb))]; rfl
theorem nx_none {x : Int} : ∀ A : List Int, (∀ a ∈ A, a < x) → nx x A = none
  | [], _ => rfl
  | a :: A, h => by
    have ha := h a List.mem_cons_self
    rw [nx, if_neg (by omega), nx_none A (fun b hb => h b (List.mem_cons_of_mem _ hb))]; rfl
theorem np_desc : ∀ l : List Int, l.Pairwise (fun a b => b < a) → np l = none
  | [], _ => rfl
  | x :: l, h => by
    have hc := List.pairwise_cons.mp h
    rw [np_n (np_desc l hc.2), nx_none l.reverse (fun a ha => hc.1 a (List.mem_reverse.mp ha))]; rfl
theorem np_pre {t t' : List Int} (h : np t = some t') : ∀ A : List Int, np (A ++ t) = some (A ++ t')
  | [] => h
  | a :: A => np_c (np_pre h A)
def ChE : List (List Int) → Option (List Int) → Prop
  | [], _ => False
  | [l], e => np l = e
  | l :: l' :: B, e => np l = some l' ∧ ChE (l' :: B) e
theorem che_app {m : List Int} {M : List (List Int)} {e : Option (List Int)} (h2 : ChE (m :: M) e) : ∀ L : List (List Int), ChE L (some m) → ChE (L ++ m :: M) e
  | [], h => absurd h (by rw [ChE]; exact id)
  | [l], h => ⟨h, h2⟩
  | l :: l' :: B, h => ⟨h.1, che_app h2 (l' :: B) h.2⟩
theorem che_map {x : Int} {z : List Int} {e : Option (List Int)} (hz : np (x :: z) = e) : ∀ L : List (List Int), ChE L none → (∃ L0, L = L0 ++ [z]) → ChE (L.map (List.cons x)) e
  | [], h, _ => absurd h (by rw [ChE]; exact id)
  | [l], _, ⟨L0, hL⟩ => by
    have : l = z := by
      cases L0 with
      | nil => exact (List.cons.inj hL).1
      | cons a L0 =>
        have := (List.cons.inj hL).2
        cases L0 <;> cases this
    rw [this]; exact hz
  | l :: l' :: B, h, ⟨L0, hL⟩ => by
    refine ⟨np_c h.1, che_map hz (l' :: B) h.2 ?_⟩
    cases L0 with
    | nil => cases (List.cons.inj hL).2
    | cons a L0 => exact ⟨L0, (List.cons.inj hL).2⟩
theorem erase_mid {x : Int} {B : List Int} : ∀ A : List Int, (∀ a ∈ A, ¬ a = x) → (A ++ x :: B).erase x = A ++ B
  | [], _ => by rw [List.nil_append, List.erase_cons_head]; rfl
  | a :: A, h => by
    rw [List.cons_append, List.erase_cons_tail, erase_mid A (fun b hb => h b (List.mem_cons_of_mem _ hb))]; rfl
    intro e
    exact h a List.mem_cons_self (eq_of_beq e)
theorem perms_ch : ∀ (n : Nat) (S : List Int), S.length = n → S.Pairwise (fun a b => a < b) → (∃ M, perms n S = S :: M) ∧ (∃ L0, perms n S = L0 ++ [S.reverse]) ∧ ChE (perms n S) none
  | 0, S, hl, _ => by
    have : S = [] := List.length_eq_zero_iff.mp hl
    subst this
    exact ⟨⟨[], rfl⟩, ⟨[], rfl⟩, rfl⟩
  | n + 1, S, hl, hp => by
    have blk : ∀ A B : List Int, ∀ x, S = A ++ x :: B → (∃ M, perms n (A ++ B) = (A ++ B) :: M) ∧ (∃ L0, perms n (A ++ B) = L0 ++ [(A ++ B).reverse]) ∧ ChE (perms n (A ++ B)) none ∧ S.erase x = A ++ B ∧ (∀ a ∈ A, a < x) ∧ (∀ b ∈ B, x < b) := fun A B x e => by
      have hp' := hp
      rw [e] at hp'
      have h1 := List.pairwise_append.mp hp'
      have h2 := List.pairwise_cons.mp h1.2.1
      have ih := perms_ch n (A ++ B) (by rw [e] at hl; simp at hl ⊢; omega) (List.pairwise_append.mpr ⟨h1.1, h2.2, fun a ha b hb => h1.2.2 a ha b (List.mem_cons_of_mem _ hb)⟩)
      refine ⟨ih.1, ih.2.1, ih.2.2, ?_, fun a ha => h1.2.2 a ha x List.mem_cons_self, h2.1⟩
      rw [e]
      exact erase_mid A (fun a ha q => by have := h1.2.2 a ha x List.mem_cons_self; omega)
    have key : ∀ (C A : List Int), S = A ++ C → ¬ C = [] → ChE (C.flatMap (fun x => (perms n (S.erase x)).map (List.cons x))) none ∧ (∃ x C' M, C = x :: C' ∧ C.flatMap (fun x => (perms n (S.erase x)).map (List.cons x)) = (x :: S.erase x) :: M) ∧ ∃ L0, C.flatMap (fun x => (perms n (S.erase x)).map (List.cons x)) = L0 ++ [S.reverse] := by
      intro C
      induction C with
      | nil => intro A _ h; exact absurd rfl h
      | cons x C ih =>
        intro A hA _
        obtain ⟨⟨M, hM⟩, ⟨L0, hL⟩, hch, he, ha, hb⟩ := blk A C x hA
        rw [List.flatMap_cons, he]
        cases C with
        | nil =>
          rw [List.append_nil] at hM hL hch he
          rw [List.flatMap_nil, List.append_nil, List.append_nil]
          refine ⟨che_map ?_ _ hch ⟨L0, hL⟩, ⟨x, [], M.map (List.cons x), rfl, by rw [hM, he]; rfl⟩, L0.map (List.cons x), ?_⟩
          · rw [np_n (np_desc _ (List.pairwise_reverse.mpr (by have hp' := hp; rw [hA] at hp'; exact (List.pairwise_append.mp hp').1))), List.reverse_reverse, nx_none A ha]; rfl
          · rw [hL, List.map_append, hA]; simp
        | cons y B =>
          obtain ⟨c1, ⟨x', C', M', hx, hM'⟩, L1, c3⟩ := ih (A ++ [x]) (by rw [hA]; simp) (by simp)
          have xy : x' = y := (List.cons.inj hx).1.symm
          subst xy
          have hxy : x < x' := hb x' List.mem_cons_self
          have e2 : S.erase x' = A ++ x :: B := by
            have q := (blk (A ++ [x]) B x' (by rw [hA]; simp)).2.2.2.1
            rw [q]; simp
          have ps : (A ++ x' :: B).reverse.Pairwise (fun a b => b < a) := by
            have hp' := hp
            rw [hA] at hp'
            have h1 := List.pairwise_append.mp hp'
            have h2 := List.pairwise_cons.mp h1.2.1
            exact List.pairwise_reverse.mpr (List.pairwise_append.mpr ⟨h1.1, h2.2, fun a ha b hb => h1.2.2 a ha b (List.mem_cons_of_mem _ hb)⟩)
          rw [hM'] at c1 ⊢
          refine ⟨che_app c1 _ (che_map ?_ _ hch ⟨L0, hL⟩), ⟨x, x' :: B, M.map (List.cons x) ++ (x' :: S.erase x') :: M', rfl, ?_⟩, (perms n (A ++ x' :: B)).map (List.cons x) ++ L1, ?_⟩
          · rw [np_n (np_desc _ ps), List.reverse_reverse, nx_at hxy A ha, e2]; rfl
          · rw [hM, he]; simp
          · rw [hM'] at c3
            rw [c3]; simp
    cases S with
    | nil => cases hl
    | cons x C =>
      obtain ⟨c1, ⟨x', C', M, hx, hM⟩, c3⟩ := key (x :: C) [] rfl (by simp)
      have e1 : perms (n + 1) (x :: C) = (x :: C).flatMap (fun y => (perms n ((x :: C).erase y)).map (List.cons y)) := rfl
      rw [e1]
      have xx : x' = x := (List.cons.inj hx).1.symm
      subst xx
      refine ⟨⟨M, ?_⟩, c3, c1⟩
      rw [hM, List.erase_cons_head]
/-! members, lengths, figures -/
def fct : Nat → Nat
  | 0 => 1
  | n + 1 => (n + 1) * fct n
theorem fm_len {α : Type} {f : Int → List α} {B : Nat} : ∀ l : List Int, (∀ x ∈ l, (f x).length = B) → (l.flatMap f).length = l.length * B
  | [], _ => by simp
  | x :: l, h => by
    rw [List.flatMap_cons, List.length_append, h x List.mem_cons_self, fm_len l (fun y hy => h y (List.mem_cons_of_mem _ hy)), List.length_cons, Nat.succ_mul]; omega
theorem perms_len : ∀ (n : Nat) (S : List Int), S.length = n → (perms n S).length = fct n
  | 0, _, _ => rfl
  | n + 1, S, h => by
    rw [perms, fm_len (B := fct n) S (fun x hx => by rw [List.length_map, perms_len n (S.erase x) (by rw [List.length_erase_of_mem hx, h]; rfl)]), h, fct]
theorem fct_b : ∀ n : Nat, n < 8 → fct n ≤ 5040 := by decide
theorem perms_m : ∀ (n : Nat) (S l : List Int), l ∈ perms n S → l.length = n ∧ ∀ x ∈ l, x ∈ S
  | 0, S, l, h => by
    have : l = [] := List.mem_singleton.mp h
    subst this
    exact ⟨rfl, fun x hx => absurd hx List.not_mem_nil⟩
  | n + 1, S, l, h => by
    rw [perms] at h
    obtain ⟨x, hx, hl⟩ := List.mem_flatMap.mp h
    obtain ⟨m, hm, rfl⟩ := List.mem_map.mp hl
    have ih := perms_m n (S.erase x) m hm
    refine ⟨by rw [List.length_cons, ih.1], fun y hy => ?_⟩
    rcases List.mem_cons.mp hy with rfl | hy
    · exact hx
    · exact List.mem_of_mem_erase (ih.2 y hy)
theorem perms_nd : ∀ (n : Nat) (S l : List Int), S.Pairwise (fun a b => ¬ a = b) → l ∈ perms n S → l.Pairwise (fun a b => ¬ a = b)
  | 0, S, l, _, h => by
    have : l = [] := List.mem_singleton.mp h
    subst this
    exact List.Pairwise.nil
  | n + 1, S, l, hS, h => by
    rw [perms] at h
    obtain ⟨x, hx, hl⟩ := List.mem_flatMap.mp h
    obtain ⟨m, hm, rfl⟩ := List.mem_map.mp hl
    refine List.pairwise_cons.mpr ⟨fun a ha q => ?_, perms_nd n (S.erase x) m (hS.sublist List.erase_sublist) hm⟩
    have := (perms_m n (S.erase x) m hm).2 a ha
    rw [← q] at this
    exact (List.Nodup.not_mem_erase (a := x) hS) this
theorem fgs_c {x : Int} : ∀ (l : List Int) (o : Int), fgs (x * o) l = x * o * 10 ^ l.length + fgs 0 l
  | l, o => by
    have key : ∀ (l : List Int) (o : Int), fgs o l = o * 10 ^ l.length + fgs 0 l := by
      intro l
      induction l with
      | nil => intro o; simp [fgs]
      | cons a l ih =>
        intro o
        have e1 : fgs o (a :: l) = fgs (10 * o + a) l := rfl
        have e2 : fgs 0 (a :: l) = fgs (10 * 0 + a) l := rfl
        rw [e1, e2, ih, ih (10 * 0 + a), List.length_cons, Int.pow_succ]
        generalize (10 : Int) ^ l.length = P
        rw [Int.add_mul, Int.mul_comm 10 o, Int.mul_assoc, Int.mul_comm 10 P]
        have : (10 * 0 + a) * P = a * P := by rw [Int.mul_zero, Int.zero_add]
        rw [this]; omega
    exact key l (x * o)
theorem fgs_cons (x : Int) (l : List Int) : fgs 0 (x :: l) = x * 10 ^ l.length + fgs 0 l := by
  have e : fgs 0 (x :: l) = fgs (x * 1) l := by show fgs (10 * 0 + x) l = _; rw [Int.mul_zero, Int.zero_add, Int.mul_one]
  rw [e, fgs_c, Int.mul_one]
theorem fgs_b : ∀ l : List Int, (∀ x ∈ l, 0 ≤ x ∧ x ≤ 9) → 0 ≤ fgs 0 l ∧ fgs 0 l < 10 ^ l.length
  | [], _ => by simp [fgs]
  | x :: l, h => by
    have ih := fgs_b l (fun y hy => h y (List.mem_cons_of_mem _ hy))
    have hx := h x List.mem_cons_self
    rw [fgs_cons, List.length_cons, Int.pow_succ]
    have m := mul_b hx.1 hx.2 (show 0 ≤ (10 : Int) ^ l.length by omega) (Int.le_refl _)
    generalize (10 : Int) ^ l.length = P at *
    generalize x * P = q at *
    omega
theorem fgs_mono : ∀ (n : Nat) (S : List Int), S.length = n → S.Pairwise (fun a b => a < b) → (∀ x ∈ S, 0 ≤ x ∧ x ≤ 9) → (perms n S).Pairwise (fun l l' => fgs 0 l < fgs 0 l')
  | 0, S, _, _, _ => List.pairwise_singleton _ _
  | n + 1, S, hl, hp, hd => by
    have key : ∀ C : List Int, C.Pairwise (fun a b => a < b) → (∀ x ∈ C, x ∈ S) → (C.flatMap (fun x => (perms n (S.erase x)).map (List.cons x))).Pairwise (fun l l' => fgs 0 l < fgs 0 l') := by
      intro C
      induction C with
      | nil => intro _ _; exact List.Pairwise.nil
      | cons x C ih =>
        intro hC hm
        have hc := List.pairwise_cons.mp hC
        have xs := hm x List.mem_cons_self
        have len : (S.erase x).length = n := by rw [List.length_erase_of_mem xs, hl]; rfl
        rw [List.flatMap_cons]
        refine List.pairwise_append.mpr ⟨List.pairwise_map.mpr ?_, ih hc.2 (fun y hy => hm y (List.mem_cons_of_mem _ hy)), fun a ha b hb => ?_⟩
        · have ihn := fgs_mono n (S.erase x) len (hp.sublist List.erase_sublist) (fun y hy => hd y (List.mem_of_mem_erase hy))
          refine List.Pairwise.imp_of_mem (fun {l l'} h1 h2 h3 => ?_) ihn
          rw [fgs_cons, fgs_cons, (perms_m n _ l h1).1, (perms_m n _ l' h2).1]; omega
        · obtain ⟨m, hm1, rfl⟩ := List.mem_map.mp ha
          obtain ⟨y, hy, hb2⟩ := List.mem_flatMap.mp hb
          obtain ⟨m2, hm2, rfl⟩ := List.mem_map.mp hb2
          have p1 := perms_m n _ m hm1
          have p2 := perms_m n _ m2 hm2
          have b1 := fgs_b m (fun z hz => hd z (List.mem_of_mem_erase (p1.2 z hz)))
          have b2 := fgs_b m2 (fun z hz => hd z (List.mem_of_mem_erase (p2.2 z hz)))
          have xy := hc.1 y hy
          rw [fgs_cons, fgs_cons]
          rw [p1.1] at b1 ⊢
          rw [p2.1] at b2 ⊢
          have mm := Int.mul_le_mul_of_nonneg_right (show x + 1 ≤ y by omega) (show 0 ≤ (10 : Int) ^ n by omega)
          rw [Int.add_mul, Int.one_mul] at mm
          omega
    rw [perms]
    exact key S hp (fun x hx => hx)
