/-! the best of what was weighed -/
section Opt
variable {A T : Int → Int}
def OptP (A T : Int → Int) (Pr : List Int → Int → Prop) (s : S5) : Prop :=
  0 ≤ s.1 ∧ (¬ s.1 = 0 → s.2.1 = 0 ∧ ∃ l c, Pr l c ∧ bFl A T l c = 0 ∧ bVa A T l c = s.2.2.1 ∧ fgs 0 l = s.2.2.2.1 ∧ c = s.2.2.2.2) ∧
  ∀ l c, Pr l c → bFl A T l c = 0 → ¬ s.1 = 0 ∧ (bVa A T l c < s.2.2.1 ∨ (bVa A T l c = s.2.2.1 ∧ (s.2.2.2.1 < fgs 0 l ∨ (s.2.2.2.1 = fgs 0 l ∧ s.2.2.2.2 ≤ c))))
theorem OptP.iff {Pr Pr' : List Int → Int → Prop} {s : S5} (h : OptP A T Pr s) (e : ∀ l c, Pr l c ↔ Pr' l c) : OptP A T Pr' s := by
  refine ⟨h.1, fun z => ?_, fun l c q => h.2.2 l c ((e l c).mpr q)⟩
  obtain ⟨m, l, c, q, r⟩ := h.2.1 z
  exact ⟨m, l, c, (e l c).mp q, r⟩
theorem opt_step {Pr : List Int → Int → Prop} {s : S5} {l : List Int} {b : Int} (h : OptP A T Pr s) (tie : ∀ l' c', Pr l' c' → fgs 0 l' = fgs 0 l → c' ≤ b) : OptP A T (fun l' c' => Pr l' c' ∨ (l' = l ∧ c' = b)) (if bFl A T l b = 0 then wgh s 0 (bVa A T l b) (fgs 0 l) b else s) := by
  obtain ⟨h0, h1, h2⟩ := h
  by_cases ok : bFl A T l b = 0
  · rw [if_pos ok]
    unfold wgh
    by_cases c : s.1 = 0 ∨ 0 < s.2.1 ∨ (0 = s.2.1 ∧ (s.2.2.1 < bVa A T l b ∨ (bVa A T l b = s.2.2.1 ∧ fgs 0 l < s.2.2.2.1)))
    · rw [if_pos c]
      refine ⟨by show 0 ≤ s.1 + 1; omega, fun _ => ⟨rfl, l, b, Or.inr ⟨rfl, rfl⟩, ok, rfl, rfl, rfl⟩, fun l' c' q ok' => ⟨by show ¬ s.1 + 1 = 0; omega, ?_⟩⟩
      show bVa A T l' c' < bVa A T l b ∨ (bVa A T l' c' = bVa A T l b ∧ (fgs 0 l < fgs 0 l' ∨ (fgs 0 l = fgs 0 l' ∧ b ≤ c')))
      rcases q with q | ⟨q1, q2⟩
      · obtain ⟨nz, dom⟩ := h2 l' c' q ok'
        have m0 := (h1 nz).1
        omega
      · rw [q1, q2]; omega
    · rw [if_neg c]
      refine ⟨by show 0 ≤ s.1 + 1; omega, fun _ => ?_, fun l' c' q ok' => ⟨by show ¬ s.1 + 1 = 0; omega, ?_⟩⟩
      · obtain ⟨m, l0, c0, q, r⟩ := h1 (fun z => c (Or.inl z))
        exact ⟨m, l0, c0, Or.inl q, r⟩
      · show bVa A T l' c' < s.2.2.1 ∨ (bVa A T l' c' = s.2.2.1 ∧ (s.2.2.2.1 < fgs 0 l' ∨ (s.2.2.2.1 = fgs 0 l' ∧ s.2.2.2.2 ≤ c')))
        rcases q with q | ⟨q1, q2⟩
        · exact (h2 l' c' q ok').2
        · obtain ⟨m, l0, c0, q0, ok0, v0, f0, p0⟩ := h1 (fun z => c (Or.inl z))
          have ti := tie l0 c0 q0
          rw [q1, q2]
          omega
  · rw [if_neg ok]
    refine ⟨h0, fun z => ?_, fun l' c' q ok' => ?_⟩
    · obtain ⟨m, l0, c0, q, r⟩ := h1 z
      exact ⟨m, l0, c0, Or.inl q, r⟩
    · rcases q with q | ⟨q1, q2⟩
      · exact h2 l' c' q ok'
      · rw [q1, q2] at ok'; exact absurd ok' ok
theorem aw0 : ∀ (l : List Int) (p : Nat), awF (fun _ => -9) p l = 0
  | [], _ => rfl
  | x :: l, p => by rw [awF, aw0 l (p + 1), if_pos (Or.inl rfl)]; rfl
theorem bCn_c {l : List Int} {L : List (List Int)} {b : Int} : bCn A T (l :: L) b = bCn A T L b + if bFl A T l b = 0 then 1 else 0 := by
  unfold bCn
  rw [List.countP_cons]
  by_cases c : bFl A T l b = 0
  · rw [if_pos (by rw [c]; rfl), if_pos c]; omega
  · rw [if_neg (fun z => c (eq_of_beq z)), if_neg c]; omega
theorem Gs_cnt {hm : Nat → Int} {b : Int} : ∀ (L : List (List Int)) (s : S5), (L.foldl (Gs A T hm b) s).1 = s.1 + bCn A T L b
  | [], s => by show s.1 = s.1 + bCn A T [] b; unfold bCn; simp
  | l :: L, s => by
    rw [List.foldl_cons, Gs_cnt L, bCn_c]
    unfold Gs
    by_cases c : bFl A T l b = 0
    · rw [if_pos c, if_pos c]
      have : (wgh s (awF hm 0 l) (bVa A T l b) (fgs 0 l) b).1 = s.1 + 1 := by unfold wgh; split <;> rfl
      rw [this]; omega
    · rw [if_neg c, if_neg c]; omega
/-- one break's pass over all orders -/
theorem opt_pass {b : Int} {Pr : List Int → Int → Prop} (tie : ∀ l' c', Pr l' c' → c' ≤ b) : ∀ (L : List (List Int)) (s : S5), OptP A T Pr s → OptP A T (fun l c => Pr l c ∨ (l ∈ L ∧ c = b)) (L.foldl (Gs A T (fun _ => -9) b) s)
  | [], s, h => h.iff (fun l c => ⟨Or.inl, fun q => q.elim id (fun z => absurd z.1 List.not_mem_nil)⟩)
  | l :: L, s, h => by
    have st := opt_step (l := l) (b := b) h (fun l' c' q _ => tie l' c' q)
    have ge : Gs A T (fun _ => -9) b s l = if bFl A T l b = 0 then wgh s 0 (bVa A T l b) (fgs 0 l) b else s := by unfold Gs; rw [aw0]
    rw [List.foldl_cons, ge]
    have := opt_pass (Pr := fun l' c' => Pr l' c' ∨ (l' = l ∧ c' = b)) (fun l' c' q => by
      rcases q with q | ⟨_, q⟩
      · exact tie l' c' q
      · omega) L _ st
    refine this.iff (fun l' c' => ?_)
    rw [List.mem_cons]
    constructor
    · rintro ((q | ⟨q, r⟩) | ⟨q, r⟩)
      · exact Or.inl q
      · exact Or.inr ⟨Or.inl q, r⟩
      · exact Or.inr ⟨Or.inr q, r⟩
    · rintro (q | ⟨q | q, r⟩)
      · exact Or.inl (Or.inl q)
      · exact Or.inl (Or.inr ⟨q, r⟩)
      · exact Or.inr ⟨q, r⟩
theorem opt_best {S : List Int} {s : S5} (h : OptP A T (fun l c => l ∈ perms S.length S ∧ 0 ≤ c ∧ c < S.length) s) (hc : s.1 = bAll A T (perms S.length S) S.length) : BestOf A T S s.1 s.2.2.1 s.2.2.2.1 s.2.2.2.2 := by
  refine ⟨hc, fun nz => ?_⟩
  obtain ⟨m, l, c, q, ok, v, f, p⟩ := h.2.1 nz
  refine ⟨⟨l, q.1, f, by omega, by omega, by rw [← p]; exact ok, by rw [← p]; exact v⟩, fun l' hl' c' c0 c1 ok' => ?_⟩
  exact (h.2.2 l' c' ⟨hl', c0, c1⟩ ok').2
theorem best_uniq {S : List Int} {f t o b f' t' o' b' : Int} (h : BestOf A T S f t o b) (h' : BestOf A T S f' t' o' b') : f = f' ∧ (¬ f = 0 → t = t' ∧ o = o' ∧ b = b') := by
  have ff : f = f' := h.1.trans h'.1.symm
  refine ⟨ff, fun nz => ?_⟩
  obtain ⟨⟨l, q1, q2, q3, q4, q5, q6⟩, d⟩ := h.2 nz
  obtain ⟨⟨l', r1, r2, r3, r4, r5, r6⟩, d'⟩ := h'.2 (by rw [← ff]; exact nz)
  have x := d l' r1 b' r3 r4 r5
  have y := d' l q1 b q3 q4 q5
  omega
end Opt
theorem rem0 {S : List Int} (hS : S.Pairwise (fun a b => a < b)) : remL S 0 = S :=
  srt_uniq (R := fun a b => a < b) (fun a => by omega) (fun a b c _ _ => by omega) _ _ (rem_p hS 0) hS (fun y => by
    rw [rem_m]
    constructor
    · rintro ⟨p, hp, _, e⟩
      rw [← e]; exact getD_mem hp
    · intro hy
      obtain ⟨p, hp⟩ := List.getElem?_of_mem hy
      obtain ⟨hp1, _⟩ := List.getElem?_eq_some_iff.mp hp
      exact ⟨p, hp1, bt_0 p, by rw [List.getD_eq_getElem?_getD, hp]; rfl⟩)
theorem pw7 : ∀ n : Nat, n < 8 → (7 : Int) ^ n ≤ 823543 := by decide
/-- a search over all orders -/
theorem run_e {A T : Int → Int} {S : List Int} {c o b : Int} {hm : Nat → Int} {g : Mem} (B : BG A T S c o hm g) (b0 : 0 ≤ b) (bn : b < S.length) (g11 : g 33 11 = (S.length : Int)) (g12 : g 33 12 = b) (g13 : g 33 13 = 0) (s0 : 0 ≤ g o 3) (s1 : g o 3 ≤ 90000000) :
    ∃ h', F_X5_run o g = some (0, h') ∧ EF o b 0 g h' ∧ St o h' = (perms S.length S).foldl (Gs A T hm b) (St o g) ∧ g o 3 ≤ h' o 3 ∧ h' o 3 ≤ g o 3 + 823543 := by
  have p7 := pw7 S.length (by have := B.2.2.1.2; omega)
  obtain ⟨h', e, E, s, m1, m2⟩ := ext_e B b0 bn S.length [] 0 0 0 g 9 (by simp) (fun x hx => absurd hx List.not_mem_nil) (by omega) (Int.pow_pos (by omega)) (fun k hk => ⟨fun z => absurd z (by rw [bt_0]; decide), fun z => absurd z List.not_mem_nil⟩) rfl rfl (fun j hj => absurd hj (by simp)) ⟨Fr.rfl, g11, g12, fun j hj => absurd hj (by simp), fun _ => by rw [g13]; rfl⟩ s0 (by omega) (by have := B.2.2.1.2; omega)
  refine ⟨h', ?_, E, ?_, m1, by omega⟩
  · unfold F_X5_run F_X5_extend
    refine (bd_of e).trans ?_
    rfl
  · rw [s, rem0 B.2.1]
    congr 1
    exact List.map_id' _
