/-! an order that holds families: sorted by families for each minute -/
def hval (F M : Int → Int) : Int → List Int → Int
  | _, [] => 0
  | t, x :: l => F x * (t + M x) + hval F M (t + M x) l
def hD (F M : Int → Int) (x : Int) : List Int → Int
  | [] => 0
  | a :: A => F x * M a - F a * M x + hD F M x A
def hlb (F M : Int → Int) (x y : Int) : Bool := decide (F x * M y < F y * M x)
def hRl (F M : Int → Int) (x y : Int) : Prop := F x * M y < F y * M x ∨ (F x * M y = F y * M x ∧ x < y)
section Hold
variable {F M : Int → Int}
theorem hval_mv {x : Int} {B : List Int} : ∀ (A : List Int) (t : Int), hval F M t (x :: (A ++ B)) + hD F M x A = hval F M t (A ++ x :: B)
  | [], t => by rw [hD]; simp only [List.nil_append, Int.add_zero]
  | a :: A, t => by
    have ih := hval_mv (x := x) (B := B) A (t + M a)
    simp only [List.cons_append, hval, hD] at ih ⊢
    rw [← ih, show t + M x + M a = t + M a + M x by omega]
    simp only [Int.mul_add]
    generalize hval F M (t + M a + M x) (A ++ B) = v
    generalize hD F M x A = d
    omega
theorem hR_irr (a : Int) : ¬ hRl F M a a := fun z => by unfold hRl at z; omega
theorem hR_tr (hM : ∀ x, 0 < M x) (a b c : Int) (h1 : hRl F M a b) (h2 : hRl F M b c) : hRl F M a c := by
  have ma := hM a
  have mb := hM b
  have mc := hM c
  unfold hRl at *
  have key : ∀ p q r s : Int, p ≤ q → r ≤ s → p * M c ≤ q * M c ∧ r * M a ≤ s * M a := fun p q r s u v => ⟨Int.mul_le_mul_of_nonneg_right u (by omega), Int.mul_le_mul_of_nonneg_right v (by omega)⟩
  have k := key (F a * M b) (F b * M a) (F b * M c) (F c * M b) (by omega) (by omega)
  have e1 : F a * M b * M c = F a * M c * M b := by rw [Int.mul_assoc, Int.mul_comm (M b), ← Int.mul_assoc]
  have e2 : F b * M a * M c = F b * M c * M a := by rw [Int.mul_assoc, Int.mul_comm (M a), ← Int.mul_assoc]
  have e3 : F c * M b * M a = F c * M a * M b := by rw [Int.mul_assoc, Int.mul_comm (M b), ← Int.mul_assoc]
  by_cases c1 : F a * M c < F c * M a
  · exact Or.inl c1
  · have d1 : F c * M a * M b ≤ F a * M c * M b := Int.mul_le_mul_of_nonneg_right (by omega) (by omega)
    rw [e1, e2] at k
    rw [e3] at k
    have q1 : F a * M c * M b = F c * M a * M b := by omega
    have q2 : F a * M c = F c * M a := Int.eq_of_mul_eq_mul_right (by omega) q1
    refine Or.inr ⟨q2, ?_⟩
    rcases h1 with h1 | h1
    · have s := Int.mul_lt_mul_of_pos_right h1 mc
      rw [e1, e2] at s
      omega
    · rcases h2 with h2 | h2
      · have s := Int.mul_lt_mul_of_pos_right h2 ma
        rw [e3] at s
        omega
      · omega
theorem hR_tri (a b : Int) (h : ¬ a = b) : hRl F M a b ∨ hRl F M b a := by unfold hRl; omega
/-- the order that holds, of a row in its order -/
def hSrt (F M : Int → Int) (L : List Int) : List Int := isort (hlb F M) [] L
theorem hSrt_p (hM : ∀ x, 0 < M x) {L : List Int} (hL : L.Pairwise (fun a b => a < b)) : (hSrt F M L).Pairwise (hRl F M) := by
  refine isort_sorted (hR_tr hM) L [] List.Pairwise.nil (fun y hy => absurd hy List.not_mem_nil) (hL.imp (fun {y x} z => ⟨?_, hR_tri x y (by omega)⟩))
  unfold hlb hRl
  rw [decide_eq_true_iff]
  omega
theorem hSrt_m {L : List Int} {x : Int} : x ∈ hSrt F M L ↔ x ∈ L := by
  unfold hSrt
  rw [(isort_perm _ _).mem_iff, List.nil_append]
theorem hSrt_l {L : List Int} : (hSrt F M L).length = L.length := by
  unfold hSrt
  rw [(isort_perm _ _).length_eq, List.nil_append]
theorem hD_nn {x : Int} : ∀ A : List Int, (∀ a ∈ A, hRl F M a x) → 0 ≤ hD F M x A
  | [], _ => Int.le_refl _
  | a :: A, h => by
    have ih := hD_nn A (fun b hb => h b (List.mem_cons_of_mem _ hb))
    have ha := h a List.mem_cons_self
    unfold hRl at ha
    rw [hD]
    generalize hD F M x A = d at *
    omega
/-- one act taken first, the rest in the order that holds -/
theorem h_best (hM : ∀ x, 0 < M x) {L L' : List Int} {x t : Int} (hL : L.Pairwise (fun a b => a < b)) (hL' : L'.Pairwise (fun a b => a < b)) (hx : x ∈ L) (hm : ∀ y, y ∈ L' ↔ y ∈ L ∧ ¬ y = x) :
    F x * (t + M x) + hval F M (t + M x) (hSrt F M L') ≤ hval F M t (hSrt F M L) ∧
    ∃ y T, hSrt F M L = y :: T ∧ (x = y → F x * (t + M x) + hval F M (t + M x) (hSrt F M L') = hval F M t (hSrt F M L) ∧ hSrt F M L' = T) ∧ (x < y → F x * (t + M x) + hval F M (t + M x) (hSrt F M L') < hval F M t (hSrt F M L)) := by
  have hp := hSrt_p (F := F) hM hL
  have hp' := hSrt_p (F := F) hM hL'
  obtain ⟨A, B, e⟩ := List.append_of_mem (hSrt_m (F := F) (M := M).mpr hx)
  rw [e] at hp
  have ha := List.pairwise_append.mp hp
  have hb := List.pairwise_cons.mp ha.2.1
  have nA : ¬ x ∈ A := fun z => hR_irr x (ha.2.2 x z x List.mem_cons_self)
  have nB : ¬ x ∈ B := fun z => hR_irr x (hb.1 x z)
  have e' : hSrt F M L' = A ++ B := by
    refine srt_uniq hR_irr (hR_tr hM) _ _ hp' (List.pairwise_append.mpr ⟨ha.1, hb.2, fun a qa b qb => ha.2.2 a qa b (List.mem_cons_of_mem _ qb)⟩) (fun y => ?_)
    rw [hSrt_m, hm, ← hSrt_m (F := F) (M := M), e, List.mem_append, List.mem_append, List.mem_cons]
    constructor
    · rintro ⟨q | q | q, n⟩
      · exact Or.inl q
      · exact absurd q n
      · exact Or.inr q
    · rintro (q | q)
      · exact ⟨Or.inl q, fun z => nA (z ▸ q)⟩
      · exact ⟨Or.inr (Or.inr q), fun z => nB (z ▸ q)⟩
  have mv := hval_mv (F := F) (M := M) (x := x) (B := B) A t
  rw [hval, ← e', ← e] at mv
  have ra : ∀ a ∈ A, hRl F M a x := fun a qa => ha.2.2 a qa x List.mem_cons_self
  have nn := hD_nn A ra
  refine ⟨by omega, ?_⟩
  cases A with
  | nil =>
    refine ⟨x, B, e, fun _ => ⟨?_, e'⟩, fun z => absurd z (by omega)⟩
    rw [hD] at mv; omega
  | cons a A =>
    refine ⟨a, A ++ x :: B, e, fun z => absurd (z ▸ List.mem_cons_self) nA, fun z => ?_⟩
    have r0 := ra a List.mem_cons_self
    have n1 := hD_nn A (fun b hb => ra b (List.mem_cons_of_mem _ hb))
    rw [hD] at mv
    unfold hRl at r0
    generalize hD F M x A = d at *
    generalize hval F M (t + M x) (hSrt F M L') = v1 at *
    generalize hval F M t (hSrt F M L) = v2 at *
    generalize F x * (t + M x) = v3 at *
    omega
theorem hval_b {K : Int} (hK : 0 ≤ K) : ∀ (l : List Int) (t : Int), (∀ x ∈ l, (0 ≤ F x ∧ F x ≤ 99) ∧ 1 ≤ M x ∧ M x ≤ 30) → 0 ≤ t → t + 30 * l.length ≤ K → 0 ≤ hval F M t l ∧ hval F M t l ≤ 99 * K * l.length
  | [], t, _, _, _ => by rw [hval]; simp
  | x :: l, t, h, h0, hk => by
    have hx := h x List.mem_cons_self
    simp only [List.length_cons] at hk ⊢
    have ih := hval_b hK l (t + M x) (fun y hy => h y (List.mem_cons_of_mem _ hy)) (by omega) (by omega)
    have p := mul_b hx.1.1 hx.1.2 (show 0 ≤ t + M x by omega) (show t + M x ≤ K by omega)
    rw [hval]
    have e : 99 * K * ((l.length + 1 : Nat) : Int) = 99 * K * l.length + 99 * K := by
      rw [show ((l.length + 1 : Nat) : Int) = (l.length : Int) + 1 by omega, Int.mul_add, Int.mul_one]
    rw [e]
    generalize hval F M (t + M x) l = v at *
    generalize F x * (t + M x) = w at *
    generalize 99 * K * (l.length : Int) = u at *
    omega
end Hold
