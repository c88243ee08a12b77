/-! the first state is as the machine can have it -/
def canB (t : FieldType) (z : Int) : Bool := match t with
  | .long => decide (-9223372036854775808 ≤ z ∧ z < 9223372036854775808)
  | .object _ => true
  | .array _ => true
  | .boolean => decide (z = 0 ∨ z = 1)
  | .char => decide (0 ≤ z ∧ z < 65536)
  | _ => decide (-2147483648 ≤ z ∧ z < 2147483648)
theorem canB_T {t : FieldType} {z : Int} (h : canB t z = true) : canT t z := by
  cases t <;> first
    | exact trivial
    | exact of_decide_eq_true (p := -2147483648 ≤ z ∧ z < 2147483648) h
    | exact of_decide_eq_true (p := -9223372036854775808 ≤ z ∧ z < 9223372036854775808) h
    | exact of_decide_eq_true (p := 0 ≤ z ∧ z < 65536) h
    | exact of_decide_eq_true (p := z = 0 ∨ z = 1) h
theorem canT_0 (t : FieldType) : canT t 0 := canB_T (by cases t <;> rfl)
def PHk (h : Mem) : Prop := ∀ (k : Nat) (sp : Shp), SH[k]? = some sp → ∀ j : Nat, j < sp.2 → canT (slT sp j) (h (k + 1) j)
def okW (w : Int × Int × Int) : Bool := match shp w.1 with
  | some sp => canB (slT sp w.2.1.toNat) w.2.2
  | none => true
theorem PHk_w {h : Mem} {w : Int × Int × Int} (hw : okW w = true) (hP : PHk h) : PHk (wr h w.1 w.2.1 w.2.2) := by
  intro k sp hs j hj
  by_cases e : (k : Int) + 1 = w.1 ∧ (j : Int) = w.2.1
  · obtain ⟨e1, e2⟩ := e
    unfold okW at hw
    rw [← e1, shp_of hs, ← e2, Int.toNat_natCast] at hw
    rw [e1, e2, wr_hit]
    exact canB_T hw
  · unfold wr; rw [if_neg e]; exact hP k sp hs j hj
theorem PHk_ws : ∀ (l : List (Int × Int × Int)) {h : Mem}, l.all okW = true → PHk h → PHk (wrs h l)
  | [], _, _, hP => hP
  | w :: l, h, hl, hP => by
    rw [List.all_cons, Bool.and_eq_true] at hl
    exact PHk_ws l hl.2 (PHk_w hl.1 hP)
def GFok (i : Nat) (k : Nat) : Bool := match GF ((i : Int) + 1) k with
  | some z => h0 ((i : Int) + 1) k == z
  | none => true
def GFall : Bool := (List.range 75).all (fun i => match SH[i]? with
  | some sp => (List.range sp.2).all (fun k => GFok i k)
  | none => false)
theorem GFall_ok : GFall = true := by decide +kernel
theorem Hok_h0 : Hok h0 := by
  refine ⟨PHk_ws LM2 (by decide +kernel) (PHk_ws LM1 (by decide +kernel) (fun k sp hs j hj => canT_0 _)), fun r k z k0 hk hg => ?_⟩
  cases hs : shp r with
  | none => unfold GF at hg; rw [hs] at hg; cases hg
  | some sp =>
    obtain ⟨r1, r2⟩ := shp_at hs
    have hlt := hk sp hs
    have hi : (r - 1).toNat < 75 := (List.getElem?_eq_some_iff.mp r2).1
    have h1 := List.all_eq_true.mp GFall_ok (r - 1).toNat (List.mem_range.mpr hi)
    rw [r2] at h1
    have h2 := List.all_eq_true.mp h1 k.toNat (List.mem_range.mpr (by omega))
    unfold GFok at h2
    rw [show (((r - 1).toNat : Nat) : Int) + 1 = r by omega, show ((k.toNat : Nat) : Int) = k by omega, hg] at h2
    exact eq_of_beq h2
