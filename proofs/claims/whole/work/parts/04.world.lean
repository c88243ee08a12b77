/-! the walk's world: every cell of the run has a code (1 .. 75, in the order of their making); memory is a function of code and slot -/
def gtb : List Cond := lw_tbl.filter goodWord
abbrev AV : Type := Nat × Int
abbrev Mem : Type := Int → Int → Int
abbrev Shp : Type := Nat × Nat
abbrev MD : Type := String × ByteArray × Nat
abbrev XS : Type := Nat × (Nat → Int32)
/-- 0 an int, 1 a long, 2 a reference (0: null) -/
def av (ad : Int → Nat) (v : AV) : Value := match v.1 with
  | 0 => .int (Int32.ofInt v.2)
  | 1 => .long (Int64.ofInt v.2)
  | _ => if v.2 = 0 then .null else .ref (ad v.2)
def fty (ci : Nat) : Nat → FieldType := match ci with
  | 0 => tyX0 | 1 => tyX1 | 2 => tyX2 | 3 => tyX3 | 4 => tyX4 | 5 => tyX5 | 6 => tyX6 | 7 => tyX7 | _ => tyX8
def ftag (t : FieldType) : Nat := match t with
  | .long => 1
  | .object _ => 2
  | .array _ => 2
  | _ => 0
/-- kinds below 100: an object of that class; 100 int[], 101 char[], 102 boolean[], 103 Act[], 104 Bill[] (images), 105 Act[] (members) -/
def aty (k : Nat) : FieldType := match k with
  | 100 => .int
  | 101 => .char
  | 102 => .boolean
  | 104 => .object "NineActs$Bill"
  | _ => .object "NineActs$Act"
def aix (k : Nat) : Nat := match k with
  | 100 => 0
  | 101 => 1
  | 102 => 2
  | 104 => 4
  | _ => 3
def tysL (aC : Nat → ClassId) : List (ClassId × FieldType) := [(aC 0, .int), (aC 1, .char), (aC 2, .boolean), (aC 3, .object "NineActs$Act"), (aC 4, .object "NineActs$Bill")]
def cellE (ad : Int → Nat) (aC : Nat → ClassId) (sp : Shp) (g : Int → Int) : va_E :=
  if sp.1 < 100 then .inr (sp.1, (List.range sp.2).map (fun j => av ad (ftag (fty sp.1 j), g j)))
  else if sp.1 < 103 then .inl (aC (aix sp.1), sp.2, .inl (fun j => Int32.ofInt (g j)))
  else .inl (aC (aix sp.1), sp.2, .inr (.inr (.inr (.inr (fun j => if g j = 0 then none else some (ad (g j)))))))
def wsOf (sh : List Shp) (ad : Int → Nat) (aC : Nat → ClassId) (h : Mem) : va_W := sh.mapIdx (fun k sp => (ad (k + 1), cellE ad aC sp (h (k + 1))))
/-- the shapes of the run's cells -/
def SH : List Shp :=
  [(7, 13), (4, 6), (101, 400)] ++ ((2, 2) :: (105, 9) :: List.replicate 9 (0, 11)) ++ ((2, 2) :: (105, 9) :: List.replicate 9 (0, 11)) ++ [(1, 5), (100, 9), (104, 2), (1, 5), (100, 9), (1, 5), (100, 9)]
  ++ [(6, 14), (100, 8), (103, 10)] ++ List.replicate 9 (100, 10) ++ [(5, 8), (103, 7), (100, 7), (5, 8), (103, 7), (100, 7), (3, 5), (100, 81), (100, 81), (0, 11), (100, 9)]
  ++ [(8, 41), (100, 400), (100, 180), (100, 8), (100, 9), (100, 12), (100, 24), (102, 2)] ++ List.replicate 7 (100, 10) ++ [(100, 60), (100, 60), (100, 60), (100, 10), (100, 512)]
def shp (r : Int) : Option Shp := if 1 ≤ r then SH[(r - 1).toNat]? else none
def okO (ci : Nat) (r : Int) : Bool := match shp r with
  | some sp => sp.1 == ci && Nat.blt ci 100
  | none => false
/-- final references: how far behind the object -/
def foff (ci : Nat) (k : Int) : Option Int := match ci with
  | 1 => if k = 0 then some 1 else none
  | 2 => if k = 0 then some 1 else none
  | 3 => if 0 ≤ k ∧ k < 2 then some (1 + k) else none
  | 4 => if k = 0 then some 1 else none
  | 5 => if 0 ≤ k ∧ k < 2 then some (1 + k) else none
  | 6 => if 0 ≤ k ∧ k < 11 then some (1 + k) else none
  | 7 => if k = 0 then some 1 else if k = 3 then some 25 else if k = 4 then some 27 else if k = 5 then some 32 else if k = 6 then some 44 else if k = 7 then some 47 else if k = 8 then some 50 else if k = 9 then some 53 else if k = 10 then some 54 else none
  | 8 => if k = 2 then some 1 else if k = 9 then some 2 else if 12 ≤ k ∧ k < 18 then some (k - 9) else if 20 ≤ k ∧ k < 26 then some (k - 11) else if 30 ≤ k ∧ k < 33 then some (k - 15) else if 39 ≤ k ∧ k < 41 then some (k - 21) else none
  | 104 => some (1 + 2 * k)
  | 105 => some (1 + k)
  | _ => none
def GF (r k : Int) : Option Int := match shp r with
  | some sp => (foff sp.1 k).map (fun o => r + o)
  | none => none
def canT (t : FieldType) (z : Int) : Prop := match t with
  | .long => in64 z
  | .object _ => True
  | .array _ => True
  | .boolean => z = 0 ∨ z = 1
  | .char => 0 ≤ z ∧ z < 65536
  | _ => in32 z
def slT (sp : Shp) (j : Nat) : FieldType := if sp.1 < 100 then fty sp.1 j else aty sp.1
/-- a memory as the machine can have it: numbers within their types, final references as they were made -/
def Hok (h : Mem) : Prop := (∀ (k : Nat) (sp : Shp), SH[k]? = some sp → ∀ j : Nat, j < sp.2 → canT (slT sp j) (h (k + 1) j)) ∧ ∀ r k z : Int, 0 ≤ k → (∀ sp, shp r = some sp → k < sp.2) → GF r k = some z → h r k = z
def Can (l : List AV) : Prop := ∀ v ∈ l, (v.1 = 0 → in32 v.2) ∧ (v.1 = 1 → in64 v.2)
def wr (h : Mem) (r k v : Int) : Mem := fun r' k' => if r' = r ∧ k' = k then v else h r' k'
theorem Can.nil : Can [] := fun v h => by cases h
theorem Can.tl {v : AV} {st : List AV} (h : Can (v :: st)) : Can st := fun w hw => h w (List.mem_cons_of_mem _ hw)
theorem Can.i {x : Int} {st : List AV} (hx : in32 x) (h : Can st) : Can ((0, x) :: st) := fun w hw => by
  rcases List.mem_cons.mp hw with rfl | hw
  · exact ⟨fun _ => hx, fun q => by cases q⟩
  · exact h w hw
theorem Can.l {x : Int} {st : List AV} (hx : in64 x) (h : Can st) : Can ((1, x) :: st) := fun w hw => by
  rcases List.mem_cons.mp hw with rfl | hw
  · exact ⟨fun q => (by cases q), fun _ => hx⟩
  · exact h w hw
theorem Can.r {x : Int} {st : List AV} (h : Can st) : Can ((2, x) :: st) := fun w hw => by
  rcases List.mem_cons.mp hw with rfl | hw
  · exact ⟨fun q => (by cases q), fun q => (by cases q)⟩
  · exact h w hw
theorem Can.i1 {x : Int} {st : List AV} (h : Can ((0, x) :: st)) : in32 x := (h _ List.mem_cons_self).1 rfl
theorem Can.l1 {x : Int} {st : List AV} (h : Can ((1, x) :: st)) : in64 x := (h _ List.mem_cons_self).2 rfl
theorem Can.of {v : AV} {st : List AV} (h : (v.1 = 0 → in32 v.2) ∧ (v.1 = 1 → in64 v.2)) (hs : Can st) : Can (v :: st) := fun w hw => by
  rcases List.mem_cons.mp hw with rfl | hw
  · exact h
  · exact hs w hw
theorem Can.app {a b : List AV} (ha : Can a) (hb : Can b) : Can (a ++ b) := fun w hw => (List.mem_append.mp hw).elim (ha w) (hb w)
theorem Can.at {l : List AV} (h : Can l) {i : Nat} {v : AV} (hi : l[i]? = some v) : (v.1 = 0 → in32 v.2) ∧ (v.1 = 1 → in64 v.2) := h v (List.mem_of_getElem? hi)
theorem av_cat (ad : Int → Nat) (v : AV) : (av ad v).category = if v.1 = 1 then 2 else 1 := by
  obtain ⟨t, z⟩ := v
  match t with
  | 0 => rfl
  | 1 => rfl
  | t + 2 =>
    unfold av
    by_cases hz : z = 0
    · simp [hz, Value.category]
    · simp [hz, Value.category]
/-! locals -/
def st1 : List AV → Nat → AV → List AV
  | [], _, _ => []
  | _ :: ls, 0, v => v :: ls
  | w :: ls, 1, v => (match w.1 with | 1 => (3, 0) | _ => w) :: st1 ls 0 v
  | w :: ls, i + 2, v => w :: st1 ls (i + 1) v
def stL : List AV → Nat → AV → List AV
  | [], _, _ => []
  | [_], 0, v => [v]
  | _ :: _ :: ls, 0, v => v :: (3, 0) :: ls
  | w :: ls, 1, v => (match w.1 with | 1 => (3, 0) | _ => w) :: stL ls 0 v
  | w :: ls, i + 2, v => w :: stL ls (i + 1) v
theorem m1_eq (w : AV) : (match w.1 with | 1 => ((3, 0) : AV) | _ => w) = if w.1 = 1 then (3, 0) else w := by
  split
  · rename_i h; rw [if_pos h]
  · rename_i h; rw [if_neg h]
theorem map_id (ls : List AV) {f : Nat → AV → AV} (h : ∀ j w, f j w = w) : ls.mapIdx f = ls := by
  apply List.ext_getElem?
  intro j
  rw [List.getElem?_mapIdx]
  cases ls[j]? with
  | none => rfl
  | some w => simp [h]
theorem st1_eq : ∀ (ls : List AV) (i : Nat) (v : AV), st1 ls i v = ls.mapIdx (fun j w => if j = i then v else if j + 1 = i ∧ w.1 = 1 then (3, 0) else w)
  | [], _, _ => by simp [st1]
  | w :: ls, 0, v => by
    rw [st1, List.mapIdx_cons, map_id ls (fun j w => by simp)]
    simp
  | w :: ls, 1, v => by
    rw [st1, st1_eq ls 0 v, List.mapIdx_cons, m1_eq]
    simp
  | w :: ls, i + 2, v => by
    rw [st1, st1_eq ls (i + 1) v, List.mapIdx_cons]
    simp
theorem stL_eq : ∀ (ls : List AV) (i : Nat) (v : AV), stL ls i v = ls.mapIdx (fun j w => if j = i then v else if j = i + 1 then (3, 0) else if j + 1 = i ∧ w.1 = 1 then (3, 0) else w)
  | [], _, _ => by simp [stL]
  | [w], 0, v => by simp [stL]
  | w :: w2 :: ls, 0, v => by
    rw [stL, List.mapIdx_cons, List.mapIdx_cons, map_id ls (fun j w => by simp)]
    simp
  | w :: ls, 1, v => by
    rw [stL, stL_eq ls 0 v, List.mapIdx_cons, m1_eq]
    simp
  | w :: ls, i + 2, v => by
    rw [stL, stL_eq ls (i + 1) v, List.mapIdx_cons]
    simp
def LcR (ad : Int → Nat) (lsm : Array Slot) (nL : Nat) (ls : List AV) : Prop := lsm.size = nL ∧ lv_wf lsm ∧ ls.length = nL ∧ ∀ (i : Nat) (v : AV), ls[i]? = some v → v.1 ≤ 2 → lsm[i]? = some (.val (av ad v))
def asl (ad : Int → Nat) (ls : List AV) : List (Nat × Value) := (ls.mapIdx (fun i v => (i, v))).filterMap (fun q => if q.2.1 ≤ 2 then some (q.1, av ad q.2) else none)
theorem asl_mem {ad : Int → Nat} {ls : List AV} {q : Nat × Value} : q ∈ asl ad ls ↔ ∃ v, ls[q.1]? = some v ∧ v.1 ≤ 2 ∧ q.2 = av ad v := by
  unfold asl
  rw [List.mem_filterMap]
  constructor
  · rintro ⟨⟨i, v⟩, hm, hq⟩
    obtain ⟨j, hj⟩ := List.getElem?_of_mem hm
    rw [List.getElem?_mapIdx] at hj
    cases hl : ls[j]? with
    | none => rw [hl] at hj; cases hj
    | some w =>
      rw [hl] at hj
      cases hj
      dsimp only at hq
      split at hq
      · cases hq
        exact ⟨_, hl, by assumption, rfl⟩
      · cases hq
  · rintro ⟨v, h1, h2, h3⟩
    refine ⟨(q.1, v), List.mem_of_getElem? (i := q.1) (by rw [List.getElem?_mapIdx, h1]; rfl), ?_⟩
    dsimp only
    rw [if_pos h2, ← h3]
theorem LcR.has {ad : Int → Nat} {lsm : Array Slot} {nL : Nat} {ls : List AV} (h : LcR ad lsm nL ls) : lv_has lsm nL (asl ad ls) := by
  refine ⟨h.1, h.2.1, fun q hq => ?_⟩
  obtain ⟨v, h1, h2, h3⟩ := asl_mem.mp hq
  rw [h3]
  exact h.2.2.2 _ v h1 h2
theorem LcR.at {ad : Int → Nat} {lsm : Array Slot} {nL : Nat} {ls : List AV} (h : LcR ad lsm nL ls) {i : Nat} {v : AV} (hi : ls[i]? = some v) (ht : v.1 ≤ 2) : lsm[i]? = some (.val (av ad v)) := h.2.2.2 i v hi ht
theorem LcR_st1 {ad : Int → Nat} {lsm lsm' : Array Slot} {nL : Nat} {ls : List AV} (h : LcR ad lsm nL ls) {i : Nat} {v : AV} (hv : v.1 ≤ 2)
    (h' : lv_has lsm' nL ((i, av ad v) :: (asl ad ls).filter (fun q => !(q.1 == i) && !(q.1 + 1 == i && q.2.category == 2)))) : LcR ad lsm' nL (st1 ls i v) := by
  refine ⟨h'.1, h'.2.1, by rw [st1_eq, List.length_mapIdx]; exact h.2.2.1, fun j w hj hw => ?_⟩
  rw [st1_eq] at hj
  rw [List.getElem?_mapIdx] at hj
  cases hl : ls[j]? with
  | none => rw [hl] at hj; cases hj
  | some u =>
    rw [hl] at hj
    simp only [Option.map_some, Option.some.injEq] at hj
    by_cases e : j = i
    · rw [if_pos e] at hj
      subst hj; subst e
      exact h'.2.2 _ List.mem_cons_self
    · rw [if_neg e] at hj
      by_cases f : j + 1 = i ∧ u.1 = 1
      · rw [if_pos f] at hj; subst hj; exact absurd hw (by decide)
      · rw [if_neg f] at hj
        subst hj
        refine h'.2.2 (j, av ad u) (List.mem_cons_of_mem _ (List.mem_filter.mpr ⟨asl_mem.mpr ⟨u, hl, hw, rfl⟩, ?_⟩))
        rw [av_cat]
        simp only [Bool.and_eq_true, Bool.not_eq_true', beq_eq_false_iff_ne, ne_eq, Bool.and_eq_false_iff]
        refine ⟨e, ?_⟩
        by_cases g : j + 1 = i
        · right
          rw [if_neg (fun z => f ⟨g, z⟩)]
          decide
        · exact Or.inl g
theorem LcR_stL {ad : Int → Nat} {lsm lsm' : Array Slot} {nL : Nat} {ls : List AV} (h : LcR ad lsm nL ls) {i : Nat} {v : AV} (hv : v.1 ≤ 2)
    (h' : lv_has lsm' nL ((i, av ad v) :: (asl ad ls).filter (fun q => !(q.1 == i) && (!(q.1 == i + 1) && !(q.1 + 1 == i && q.2.category == 2))))) : LcR ad lsm' nL (stL ls i v) := by
  refine ⟨h'.1, h'.2.1, by rw [stL_eq, List.length_mapIdx]; exact h.2.2.1, fun j w hj hw => ?_⟩
  rw [stL_eq] at hj
  rw [List.getElem?_mapIdx] at hj
  cases hl : ls[j]? with
  | none => rw [hl] at hj; cases hj
  | some u =>
    rw [hl] at hj
    simp only [Option.map_some, Option.some.injEq] at hj
    by_cases e : j = i
    · rw [if_pos e] at hj
      subst hj; subst e
      exact h'.2.2 _ List.mem_cons_self
    · rw [if_neg e] at hj
      by_cases e2 : j = i + 1
      · rw [if_pos e2] at hj; subst hj; exact absurd hw (by decide)
      · rw [if_neg e2] at hj
        by_cases f : j + 1 = i ∧ u.1 = 1
        · rw [if_pos f] at hj; subst hj; exact absurd hw (by decide)
        · rw [if_neg f] at hj
          subst hj
          refine h'.2.2 (j, av ad u) (List.mem_cons_of_mem _ (List.mem_filter.mpr ⟨asl_mem.mpr ⟨u, hl, hw, rfl⟩, ?_⟩))
          rw [av_cat]
          simp only [Bool.and_eq_true, Bool.not_eq_true', beq_eq_false_iff_ne, ne_eq, Bool.and_eq_false_iff]
          refine ⟨e, e2, ?_⟩
          by_cases g : j + 1 = i
          · right
            rw [if_neg (fun z => f ⟨g, z⟩)]
            decide
          · exact Or.inl g
theorem Can_st1 {ls : List AV} {i : Nat} {v : AV} (h : Can ls) (hv : (v.1 = 0 → in32 v.2) ∧ (v.1 = 1 → in64 v.2)) : Can (st1 ls i v) := by
  intro w hw
  obtain ⟨j, hj⟩ := List.getElem?_of_mem hw
  rw [st1_eq] at hj
  rw [List.getElem?_mapIdx] at hj
  cases hl : ls[j]? with
  | none => rw [hl] at hj; cases hj
  | some u =>
    rw [hl] at hj
    simp only [Option.map_some, Option.some.injEq] at hj
    split at hj
    · subst hj; exact hv
    · split at hj
      · subst hj; exact ⟨fun q => (by cases q), fun q => (by cases q)⟩
      · subst hj; exact h.at hl
theorem Can_stL {ls : List AV} {i : Nat} {v : AV} (h : Can ls) (hv : (v.1 = 0 → in32 v.2) ∧ (v.1 = 1 → in64 v.2)) : Can (stL ls i v) := by
  intro w hw
  obtain ⟨j, hj⟩ := List.getElem?_of_mem hw
  rw [stL_eq] at hj
  rw [List.getElem?_mapIdx] at hj
  cases hl : ls[j]? with
  | none => rw [hl] at hj; cases hj
  | some u =>
    rw [hl] at hj
    simp only [Option.map_some, Option.some.injEq] at hj
    split at hj
    · subst hj; exact hv
    · split at hj
      · subst hj; exact ⟨fun q => (by cases q), fun q => (by cases q)⟩
      · split at hj
        · subst hj; exact ⟨fun q => (by cases q), fun q => (by cases q)⟩
        · subst hj; exact h.at hl
