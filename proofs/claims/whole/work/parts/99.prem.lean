/-! what the start gives -/
theorem len_small {args : Array Value} {s : State} {t : Term} {v : Value} (h : (Term.length t).eval args s none [] s = some v) :
    ∃ b cell, t.eval args s none [] s = some (.ref b) ∧ s.arrayAt? b = some cell ∧ cell.slots.size < 2 ^ 31 ∧ v = .int cell.slots.size.toInt32 := by
  obtain ⟨b, cell, h1, h2, h3⟩ := Term.length_spec h
  refine ⟨b, cell, h1, h2, ?_, h3⟩
  simp only [Term.eval, Option.bind_eq_bind] at h
  rw [h1] at h
  simp only [Option.bind_some, h2] at h
  by_cases hs : cell.slots.size < 2 ^ 31
  · exact hs
  · simp [hs] at h
theorem immOf {s : State} {args : Array Value} {C nm : String} {l : List Int} (h8 : l.length = 8) (harr : (Cond.arrayOf (.static C nm "[I") .int).before args s = true) (hlen : (Cond.eq (.length (.static C nm "[I")) (.int 8)).before args s = true)
    (hel : ∀ j : Nat, j < 8 → (Cond.eq (.elem (.static C nm "[I") (.int (Int32.ofNat j))) (.int (immF l j))).before args s = true) :
    ∃ t : Nat, (Term.static C nm "[I").eval args s none [] s = some (.ref t) ∧ va_X t 8 (immF l) s s.heap ∧ t < s.heap.size := by
  have hl := va_eqt hlen
  obtain ⟨t, ht, cell, h1, h2, h3, h4, h5, h6, -⟩ := va_Tof (N := 8) (f := fun j => .int (immF l j)) (A := fun q => s.heap.size ≤ q) (by decide) harr hl (fun j hj => va_eqt (hel j hj)) (fun a ha => Nat.not_le.mpr ha)
  obtain ⟨b, cell2, g1, g2, g3, g4⟩ := len_small hl
  cases ht.symm.trans g1
  obtain ⟨g5, -⟩ := State.arrayAt?_spec g2
  cases h1.symm.trans g5
  have hsz : cell.slots.size = 8 := by
    have e := Value.int.inj g4
    have e2 : (8 : Int32).toInt = cell.slots.size.toInt32.toInt := congrArg Int32.toInt e
    rw [Int32.toInt_ofNat_small g3] at e2
    have : (8 : Int32).toInt = 8 := by decide
    omega
  exact ⟨t, ht, ⟨cell, h1, h2, h3, hsz, h6⟩, (Array.getElem?_eq_some_iff.mp h1).1⟩
abbrev gvC : Cond := Jvm.Cond.and given_1 narrow_1
def tmS (i : Nat) : Term := .string "NineActs$Script" (sIdx.getD i 0)
theorem p_ex : ∀ i, i < 7 → Cond.exactly (tmS i) "java/lang/String" ∈ flatC gvC := by decide +kernel
theorem p_co : ∀ i, i < 7 → Cond.eq (.field (tmS i) "java/lang/String" "coder" "B") (.int 0) ∈ flatC gvC := by decide +kernel
theorem p_ar : ∀ i, i < 7 → Cond.arrayOf (.field (tmS i) "java/lang/String" "value" "[B") .byte ∈ flatC gvC := by decide +kernel
theorem p_le : ∀ i, i < 7 → Cond.eq (.length (.field (tmS i) "java/lang/String" "value" "[B")) (.int (Int32.ofNat (sLen.getD i 0))) ∈ flatC gvC := by decide +kernel
theorem p_el : ∀ i, i < 7 → ∀ j, j < sLen.getD i 0 → Cond.eq (.elem (.field (tmS i) "java/lang/String" "value" "[B") (.int (Int32.ofNat j))) (.int ((sByt.getD i []).getD j 0)) ∈ flatC gvC := by decide +kernel
theorem p_ne : ∀ i, i < 7 → ∀ j, j < 7 → i ≠ j → (Cond.not (Cond.eq (tmS i) (tmS j)) ∈ flatC gvC ∨ Cond.not (Cond.eq (tmS j) (tmS i)) ∈ flatC gvC) := by decide +kernel
theorem p_l : ∀ j, j < 8 → Cond.eq (.elem (.static "NineActs" "TUNE_LEAST" "[I") (.int (Int32.ofNat j))) (.int (immF tuLeast j)) ∈ flatC gvC := by decide +kernel
theorem p_m : ∀ j, j < 8 → Cond.eq (.elem (.static "NineActs" "TUNE_MOST" "[I") (.int (Int32.ofNat j))) (.int (immF tuMost j)) ∈ flatC gvC := by decide +kernel
theorem p_f : ∀ j, j < 8 → Cond.eq (.elem (.static "NineActs" "TUNE_AT_FIRST" "[I") (.int (Int32.ofNat j))) (.int (immF tuFirst j)) ∈ flatC gvC := by decide +kernel
theorem p_sr : ∀ i, i < 7 → Cond.stringRef "NineActs$Script" (sIdx.getD i 0) (sTxt.getD i "") ∈ lw_tbl := by decide +kernel
def adP (sz b t2 t3 t4 t30 : Nat) (aK aV : Nat → Nat) (z : Int) : Nat :=
  if 1 ≤ z then sz + mpos z else if z = -1 then b else if z = -2 then t2 else if z = -3 then t3 else if z = -4 then t4 else if z = -30 then t30 else if -20 < z then aK (-10 - z).toNat else aV (-20 - z).toNat
theorem vk_cong {aK aV f g : Nat → Nat} {A : Nat → Prop} {U : State} {H : Heap} (h : vk_S 7 sLen sByt aK aV A U H) (hf : ∀ i, i < 7 → f i = aK i) (hg : ∀ i, i < 7 → g i = aV i) : vk_S 7 sLen sByt f g A U H :=
  ⟨fun i hi => by rw [hf i hi, hg i hi]; exact h.1 i hi, fun i j hi hj e => h.2 i j hi hj (by rw [← hf i hi, ← hf j hj]; exact e)⟩
theorem prem {s : State} {b : Nat} {X : XS} (hts : ∀ w ∈ lw_tbl, w.before #[Value.ref b] s = true) (hgv : gvC.before #[Value.ref b] s = true) (hX : va_X b X.1 X.2 s s.heap) (hbl : b < s.heap.size) :
    ∃ ad : Int → Nat, Ad ad s.heap.size ∧ ad (-1) = b ∧ Cst X ad (fun q => s.heap.size ≤ q) s s.heap ∧ ∃ (cell : Cell) (cA : ClassId), s.heap[ad (-4)]? = some cell ∧ cell.cls = cA ∧ s.vm.findClass "[I" = some cA := by
  have hs := flat_of_before _ hgv
  have hA : ∀ a : Nat, a < s.heap.size → ¬ s.heap.size ≤ a := fun a ha => Nat.not_le.mpr ha
  obtain ⟨t2, v2, x2, l2⟩ := immOf (C := "NineActs") (nm := "TUNE_LEAST") (l := tuLeast) rfl (hs _ (by decide +kernel)) (hs _ (by decide +kernel)) (fun j hj => hs _ (p_l j hj))
  obtain ⟨t3, v3, x3, l3⟩ := immOf (C := "NineActs") (nm := "TUNE_MOST") (l := tuMost) rfl (hs _ (by decide +kernel)) (hs _ (by decide +kernel)) (fun j hj => hs _ (p_m j hj))
  obtain ⟨t4, v4, x4, l4⟩ := immOf (C := "NineActs") (nm := "TUNE_AT_FIRST") (l := tuFirst) rfl (hs _ (by decide +kernel)) (hs _ (by decide +kernel)) (fun j hj => hs _ (p_f j hj))
  have hN : (Cond.initialized "NineActs").before #[Value.ref b] s = true := hts _ (by decide +kernel)
  have z2 := va_Zof (A := fun q => s.heap.size ≤ q) (hts (.laysStatic "NineActs" "TUNE_LEAST" "[I") (by decide +kernel)) hN v2 hA
  have z3 := va_Zof (A := fun q => s.heap.size ≤ q) (hts (.laysStatic "NineActs" "TUNE_MOST" "[I") (by decide +kernel)) hN v3 hA
  have z4 := va_Zof (A := fun q => s.heap.size ≤ q) (hts (.laysStatic "NineActs" "TUNE_AT_FIRST" "[I") (by decide +kernel)) hN v4 hA
  have zC := va_Zof (A := fun q => s.heap.size ≤ q) (hts (.laysStatic "java/lang/String" "COMPACT_STRINGS" "Z") (by decide +kernel)) (hts (.initialized "java/lang/String") (by decide +kernel)) (va_eqi (z := 1) (hs _ (by decide +kernel))) hA
  have zF := va_Zqof (A := fun q => s.heap.size ≤ q) (C := "jdk/internal/util/Preconditions") (n := "SIOOBE_FORMATTER") (d := "Ljava/util/function/BiFunction;") (hts _ (by decide +kernel)) (hts _ (by decide +kernel)) (hs _ (by decide +kernel)) hA
  obtain ⟨aK, aV, hS, hev⟩ := vk_Sof (A := fun q => s.heap.size ≤ q) (tm := tmS) (N := 7) (len := sLen) (byt := sByt) (by decide) (fun i hi => hs _ (p_ex i hi)) (fun i hi => hs _ (p_co i hi)) (fun i hi => hs _ (p_ar i hi)) (fun i hi => hs _ (p_le i hi)) (fun i hi j hj => hs _ (p_el i hi j hj)) (fun i j hi hj hij => (p_ne i hi j hj hij).imp (hs _) (hs _)) hA
  obtain ⟨a, cA, cell, k, e1, e2, e3, e4, e5, e6, -⟩ := Cond.exactly_spec (args := #[Value.ref b]) (first := s) (o := none) (s := s) (idx := []) (t := .static "NineActs" "TUNE_AT_FIRST" "[I") (cls := "[I") (hs (.exactly (.static "NineActs" "TUNE_AT_FIRST" "[I") "[I") (by decide +kernel))
  cases v4.symm.trans e1
  have fin : ∀ t30 : Nat, (va_Z "jdk/internal/util/Preconditions" "SIOOBE_FORMATTER" "Ljava/util/function/BiFunction;" .null (fun q => s.heap.size ≤ q) s s.heap ∨ va_Z "jdk/internal/util/Preconditions" "SIOOBE_FORMATTER" "Ljava/util/function/BiFunction;" (.ref t30) (fun q => s.heap.size ≤ q) s s.heap) →
      ∃ ad : Int → Nat, Ad ad s.heap.size ∧ ad (-1) = b ∧ Cst X ad (fun q => s.heap.size ≤ q) s s.heap ∧ ∃ (cell : Cell) (cA : ClassId), s.heap[ad (-4)]? = some cell ∧ cell.cls = cA ∧ s.vm.findClass "[I" = some cA := by
    intro t30 hF
    refine ⟨adP s.heap.size b t2 t3 t4 t30 aK aV, fun z hz => if_pos hz, rfl, ⟨⟨hX, hbl, hA b hbl⟩, ⟨x2, l2, hA _ l2⟩, ⟨x3, l3, hA _ l3⟩, ⟨x4, l4, hA _ l4⟩, z2, z3, z4, zC, hF, ?_, ?_⟩, cell, cA, e3, e6, e2⟩
    · refine vk_cong hS (fun i hi => ?_) (fun i hi => ?_)
      · unfold adP
        rw [if_neg (by omega), if_neg (by omega), if_neg (by omega), if_neg (by omega), if_neg (by omega), if_neg (by omega), if_pos (by omega)]
        congr 1; omega
      · unfold adP
        rw [if_neg (by omega), if_neg (by omega), if_neg (by omega), if_neg (by omega), if_neg (by omega), if_neg (by omega), if_neg (by omega)]
        congr 1; omega
    · intro i hi
      have e : adP s.heap.size b t2 t3 t4 t30 aK aV (-10 - (i : Int)) = aK i := by
        unfold adP
        rw [if_neg (by omega), if_neg (by omega), if_neg (by omega), if_neg (by omega), if_neg (by omega), if_neg (by omega), if_pos (by omega)]
        congr 1; omega
      rw [e]
      exact vk_R.of (hts _ (p_sr i hi)) (hev i hi)
  rcases zF with zF | ⟨t30, zF⟩
  · exact fin 0 (Or.inl zF)
  · exact fin t30 (Or.inr zF)
