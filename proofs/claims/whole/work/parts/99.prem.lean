/-! what the start gives -/
theorem len_small {args : Array Value} {s : State} {t : Term} {v : Value} (h : (Term.length t).eval args s none [] s = some v) :
    ∃ b cell, t.eval args s none [] s = some (.ref b) ∧ s.arrayAt? b = some cell ∧ cell.slots.size < 2 ^ 31 ∧ v = .int cell.slots.size.toInt32 := by
  obtain ⟨b, cell, h1, h2, h3⟩ := Term.length_spec h
  refine ⟨b, cell, h1, h2, ?_, h3⟩
  simp only [Term.eval, Option.bind_eq_bind] at h
  rw [h1] at h
  simp only [Option.bind_some, h2] at h
  by_cases hs : cell.slots.size < 2 ^ 31
  · exact hs
  · simp [hs] at h
theorem immOf {s : State} {args : Array Value} {C nm : String} {l : List Int} (h8 : l.length = 8) (harr : (Cond.arrayOf (.static C nm "[I") .int).before args s = true) (hlen : (Cond.eq (.length (.static C nm "[I")) (.int 8)).before args s = true)
    (hel : ∀ j : Nat, j < 8 → (Cond.eq (.elem (.static C nm "[I") (.int (Int32.ofNat j))) (.int (immF l j))).before args s = true) :
    ∃ t : Nat, (Term.static C nm "[I").eval args s none [] s = some (.ref t) ∧ va_X t 8 (immF l) s s.heap ∧ t < s.heap.size := by
  have hl := va_eqt hlen
  obtain ⟨t, ht, cell, h1, h2, h3, h4, h5, h6, -⟩ := va_Tof (N := 8) (f := fun j => .int (immF l j)) (A := fun q => s.heap.size ≤ q) (by decide) harr hl (fun j hj => va_eqt (hel j hj)) (fun a ha => Nat.not_le.mpr ha)
  obtain ⟨b, cell2, g1, g2, g3, g4⟩ := len_small hl
  cases ht.symm.trans g1
  obtain ⟨g5, -⟩ := State.arrayAt?_spec g2
  cases h1.symm.trans g5
  have hsz : cell.slots.size = 8 := by
    have e := Value.int.inj g4
    have e2 : (8 : Int32).toInt = cell.slots.size.toInt32.toInt := congrArg Int32.toInt e
    rw [Int32.toInt_ofNat_small g3] at e2
    have : (8 : Int32).toInt = 8 := by decide
    omega
  exact ⟨t, ht, ⟨cell, h1, h2, h3, hsz, h6⟩, (Array.getElem?_eq_some_iff.mp h1).1⟩
