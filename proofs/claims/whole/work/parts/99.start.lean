/-! the law, from its entry to its end -/
theorem cl_inst : ∀ (ci : Nat) (q : vw_C), vwCl[ci]? = some q → Cond.instantiable q.1 q.2.2 ∈ gtb
  | 0, q, h => by cases h; exact List.mem_filter.mpr ⟨by decide +kernel, by decide⟩
  | 1, q, h => by cases h; exact List.mem_filter.mpr ⟨by decide +kernel, by decide⟩
  | 2, q, h => by cases h; exact List.mem_filter.mpr ⟨by decide +kernel, by decide⟩
  | 3, q, h => by cases h; exact List.mem_filter.mpr ⟨by decide +kernel, by decide⟩
  | 4, q, h => by cases h; exact List.mem_filter.mpr ⟨by decide +kernel, by decide⟩
  | 5, q, h => by cases h; exact List.mem_filter.mpr ⟨by decide +kernel, by decide⟩
  | 6, q, h => by cases h; exact List.mem_filter.mpr ⟨by decide +kernel, by decide⟩
  | 7, q, h => by cases h; exact List.mem_filter.mpr ⟨by decide +kernel, by decide⟩
  | 8, q, h => by cases h; exact List.mem_filter.mpr ⟨by decide +kernel, by decide⟩
  | n + 9, q, h => by simp [vwCl] at h
theorem arr_p {s : State} {args : Array Value} {t : FieldType} (h : (Cond.arrayClass t).before args s = true) : ∃ c : ClassId, s.vm.findClass ("[" ++ t.toString) = some c ∧ ArrOfT s c t := by
  obtain ⟨c, k, comp, h1, h2, h3⟩ := Cond.arrayClass_spec h
  exact ⟨c, h1, fun N z => ⟨(fun k h => by cases h), k, h2, comp, h3⟩⟩
theorem arr_o {s : State} {C : String} (h : va_AO C s) : ∃ c : ClassId, ArrOfT s c (.object C) ∧ va_RA s c (.object C) := by
  obtain ⟨comp, c, k, h1, h2, h3, h4, h5⟩ := Cond.arrayOver_spec h
  exact ⟨c, fun N z => ⟨(fun k h => by cases h), k, h3, comp, h4⟩, k, comp, h3, h4, h1, h5⟩
theorem known {s : State} {args : Array Value} (hts : ∀ w ∈ gtb, w.before args s = true) (h3 : va_AO "NineActs$Act" s) (h4 : va_AO "NineActs$Bill" s) : ∃ (D : va_G) (aC : Nat → ClassId), va_K D vwCl (tysL aC) s := by
  have hk : ∀ ci : Nat, ∃ q : ClassId × (Nat → Nat), ∀ r, vwCl[ci]? = some r → u_Kn s r.1 r.2.1 r.2.2 q.1 q.2 := by
    intro ci
    cases h : vwCl[ci]? with
    | none =>
      obtain ⟨cC, iS, -⟩ := u_known (C := RX0) (T := TX0) (N := 11) hts (cl_in 0 _ rfl) (hts _ (cl_inst 0 _ rfl))
      exact ⟨(cC, iS), fun r hr => by cases hr⟩
    | some r =>
      obtain ⟨cC, iS, hq⟩ := u_known (C := r.1) (T := r.2.1) (N := r.2.2) hts (cl_in ci _ h) (hts _ (cl_inst ci _ h))
      exact ⟨(cC, iS), fun r' hr => by cases hr; exact hq⟩
  obtain ⟨f, hf⟩ := Classical.axiomOfChoice hk
  obtain ⟨c0, a0, b0⟩ := arr_p (t := .int) (hts _ (List.mem_filter.mpr ⟨by decide +kernel, by decide⟩))
  obtain ⟨c1, a1, b1⟩ := arr_p (t := .char) (hts _ (List.mem_filter.mpr ⟨by decide +kernel, by decide⟩))
  obtain ⟨c2, a2, b2⟩ := arr_p (t := .boolean) (hts _ (List.mem_filter.mpr ⟨by decide +kernel, by decide⟩))
  obtain ⟨c3, a3, b3⟩ := arr_o h3
  obtain ⟨c4, a4, b4⟩ := arr_o h4
  refine ⟨(fun k => (f k).1, fun k => (f k).2), fun k => match k with | 0 => c0 | 1 => c1 | 2 => c2 | 3 => c3 | _ => c4, fun k q hq => hf k q hq, fun k q hq => ?_⟩
  match k, hq with
  | 0, hq => cases hq; exact ⟨b0, a0⟩
  | 1, hq => cases hq; exact ⟨b1, a1⟩
  | 2, hq => cases hq; exact ⟨b2, a2⟩
  | 3, hq => cases hq; exact ⟨a3, b3⟩
  | 4, hq => cases hq; exact ⟨a4, b4⟩
  | n + 5, hq => simp [tysL] at hq
