/-! the law, from its entry to its end -/
theorem cl_inst : ∀ (ci : Nat) (q : vw_C), vwCl[ci]? = some q → Cond.instantiable q.1 q.2.2 ∈ gtb
  | 0, q, h => by cases h; exact List.mem_filter.mpr ⟨by decide +kernel, by decide⟩
  | 1, q, h => by cases h; exact List.mem_filter.mpr ⟨by decide +kernel, by decide⟩
  | 2, q, h => by cases h; exact List.mem_filter.mpr ⟨by decide +kernel, by decide⟩
  | 3, q, h => by cases h; exact List.mem_filter.mpr ⟨by decide +kernel, by decide⟩
  | 4, q, h => by cases h; exact List.mem_filter.mpr ⟨by decide +kernel, by decide⟩
  | 5, q, h => by cases h; exact List.mem_filter.mpr ⟨by decide +kernel, by decide⟩
  | 6, q, h => by cases h; exact List.mem_filter.mpr ⟨by decide +kernel, by decide⟩
  | 7, q, h => by cases h; exact List.mem_filter.mpr ⟨by decide +kernel, by decide⟩
  | 8, q, h => by cases h; exact List.mem_filter.mpr ⟨by decide +kernel, by decide⟩
  | n + 9, q, h => by simp [vwCl] at h
theorem arr_p {s : State} {args : Array Value} {t : FieldType} (h : (Cond.arrayClass t).before args s = true) : ∃ c : ClassId, s.vm.findClass ("[" ++ t.toString) = some c ∧ ArrOfT s c t := by
  obtain ⟨c, k, comp, h1, h2, h3⟩ := Cond.arrayClass_spec h
  exact ⟨c, h1, fun N z => ⟨(fun k h => by cases h), k, h2, comp, h3⟩⟩
theorem arr_o {s : State} {C : String} (h : va_AO C s) : ∃ c : ClassId, ArrOfT s c (.object C) ∧ va_RA s c (.object C) := by
  obtain ⟨comp, c, k, h1, h2, h3, h4, h5⟩ := Cond.arrayOver_spec h
  exact ⟨c, fun N z => ⟨(fun k h => by cases h), k, h3, comp, h4⟩, k, comp, h3, h4, h1, h5⟩
theorem known {s : State} {args : Array Value} (hts : ∀ w ∈ gtb, w.before args s = true) (h3 : va_AO "NineActs$Act" s) (h4 : va_AO "NineActs$Bill" s) : ∃ (D : va_G) (aC : Nat → ClassId), va_K D vwCl (tysL aC) s := by
  have hk : ∀ ci : Nat, ∃ q : ClassId × (Nat → Nat), ∀ r, vwCl[ci]? = some r → u_Kn s r.1 r.2.1 r.2.2 q.1 q.2 := by
    intro ci
    cases h : vwCl[ci]? with
    | none =>
      obtain ⟨cC, iS, -⟩ := u_known (C := RX0) (T := TX0) (N := 11) hts (cl_in 0 _ rfl) (hts _ (cl_inst 0 _ rfl))
      exact ⟨(cC, iS), fun r hr => by cases hr⟩
    | some r =>
      obtain ⟨cC, iS, hq⟩ := u_known (C := r.1) (T := r.2.1) (N := r.2.2) hts (cl_in ci _ h) (hts _ (cl_inst ci _ h))
      exact ⟨(cC, iS), fun r' hr => by cases hr; exact hq⟩
  obtain ⟨f, hf⟩ := Classical.axiomOfChoice hk
  obtain ⟨c0, a0, b0⟩ := arr_p (t := .int) (hts _ (List.mem_filter.mpr ⟨by decide +kernel, by decide⟩))
  obtain ⟨c1, a1, b1⟩ := arr_p (t := .char) (hts _ (List.mem_filter.mpr ⟨by decide +kernel, by decide⟩))
  obtain ⟨c2, a2, b2⟩ := arr_p (t := .boolean) (hts _ (List.mem_filter.mpr ⟨by decide +kernel, by decide⟩))
  obtain ⟨c3, a3, b3⟩ := arr_o h3
  obtain ⟨c4, a4, b4⟩ := arr_o h4
  refine ⟨(fun k => (f k).1, fun k => (f k).2), fun k => match k with | 0 => c0 | 1 => c1 | 2 => c2 | 3 => c3 | _ => c4, fun k q hq => hf k q hq, fun k q hq => ?_⟩
  match k, hq with
  | 0, hq => cases hq; exact ⟨b0, a0⟩
  | 1, hq => cases hq; exact ⟨b1, a1⟩
  | 2, hq => cases hq; exact ⟨b2, a2⟩
  | 3, hq => cases hq; exact ⟨a3, b3⟩
  | 4, hq => cases hq; exact ⟨a4, b4⟩
  | n + 5, hq => simp [tysL] at hq
theorem m_lt {r : Int} {sp : Shp} (h : shM r = some sp) : mpos r < 78 := by
  have := (List.getElem?_eq_some_iff.mp (om_at h)).1
  have e : ORD.length = 78 := by decide +kernel
  omega
/-- the world behind the makers is the walk's world, but for the nobodies and the order -/
theorem wg_ws {D : va_G} {ad : Int → Nat} {aC : Nat → ClassId} {h : Mem} {H : Heap} (hP : va_P D vwCl (wg 78 ad aC h) H) : va_P D vwCl (wsOf SH ad aC h) H := by
  intro k q hk
  unfold wsOf at hk
  rw [List.getElem?_mapIdx] at hk
  cases hs : SH[k]? with
  | none => rw [hs] at hk; cases hk
  | some sp =>
    rw [hs] at hk
    cases hk
    have h1 := shp_M (shp_of hs)
    exact hP _ _ (wg_at h1 (m_lt h1))
theorem ws_apart {ad : Int → Nat} {aC : Nat → ClassId} {A : Nat → Prop} {base : Nat} {h : Mem} (hA : ∀ q, base ≤ q → A q) (ha : Ad ad base) : va_D A (wsOf SH ad aC h) := by
  have e : ∀ (k : Nat) (q : Nat × va_E), (wsOf SH ad aC h)[k]? = some q → q.1 = base + mpos ((k : Int) + 1) ∧ ORD[mpos ((k : Int) + 1)]? = some ((k : Int) + 1) := by
    intro k q hk
    unfold wsOf at hk
    rw [List.getElem?_mapIdx] at hk
    cases hs : SH[k]? with
    | none => rw [hs] at hk; cases hk
    | some sp =>
      rw [hs] at hk
      cases hk
      have h1 := shp_M (shp_of hs)
      exact ⟨ha _ (shM_at h1).1, om_at h1⟩
  refine ⟨fun i j p q hi hj hpq => ?_, fun k q hk => ?_⟩
  · have a := e i p hi
    have b := e j q hj
    have c : mpos ((i : Int) + 1) = mpos ((j : Int) + 1) := by have := a.1; have := b.1; omega
    have d := a.2
    rw [c, b.2] at d
    have := Option.some.inj d
    omega
  · rw [(e k q hk).1]; exact hA _ (by omega)
theorem whole_start {p : Program} {e : Env} {s : State} {m : MethodId} {below : List Frame} {meth : Method} {c : Code} (l : Launch) (hflags : l.flags = flags0) {b L : Nat} {xs : Nat → Int32} (hL : L ≤ 2560) (C0 : lw_At p s m meth c b L xs) : W p l e room_1 s m #[Value.ref b] below meth c s.heap [] 0 0 (lw_Z below #[Value.ref b] s) (entryFrame m ([Value.ref b] : List Value).toArray 4) := by
  obtain ⟨hx, hb, hr, hml, hown, hts, hX, hbl, hlocks, hgv⟩ := C0
  obtain ⟨ad, ha, hb1, hC, cell, cA, t1, t2, t3⟩ := prem (X := (L, xs)) hts hgv hX hbl
  have hg : ∀ w ∈ gtb, w.before #[Value.ref b] s = true := fun w hw => hts w (List.mem_filter.mp hw).1
  have hNw : Nws s := ⟨va_AO.of (hts (.arrayOver (.object "NineActs$Act")) (by decide +kernel)), va_AO.of (hts (.arrayOver (.object "NineActs$Bill")) (by decide +kernel)), va_Nw.of rfl (hts (.castable "[I" "java/lang/Cloneable") (by decide +kernel)), va_Nw.of rfl (hts (.fieldLinkNest "NineActs$Show" 9 "NineActs" "TUNE_AT_FIRST" "[I" "NineActs") (by decide +kernel))⟩
  obtain ⟨D, aC, hK⟩ := known hg hNw.1 hNw.2.1
  have hf0 : s.vm.findClass "[I" = some (aC 0) := (hK.2 0 _ (tys_at aC (k := 100) (by omega) (by omega))).2
  have hCx : Cx (L, xs) ML_law p s m #[Value.ref b] c D ad aC (fun q => s.heap.size ≤ q) := ⟨hx, hb, hml, hown, hg, hK, fun q hq => hq, hC⟩
  have hG : GCx (L, xs) ML_law false p s m #[Value.ref b] meth c D ad aC (fun q => s.heap.size ≤ q) s.heap.size :=
    ⟨hCx, (fun q => absurd q (by decide)), ha, fun q hq => hq, ⟨cell, t1, t2.trans (Option.some.inj (t3.symm.trans hf0))⟩, hNw⟩
  rw [lg_entry_eq]
  have hav : [((2, -1) : AV)].map (av ad) = [.ref b] := by
    show [av ad (2, -1)] = [.ref b]
    rw [av_nz (show ¬ (-1 : Int) = 0 by decide), hb1]
  have hLc := ent_loc (ad := ad) (vs := [(2, -1)]) (n := 4) (by decide)
  rw [hav] at hLc
  refine G_law (L, xs) p l e s m _ below meth c s.heap [] 0 0 _ D ad aC (fun q => s.heap.size ≤ q) s.heap.size _ hG ⟨fun k q hq => by simp [wg] at hq, rfl, va_S.rf⟩ hLc (Nat.zero_le _) (Nat.le_of_ble_eq_true rfl) (Nat.le_of_ble_eq_true rfl) ?_
  intro H' locs' lsm' hW hL'
  dsimp only at hW hL' ⊢
  obtain ⟨hP, hz, hS⟩ := hW
  replace hP := wg_ws hP
  have hD : va_D (fun q => s.heap.size ≤ q) (wsOf SH ad aC h0) := ws_apart (fun q hq => hq) ha
  obtain ⟨hE, hF⟩ := law_one (L, xs) hL h0 RR_h0
  refine S_law (L, xs) (Nat.lt_of_le_of_lt hL (Nat.le_of_ble_eq_true rfl)) h0 (1, hE) hF p l e s m _ below meth c H' locs' _ _ _ D ad aC (fun q => s.heap.size ≤ q) lsm' hCx hP hD hS hL' (Can.r (Can.r (Can.r (Can.of ⟨(fun q => absurd q (by decide)), (fun q => absurd q (by decide))⟩ Can.nil)))) Can.nil Hok_h0 (Nat.le_of_ble_eq_true rfl) (Nat.le_of_ble_eq_true rfl) ?_
  intro r h' H2 locs2 lsm2 pc2 hΦ ho hcr hP2 hD2 hS2 hret
  obtain ⟨rfl, -, -⟩ := hΦ
  refine va_forget (fun q hq => hS2.2.2 q hq) ?_
  refine W.widen (k := 600000) (n := 7302250) (Nat.le_of_ble_eq_true rfl) (Nat.le_of_ble_eq_true rfl) ?_
  exact lw_ret hx hb hr hlocks hret
