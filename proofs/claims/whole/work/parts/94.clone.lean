/-! the tunes' row, copied -/
def wrs (h : Mem) (l : List (Int × Int × Int)) : Mem := l.foldl (fun h w => wr h w.1 w.2.1 w.2.2) h
def tuW (z : Int) : List (Int × Int × Int) := [(z, 0, 2), (z, 1, 180), (z, 2, 10), (z, 3, 2), (z, 4, 5), (z, 5, 1), (z, 6, 20), (z, 7, 400)]
/-- no cell beyond m is written -/
def Zr (m : Nat) (h : Mem) : Prop := ∀ r k : Int, m ≤ mpos r → h r k = 0
theorem Zr.w {m : Nat} {r k v : Int} {h : Mem} (hz : Zr m h) (hr : mpos r < m) : Zr m (wr h r k v) := fun r' k' h' => by
  rw [wr_ne (show r' ≠ r from fun q => by rw [q] at h'; omega)]; exact hz r' k' h'
theorem Zr.up {m m' : Nat} {h : Mem} (hz : Zr m h) (hm : m ≤ m') : Zr m' h := fun r k h' => hz r k (by omega)
theorem Zr.ws {m : Nat} {h : Mem} (l : List (Int × Int × Int)) (hz : Zr m h) (hl : ∀ w ∈ l, mpos w.1 < m) : Zr m (wrs h l) := by
  induction l generalizing h with
  | nil => exact hz
  | cons w l ih => exact ih (hz.w (hl w List.mem_cons_self)) (fun w' hw => hl w' (List.mem_cons_of_mem _ hw))
theorem Zr.at {m : Nat} {z : Int} {h : Mem} (hz : Zr m h) (hm : m ≤ mpos z) : ∀ k, h z k = 0 := fun k => hz z k hm
theorem wrs_app (h : Mem) (l1 l2 : List (Int × Int × Int)) : wrs (wrs h l1) l2 = wrs h (l1 ++ l2) := (List.foldl_append ..).symm
section Clone
variable {X : XS} {Y : MD} {I : Bool} {R : Room} {pc n2 : Nat} {ls st : List AV} {n : Nat} {h : Mem} {T : TG}
theorem wg_cong {ad : Int → Nat} {aC : Nat → ClassId} {h h' : Mem} (e : ∀ r : Int, mpos r < n → h' r = h r) : wg n ad aC h' = wg n ad aC h := by
  apply List.ext_getElem?
  intro j
  unfold wg
  rw [List.getElem?_map, List.getElem?_map]
  cases hc : (ORD.take n)[j]? with
  | none => rfl
  | some c =>
    have h1 := om_take hc
    simp only [Option.map_some]
    rw [e c (by omega)]
theorem r_clone {idx : Nat} {z : Int} (hd : dcd Y.2.1 pc = some (.invokevirtual idx, n2)) (hn2 : n2 = pc + 3) (hs : shM z = some (100, 8)) (hl : Cond.methodLink Y.1 idx ⟨"[I", "clone", "()Ljava/lang/Object;"⟩ ∈ gtb) (hsame : Cond.sameMethod "[I" "java/lang/Object" "clone" "()Ljava/lang/Object;" ∈ gtb)
    (hnat : Cond.native ⟨"java/lang/Object", "clone", "()Ljava/lang/Object;"⟩ ∈ gtb) (hinst : Cond.instanceMethod ⟨"java/lang/Object", "clone", "()Ljava/lang/Object;"⟩ ∈ gtb) (hsel : Cond.selects "[I" ⟨"[I", "clone", "()Ljava/lang/Object;"⟩ ⟨"java/lang/Object", "clone", "()Ljava/lang/Object;"⟩ ∈ gtb)
    (hz : mpos z = n) (h0 : ∀ k, h z k = 0) (hm : cats st ≤ 8) (hR : 1 ≤ R.frames ∧ 30 ≤ R.locals) (hT : n + 1 ≤ T.2.2.2.1)
    (kk : GG X Y I R n2 ls ((2, z) :: st) (n + 1) (wrs h (tuW z)) T) : GG X Y I R pc ls ((2, -4) :: st) n h T := by
  subst hn2
  intro p l e s m args below meth c H locs cells slots Q D ad aC A base lsm C0 hW hL hn hc1 hc2 ret
  have e1 := cnt (sp := 0) (c := cells) hT
  have e2 := cntS (c := slots) hz hs hT
  dsimp only at e2
  rw [List.map_cons, av_nz (show ¬ (-4 : Int) = 0 by decide)]
  have hts := C0.1.2.2.2.2.1
  have hi := C0.1.2.2.2.2.2.2.2.2.2.2.1
  obtain ⟨cell, t1, t2⟩ := C0.2.2.2.2.1
  obtain ⟨scr, x1, x2, x3, x4, x5⟩ := hi.1
  obtain rfl : cell = scr := Option.some.inj (t1.symm.trans x1)
  have hH : H[ad (-4)]? = some cell := by rw [hW.2.2.2.1 _ hi.2.1 hi.2.2]; exact t1
  have hRA : s.vm.findClass "[I" = some (aC 0) := (C0.1.2.2.2.2.2.1.2 0 _ (tys_at aC (k := 100) (by omega) (by omega))).2
  have x2' := x2
  obtain ⟨hobj, kS, hkS, compS, hkindS⟩ := x2
  obtain ⟨c0, t0', f1, f2, f3⟩ := Cond.castable_spec (va_Nw.use (A := args) rfl C0.2.2.2.2.2.2.2.1)
  cases hRA.symm.trans f1
  intro V hV X0
  obtain ⟨-, kA, hkA, comp, hkind⟩ := State.isArrayOf_alike X0.warmed.alike x2'
  obtain ⟨vm', X', stp⟩ := X0.cloneArray C0.1.1 C0.1.2.2.2.1 (hts _ hl) (hts _ hsame) (hts _ hnat) (hts _ hinst) (hts _ hsel) (a := ad (-4)) (cell := cell) (by rw [hV]; exact hH) hobj x3 (by rw [t2]; exact hRA) f2 (by rw [t2]; exact f3)
    (fun i v hv => by
      have hlt : i < 8 := by rw [← x4]; exact (Array.getElem?_eq_some_iff.mp hv).1
      cases hv.symm.trans (x5 i hlt)
      have hk' : V.vm.classes[cell.cls]? = some kA := hkA
      simp [State.fitsSlot, State.slotType?, hk', hkind, fits])
    (g := F0 m pc lsm (.ref (ad (-4)) :: st.map (av ad))) rfl (by rw [C0.1.2.2.1]; exact hL.1) rfl (by rw [C0.1.2.1]; exact dcd1 hd rfl) hR.1 (by show 2 * 0 + _ + 14 ≤ _; rw [cats_eq]; omega) (by omega) (by rw [x4]; omega) (hloader := Vm.clonesLoader_of_array hkS hkindS)
  have ea := ad_next C0.2.2.1 hz hs hW.2.1
  have hcellE : ({ cls := cell.cls, slots := cell.slots } : Cell) = vp_cell (aC 0) (8, .inl (immF tuFirst)) := by
    have hsl : cell.slots = (vp_cell (aC 0) (8, .inl (immF tuFirst))).slots := by
      apply Array.ext_getElem?
      intro i
      by_cases hlt : i < 8
      · rw [x5 i hlt]
        exact (arrV_read (aC 0) (fun j => .int (immF tuFirst j)) hlt).symm
      · rw [Array.getElem?_eq_none (by omega), Array.getElem?_eq_none (by rw [vp_cell_i, arrV_size]; omega)]
    rw [hsl, t2]; rfl
  rw [hcellE, x4] at X'
  have hW1 : GW D ad aC A base s (n + 1) (wrs h (tuW z)) (H.push (vp_cell (aC 0) (8, .inl (immF tuFirst)))) locs := by
    refine GW.more (H := H) ⟨?_, hW.2.1, hW.2.2⟩ C0.2.2.1 hz hs (Array.size_push ..) (fun q hq => by rw [Array.getElem?_push, if_neg (Nat.ne_of_lt hq)]) ?_
    · rw [wg_cong (h := h) (fun r hr => by funext k; have hne : r ≠ z := (fun q => by rw [q] at hr; omega); unfold wrs tuW; simp only [List.foldl_cons, List.foldl_nil]; rw [wr_ne hne, wr_ne hne, wr_ne hne, wr_ne hne, wr_ne hne, wr_ne hne, wr_ne hne, wr_ne hne])]; exact hW.1
    rw [ea]
    show (H.push _)[H.size]? = some (vp_cell _ _)
    rw [Array.getElem?_push_size]
    refine congrArg (fun f => some (vp_cell (aC 0) (8, .inl f))) (funext (fun j => ?_))
    show immF tuFirst j = Int32.ofInt (wrs h (tuW z) z (j : Int))
    unfold immF
    refine congrArg Int32.ofInt ?_
    unfold wrs tuW
    simp only [List.foldl_cons, List.foldl_nil]
    match j with
    | 0 => simp [wr, tuFirst]
    | 1 => simp [wr, tuFirst]
    | 2 => simp [wr, tuFirst]
    | 3 => simp [wr, tuFirst]
    | 4 => simp [wr, tuFirst]
    | 5 => simp [wr, tuFirst]
    | 6 => simp [wr, tuFirst]
    | 7 => simp [wr, tuFirst]
    | j + 8 =>
      rw [wr_miss (by omega), wr_miss (by omega), wr_miss (by omega), wr_miss (by omega), wr_miss (by omega), wr_miss (by omega), wr_miss (by omega), wr_miss (by omega), h0]
      rfl
  have := kk p l e s m args below meth c _ locs (cells + 1) (slots + 8) Q D ad aC A base lsm C0 hW1 hL hT (by omega) (by omega) (by rw [e1, e2]; exact ret)
  rw [List.map_cons, av_ref (shM_at hs).1, ea] at this
  obtain ⟨t, b1, b2⟩ := this ((V.setVm vm').pushCell (vp_cell (aC 0) (8, .inl (immF tuFirst)))) (by rw [← hV]; rfl) X'
  refine ⟨t, stp t ?_, b2⟩
  rw [hcellE, hV]
  exact b1
theorem r_cast {idx N : Nat} {r : Int} (hd : dcd Y.2.1 pc = some (.checkcast idx, n2)) (hn : n2 = pc + 3) (hl : Cond.classLink Y.1 idx "[I" ∈ gtb) (hs : shM r = some (100, N)) (hr : mpos r < n) (kk : GG X Y I R n2 ls ((2, r) :: st) n h T) : GG X Y I R pc ls ((2, r) :: st) n h T := by
  subst hn
  intro p l e s m args below meth c H locs cells slots Q D ad aC A base lsm C0 hW hL hn hc1 hc2 ret
  have hRA : s.vm.findClass "[I" = some (aC 0) := (C0.1.2.2.2.2.2.1.2 0 _ (tys_at aC (k := 100) (by omega) (by omega))).2
  have := kk p l e s m args below meth c H locs cells slots Q D ad aC A base lsm C0 hW hL hn hc1 hc2 ret
  rw [List.map_cons, av_ref (shM_at hs).1] at this ⊢
  exact va_castA C0.1.1 C0.1.2.1 C0.1.2.2.2.1 (C0.1.2.2.2.2.1 _ hl) hW.1 (mpos r) (wg_at hs hr) hRA (dcd1 hd rfl) this
end Clone
