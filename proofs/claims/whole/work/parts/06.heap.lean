/-! the memory's rules -/
theorem vc_char {n : Nat} (h : n < 65536) : (Int32.ofNat n).toUInt32.toUInt16.toUInt32.toInt32 = Int32.ofNat n := by
  have := (pk_charN h).1
  exact Value.int.inj this
theorem sh_cls : ∀ sp ∈ SH, sp.1 < 100 → (vwCl[sp.1]?).map (fun q => q.2.2) = some sp.2 := by decide +kernel
theorem cl_in (ci : Nat) (q : vw_C) (h : vwCl[ci]? = some q) : ∀ w ∈ u_ws q.1 q.2.1 q.2.2, w ∈ gtb := by
  have key : (vwCl.all (fun q => (u_ws q.1 q.2.1 q.2.2).all (fun w => decide (w ∈ gtb)))) = true := by decide +kernel
  intro w hw
  have h1 := List.all_eq_true.mp key q (List.mem_of_getElem? h)
  exact of_decide_eq_true (List.all_eq_true.mp h1 w hw)
theorem cl_ty (ci : Nat) (q : vw_C) (h : vwCl[ci]? = some q) : ∀ k, k < q.2.2 → parseFieldDescriptor (q.2.1 k).2.2.1 = some (fty ci k) := by
  match ci, h with
  | 0, h => cases h; exact tyX0_ok
  | 1, h => cases h; exact tyX1_ok
  | 2, h => cases h; exact tyX2_ok
  | 3, h => cases h; exact tyX3_ok
  | 4, h => cases h; exact tyX4_ok
  | 5, h => cases h; exact tyX5_ok
  | 6, h => cases h; exact tyX6_ok
  | 7, h => cases h; exact tyX7_ok
  | 8, h => cases h; exact tyX8_ok
  | n + 9, h => simp [vwCl] at h
theorem cl_nm (ci : Nat) (q : vw_C) (h : vwCl[ci]? = some q) : ∀ a, a < q.2.2 → ∀ b, b < q.2.2 → a ≠ b → (q.2.1 a).2.1 ≠ (q.2.1 b).2.1 := by
  match ci, h with
  | 0, h => cases h; exact nmX0
  | 1, h => cases h; exact nmX1
  | 2, h => cases h; exact nmX2
  | 3, h => cases h; exact nmX3
  | 4, h => cases h; exact nmX4
  | 5, h => cases h; exact nmX5
  | 6, h => cases h; exact nmX6
  | 7, h => cases h; exact nmX7
  | 8, h => cases h; exact nmX8
  | n + 9, h => simp [vwCl] at h
theorem shp_at {r : Int} {sp : Shp} (h : shp r = some sp) : 1 ≤ r ∧ SH[(r - 1).toNat]? = some sp := by
  unfold shp at h
  split at h
  · exact ⟨by assumption, h⟩
  · cases h
theorem shp_of {k : Nat} {sp : Shp} (h : SH[k]? = some sp) : shp ((k : Int) + 1) = some sp := by
  unfold shp
  rw [if_pos (by omega), show ((k : Int) + 1 - 1).toNat = k by omega, h]
theorem okO_shp {ci : Nat} {r : Int} (h : okO ci r = true) : ∃ N, shp r = some (ci, N) ∧ ci < 100 := by
  unfold okO at h
  cases hs : shp r with
  | none => rw [hs] at h; cases h
  | some sp =>
    rw [hs] at h
    simp only [Bool.and_eq_true, beq_iff_eq, Nat.blt_eq] at h
    exact ⟨sp.2, by rw [← h.1], h.2⟩
theorem okO_N {ci N : Nat} {r : Int} {C : String} {T : u_T} (h : okO ci r = true) (hc : vwCl[ci]? = some (C, T, N)) : shp r = some (ci, N) ∧ ci < 100 := by
  obtain ⟨N', h1, h2⟩ := okO_shp h
  have h3 := sh_cls (ci, N') (List.mem_of_getElem? (shp_at h1).2) h2
  rw [hc] at h3
  have : N = N' := Option.some.inj h3
  rw [this]; exact ⟨h1, h2⟩
section World
variable {ad : Int → Nat} {aC : Nat → ClassId} {h h' : Mem} {r : Int} {sp : Shp}
theorem ws_at (hs : shp r = some sp) : (wsOf SH ad aC h)[(r - 1).toNat]? = some (ad r, cellE ad aC sp (h r)) := by
  obtain ⟨h1, h2⟩ := shp_at hs
  unfold wsOf
  rw [List.getElem?_mapIdx, h2]
  have e : (((r - 1).toNat : Nat) : Int) + 1 = r := by omega
  simp only [Option.map_some, e]
theorem ws_set {e : va_E} (hs : shp r = some sp) (he : cellE ad aC sp (h' r) = e) (ho : ∀ q, q ≠ r → h' q = h q) : (wsOf SH ad aC h).set (r - 1).toNat (ad r, e) = wsOf SH ad aC h' := by
  obtain ⟨h1, h2⟩ := shp_at hs
  apply List.ext_getElem?
  intro j
  have er : (((r - 1).toNat : Nat) : Int) + 1 = r := by omega
  by_cases hj : j = (r - 1).toNat
  · subst hj
    rw [ws_at (h := h') hs, List.getElem?_set_self (by rw [wsOf, List.length_mapIdx]; exact (List.getElem?_eq_some_iff.mp h2).1), he]
  · rw [List.getElem?_set_ne (fun q => hj q.symm)]
    unfold wsOf
    rw [List.getElem?_mapIdx, List.getElem?_mapIdx, ho ((j : Int) + 1) (by omega)]
theorem canT_tag {t : FieldType} {z : Int} (h : canT t z) : (ftag t = 0 → in32 z) ∧ (ftag t = 1 → in64 z) := by
  cases t with
  | long => exact ⟨fun q => (by cases q), fun _ => h⟩
  | object C => exact ⟨fun q => (by cases q), fun q => (by cases q)⟩
  | array u => exact ⟨fun q => (by cases q), fun q => (by cases q)⟩
  | boolean => exact ⟨fun _ => (by rcases h with rfl | rfl <;> (unfold in32; omega)), fun q => (by cases q)⟩
  | char => exact ⟨fun _ => ⟨by have := h.1; omega, by have := h.2; omega⟩, fun q => (by cases q)⟩
  | int => exact ⟨fun _ => h, fun q => (by cases q)⟩
  | byte => exact ⟨fun _ => h, fun q => (by cases q)⟩
  | short => exact ⟨fun _ => h, fun q => (by cases q)⟩
  | float => exact ⟨fun _ => h, fun q => (by cases q)⟩
  | double => exact ⟨fun _ => h, fun q => (by cases q)⟩
theorem av_fit {z : Int} (C : String) (u : FieldType) : (narrow (.object C) (av ad (2, z)) = av ad (2, z) ∧ fits (.object C) (av ad (2, z)) = true) ∧ (narrow (.array u) (av ad (2, z)) = av ad (2, z) ∧ fits (.array u) (av ad (2, z)) = true) := by
  by_cases hz : z = 0
  · have e : av ad (2, z) = .null := if_pos hz
    rw [e]; exact ⟨⟨rfl, rfl⟩, rfl, rfl⟩
  · have e : av ad (2, z) = .ref (ad z) := if_neg hz
    rw [e]; exact ⟨⟨rfl, rfl⟩, rfl, rfl⟩
theorem canT_fit {t : FieldType} {z : Int} (ht : t = .int ∨ t = .long ∨ t = .boolean ∨ (∃ C, t = .object C) ∨ ∃ u, t = .array u) (h : canT t z) : narrow t (av ad (ftag t, z)) = av ad (ftag t, z) ∧ fits t (av ad (ftag t, z)) = true := by
  rcases ht with rfl | rfl | rfl | ⟨C, rfl⟩ | ⟨u, rfl⟩
  · exact ⟨rfl, rfl⟩
  · exact ⟨rfl, rfl⟩
  · rcases h with rfl | rfl
    · exact ⟨rfl, rfl⟩
    · exact ⟨rfl, rfl⟩
  · exact (av_fit C .int).1
  · exact (av_fit "" u).2
theorem wr_ne {r q k v : Int} (hq : q ≠ r) : wr h r k v q = h q := by
  funext j; unfold wr; rw [if_neg (fun z => hq z.1)]
theorem wr_hit {r k v : Int} : wr h r k v r k = v := by unfold wr; rw [if_pos ⟨rfl, rfl⟩]
theorem wr_miss {r k v j : Int} (hj : j ≠ k) : wr h r k v r j = h r j := by unfold wr; rw [if_neg (fun z => hj z.2)]
theorem Hok_wr {k v : Int} (hs : shp r = some sp) (h0 : 0 ≤ k) (h1 : k < sp.2) (hv : canT (slT sp k.toNat) v) (hf : foff sp.1 k = none) (ho : Hok h) : Hok (wr h r k v) := by
  obtain ⟨r1, r2⟩ := shp_at hs
  refine ⟨fun a sq ha j hj => ?_, fun r' k' z g0 g1 hg => ?_⟩
  · by_cases e : (a : Int) + 1 = r ∧ (j : Int) = k
    · obtain ⟨e1, e2⟩ := e
      rw [e1, e2, wr_hit]
      have ea : a = (r - 1).toNat := by omega
      rw [ea] at ha
      have : sq = sp := Option.some.inj (ha.symm.trans r2)
      rw [this, show j = k.toNat by omega]; exact hv
    · unfold wr; rw [if_neg e]; exact ho.1 a sq ha j hj
  · unfold wr
    by_cases e : r' = r ∧ k' = k
    · obtain ⟨rfl, rfl⟩ := e
      unfold GF at hg
      rw [hs] at hg
      simp only [hf, Option.map_none] at hg
      cases hg
    · rw [if_neg e]; exact ho.2 r' k' z g0 g1 hg
theorem Hok_can {k : Int} (ho : Hok h) (hs : shp r = some sp) (h0 : 0 ≤ k) (h1 : k < sp.2) : canT (slT sp k.toNat) (h r k) := by
  obtain ⟨r1, r2⟩ := shp_at hs
  have := ho.1 (r - 1).toNat sp r2 k.toNat (by omega)
  rwa [show (((r - 1).toNat : Nat) : Int) + 1 = r by omega, show ((k.toNat : Nat) : Int) = k by omega] at this
theorem Hok_fin {k o : Int} (ho : Hok h) (hs : shp r = some sp) (h0 : 0 ≤ k) (h1 : k < sp.2) (hf : foff sp.1 k = some o) : h r k = r + o := by
  refine ho.2 r k (r + o) h0 (fun sq hq => ?_) ?_
  · rw [hs] at hq; cases hq; exact h1
  · unfold GF; rw [hs]; simp only [hf, Option.map_some]
theorem av_ref {z : Int} (hz : 1 ≤ z) : av ad (2, z) = .ref (ad z) := if_neg (by omega)
end World
theorem tys_at (aC : Nat → ClassId) {k : Nat} (h : 100 ≤ k) (h2 : k < 106) : (tysL aC)[aix k]? = some (aC (aix k), aty k) := by
  match k, h, h2 with
  | 100, _, _ => rfl
  | 101, _, _ => rfl
  | 102, _, _ => rfl
  | 103, _, _ => rfl
  | 104, _, _ => rfl
  | 105, _, _ => rfl
  | n + 106, _, h2 => omega
section Heap
variable {X : XS} {Y : MD} {R : Room} {pc n : Nat} {ls st : List AV} {h : Mem} {Φ : Option AV → Mem → Prop}
theorem q_get {ci N idx k t : Nat} {C : String} {T : u_T} {r : Int} (hd : dcd Y.2.1 pc = some (.getfield idx, n)) (hn : n = pc + 3) (hc : vwCl[ci]? = some (C, T, N)) (hk : k < N) (hw : Cond.fieldLink Y.1 idx (T k).1 (T k).2.1 (T k).2.2.1 ∈ gtb) (ht : ftag (fty ci k) = t) (ho : okO ci r = true)
    (kk : AJ X Y R n ls ((t, h r k) :: st) h Φ) : AJ X Y R pc ls ((2, r) :: st) h Φ := by
  subst hn; subst ht
  intro p l e s m args below meth c H locs cells slots Q D ad aC A lsm C0 hP hD hS hL cl cs hh hc1 hc2 ret
  obtain ⟨hs, hci⟩ := okO_N ho hc
  rw [List.map_cons, av_ref (shp_at hs).1]
  have hcell : cellE ad aC (ci, N) (h r) = .inr (ci, (List.range N).map (fun j => av ad (ftag (fty ci j), h r j))) := if_pos hci
  have hcan := Hok_can hh hs (k := (k : Int)) (by omega) (by exact Int.ofNat_lt.mpr hk)
  rw [slT, if_pos hci, Int.toNat_natCast] at hcan
  refine va_get (v := av ad (ftag (fty ci k), h r k)) C0.1 C0.2.1 C0.2.2.2.2.1 (cl_in ci _ hc) C0.2.2.2.1 C0.2.2.2.2.2.1 hP (r - 1).toNat (by rw [ws_at hs, hcell]) hc k hk (C0.2.2.2.2.1 _ hw) (fun x hx => hx) (by rw [List.getElem?_map, List.getElem?_range hk]; rfl) (dcd1 hd rfl) ?_
  exact kk p l e s m args below meth c H locs cells slots Q D ad aC A lsm C0 hP hD hS hL cl (Can.of (canT_tag hcan) cs.tl) hh hc1 hc2 ret
/-- a final reference -/
theorem q_getF {ci N idx k : Nat} {C : String} {T : u_T} {r o z : Int} (hd : dcd Y.2.1 pc = some (.getfield idx, n)) (hn : n = pc + 3) (hc : vwCl[ci]? = some (C, T, N)) (hk : k < N) (hw : Cond.fieldLink Y.1 idx (T k).1 (T k).2.1 (T k).2.2.1 ∈ gtb) (ht : ftag (fty ci k) = 2) (hf : foff ci k = some o) (ho : okO ci r = true) (hz : r + o = z)
    (kk : AJ X Y R n ls ((2, z) :: st) h Φ) : AJ X Y R pc ls ((2, r) :: st) h Φ := by
  subst hz
  intro p l e s m args below meth c H locs cells slots Q D ad aC A lsm C0 hP hD hS hL cl cs hh hc1 hc2 ret
  obtain ⟨hs, hci⟩ := okO_N ho hc
  have e1 := Hok_fin hh hs (k := (k : Int)) (by omega) (by exact Int.ofNat_lt.mpr hk) hf
  rw [← e1] at kk
  exact q_get hd hn hc hk hw ht ho kk p l e s m args below meth c H locs cells slots Q D ad aC A lsm C0 hP hD hS hL cl cs hh hc1 hc2 ret
theorem q_put {ci N idx k t : Nat} {C : String} {T : u_T} {r z : Int} (hd : dcd Y.2.1 pc = some (.putfield idx, n)) (hn : n = pc + 3) (hc : vwCl[ci]? = some (C, T, N)) (hk : k < N) (hw : Cond.fieldLink Y.1 idx (T k).1 (T k).2.1 (T k).2.2.1 ∈ gtb) (ht : ftag (fty ci k) = t) (hfin : (T k).2.2.2 = false) (hf : foff ci k = none)
    (hty : fty ci k = .int ∨ fty ci k = .long ∨ fty ci k = .boolean ∨ (∃ C, fty ci k = .object C) ∨ ∃ u, fty ci k = .array u) (hz : (t = 0 → in32 z) ∧ (t = 1 → in64 z) → canT (fty ci k) z) (ho : okO ci r = true)
    (kk : AJ X Y R n ls st (wr h r k z) Φ) : AJ X Y R pc ls ((t, z) :: (2, r) :: st) h Φ := by
  subst hn; subst ht
  intro p l e s m args below meth c H locs cells slots Q D ad aC A lsm C0 hP hD hS hL cl cs hh hc1 hc2 ret
  obtain ⟨hs, hci⟩ := okO_N ho hc
  rw [List.map_cons, List.map_cons, av_ref (shp_at hs).1]
  have hcell : cellE ad aC (ci, N) (h r) = .inr (ci, (List.range N).map (fun j => av ad (ftag (fty ci j), h r j))) := if_pos hci
  have hcan : canT (fty ci k) z := hz (cs _ List.mem_cons_self)
  have hok : Hok (wr h r k z) := Hok_wr hs (by omega) (by exact Int.ofNat_lt.mpr hk) (by rw [slT, if_pos hci, Int.toNat_natCast]; exact hcan) hf hh
  have hfit := canT_fit (ad := ad) hty hcan
  have hset : (wsOf SH ad aC h).set (r - 1).toNat (ad r, .inr (ci, ((List.range N).map (fun j => av ad (ftag (fty ci j), h r j))).set k (av ad (ftag (fty ci k), z)))) = wsOf SH ad aC (wr h r k z) := by
    refine ws_set hs ?_ (fun q hq => wr_ne hq)
    unfold cellE
    rw [if_pos hci]
    refine congrArg (fun x => Sum.inr (ci, x)) (List.ext_getElem? (fun j => ?_))
    by_cases hj : j = k
    · subst hj
      rw [List.getElem?_set_self (by simpa using hk), List.getElem?_map, List.getElem?_range hk]
      simp only [Option.map_some, wr_hit]
    · rw [List.getElem?_set_ne (fun q => hj q.symm), List.getElem?_map, List.getElem?_map]
      cases hl : (List.range N)[j]? with
      | none => rfl
      | some w =>
        have hw2 : w = j := by
          obtain ⟨q1, q2⟩ := List.getElem?_eq_some_iff.mp hl
          rw [List.getElem_range] at q2; exact q2.symm
        subst hw2
        simp only [Option.map_some]
        rw [wr_miss (by omega)]
  refine va_put (fs := (List.range N).map (fun j => av ad (ftag (fty ci j), h r j))) C0.1 C0.2.1 C0.2.2.2.2.1 (cl_in ci _ hc) (fty ci) (cl_ty ci _ hc) (cl_nm ci _ hc) C0.2.2.2.1 C0.2.2.2.2.2.1 hP hD hS (r - 1).toNat (by rw [ws_at hs, hcell]) hc k hk (C0.2.2.2.2.1 _ hw) (fun x hx => hx) hfin (cl_ty ci _ hc k hk) hfit.1 hfit.2 (by simpa using hk) (dcd1 hd rfl) ?_
  intro H1 locs1 hP1 hD1 hS1
  rw [hset] at hP1 hD1
  exact kk p l e s m args below meth c H1 locs1 cells slots Q D ad aC A lsm C0 hP1 hD1 hS1 hL cl cs.tl.tl hok hc1 hc2 ret
theorem q_iaload {r i : Int} {N : Nat} (hd : dcd Y.2.1 pc = some (.iaload, n)) (hn : n = pc + 1) (hs : shp r = some (100, N)) (hi : 0 ≤ i ∧ i < N) (kk : AJ X Y R n ls ((0, h r i) :: st) h Φ) : AJ X Y R pc ls ((0, i) :: (2, r) :: st) h Φ := by
  subst hn
  intro p l e s m args below meth c H locs cells slots Q D ad aC A lsm C0 hP hD hS hL cl cs hh hc1 hc2 ret
  rw [List.map_cons, List.map_cons, av_ref (shp_at hs).1]
  have hcan := Hok_can hh hs hi.1 hi.2
  refine va_iald (f := fun j : Nat => Int32.ofInt (h r j)) C0.1 C0.2.1 C0.2.2.2.2.2.1 hP (r - 1).toNat 0 (ws_at hs) (tys_at aC (k := 100) (by omega) (by omega)) (n_vpin cs.i1 hi.1 hi.2) (dcd1 hd rfl) ?_
  rw [n_clamp cs.i1, show ((i.toNat : Nat) : Int) = i by omega]
  exact kk p l e s m args below meth c H locs cells slots Q D ad aC A lsm C0 hP hD hS hL cl (cs.tl.tl.i hcan) hh hc1 hc2 ret
theorem q_caload {r i : Int} {N : Nat} (hd : dcd Y.2.1 pc = some (.caload, n)) (hn : n = pc + 1) (hs : shp r = some (101, N)) (hi : 0 ≤ i ∧ i < N) (kk : AJ X Y R n ls ((0, h r i) :: st) h Φ) : AJ X Y R pc ls ((0, i) :: (2, r) :: st) h Φ := by
  subst hn
  intro p l e s m args below meth c H locs cells slots Q D ad aC A lsm C0 hP hD hS hL cl cs hh hc1 hc2 ret
  rw [List.map_cons, List.map_cons, av_ref (shp_at hs).1]
  have hcan : 0 ≤ h r i ∧ h r i < 65536 := Hok_can hh hs hi.1 hi.2
  refine va_cald (f := fun j : Nat => Int32.ofInt (h r j)) C0.1 C0.2.1 C0.2.2.2.2.2.1 hP (r - 1).toNat 1 (ws_at hs) (tys_at aC (k := 101) (by omega) (by omega)) (n_vpin cs.i1 hi.1 hi.2) (dcd1 hd rfl) ?_
  rw [n_clamp cs.i1, show ((i.toNat : Nat) : Int) = i by omega]
  exact kk p l e s m args below meth c H locs cells slots Q D ad aC A lsm C0 hP hD hS hL cl (cs.tl.tl.i ⟨by omega, by omega⟩) hh hc1 hc2 ret
theorem q_baload {r i : Int} {N : Nat} (hd : dcd Y.2.1 pc = some (.baload, n)) (hn : n = pc + 1) (hs : shp r = some (102, N)) (hi : 0 ≤ i ∧ i < N) (kk : AJ X Y R n ls ((0, h r i) :: st) h Φ) : AJ X Y R pc ls ((0, i) :: (2, r) :: st) h Φ := by
  subst hn
  intro p l e s m args below meth c H locs cells slots Q D ad aC A lsm C0 hP hD hS hL cl cs hh hc1 hc2 ret
  rw [List.map_cons, List.map_cons, av_ref (shp_at hs).1]
  have hcan : h r i = 0 ∨ h r i = 1 := Hok_can hh hs hi.1 hi.2
  refine va_zald (f := fun j : Nat => Int32.ofInt (h r j)) C0.1 C0.2.1 C0.2.2.2.2.2.1 hP (r - 1).toNat 2 (ws_at hs) (tys_at aC (k := 102) (by omega) (by omega)) (n_vpin cs.i1 hi.1 hi.2) (dcd1 hd rfl) ?_
  rw [n_clamp cs.i1, show ((i.toNat : Nat) : Int) = i by omega]
  exact kk p l e s m args below meth c H locs cells slots Q D ad aC A lsm C0 hP hD hS hL cl (cs.tl.tl.i ⟨by omega, by omega⟩) hh hc1 hc2 ret
theorem q_aaload {K : Nat} {r i : Int} {N : Nat} (hd : dcd Y.2.1 pc = some (.aaload, n)) (hn : n = pc + 1) (hs : shp r = some (K, N)) (hK : 103 ≤ K ∧ K < 106) (hi : 0 ≤ i ∧ i < N) (kk : AJ X Y R n ls ((2, h r i) :: st) h Φ) : AJ X Y R pc ls ((0, i) :: (2, r) :: st) h Φ := by
  subst hn
  intro p l e s m args below meth c H locs cells slots Q D ad aC A lsm C0 hP hD hS hL cl cs hh hc1 hc2 ret
  rw [List.map_cons, List.map_cons, av_ref (shp_at hs).1]
  have hcell : cellE ad aC (K, N) (h r) = .inl (aC (aix K), N, .inr (.inr (.inr (.inr (fun j : Nat => if h r j = 0 then none else some (ad (h r j))))))) := by
    unfold cellE; rw [if_neg (by omega), if_neg (by omega)]
  obtain ⟨CC, hCC⟩ : ∃ CC, aty K = .object CC := by
    obtain ⟨k1, k2⟩ := hK
    match K, k1, k2 with
    | 103, _, _ => exact ⟨_, rfl⟩
    | 104, _, _ => exact ⟨_, rfl⟩
    | 105, _, _ => exact ⟨_, rfl⟩
    | n + 106, _, h2 => omega
  have hty := tys_at aC (k := K) (by omega) (by omega)
  rw [hCC] at hty
  refine va_aldq (f := fun j : Nat => if h r j = 0 then none else some (ad (h r j))) C0.1 C0.2.1 C0.2.2.2.2.2.1 hP (r - 1).toNat (aix K) (by rw [ws_at hs, hcell]) hty (n_vpin cs.i1 hi.1 hi.2) (dcd1 hd rfl) ?_
  have e1 : va_rf (if h r ((Int32.ofInt i).toNatClampNeg : Nat) = 0 then none else some (ad (h r ((Int32.ofInt i).toNatClampNeg : Nat)))) = av ad (2, h r i) := by
    rw [n_clamp cs.i1, show ((i.toNat : Nat) : Int) = i by omega]
    unfold av
    dsimp only
    split <;> rfl
  dsimp only at e1 ⊢
  rw [e1]
  exact kk p l e s m args below meth c H locs cells slots Q D ad aC A lsm C0 hP hD hS hL cl cs.tl.tl.r hh hc1 hc2 ret
/-- an element of a row of references that were made once -/
theorem q_aaloadF {K : Nat} {r i o z : Int} {N : Nat} (hd : dcd Y.2.1 pc = some (.aaload, n)) (hn : n = pc + 1) (hs : shp r = some (K, N)) (hK : 103 ≤ K ∧ K < 106) (hi : 0 ≤ i ∧ i < N) (hf : foff K i = some o) (hz : r + o = z) (kk : AJ X Y R n ls ((2, z) :: st) h Φ) : AJ X Y R pc ls ((0, i) :: (2, r) :: st) h Φ := by
  subst hz
  intro p l e s m args below meth c H locs cells slots Q D ad aC A lsm C0 hP hD hS hL cl cs hh hc1 hc2 ret
  have e1 := Hok_fin hh hs hi.1 hi.2 hf
  rw [← e1] at kk
  exact q_aaload hd hn hs hK hi kk p l e s m args below meth c H locs cells slots Q D ad aC A lsm C0 hP hD hS hL cl cs hh hc1 hc2 ret
theorem arr_up {f g : Nat → Int32} {r i x : Int} (hi : 0 ≤ i) (hf : f = fun j : Nat => Int32.ofInt (h r j)) (hg : g = fun j : Nat => Int32.ofInt (wr h r i x r j)) : upd f i.toNat (Int32.ofInt x) = g := by
  subst hf; subst hg
  funext j
  unfold upd
  by_cases hj : j = i.toNat
  · rw [if_pos hj, show ((j : Nat) : Int) = i by omega, wr_hit]
  · rw [if_neg hj, wr_miss (by omega)]
theorem q_iastore {r i x : Int} {N : Nat} (hd : dcd Y.2.1 pc = some (.iastore, n)) (hn : n = pc + 1) (hs : shp r = some (100, N)) (hi : 0 ≤ i ∧ i < N) (kk : AJ X Y R n ls st (wr h r i x) Φ) : AJ X Y R pc ls ((0, x) :: (0, i) :: (2, r) :: st) h Φ := by
  subst hn
  intro p l e s m args below meth c H locs cells slots Q D ad aC A lsm C0 hP hD hS hL cl cs hh hc1 hc2 ret
  rw [List.map_cons, List.map_cons, List.map_cons, av_ref (shp_at hs).1]
  have hok : Hok (wr h r i x) := Hok_wr hs hi.1 hi.2 cs.i1 rfl hh
  refine va_iast (f := fun j : Nat => Int32.ofInt (h r j)) C0.1 C0.2.1 C0.2.2.2.2.2.1 hP hD hS (r - 1).toNat 0 (ws_at hs) (tys_at aC (k := 100) (by omega) (by omega)) (n_vpin cs.tl.i1 hi.1 hi.2) (dcd1 hd rfl) ?_
  intro H1 locs1 hP1 hD1 hS1
  have hset : (wsOf SH ad aC h).set (r - 1).toNat (ad r, .inl (aC (aix 100), N, .inl (upd (fun j : Nat => Int32.ofInt (h r j)) (Int32.ofInt i).toNatClampNeg (Int32.ofInt x)))) = wsOf SH ad aC (wr h r i x) := by
    refine ws_set hs ?_ (fun q hq => wr_ne hq)
    rw [n_clamp cs.tl.i1, arr_up hi.1 rfl rfl]; rfl
  rw [hset] at hP1 hD1
  exact kk p l e s m args below meth c H1 locs1 cells slots Q D ad aC A lsm C0 hP1 hD1 hS1 hL cl cs.tl.tl.tl hok hc1 hc2 ret
theorem q_castore {r i x : Int} {N : Nat} (hd : dcd Y.2.1 pc = some (.castore, n)) (hn : n = pc + 1) (hs : shp r = some (101, N)) (hi : 0 ≤ i ∧ i < N) (hx : 0 ≤ x ∧ x < 65536) (kk : AJ X Y R n ls st (wr h r i x) Φ) : AJ X Y R pc ls ((0, x) :: (0, i) :: (2, r) :: st) h Φ := by
  subst hn
  intro p l e s m args below meth c H locs cells slots Q D ad aC A lsm C0 hP hD hS hL cl cs hh hc1 hc2 ret
  rw [List.map_cons, List.map_cons, List.map_cons, av_ref (shp_at hs).1]
  have hok : Hok (wr h r i x) := Hok_wr hs hi.1 hi.2 hx rfl hh
  refine va_cast (f := fun j : Nat => Int32.ofInt (h r j)) C0.1 C0.2.1 C0.2.2.2.2.2.1 hP hD hS (r - 1).toNat 1 (ws_at hs) (tys_at aC (k := 101) (by omega) (by omega)) (n_vpin cs.tl.i1 hi.1 hi.2) (dcd1 hd rfl) ?_
  intro H1 locs1 hP1 hD1 hS1
  have hset : (wsOf SH ad aC h).set (r - 1).toNat (ad r, .inl (aC (aix 101), N, .inl (upd (fun j : Nat => Int32.ofInt (h r j)) (Int32.ofInt i).toNatClampNeg (vp_nar .char (Int32.ofInt x))))) = wsOf SH ad aC (wr h r i x) := by
    refine ws_set hs ?_ (fun q hq => wr_ne hq)
    have e1 : vp_nar .char (Int32.ofInt x) = Int32.ofInt x := by
      obtain ⟨j, hj⟩ : ∃ j : Nat, x = j := ⟨x.toNat, by omega⟩
      subst hj
      rw [vp_nar_char, Int32.ofInt_eq_ofNat]
      exact vc_char (by omega)
    rw [n_clamp cs.tl.i1, e1, arr_up hi.1 rfl rfl]; rfl
  rw [hset] at hP1 hD1
  exact kk p l e s m args below meth c H1 locs1 cells slots Q D ad aC A lsm C0 hP1 hD1 hS1 hL cl cs.tl.tl.tl hok hc1 hc2 ret
theorem q_bastore {r i x : Int} {N : Nat} (hd : dcd Y.2.1 pc = some (.bastore, n)) (hn : n = pc + 1) (hs : shp r = some (102, N)) (hi : 0 ≤ i ∧ i < N) (hx : x = 0 ∨ x = 1) (kk : AJ X Y R n ls st (wr h r i x) Φ) : AJ X Y R pc ls ((0, x) :: (0, i) :: (2, r) :: st) h Φ := by
  subst hn
  intro p l e s m args below meth c H locs cells slots Q D ad aC A lsm C0 hP hD hS hL cl cs hh hc1 hc2 ret
  rw [List.map_cons, List.map_cons, List.map_cons, av_ref (shp_at hs).1]
  have hok : Hok (wr h r i x) := Hok_wr hs hi.1 hi.2 hx rfl hh
  refine va_zast (f := fun j : Nat => Int32.ofInt (h r j)) C0.1 C0.2.1 C0.2.2.2.2.2.1 hP hD hS (r - 1).toNat 2 (ws_at hs) (tys_at aC (k := 102) (by omega) (by omega)) (n_vpin cs.tl.i1 hi.1 hi.2) (dcd1 hd rfl) ?_
  intro H1 locs1 hP1 hD1 hS1
  have hset : (wsOf SH ad aC h).set (r - 1).toNat (ad r, .inl (aC (aix 102), N, .inl (upd (fun j : Nat => Int32.ofInt (h r j)) (Int32.ofInt i).toNatClampNeg (vp_nar .boolean (Int32.ofInt x))))) = wsOf SH ad aC (wr h r i x) := by
    refine ws_set hs ?_ (fun q hq => wr_ne hq)
    have e1 : vp_nar .boolean (Int32.ofInt x) = Int32.ofInt x := by
      rcases hx with rfl | rfl <;> decide +kernel
    rw [n_clamp cs.tl.i1, e1, arr_up hi.1 rfl rfl]; rfl
  rw [hset] at hP1 hD1
  exact kk p l e s m args below meth c H1 locs1 cells slots Q D ad aC A lsm C0 hP1 hD1 hS1 hL cl cs.tl.tl.tl hok hc1 hc2 ret
/-- an act into a row of acts -/
theorem q_aastore {r i x : Int} {N : Nat} (hd : dcd Y.2.1 pc = some (.aastore, n)) (hn : n = pc + 1) (hs : shp r = some (103, N)) (hi : 0 ≤ i ∧ i < N) (hx : okO 0 x = true) (kk : AJ X Y R n ls st (wr h r i x) Φ) : AJ X Y R pc ls ((2, x) :: (0, i) :: (2, r) :: st) h Φ := by
  subst hn
  intro p l e s m args below meth c H locs cells slots Q D ad aC A lsm C0 hP hD hS hL cl cs hh hc1 hc2 ret
  obtain ⟨N0, hxs, -⟩ := okO_shp hx
  have hx1 := (shp_at hxs).1
  rw [List.map_cons, List.map_cons, List.map_cons, av_ref (shp_at hs).1, av_ref hx1]
  have hok : Hok (wr h r i x) := Hok_wr hs hi.1 hi.2 trivial rfl hh
  refine va_astq (f := fun j : Nat => if h r j = 0 then none else some (ad (h r j))) C0.1 C0.2.1 C0.2.2.2.2.2.1 hP hD hS (r - 1).toNat 3 (x - 1).toNat 0 (r := (RX0, TX0, 11)) (ws_at hs) (tys_at aC (k := 103) (by omega) (by omega)) (ws_at hxs) rfl (n_vpin cs.tl.i1 hi.1 hi.2) (dcd1 hd rfl) ?_
  intro H1 locs1 hP1 hD1 hS1
  have hset : (wsOf SH ad aC h).set (r - 1).toNat (ad r, .inl (aC (aix 103), N, .inr (.inr (.inr (.inr (va_up (fun j : Nat => if h r j = 0 then none else some (ad (h r j))) (Int32.ofInt i).toNatClampNeg (some (ad x)))))))) = wsOf SH ad aC (wr h r i x) := by
    refine ws_set hs ?_ (fun q hq => wr_ne hq)
    rw [n_clamp cs.tl.i1]
    unfold cellE
    rw [if_neg (show ¬ (103 : Nat) < 100 by decide), if_neg (show ¬ (103 : Nat) < 103 by decide)]
    refine congrArg (fun f => Sum.inl (aC (aix 103), N, Sum.inr (Sum.inr (Sum.inr (Sum.inr f))))) (funext (fun j => ?_))
    unfold va_up
    by_cases hj : j = i.toNat
    · rw [if_pos hj, show ((j : Nat) : Int) = i by omega, wr_hit, if_neg (by omega)]
    · rw [if_neg hj, wr_miss (by omega)]
  rw [hset] at hP1 hD1
  exact kk p l e s m args below meth c H1 locs1 cells slots Q D ad aC A lsm C0 hP1 hD1 hS1 hL cl cs.tl.tl.tl hok hc1 hc2 ret
/-- what never changes: the script, the tunes' rows -/
theorem q_sload {i : Int} (hd : dcd Y.2.1 pc = some (.iaload, n)) (hn : n = pc + 1) (hi : 0 ≤ i ∧ i < X.1) (kk : AJ X Y R n ls ((0, (X.2 i.toNat).toInt) :: st) h Φ) : AJ X Y R pc ls ((0, i) :: (2, -1) :: st) h Φ := by
  subst hn
  intro p l e s m args below meth c H locs cells slots Q D ad aC A lsm C0 hP hD hS hL cl cs hh hc1 hc2 ret
  obtain ⟨i1, i2, i3⟩ := C0.2.2.2.2.2.2.2.1
  refine va_sld C0.1 C0.2.1 i1 i2 i3 hS (n_vpin cs.i1 hi.1 hi.2) (dcd1 hd rfl) ?_
  have e1 : av ad (0, (X.2 i.toNat).toInt) = .int (X.2 (Int32.ofInt i).toNatClampNeg) := by rw [n_clamp cs.i1]; exact congrArg Value.int (Int32.ofInt_toInt _)
  have K := kk p l e s m args below meth c H locs cells slots Q D ad aC A lsm C0 hP hD hS hL cl (cs.tl.tl.i (n_in32 _)) hh hc1 hc2 ret
  rw [List.map_cons, e1] at K
  exact K
theorem q_slen (hd : dcd Y.2.1 pc = some (.arraylength, n)) (hn : n = pc + 1) (hL0 : X.1 < 2147483648) (kk : AJ X Y R n ls ((0, X.1) :: st) h Φ) : AJ X Y R pc ls ((2, -1) :: st) h Φ := by
  subst hn
  intro p l e s m args below meth c H locs cells slots Q D ad aC A lsm C0 hP hD hS hL cl cs hh hc1 hc2 ret
  obtain ⟨i1, i2, i3⟩ := C0.2.2.2.2.2.2.2.1
  refine va_slen C0.1 C0.2.1 i1 i2 i3 hS (dcd1 hd rfl) ?_
  have K := kk p l e s m args below meth c H locs cells slots Q D ad aC A lsm C0 hP hD hS hL cl (cs.tl.i ⟨by omega, by omega⟩) hh hc1 hc2 ret
  have e1 : av ad (0, (X.1 : Int)) = .int (Int32.ofNat X.1) := congrArg Value.int Int32.ofInt_eq_ofNat
  rw [List.map_cons, e1] at K
  exact K
theorem tu_in : ∀ l ∈ [tuLeast, tuMost, tuFirst], ∀ z ∈ l, 0 ≤ z ∧ z < 1000 := by decide +kernel
theorem imm_in (l : List Int) (hl : l ∈ [tuLeast, tuMost, tuFirst]) (j : Nat) : 0 ≤ l.getD j 0 ∧ l.getD j 0 < 1000 := by
  rw [List.getD_eq_getElem?_getD]
  cases hj : l[j]? with
  | none => exact ⟨by simp, by simp⟩
  | some v => exact tu_in l hl v (List.mem_of_getElem? hj)
theorem q_tload {i z : Int} {l0 : List Int} (hd : dcd Y.2.1 pc = some (.iaload, n)) (hn : n = pc + 1) (hz : (z = -2 ∧ l0 = tuLeast) ∨ (z = -3 ∧ l0 = tuMost)) (hi : 0 ≤ i ∧ i < 8) (kk : AJ X Y R n ls ((0, l0.getD i.toNat 0) :: st) h Φ) : AJ X Y R pc ls ((0, i) :: (2, z) :: st) h Φ := by
  subst hn
  intro p l e s m args below meth c H locs cells slots Q D ad aC A lsm C0 hP hD hS hL cl cs hh hc1 hc2 ret
  obtain ⟨i1, i2, i3⟩ : imm ad A s s.heap z 8 (immF l0) := by
    rcases hz with ⟨rfl, rfl⟩ | ⟨rfl, rfl⟩
    · exact C0.2.2.2.2.2.2.2.2.1
    · exact C0.2.2.2.2.2.2.2.2.2.1
  have hl0 : l0 ∈ [tuLeast, tuMost, tuFirst] := by rcases hz with ⟨-, rfl⟩ | ⟨-, rfl⟩ <;> simp
  have hz0 : ¬ z = 0 := by rcases hz with ⟨rfl, -⟩ | ⟨rfl, -⟩ <;> decide
  have er : av ad (2, z) = .ref (ad z) := if_neg hz0
  rw [List.map_cons, List.map_cons, er]
  refine va_sld C0.1 C0.2.1 i1 i2 i3 hS (n_vpin cs.i1 hi.1 hi.2) (dcd1 hd rfl) ?_
  have b := imm_in l0 hl0 i.toNat
  have K := kk p l e s m args below meth c H locs cells slots Q D ad aC A lsm C0 hP hD hS hL cl (cs.tl.tl.i ⟨by omega, by omega⟩) hh hc1 hc2 ret
  have e1 : av ad (0, l0.getD i.toNat 0) = .int (immF l0 (Int32.ofInt i).toNatClampNeg) := by rw [n_clamp cs.i1]; rfl
  rw [List.map_cons, e1] at K
  exact K
theorem q_gets {idx : Nat} {nm : String} {z : Int} (hd : dcd Y.2.1 pc = some (.getstatic idx, n)) (hn : n = pc + 3) (hz : (z = -2 ∧ nm = "TUNE_LEAST") ∨ (z = -3 ∧ nm = "TUNE_MOST")) (hw : Cond.fieldLink Y.1 idx "NineActs" nm "[I" ∈ gtb) (kk : AJ X Y R n ls ((2, z) :: st) h Φ) : AJ X Y R pc ls st h Φ := by
  subst hn
  intro p l e s m args below meth c H locs cells slots Q D ad aC A lsm C0 hP hD hS hL cl cs hh hc1 hc2 ret
  have hZ : va_Z "NineActs" nm "[I" (.ref (ad z)) A s s.heap := by
    rcases hz with ⟨rfl, rfl⟩ | ⟨rfl, rfl⟩
    · exact C0.2.2.2.2.2.2.2.2.2.2.2.1
    · exact C0.2.2.2.2.2.2.2.2.2.2.2.2.1
  have hz0 : ¬ z = 0 := by rcases hz with ⟨rfl, -⟩ | ⟨rfl, -⟩ <;> decide
  have er : av ad (2, z) = .ref (ad z) := if_neg hz0
  refine va_gets C0.1 C0.2.1 hZ hS C0.2.2.2.1 (C0.2.2.2.2.1 _ hw) (fun x hx => hx) (dcd1 hd rfl) ?_
  have K := kk p l e s m args below meth c H locs cells slots Q D ad aC A lsm C0 hP hD hS hL cl cs.r hh hc1 hc2 ret
  rw [List.map_cons, er] at K
  exact K
end Heap
