/-! acts agrees -/
theorem fAc' {h h' : Mem} (hc : h 1 1 = 4 ∨ h 1 1 = 15) (e : ∀ r k : Int, ((r = 1 ∧ k = 1) ∨ (1 ≤ k ∧ (r = h 1 1 ∨ (h 1 1 + 2 ≤ r ∧ r ≤ h 1 1 + 10))) ∨ (r = 58 ∧ k < 81) ∨ r = 60 ∨ (r = 56 ∧ k = 10)) → h' r k = h r k) (r : pAc h) : pAc h' := by
  have e60 : h' 60 = h 60 := funext (fun k => e 60 k (by omega))
  have m10 := e 56 10 (by omega)
  have c1 := e 1 1 (by omega)
  have e58 : ∀ k : Int, k < 81 → h' 58 k = h 58 k := fun k l => e 58 k (by omega)
  obtain ⟨⟨r1, r2⟩, w1, w2, w3⟩ := r
  refine ⟨⟨by rw [c1, m10, e _ 1 (by omega)]; exact r1, fun i a b => ?_⟩, by rw [m10]; exact w1, by rw [m10]; exact w2, fun i a b => ?_⟩
  · rw [m10] at b
    have x := r2 i a b
    unfold CAct at x ⊢
    rw [c1, e60, e (h 1 1 + 2 + i) 1 (by omega), e (h 1 1 + 2 + i) 2 (by omega), e (h 1 1 + 2 + i) 3 (by omega), e (h 1 1 + 2 + i) 4 (by omega), e (h 1 1 + 2 + i) 5 (by omega), e (h 1 1 + 2 + i) 6 (by omega), e (h 1 1 + 2 + i) 7 (by omega), e (h 1 1 + 2 + i) 8 (by omega), e (h 1 1 + 2 + i) 9 (by omega), e (h 1 1 + 2 + i) 10 (by omega),
      e58 (9 * i) (by omega), e58 (9 * i + 1) (by omega), e58 (9 * i + 2) (by omega), e58 (9 * i + 3) (by omega), e58 (9 * i + 4) (by omega), e58 (9 * i + 5) (by omega), e58 (9 * i + 6) (by omega), e58 (9 * i + 7) (by omega), e58 (9 * i + 8) (by omega)]
    exact x
  · rw [m10] at b
    have x := w3 i a b
    unfold WAct at x ⊢
    rw [e60, e58 (9 * i) (by omega), e58 (9 * i + 1) (by omega), e58 (9 * i + 2) (by omega), e58 (9 * i + 3) (by omega), e58 (9 * i + 4) (by omega), e58 (9 * i + 5) (by omega), e58 (9 * i + 6) (by omega), e58 (9 * i + 7) (by omega), e58 (9 * i + 8) (by omega)]
    exact x
theorem forgetM {h : Mem} (Kx : Int → Mem → Res) : ∃ h2, L_X3_forget_1 Kx FU 0 h = Kx 81 h2 ∧ ∀ r k : Int, h2 r k = if (r = 52 ∨ r = 53) ∧ 0 ≤ k ∧ k < 81 then 0 else h r k := by
  have key : ∀ (d p : Nat) (h1 : Mem) (f : Nat), p + d = 81 → d < f → (∀ r k : Int, h1 r k = if (r = 52 ∨ r = 53) ∧ 0 ≤ k ∧ k < p then 0 else h r k) → ∃ h2, L_X3_forget_1 Kx f p h1 = Kx 81 h2 ∧ ∀ r k : Int, h2 r k = if (r = 52 ∨ r = 53) ∧ 0 ≤ k ∧ k < 81 then 0 else h r k := by
    intro d
    induction d with
    | zero =>
      intro p h1 f hp hf hI
      obtain ⟨f, rfl⟩ : ∃ g, f = g + 1 := ⟨f - 1, by omega⟩
      have e : p = 81 := by omega
      subst e
      exact ⟨h1, by rw [L_X3_forget_1, if_neg (by omega)]; rfl, hI⟩
    | succ d ih =>
      intro p h1 f hp hf hI
      obtain ⟨f, rfl⟩ : ∃ g, f = g + 1 := ⟨f - 1, by omega⟩
      rw [L_X3_forget_1, if_pos (by omega)]
      refine ex_ct (gd_of (by omega)) ?_
      refine ex_ct (nm_of rfl) ?_
      refine ex_ct (nm_of rfl) ?_
      refine ex_ct (nm_of (w32_n (by omega))) ?_
      refine ih (p + 1) _ f (by omega) (by omega) (fun r k => ?_)
      rw [wr_at]
      by_cases a : r = 53 ∧ k = (p : Int)
      · rw [if_pos a, if_pos (by omega)]
      · rw [if_neg a, wr_at]
        by_cases b : r = 52 ∧ k = (p : Int)
        · rw [if_pos b, if_pos (by omega)]
        · rw [if_neg b, hI]
          by_cases z : (r = 52 ∨ r = 53) ∧ 0 ≤ k ∧ k < (p : Int)
          · rw [if_pos z, if_pos (by omega)]
          · rw [if_neg z, if_neg (by omega)]
  exact key 81 0 h FU (by omega) (by unfold FU; omega) (fun r k => by rw [if_neg (by omega)])
theorem acts2 {h : Mem} {it : Int} (Kx : Int → Mem → Res) : ∃ h2, L_X8_acts_2 it Kx FU 0 h = Kx 81 h2 ∧ ∀ r k : Int, h2 r k = if r = 58 ∧ 0 ≤ k ∧ k < 81 then h 58 (90 + k) else h r k := by
  have key : ∀ (d p : Nat) (h1 : Mem) (f : Nat), p + d = 81 → d < f → (∀ r k : Int, h1 r k = if r = 58 ∧ 0 ≤ k ∧ k < p then h 58 (90 + k) else h r k) → ∃ h2, L_X8_acts_2 it Kx f p h1 = Kx 81 h2 ∧ ∀ r k : Int, h2 r k = if r = 58 ∧ 0 ≤ k ∧ k < 81 then h 58 (90 + k) else h r k := by
    intro d
    induction d with
    | zero =>
      intro p h1 f hp hf hI
      obtain ⟨f, rfl⟩ : ∃ g, f = g + 1 := ⟨f - 1, by omega⟩
      have e : p = 81 := by omega
      subst e
      exact ⟨h1, by rw [L_X8_acts_2, if_neg (by omega)]; rfl, hI⟩
    | succ d ih =>
      intro p h1 f hp hf hI
      obtain ⟨f, rfl⟩ : ∃ g, f = g + 1 := ⟨f - 1, by omega⟩
      have e : h1 58 (90 + (p : Int)) = h 58 (90 + (p : Int)) := by rw [hI, if_neg (by omega)]
      rw [L_X8_acts_2, if_pos (by omega), w32_s (z := 90 + (p : Int)) (by omega) (by omega)]
      refine ex_ct (gd_of (by omega)) ?_
      refine ex_ct (gd_of (by omega)) ?_
      rw [e]
      refine ex_ct (nm_of rfl) ?_
      refine ex_ct (nm_of (w32_n (by omega))) ?_
      refine ih (p + 1) _ f (by omega) (by omega) (fun r k => ?_)
      rw [wr_at]
      by_cases a : r = 58 ∧ k = (p : Int)
      · rw [if_pos a, if_pos (by omega), a.2]
      · rw [if_neg a, hI]
        by_cases z : r = 58 ∧ 0 ≤ k ∧ k < (p : Int)
        · rw [if_pos z, if_pos (by omega)]
        · rw [if_neg z, if_neg (by omega)]
  exact key 81 0 h FU (by omega) (by unfold FU; omega) (fun r k => by rw [if_neg (by omega)])
theorem acts3 {h : Mem} {it : Int} (Kx : Int → Mem → Res) : ∃ h2, L_X8_acts_3 it Kx FU 0 h = Kx 9 h2 ∧ ∀ r k : Int, h2 r k = if r = 60 ∧ 0 ≤ k ∧ k < 9 then 0 else h r k := by
  have key : ∀ (d p : Nat) (h1 : Mem) (f : Nat), p + d = 9 → d < f → (∀ r k : Int, h1 r k = if r = 60 ∧ 0 ≤ k ∧ k < p then 0 else h r k) → ∃ h2, L_X8_acts_3 it Kx f p h1 = Kx 9 h2 ∧ ∀ r k : Int, h2 r k = if r = 60 ∧ 0 ≤ k ∧ k < 9 then 0 else h r k := by
    intro d
    induction d with
    | zero =>
      intro p h1 f hp hf hI
      obtain ⟨f, rfl⟩ : ∃ g, f = g + 1 := ⟨f - 1, by omega⟩
      have e : p = 9 := by omega
      subst e
      exact ⟨h1, by rw [L_X8_acts_3, if_neg (by omega)]; rfl, hI⟩
    | succ d ih =>
      intro p h1 f hp hf hI
      obtain ⟨f, rfl⟩ : ∃ g, f = g + 1 := ⟨f - 1, by omega⟩
      rw [L_X8_acts_3, if_pos (by omega)]
      refine ex_ct (gd_of (by omega)) ?_
      refine ex_ct (nm_of rfl) ?_
      refine ex_ct (nm_of (w32_n (by omega))) ?_
      refine ih (p + 1) _ f (by omega) (by omega) (fun r k => ?_)
      rw [wr_at]
      by_cases a : r = 60 ∧ k = (p : Int)
      · rw [if_pos a, if_pos (by omega)]
      · rw [if_neg a, hI]
        by_cases z : r = 60 ∧ 0 ≤ k ∧ k < (p : Int)
        · rw [if_pos z, if_pos (by omega)]
        · rw [if_neg z, if_neg (by omega)]
  exact key 9 0 h FU (by omega) (by unfold FU; omega) (fun r k => by rw [if_neg (by omega)])
/-- the class's and the reference's beginnings -/
def cS (d : Int) (h : Mem) : Mem := wr (wr h d 1 0) 2 5 0
def mS0 (h : Mem) : Mem := wr (wr (wr (wr h 56 0 0) 56 8 (-1)) 56 4 0) 56 11 0
theorem both {h g : Mem} {d : Int} (hR : RR h) (hd : d = 4 ∨ d = 15) (hg : g 56 3 = h 56 3 ∧ ∀ k, g 57 k = h 57 k) (KM : Int → Mem → Res) :
    ∃ r c' m' its, F_X4_tell d h = some (r, c') ∧ (bd (F_X8_advances (mS0 g)) (fun _ (h_6 : Mem) => L_X8_acts_1 KM FU 0 h_6) : Res) = KM its m' ∧ FCd d (cS d h) c' ∧ FMd (mS0 g) m' ∧ ((r = its ∧ 0 ≤ r ∧ m' 56 8 = -1 ∧ ∃ n', DR d c' m' n') ∨ (0 ≤ m' 56 8 ∧ m' 56 8 ≤ 400 ∧ r = -10 - m' 56 8)) := by
  obtain ⟨⟨t1, t2⟩, w1, w2, w3⟩ := hR.ps.2.1
  obtain ⟨N, hN⟩ : ∃ N : Nat, h 56 3 = (N : Int) := ⟨(h 56 3).toNat, by omega⟩
  have c1 : (cS d h) 2 1 = (N : Int) := by unfold cS; rw [wr_k (by omega), wr_o (by omega), t1]; exact hN
  have c3 : (cS d h) 3 = h 3 := by funext k; unfold cS; rw [wr_o (by omega), wr_o (by omega)]
  have m3 : (mS0 g) 56 3 = (N : Int) := by unfold mS0; rw [wr_k (by omega), wr_k (by omega), wr_k (by omega), wr_k (by omega), hg.1]; exact hN
  have m57 : ∀ k : Nat, k < N → (mS0 g) 57 (k : Int) = h 3 (k : Int) := fun k hk => by
    unfold mS0
    rw [wr_o (by omega), wr_o (by omega), wr_o (by omega), wr_o (by omega), hg.2, t2 k (by omega) (by omega)]
  obtain ⟨c2, m2, q2, e2, a1, a2, a3, a4, T2, lq⟩ := adv_r (c := cS d h) (m := mS0 g) (a := 0) c1 c3 m3 m57 (by omega) (fun k hk => by rw [t2 k (by omega) (by omega)]; exact w3 k (by omega) (by omega)) (by unfold cS; rw [wr_s]; rfl) (by unfold mS0; rw [wr_k (by omega), wr_s]; rfl) (by omega)
  have D0 : DR d c2 m2 0 := ⟨by rw [a3 d 1 (by omega)]; unfold cS; rw [wr_o (by omega), wr_s]; rfl, by rw [a4 56 11 (by omega)]; unfold mS0; rw [wr_s]; rfl, by omega, fun i hi => absurd hi (by omega)⟩
  obtain ⟨r, c', m', its, x1, x2, x3, x4, x5⟩ := tell_r (t := h 3) (N := N) hd KM 400 c2 m2 q2 e2 0 0 FU (by omega) (by unfold FU; omega) T2 (by rw [a4 56 8 (by omega)]; unfold mS0; rw [wr_k (by omega), wr_k (by omega), wr_s]) D0 (by omega)
  refine ⟨r, c', m', its, ?_, ?_, fun r k x y z => by rw [x3 r k x y z, a3 r k x], fun r k x y => by rw [x4 r k x y, a4 r k (by omega)], x5⟩
  · unfold F_X4_tell
    refine (nm_of rfl).trans ?_
    refine (nm_of rfl).trans ?_
    refine (bd_of a1).trans ?_
    exact x1
  · refine (bd_of a2).trans ?_
    exact x2
theorem op_acts : OP F_X7_acts F_X8_acts := by
  intro h hR
  have p := hR.ps
  have hcc := (c_B hR).2
  have hd : h 1 2 = 4 ∨ h 1 2 = 15 := by have := hR.1.1; omega
  have hcd : (h 1 1 = 4 ∧ h 1 2 = 15) ∨ (h 1 1 = 15 ∧ h 1 2 = 4) := hR.1.1
  have od : okO 2 (h 1 2) = true := by rcases hd with e | e <;> rw [e] <;> decide
  obtain ⟨r, c', m0, i0, x1, _, x3, _, x5⟩ := both (g := h) hR hd ⟨rfl, fun _ => rfl⟩ (fun _ _ => none)
  have fc : ∀ r k : Int, ¬ (r = 2 ∧ 2 ≤ k ∧ k ≤ 5) → ¬ (r = h 1 2 ∧ k = 1) → ¬ ((h 1 2 + 2 ≤ r ∧ r ≤ h 1 2 + 10) ∧ 1 ≤ k ∧ k ≤ 10) → c' r k = h r k := fun r k a b z => by
    rw [x3 r k a b z]; unfold cS; rw [wr_at, if_neg (by omega), wr_at, if_neg b]
  by_cases neg : r < 0
  · -- a fault
    obtain ⟨r2, c2, m2, i2, y1, y2, y3, y4, y5⟩ := both (g := c') hR hd ⟨fc 56 3 (by omega) (by omega) (by omega), fun k => fc 57 k (by omega) (by omega) (by omega)⟩ (fun items_56 (h_55 : Mem) => bd (F_X8_isWell  h_55) (fun r_57 (h_58 : Mem) => if (¬ r_57 = 0) then (L_X8_acts_2 items_56 (fun k_70 (h_69 : Mem) => nm (wr h_69 56 10 (h_69 56 11)) (fun (h_71 : Mem) => L_X8_acts_3 items_56 (fun i_79 (h_78 : Mem) => nm (wr h_78 61 0 0) (fun (h_80 : Mem) => nm (wr h_80 61 1 0) (fun (h_81 : Mem) => nm (wr h_81 56 33 0) (fun (h_82 : Mem) => nm (wr h_82 63 0 0) (fun (h_83 : Mem) => nm (wr h_83 63 1 0) (fun (h_84 : Mem) => nm (wr h_84 56 3 0) (fun (h_85 : Mem) => some (items_56, h_85)))))))) FU 0 h_71)) FU 0 h_58) else (some (w32 ((-10) - (h_58 56 8)), h_58))))
    have same : r2 = r ∧ c2 = c' := by
      rw [x1] at y1
      have := Option.some.inj y1
      exact ⟨(congrArg Prod.fst this).symm, (congrArg Prod.snd this).symm⟩
    obtain ⟨e1, e2⟩ := same
    subst e1; subst e2
    rcases y5 with ⟨u1, u2, _⟩ | ⟨u1, u2, u3⟩
    · omega
    · have hW : ∀ r k : Int, ¬ (r = 2 ∧ 2 ≤ k ∧ k ≤ 5) → ¬ (r = h 1 2 ∧ k = 1) → ¬ ((h 1 2 + 2 ≤ r ∧ r ≤ h 1 2 + 10) ∧ 1 ≤ k ∧ k ≤ 10) → ¬ (r = 56 ∧ (k = 0 ∨ (4 ≤ k ∧ k ≤ 8) ∨ k = 11)) → ¬ (r = 58 ∧ 90 ≤ k) → m2 r k = h r k := fun r k a b z y w => by
        rw [y4 r k (by omega) w]
        unfold mS0
        rw [wr_at, if_neg (by omega), wr_at, if_neg (by omega), wr_at, if_neg (by omega), wr_at, if_neg (by omega)]
        exact fc r k a b z
      refine ⟨r2, c2, m2, ?_, ?_, ?_⟩
      · unfold F_X7_acts
        refine (nm_of rfl).trans ?_
        refine (gd_of od).trans ?_
        refine (bd_of x1).trans ?_
        rw [if_pos neg]
      · unfold F_X8_acts
        refine (nm_of rfl).trans ?_
        refine (nm_of rfl).trans ?_
        refine (nm_of rfl).trans ?_
        refine (nm_of rfl).trans ?_
        refine y2.trans ?_
        rw [ill_e u1, bd_s, if_neg (show ¬ ¬ (0 : Int) = 0 from fun y => y rfl), w32_s (by omega) (by omega), u3]
      · exact RR.of (fCC (fun r k d => hW r k (by unfold dCC at d; omega) (by unfold dCC at d; omega) (by unfold dCC at d; omega) (by unfold dCC at d; omega) (by unfold dCC at d; omega)) p.1) (fTx (fun r k d => hW r k (by unfold dTx at d; omega) (by unfold dTx at d; omega) (by unfold dTx at d; omega) (by unfold dTx at d; omega) (by unfold dTx at d; omega)) p.2.1) (fAc' hcc (fun r k d => hW r k (by omega) (by omega) (by omega) (by omega) (by omega)) p.2.2.1) (fTu (fun r k d => hW r k (by unfold dTu at d; omega) (by unfold dTu at d; omega) (by unfold dTu at d; omega) (by unfold dTu at d; omega) (by unfold dTu at d; omega)) p.2.2.2.1) (fB (fun r k d => hW r k (by unfold dB at d; omega) (by unfold dB at d; omega) (by unfold dB at d; omega) (by unfold dB at d; omega) (by unfold dB at d; omega)) p.2.2.2.2.1) (fIm (fun r k d => hW r k (by unfold dIm at d; omega) (by unfold dIm at d; omega) (by unfold dIm at d; omega) (by unfold dIm at d; omega) (by unfold dIm at d; omega)) p.2.2.2.2.2.1) (fMk (fun r k d => hW r k (by unfold dMk at d; omega) (by unfold dMk at d; omega) (by unfold dMk at d; omega) (by unfold dMk at d; omega) (by unfold dMk at d; omega)) p.2.2.2.2.2.2.1) (fTr (fun r k d => hW r k (by unfold dTr at d; omega) (by unfold dTr at d; omega) (by unfold dTr at d; omega) (by unfold dTr at d; omega) (by unfold dTr at d; omega)) p.2.2.2.2.2.2.2.1) (fBs (fun r k d => hW r k (by unfold dBs at d; omega) (by unfold dBs at d; omega) (by unfold dBs at d; omega) (by unfold dBs at d; omega) (by unfold dBs at d; omega)) p.2.2.2.2.2.2.2.2)
  · -- told: what the class does then
    have c11 : c' 1 1 = h 1 1 := fc 1 1 (by omega) (by omega) (by omega)
    have c12 : c' 1 2 = h 1 2 := fc 1 2 (by omega) (by omega) (by omega)
    obtain ⟨f1, g1, g2⟩ := forgetM (h := wr (wr (wr (wr (wr c' 1 1 (h 1 2)) 1 2 (h 1 1)) 2 1 0) 26 1 0) 26 2 0) (fun k_9 (h_8 : Mem) => nm (wr h_8 51 2 0) (fun (h_10 : Mem) => some (0, h_10)))
    have cl : F_X7_acts h = some (r, wr (wr (wr (wr f1 51 2 0) 29 4 0) 31 4 0) 1 11 0) := by
      unfold F_X7_acts
      refine (nm_of rfl).trans ?_
      refine (gd_of od).trans ?_
      refine (bd_of x1).trans ?_
      rw [if_neg neg]
      refine (nm_of c11).trans ?_
      refine (gd_of (c_B hR).1).trans ?_
      refine (nm_of c12).trans ?_
      refine (gd_of od).trans ?_
      refine (nm_of rfl).trans ?_
      refine (nm_of rfl).trans ?_
      refine (nm_of rfl).trans ?_
      refine (bd_of (v := 0) (h := wr (wr (wr (wr (wr c' 1 1 (h 1 2)) 1 2 (h 1 1)) 2 1 0) 26 1 0) 26 2 0) rfl).trans ?_
      have ff : F_X3_forget (wr (wr (wr (wr (wr c' 1 1 (h 1 2)) 1 2 (h 1 1)) 2 1 0) 26 1 0) 26 2 0) = some (0, wr f1 51 2 0) := by unfold F_X3_forget; exact g1
      refine (bd_of ff).trans ?_
      show L_X7_acts_1 r (h 1 1) _ (9997 + 1 + 1 + 1) 0 _ = _
      rw [L_X7_acts_1, if_pos (by omega)]
      refine (gd_of (by omega)).trans ?_
      refine (nm_of rfl).trans ?_
      refine (nm_of (e' := 1) (by decide)).trans ?_
      rw [L_X7_acts_1, if_pos (by omega)]
      refine (gd_of (by omega)).trans ?_
      refine (nm_of rfl).trans ?_
      refine (nm_of (e' := 2) (by decide)).trans ?_
      rw [L_X7_acts_1, if_neg (by omega)]
      rfl
    have hc : ∀ r' k : Int, (wr (wr (wr (wr f1 51 2 0) 29 4 0) 31 4 0) 1 11 0) r' k = if r' = 1 ∧ k = 11 then 0 else if r' = 31 ∧ k = 4 then 0 else if r' = 29 ∧ k = 4 then 0 else if r' = 51 ∧ k = 2 then 0 else if (r' = 52 ∨ r' = 53) ∧ 0 ≤ k ∧ k < 81 then 0 else if r' = 26 ∧ k = 2 then 0 else if r' = 26 ∧ k = 1 then 0 else if r' = 2 ∧ k = 1 then 0 else if r' = 1 ∧ k = 2 then h 1 1 else if r' = 1 ∧ k = 1 then h 1 2 else c' r' k := fun r' k => by
      rw [wr_at, wr_at, wr_at, wr_at, g2, wr_at, wr_at, wr_at, wr_at, wr_at]
    generalize wr (wr (wr (wr f1 51 2 0) 29 4 0) 31 4 0) 1 11 0 = C at *
    have hC : ∀ r' k : Int, ¬ (r' = 1 ∧ (k = 11 ∨ k = 1 ∨ k = 2)) → ¬ (r' = 31 ∧ k = 4) → ¬ (r' = 29 ∧ k = 4) → ¬ (r' = 51 ∧ k = 2) → ¬ (r' = 52 ∨ r' = 53) → ¬ (r' = 26 ∧ (k = 1 ∨ k = 2)) → ¬ (r' = 2 ∧ k = 1) → C r' k = c' r' k := fun r' k b1 b2 b3 b4 b5 b6 b7 => by
      rw [hc, if_neg (by omega), if_neg (by omega), if_neg (by omega), if_neg (by omega), if_neg (by omega), if_neg (by omega), if_neg (by omega), if_neg (by omega), if_neg (by omega), if_neg (by omega)]
    obtain ⟨r2, c2, m2, i2, y1, y2, y3, y4, y5⟩ := both (g := C) hR hd ⟨by rw [hC 56 3 (by omega) (by omega) (by omega) (by omega) (by omega) (by omega) (by omega)]; exact fc 56 3 (by omega) (by omega) (by omega), fun k => by rw [hC 57 k (by omega) (by omega) (by omega) (by omega) (by omega) (by omega) (by omega)]; exact fc 57 k (by omega) (by omega) (by omega)⟩ (fun items_56 (h_55 : Mem) => bd (F_X8_isWell  h_55) (fun r_57 (h_58 : Mem) => if (¬ r_57 = 0) then (L_X8_acts_2 items_56 (fun k_70 (h_69 : Mem) => nm (wr h_69 56 10 (h_69 56 11)) (fun (h_71 : Mem) => L_X8_acts_3 items_56 (fun i_79 (h_78 : Mem) => nm (wr h_78 61 0 0) (fun (h_80 : Mem) => nm (wr h_80 61 1 0) (fun (h_81 : Mem) => nm (wr h_81 56 33 0) (fun (h_82 : Mem) => nm (wr h_82 63 0 0) (fun (h_83 : Mem) => nm (wr h_83 63 1 0) (fun (h_84 : Mem) => nm (wr h_84 56 3 0) (fun (h_85 : Mem) => some (items_56, h_85)))))))) FU 0 h_71)) FU 0 h_58) else (some (w32 ((-10) - (h_58 56 8)), h_58))))
    have same : r2 = r ∧ c2 = c' := by
      rw [x1] at y1
      have := Option.some.inj y1
      exact ⟨(congrArg Prod.fst this).symm, (congrArg Prod.snd this).symm⟩
    obtain ⟨e1, e2⟩ := same
    subst e1; subst e2
    rcases y5 with ⟨u1, u2, u3, n, D⟩ | ⟨u1, u2, u3⟩
    · subst u1
      obtain ⟨a2, z1, z2⟩ := acts2 (h := m2) (it := r2) (fun k_70 (h_69 : Mem) => nm (wr h_69 56 10 (h_69 56 11)) (fun (h_71 : Mem) => L_X8_acts_3 r2 (fun i_79 (h_78 : Mem) => nm (wr h_78 61 0 0) (fun (h_80 : Mem) => nm (wr h_80 61 1 0) (fun (h_81 : Mem) => nm (wr h_81 56 33 0) (fun (h_82 : Mem) => nm (wr h_82 63 0 0) (fun (h_83 : Mem) => nm (wr h_83 63 1 0) (fun (h_84 : Mem) => nm (wr h_84 56 3 0) (fun (h_85 : Mem) => some (r2, h_85)))))))) FU 0 h_71))
      have n11 : a2 56 11 = (n : Int) := by rw [z2, if_neg (by omega)]; exact D.2.1
      obtain ⟨a3, w1, w2⟩ := acts3 (h := wr a2 56 10 (n : Int)) (it := r2) (fun i_79 (h_78 : Mem) => nm (wr h_78 61 0 0) (fun (h_80 : Mem) => nm (wr h_80 61 1 0) (fun (h_81 : Mem) => nm (wr h_81 56 33 0) (fun (h_82 : Mem) => nm (wr h_82 63 0 0) (fun (h_83 : Mem) => nm (wr h_83 63 1 0) (fun (h_84 : Mem) => nm (wr h_84 56 3 0) (fun (h_85 : Mem) => some (r2, h_85))))))))
      have wf : ∀ r' k : Int, (wr (wr (wr (wr (wr (wr a3 61 0 0) 61 1 0) 56 33 0) 63 0 0) 63 1 0) 56 3 0) r' k = if r' = 56 ∧ k = 3 then 0 else if r' = 63 ∧ k = 1 then 0 else if r' = 63 ∧ k = 0 then 0 else if r' = 56 ∧ k = 33 then 0 else if r' = 61 ∧ k = 1 then 0 else if r' = 61 ∧ k = 0 then 0 else if r' = 60 ∧ 0 ≤ k ∧ k < 9 then 0 else if r' = 56 ∧ k = 10 then (n : Int) else if r' = 58 ∧ 0 ≤ k ∧ k < 81 then m2 58 (90 + k) else m2 r' k := fun r' k => by
        rw [wr_at, wr_at, wr_at, wr_at, wr_at, wr_at, w2, wr_at, z2]
      refine ⟨r2, C, wr (wr (wr (wr (wr (wr a3 61 0 0) 61 1 0) 56 33 0) 63 0 0) 63 1 0) 56 3 0, cl, ?_, ?_⟩
      · unfold F_X8_acts
        refine (nm_of rfl).trans ?_
        refine (nm_of rfl).trans ?_
        refine (nm_of rfl).trans ?_
        refine (nm_of rfl).trans ?_
        refine y2.trans ?_
        rw [well_e (by omega), bd_s, if_pos (show ¬ (1 : Int) = 0 by omega)]
        refine z1.trans ?_
        rw [n11]
        refine (nm_of rfl).trans ?_
        refine w1.trans ?_
        rfl
      · clear z1 w1 y2
        generalize wr (wr (wr (wr (wr (wr a3 61 0 0) 61 1 0) 56 33 0) 63 0 0) 63 1 0) 56 3 0 = W at *
        -- cells by cells
        have mC : ∀ r' k : Int, ¬ (r' = 56 ∧ (k = 0 ∨ (4 ≤ k ∧ k ≤ 8) ∨ k = 11)) → ¬ (r' = 58 ∧ 90 ≤ k) → m2 r' k = C r' k := fun r' k b1 b2 => by
          rw [y4 r' k (by omega) b2]
          unfold mS0
          rw [wr_at, if_neg (by omega), wr_at, if_neg (by omega), wr_at, if_neg (by omega), wr_at, if_neg (by omega)]
        have WC : ∀ r' k : Int, r' < 56 → W r' k = C r' k := fun r' k b => by
          rw [wf, if_neg (by omega), if_neg (by omega), if_neg (by omega), if_neg (by omega), if_neg (by omega), if_neg (by omega), if_neg (by omega), if_neg (by omega), if_neg (by omega), mC r' k (by omega) (by omega)]
        have hW : ∀ r' k : Int, ¬ (r' = 1 ∧ (k = 11 ∨ k = 1 ∨ k = 2)) → ¬ (r' = 31 ∧ k = 4) → ¬ (r' = 29 ∧ k = 4) → ¬ (r' = 51 ∧ k = 2) → ¬ (r' = 52 ∨ r' = 53) → ¬ (r' = 26 ∧ (k = 1 ∨ k = 2)) → ¬ (r' = 2 ∧ 1 ≤ k ∧ k ≤ 5) → ¬ (r' = h 1 2 ∧ k = 1) → ¬ ((h 1 2 + 2 ≤ r' ∧ r' ≤ h 1 2 + 10) ∧ 1 ≤ k ∧ k ≤ 10) → ¬ (r' = 56 ∧ (k = 0 ∨ k = 3 ∨ (4 ≤ k ∧ k ≤ 8) ∨ k = 10 ∨ k = 11 ∨ k = 33)) → ¬ r' = 58 → ¬ r' = 60 → ¬ (r' = 61 ∧ (k = 0 ∨ k = 1)) → ¬ r' = 63 → W r' k = h r' k := fun r' k b1 b2 b3 b4 b5 b6 b7 b8 b9 b10 b11 b12 b13 b14 => by
          rw [wf, if_neg (by omega), if_neg (by omega), if_neg (by omega), if_neg (by omega), if_neg (by omega), if_neg (by omega), if_neg (by omega), if_neg (by omega), if_neg (by omega), mC r' k (by omega) (by omega), hC r' k b1 b2 b3 b4 b5 b6 (by omega)]
          exact fc r' k (by omega) b8 b9
        have W11 : W 1 1 = h 1 2 := by rw [WC 1 1 (by omega), hc, if_neg (by omega), if_neg (by omega), if_neg (by omega), if_neg (by omega), if_neg (by omega), if_neg (by omega), if_neg (by omega), if_neg (by omega), if_neg (by omega), if_pos (by omega)]
        have W12 : W 1 2 = h 1 1 := by rw [WC 1 2 (by omega), hc, if_neg (by omega), if_neg (by omega), if_neg (by omega), if_neg (by omega), if_neg (by omega), if_neg (by omega), if_neg (by omega), if_neg (by omega), if_pos (by omega)]
        have Wd : ∀ r' k : Int, 4 ≤ r' → r' ≤ 25 → W r' k = c2 r' k := fun r' k b1 b2 => by rw [WC r' k (by omega), hC r' k (by omega) (by omega) (by omega) (by omega) (by omega) (by omega) (by omega)]
        have W10 : W 56 10 = (n : Int) := by rw [wf, if_neg (by omega), if_neg (by omega), if_neg (by omega), if_neg (by omega), if_neg (by omega), if_neg (by omega), if_neg (by omega), if_pos (by omega)]
        have W58 : ∀ k : Int, 0 ≤ k → k < 81 → W 58 k = m2 58 (90 + k) := fun k b1 b2 => by rw [wf, if_neg (by omega), if_neg (by omega), if_neg (by omega), if_neg (by omega), if_neg (by omega), if_neg (by omega), if_neg (by omega), if_neg (by omega), if_pos (by omega)]
        have W60 : ∀ k : Int, 0 ≤ k → k < 9 → W 60 k = 0 := fun k b1 b2 => by rw [wf, if_neg (by omega), if_neg (by omega), if_neg (by omega), if_neg (by omega), if_neg (by omega), if_neg (by omega), if_pos (by omega)]
        have W3 : W 56 3 = 0 := by rw [wf, if_pos ⟨rfl, rfl⟩]
        have W33 : W 56 33 = 0 := by rw [wf, if_neg (by omega), if_neg (by omega), if_neg (by omega), if_pos ⟨rfl, rfl⟩]
        have W610 : W 61 0 = 0 := by rw [wf, if_neg (by omega), if_neg (by omega), if_neg (by omega), if_neg (by omega), if_neg (by omega), if_pos ⟨rfl, rfl⟩]
        have W611 : W 61 1 = 0 := by rw [wf, if_neg (by omega), if_neg (by omega), if_neg (by omega), if_neg (by omega), if_pos ⟨rfl, rfl⟩]
        have W63 : ∀ k : Int, 0 ≤ k → k < 2 → W 63 k = 0 := fun k b1 b2 => by
          rcases (show k = 0 ∨ k = 1 by omega) with e | e
          · subst e; rw [wf, if_neg (by omega), if_neg (by omega), if_pos ⟨rfl, rfl⟩]
          · subst e; rw [wf, if_neg (by omega), if_pos ⟨rfl, rfl⟩]
        have W21 : W 2 1 = 0 := by rw [WC 2 1 (by omega), hc, if_neg (by omega), if_neg (by omega), if_neg (by omega), if_neg (by omega), if_neg (by omega), if_neg (by omega), if_neg (by omega), if_pos ⟨rfl, rfl⟩]
        have W261 : W 26 1 = 0 := by rw [WC 26 1 (by omega), hc, if_neg (by omega), if_neg (by omega), if_neg (by omega), if_neg (by omega), if_neg (by omega), if_neg (by omega), if_pos ⟨rfl, rfl⟩]
        have W262 : W 26 2 = 0 := by rw [WC 26 2 (by omega), hc, if_neg (by omega), if_neg (by omega), if_neg (by omega), if_neg (by omega), if_neg (by omega), if_pos ⟨rfl, rfl⟩]
        have W512 : W 51 2 = 0 := by rw [WC 51 2 (by omega), hc, if_neg (by omega), if_neg (by omega), if_neg (by omega), if_pos ⟨rfl, rfl⟩]
        have W52 : ∀ r' k : Int, (r' = 52 ∨ r' = 53) → 0 ≤ k → k < 81 → W r' k = 0 := fun r' k b b1 b2 => by rw [WC r' k (by omega), hc, if_neg (by omega), if_neg (by omega), if_neg (by omega), if_neg (by omega), if_pos (by omega)]
        have W29 : ∀ k : Int, 0 ≤ k → k < 2 → W (29 + 2 * k) 4 = 0 := fun k b1 b2 => by
          rcases (show k = 0 ∨ k = 1 by omega) with e | e
          · subst e; rw [WC _ 4 (by omega), hc, if_neg (by omega), if_neg (by omega), if_pos (by omega)]
          · subst e; rw [WC _ 4 (by omega), hc, if_neg (by omega), if_pos (by omega)]
        have W111 : W 1 11 = 0 := by rw [WC 1 11 (by omega), hc, if_pos ⟨rfl, rfl⟩]
        obtain ⟨D1, D2, D3, D4⟩ := D
        refine RR.of ?_ ?_ ?_ (fTu (fun r k d => hW r k (by unfold dTu at d; omega) (by unfold dTu at d; omega) (by unfold dTu at d; omega) (by unfold dTu at d; omega) (by unfold dTu at d; omega) (by unfold dTu at d; omega) (by unfold dTu at d; omega) (by unfold dTu at d; omega) (by unfold dTu at d; omega) (by unfold dTu at d; omega) (by unfold dTu at d; omega) (by unfold dTu at d; omega) (by unfold dTu at d; omega) (by unfold dTu at d; omega)) p.2.2.2.1) ?_ ?_ ?_ (fTr (fun r k d => hW r k (by unfold dTr at d; omega) (by unfold dTr at d; omega) (by unfold dTr at d; omega) (by unfold dTr at d; omega) (by unfold dTr at d; omega) (by unfold dTr at d; omega) (by unfold dTr at d; omega) (by unfold dTr at d; omega) (by unfold dTr at d; omega) (by unfold dTr at d; omega) (by unfold dTr at d; omega) (by unfold dTr at d; omega) (by unfold dTr at d; omega) (by unfold dTr at d; omega)) p.2.2.2.2.2.2.2.1) (Or.inl W111)
        · -- the casts
          refine ⟨by rw [W11, W12]; omega, fun i a b => ?_, ?_, fun k a b => ?_⟩
          · rw [Wd (6 + i) 0 (by omega) (by omega), Wd (17 + i) 0 (by omega) (by omega), fc (6 + i) 0 (by omega) (by omega) (by omega), fc (17 + i) 0 (by omega) (by omega) (by omega)]
            exact hR.1.2.1 i a b
          · rw [hW 54 0 (by omega) (by omega) (by omega) (by omega) (by omega) (by omega) (by omega) (by omega) (by omega) (by omega) (by omega) (by omega) (by omega) (by omega)]; exact hR.1.2.2.1
          · rw [hW 54 k (by omega) (by omega) (by omega) (by omega) (by omega) (by omega) (by omega) (by omega) (by omega) (by omega) (by omega) (by omega) (by omega) (by omega)]; exact hR.1.2.2.2 k a b
        · refine ⟨⟨by rw [W21, W3], fun k a b => ?_⟩, by rw [W3]; omega, by rw [W3]; omega, fun k a b => ?_⟩
          · rw [W3] at b; omega
          · rw [W3] at b; omega
        · have ix : ∀ (i : Nat) (k : Int), i < n → 0 ≤ k → k ≤ 8 → W 58 (9 * (i : Int) + k) = m2 58 (9 * (10 + (i : Int)) + k) := fun i k hi k0 k1 => by
            rw [W58 _ (by omega) (by omega), show 90 + (9 * (i : Int) + k) = 9 * (10 + (i : Int)) + k by omega]
          have ix0 : ∀ (i : Nat), i < n → W 58 (9 * (i : Int)) = m2 58 (9 * (10 + (i : Int))) := fun i hi => by
            rw [W58 _ (by omega) (by omega), show 90 + 9 * (i : Int) = 9 * (10 + (i : Int)) by omega]
          refine ⟨⟨by rw [W11, W10, Wd _ 1 (by omega) (by omega)]; exact D1, fun i a b => ?_⟩, by rw [W10]; omega, by rw [W10]; omega, fun i a b => ?_⟩
          · rw [W10] at b
            obtain ⟨j, rfl⟩ : ∃ j : Nat, i = (j : Int) := ⟨i.toNat, by omega⟩
            have o := D4 j (by omega)
            refine ⟨?_, ?_⟩
            · have x := o.1
              unfold CAct at x ⊢
              rw [W11, ix0 j (by omega), ix j 1 (by omega) (by omega) (by omega), ix j 2 (by omega) (by omega) (by omega), ix j 3 (by omega) (by omega) (by omega), ix j 4 (by omega) (by omega) (by omega), ix j 5 (by omega) (by omega) (by omega), ix j 6 (by omega) (by omega) (by omega), ix j 7 (by omega) (by omega) (by omega), ix j 8 (by omega) (by omega) (by omega), Wd _ 1 (by omega) (by omega), Wd _ 2 (by omega) (by omega), Wd _ 3 (by omega) (by omega), Wd _ 4 (by omega) (by omega), Wd _ 5 (by omega) (by omega), Wd _ 6 (by omega) (by omega), Wd _ 7 (by omega) (by omega), Wd _ 8 (by omega) (by omega), Wd _ 10 (by omega) (by omega)]
              exact x
            · rw [W11, Wd _ 9 (by omega) (by omega), W60 j (by omega) (by omega)]; exact o.2.2
          · rw [W10] at b
            obtain ⟨j, rfl⟩ : ∃ j : Nat, i = (j : Int) := ⟨i.toNat, by omega⟩
            have o := D4 j (by omega)
            refine ⟨?_, by rw [W60 j (by omega) (by omega)]; omega, by rw [W60 j (by omega) (by omega)]; omega⟩
            have x := o.2.1
            unfold WAct at x ⊢
            rw [ix0 j (by omega), ix j 1 (by omega) (by omega) (by omega), ix j 2 (by omega) (by omega) (by omega), ix j 3 (by omega) (by omega) (by omega), ix j 4 (by omega) (by omega) (by omega), ix j 5 (by omega) (by omega) (by omega), ix j 6 (by omega) (by omega) (by omega), ix j 7 (by omega) (by omega) (by omega), ix j 8 (by omega) (by omega) (by omega)]
            exact x
        · have b3 : W 26 3 = h 26 3 := hW 26 3 (by omega) (by omega) (by omega) (by omega) (by omega) (by omega) (by omega) (by omega) (by omega) (by omega) (by omega) (by omega) (by omega) (by omega)
          have b4 : W 61 2 = h 61 2 := hW 61 2 (by omega) (by omega) (by omega) (by omega) (by omega) (by omega) (by omega) (by omega) (by omega) (by omega) (by omega) (by omega) (by omega) (by omega)
          obtain ⟨⟨v1, v2, v3, v4⟩, wb⟩ := p.2.2.2.2.1
          refine ⟨⟨by rw [W261, W610], by show W 26 2 = W 61 1; rw [W262, W611], by show W 26 3 = W 61 2; rw [b3, b4]; exact v3, fun q x y => by rw [W610] at y; omega⟩, by rw [W610]; exact Int.le_refl _, by rw [W610, W10]; omega, by show 0 ≤ W 61 1; rw [W611]; exact Int.le_refl _, Or.inr W611, by show in32 (W 61 2); rw [b4]; exact wb.2.2.2.2.1, fun q x y => by rw [W610] at y; omega, fun q q' x y z => by rw [W610] at z; omega⟩
        · refine ⟨fun k a b => ⟨by rw [W29 k a b, W63 k a b], fun z => ?_⟩, fun k a b => ⟨Or.inl (W63 k a b), fun z => ?_⟩⟩
          · rw [W63 k a b] at z; omega
          · rw [W63 k a b] at z; omega
        · refine ⟨⟨by rw [W512, W33], fun i q a b a' b' => ?_⟩, by rw [W33]; omega, by rw [W33]; omega, fun k a b => ?_⟩
          · rw [W33, W52 52 _ (Or.inl rfl) (by omega) (by omega), W52 53 _ (Or.inr rfl) (by omega) (by omega)]
            exact ⟨rfl, rfl⟩
          · rw [W33] at b; omega
    · omega
