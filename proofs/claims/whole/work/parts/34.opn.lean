/-! the calls of a night: minute, staged, night, worth -/
def OP (c m : Mem → Res) : Prop := ∀ h, RR h → ∃ v h1 h2, c h = some (v, h1) ∧ m h1 = some (v, h2) ∧ RR h2
def csc (r k : Int) : Prop := scr r k ∨ (r = 56 ∧ k = 0)
theorem csc_r {r k : Int} (h : csc r k) : rsc r k := by unfold csc scr at h; unfold rsc; omega
theorem asc_r {r k : Int} (h : asc r k) : rsc r k := by unfold asc at h; unfold rsc; omega
theorem lsc_r {r k : Int} (h : lsc r k) : rsc r k := by unfold lsc at h; unfold rsc; omega
theorem ssc_r {r k : Int} (h : ssc r k) : rsc r k := by unfold ssc at h; unfold rsc; omega
theorem scr_r {r k : Int} (h : scr r k) : rsc r k := by unfold scr at h; unfold rsc; omega
theorem B_fr {h g : Mem} (hF : Fr csc h g) : qB g = qB h ∧ mB g = mB h ∧ g 59 = h 59 ∧ g 61 = h 61 := by
  have e58 : g 58 = h 58 := funext (fun k => hF 58 k (by unfold csc scr; omega))
  have e59 : g 59 = h 59 := funext (fun k => hF 59 k (by unfold csc scr; omega))
  have e61 : g 61 = h 61 := funext (fun k => hF 61 k (by unfold csc scr; omega))
  have e64 : g 64 = h 64 := funext (fun k => hF 64 k (by unfold csc scr; omega))
  have em : mB g = mB h := by unfold mB; rw [e61, e64]
  refine ⟨by unfold qB; rw [em, e58], em, e59, e61⟩
/-- a call of the reference begins with thrown = 0 -/
theorem g0_fr {h h1 : Mem} (hF : Fr scr h h1) : Fr csc h (wr h1 56 0 0) := fun r k hn => by
  rw [wr_at, if_neg (fun z => hn (Or.inr z))]; exact hF r k (fun z => hn (Or.inl z))
theorem RR.g0 {h h1 : Mem} (hR : RR h) (hF : Fr scr h h1) : RR (wr h1 56 0 0) := hR.fr ((g0_fr hF).mono (fun _ _ => csc_r))
theorem place_e {g : Mem} {n : Nat} {p : Int} (hn : g 61 0 = (n : Int)) (h9 : n ≤ 9) : F_X8_isPlace p g = some (if 0 ≤ p ∧ p < n then 1 else 0, g) := by
  unfold F_X8_isPlace
  rw [hn, w32_s (by omega) (by omega), in_e, bd_s]
  refine congrArg (fun z => some (z, g)) (ifc ?_)
  omega
/-- the reference lays out the bill of a state -/
theorem mlays {g : Mem} {n : Nat} (hR : RR g) (hn : g 61 0 = (n : Int)) :
    ∃ h1 h2, F_X8_asBilled g = some (0, h1) ∧ F_X8_lays h1 = some (0, h2) ∧ RR h2 ∧ R8 h2 n ∧ q8 h2 = qB g ∧ h2 59 = g 59 ∧ h2 56 19 = g 61 1 ∧ h2 61 2 = g 61 2 ∧ ∀ p : Nat, p < n → h2 65 p = sGp (qB g) (g 59) (g 61 1) p ∧ h2 66 p = sSt (qB g) (g 59) (g 61 1) p := by
  obtain ⟨h1, e1, F1, R1, q1, m1, b1, t1⟩ := mbill hR hn
  obtain ⟨h2, e2, F2, I2⟩ := lays_e R1 b1
  have f58 : ∀ k, h2 58 k = h1 58 k := fun k => F2 58 k (by unfold lsc; omega)
  have f59 : ∀ k, h2 59 k = h1 59 k := fun k => F2 59 k (by unfold lsc; omega)
  have f64 : ∀ k, h2 64 k = h1 64 k := fun k => F2 64 k (by unfold lsc; omega)
  have R2 : R8 h2 n := R8_fr R1 (F2 56 18 (by unfold lsc; omega)) f58 f59 f64
  rw [q1, t1] at I2
  refine ⟨h1, h2, e1, e2, (hR.fr (F1.mono (fun _ _ => asc_r))).fr (F2.mono (fun _ _ => lsc_r)), R2, (q8_fr f58 f64).trans q1, (funext f59).trans t1, ?_, ?_, I2⟩
  · rw [F2 56 19 (by unfold lsc; omega)]; exact b1
  · rw [F2 61 2 (by unfold lsc; omega)]; exact F1 61 2 (by unfold asc; omega)
theorem op_minute (p what : Int) : OP (F_X7_minute p what) (F_X8_minute p what) := by
  intro h hR
  obtain ⟨n, e0, e9, e26, eb⟩ := n_B hR
  by_cases v : (0 ≤ p ∧ p < n) ∧ 0 ≤ what ∧ what ≤ 2
  · obtain ⟨j, rfl⟩ : ∃ j : Nat, p = (j : Int) := ⟨p.toNat, by omega⟩
    have hj : j < n := by omega
    obtain ⟨h1, e1, hI, hC⟩ := cplay (b := h 26 2) hR e0
    have B := B_fr (g0_fr hI.1)
    have P := (hI.2.2.2.1 j hj).1
    obtain ⟨h2, h3, e2, e3, R3, R83, q3, t3, b3, _, I3⟩ := mlays (n := n) (hR.g0 hI.1) (by rw [B.2.2.2]; exact e0)
    have I := I3 j hj
    rw [B.1, B.2.2.1, B.2.2.2] at I
    have en := end_e (b := h 61 1) R83 q3 t3 hj (by rw [B.1, B.2.2.1]; exact I.2)
    rw [B.1, B.2.2.1] at en
    refine ⟨if what = 0 then sGp (qB h) (h 59) (h 61 1) j else if what = 1 then sSt (qB h) (h 59) (h 61 1) j else sEn (qB h) (h 59) (h 61 1) (j + 1), h1, h3, ?_, ?_, R3⟩
    · unfold F_X7_minute
      refine jn_of.trans ?_
      have hp : F_X1_hasPlace 26 (j : Int) h = some (1, h) := by unfold F_X1_hasPlace; rw [e26, if_pos v.1]
      refine (bd_of hp).trans ?_
      rw [if_pos (by omega), if_neg (by omega), if_neg (by omega)]
      refine (bd_of e1).trans ?_
      rw [gd_t (by omega), gd_t (by omega), gd_t (by omega), P.2.1, P.2.2.1, P.2.2.2.1, eb]
      by_cases c : what = 0
      · rw [if_pos c, if_pos c]
      · by_cases c1 : what = 1
        · rw [if_neg c, if_neg c, if_pos c1, if_pos c1]
        · rw [if_neg c, if_neg c, if_neg c1, if_neg c1]
    · unfold F_X8_minute
      refine (nm_of rfl).trans ?_
      refine jn_of.trans ?_
      refine (bd_of (place_e (n := n) (by rw [B.2.2.2]; exact e0) e9)).trans ?_
      rw [if_pos v.1, if_pos (by omega)]
      refine (bd_of (in_t (by omega) (by omega))).trans ?_
      rw [if_pos (by omega)]
      refine (bd_of e2).trans ?_
      refine (bd_of e3).trans ?_
      rw [gd_t (by omega), gd_t (by omega), I.1, I.2, en, bd_s]
      by_cases c : what = 0
      · rw [if_pos c, if_pos c]
      · by_cases c1 : what = 1
        · rw [if_neg c, if_neg c, if_pos c1, if_pos c1]
        · rw [if_neg c, if_neg c, if_neg c1, if_neg c1]
  · refine ⟨-1, h, wr h 56 0 0, ?_, ?_, hR.g0 Fr.rfl⟩
    · unfold F_X7_minute F_X1_hasPlace
      rw [e26]
      refine jn_of.trans ?_
      by_cases c : 0 ≤ p ∧ p < n
      · rw [if_pos c, bd_s, if_pos (by omega)]
        by_cases d : what < 0
        · rw [if_pos d]
        · rw [if_neg d, if_pos (by omega)]
      · rw [if_neg c, bd_s, if_neg (by omega)]
    · unfold F_X8_minute
      refine (nm_of rfl).trans ?_
      refine jn_of.trans ?_
      refine (bd_of (place_e (n := n) (by rw [wr_o (by omega)]; exact e0) e9)).trans ?_
      by_cases c : 0 ≤ p ∧ p < n
      · rw [if_pos c, if_pos (by omega)]
        refine (bd_of (in_f (by omega))).trans ?_
        rw [if_neg (by omega)]
      · rw [if_neg c, if_neg (by omega)]
theorem op_staged (what : Int) : OP (F_X7_staged what) (F_X8_staged what) := by
  intro h hR
  obtain ⟨n, e0, e9, e26, eb⟩ := n_B hR
  by_cases v : 0 ≤ what ∧ what ≤ 1
  · by_cases z : n = 0
    · refine ⟨-2, h, wr h 56 0 0, ?_, ?_, hR.g0 Fr.rfl⟩
      · unfold F_X7_staged
        rw [if_neg (by omega), if_pos (by omega)]
      · unfold F_X8_staged
        refine (nm_of rfl).trans ?_
        refine (bd_of (in_t (by omega) (by omega))).trans ?_
        rw [if_pos (by omega), if_pos (by rw [wr_o (by omega)]; omega)]
    · obtain ⟨h1, e1, hI, hC⟩ := cplay (b := h 26 2) hR e0
      have B := B_fr (g0_fr hI.1)
      have g61 : (wr h1 56 0 0) 61 0 = (n : Int) := by rw [B.2.2.2]; exact e0
      have Rg := hR.g0 hI.1
      obtain ⟨h2, e2, F2, R2, q2, m2, b2, t2⟩ := mbill Rg g61
      obtain ⟨h3, e3, F3, I3, _⟩ := staged8_e R2 b2
      have cs := sta7_e (x := h2 56 29) (what := what) hC (by omega)
      rw [q2, m2, t2, B.1, B.2.1, B.2.2.1, B.2.2.2] at e3 I3
      rw [eb] at cs e1
      have i1 : h3 56 28 = (sFl (qB h) (mB h) (h 59) (h 61 1) n (h2 56 29) n).1 := by rw [← I3]
      have i2 : h3 56 29 = (sFl (qB h) (mB h) (h 59) (h 61 1) n (h2 56 29) n).2 := by rw [← I3]
      refine ⟨if (sFl (qB h) (mB h) (h 59) (h 61 1) n (h2 56 29) n).1 = 0 then -9 else if what = 0 then (sFl (qB h) (mB h) (h 59) (h 61 1) n (h2 56 29) n).1 else (sFl (qB h) (mB h) (h 59) (h 61 1) n (h2 56 29) n).2, h1, h3, ?_, ?_, (Rg.fr (F2.mono (fun _ _ => asc_r))).fr (F3.mono (fun _ _ => ssc_r))⟩
      · unfold F_X7_staged
        rw [if_neg (by omega), if_neg (by omega), eb]
        refine (bd_of e1).trans ?_
        exact cs
      · unfold F_X8_staged
        refine (nm_of rfl).trans ?_
        refine (bd_of (in_t (by omega) (by omega))).trans ?_
        rw [if_pos (by omega), if_neg (by rw [g61]; omega)]
        refine (bd_of e2).trans ?_
        refine (bd_of e3).trans ?_
        rw [i1, i2]
        by_cases c : (sFl (qB h) (mB h) (h 59) (h 61 1) n (h2 56 29) n).1 = 0
        · rw [if_pos c, if_pos (by omega), if_pos c]
        · rw [if_neg c, if_neg (by omega), if_neg c]
          by_cases d : what = 0
          · rw [if_pos d, if_pos d]
          · rw [if_neg d, if_neg d]
  · refine ⟨-1, h, wr h 56 0 0, ?_, ?_, hR.g0 Fr.rfl⟩
    · unfold F_X7_staged
      rw [if_pos (by omega)]
    · unfold F_X8_staged
      refine (nm_of rfl).trans ?_
      refine (bd_of (in_f (by omega))).trans ?_
      rw [if_neg (by omega)]
