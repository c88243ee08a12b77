/-! night, worth -/
/-- nsc without the lot is scratch -/
theorem nsc_fr {g h : Mem} (hF : Fr nsc g h) (hl : h 61 2 = g 61 2) : Fr rsc g h := fun r k hn => by
  by_cases c : r = 61 ∧ k = 2
  · rw [c.1, c.2]; exact hl
  · exact hF r k (fun z => by unfold nsc at z; unfold rsc at hn; omega)
/-- the reference's night of the bill, no luck -/
theorem mnight {g : Mem} {n : Nat} (hR : RR g) (hn : g 61 0 = (n : Int)) (h1n : 0 < n) :
    ∃ h1 h2 h3, F_X8_asBilled g = some (0, h1) ∧ F_X8_lays h1 = some (0, h2) ∧ F_X8_nightOf 0 h2 = some (sVa (qB g) (g 59) (g 61 1) (fun _ => 0) n, h3) ∧ RR h3 ∧ R8 h3 n ∧ q8 h3 = qB g ∧ h3 59 = g 59
      ∧ h3 56 26 = (sHs (qB g) (g 59) (g 61 1) (fun _ => 0) n).2.2.2 ∧ h3 56 27 = sVa (qB g) (g 59) (g 61 1) (fun _ => 0) n
      ∧ ∀ p : Nat, p < n → h3 66 p = sSt (qB g) (g 59) (g 61 1) p ∧ h3 67 p = sHt (qB g) (g 59) (g 61 1) (fun _ => 0) p ∧ h3 68 p = sCp (qB g) (g 59) (g 61 1) (fun _ => 0) p ∧ h3 69 p = (sHs (qB g) (g 59) (g 61 1) (fun _ => 0) (p + 1)).1 ∧ h3 70 p = (sHs (qB g) (g 59) (g 61 1) (fun _ => 0) (p + 1)).2.1 := by
  obtain ⟨h1, h2, e1, e2, R2, R82, q2, t2, b2, l2, I2⟩ := mlays hR hn
  obtain ⟨h3, e3, N3, l3⟩ := night0 (b := g 61 1) h1n R82 b2 (fun p hp => by rw [q2, t2]; exact (I2 p hp).1)
  unfold NR at N3
  rw [q2, t2] at e3 N3
  obtain ⟨F3, a26, a27, a67⟩ := N3
  have f58 : ∀ k, h3 58 k = h2 58 k := fun k => F3 58 k (by unfold nsc; omega)
  have f59 : ∀ k, h3 59 k = h2 59 k := fun k => F3 59 k (by unfold nsc; omega)
  have f64 : ∀ k, h3 64 k = h2 64 k := fun k => F3 64 k (by unfold nsc; omega)
  refine ⟨h1, h2, h3, e1, e2, e3, R2.fr (nsc_fr F3 l3), R8_fr R82 (F3 56 18 (by unfold nsc; omega)) f58 f59 f64, (q8_fr f58 f64).trans q2, (funext f59).trans t2, a26, a27, fun p hp => ⟨?_, a67 p hp⟩⟩
  rw [F3 66 p (by unfold nsc; omega)]; exact (I2 p hp).2
theorem op_night (p what : Int) : OP (F_X7_night p what) (F_X8_night p what) := by
  intro h hR
  obtain ⟨n, e0, e9, e26, eb⟩ := n_B hR
  by_cases v : (0 ≤ p ∧ p < n) ∧ 0 ≤ what ∧ what ≤ 3
  · obtain ⟨j, rfl⟩ : ∃ j : Nat, p = (j : Int) := ⟨p.toNat, by omega⟩
    have hj : j < n := by omega
    obtain ⟨h1, e1, hI, hC⟩ := cplay (b := h 26 2) hR e0
    have B := B_fr (g0_fr hI.1)
    have P := (hI.2.2.2.1 j hj).2
    obtain ⟨h2, h3, h4, e2, e3, e4, R4, R84, q4, t4, _, _, I4⟩ := mnight (n := n) (hR.g0 hI.1) (by rw [B.2.2.2]; exact e0) (by omega)
    have I := I4 j hj
    rw [B.1, B.2.2.1, B.2.2.2] at I
    rw [eb] at P
    refine ⟨if what = 0 then sHt (qB h) (h 59) (h 61 1) (fun _ => 0) j else if what = 1 then sCp (qB h) (h 59) (h 61 1) (fun _ => 0) j else if what = 2 then (sHs (qB h) (h 59) (h 61 1) (fun _ => 0) (j + 1)).1 else (sHs (qB h) (h 59) (h 61 1) (fun _ => 0) (j + 1)).2.1, h1, h4, ?_, ?_, R4⟩
    · unfold F_X7_night
      refine jn_of.trans ?_
      have hp : F_X1_hasPlace 26 (j : Int) h = some (1, h) := by unfold F_X1_hasPlace; rw [e26, if_pos v.1]
      refine (bd_of hp).trans ?_
      rw [if_pos (by omega), if_neg (by omega), if_neg (by omega)]
      refine (bd_of e1).trans ?_
      rw [gd_t (by omega), gd_t (by omega), gd_t (by omega), gd_t (by omega), P.1, P.2.1, P.2.2.1, P.2.2.2.1]
      by_cases c : what = 0
      · rw [if_pos c, if_pos c]
      · by_cases c1 : what = 1
        · rw [if_neg c, if_neg c, if_pos c1, if_pos c1]
        · by_cases c2 : what = 2
          · rw [if_neg c, if_neg c, if_neg c1, if_neg c1, if_pos c2, if_pos c2]
          · rw [if_neg c, if_neg c, if_neg c1, if_neg c1, if_neg c2, if_neg c2]
    · unfold F_X8_night
      refine (nm_of rfl).trans ?_
      refine jn_of.trans ?_
      refine (bd_of (place_e (n := n) (by rw [B.2.2.2]; exact e0) e9)).trans ?_
      rw [if_pos v.1, if_pos (by omega)]
      refine (bd_of (in_t (by omega) (by omega))).trans ?_
      rw [if_pos (by omega)]
      refine (bd_of e2).trans ?_
      refine (bd_of e3).trans ?_
      refine (bd_of e4).trans ?_
      rw [gd_t (by omega), gd_t (by omega), gd_t (by omega), gd_t (by omega), I.2.1, I.2.2.1, I.2.2.2.1, I.2.2.2.2]
      by_cases c : what = 0
      · rw [if_pos c, if_pos c]
      · by_cases c1 : what = 1
        · rw [if_neg c, if_neg c, if_pos c1, if_pos c1]
        · by_cases c2 : what = 2
          · rw [if_neg c, if_neg c, if_neg c1, if_neg c1, if_pos c2, if_pos c2]
          · rw [if_neg c, if_neg c, if_neg c1, if_neg c1, if_neg c2, if_neg c2]
  · refine ⟨-1, h, wr h 56 0 0, ?_, ?_, hR.g0 Fr.rfl⟩
    · unfold F_X7_night F_X1_hasPlace
      rw [e26]
      refine jn_of.trans ?_
      by_cases c : 0 ≤ p ∧ p < n
      · rw [if_pos c, bd_s, if_pos (by omega)]
        by_cases d : what < 0
        · rw [if_pos d]
        · rw [if_neg d, if_pos (by omega)]
      · rw [if_neg c, bd_s, if_neg (by omega)]
    · unfold F_X8_night
      refine (nm_of rfl).trans ?_
      refine jn_of.trans ?_
      refine (bd_of (place_e (n := n) (by rw [wr_o (by omega)]; exact e0) e9)).trans ?_
      by_cases c : 0 ≤ p ∧ p < n
      · rw [if_pos c, if_pos (by omega)]
        refine (bd_of (in_f (by omega))).trans ?_
        rw [if_neg (by omega)]
      · rw [if_neg c, if_neg (by omega)]
theorem op_worth (what : Int) : OP (F_X7_worth what) (F_X8_worth what) := by
  intro h hR
  obtain ⟨n, e0, e9, e26, eb⟩ := n_B hR
  by_cases v : 0 ≤ what ∧ what ≤ 3
  · by_cases z : n = 0
    · refine ⟨-2, h, wr h 56 0 0, ?_, ?_, hR.g0 Fr.rfl⟩
      · unfold F_X7_worth
        rw [if_neg (by omega), if_pos (by omega)]
      · unfold F_X8_worth
        refine (nm_of rfl).trans ?_
        refine (bd_of (in_t (by omega) (by omega))).trans ?_
        rw [if_pos (by omega), if_pos (by rw [wr_o (by omega)]; omega)]
    · obtain ⟨j, rfl⟩ : ∃ j : Nat, n = j + 1 := ⟨n - 1, by omega⟩
      obtain ⟨h1, e1, hI, hC⟩ := cplay (b := h 26 2) hR e0
      have B := B_fr (g0_fr hI.1)
      have P := hI.2.2.2.1 j (by omega)
      have g61 : (wr h1 56 0 0) 61 0 = ((j + 1 : Nat) : Int) := by rw [B.2.2.2]; exact e0
      obtain ⟨h2, h3, h4, e2, e3, e4, R4, R84, q4, t4, a26, a27, I4⟩ := mnight (hR.g0 hI.1) g61 (by omega)
      have I := I4 j (by omega)
      have en := end_e (b := (wr h1 56 0 0) 61 1) R84 q4 t4 (show j < j + 1 by omega) I.1
      rw [B.1, B.2.2.1, B.2.2.2] at I a26 a27 en
      have h13 := hI.2.2.2.2
      have tot := total_e (h := h1) (u := fun _ => 0) hI.2.2.1 (by omega) (by omega) P.2 h13 (wq_B hR e0) (wt_B hR) (fun _ => by omega)
      rw [eb] at P h13 tot e1
      have f26 : h1 26 1 = ((j + 1 : Nat) : Int) := by rw [hI.1 26 1 (by unfold scr; omega)]; exact e26
      refine ⟨if what = 0 then sVa (qB h) (h 59) (h 61 1) (fun _ => 0) (j + 1) else if what = 1 then (sHs (qB h) (h 59) (h 61 1) (fun _ => 0) (j + 1)).2.2.2 else if what = 2 then (sHs (qB h) (h 59) (h 61 1) (fun _ => 0) (j + 1)).2.1 else sEn (qB h) (h 59) (h 61 1) (j + 1), h1, h4, ?_, ?_, R4⟩
      · unfold F_X7_worth
        rw [if_neg (by omega), if_neg (by omega), eb]
        refine (bd_of e1).trans ?_
        rw [f26]
        refine (nm_of (w32_p (by omega))).trans ?_
        rw [tot, bd_s, gd_t (by omega), gd_t (by omega), h13, P.2.2.2.2.1, P.1.2.2.2.1]
        by_cases c : what = 0
        · rw [if_pos c, if_pos c]
        · by_cases c1 : what = 1
          · rw [if_neg c, if_neg c, if_pos c1, if_pos c1]
          · by_cases c2 : what = 2
            · rw [if_neg c, if_neg c, if_neg c1, if_neg c1, if_pos c2, if_pos c2]
            · rw [if_neg c, if_neg c, if_neg c1, if_neg c1, if_neg c2, if_neg c2]
      · unfold F_X8_worth
        refine (nm_of rfl).trans ?_
        refine (bd_of (in_t (by omega) (by omega))).trans ?_
        rw [if_pos (by omega), if_neg (by rw [g61]; omega)]
        refine (bd_of e2).trans ?_
        refine (bd_of e3).trans ?_
        refine (bd_of e4).trans ?_
        rw [R84.2.1, w32_p (by omega), gd_t (by omega), en, bd_s, a26, a27, I.2.2.2.2]
        by_cases c : what = 0
        · rw [if_pos c, if_pos c]
        · by_cases c1 : what = 1
          · rw [if_neg c, if_neg c, if_pos c1, if_pos c1]
          · by_cases c2 : what = 2
            · rw [if_neg c, if_neg c, if_neg c1, if_neg c1, if_pos c2, if_pos c2]
            · rw [if_neg c, if_neg c, if_neg c1, if_neg c1, if_neg c2, if_neg c2]
  · refine ⟨-1, h, wr h 56 0 0, ?_, ?_, hR.g0 Fr.rfl⟩
    · unfold F_X7_worth
      rw [if_pos (by omega)]
    · unfold F_X8_worth
      refine (nm_of rfl).trans ?_
      refine (bd_of (in_f (by omega))).trans ?_
      rw [if_neg (by omega)]
