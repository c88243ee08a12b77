/-! when agrees -/
theorem wr_wr {h : Mem} {r k v : Int} : wr (wr h r k v) r k v = wr h r k v := by
  funext a b
  rw [wr_at]
  by_cases c : a = r ∧ b = k
  · rw [if_pos c, c.1, c.2, wr_s]
  · rw [if_neg c]
theorem op_when : OP F_X7_when F_X8_when := by
  intro h hR
  obtain ⟨n, e0, e9, e26, eb⟩ := n_B hR
  by_cases z : n = 0
  · refine ⟨-2, h, wr h 56 0 0, ?_, ?_, hR.g0 Fr.rfl⟩
    · unfold F_X7_when
      rw [if_pos (by omega)]
    · unfold F_X8_when
      refine (nm_of rfl).trans ?_
      rw [if_pos (by rw [wr_o (by omega)]; omega)]
  · obtain ⟨h1, e1, F1⟩ := cwhen hR e0 (by omega)
    have B := B_fr (g0_fr F1)
    have Rg := hR.g0 F1
    obtain ⟨h2, e2, F2⟩ := mwhen (n := n) Rg (by rw [B.2.2.2]; exact e0) (by omega) wr_s
    rw [B.1, B.2.1, B.2.2.1] at e2
    refine ⟨(wS (qB h) (mB h) (h 59) n n).1, h1, h2, e1, ?_, Rg.fr F2⟩
    have e : F_X8_when h1 = F_X8_when (wr h1 56 0 0) := by
      unfold F_X8_when
      rw [wr_wr]
    rw [e]; exact e2
