/-! the memory behind the makers (printed by gen/ctor.py, but the proofs) -/
def LM1 : List (Int × Int × Int) := [(2, 0, 3), (1, 0, 2), (4, 0, 5), (6, 0, 0), (5, 0, 6), (7, 0, 1), (5, 1, 7), (8, 0, 2), (5, 2, 8), (9, 0, 3), (5, 3, 9), (10, 0, 4), (5, 4, 10), (11, 0, 5), (5, 5, 11), (12, 0, 6), (5, 6, 12), (13, 0, 7), (5, 7, 13), (14, 0, 8), (5, 8, 14), (4, 1, 0), (1, 1, 4), (15, 0, 16), (17, 0, 0), (16, 0, 17), (18, 0, 1), (16, 1, 18), (19, 0, 2), (16, 2, 19), (20, 0, 3), (16, 3, 20), (21, 0, 4), (16, 4, 21), (22, 0, 5), (16, 5, 22), (23, 0, 6), (16, 6, 23), (24, 0, 7), (16, 7, 24), (25, 0, 8), (16, 8, 25), (15, 1, 0), (1, 2, 15), (26, 0, 27), (1, 3, 26), (1, 4, 28), (29, 0, 30), (28, 0, 29), (31, 0, 32), (28, 1, 31), (34, 0, 2), (34, 1, 180), (34, 2, 10), (34, 3, 2), (34, 4, 5), (34, 5, 1), (34, 6, 20), (34, 7, 400), (33, 0, 34), (33, 1, 35), (76, 0, 9), (35, 0, 76), (35, 1, 76), (35, 2, 76), (35, 3, 76), (35, 4, 76), (35, 5, 76), (35, 6, 76), (35, 7, 76), (35, 8, 76), (35, 9, 76), (33, 2, 36), (33, 3, 37), (33, 4, 38), (33, 5, 39), (33, 6, 40), (33, 7, 41), (33, 8, 42), (33, 9, 43), (33, 10, 44), (1, 5, 33), (45, 0, 46), (77, 0, 9), (46, 0, 77), (46, 1, 77), (46, 2, 77), (46, 3, 77), (46, 4, 77), (46, 5, 77), (46, 6, 77), (45, 1, 47), (1, 6, 45), (48, 0, 49), (78, 0, 9), (49, 0, 78), (49, 1, 78), (49, 2, 78), (49, 3, 78), (49, 4, 78), (49, 5, 78), (49, 6, 78), (48, 1, 50), (1, 7, 48), (51, 0, 52), (51, 1, 53), (51, 4, 1), (1, 8, 51), (54, 0, 9), (1, 9, 54), (1, 10, 55), (1, 11, 0), (1, 12, 0), (26, 3, 1)]
def LM2 : List (Int × Int × Int) := [(56, 2, 57), (56, 9, 58), (56, 12, 59), (56, 13, 60), (56, 14, 61), (56, 15, 62), (56, 16, 63), (56, 17, 64), (56, 20, 65), (56, 21, 66), (56, 22, 67), (56, 23, 68), (56, 24, 69), (56, 25, 70), (56, 30, 71), (56, 31, 72), (56, 32, 73), (56, 39, 74), (56, 40, 75), (59, 0, 2), (59, 1, 180), (59, 2, 10), (59, 3, 2), (59, 4, 5), (59, 5, 1), (59, 6, 20), (59, 7, 400), (61, 2, 1)]
def hZ : Mem := fun _ _ => 0
def h0 : Mem := wrs (wrs hZ LM1) LM2
set_option maxRecDepth 100000 in
theorem G_law (X : XS) : GG X ML_law false room_1 0 [(2, (-1)), (3, 0), (3, 0), (3, 0)] [] 0 hZ (16, [(2, (-1)), (2, 1), (2, 56), (3, 0)], [], 78, h0) := by
  have hz : Zr 0 hZ := fun _ _ _ => rfl
  refine r_new (ci := 7) (z := 1) dL_law_0 rfl rfl rfl (by decide) okT_7 (gt_of 84 (by decide +kernel) (by decide +kernel)) (gt_of 85 (by decide +kernel) (by decide +kernel)) (gt_of 69 (by decide +kernel) (by decide +kernel)) rfl (hz.at (by decide)) (Nat.le_of_ble_eq_true rfl) ?_
  have hz := hz.up (show (0 : Nat) ≤ 1 by decide)
  refine r_dup dL_law_3 rfl ?_
  refine r_call (n' := 58) (vs := []) (r0 := 1) (st := [(2, 1)]) dL_law_4 rfl (G_X7_1 X _ hz) rfl (gt_of 86 (by decide +kernel) (by decide +kernel)) (gt_of 87 (by decide +kernel) (by decide +kernel)) (gt_of 69 (by decide +kernel) (by decide +kernel)) (gt_of 88 (by decide +kernel) (by decide +kernel)) (by decide) (by decide) ⟨Nat.le_of_ble_eq_true rfl, Nat.le_of_ble_eq_true rfl⟩ (by decide) rfl (by decide) (Nat.le_of_ble_eq_true rfl) ?_
  have hz := hz.up (show (1 : Nat) ≤ 58 by decide)
  have hz := Zr.ws LM1 hz (by decide)
  refine r_astore_n (i := 1) dL_law_7 rfl rfl (by decide) (by decide) rfl ?_
  refine r_new (ci := 8) (z := 56) dL_law_8 rfl rfl rfl (by decide) okT_8 (gt_of 908 (by decide +kernel) (by decide +kernel)) (gt_of 909 (by decide +kernel) (by decide +kernel)) (gt_of 77 (by decide +kernel) (by decide +kernel)) rfl (hz.at (by decide)) (Nat.le_of_ble_eq_true rfl) ?_
  have hz := hz.up (show (58 : Nat) ≤ 59 by decide)
  refine r_dup dL_law_11 rfl ?_
  refine r_call (n' := 78) (vs := []) (r0 := 56) (st := [(2, 56)]) dL_law_12 rfl (G_X8_56 X _ hz) rfl (gt_of 910 (by decide +kernel) (by decide +kernel)) (gt_of 911 (by decide +kernel) (by decide +kernel)) (gt_of 77 (by decide +kernel) (by decide +kernel)) (gt_of 912 (by decide +kernel) (by decide +kernel)) (by decide) (by decide) ⟨Nat.le_of_ble_eq_true rfl, Nat.le_of_ble_eq_true rfl⟩ (by decide) rfl (by decide) (Nat.le_of_ble_eq_true rfl) ?_
  have hz := hz.up (show (59 : Nat) ≤ 78 by decide)
  refine r_astore_n (i := 2) dL_law_15 rfl rfl (by decide) (by decide) rfl ?_
  exact GG.done
