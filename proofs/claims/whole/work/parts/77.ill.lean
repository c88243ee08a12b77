/-! ill -/
section Ill
variable {h g : Mem}
/-- the row without the act at a place -/
def mW (h : Mem) (out : Nat) : Nat → Int := fun p => if p < out then mB h p else mB h (p + 1)
def clL (h : Mem) (n out : Nat) : List Int := (List.range (n - 1)).map (mW h out)
theorem clL_l {n out : Nat} : (clL h n out).length = n - 1 := by unfold clL; rw [List.length_map, List.length_range]
theorem clL_at {n out p : Nat} (hp : p < n - 1) : (clL h n out).getD p 0 = mW h out p := by
  unfold clL
  rw [List.getD_eq_getElem?_getD, List.getElem?_map, List.getElem?_range hp]; rfl
theorem mB_inj {n : Nat} (hR : RR h) (hn : h 61 0 = (n : Int)) {p q : Nat} (hp : p < n) (hq : q < n) (e : mB h p = mB h q) : p = q := by
  have wb := hR.2.2.2.2.2.2.2.1.2.2.2.1.2.2.2.2.2.2
  unfold mB at e
  rw [if_pos (by omega), if_pos (by omega)] at e
  rcases Nat.lt_trichotomy p q with l | l | l
  · have := wb p q (by omega) (by omega) (by omega)
    rw [show (0 : Int) + 3 + (p : Int) = 3 + p by omega, show (0 : Int) + 3 + (q : Int) = 3 + q by omega] at this
    exact absurd e this
  · exact l
  · have := wb q p (by omega) (by omega) (by omega)
    rw [show (0 : Int) + 3 + (p : Int) = 3 + p by omega, show (0 : Int) + 3 + (q : Int) = 3 + q by omega] at this
    exact absurd e.symm this
theorem clL_m {n out : Nat} (hR : RR h) (hn : h 61 0 = (n : Int)) (ho : out < n) {x : Int} : x ∈ clL h n out ↔ x ∈ rowL h 61 0 ∧ ¬ x = mB h out := by
  rw [row_m hn]
  unfold clL
  rw [List.mem_map]
  constructor
  · rintro ⟨p, hp, e⟩
    have hp := List.mem_range.mp hp
    unfold mW at e
    by_cases c : p < out
    · rw [if_pos c] at e
      refine ⟨⟨p, by omega, e⟩, fun k => ?_⟩
      rw [← e] at k
      have := mB_inj hR hn (show p < n by omega) ho k
      omega
    · rw [if_neg c] at e
      refine ⟨⟨p + 1, by omega, e⟩, fun k => ?_⟩
      rw [← e] at k
      have := mB_inj hR hn (show p + 1 < n by omega) ho k
      omega
  · rintro ⟨⟨p, hp, e⟩, k⟩
    have po : ¬ p = out := fun q => k (by rw [← e, q])
    by_cases c : p < out
    · exact ⟨p, List.mem_range.mpr (by omega), by unfold mW; rw [if_pos c]; exact e⟩
    · exact ⟨p - 1, List.mem_range.mpr (by omega), by unfold mW; rw [if_neg (by omega), show p - 1 + 1 = p by omega]; exact e⟩
theorem clL_d {n out : Nat} (hR : RR h) (hn : h 61 0 = (n : Int)) (ho : out < n) : (clL h n out).Pairwise (fun a b => ¬ a = b) := by
  refine List.pairwise_iff_getElem.mpr (fun i j hi hj hij e => ?_)
  unfold clL at hi hj e
  rw [List.length_map, List.length_range] at hi hj
  rw [List.getElem_map, List.getElem_map, List.getElem_range, List.getElem_range] at e
  unfold mW at e
  by_cases c : i < out
  · by_cases d : j < out
    · rw [if_pos c, if_pos d] at e
      have := mB_inj hR hn (by omega) (by omega) e; omega
    · rw [if_pos c, if_neg d] at e
      have := mB_inj hR hn (by omega) (by omega) e; omega
  · rw [if_neg c, if_neg (by omega)] at e
    have := mB_inj hR hn (by omega) (by omega) e; omega
theorem lin_cl {n out : Nat} {i : Int} (hR : RR h) (hn : h 61 0 = (n : Int)) (ho : out < n) (hi : mB h out = i) : isort (fun x y => decide (x < y)) [] (clL h n out) = linL (rowL h 61 0) i (h 56 10).toNat ∧ (linL (rowL h 61 0) i (h 56 10).toNat).length = n - 1 := by
  have w9 := wac_n hR
  have mm : ∀ x, x ∈ clL h n out ↔ x ∈ linL (rowL h 61 0) i (h 56 10).toNat := fun x => by
    rw [clL_m hR hn ho, linL_m, hi]
    constructor
    · rintro ⟨a, b⟩
      have := row_b hR a
      exact ⟨by omega, b, a⟩
    · rintro ⟨_, b, a⟩
      exact ⟨a, b⟩
  have e := srt_row (clL_d hR hn ho) (linL_p (rowL h 61 0) i (h 56 10).toNat) mm
  refine ⟨e, ?_⟩
  rw [← e, (isort_perm _ _).length_eq, List.nil_append, clL_l]
/-- the class's pool and homes -/
theorem pool2 {n out : Nat} {i : Int} {S : List Int} (hR : RR h) (hn : h 61 0 = (n : Int)) (ho : out < n) (h7 : n ≤ 7) (hl : S.length = n - 1) (hm' : ∀ x ∈ S, 0 ≤ x ∧ x < h 56 10) (hF : ∀ r k, ¬ bsc r k → g r k = h r k) (hA : Ar g 55 S) (Kx : Int → Mem → Res) :
    ∃ g2, L_X7_searchWithout_1 i (out : Int) (S.length : Int) Kx FU 0 g = Kx S.length g2 ∧ (∀ r k, ¬ (r = 49 ∨ r = 50) → g2 r k = g r k) ∧ ∀ k : Nat, k < S.length → g2 49 k = h 1 1 + 2 + S.getD k 0 ∧ g2 50 k = mW h out k := by
  have w9 := wac_n hR
  have key : ∀ (d k : Nat) (g1 : Mem) (f : Nat), k + d = S.length → d < f → (∀ r k, ¬ (r = 49 ∨ r = 50) → g1 r k = g r k) → (∀ j : Nat, j < k → g1 49 j = h 1 1 + 2 + S.getD j 0 ∧ g1 50 j = mW h out j) →
      ∃ g2, L_X7_searchWithout_1 i (out : Int) (S.length : Int) Kx f k g1 = Kx S.length g2 ∧ (∀ r k, ¬ (r = 49 ∨ r = 50) → g2 r k = g r k) ∧ ∀ k : Nat, k < S.length → g2 49 k = h 1 1 + 2 + S.getD k 0 ∧ g2 50 k = mW h out k := by
    intro d
    induction d with
    | zero =>
      intro k g1 f hk hf hF1 hI
      obtain ⟨f, rfl⟩ : ∃ g, f = g + 1 := ⟨f - 1, by omega⟩
      have e : k = S.length := by omega
      subst e
      exact ⟨g1, by rw [L_X7_searchWithout_1, if_neg (by omega)], hF1, hI⟩
    | succ d ih =>
      intro k g1 f hk hf hF1 hI
      obtain ⟨f, rfl⟩ : ∃ g, f = g + 1 := ⟨f - 1, by omega⟩
      have q := hm' _ (getD_mem (l := S) (p := k) (by omega))
      have e55 : g1 55 k = S.getD k 0 := by rw [hF1 55 k (by omega)]; exact hA.at (by omega)
      have c1 : g1 1 1 = h 1 1 := by rw [hF1 1 1 (by omega)]; exact hF 1 1 (by unfold bsc scr; omega)
      have c27 : ∀ j : Nat, j < n → g1 27 j = mB h j := fun j hj => by rw [hF1 27 j (by omega), hF 27 j (by unfold bsc scr; omega)]; exact (mB_b hR hn hj).2.2.2
      rw [L_X7_searchWithout_1, if_pos (by omega)]
      refine ex_ct (nm_of c1) ?_
      refine ex_ct (gd_of (c_B hR).1) ?_
      refine ex_ct (gd_of (by omega)) ?_
      rw [e55]
      refine ex_ct (gd_of (by omega)) ?_
      refine ex_ct (gd_of (by omega)) ?_
      refine ex_ct (nm_of rfl) ?_
      have fin : ∀ v : Nat, v < n → mW h out k = mB h v → ∃ g2, (gd (0 ≤ (v : Int) ∧ (v : Int) < 9) (nm (wr (wr g1 49 k (h 1 1 + 2 + S.getD k 0)) 50 k ((wr g1 49 k (h 1 1 + 2 + S.getD k 0)) 27 (v : Int))) (fun (h_18 : Mem) => nm (w32 ((k : Int) + 1)) (fun k_19 => L_X7_searchWithout_1 i (out : Int) (S.length : Int) Kx f k_19 h_18))) : Res) = Kx S.length g2 ∧ (∀ r k, ¬ (r = 49 ∨ r = 50) → g2 r k = g r k) ∧ ∀ k : Nat, k < S.length → g2 49 k = h 1 1 + 2 + S.getD k 0 ∧ g2 50 k = mW h out k := by
        intro v hv hw
        refine ex_ct (gd_of (by omega)) ?_
        rw [wr_o (by omega), c27 v hv, ← hw]
        refine ex_ct (nm_of rfl) ?_
        refine ex_ct (nm_of (w32_n (by omega))) ?_
        refine ih (k + 1) _ f (by omega) (by omega) (fun r k' z => by rw [wr_o (by omega), wr_o (by omega)]; exact hF1 r k' z) (fun j hj => ?_)
        by_cases z : j = k
        · subst z
          rw [wr_o (by omega), wr_s, wr_s]; exact ⟨rfl, rfl⟩
        · rw [wr_o (by omega), wr_k (by omega), wr_k (by omega), wr_o (by omega)]; exact hI j (by omega)
      by_cases c : (k : Int) < (out : Int)
      · rw [if_pos c]
        refine ex_ct (nm_of rfl) ?_
        exact fin k (by omega) (by unfold mW; rw [if_pos (by omega)])
      · rw [if_neg c]
        refine ex_ct (nm_of (w32_n (by omega))) ?_
        exact fin (k + 1) (by omega) (by unfold mW; rw [if_neg (by omega)])
  exact key S.length 0 g FU (by omega) (by unfold FU; omega) (fun _ _ _ => rfl) (fun j hj => absurd hj (by omega))
/-- the break of the others -/
def bW (b : Int) (n out : Nat) : Int := if (if (out : Int) < b then b - 1 else b) < (n : Int) - 1 then (if (out : Int) < b then b - 1 else b) else 0
theorem cill {n out : Nat} {i : Int} (hR : RR h) (hn : h 61 0 = (n : Int)) (ho : out < n) (hi : mB h out = i) (h2 : 2 ≤ n) (h7 : n ≤ 7) :
    ∃ h1, F_X7_searchWithout i (out : Int) h = some (0, h1) ∧ Fr rsc h h1 ∧ ∃ m t o p, St 48 h1 = (perms (n - 1) (linL (rowL h 61 0) i (h 56 10).toNat)).foldl (Gs (A58 h) (h 59) (mW h out) (bW (h 61 1) n out)) (0, m, t, o, p) := by
  have w9 := wac_n hR
  obtain ⟨n', e0, e9, e26, eb⟩ := n_B hR
  have nn : n' = n := by omega
  subst nn
  have wb := hR.2.2.2.2.2.2.2.1.2.2.2.1
  have wb3 : 0 ≤ h 61 1 := wb.2.2.1
  have wb4 : h 61 1 < h 61 0 ∨ h 61 1 = 0 := wb.2.2.2.1
  have ll := (lin_cl hR hn ho hi).2
  obtain ⟨a1, e1, F1, A1⟩ := lineUp_e (w := i) hR
  have hp : (linL (rowL h 61 0) i (h 56 10).toNat).Pairwise (fun a b => a < b) := linL_p _ _ _
  have hm' : ∀ x ∈ linL (rowL h 61 0) i (h 56 10).toNat, 0 ≤ x ∧ x < h 56 10 := fun x hx => row_b hR (linL_m.mp hx).2.2
  generalize linL (rowL h 61 0) i (h 56 10).toNat = S at *
  have eb' : F_X5_begin 48 (S.length : Int) a1 = some (0, wr (wr a1 48 2 (S.length : Int)) 48 3 0) := by
    unfold F_X5_begin
    have : mnI (S.length : Int) 7 = (S.length : Int) := by unfold mnI; rw [if_neg (by omega)]
    rw [this]; rfl
  have Fa : ∀ r k, ¬ bsc r k → (wr (wr a1 48 2 (S.length : Int)) 48 3 0) r k = h r k := fun r k q => by
    unfold bsc at q
    rw [wr_o (by omega), wr_o (by omega)]; exact F1 r k (by unfold onr; omega)
  have Fr1 : Fr rsc h (wr (wr a1 48 2 (S.length : Int)) 48 3 0) := fun r k q => by
    rw [wr_at, if_neg (fun z => q (by unfold rsc; omega)), wr_at, if_neg (fun z => q (by unfold rsc; omega))]; exact F1 r k (fun z => q (onr_r (Or.inl rfl) z))
  obtain ⟨a2, e2, F2, p2⟩ := pool2 (h := h) (g := wr (wr a1 48 2 (S.length : Int)) 48 3 0) (S := S) (i := i) hR hn ho h7 ll hm' Fa (A1.fr (fun k => by rw [wr_o (by omega), wr_o (by omega)])) (fun k_22 (h_21 : Mem) => nm (α := Int) (if ((out : Int) < (h_21 26 2)) then (w32 ((h_21 26 2) - 1)) else (h_21 26 2)) (fun v_23 => nm (α := Int) (if (v_23 < (S.length : Int)) then v_23 else 0) (fun v_25 => bd (F_X6_open (S.length : Int) v_25 h_21) (fun _ (h_28 : Mem) => bd (F_X5_run 48 h_28) (fun _ (h_31 : Mem) => some (0, h_31))))))
  have F2' : ∀ r k, ¬ bsc r k → a2 r k = h r k := fun r k q => by
    have q' := q
    unfold bsc at q
    rw [F2 r k (by omega)]; exact Fa r k q'
  have a26 : a2 26 2 = h 61 1 := by rw [F2' 26 2 (by unfold bsc scr; omega)]; exact eb
  have b0 : 0 ≤ bW (h 61 1) n' out ∧ bW (h 61 1) n' out < (S.length : Int) := by
    unfold bW
    rw [ll]
    split
    · split <;> omega
    · omega
  have Fo : ∀ r k, ¬ bsc r k → (wr (wr (wr a2 33 11 (S.length : Int)) 33 12 (bW (h 61 1) n' out)) 33 13 0) r k = h r k := fun r k q => by
    have q' := q
    unfold bsc scr at q
    rw [wr_o (by omega), wr_o (by omega), wr_o (by omega)]; exact F2' r k q'
  have BGo : BG (A58 h) (h 59) S (h 1 1) 48 (mW h out) (wr (wr (wr a2 33 11 (S.length : Int)) 33 12 (bW (h 61 1) n' out)) 33 13 0) := bg_of hR (Or.inr rfl) hp (by omega) hm' Fo (by rw [wr_o (by omega), wr_o (by omega), wr_o (by omega), F2 48 2 (by omega), wr_k (by omega), wr_s]) (fun k hk => by
    rw [wr_o (by omega), wr_o (by omega), wr_o (by omega), wr_o (by omega), wr_o (by omega), wr_o (by omega)]; exact p2 k hk)
  have o3 : (wr (wr (wr a2 33 11 (S.length : Int)) 33 12 (bW (h 61 1) n' out)) 33 13 0) 48 3 = 0 := by rw [wr_o (by omega), wr_o (by omega), wr_o (by omega), F2 48 3 (by omega), wr_s]
  obtain ⟨h1, e3, E3, s3, _, _⟩ := run_e BGo b0.1 b0.2 (by rw [wr_k (by omega), wr_k (by omega), wr_s]) (by rw [wr_k (by omega), wr_s]) wr_s (by rw [o3]; omega) (by rw [o3]; omega)
  refine ⟨h1, ?_, fun r k q => ?_, (wr (wr (wr a2 33 11 (S.length : Int)) 33 12 (bW (h 61 1) n' out)) 33 13 0) 48 4, (wr (wr (wr a2 33 11 (S.length : Int)) 33 12 (bW (h 61 1) n' out)) 33 13 0) 48 5, (wr (wr (wr a2 33 11 (S.length : Int)) 33 12 (bW (h 61 1) n' out)) 33 13 0) 48 6, (wr (wr (wr a2 33 11 (S.length : Int)) 33 12 (bW (h 61 1) n' out)) 33 13 0) 48 7, ?_⟩
  · unfold F_X7_searchWithout
    refine (bd_of e1).trans ?_
    refine (bd_of eb').trans ?_
    refine e2.trans ?_
    rw [a26]
    refine (nm_of (e' := if (out : Int) < h 61 1 then h 61 1 - 1 else h 61 1) (by
      by_cases c : (out : Int) < h 61 1
      · rw [if_pos c, if_pos c, w32_s (by omega) (by omega)]
      · rw [if_neg c, if_neg c])).trans ?_
    refine (nm_of (e' := bW (h 61 1) n' out) (by unfold bW; rw [show (S.length : Int) = (n' : Int) - 1 by omega])).trans ?_
    refine (bd_of (v := 0) (h := wr (wr (wr a2 33 11 (S.length : Int)) 33 12 (bW (h 61 1) n' out)) 33 13 0) rfl).trans ?_
    refine (bd_of e3).trans ?_
    rfl
  · have q' := q
    unfold rsc at q
    rw [E3.1 r k (by omega) (by omega) (by omega), wr_o (by omega), wr_o (by omega), wr_o (by omega), F2 r k (by omega)]; exact Fr1 r k q'
  · have so : St 48 (wr (wr (wr a2 33 11 (S.length : Int)) 33 12 (bW (h 61 1) n' out)) 33 13 0) = (0, (wr (wr (wr a2 33 11 (S.length : Int)) 33 12 (bW (h 61 1) n' out)) 33 13 0) 48 4, (wr (wr (wr a2 33 11 (S.length : Int)) 33 12 (bW (h 61 1) n' out)) 33 13 0) 48 5, (wr (wr (wr a2 33 11 (S.length : Int)) 33 12 (bW (h 61 1) n' out)) 33 13 0) 48 6, (wr (wr (wr a2 33 11 (S.length : Int)) 33 12 (bW (h 61 1) n' out)) 33 13 0) 48 7) := by
      show ((wr (wr (wr a2 33 11 (S.length : Int)) 33 12 (bW (h 61 1) n' out)) 33 13 0) 48 3, _, _, _, _) = _
      rw [o3]
    rw [s3, so, ll]
end Ill
