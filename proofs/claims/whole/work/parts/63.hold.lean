/-! hold: the reference's table -/
def remL (S : List Int) (z : Int) : List Int := ((List.range S.length).filter (fun p => !(bt z p))).map (fun p => S.getD p 0)
theorem getD_lt {S : List Int} (hS : S.Pairwise (fun a b => a < b)) {p q : Nat} (h : p < q) (hq : q < S.length) : S.getD p 0 < S.getD q 0 := by
  have := List.pairwise_iff_getElem.mp hS p q (by omega) hq h
  rw [List.getD_eq_getElem?_getD, List.getElem?_eq_getElem (by omega), List.getD_eq_getElem?_getD, List.getElem?_eq_getElem hq]; exact this
theorem rem_p {S : List Int} (hS : S.Pairwise (fun a b => a < b)) (z : Int) : (remL S z).Pairwise (fun a b => a < b) := by
  unfold remL
  refine List.pairwise_map.mpr ?_
  have q : ((List.range S.length).filter (fun p => !(bt z p))).Pairwise (fun a b => a < b) := List.pairwise_lt_range.filter _
  refine List.Pairwise.imp_of_mem (fun {a b} ha hb hab => ?_) q
  exact getD_lt hS hab (List.mem_range.mp (List.mem_filter.mp hb).1)
theorem rem_m {S : List Int} {z y : Int} : y ∈ remL S z ↔ ∃ p, p < S.length ∧ bt z p = false ∧ S.getD p 0 = y := by
  unfold remL
  rw [List.mem_map]
  constructor
  · rintro ⟨p, hp, e⟩
    have := List.mem_filter.mp hp
    refine ⟨p, List.mem_range.mp this.1, ?_, e⟩
    cases c : bt z p with
    | false => rfl
    | true => rw [c] at this; exact absurd this.2 (by decide)
  · rintro ⟨p, hp, hb, e⟩
    exact ⟨p, List.mem_filter.mpr ⟨List.mem_range.mpr hp, by rw [hb]; rfl⟩, e⟩
section HTab
variable {F M : Int → Int} {S : List Int} {z : Int} {p : Nat}
def tmz (M : Int → Int) (S : List Int) (z : Int) : Int := kS (bt z) (fun p => M (S.getD p 0)) S.length
def Wz (F M : Int → Int) (S : List Int) (z : Int) : Int := hval F M (tmz M S z) (hSrt F M (remL S z))
theorem rem_ins (hS : S.Pairwise (fun a b => a < b)) (h9 : S.length ≤ 9) (hp : p < S.length) {y : Int} : y ∈ remL S (ior z (ishl 1 (p : Int))) ↔ y ∈ remL S z ∧ ¬ y = S.getD p 0 := by
  rw [rem_m, rem_m]
  constructor
  · rintro ⟨q, hq, hb, e⟩
    rw [bt_ins (by omega) (by omega), Bool.or_eq_false_iff] at hb
    have nq : ¬ q = p := of_decide_eq_false hb.2
    refine ⟨⟨q, hq, hb.1, e⟩, fun k => ?_⟩
    rw [← e] at k
    rcases Nat.lt_or_gt_of_ne nq with c | c
    · have := getD_lt hS c hp; omega
    · have := getD_lt hS c hq; omega
  · rintro ⟨⟨q, hq, hb, e⟩, n⟩
    refine ⟨q, hq, ?_, e⟩
    rw [bt_ins (by omega) (by omega), hb, decide_eq_false (fun k => n (by rw [← e, k]))]; rfl
theorem tm_ins (h9 : S.length ≤ 9) (hp : p < S.length) (hb : bt z p = false) : tmz M S (ior z (ishl 1 (p : Int))) = tmz M S z + M (S.getD p 0) := by
  unfold tmz
  have ins := kS_ins (b := bt z) (s := fun p => M (S.getD p 0)) (r := p) hb S.length
  rw [if_pos hp] at ins
  rw [(k_c (b := bt (ior z (ishl 1 (p : Int)))) (b' := fun i => bt z i || decide (i = p)) (K := fun _ => 0) (s := fun p => M (S.getD p 0)) S.length (fun j hj => bt_ins (by omega) (by omega))).2.2.2, ins]
def hOk (F M : Int → Int) (S : List Int) : Prop := S.Pairwise (fun a b => a < b) ∧ S.length ≤ 9 ∧ (∀ x, 0 < M x) ∧ ∀ x ∈ S, (0 ≤ F x ∧ F x ≤ 99) ∧ 1 ≤ M x ∧ M x ≤ 30
theorem tm_b (hO : hOk F M S) : 0 ≤ tmz M S z ∧ tmz M S z ≤ 270 := by
  have h9 := hO.2.1
  have := kS_b (b := bt z) (s := fun p => M (S.getD p 0)) S.length (fun j hj => by
    have := hO.2.2.2 _ (getD_mem hj)
    show 0 ≤ M (S.getD j 0) ∧ M (S.getD j 0) ≤ 30
    omega)
  unfold tmz
  omega
theorem Wz_b (hO : hOk F M S) : 0 ≤ Wz F M S z ∧ Wz F M S z ≤ 1000000 := by
  have h9 := hO.2.1
  have tb := tm_b (z := z) hO
  have ll : (hSrt F M (remL S z)).length ≤ 9 := by
    rw [hSrt_l]
    unfold remL
    rw [List.length_map]
    refine Nat.le_trans (List.length_filter_le _ _) ?_
    rw [List.length_range]; exact h9
  have b := hval_b (F := F) (M := M) (K := 600) (by omega) (hSrt F M (remL S z)) (tmz M S z) (fun x hx => by
    obtain ⟨p, hp, _, e⟩ := rem_m.mp (hSrt_m.mp hx)
    rw [← e]; exact hO.2.2.2 _ (getD_mem hp)) tb.1 (by omega)
  unfold Wz
  omega
theorem W_step (hO : hOk F M S) (hp : p < S.length) (hb : bt z p = false) :
    F (S.getD p 0) * (tmz M S z + M (S.getD p 0)) + Wz F M S (ior z (ishl 1 (p : Int))) ≤ Wz F M S z ∧
    ∃ y T, hSrt F M (remL S z) = y :: T ∧ (S.getD p 0 = y → F (S.getD p 0) * (tmz M S z + M (S.getD p 0)) + Wz F M S (ior z (ishl 1 (p : Int))) = Wz F M S z ∧ hSrt F M (remL S (ior z (ishl 1 (p : Int)))) = T) ∧ (S.getD p 0 < y → F (S.getD p 0) * (tmz M S z + M (S.getD p 0)) + Wz F M S (ior z (ishl 1 (p : Int))) < Wz F M S z) := by
  have k := h_best (F := F) (M := M) (L := remL S z) (L' := remL S (ior z (ishl 1 (p : Int)))) (x := S.getD p 0) (t := tmz M S z) hO.2.2.1 (rem_p hO.1 z) (rem_p hO.1 _) (rem_m.mpr ⟨p, hp, hb, rfl⟩) (fun y => rem_ins hO.1 hO.2.1 hp)
  unfold Wz
  rw [tm_ins hO.2.1 hp hb]
  exact k
theorem all_e : ∀ n : Nat, n < 10 → w32 (ishl 1 (n : Int) - 1) = 2 ^ n - 1 := by decide +kernel
theorem all_b {n i : Nat} (hn : n < 10) (hi : i < 32) : bt (2 ^ n - 1) i = decide (i < n) := by
  have key : ((List.range 10).all (fun n => (List.range 32).all (fun i => bt (2 ^ n - 1) i == decide (i < n)))) = true := by decide +kernel
  exact eq_of_beq (List.all_eq_true.mp (List.all_eq_true.mp key n (List.mem_range.mpr hn)) i (List.mem_range.mpr hi))
theorem all_iff {n : Nat} (hn : n < 10) (h0 : 0 ≤ z) (hz : z < 2 ^ n) : z = 2 ^ n - 1 ↔ ∀ p, p < n → bt z p = true := by
  have p9 := pw9 n hn
  constructor
  · intro e p hp
    rw [e, all_b hn (by omega)]; exact decide_eq_true hp
  · intro q
    refine bt_inj (by unfold in32; omega) (by unfold in32; omega) (fun i hi => ?_)
    rw [all_b hn hi]
    by_cases c : i < n
    · rw [q i c, decide_eq_true c]
    · rw [bt_hi h0 (by omega) hz (by omega), decide_eq_false c]
/-- what the table's loops read -/
def hMem (F M : Int → Int) (S : List Int) (g : Mem) : Prop := Ar g 64 S ∧ g 56 18 = (S.length : Int) ∧ ∀ x ∈ S, (0 ≤ x ∧ x < 9) ∧ g 60 x = F x ∧ g 58 (9 * x + 1) = M x
theorem hMem.fr {g h : Mem} (H : hMem F M S g) (hF : Fr (onr 75) g h) : hMem F M S h :=
  ⟨H.1.fr (fun k => hF 64 k (by unfold onr; omega)), by rw [hF 56 18 (by unfold onr; omega)]; exact H.2.1, fun x hx => by rw [hF 60 x (by unfold onr; omega), hF 58 (9 * x + 1) (by unfold onr; omega)]; exact H.2.2 x hx⟩
variable {g : Mem} {what al : Int}
theorem hold2 (hO : hOk F M S) (H : hMem F M S g) (Kx : Int → Int → Mem → Res) : L_X8_hold_2 what al z Kx FU 0 0 g = Kx (tmz M S z) S.length g := by
  have h9 := hO.2.1
  have key : ∀ (d p f : Nat), p + d = S.length → d < f → L_X8_hold_2 what al z Kx f (kS (bt z) (fun p => M (S.getD p 0)) p) p g = Kx (tmz M S z) S.length g := by
    intro d
    induction d with
    | zero =>
      intro p f hp hf
      obtain ⟨f, rfl⟩ : ∃ g, f = g + 1 := ⟨f - 1, by omega⟩
      rw [L_X8_hold_2, H.2.1, if_neg (by omega), show p = S.length by omega]; rfl
    | succ d ih =>
      intro p f hp hf
      obtain ⟨f, rfl⟩ : ∃ g, f = g + 1 := ⟨f - 1, by omega⟩
      have nx := ih (p + 1) f (by omega) (by omega)
      have mx := getD_mem (l := S) (p := p) (by omega)
      have a := H.2.2 _ mx
      have b := hO.2.2.2 _ mx
      have ar := H.1.at (show p < S.length by omega)
      have kb := kS_b (b := bt z) (s := fun p => M (S.getD p 0)) p (fun j hj => by
        have := hO.2.2.2 _ (getD_mem (l := S) (p := j) (by omega))
        show 0 ≤ M (S.getD j 0) ∧ M (S.getD j 0) ≤ 30
        omega)
      rw [L_X8_hold_2, H.2.1, if_pos (by omega)]
      refine jn_of.trans ?_
      rw [bt_bit (by omega)]
      rw [kS] at nx
      generalize kS (bt z) (fun p => M (S.getD p 0)) p = t at *
      cases c : bt z p with
      | true =>
        rw [c] at nx
        simp only [if_true] at nx
        rw [if_pos (by decide)]
        refine (gd_of (by omega)).trans ?_
        rw [ar]
        refine (bd_of (of_e (by omega) (by omega) (by omega) (by omega))).trans ?_
        rw [a.2.2]
        refine (nm_of (w32_s (by omega) (by omega))).trans ?_
        refine (nm_of (w32_n (by omega))).trans ?_
        exact nx
      | false =>
        rw [c] at nx
        simp only [Bool.false_eq_true, if_false] at nx
        rw [if_neg (by decide)]
        refine (nm_of (e' := t) (by rw [w32_s (by omega) (by omega)]; omega)).trans ?_
        refine (nm_of (w32_n (by omega))).trans ?_
        exact nx
  exact key S.length 0 FU (by omega) (by unfold FU; omega)
theorem hold3 (hO : hOk F M S) (H : hMem F M S g) (z0 : 0 ≤ z) (zn : z < 2 ^ S.length) (hz : g 75 z = if z = 2 ^ S.length - 1 then 0 else -1) (hb : ∀ y, z < y → y < 2 ^ S.length → g 75 y = Wz F M S y) (Kx : Int → Mem → Res) :
    ∃ h2, L_X8_hold_3 what al z (tmz M S z) Kx FU 0 g = Kx S.length h2 ∧ (∀ r k : Int, ¬ (r = 75 ∧ k = z) → h2 r k = g r k) ∧ h2 75 z = Wz F M S z := by
  have h9 := hO.2.1
  have p9 := pw9 S.length (by omega)
  have tb := tm_b (z := z) hO
  have wb := Wz_b (z := z) hO
  have al_i := all_iff (show S.length < 10 by omega) z0 zn
  have key : ∀ (d p : Nat) (h1 : Mem) (f : Nat), p + d = S.length → d < f → (∀ r k : Int, ¬ (r = 75 ∧ k = z) → h1 r k = g r k) → -1 ≤ h1 75 z → h1 75 z ≤ Wz F M S z → (∀ j, j < p → bt z j = false → F (S.getD j 0) * (tmz M S z + M (S.getD j 0)) + Wz F M S (ior z (ishl 1 (j : Int))) ≤ h1 75 z) → (z = 2 ^ S.length - 1 → h1 75 z = Wz F M S z) →
      ∃ h2, L_X8_hold_3 what al z (tmz M S z) Kx f p h1 = Kx S.length h2 ∧ (∀ r k : Int, ¬ (r = 75 ∧ k = z) → h2 r k = g r k) ∧ h2 75 z = Wz F M S z := by
    intro d
    induction d with
    | zero =>
      intro p h1 f hp hf hF i0 i1 i2 i3
      obtain ⟨f, rfl⟩ : ∃ g, f = g + 1 := ⟨f - 1, by omega⟩
      refine ⟨h1, ?_, hF, ?_⟩
      · rw [L_X8_hold_3, hF 56 18 (by omega), H.2.1, if_neg (by omega), show p = S.length by omega]
      · by_cases c : z = 2 ^ S.length - 1
        · exact i3 c
        · obtain ⟨p', hp', hb'⟩ : ∃ p', p' < S.length ∧ bt z p' = false := Classical.byContradiction (fun q => c (al_i.mpr (fun p hp => by
            cases e : bt z p with
            | true => rfl
            | false => exact absurd ⟨p, hp, e⟩ q)))
          obtain ⟨_, y, T, e, s1, _⟩ := W_step (F := F) hO hp' hb'
          obtain ⟨p2, hp2, hb2, e2⟩ := rem_m.mp (hSrt_m.mp (show y ∈ hSrt F M (remL S z) by rw [e]; exact List.mem_cons_self))
          obtain ⟨_, y', T', e', s1', _⟩ := W_step (F := F) hO hp2 hb2
          rw [e] at e'
          have yy : y = y' := (List.cons.inj e').1
          have := (s1' (by rw [e2]; exact yy)).1
          have := i2 p2 (by omega) hb2
          omega
    | succ d ih =>
      intro p h1 f hp hf hF i0 i1 i2 i3
      obtain ⟨f, rfl⟩ : ∃ g, f = g + 1 := ⟨f - 1, by omega⟩
      have mx := getD_mem (l := S) (p := p) (by omega)
      have a := H.2.2 _ mx
      have b := hO.2.2.2 _ mx
      have ar : h1 64 p = S.getD p 0 := by rw [hF 64 p (by omega)]; exact H.1.at (show p < S.length by omega)
      rw [L_X8_hold_3, hF 56 18 (by omega), H.2.1, if_pos (by omega)]
      refine ex_ct jn_of ?_
      rw [bt_bit (by omega)]
      cases c : bt z p with
      | true =>
        rw [if_neg (by decide)]
        refine ex_ct (nm_of (w32_n (by omega))) ?_
        refine ih (p + 1) h1 f (by omega) (by omega) hF i0 i1 (fun j hj q => ?_) i3
        by_cases e : j = p
        · rw [e, c] at q; exact absurd q (by decide)
        · exact i2 j (by omega) q
      | false =>
        have ib := ior_b (k := p) z0 zn (by omega) (by omega)
        have gt := ior_gt (k := p) z0 (by omega) (by omega) c
        have wb' := Wz_b (z := ior z (ishl 1 (p : Int))) hO
        have st := (W_step (F := F) hO (show p < S.length by omega) c).1
        have pb := mul_b b.1.1 b.1.2 (show 0 ≤ tmz M S z + M (S.getD p 0) by omega) (show tmz M S z + M (S.getD p 0) ≤ 300 by omega)
        have e75 : h1 75 (ior z (ishl 1 (p : Int))) = Wz F M S (ior z (ishl 1 (p : Int))) := by rw [hF 75 _ (by omega)]; exact hb _ gt ib.2
        have nz : ¬ z = 2 ^ S.length - 1 := fun q => by
          have := al_i.mp q p (by omega)
          rw [c] at this; exact absurd this (by decide)
        rw [if_pos (by decide)]
        refine ex_ct (gd_of (by omega)) ?_
        refine ex_ct (gd_of (by omega)) ?_
        rw [ar]
        refine ex_ct (gd_of (by omega)) ?_
        refine ex_ct (bd_of (of_e (by omega) (by omega) (by omega) (by omega))) ?_
        rw [hF 58 _ (by omega), hF 60 _ (by omega), a.2.1, a.2.2, e75, w32_s (z := tmz M S z + M (S.getD p 0)) (by omega) (by omega)]
        generalize hu : F (S.getD p 0) * (tmz M S z + M (S.getD p 0)) = u at *
        generalize hw : Wz F M S (ior z (ishl 1 (p : Int))) = w at *
        rw [w32_s (z := u) (by omega) (by omega)]
        refine ex_ct (nm_of (e' := w + u) (w32_s (by omega) (by omega))) ?_
        refine ex_ct jn_of ?_
        refine ex_ct (gd_of (by omega)) ?_
        have fin : ∀ v : Int, v ≤ Wz F M S z → u + w ≤ v → h1 75 z ≤ v → ∃ h2, (gd (0 ≤ z ∧ z < 512) (nm (wr h1 75 z v) (fun (h_53 : Mem) => nm (w32 ((p : Int) + 1)) (fun p_56 => L_X8_hold_3 what al z (tmz M S z) Kx f p_56 h_53)))) = Kx S.length h2 ∧ (∀ r k : Int, ¬ (r = 75 ∧ k = z) → h2 r k = g r k) ∧ h2 75 z = Wz F M S z := by
          intro v v1 v2 v3
          refine ex_ct (gd_of (by omega)) ?_
          refine ex_ct (nm_of rfl) ?_
          refine ex_ct (nm_of (w32_n (by omega))) ?_
          refine ih (p + 1) _ f (by omega) (by omega) (fun r k q => by rw [wr_at, if_neg q]; exact hF r k q) (by rw [wr_s]; omega) (by rw [wr_s]; exact v1) (fun j hj q => ?_) (fun q => absurd q nz)
          rw [wr_s]
          by_cases e : j = p
          · subst e; rw [hu, hw]; exact v2
          · exact Int.le_trans (i2 j (by omega) q) v3
        by_cases e : h1 75 z < w + u
        · rw [if_pos e]; exact fin (w + u) (by omega) (by omega) (by omega)
        · rw [if_neg e]; exact fin (h1 75 z) i1 (by omega) (by omega)
  refine key S.length 0 g FU (by omega) (by unfold FU; omega) (fun _ _ _ => rfl) ?_ ?_ (fun j hj => absurd hj (by omega)) (fun q => ?_)
  · rw [hz]; split <;> omega
  · rw [hz]; split <;> omega
  · rw [hz, if_pos q]
    have e : remL S z = [] := List.eq_nil_iff_forall_not_mem.mpr (fun y hy => by
      obtain ⟨p, hp, hb', _⟩ := rem_m.mp hy
      rw [al_i.mp q p hp] at hb'; exact absurd hb' (by decide))
    unfold Wz
    rw [e]; rfl
theorem hold1 (hO : hOk F M S) (H : hMem F M S g) (Kx : Int → Mem → Res) :
    ∃ h2, L_X8_hold_1 what (2 ^ S.length - 1) Kx FU (2 ^ S.length - 1) g = Kx (-1) h2 ∧ Fr (onr 75) g h2 ∧ ∀ y, 0 ≤ y → y < 2 ^ S.length → h2 75 y = Wz F M S y := by
  have h9 := hO.2.1
  have p9 := pw9 S.length (by omega)
  have key : ∀ (d : Nat) (h1 : Mem) (f : Nat), (d : Int) ≤ 2 ^ S.length → d < f → Fr (onr 75) g h1 → (∀ y, (d : Int) ≤ y → y < 2 ^ S.length → h1 75 y = Wz F M S y) →
      ∃ h2, L_X8_hold_1 what (2 ^ S.length - 1) Kx f ((d : Int) - 1) h1 = Kx (-1) h2 ∧ Fr (onr 75) g h2 ∧ ∀ y, 0 ≤ y → y < 2 ^ S.length → h2 75 y = Wz F M S y := by
    intro d
    induction d with
    | zero =>
      intro h1 f hd hf hF hI
      obtain ⟨f, rfl⟩ : ∃ g, f = g + 1 := ⟨f - 1, by omega⟩
      refine ⟨h1, ?_, hF, hI⟩
      rw [L_X8_hold_1, if_neg (by omega)]; rfl
    | succ d ih =>
      intro h1 f hd hf hF hI
      obtain ⟨f, rfl⟩ : ∃ g, f = g + 1 := ⟨f - 1, by omega⟩
      rw [show ((d + 1 : Nat) : Int) - 1 = (d : Int) by omega, L_X8_hold_1, if_pos (by omega)]
      refine ex_ct (hold2 (what := what) (al := 2 ^ S.length - 1) (z := (d : Int)) hO (H.fr hF) _) ?_
      refine ex_ct (nm_of rfl) ?_
      refine ex_ct (gd_of (by omega)) ?_
      refine ex_ct (nm_of rfl) ?_
      have F2 : Fr (onr 75) g (wr h1 75 d (if (d : Int) = 2 ^ S.length - 1 then 0 else -1)) := fun r k q => by rw [wr_o q]; exact hF r k q
      obtain ⟨h2, e2, F3, v2⟩ := hold3 (what := what) (al := 2 ^ S.length - 1) (z := (d : Int)) (g := wr h1 75 d (if (d : Int) = 2 ^ S.length - 1 then 0 else -1)) hO (H.fr F2) (by omega) (by omega) wr_s (fun y h1' h2' => by rw [wr_k (by omega)]; exact hI y (by omega) h2') (fun p_59 (h_58 : Mem) => nm (w32 ((d : Int) + (-1))) (fun set_60 => L_X8_hold_1 what (2 ^ S.length - 1) Kx f set_60 h_58))
      refine ex_ct e2 ?_
      refine ex_ct (nm_of (e' := (d : Int) - 1) (w32_s (by omega) (by omega))) ?_
      refine ih h2 f (by omega) (by omega) (fun r k q => by rw [F3 r k (fun w => q w.1)]; exact F2 r k q) (fun y h1' h2' => ?_)
      by_cases c : y = (d : Int)
      · rw [c]; exact v2
      · rw [F3 75 y (fun w => c w.2), wr_k (by omega)]; exact hI y (by omega) h2'
  have pp : (0 : Int) ≤ 2 ^ S.length := Int.le_of_lt (Int.pow_pos (by omega))
  have ec : (((2 : Int) ^ S.length).toNat : Int) = 2 ^ S.length := Int.toNat_of_nonneg pp
  have k := key ((2 : Int) ^ S.length).toNat g FU (by omega) (by unfold FU; omega) Fr.rfl (fun y h1' h2' => absurd h1' (by omega))
  rw [ec] at k
  exact k
end HTab
