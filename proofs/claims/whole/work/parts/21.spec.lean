/-! what a night is, in numbers: q p k is attribute k of the act at place p, m p its number, T the tunes, b the break -/
def sBk (b : Int) (p : Nat) : Prop := 0 < b ∧ (p : Int) = b
def sBkD (b : Int) (p : Nat) : Decidable (sBk b p) := inferInstanceAs (Decidable (0 < b ∧ (p : Int) = b))
def sRs (T : Int → Int) (b : Int) (p : Nat) : Int := if 0 < b ∧ (p : Int) = b then T 2 else 0
/-- what is left to strike ahead of a place -/
def sLf (q : Nat → Int → Int) (T : Int → Int) (b : Int) : Nat → Int
  | 0 => 0
  | p + 1 => if q p 3 = 0 then q p 5 else sLf q T b p - sRs T b p - q p 1
def sGp (q : Nat → Int → Int) (T : Int → Int) (b : Int) (p : Nat) : Int := if q p 3 = 0 then mxI 0 (q p 4 + (sLf q T b p - sRs T b p)) else 0
/-- the end of the place ahead -/
def sEn (q : Nat → Int → Int) (T : Int → Int) (b : Int) : Nat → Int
  | 0 => 0
  | p + 1 => sEn q T b p + sRs T b p + sGp q T b p + q p 1
def sSt (q : Nat → Int → Int) (T : Int → Int) (b : Int) (p : Nat) : Int := sEn q T b p + sRs T b p + sGp q T b p
/-- the first rule that fails at a place (0: none) -/
def sIt (q : Nat → Int → Int) (m : Nat → Int) (T : Int → Int) (b : Int) (n p : Nat) : Int :=
  if T 0 < sGp q T b p then 1 else if (0 < p ∧ ¬ (0 < b ∧ (p : Int) = b)) ∧ q p 0 = q (p - 1) 0 then 2 else if 0 < p ∧ iand (ishr (q p 8) (m (p - 1))) 1 = 1 then 3 else if 0 < q p 7 ∧ q p 7 < sEn q T b (p + 1) then 4 else if p + 1 = n ∧ T 1 < sEn q T b (p + 1) then 5 else 0
def sOk (q : Nat → Int → Int) (m : Nat → Int) (T : Int → Int) (b : Int) (n : Nat) : Prop := ∀ p, p < n → sIt q m T b n p = 0
/-- the house: by which heat the claps are, the claps -/
def sHa (q : Nat → Int → Int) (T : Int → Int) (b : Int) (p : Nat) (heat : Int) : Int :=
  let h1 := if 0 < b ∧ (p : Int) = b then heat / 2 else heat
  let h2 := mxI 0 (h1 - T 3 * sGp q T b p)
  if 0 < p ∧ ¬ (0 < b ∧ (p : Int) = b) then mxI 0 (h2 - (if q p 6 = q (p - 1) 6 ∧ ¬ q p 6 = 0 then 10 else if q p 6 = 2 ∧ q (p - 1) 6 = 1 then 5 else 0)) else h2
def sSe (T : Int → Int) (p : Nat) : Int := if p = 0 then T 4 else if p = 1 then (T 4 + 10) / 2 else 10
def sCl (q : Nat → Int → Int) (T : Int → Int) (p : Nat) (ha u : Int) : Int :=
  mxI 0 (mxI 0 (q p 2 * (100 + ha) / 100 * sSe T p / 10 - (if 5 < p then T 5 * ((p : Int) - 5) else 0)) + u)
/-- heat, people, claps so far, ices, ahead of a place; u: the luck of each place -/
def sHs (q : Nat → Int → Int) (T : Int → Int) (b : Int) (u : Nat → Int) : Nat → Int × Int × Int × Int
  | 0 => (T 6, T 7, 0, 0)
  | p + 1 =>
    let s := sHs q T b u p
    let ha := sHa q T b p s.1
    let cl := sCl q T p ha (u p)
    (mxI 0 (mnI 100 (ha + cl - 12)), if cl < 8 then s.2.1 - s.2.1 * (8 - cl) / 100 else s.2.1, s.2.2.1 + cl, if 0 < b ∧ (p : Int) = b then s.2.1 * s.1 / 1000 else s.2.2.2)
def sHt (q : Nat → Int → Int) (T : Int → Int) (b : Int) (u : Nat → Int) (p : Nat) : Int := sHa q T b p (sHs q T b u p).1
def sCp (q : Nat → Int → Int) (T : Int → Int) (b : Int) (u : Nat → Int) (p : Nat) : Int := sCl q T p (sHt q T b u p) (u p)
def sVa (q : Nat → Int → Int) (T : Int → Int) (b : Int) (u : Nat → Int) (n : Nat) : Int := (sHs q T b u n).2.2.1 + sCp q T b u (n - 1) + (sHs q T b u n).2.2.2
/-- an order of acts, as a list of their numbers -/
def qL (V : Mem) (l : List Int) : Nat → Int → Int := fun p k => V 58 (9 * l.getD p 0 + k)
def mL (l : List Int) : Nat → Int := fun p => l.getD p 0
def okL (V : Mem) (l : List Int) (b : Int) : Prop := sOk (qL V l) (mL l) (V 59) b l.length
def vaL (V : Mem) (l : List Int) (b : Int) : Int := sVa (qL V l) (V 59) b (fun _ => 0) l.length
def figs (l : List Int) : Int := l.foldl (fun v x => 10 * v + x) 0
/-- all orders of a row of numbers, the first first -/
def perms : Nat → List Int → List (List Int)
  | 0, _ => [[]]
  | n + 1, S => S.flatMap (fun x => (perms n (S.erase x)).map (List.cons x))
/-- the acts of a bill (n numbers from o on at cell r), the least first -/
def rowL (V : Mem) (r o : Int) : List Int := (List.range (V r o).toNat).map (fun p : Nat => V r (o + 3 + (p : Int)))
def insI (x : Int) : List Int → List Int
  | [] => [x]
  | y :: l => if x < y then x :: y :: l else y :: insI x l
def srtI : List Int → List Int
  | [] => []
  | x :: l => insI x (srtI l)
