/-! what the program works out, as numbers alone: ways, drives, rows, the giving -/
/-- ways by roads, as the reference begins -/
def W0 (N : Nat → Int32) : Nat → Int32 := fun k => if k / 8 = k % 8 then 0 else if N k = 0 then 1000000 else N k
/-- t steps of shortening: by = t / 64, place = t % 64 -/
def fwRun (m : Nat → Int32) : Nat → Nat → Int32
  | 0 => m
  | t + 1 => upd (fwRun m t) (t % 64) (mMin (fwRun m t (t % 64)) (fwRun m t (t % 64 / 8 * 8 + t / 64) + fwRun m t (8 * (t / 64) + t % 64 % 8)))
def fw (N : Nat → Int32) : Nat → Int32 := fwRun (W0 N) 512
def fitI (N : Nat → Int32) (l d : Nat) : Int32 := if N (70 + 7 * l + 5) < N (112 + 11 * d + 3) then 0 else if N (70 + 7 * l + 6) < N (112 + 11 * d + 4) then 0 else if N (112 + 11 * d + 2) = 1 then (if N (70 + 7 * l + 0) = 1 then 1 else 0) else if N (112 + 11 * d + 2) = 2 then (if N (70 + 7 * l + 0) = 3 then 1 else 0) else if N (70 + 7 * l + 0) = 3 then 0 else 1
/-- town, minute, since the last rest, driven, without load, rests, waited -/
abbrev Dv : Type := Nat × Nat × Nat × Nat × Nat × Nat × Nat
def rollN : Nat → Nat → Nat → Nat → Nat → Nat × Nat × Nat
  | 0, left, s, m, r => (s + left, m + left, r)
  | f + 1, left, s, m, r => if s + left ≤ 270 then (s + left, m + left, r) else rollN f (left - (270 - s)) 0 (m + ((270 - s) + 45)) (r + 1)
def goN (w : Nat → Nat) (to : Nat) (em : Bool) : Dv → Nat × Dv
  | (t, m, s, d, e, r, q) => if w (8 * t + to) = 1000000 then (1, t, m, s, d, e, r, q) else if 540 < d + w (8 * t + to) then (2, t, m, s, d, e, r, q) else (0, to, (rollN 2 (w (8 * t + to)) s m r).2.1, (rollN 2 (w (8 * t + to)) s m r).1, d + w (8 * t + to), (if em = true then e + w (8 * t + to) else e), (rollN 2 (w (8 * t + to)) s m r).2.2, q)
def dkN (fr to : Nat) : Dv → Nat × Dv
  | (t, m, s, d, e, r, q) => if to < m then (3, t, m, s, d, e, r, q) else (0, t, m + ((fr - m) + 30), (if 45 ≤ fr - m then 0 else s), d, e, r, q + (fr - m))
def thn (x : Nat × Dv) (f : Dv → Nat × Dv) : Nat × Dv := if x.1 = 0 then f x.2 else x
def carN (w L : Nat → Nat) (d : Dv) : Nat × Dv := thn (thn (thn (goN w (L 0) true d) (dkN (L 6) (L 7))) (goN w (L 1) false)) (dkN (L 8) (L 9))
def wyN (N : Nat → Int32) (i : Nat) : Nat := (fw N i).toNatClampNeg
def loN (N : Nat → Int32) (l c : Nat) : Nat := (N (70 + 7 * l + c)).toNatClampNeg
def ldN (N : Nat → Int32) (d c : Nat) : Nat := (N (112 + 11 * d + c)).toNatClampNeg
def crN (w : Nat → Nat) (Ld : Nat → Nat → Nat) : Option Nat → Nat × Dv → Nat × Dv
  | none, x => x
  | some a, x => thn x (carN w (Ld a))
def pyO (Ld : Nat → Nat → Nat) : Option Nat → Nat
  | none => 0
  | some a => Ld a 5
def enN (hb : Nat) (z : Nat × Dv) : Nat × Dv := if z.1 = 0 then (if z.2.2.1 ≤ hb then z else (4, z.2)) else z
def runN (w Lo : Nat → Nat) (Ld : Nat → Nat → Nat) (one two : Option Nat) : Nat × Dv := enN (Lo 4) (thn (crN w Ld two (crN w Ld one (0, Lo 1, Lo 2, 0, 0, 0, 0, 0))) (goN w (Lo 3) true))
def rfN (N : Nat → Int32) (l : Nat) : Option Nat → Option Nat → Int32
  | none, none => 0
  | none, some _ => -100001
  | some a, none => if fitI N l a = 0 then -100004 else 0
  | some a, some b => if a = b then -100001 else if fitI N l a = 0 then -100004 else if fitI N l b = 0 then -100004 else 0
/-- a row by its number: 9 times (first load and 1), and (second one and 1) -/
def rO (r : Nat) : Option Nat := if r / 9 = 0 then none else some (r / 9 - 1)
def rT (r : Nat) : Option Nat := if r % 9 = 0 then none else some (r % 9 - 1)
/-- as sheets tell it -/
def rwN (r : Nat) : Nat := 100 * (r / 9) + r % 9
/-- its loads as bits -/
def stN (r : Nat) : Nat := (if r / 9 = 0 then 0 else 2 ^ (r / 9 - 1)) ||| (if r % 9 = 0 then 0 else 2 ^ (r % 9 - 1))
def dvN (N : Nat → Int32) (l r : Nat) : Nat × Dv := runN (wyN N) (loN N l) (ldN N) (rO r) (rT r)
/-- a row that is one, fits and can be driven -/
def rgB (N : Nat → Int32) (m l r : Nat) : Bool := (decide (r / 9 ≠ 0) || decide (r % 9 = 0)) && decide (r / 9 ≤ m) && decide (r % 9 ≤ m) && decide (rfN N l (rO r) (rT r) = 0) && decide ((dvN N l r).1 = 0)
def vlZ (N : Nat → Int32) (m l r : Nat) : Int := if rgB N m l r = true then ((pyO (ldN N) (rO r) + pyO (ldN N) (rT r) : Nat) : Int) - ((dvN N l r).2.2.2.2.2.1 : Int) else 0
def emN (N : Nat → Int32) (m l r : Nat) : Nat := if rgB N m l r = true then (dvN N l r).2.2.2.2.2.1 else 0
def opB (N : Nat → Int32) (m l r g : Nat) : Bool := (rgB N m l r || decide (r = 0)) && decide (stN r &&& g = 0)
def mxF (f : Nat → Int) (o : Nat → Bool) : Nat → Int
  | 0 => f 0
  | k + 1 => if o (k + 1) = true then max (mxF f o k) (f (k + 1)) else mxF f o k
/-- the most that the last k lorries are worth, when the loads g are gone -/
def bsZ (N : Nat → Int32) (n m : Nat) : Nat → Nat → Int
  | 0, _ => 0
  | k + 1, g => mxF (fun r => vlZ N m (n - (k + 1)) r + bsZ N n m k (g ||| stN r)) (fun r => opB N m (n - (k + 1)) r g) 80
def fsN (p : Nat → Bool) : Nat → Nat → Nat
  | 0, r => r
  | f + 1, r => if p r = true then r else fsN p f (r + 1)
/-- the first row with which lorry l comes to the most -/
def chR (N : Nat → Int32) (n m l g : Nat) : Nat := fsN (fun r => opB N m l r g && decide (vlZ N m l r + bsZ N n m (n - (l + 1)) (g ||| stN r) = bsZ N n m (n - l) g)) 81 0
/-- loads that are given, and those that are not -/
def gvN (N : Nat → Int32) : Nat → Nat
  | 0 => 0
  | d + 1 => if N (112 + 11 * d + 10) < 0 then gvN N d else gvN N d ||| 2 ^ d
def frN (N : Nat → Int32) : Nat → Nat
  | 0 => 0
  | d + 1 => if N (112 + 11 * d + 10) = -1 then frN N d ||| 2 ^ d else frN N d
/-- a set without another -/
def dfN (s t : Nat) : Nat := s &&& (255 ^^^ t)
/-- what is gone ahead of lorry l -/
def gnS (N : Nat → Int32) (n m : Nat) : Nat → Nat
  | 0 => gvN N m
  | l + 1 => gnS N n m l ||| stN (chR N n m l (gnS N n m l))
def zI (x : Int) : Int32 := Int32.ofInt x
/-- what Giving has worked out (object, most, choices, rowsGiven) belongs to the reference's row N -/
def GOkN (g mo rg N : Nat → Int32) (n m : Nat) : Prop := g 11 = nI (frN N m) ∧ mo (frN N m) = zI (bsZ N n m n (gvN N m)) ∧ (∀ d, d < m → mo (dfN (frN N m) (2 ^ d)) = zI (bsZ N n m n (gvN N m ||| 2 ^ d))) ∧ ∀ l, l < n → rg l = nI (rwN (chR N n m l (gnS N n m l)))
def GOk5 (g mo _ch rg N : Nat → Int32) : Prop := GOkN g mo rg N (N 64).toNatClampNeg (N 65).toNatClampNeg
