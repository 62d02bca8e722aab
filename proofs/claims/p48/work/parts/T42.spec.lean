/-! STAGE 2, the mathematical board: a row of integers, laid as the reference lays it; what the document says of it -/
abbrev RHO : Type := Int → Int
def ab (x : Int) : Int := if x < 0 then -x else x
def dirS (x y : Int) : Int :=
  if 0 < x ∧ 0 ≤ y then 1000 * ab y / (ab x + ab y) else if x ≤ 0 ∧ 0 < y then 2000 - 1000 * ab y / (ab x + ab y) else if x < 0 then 2000 + 1000 * ab y / (ab x + ab y) else (4000 - 1000 * ab y / (ab x + ab y)) % 4000
def turnS (p q : Int) : Int := min (ab (p - q)) (4000 - ab (p - q))
def sgnS (v : Int) : Int := if 0 < v then 1 else if v < 0 then -1 else 0
def crossS (x y u v : Int) : Int := x * v - y * u
def gS (ρ : RHO) (s k : Int) : Int := ρ (47 + 6 * s + k)
def scS (ρ : RHO) (s : Int) : Int := gS ρ s 0
def cxS (ρ : RHO) (s : Int) : Int := gS ρ s 1
def cyS (ρ : RHO) (s : Int) : Int := gS ρ s 2
def suS (ρ : RHO) (s : Int) : Int := gS ρ s 3
def paS (ρ : RHO) (s : Int) : Int := gS ρ s 4
def lnS (ρ : RHO) (s : Int) : Int := gS ρ s 5
def ltS (ρ : RHO) (c : Int) : Int := ρ (5 + 14 * c)
def csS (ρ : RHO) (c : Int) : Int := ρ (5 + 14 * c + 1)
def axS (ρ : RHO) (c a : Int) : Int := ρ (5 + 14 * c + 2 + a)
def ayS (ρ : RHO) (c a : Int) : Int := ρ (5 + 14 * c + 8 + a)
def sxS (ρ : RHO) (s : Int) : Int := axS ρ (scS ρ s) (suS ρ s)
def syS (ρ : RHO) (s : Int) : Int := ayS ρ (scS ρ s) (suS ρ s)
def pxS (ρ : RHO) (s : Int) : Int := axS ρ (scS ρ s) (paS ρ s)
def pyS (ρ : RHO) (s : Int) : Int := ayS ρ (scS ρ s) (paS ρ s)
/-- is the actor a in the scene c -/
def inS (ρ : RHO) (c a : Int) : Bool := (csS ρ c).toNat.testBit a.toNat
/-- a board that load and the actions can make -/
def VB (ρ : RHO) : Prop :=
  (0 ≤ ρ 0 ∧ ρ 0 ≤ 99) ∧ (0 ≤ ρ 1 ∧ ρ 1 ≤ 2000) ∧ (0 ≤ ρ 2 ∧ ρ 2 ≤ 2000) ∧ (1 ≤ ρ 3 ∧ ρ 3 ≤ 3) ∧ (0 ≤ ρ 4 ∧ ρ 4 ≤ 12) ∧
  (∀ c, 0 ≤ c → c < ρ 3 → (0 ≤ ltS ρ c ∧ ltS ρ c ≤ 3) ∧ (0 < csS ρ c ∧ csS ρ c < 64) ∧ ∀ a, 0 ≤ a → a < 6 → inS ρ c a = true → (0 ≤ axS ρ c a ∧ axS ρ c a ≤ 199) ∧ (0 ≤ ayS ρ c a ∧ ayS ρ c a ≤ 199)) ∧
  (∀ s, 0 ≤ s → s < ρ 4 → (0 ≤ scS ρ s ∧ scS ρ s < ρ 3) ∧ (0 ≤ cxS ρ s ∧ cxS ρ s ≤ 199) ∧ (0 ≤ cyS ρ s ∧ cyS ρ s ≤ 199) ∧ (0 ≤ suS ρ s ∧ suS ρ s < 6) ∧ inS ρ (scS ρ s) (suS ρ s) = true ∧
    (paS ρ s = -1 ∨ ((0 ≤ paS ρ s ∧ paS ρ s < 6) ∧ inS ρ (scS ρ s) (paS ρ s) = true ∧ ¬ paS ρ s = suS ρ s)) ∧ (1 ≤ lnS ρ s ∧ lnS ρ s ≤ 99) ∧ ¬ (sxS ρ s = cxS ρ s ∧ syS ρ s = cyS ρ s)) ∧
  (∀ s t, 0 ≤ s → s ≤ t → t < ρ 4 → scS ρ s ≤ scS ρ t)
def viewS (ρ : RHO) (s : Int) : Int := dirS (sxS ρ s - cxS ρ s) (syS ρ s - cyS ρ s)
def sideS (ρ : RHO) (s : Int) : Int := if paS ρ s = -1 then 0 else
  if suS ρ s < paS ρ s then sgnS (crossS (pxS ρ s - sxS ρ s) (pyS ρ s - syS ρ s) (cxS ρ s - sxS ρ s) (cyS ρ s - syS ρ s))
  else sgnS (crossS (sxS ρ s - pxS ρ s) (syS ρ s - pyS ρ s) (cxS ρ s - pxS ρ s) (cyS ρ s - pyS ρ s))
def lookS (ρ : RHO) (s : Int) : Int := if paS ρ s = -1 then 0 else sgnS (crossS (sxS ρ s - cxS ρ s) (syS ρ s - cyS ρ s) (pxS ρ s - sxS ρ s) (pyS ρ s - syS ρ s))
/-- a set of the numbers below n that a test takes -/
def mkS (P : Nat → Bool) : Nat → Nat
  | 0 => 0
  | n + 1 => mkS P n ||| (if P n = true then 2 ^ n else 0)
def seesS (ρ : RHO) (s : Int) (a : Nat) : Bool := inS ρ (scS ρ s) a && (!(decide (axS ρ (scS ρ s) a - cxS ρ s = 0) && decide (ayS ρ (scS ρ s) a - cyS ρ s = 0)) && decide (turnS (viewS ρ s) (dirS (axS ρ (scS ρ s) a - cxS ρ s) (ayS ρ (scS ρ s) a - cyS ρ s)) ≤ ρ 2))
def visS (ρ : RHO) (s : Int) : Nat := mkS (seesS ρ s) 6
def nearS (ρ : RHO) (s t r : Int) : Bool := decide (scS ρ s = scS ρ t) && (decide (ab (cxS ρ s - cxS ρ t) + ab (cyS ρ s - cyS ρ t) ≤ r) && decide (turnS (viewS ρ s) (viewS ρ t) ≤ ρ 1))
def eyeS (ρ : RHO) (s : Int) : Int := if paS ρ s = -1 then -2 else if pxS ρ s - sxS ρ s = 0 ∧ pyS ρ s - syS ρ s = 0 then -3 else turnS (dirS (pxS ρ s - sxS ρ s) (pyS ρ s - syS ρ s)) (dirS (cxS ρ s - sxS ρ s) (cyS ρ s - syS ρ s))
/-- the actor a stands between camera and subject -/
def betwS (ρ : RHO) (s : Int) (a : Nat) : Bool := !decide (a = suS ρ s) && (inS ρ (scS ρ s) a && (!(decide (axS ρ (scS ρ s) a = cxS ρ s) && decide (ayS ρ (scS ρ s) a = cyS ρ s)) && (!(decide (axS ρ (scS ρ s) a = sxS ρ s) && decide (ayS ρ (scS ρ s) a = syS ρ s)) &&
  (decide (crossS (sxS ρ s - cxS ρ s) (syS ρ s - cyS ρ s) (axS ρ (scS ρ s) a - cxS ρ s) (ayS ρ (scS ρ s) a - cyS ρ s) = 0) && (decide (min (cxS ρ s) (sxS ρ s) ≤ axS ρ (scS ρ s) a ∧ axS ρ (scS ρ s) a ≤ max (cxS ρ s) (sxS ρ s)) && decide (min (cyS ρ s) (syS ρ s) ≤ ayS ρ (scS ρ s) a ∧ ayS ρ (scS ρ s) a ≤ max (cyS ρ s) (syS ρ s)))))))
/-- the first of a .. a + n - 1 that a test takes, -1 where there is none -/
def fstS (P : Nat → Bool) : Nat → Nat → Int
  | _, 0 => -1
  | a, n + 1 => if P a = true then a else fstS P (a + 1) n
def blockS (ρ : RHO) (s : Int) : Int := fstS (betwS ρ s) 0 6
def befS (ρ : RHO) (s : Int) : Bool := decide (0 < s) && decide (scS ρ (s - 1) = scS ρ s)
def crosdS (ρ : RHO) (s : Int) : Bool := !decide (paS ρ s = -1) && (!decide (paS ρ (s - 1) = -1) && (decide (suS ρ s = paS ρ (s - 1)) && decide (paS ρ s = suS ρ (s - 1))))
def sameS (ρ : RHO) (s : Int) : Bool := !decide (paS ρ s = -1) && (decide (suS ρ s = suS ρ (s - 1)) && decide (paS ρ s = paS ρ (s - 1)))
def k0S (ρ : RHO) (s : Int) : Bool := befS ρ s && ((crosdS ρ s || sameS ρ s) && decide (sideS ρ s * sideS ρ (s - 1) = -1))
def k1S (ρ : RHO) (s : Int) : Bool := befS ρ s && (crosdS ρ s && decide (lookS ρ s * lookS ρ (s - 1) = 1))
def k2S (ρ : RHO) (s : Int) : Bool := befS ρ s && (decide (suS ρ s = suS ρ (s - 1)) && nearS ρ s (s - 1) (ρ 0))
def k3S (ρ : RHO) (s : Int) : Bool := !decide (blockS ρ s = -1)
def b2i (b : Bool) : Int := if b = true then 1 else 0
def kindS (ρ : RHO) (s : Int) : Int := b2i (k0S ρ s) + 2 * b2i (k1S ρ s) + 4 * b2i (k2S ρ s) + 8 * b2i (k3S ρ s)
def kcntS (ρ : RHO) (s : Int) : Int := b2i (k0S ρ s) + b2i (k1S ρ s) + b2i (k2S ρ s) + b2i (k3S ρ s)
/-- a sum over 0 .. n - 1 -/
def smS (f : Int → Int) : Nat → Int
  | 0 => 0
  | n + 1 => smS f n + f n
def faultS (ρ : RHO) : Int := smS (kcntS ρ) (ρ 4).toNat
