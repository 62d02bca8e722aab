/-! STAGE 2: the best order of stops, as mathematics -/
/-- the first least of g over the k stops that m lacks, and how much it is -/
def cl (g : Nat → Int) (m : Nat) : Nat → Nat × Int
  | 0 => (0, 1000000)
  | k + 1 => if m.testBit k = true then cl g m k else if g k < (cl g m k).2 then (k, g k) else cl g m k
/-- the reference's least: -1 where there is none yet -/
def rf (g : Nat → Int) (m : Nat) : Nat → Int
  | 0 => -1
  | k + 1 => if m.testBit k = true then rf g m k else if rf g m k = -1 then g k else min (rf g m k) (g k)
/-- sets of stops -/
theorem or_bit (m k j : Nat) : (m ||| 2 ^ k).testBit j = (m.testBit j || decide (k = j)) := by rw [Nat.testBit_or, Nat.testBit_two_pow]
theorem all_bit (n j : Nat) : (2 ^ n - 1).testBit j = decide (j < n) := Nat.testBit_two_pow_sub_one n j
/-- the least price of what is left behind m, when l was the latest -/
def rs (n : Nat) (pr : Int → Nat → Int) : Nat → Nat → Nat → Int
  | 0, _, _ => 0
  | t + 1, m, l => if m = 2 ^ n - 1 then 0 else (cl (fun k => pr (l : Int) k + rs n pr t (m ||| 2 ^ k) k) m n).2
def RS (n : Nat) (pr : Int → Nat → Int) (m l : Nat) : Int := rs n pr (2 ^ n) m l
/-- what a next stop costs, with all behind it -/
def nxS (n : Nat) (pr : Int → Nat → Int) (m : Nat) (l : Int) (k : Nat) : Int := pr l k + RS n pr (m ||| 2 ^ k) k
/-- the way: who is behind at a place, who is the latest -/
def pwS (n : Nat) (pr : Int → Nat → Int) : Nat → Nat × Int
  | 0 => (0, -1)
  | i + 1 => ((pwS n pr i).1 ||| 2 ^ (cl (nxS n pr (pwS n pr i).1 (pwS n pr i).2) (pwS n pr i).1 n).1, ((cl (nxS n pr (pwS n pr i).1 (pwS n pr i).2) (pwS n pr i).1 n).1 : Int))
/-- the stop at a place; the price of the first i; the best price -/
def orS (n : Nat) (pr : Int → Nat → Int) (i : Nat) : Nat := (cl (nxS n pr (pwS n pr i).1 (pwS n pr i).2) (pwS n pr i).1 n).1
def bcD (n : Nat) (pr : Int → Nat → Int) : Int := if n = 0 then 0 else (cl (nxS n pr 0 (-1)) 0 n).2
