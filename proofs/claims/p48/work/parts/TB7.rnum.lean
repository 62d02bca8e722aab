/-! STAGE 2: the reference goes on to the next word; a word, a number, a semicolon -/
def exW (f : Nat → Int) (p : PS) (w : Nat) : PS := if wdP f p w = true then p else falP p 1
section Q54
variable {fu : Nat} {sh : HS} {I I' : HI} {R : HR} {AD : Int → Nat} {f : Nat → Int} {n : Nat} {p : PS}
end Q54
