/-! STAGE 2: the class finds the best order of stops -/
/-- its prices -/
def PX (I : HI) (AD : Int → Nat) (b : Int) (Q n : Nat) (pr : Int → Nat → Int) : Prop := I (AD b) 0 = iz (Q : Int) ∧ n ≤ Q ∧ (∀ k, k < n → I (AD (b + 1)) k = iz (pr (-1) k)) ∧ ∀ l k : Nat, l < n → k < n → I (AD (b + 2)) (l * Q + k) = iz (pr (l : Int) k)
/-- what its table of rests tells: of more than c behind, and of c with the latest below l0 -/
def RF (I : HI) (AD : Int → Nat) (b : Int) (Q n : Nat) (pr : Int → Nat → Int) (c l0 : Nat) : Prop := ∀ m l : Nat, m < 2 ^ n → l < n → m.testBit l = true → (c < m ∨ (m = c ∧ l < l0)) → I (AD (b + 3)) (m * Q + l) = iz (RS n pr m l)
theorem PX.fr {AD : Int → Nat} {I I' : HI} {W : Int → Nat → Prop} {b : Int} {Q n : Nat} {pr : Int → Nat → Int} (X : PX I AD b Q n pr) (a : FR AD I I' W) (h0 : 0 ≤ b) (h1 : b + 4 < 331) (w0 : ¬ W b 0) (w1 : ∀ k, ¬ W (b + 1) k) (w2 : ∀ k, ¬ W (b + 2) k) : PX I' AD b Q n pr :=
  ⟨(a b (by omega) (by omega) 0 w0).trans X.1, X.2.1, fun k hk => (a (b + 1) (by omega) (by omega) k (w1 k)).trans (X.2.2.1 k hk), fun l k hl hk => (a (b + 2) (by omega) (by omega) _ (w2 _)).trans (X.2.2.2 l k hl hk)⟩
theorem RF.fr {AD : Int → Nat} {I I' : HI} {W : Int → Nat → Prop} {b : Int} {Q n c l0 : Nat} {pr : Int → Nat → Int} (X : RF I AD b Q n pr c l0) (a : FR AD I I' W) (h0 : 0 ≤ b) (h1 : b + 4 < 331) (w : ∀ k, ¬ W (b + 3) k) : RF I' AD b Q n pr c l0 :=
  fun m l h h2 h3 h4 => (a (b + 3) (by omega) (by omega) _ (w _)).trans (X m l h h2 h3 h4)
section C8
variable {fu : Nat} {sh : HS} {I : HI} {R : HR} {AD : Int → Nat} {b : Int} {Q n : Nat} {pr : Int → Nat → Int}
end C8
