/-! STAGE 2: the reference finds the best order -/
theorem SG.fr {AD : Int → Nat} {I I' : HI} {W : Int → Nat → Prop} {ρ : RHO} {r : Int} {a : Nat} (G : SG I AD ρ r a) (F : FR AD I I' W) (w0 : ¬ W 316 22) (w : ∀ i k, 324 ≤ i → i ≤ 326 → ¬ W i k) : SG I' AD ρ r a :=
  ⟨(F 316 (by decide) (by decide) 22 w0).trans G.1, G.2.1.fr F (by decide) (by decide) (fun _ => w _ _ (by decide) (by decide)), G.2.2.1.fr F (by decide) (by decide) (fun _ => w _ _ (by decide) (by decide)), G.2.2.2.fr F (by decide) (by decide) (fun _ => w _ _ (by decide) (by decide))⟩
/-- the changes laid from below t, and those from t to below f -/
def PCH (I : HI) (AD : Int → Nat) (n : Nat) (pr : Int → Nat → Int) (t : Int) (f : Nat) : Prop := ∀ (l : Int) (k : Nat), -1 ≤ l → l < n → k < n → (l < t ∨ (l = t ∧ k < f)) → I (AD 328) (12 * (l + 1) + k).toNat = iz (pr l k)
/-- the rests laid of more than c, and of c below l0 -/
def RR (I : HI) (AD : Int → Nat) (n : Nat) (pr : Int → Nat → Int) (c l0 : Nat) : Prop := ∀ m l : Nat, m < 2 ^ n → l < n → m.testBit l = true → (c < m ∨ (m = c ∧ l < l0)) → I (AD 327) (12 * m + l) = iz (RS n pr m l)
theorem PCH.fr {AD : Int → Nat} {I I' : HI} {W : Int → Nat → Prop} {n f : Nat} {t : Int} {pr : Int → Nat → Int} (X : PCH I AD n pr t f) (a : FR AD I I' W) (w : ∀ k, ¬ W 328 k) : PCH I' AD n pr t f := fun l k h1 h2 h3 h4 => (a 328 (by decide) (by decide) _ (w _)).trans (X l k h1 h2 h3 h4)
theorem RR.fr {AD : Int → Nat} {I I' : HI} {W : Int → Nat → Prop} {n c l0 : Nat} {pr : Int → Nat → Int} (X : RR I AD n pr c l0) (a : FR AD I I' W) (w : ∀ k, ¬ W 327 k) : RR I' AD n pr c l0 := fun m l h1 h2 h3 h4 => (a 327 (by decide) (by decide) _ (w _)).trans (X m l h1 h2 h3 h4)
section R8
variable {fu : Nat} {sh : HS} {I : HI} {R : HR} {AD : Int → Nat} {ρ : RHO}
section
variable {n : Nat} {pr : Int → Nat → Int}
end
end R8
