/-! STAGE 2: the words of a text, the reference -/
def TXM (I : HI) (AD : Int → Nat) (f : Nat → Int) (n : Nat) : Prop := n ≤ 800 ∧ AR I AD 320 n f ∧ (∀ k, k < n → 0 ≤ f k ∧ f k ≤ 255) ∧ I (AD 316) 8 = iz (n : Int)
def RST (I : HI) (AD : Int → Nat) (f : Nat → Int) (n : Nat) (p : PS) : Prop := TXM I AD f n ∧ WfP f n p ∧ I (AD 316) 9 = iz (p.en : Int) ∧ I (AD 316) 10 = iz (p.st : Int) ∧ I (AD 316) 11 = iz (p.tk : Int) ∧ (p.tk = 3 → I (AD 316) 12 = iz (nmP f p)) ∧ I (AD 316) 13 = iz (p.er : Int) ∧ p.er ≤ 4 ∧ I (AD 316) 14 = iz (if p.er = 0 then -1 else (p.st : Int))
section Q53
variable {fu : Nat} {sh : HS} {I I' : HI} {R : HR} {AD : Int → Nat} {f : Nat → Int} {n : Nat} {p : PS}
theorem TXM.fr {W : Int → Nat → Prop} (H : TXM I AD f n) (F : FR AD I I' W) (h : ∀ k, ¬ W 320 k) (h2 : ¬ W 316 8) : TXM I' AD f n := ⟨H.1, H.2.1.fr F (by decide) (by decide) h, H.2.2.1, (F 316 (by decide) (by decide) 8 h2).trans H.2.2.2⟩
end Q53
