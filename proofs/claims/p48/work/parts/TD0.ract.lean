/-! STAGE 2: the reference reads an actor; who stands in a shot -/
section Q62
variable {fu : Nat} {sh : HS} {I I' : HI} {R : HR} {AD : Int → Nat} {f : Nat → Int} {n : Nat} {p q : PS} {ρ : RHO}
theorem RST.fr {W : Int → Nat → Prop} (C : RST I AD f n p) (F : FR AD I I' W) (h1 : ∀ k, ¬ W 320 k) (h2 : ∀ k, ¬ W 316 k) : RST I' AD f n p := by
  obtain ⟨T, w, c9, c10, c11, c12, c13, h4, c14⟩ := C
  have e : ∀ k, I' (AD 316) k = I (AD 316) k := fun k => F 316 (by decide) (by decide) k (h2 k)
  exact ⟨T.fr F h1 (h2 8), w, (e _).trans c9, (e _).trans c10, (e _).trans c11, fun t => (e _).trans (c12 t), (e _).trans c13, h4, (e _).trans c14⟩
theorem RST.u (S : OKS sh AD) (C : RST I AD f n p) (k : Nat) (x : Int32) : RST (_root_.Jvm.Pilot.@@N@@.u2 I (AD 318) k x) AD f n p :=
  C.fr (W := fun j _ => j = 318) (FR.u2 S (by decide) (by decide) rfl (FR.rf AD I _)) (fun _ => by omega) (fun _ => by omega)
end Q62
