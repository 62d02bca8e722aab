/-! STAGE 2: a board of the class by numbers; the class groups the shots -/
theorem oI_fr {sh : HS} {I I' : HI} {a t k : Nat} (h : I' a k = I a k) : oI sh I' a t k = oI sh I a t k := by unfold oI; rw [h]
theorem oA_fr {sh : HS} {I I' : HI} {a : Nat} {i : Int32} (h : I' a i.toNatClampNeg = I a i.toNatClampNeg) : oA sh I' a i = oA sh I a i := by unfold oA; rw [h]
/-- the board that begins at the number o, its shots in the order p, has the value ρ -/
def BA (sh : HS) (I : HI) (R : HR) (AD : Int → Nat) (o : Int) (p : Int → Int) (ρ : RHO) : Prop :=
  BDV sh I R (AD o) (AD (o + 1)) (AD (o + 2)) (fun c => AD (o + 3 + 3 * c)) (fun c => AD (o + 4 + 3 * c)) (fun c => AD (o + 5 + 3 * c)) (fun s => AD (o + 12 + p s)) ρ ∧ (0 ≤ o ∧ o + 24 ≤ 331) ∧ (∀ s, 0 ≤ s → s < ρ 4 → 0 ≤ p s ∧ p s < 12)
theorem BA.fr {sh : HS} {I I' : HI} {R : HR} {AD : Int → Nat} {o : Int} {p : Int → Int} {ρ : RHO} {W : Int → Nat → Prop} (B : BA sh I R AD o p ρ) (V : VB ρ) (F : FR AD I I' W) (h : ∀ i k, o ≤ i → i < o + 24 → ¬ W i k) : BA sh I' R AD o p ρ := by
  have hm := V.m
  obtain ⟨⟨b1, ⟨b2, b3, b4, b5, b6⟩, b7, b8⟩, b9, b10⟩ := B
  have e : ∀ i, o ≤ i → i < o + 24 → ∀ k, I' (AD i) k = I (AD i) k := fun i h1 h2 k => F i (by omega) (by omega) k (h i k h1 h2)
  refine ⟨⟨b1, ⟨?_, ?_, ?_, ?_, ?_⟩, fun c h0 h1 => ?_, fun s h0 h1 => ?_⟩, b9, b10⟩
  · rw [oI_fr (e _ (by omega) (by omega) _)]; exact b2
  · rw [oI_fr (e _ (by omega) (by omega) _)]; exact b3
  · rw [oI_fr (e _ (by omega) (by omega) _)]; exact b4
  · rw [oI_fr (e _ (by omega) (by omega) _)]; exact b5
  · rw [oI_fr (e _ (by omega) (by omega) _)]; exact b6
  · obtain ⟨⟨c1, c2, c3, c4, c5, c6⟩, c7⟩ := b7 c h0 h1
    refine ⟨⟨c1, c2, ?_, ?_, c5, c6⟩, fun a g0 g1 g2 => ?_⟩
    · rw [oI_fr (e _ (by omega) (by omega) _)]; exact c3
    · rw [oI_fr (e _ (by omega) (by omega) _)]; exact c4
    · obtain ⟨d1, d2⟩ := c7 a g0 g1 g2
      exact ⟨by rw [oA_fr (e _ (by omega) (by omega) _)]; exact d1, by rw [oA_fr (e _ (by omega) (by omega) _)]; exact d2⟩
  · obtain ⟨c0, c1, c2, c3, c4, c5, c6⟩ := b8 s h0 h1
    have ps := b10 s h0 h1
    exact ⟨c0, by rw [oI_fr (e _ (by omega) (by omega) _)]; exact c1, by rw [oI_fr (e _ (by omega) (by omega) _)]; exact c2, by rw [oI_fr (e _ (by omega) (by omega) _)]; exact c3, by rw [oI_fr (e _ (by omega) (by omega) _)]; exact c4, by rw [oI_fr (e _ (by omega) (by omega) _)]; exact c5, by rw [oI_fr (e _ (by omega) (by omega) _)]; exact c6⟩
def W2 (hi fi : Int) (i : Int) (_ : Nat) : Prop := i = hi ∨ i = fi
/-- the setups of the first a shots lie in the class's two rows -/
def CG (I : HI) (AD : Int → Nat) (hi fi : Int) (ρ : RHO) (r : Int) (a : Nat) : Prop := AR I AD fi (mG_ ρ r a) (fun k => (fG ρ r a k : Int)) ∧ AR I AD hi a (fun t => (hG ρ r a t : Int))
section C4
variable {fu : Nat} {sh : HS} {I : HI} {R : HR} {AD : Int → Nat} {ρ : RHO} {o : Int} {p : Int → Int} {hi fi : Int}
theorem c_grp_in (S : OKS sh AD) (B : BA sh I R AD o p ρ) (V : VB ρ) {r : Int} (hr : 0 ≤ r) (hr2 : r ≤ 99) (hfk : sh (AD fi) = some (20, 12)) {a : Nat} (ha : (a : Int) < ρ 4) (hf : AR I AD fi (mG_ ρ r a) (fun k => (fG ρ r a k : Int)))
    (k59 : HI → Nat → Int32 → Nat → Nat → Int32 → Int32 → Int32 → Option (Int32 × HI)) : ∀ d n k : Nat, k + d = mG_ ρ r a → d < n →
    fX7_group_l27 fu sh R k59 n I (AD o) (iz r) (AD hi) (AD fi) (iz (mG_ ρ r a : Int)) (iz (a : Int)) (AD (o + 12 + p a)) (iz (k : Int)) = k59 I (AD o) (iz r) (AD hi) (AD fi) (iz (mG_ ρ r a : Int)) (iz (a : Int)) (iz (fsN (fun k => nearS ρ a (fG ρ r a k) r) k d : Int)) := by
  have hn := V.n
  have ml := mG_le ρ r a
  have D := B.1
  intro d
  induction d with
  | zero =>
    intro n k hk hn2
    obtain ⟨n, rfl⟩ : ∃ j, n = j + 1 := ⟨n - 1, by omega⟩
    show fX7_group_b27 fu sh R (fX7_group_l27 fu sh R k59 n) k59 _ _ _ _ _ _ _ _ _ = _
    simp only [fX7_group_b27]
    rw [if_pos (by rw [iz_le (by omega) (by omega) (by omega) (by omega)]; omega)]
    rfl
  | succ d ih =>
    intro n k hk hn2
    obtain ⟨n, rfl⟩ : ∃ j, n = j + 1 := ⟨n - 1, by omega⟩
    have q := ih n (k + 1) (by omega) (by omega)
    have ea : iz ((k + 1 : Nat) : Int) = iz (k : Int) + iz 1 := by rw [iz_add]; rfl
    have fl := fG_lt ρ r a k (by omega)
    have hfv := hf k (by omega)
    simp only at hfv
    obtain ⟨⟨e1, -⟩, -⟩ := D.2.2.2 (fG ρ r a k : Int) (by omega) (by omega)
    show fX7_group_b27 fu sh R (fX7_group_l27 fu sh R k59 n) k59 _ _ _ _ _ _ _ _ _ = _
    simp only [fX7_group_b27, D.1.2.2, bsome, iz_lit]
    rw [if_neg (by rw [iz_le (by omega) (by omega) (by omega) (by omega)]; omega), oA_nat hfk (by omega) (by decide), bsome, hfv, e1, bsome, c_near D V (show 0 ≤ (a : Int) by omega) ha (show 0 ≤ (fG ρ r a k : Int) by omega) (by omega) hr hr2, bsome]
    simp only [bz_zero]
    have e : fsN (fun k => nearS ρ a (fG ρ r a k) r) k (d + 1) = if nearS ρ a (fG ρ r a k) r = true then k else fsN (fun k => nearS ρ a (fG ρ r a k) r) (k + 1) d := rfl
    rw [e]
    by_cases j : nearS ρ a (fG ρ r a k) r = true
    · rw [if_neg (by rw [j]; decide), if_pos j]
    · rw [if_pos (by simpa using j), if_neg j, ← ea]
      exact q
theorem c_grp_step (S : OKS sh AD) (V : VB ρ) {r : Int} (h0 : 0 ≤ hi) (h1 : hi < 331) (h2 : 0 ≤ fi) (h3 : fi < 331) (hne : ¬ hi = fi) (hhk : sh (AD hi) = some (20, 12)) (hfk : sh (AD fi) = some (20, 12)) {a : Nat} (ha : (a : Int) < ρ 4) (G : CG I AD hi fi ρ r a) (B : Nat) (k6 : HI → Nat → Int32 → Nat → Nat → Int32 → Int32 → Option (Int32 × HI)) :
    ∃ I1, fX7_group_b59 fu sh R k6 I B (iz r) (AD hi) (AD fi) (iz (mG_ ρ r a : Int)) (iz (a : Int)) (iz (jG ρ r a : Int)) = k6 I1 B (iz r) (AD hi) (AD fi) (iz (mG_ ρ r (a + 1) : Int)) (iz ((a + 1 : Nat) : Int)) ∧ CG I1 AD hi fi ρ r (a + 1) ∧ FR AD I I1 (W2 hi fi) := by
  have hn := V.n
  have ml := mG_le ρ r a
  have jl := jG_le ρ r a
  obtain ⟨g2, g4⟩ := G
  have ea : iz (a : Int) + iz 1 = iz ((a + 1 : Nat) : Int) := by rw [iz_add]; rfl
  simp only [fX7_group_b59, fX7_group_b75, iz_lit]
  by_cases k : jG ρ r a = mG_ ρ r a
  · rw [k, if_pos rfl, oS_nat hfk (by omega) (by decide), bsome, oS_nat hhk (by omega) (by decide), bsome, ea, iz_add]
    have e2 : (mG_ ρ r a : Int) + 1 = (mG_ ρ r (a + 1) : Int) := by rw [mG_s, if_pos k]; rfl
    rw [e2]
    refine ⟨_, rfl, ⟨?_, ?_⟩, ?_⟩
    · have p1 := (AR.put S h2 h3 g2 (a : Int) (n' := mG_ ρ r a + 1) (j := mG_ ρ r a) (fun t _ _ => by omega)).off S h2 h3 (i' := hi) h0 h1 (fun z => hne z.symm) a (iz (mG_ ρ r a : Int))
      intro t ht
      rw [mG_s, if_pos k] at ht
      show _ = iz (fG ρ r (a + 1) t : Int)
      rw [p1 t ht, fG_s, if_pos k]
      unfold up
      by_cases z : t = mG_ ρ r a
      · rw [if_pos z, if_pos z]
      · rw [if_neg z, if_neg z]
    · have p2 := AR.put S h0 h1 (g4.off S h0 h1 (i' := fi) h2 h3 hne (mG_ ρ r a) (iz (a : Int))) (mG_ ρ r a : Int) (n' := a + 1) (j := a) (fun t _ _ => by omega)
      intro t ht
      show _ = iz (hG ρ r (a + 1) t : Int)
      rw [p2 t ht, hG_s, k]
      unfold up
      by_cases z : t = a
      · rw [if_pos z, if_pos z]
      · rw [if_neg z, if_neg z]
    · exact FR.u2 S h0 h1 (Or.inl rfl) (FR.u2 S h2 h3 (Or.inr rfl) (FR.rf AD I _))
  · rw [if_neg (by rw [iz_eq (by omega) (by omega) (by omega) (by omega)]; omega), oS_nat hhk (by omega) (by decide), bsome, ea]
    have e2 : (mG_ ρ r a : Int) = (mG_ ρ r (a + 1) : Int) := by rw [mG_s, if_neg k]
    rw [e2]
    refine ⟨_, rfl, ⟨?_, ?_⟩, ?_⟩
    · have p1 := g2.off S h2 h3 (i' := hi) h0 h1 (fun z => hne z.symm) a (iz (jG ρ r a : Int))
      intro t ht
      rw [mG_s, if_neg k] at ht
      show _ = iz (fG ρ r (a + 1) t : Int)
      rw [p1 t ht, fG_s, if_neg k]
    · have p2 := AR.put S h0 h1 g4 (jG ρ r a : Int) (n' := a + 1) (j := a) (fun t _ _ => by omega)
      intro t ht
      show _ = iz (hG ρ r (a + 1) t : Int)
      rw [p2 t ht, hG_s]
      unfold up
      by_cases z : t = a
      · rw [if_pos z, if_pos z]
      · rw [if_neg z, if_neg z]
    · exact FR.u2 S h0 h1 (Or.inl rfl) (FR.rf AD I _)
theorem c_grp_out (S : OKS sh AD) (V : VB ρ) (hfu : 5000 ≤ fu) {r : Int} (hr : 0 ≤ r) (hr2 : r ≤ 99) (h0 : 0 ≤ hi) (h1 : hi < 331) (h2 : 0 ≤ fi) (h3 : fi < 331) (hne : ¬ hi = fi) (hhk : sh (AD hi) = some (20, 12)) (hfk : sh (AD fi) = some (20, 12)) (ho : ¬ (o ≤ hi ∧ hi < o + 24) ∧ ¬ (o ≤ fi ∧ fi < o + 24)) : ∀ d n a : Nat, a + d = (ρ 4).toNat → d < n → ∀ I : HI, BA sh I R AD o p ρ → CG I AD hi fi ρ r a →
    ∃ I', fX7_group_l6 fu sh R n I (AD o) (iz r) (AD hi) (AD fi) (iz (mG_ ρ r a : Int)) (iz (a : Int)) = some (iz (mG_ ρ r (ρ 4).toNat : Int), I') ∧ CG I' AD hi fi ρ r (ρ 4).toNat ∧ FR AD I I' (W2 hi fi) := by
  have hn := V.n
  intro d
  induction d with
  | zero =>
    intro n a ha hn2 I B G
    obtain ⟨n, rfl⟩ : ∃ j, n = j + 1 := ⟨n - 1, by omega⟩
    have e : a = (ρ 4).toNat := by omega
    subst e
    refine ⟨I, ?_, G, FR.rf _ _ _⟩
    show fX7_group_b6 fu sh R (fX7_group_l6 fu sh R n) _ _ _ _ _ _ _ = _
    simp only [fX7_group_b6, B.1.2.1.2.2.2.2, bsome]
    rw [if_pos (by rw [iz_le (by omega) (by omega) (by omega) (by omega)]; omega)]
  | succ d ih =>
    intro n a ha hn2 I B G
    obtain ⟨n, rfl⟩ : ∃ j, n = j + 1 := ⟨n - 1, by omega⟩
    have ml := mG_le ρ r a
    obtain ⟨I1, e1, G1, F1⟩ := c_grp_step (fu := fu) (R := R) S V h0 h1 h2 h3 hne hhk hfk (show (a : Int) < ρ 4 by omega) G (AD o) (fX7_group_l6 fu sh R n)
    obtain ⟨I2, e2, G2, F2⟩ := ih n (a + 1) (by omega) (by omega) I1 (B.fr V F1 (fun i k z1 z2 z => by rcases z with z | z <;> omega)) G1
    refine ⟨I2, ?_, G2, F1.tr F2⟩
    obtain ⟨⟨e3, -⟩, -⟩ := B.1.2.2.2 (a : Int) (by omega) (by omega)
    have hz : iz 0 = iz ((0 : Nat) : Int) := rfl
    show fX7_group_b6 fu sh R (fX7_group_l6 fu sh R n) _ _ _ _ _ _ _ = _
    simp only [fX7_group_b6, B.1.2.1.2.2.2.2, B.1.1.2.2, e3, bsome, iz_lit]
    rw [if_neg (by rw [iz_le (by omega) (by omega) (by omega) (by omega)]; omega), hz, c_grp_in S B V hr hr2 hfk (show (a : Int) < ρ 4 by omega) G.1 _ (mG_ ρ r a) fu 0 (by omega) (by omega)]
    exact e1.trans e2
/-- the class's grouping -/
theorem c_group (S : OKS sh AD) (B : BA sh I R AD o p ρ) (V : VB ρ) (hfu : 5000 ≤ fu) {r : Int} (hr : 0 ≤ r) (hr2 : r ≤ 99) (h0 : 0 ≤ hi) (h1 : hi < 331) (h2 : 0 ≤ fi) (h3 : fi < 331) (hne : ¬ hi = fi) (hhk : sh (AD hi) = some (20, 12)) (hfk : sh (AD fi) = some (20, 12)) (ho : ¬ (o ≤ hi ∧ hi < o + 24) ∧ ¬ (o ≤ fi ∧ fi < o + 24)) :
    ∃ I', fX7_group fu sh I R (AD o) (iz r) (AD hi) (AD fi) = some (iz (mG_ ρ r (ρ 4).toNat : Int), I') ∧ CG I' AD hi fi ρ r (ρ 4).toNat ∧ FR AD I I' (W2 hi fi) := by
  have hn := V.n
  obtain ⟨I', e, G, F⟩ := c_grp_out (fu := fu) (o := o) (p := p) (R := R) S V hfu hr hr2 h0 h1 h2 h3 hne hhk hfk ho (ρ 4).toNat fu 0 (by omega) (by omega) I B ⟨fun j hj => by have : mG_ ρ r 0 = 0 := rfl; omega, fun j hj => by omega⟩
  refine ⟨I', ?_, G, F⟩
  simp only [fX7_group, iz_lit]
  exact e
end C4
