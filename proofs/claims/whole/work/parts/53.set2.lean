/-! STAGE 2: the reference lays the setups -/
def Wset (i : Int) (k : Nat) : Prop := i = 324 ∨ i = 325 ∨ i = 326 ∨ (i = 316 ∧ k = 22)
/-- the setups of the first a shots lie in the reference's rows -/
def SG (I : HI) (AD : Int → Nat) (ρ : RHO) (r : Int) (a : Nat) : Prop := I (AD 316) 22 = iz (mG_ ρ r a : Int) ∧ AR I AD 325 (mG_ ρ r a) (fun k => (fG ρ r a k : Int)) ∧ AR I AD 326 (mG_ ρ r a) (fun k => (qG ρ r a k : Int)) ∧ AR I AD 324 a (fun t => (hG ρ r a t : Int))
section R6
variable {fu : Nat} {sh : HS} {I : HI} {R : HR} {AD : Int → Nat} {ρ : RHO}
theorem r_set_in (S : OKS sh AD) (M : MR R AD) (H : RW I AD ρ) (V : VB ρ) {r : Int} (hr : 0 ≤ r) (hr2 : r ≤ 99) {a : Nat} (ha : (a : Int) < ρ 4) (hm : I (AD 316) 22 = iz (mG_ ρ r a : Int)) (hf : AR I AD 325 (mG_ ρ r a) (fun k => (fG ρ r a k : Int)))
    (k48 : HI → Nat → Int32 → Int32 → Int32 → Option (Int32 × HI)) : ∀ d n k : Nat, k + d = mG_ ρ r a → d < n →
    fX11_setupsNow_l19 fu sh R k48 n I (AD 316) (iz r) (iz (a : Int)) (iz (k : Int)) = k48 I (AD 316) (iz r) (iz (a : Int)) (iz (fsN (fun k => nearS ρ a (fG ρ r a k) r) k d : Int)) := by
  have hn := V.n
  have ml := mG_le ρ r a
  intro d
  induction d with
  | zero =>
    intro n k hk hn2
    obtain ⟨n, rfl⟩ : ∃ j, n = j + 1 := ⟨n - 1, by omega⟩
    show fX11_setupsNow_b19 fu sh R (fX11_setupsNow_l19 fu sh R k48 n) k48 _ _ _ _ _ = _
    simp only [fX11_setupsNow_b19, oI_at S.md, hm, bsome]
    rw [if_pos (by rw [iz_le (by omega) (by omega) (by omega) (by omega)]; omega)]
    rfl
  | succ d ih =>
    intro n k hk hn2
    obtain ⟨n, rfl⟩ : ∃ j, n = j + 1 := ⟨n - 1, by omega⟩
    have q := ih n (k + 1) (by omega) (by omega)
    have ea : iz ((k + 1 : Nat) : Int) = iz (k : Int) + iz 1 := by rw [iz_add]; rfl
    have fl := fG_lt ρ r a k (by omega)
    have hfk := hf k (by omega)
    simp only at hfk
    show fX11_setupsNow_b19 fu sh R (fX11_setupsNow_l19 fu sh R k48 n) k48 _ _ _ _ _ = _
    simp only [fX11_setupsNow_b19, oI_at S.md, hm, bsome, iz_lit, oR_at S.md M.2.2.1]
    rw [if_neg (by rw [iz_le (by omega) (by omega) (by omega) (by omega)]; omega), oA_nat (S.at (i := 325) (t := 20) (n := 12) rfl (by decide) (by decide)) (by omega) (by decide), bsome, hfk, r_near S M H V (by omega) ha (by omega) (by omega) hr hr2, bsome]
    simp only [bz_zero]
    have e : fsN (fun k => nearS ρ a (fG ρ r a k) r) k (d + 1) = if nearS ρ a (fG ρ r a k) r = true then k else fsN (fun k => nearS ρ a (fG ρ r a k) r) (k + 1) d := rfl
    rw [e]
    by_cases j : nearS ρ a (fG ρ r a k) r = true
    · rw [if_neg (by rw [j]; decide), if_pos j]
    · rw [if_pos (by simpa using j), if_neg j, ← ea]
      exact q
theorem r_set_b80 (S : OKS sh AD) (M : MR R AD) {a k : Nat} (ha : a < 12) (hk : k < 12) {q : Nat} (hq : I (AD 326) k = iz (q : Int)) (x : Int32) (k7 : HI → Nat → Int32 → Int32 → Option (Int32 × HI)) :
    fX11_setupsNow_b80 fu sh R k7 I (AD 316) x (iz (a : Int)) (iz (k : Int)) = k7 (u2 (u2 I (AD 326) k (iz ((q ||| 2 ^ a : Nat) : Int))) (AD 324) a (iz (k : Int))) (AD 316) x (iz (a : Int) + iz 1) := by
  simp only [fX11_setupsNow_b80, oR_at S.md M.2.2.2.1, oR_at S.md M.2.1, bsome, iz_lit, oA_nat (S.at (i := 326) (t := 20) (n := 12) rfl (by decide) (by decide)) hk (by decide), hq, iz_shlz (show a < 31 by omega), iz_orN, oS_nat (S.at (i := 326) (t := 20) (n := 12) rfl (by decide) (by decide)) hk (by decide), oS_nat (S.at (i := 324) (t := 20) (n := 12) rfl (by decide) (by decide)) ha (by decide)]
theorem r_set_step (S : OKS sh AD) (M : MR R AD) (V : VB ρ) {r : Int} {a : Nat} (ha : (a : Int) < ρ 4) (G : SG I AD ρ r a) (k7 : HI → Nat → Int32 → Int32 → Option (Int32 × HI)) :
    ∃ I1, fX11_setupsNow_b48 fu sh R k7 I (AD 316) (iz r) (iz (a : Int)) (iz (jG ρ r a : Int)) = k7 I1 (AD 316) (iz r) (iz ((a + 1 : Nat) : Int)) ∧ SG I1 AD ρ r (a + 1) ∧ FR AD I I1 Wset := by
  have hn := V.n
  have ml := mG_le ρ r a
  have jl := jG_le ρ r a
  obtain ⟨g1, g2, g3, g4⟩ := G
  have ea : iz (a : Int) + iz 1 = iz ((a + 1 : Nat) : Int) := by rw [iz_add]; rfl
  simp only [fX11_setupsNow_b48, oI_at S.md, g1, bsome, iz_lit, oR_at S.md M.2.2.1, oR_at S.md M.2.2.2.1]
  by_cases k : jG ρ r a = mG_ ρ r a
  · rw [k, if_pos rfl, oS_nat (S.at (i := 325) (t := 20) (n := 12) rfl (by decide) (by decide)) (by omega) (by decide), bsome, oS_nat (S.at (i := 326) (t := 20) (n := 12) rfl (by decide) (by decide)) (by omega) (by decide), bsome]
    have e1 : u2 (u2 I (AD 325) (mG_ ρ r a) (iz (a : Int))) (AD 326) (mG_ ρ r a) (iz 0) (AD 316) 22 = iz (mG_ ρ r a : Int) := by
      rw [u2_ne S (by decide) (by decide) (by decide) (by decide) (by decide), u2_ne S (by decide) (by decide) (by decide) (by decide) (by decide)]
      exact g1
    rw [e1, iz_add, oP_at S.md, bsome]
    have e2 : (mG_ ρ r a : Int) + 1 = ((mG_ ρ r a + 1 : Nat) : Int) := by omega
    rw [e2]
    generalize hI1 : u2 (u2 (u2 I (AD 325) (mG_ ρ r a) (iz (a : Int))) (AD 326) (mG_ ρ r a) (iz 0)) (AD 316) 22 (iz ((mG_ ρ r a + 1 : Nat) : Int)) = I1
    have e3 : I1 (AD 326) (mG_ ρ r a) = iz ((0 : Nat) : Int) := by
      rw [← hI1, u2_ne S (by decide) (by decide) (by decide) (by decide) (by decide), u2_ad S (by decide) (by decide) (by decide) (by decide), if_pos ⟨rfl, rfl⟩]
      rfl
    rw [r_set_b80 S M (show a < 12 by omega) (show mG_ ρ r a < 12 by omega) e3, ea]
    refine ⟨_, rfl, ⟨?_, ?_, ?_, ?_⟩, ?_⟩
    · rw [u2_ne S (by decide) (by decide) (by decide) (by decide) (by decide), u2_ne S (by decide) (by decide) (by decide) (by decide) (by decide), ← hI1, u2_ad S (by decide) (by decide) (by decide) (by decide), if_pos ⟨rfl, rfl⟩, mG_s, if_pos k]
    · have p1 : AR I1 AD 325 (mG_ ρ r a + 1) (up (fun k => (fG ρ r a k : Int)) (mG_ ρ r a) (a : Int)) := by
        rw [← hI1]
        exact ((AR.put S (by decide) (by decide) g2 (a : Int) (n' := mG_ ρ r a + 1) (j := mG_ ρ r a) (fun t _ _ => by omega)).off S (by decide) (by decide) (by decide) (by decide) (by decide) _ _).off S (by decide) (by decide) (by decide) (by decide) (by decide) _ _
      have p2 := (p1.off S (by decide) (by decide) (i' := 326) (by decide) (by decide) (by decide) (mG_ ρ r a) (iz ((0 ||| 2 ^ a : Nat) : Int))).off S (by decide) (by decide) (i' := 324) (by decide) (by decide) (by decide) a (iz (mG_ ρ r a : Int))
      intro t ht
      rw [mG_s, if_pos k] at ht
      show _ = iz (fG ρ r (a + 1) t : Int)
      rw [p2 t ht, fG_s, if_pos k]
      unfold up
      by_cases z : t = mG_ ρ r a
      · rw [if_pos z, if_pos z]
      · rw [if_neg z, if_neg z]
    · have p1 : AR I1 AD 326 (mG_ ρ r a + 1) (up (fun k => (qG ρ r a k : Int)) (mG_ ρ r a) 0) := by
        rw [← hI1]
        exact (AR.put S (by decide) (by decide) (g3.off S (by decide) (by decide) (i' := 325) (by decide) (by decide) (by decide) _ _) 0 (n' := mG_ ρ r a + 1) (j := mG_ ρ r a) (fun t _ _ => by omega)).off S (by decide) (by decide) (by decide) (by decide) (by decide) _ _
      have p2 := (AR.put S (by decide) (by decide) p1 ((0 ||| 2 ^ a : Nat) : Int) (n' := mG_ ρ r a + 1) (j := mG_ ρ r a) (fun t h _ => h)).off S (by decide) (by decide) (i' := 324) (by decide) (by decide) (by decide) a (iz (mG_ ρ r a : Int))
      intro t ht
      rw [mG_s, if_pos k] at ht
      show _ = iz (qG ρ r (a + 1) t : Int)
      rw [p2 t ht, qG_s, k]
      unfold up
      by_cases z : t = mG_ ρ r a
      · rw [if_pos z, if_pos z, z, qG_new]
      · rw [if_neg z, if_neg z, if_neg z]
    · have p1 : AR I1 AD 324 a (fun t => (hG ρ r a t : Int)) := by
        rw [← hI1]
        exact ((g4.off S (by decide) (by decide) (by decide) (by decide) (by decide) _ _).off S (by decide) (by decide) (by decide) (by decide) (by decide) _ _).off S (by decide) (by decide) (by decide) (by decide) (by decide) _ _
      have p2 := AR.put S (by decide) (by decide) (p1.off S (by decide) (by decide) (i' := 326) (by decide) (by decide) (by decide) (mG_ ρ r a) (iz ((0 ||| 2 ^ a : Nat) : Int))) (mG_ ρ r a : Int) (n' := a + 1) (j := a) (fun t _ _ => by omega)
      intro t ht
      show _ = iz (hG ρ r (a + 1) t : Int)
      rw [p2 t ht, hG_s, k]
      unfold up
      by_cases z : t = a
      · rw [if_pos z, if_pos z]
      · rw [if_neg z, if_neg z]
    · rw [← hI1]
      exact FR.u2 S (by decide) (by decide) (Or.inl rfl) (FR.u2 S (by decide) (by decide) (Or.inr (Or.inr (Or.inl rfl))) (FR.u2 S (by decide) (by decide) (Or.inr (Or.inr (Or.inr ⟨rfl, rfl⟩))) (FR.u2 S (by decide) (by decide) (Or.inr (Or.inr (Or.inl rfl))) (FR.u2 S (by decide) (by decide) (Or.inr (Or.inl rfl)) (FR.rf AD I Wset)))))
  · rw [if_neg (by rw [iz_eq (by omega) (by omega) (by omega) (by omega)]; omega)]
    have kl : jG ρ r a < mG_ ρ r a := by omega
    rw [r_set_b80 S M (show a < 12 by omega) (show jG ρ r a < 12 by omega) (g3 _ kl), ea]
    refine ⟨_, rfl, ⟨?_, ?_, ?_, ?_⟩, ?_⟩
    · rw [u2_ne S (by decide) (by decide) (by decide) (by decide) (by decide), u2_ne S (by decide) (by decide) (by decide) (by decide) (by decide), mG_s, if_neg k]
      exact g1
    · have p2 := (g2.off S (by decide) (by decide) (i' := 326) (by decide) (by decide) (by decide) (jG ρ r a) (iz ((qG ρ r a (jG ρ r a) ||| 2 ^ a : Nat) : Int))).off S (by decide) (by decide) (i' := 324) (by decide) (by decide) (by decide) a (iz (jG ρ r a : Int))
      intro t ht
      rw [mG_s, if_neg k] at ht
      show _ = iz (fG ρ r (a + 1) t : Int)
      rw [p2 t ht, fG_s, if_neg k]
    · have p2 := (AR.put S (by decide) (by decide) g3 ((qG ρ r a (jG ρ r a) ||| 2 ^ a : Nat) : Int) (n' := mG_ ρ r a) (j := jG ρ r a) (fun t h _ => h)).off S (by decide) (by decide) (i' := 324) (by decide) (by decide) (by decide) a (iz (jG ρ r a : Int))
      intro t ht
      rw [mG_s, if_neg k] at ht
      show _ = iz (qG ρ r (a + 1) t : Int)
      rw [p2 t ht, qG_s]
      unfold up
      by_cases z : t = jG ρ r a
      · rw [if_pos z, if_pos z, z]
      · rw [if_neg z, if_neg z]
    · have p2 := AR.put S (by decide) (by decide) (g4.off S (by decide) (by decide) (i' := 326) (by decide) (by decide) (by decide) (jG ρ r a) (iz ((qG ρ r a (jG ρ r a) ||| 2 ^ a : Nat) : Int))) (jG ρ r a : Int) (n' := a + 1) (j := a) (fun t _ _ => by omega)
      intro t ht
      show _ = iz (hG ρ r (a + 1) t : Int)
      rw [p2 t ht, hG_s]
      unfold up
      by_cases z : t = a
      · rw [if_pos z, if_pos z]
      · rw [if_neg z, if_neg z]
    · exact FR.u2 S (by decide) (by decide) (Or.inl rfl) (FR.u2 S (by decide) (by decide) (Or.inr (Or.inr (Or.inl rfl))) (FR.rf AD I Wset))
theorem r_set_out (S : OKS sh AD) (M : MR R AD) (V : VB ρ) (hfu : 5000 ≤ fu) {r : Int} (hr : 0 ≤ r) (hr2 : r ≤ 99) : ∀ d n a : Nat, a + d = (ρ 4).toNat → d < n → ∀ I : HI, RW I AD ρ → SG I AD ρ r a →
    ∃ I', fX11_setupsNow_l7 fu sh R n I (AD 316) (iz r) (iz (a : Int)) = some (iz (mG_ ρ r (ρ 4).toNat : Int), I') ∧ SG I' AD ρ r (ρ 4).toNat ∧ FR AD I I' Wset := by
  have hn := V.n
  intro d
  induction d with
  | zero =>
    intro n a ha hn2 I H G
    obtain ⟨n, rfl⟩ : ∃ j, n = j + 1 := ⟨n - 1, by omega⟩
    have e : a = (ρ 4).toNat := by omega
    subst e
    refine ⟨I, ?_, G, FR.rf _ _ _⟩
    show fX11_setupsNow_b7 fu sh R (fX11_setupsNow_l7 fu sh R n) _ _ _ _ = _
    simp only [fX11_setupsNow_b7, oR_at S.md M.1.1, bsome, iz_lit, r_row S M H (by decide : (0 : Int) ≤ 4) (by decide : (4 : Int) < 119), oI_at S.md, G.1]
    rw [if_pos (by rw [iz_le (by omega) (by omega) (by omega) (by omega)]; omega)]
  | succ d ih =>
    intro n a ha hn2 I H G
    obtain ⟨n, rfl⟩ : ∃ j, n = j + 1 := ⟨n - 1, by omega⟩
    have ml := mG_le ρ r a
    obtain ⟨I1, e1, G1, F1⟩ := r_set_step (fu := fu) S M V (show (a : Int) < ρ 4 by omega) G (fX11_setupsNow_l7 fu sh R n)
    obtain ⟨I2, e2, G2, F2⟩ := ih n (a + 1) (by omega) (by omega) I1 (H.fr F1 (fun k z => by rcases z with z | z | z | z <;> omega)) G1
    refine ⟨I2, ?_, G2, F1.tr F2⟩
    show fX11_setupsNow_b7 fu sh R (fX11_setupsNow_l7 fu sh R n) _ _ _ _ = _
    have hz : iz 0 = iz ((0 : Nat) : Int) := rfl
    simp only [fX11_setupsNow_b7, oR_at S.md M.1.1, bsome, iz_lit, r_row S M H (by decide : (0 : Int) ≤ 4) (by decide : (4 : Int) < 119)]
    rw [if_neg (by rw [iz_le (by omega) (by omega) (by omega) (by omega)]; omega), hz, r_set_in S M H V hr hr2 (show (a : Int) < ρ 4 by omega) G.1 G.2.1 _ (mG_ ρ r a) fu 0 (by omega) (by omega)]
    exact e1.trans e2
/-- the reference's setups -/
theorem r_setups (S : OKS sh AD) (M : MR R AD) (H : RW I AD ρ) (V : VB ρ) (hfu : 5000 ≤ fu) {r : Int} (hr : 0 ≤ r) (hr2 : r ≤ 99) :
    ∃ I', fX11_setupsNow fu sh I R (AD 316) (iz r) = some (iz (mG_ ρ r (ρ 4).toNat : Int), I') ∧ SG I' AD ρ r (ρ 4).toNat ∧ FR AD I I' Wset := by
  have hn := V.n
  have F0 : FR AD I (u2 I (AD 316) 22 (iz 0)) Wset := FR.u2 S (by decide) (by decide) (Or.inr (Or.inr (Or.inr ⟨rfl, rfl⟩))) (FR.rf AD I Wset)
  obtain ⟨I', e, G, F⟩ := r_set_out (fu := fu) S M V hfu hr hr2 (ρ 4).toNat fu 0 (by omega) (by omega) (u2 I (AD 316) 22 (iz 0)) (H.fr F0 (fun k z => by rcases z with z | z | z | z <;> omega)) ⟨by rw [u2_ad S (by decide) (by decide) (by decide) (by decide), if_pos ⟨rfl, rfl⟩]; rfl, fun j hj => by have : mG_ ρ r 0 = 0 := rfl; omega, fun j hj => by have : mG_ ρ r 0 = 0 := rfl; omega, fun j hj => by omega⟩
  refine ⟨I', ?_, G, F0.tr F⟩
  simp only [fX11_setupsNow, if_pos S.i, oP_at S.md, bsome, iz_lit]
  exact e
end R6
