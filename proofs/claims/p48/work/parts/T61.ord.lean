/-! STAGE 2: the class's setups and its best order, as the planner keeps them -/
/-- the references of the planner -/
def PLR (R : HR) (AD : Int → Nat) : Prop := (R (AD 0) 0 = some (AD 1) ∧ R (AD 0) 4 = some (AD 28) ∧ R (AD 0) 5 = some (AD 52) ∧ R (AD 0) 6 = some (AD 2) ∧ R (AD 0) 7 = some (AD 4) ∧ R (AD 0) 8 = some (AD 6)) ∧ R (AD 0) 10 = some (AD 16) ∧ R (AD 0) 12 = some (AD 21) ∧ R (AD 0) 13 = some (AD 26)
def ROR (R : HR) (AD : Int → Nat) (b : Int) : Prop := R (AD b) 1 = some (AD (b + 1)) ∧ R (AD b) 2 = some (AD (b + 2)) ∧ R (AD b) 3 = some (AD (b + 3)) ∧ R (AD b) 4 = some (AD (b + 4))
/-- prices laid as far as the stop t, of it the steps from below f -/
def PY (I : HI) (AD : Int → Nat) (b : Int) (Q n : Nat) (pr : Int → Nat → Int) (ts t f : Nat) : Prop := I (AD b) 0 = iz (Q : Int) ∧ n ≤ Q ∧ (∀ k, k < ts → I (AD (b + 1)) k = iz (pr (-1) k)) ∧ ∀ l k : Nat, l < n → k < n → (k < t ∨ (k = t ∧ l < f)) → I (AD (b + 2)) (l * Q + k) = iz (pr (l : Int) k)
theorem PY.fr {AD : Int → Nat} {I I' : HI} {W : Int → Nat → Prop} {b : Int} {Q n ts t f : Nat} {pr : Int → Nat → Int} (X : PY I AD b Q n pr ts t f) (a : FR AD I I' W) (h0 : 0 ≤ b) (h1 : b + 4 < 331) (w0 : ¬ W b 0) (w1 : ∀ k, ¬ W (b + 1) k) (w2 : ∀ k, ¬ W (b + 2) k) : PY I' AD b Q n pr ts t f :=
  ⟨(a b (by omega) (by omega) 0 w0).trans X.1, X.2.1, fun k hk => (a (b + 1) (by omega) (by omega) k (w1 k)).trans (X.2.2.1 k hk), fun l k hl hk h => (a (b + 2) (by omega) (by omega) _ (w2 _)).trans (X.2.2.2 l k hl hk h)⟩
theorem T2.fr {AD : Int → Nat} {I I' : HI} {W : Int → Nat → Prop} {ρ : RHO} {r : Int} {n a : Nat} (T : T2 I AD ρ r n a) (F : FR AD I I' W) (w : ∀ i k, 6 ≤ i → i ≤ 13 → ¬ W i k) : T2 I' AD ρ r n a :=
  ⟨(F 6 (by decide) (by decide) 0 (w _ _ (by decide) (by decide))).trans T.1, ⟨T.2.1.1.fr F (by decide) (by decide) (fun _ => w _ _ (by decide) (by decide)), T.2.1.2.fr F (by decide) (by decide) (fun _ => w _ _ (by decide) (by decide))⟩, T.2.2.1.fr F (by decide) (by decide) (fun _ => w _ _ (by decide) (by decide)), T.2.2.2.1.fr F (by decide) (by decide) (fun _ => w _ _ (by decide) (by decide)), T.2.2.2.2.1.fr F (by decide) (by decide) (fun _ => w _ _ (by decide) (by decide)), T.2.2.2.2.2.1.fr F (by decide) (by decide) (fun _ => w _ _ (by decide) (by decide)), T.2.2.2.2.2.2.fr F (by decide) (by decide) (fun _ => w _ _ (by decide) (by decide))⟩
/-- the prices of the setups -/
def prG (ρ : RHO) (l : Int) (k : Nat) : Int := if l = -1 then stS ρ (ρ 0) k else chS ρ (ρ 0) l.toNat k
def mSet (ρ : RHO) : Nat := mG_ ρ (ρ 0) (ρ 4).toNat
theorem mSet_le {ρ : RHO} (V : VB ρ) : mSet ρ ≤ 12 := by
  have hn := V.n
  have := mG_le ρ (ρ 0) (ρ 4).toNat
  unfold mSet
  omega
def WQ (i : Int) (k : Nat) : Prop := WT i k ∨ (i = 0 ∧ k = 9)
section C10
variable {fu : Nat} {sh : HS} {I : HI} {R : HR} {AD : Int → Nat} {ρ : RHO} {p : Int → Int}
theorem c_settleSetups (S : OKS sh AD) (L : PLR R AD) (T : TR R AD) (B : BA sh I R AD 28 p ρ) (V : VB ρ) (hfu : 5000 ≤ fu) (h : I (AD 0) 9 = iz 0 ∨ (I (AD 0) 9 = iz 1 ∧ T2 I AD ρ (ρ 0) (ρ 4).toNat (ρ 4).toNat)) :
    ∃ I', fX10_settleSetups fu sh I R (AD 0) = some I' ∧ T2 I' AD ρ (ρ 0) (ρ 4).toNat (ρ 4).toNat ∧ I' (AD 0) 9 = iz 1 ∧ FR AD I I' WQ := by
  rcases h with h | ⟨h, t⟩
  · obtain ⟨J, e, t, f⟩ := c_fill (fu := fu) S T B V hfu (by decide)
    have f2 : FR AD I (u2 J (AD 0) 9 (iz 1)) WQ := FR.u2 S (by decide) (by decide) (Or.inr ⟨rfl, rfl⟩) (f.wd (fun i k z => Or.inl z))
    refine ⟨u2 J (AD 0) 9 (iz 1), ?_, t.fr (FR.u2 S (by decide) (by decide) (W := fun i _ => i = 0) (by decide) (FR.rf AD J _)) (fun i k g1 g2 => by omega), ?_, f2⟩
    · simp only [fX10_settleSetups, fX10_settleSetups_b23, if_pos (isT_of S.pl), oI_at S.pl, h, bsome, iz_lit, if_true, oR_at S.pl L.1.2.2.2.2.2, oR_at S.pl L.1.2.1, e, oP_at S.pl]
    · rw [u2_ad S (by decide) (by decide) (by decide) (by decide), if_pos ⟨rfl, rfl⟩]
  · refine ⟨I, ?_, t, h, FR.rf _ _ _⟩
    have n1 : ¬ iz 1 = iz 0 := by rw [iz_eq (by decide) (by decide) (by decide) (by decide)]; decide
    simp only [fX10_settleSetups, fX10_settleSetups_b23, if_pos (isT_of S.pl), oI_at S.pl, h, bsome, iz_lit, if_neg n1]
/-- what the class knows of the best order -/
def KO (I : HI) (AD : Int → Nat) (ρ : RHO) : Prop := I (AD 16) 5 = iz (bcD (mSet ρ) (prG ρ)) ∧ AR I AD 20 (mSet ρ) (fun k => (orS (mSet ρ) (prG ρ) k : Int))
end C10
