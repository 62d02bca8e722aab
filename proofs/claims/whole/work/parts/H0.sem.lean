/-! STAGE 4: what a call of the class and the same call of the reference do to the state that both keep -/
def RES (K J : Nat → Nat) (q : Nat) (as : List Value) (sh : HS) (I : HI) (R : HR) (o : VO) (I' : HI) (R' : HR) : Prop := V K J q 0 (ent (mL q) as) [] sh I R (0, 0) (fun o' sh' I'' R'' => o' = o ∧ sh' = sh ∧ I'' = I' ∧ R'' = R')
def SINV (sh : HS) (AD : Int → Nat) (I : HI) (R : HR) : Prop := ∃ (σ : STT) (P : Int → Int → Int), OKS sh AD ∧ VST σ ∧ CIB I R AD P σ ∧ CKN I AD σ ∧ RIB I R AD σ
def hs1 : List (String × Int) := [("java/lang/IllegalStateException", 1)]
def hs2 : List (String × Int) := [("java/lang/IllegalStateException", 1), ("java/lang/IllegalArgumentException", 2)]
def hs3 : List (String × Int) := [("java/lang/IllegalStateException", 1), ("java/lang/IllegalArgumentException", 2), ("java/util/NoSuchElementException", 3)]
def hsT : List (String × Int) := [("java/lang/IllegalArgumentException", 1)]
/-- class and reference agree: a value and nothing thrown, or what is thrown and its number -/
def AGR {α : Type} (hs : List (String × Int)) (o : α ⊕ String) (v : α) (t : Int32) : Prop := match o with
  | .inl x => t = 0 ∧ v = x
  | .inr E => (∃ z, (E, z) ∈ hs) ∧ (∀ z, (E, z) ∈ hs → t = Int32.ofInt z) ∧ ¬ t = 0
def STEP (K J : Nat → Nat) (sh : HS) (AD : Int → Nat) (I : HI) (R : HR) (q1 q2 : Nat) (as : List Value) (hs : List (String × Int)) : Prop := ∃ (o : Int32 ⊕ String) (v : Int32) (I1 I2 : HI) (R1 : HR), RES K J q1 (.ref (AD 0) :: as) sh I R (voI o) I1 R1 ∧ RES K J q2 (.ref (AD 316) :: as) sh I1 R1 (.inl (some (.int v))) I2 R1 ∧ AGR hs o v (I2 (AD 316) 5) ∧ SINV sh AD I2 R1
/-- an answer whose exception is among the first n -/
def AX {α : Type} (n : Nat) (a : α ⊕ Nat) : Prop := match a with
  | .inl _ => True
  | .inr e => 1 ≤ e ∧ e ≤ n
def hsN (n : Nat) : List (String × Int) := if n = 1 then hs1 else if n = 2 then hs2 else hs3
theorem agr_of {n : Nat} (hn : n = 1 ∨ n = 2 ∨ n = 3) {a : Int ⊕ Nat} (h : AX n a) : AGR (hsN n) (cOut a) (rVal a) (rThr a) := by
  cases a with
  | inl v => exact ⟨rfl, rfl⟩
  | inr e =>
    obtain ⟨h1, h2⟩ := h
    rcases hn with rfl | rfl | rfl
    · have : e = 1 := by omega
      subst this
      refine ⟨⟨1, by decide⟩, fun z hz => ?_, by decide⟩
      rcases List.mem_singleton.mp hz with q
      cases q
      rfl
    · have : e = 1 ∨ e = 2 := by omega
      rcases this with rfl | rfl
      · refine ⟨⟨1, by decide⟩, fun z hz => ?_, by decide⟩
        have hz : (exN 1, z) ∈ hs2 := hz
        simp [hs2, exN] at hz
        rw [hz]; rfl
      · refine ⟨⟨2, by decide⟩, fun z hz => ?_, by decide⟩
        have hz : (exN 2, z) ∈ hs2 := hz
        simp [hs2, exN] at hz
        rw [hz]; rfl
    · have : e = 1 ∨ e = 2 ∨ e = 3 := by omega
      rcases this with rfl | rfl | rfl
      · refine ⟨⟨1, by decide⟩, fun z hz => ?_, by decide⟩
        have hz : (exN 1, z) ∈ hs3 := hz
        simp [hs3, exN] at hz
        rw [hz]; rfl
      · refine ⟨⟨2, by decide⟩, fun z hz => ?_, by decide⟩
        have hz : (exN 2, z) ∈ hs3 := hz
        simp [hs3, exN] at hz
        rw [hz]; rfl
      · refine ⟨⟨3, by decide⟩, fun z hz => ?_, by decide⟩
        have hz : (exN 3, z) ∈ hs3 := hz
        simp [hs3, exN] at hz
        rw [hz]; rfl
theorem izt (b : Int32) : iz b.toInt = b := by
  unfold iz
  exact Int32.ofInt_toInt b
theorem IRt (b : Int32) : IR b.toInt := by
  have h1 := Int32.le_toInt b
  have h2 := Int32.toInt_lt b
  exact ⟨by omega, by omega⟩
section Q89
variable {sh : HS} {I I1 I2 : HI} {R R1 : HR} {AD : Int → Nat} {P P1 : Int → Int → Int} {σ σ' : STT}
theorem gl_r (C : RIB I R AD σ) (F : FR AD I I1 (fun i _ => i < 316)) : RIB I1 R AD σ := C.fr (F.wd (fun i k z => Or.inl z))
theorem gl_i (S : OKS sh AD) (V : VST σ') (C : CIB I1 R AD P σ') (Kn : CKN I1 AD σ') (Rb : RIB I2 R AD σ') (F : FR AD I1 I2 (fun i _ => 316 ≤ i)) : SINV sh AD I2 R :=
  ⟨σ', P, S, V, C.fr V (F.wd (fun i k z => Or.inr (Or.inr (Or.inr (Or.inr (Or.inr (Or.inr z))))))), Kn.fr F (fun i k h z => by omega), Rb⟩
theorem vst_trunc (V : VST σ) (a : Int) : VST (sTrunc σ a) := by
  unfold sTrunc
  split
  · rename_i h
    have h2 := V.2.2.2.2.1
    exact V.tx (by omega) (fun k hk => V.2.2.2.2.2.1 k (by omega))
  · exact V
theorem vst_lim (V : VST σ) (r t f : Int) : VST (sLim σ r t f) := by
  unfold sLim
  split
  · rename_i h
    split
    · rename_i g
      exact V.act h (lim_V (V.1 h) g)
    · exact V
  · exact V
theorem vst_lgt (V : VST σ) (c l : Int) : VST (sLgt σ c l) := by
  unfold sLgt
  split
  · rename_i h
    split
    · rename_i g
      have m := (V.1 h).m
      exact V.act h (lgt_V (V.1 h) g.1.1 (by omega) g.2)
    · exact V
  · exact V
theorem vst_len (V : VST σ) (s l : Int) : VST (sLen_ σ s l) := by
  unfold sLen_
  split
  · rename_i h
    split
    · rename_i g
      have m := (V.1 h).n
      exact V.act h (len_V (V.1 h) g.1.1 (by omega) g.2)
    · exact V
  · exact V
theorem vst_cam (V : VST σ) (s x y : Int) : VST (sCam σ s x y) := by
  unfold sCam
  split
  · rename_i h
    split
    · rename_i g
      split
      · exact V
      · rename_i w
        exact V.act h (mv_V (V.1 h) g.1.1 (by omega) g.2.1.1 g.2.1.2 g.2.2.1 g.2.2.2 w)
    · exact V
  · exact V
theorem vst_flip (V : VST σ) (s : Int) : VST (sFlip σ s) := by
  unfold sFlip
  split
  · rename_i h
    split
    · rename_i g
      split
      · rename_i w
        exact V.act h (fl_V (V.1 h) g.1 (by omega) w)
      · exact V
    · exact V
  · exact V
theorem md_V : ∀ (f : Nat) (ρ : RHO) (n : Int), VB ρ → VB (mdF f ρ n).1 := by
  intro f
  induction f with
  | zero => exact fun ρ n V => V
  | succ f ih =>
    intro ρ n V
    show VB (if bestF ρ = -1 then (ρ, n) else mdF f (flS ρ (bestF ρ)) (n + 1)).1
    split
    · exact V
    · rename_i h
      rcases bf_ok ρ with w | ⟨w1, w2, w3⟩
      · exact absurd w h
      · exact ih _ _ (fl_V V w1.1 w1.2 w2)
theorem vst_mend (V : VST σ) : VST (sMend σ) := by
  unfold sMend
  split
  · rename_i h
    split
    · exact V
    · exact V.act h (md_V _ _ _ (V.1 h))
  · exact V
theorem vst_join (V : VST σ) (s k : Int) : VST (sJoin σ s k) := by
  unfold sJoin
  split
  · rename_i h
    split
    · rename_i g
      split
      · rename_i w
        have VV := V.1 h
        obtain ⟨j0, j1⟩ := jf_rng (ρ := σ.2.1) (k := k.toNat) (by omega)
        have c := (VV.shot j0 j1).2
        refine V.act h (mv_V VV g.1.1 (by omega) c.1.1 c.1.2 c.2.1.1 c.2.1.2 (fun q => ?_))
        unfold njS at w
        split at w
        · omega
        · omega
      · exact V
    · exact V
  · exact V
theorem vst_mva (V : VST σ) (c a x y : Int) : VST (sMvA σ c a x y) := by
  unfold sMvA
  split
  · rename_i h
    split
    · rename_i g
      split
      · exact V
      · rename_i w
        exact V.act h (mvA_V (V.1 h) g.1.1.1 (by omega) g.1.2.1.1 (by omega) g.2.1 g.2.2 (by simpa using w))
    · exact V
  · exact V
theorem vst_cst (V : VST σ) (s u v : Int) : VST (sCst σ s u v) := by
  unfold sCst
  split
  · rename_i h
    split
    · rename_i g
      split
      · exact V
      · rename_i w
        exact V.act h (csU_V (V.1 h) g (fun q => w (Or.inl q)) (fun q => w (Or.inr q)))
    · exact V
  · exact V
theorem vst_shift (V : VST σ) (s t : Int) : VST (sShift σ s t) := by
  unfold sShift
  split
  · rename_i h
    split
    · rename_i g
      split
      · rename_i w
        exact V.act h (shP_V (V.1 h) g.1.1 (by omega) g.2.1 (by omega) w)
      · exact V
    · exact V
  · exact V
theorem vst_drop (V : VST σ) (s : Int) : VST (sDrop σ s) := by
  unfold sDrop
  split
  · rename_i h
    split
    · rename_i g
      exact V.act h (dp_V (V.1 h) g.1 (by omega))
    · exact V
  · exact V
end Q89
