/-! STAGE 4: what a call of the class and the same call of the reference do to the state that both keep -/
theorem izt (b : Int32) : iz b.toInt = b := by
  unfold iz
  exact Int32.ofInt_toInt b
theorem IRt (b : Int32) : IR b.toInt := by
  have h1 := Int32.le_toInt b
  have h2 := Int32.toInt_lt b
  exact ⟨by omega, by omega⟩
section Q89
variable {sh : HS} {I I1 I2 : HI} {R R1 : HR} {AD : Int → Nat} {P P1 : Int → Int → Int} {σ σ' : STT}
theorem vst_trunc (V : VST σ) (a : Int) : VST (sTrunc σ a) := by
  unfold sTrunc
  split
  · rename_i h
    have h2 := V.2.2.2.2.1
    exact V.tx (by omega) (fun k hk => V.2.2.2.2.2.1 k (by omega))
  · exact V
theorem vst_lim (V : VST σ) (r t f : Int) : VST (sLim σ r t f) := by
  unfold sLim
  split
  · rename_i h
    split
    · rename_i g
      exact V.act h (lim_V (V.1 h) g)
    · exact V
  · exact V
theorem vst_lgt (V : VST σ) (c l : Int) : VST (sLgt σ c l) := by
  unfold sLgt
  split
  · rename_i h
    split
    · rename_i g
      have m := (V.1 h).m
      exact V.act h (lgt_V (V.1 h) g.1.1 (by omega) g.2)
    · exact V
  · exact V
theorem vst_len (V : VST σ) (s l : Int) : VST (sLen_ σ s l) := by
  unfold sLen_
  split
  · rename_i h
    split
    · rename_i g
      have m := (V.1 h).n
      exact V.act h (len_V (V.1 h) g.1.1 (by omega) g.2)
    · exact V
  · exact V
theorem vst_cam (V : VST σ) (s x y : Int) : VST (sCam σ s x y) := by
  unfold sCam
  split
  · rename_i h
    split
    · rename_i g
      split
      · exact V
      · rename_i w
        exact V.act h (mv_V (V.1 h) g.1.1 (by omega) g.2.1.1 g.2.1.2 g.2.2.1 g.2.2.2 w)
    · exact V
  · exact V
theorem vst_flip (V : VST σ) (s : Int) : VST (sFlip σ s) := by
  unfold sFlip
  split
  · rename_i h
    split
    · rename_i g
      split
      · rename_i w
        exact V.act h (fl_V (V.1 h) g.1 (by omega) w)
      · exact V
    · exact V
  · exact V
theorem vst_mva (V : VST σ) (c a x y : Int) : VST (sMvA σ c a x y) := by
  unfold sMvA
  split
  · rename_i h
    split
    · rename_i g
      split
      · exact V
      · rename_i w
        exact V.act h (mvA_V (V.1 h) g.1.1.1 (by omega) g.1.2.1.1 (by omega) g.2.1 g.2.2 (by simpa using w))
    · exact V
  · exact V
theorem vst_cst (V : VST σ) (s u v : Int) : VST (sCst σ s u v) := by
  unfold sCst
  split
  · rename_i h
    split
    · rename_i g
      split
      · exact V
      · rename_i w
        exact V.act h (csU_V (V.1 h) g (fun q => w (Or.inl q)) (fun q => w (Or.inr q)))
    · exact V
  · exact V
theorem vst_shift (V : VST σ) (s t : Int) : VST (sShift σ s t) := by
  unfold sShift
  split
  · rename_i h
    split
    · rename_i g
      split
      · rename_i w
        exact V.act h (shP_V (V.1 h) g.1.1 (by omega) g.2.1 (by omega) w)
      · exact V
    · exact V
  · exact V
theorem vst_drop (V : VST σ) (s : Int) : VST (sDrop σ s) := by
  unfold sDrop
  split
  · rename_i h
    split
    · rename_i g
      exact V.act h (dp_V (V.1 h) g.1 (by omega))
    · exact V
  · exact V
end Q89
