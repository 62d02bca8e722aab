/- ('J6', 'stringSize_0f7a4') -/
theorem hJ6_stringSize_0f7a4 {l : Launch} {K J : Nat → Nat} {fu : Nat} {sh : HS} {I : HI} {R : HR} {F : VF} {mi pc X Y : Nat} {L : VL} {rest : List Value} {c : Nat × Nat} {l0 : Int32} {P : Int32 → Prop} (hq : cQx mi pc 149 1 0 0 X Y = true) (hc : c.1 + 0 ≤ X ∧ c.2 + 0 ≤ Y) (hr : Nat.ble (catS rest) 8 = true) (hw : wB (fJ6_stringSize_0f7a4 fu sh I R l0) P) (kk : ∀ v, P v → MW l K J mi (pc + 3) L ((.int v) :: rest) sh I R (c.1 + 0, c.2 + 0) F) : MW l K J mi pc L (.int l0 :: rest) sh I R c F := by
  obtain ⟨r, h1, h2⟩ := wBd hw
  have ml : mL 149 = 4 := by decide +kernel
  refine mwx_call (as := [.int l0]) (G := fun o' sh' I' R' => o' = .inl (some (.int r)) ∧ sh' = sh ∧ I' = I ∧ R' = R) hq hc rfl hr (by rw [ml]; rfl) rfl (fun z => absurd z (by decide +kernel)) (fun z => absurd z (by decide +kernel)) (V_MW (by rw [ml]; exact vJ6_stringSize_0f7a4 (F := fun o' sh' I' R' => o' = .inl (some (.int r)) ∧ sh' = sh ∧ I' = I ∧ R' = R) ⟨rfl, rfl, rfl, rfl⟩ h1)) ?_ ?_ ?_
  · rintro sh' I' R' ⟨g1, rfl, rfl, rfl⟩
    cases g1
  · rintro v' sh' I' R' ⟨g1, rfl, rfl, rfl⟩
    cases g1
    exact kk _ h2
  · rintro E' sh' I' R' ⟨g1, rfl, rfl, rfl⟩
    cases g1
/- ('X10', 'append') -/
theorem hX10_append {l : Launch} {K J : Nat → Nat} {fu : Nat} {sh : HS} {I : HI} {R : HR} {F : VF} {mi pc X Y : Nat} {L : VL} {rest : List Value} {c : Nat × Nat} {l0 : Nat} {l1 : Int32} {l2 : Int32} {l3 : Int32} {l4 : Int32} {l5 : Int32} {P : Int32 → (Int32 ⊕ String) × HI → Prop} (hq : cQx mi pc 62 6 1 6 X Y = true) (hc : c.1 + 1 ≤ X ∧ c.2 + 6 ≤ Y) (hr : Nat.ble (catS rest) 8 = true) (hw : wB (fX10_append fu sh I R l0 l1 l2 l3 l4 l5) fun r => wS r.1 fun v => P v r) (kk : ∀ v r, P v r → MW l K J mi (pc + 3) L ((.int v) :: rest) sh r.2 R (c.1 + 1, c.2 + 6) F) : MW l K J mi pc L (.int l5 :: .int l4 :: .int l3 :: .int l2 :: .int l1 :: .ref l0 :: rest) sh I R c F := by
  obtain ⟨r, h1, h2⟩ := wBd hw
  obtain ⟨r1, r2⟩ := r
  obtain ⟨v, e9, h3⟩ := wSd h2
  have e8 : r1 = .inl v := e9
  subst e8
  have hT : isT sh l0 8 = true := by unfold fX10_append at h1; exact (gd h1).1
  have ml : mL 62 = 6 := by decide +kernel
  refine mwx_call (as := [.int l5, .int l4, .int l3, .int l2, .int l1, .ref l0]) (G := fun o' sh' I' R' => o' = .inl (some (.int v)) ∧ sh' = sh ∧ I' = r2 ∧ R' = R) hq hc rfl hr (by rw [ml]; rfl) rfl (fun _ => rv_of (by unfold rcvB; rw [hT]; rfl) (by decide +kernel)) (fun z => absurd z (by decide +kernel)) (V_MW (by rw [ml]; exact vX10_append (F := fun o' sh' I' R' => o' = .inl (some (.int v)) ∧ sh' = sh ∧ I' = r2 ∧ R' = R) ⟨rfl, rfl, rfl, rfl⟩ h1)) ?_ ?_ ?_
  · rintro sh' I' R' ⟨g1, rfl, rfl, rfl⟩
    cases g1
  · rintro v' sh' I' R' ⟨g1, rfl, rfl, rfl⟩
    cases g1
    exact kk _ _ h3
  · rintro E' sh' I' R' ⟨g1, rfl, rfl, rfl⟩
    cases g1
/- ('X10', 'truncate') -/
theorem hX10_truncate {l : Launch} {K J : Nat → Nat} {fu : Nat} {sh : HS} {I : HI} {R : HR} {F : VF} {mi pc X Y : Nat} {L : VL} {rest : List Value} {c : Nat × Nat} {l0 : Nat} {l1 : Int32} {P : Int32 → (Int32 ⊕ String) × HI → Prop} (hq : cQx mi pc 64 2 1 6 X Y = true) (hc : c.1 + 1 ≤ X ∧ c.2 + 6 ≤ Y) (hr : Nat.ble (catS rest) 8 = true) (hw : wB (fX10_truncate fu sh I R l0 l1) fun r => wS r.1 fun v => P v r) (kk : ∀ v r, P v r → MW l K J mi (pc + 3) L ((.int v) :: rest) sh r.2 R (c.1 + 1, c.2 + 6) F) : MW l K J mi pc L (.int l1 :: .ref l0 :: rest) sh I R c F := by
  obtain ⟨r, h1, h2⟩ := wBd hw
  obtain ⟨r1, r2⟩ := r
  obtain ⟨v, e9, h3⟩ := wSd h2
  have e8 : r1 = .inl v := e9
  subst e8
  have hT : isT sh l0 8 = true := by unfold fX10_truncate at h1; exact (gd h1).1
  have ml : mL 64 = 2 := by decide +kernel
  refine mwx_call (as := [.int l1, .ref l0]) (G := fun o' sh' I' R' => o' = .inl (some (.int v)) ∧ sh' = sh ∧ I' = r2 ∧ R' = R) hq hc rfl hr (by rw [ml]; rfl) rfl (fun _ => rv_of (by unfold rcvB; rw [hT]; rfl) (by decide +kernel)) (fun z => absurd z (by decide +kernel)) (V_MW (by rw [ml]; exact vX10_truncate (F := fun o' sh' I' R' => o' = .inl (some (.int v)) ∧ sh' = sh ∧ I' = r2 ∧ R' = R) ⟨rfl, rfl, rfl, rfl⟩ h1)) ?_ ?_ ?_
  · rintro sh' I' R' ⟨g1, rfl, rfl, rfl⟩
    cases g1
  · rintro v' sh' I' R' ⟨g1, rfl, rfl, rfl⟩
    cases g1
    exact kk _ _ h3
  · rintro E' sh' I' R' ⟨g1, rfl, rfl, rfl⟩
    cases g1
/- ('X10', 'load') -/
theorem hX10_load {l : Launch} {K J : Nat → Nat} {fu : Nat} {sh : HS} {I : HI} {R : HR} {F : VF} {mi pc X Y : Nat} {L : VL} {rest : List Value} {c : Nat × Nat} {l0 : Nat} {P : Int32 → Int32 × (HI × HR) → Prop} (hq : cQx mi pc 65 1 0 0 X Y = true) (hc : c.1 + 0 ≤ X ∧ c.2 + 0 ≤ Y) (hr : Nat.ble (catS rest) 8 = true) (hw : wB (fX10_load fu sh I R l0) fun r => P r.1 r) (kk : ∀ v r, P v r → MW l K J mi (pc + 3) L ((.int v) :: rest) sh r.2.1 r.2.2 (c.1 + 0, c.2 + 0) F) : MW l K J mi pc L (.ref l0 :: rest) sh I R c F := by
  obtain ⟨r, h1, h2⟩ := wBd hw
  obtain ⟨v, r2⟩ := r
  have hT : isT sh l0 8 = true := by unfold fX10_load at h1; exact (gd h1).1
  have ml : mL 65 = 2 := by decide +kernel
  refine mwx_call (as := [.ref l0]) (G := fun o' sh' I' R' => o' = .inl (some (.int v)) ∧ sh' = sh ∧ I' = r2.1 ∧ R' = r2.2) hq hc rfl hr (by rw [ml]; rfl) rfl (fun _ => rv_of (by unfold rcvB; rw [hT]; rfl) (by decide +kernel)) (fun z => absurd z (by decide +kernel)) (V_MW (by rw [ml]; exact vX10_load (F := fun o' sh' I' R' => o' = .inl (some (.int v)) ∧ sh' = sh ∧ I' = r2.1 ∧ R' = r2.2) ⟨rfl, rfl, rfl, rfl⟩ h1)) ?_ ?_ ?_
  · rintro sh' I' R' ⟨g1, rfl, rfl, rfl⟩
    cases g1
  · rintro v' sh' I' R' ⟨g1, rfl, rfl, rfl⟩
    cases g1
    exact kk _ _ h2
  · rintro E' sh' I' R' ⟨g1, rfl, rfl, rfl⟩
    cases g1
/- ('X10', 'errorPosition') -/
theorem hX10_errorPosition {l : Launch} {K J : Nat → Nat} {fu : Nat} {sh : HS} {I : HI} {R : HR} {F : VF} {mi pc X Y : Nat} {L : VL} {rest : List Value} {c : Nat × Nat} {l0 : Nat} {P : Int32 → Prop} (hq : cQx mi pc 66 1 0 0 X Y = true) (hc : c.1 + 0 ≤ X ∧ c.2 + 0 ≤ Y) (hr : Nat.ble (catS rest) 8 = true) (hw : wB (fX10_errorPosition fu sh I R l0) P) (kk : ∀ v, P v → MW l K J mi (pc + 3) L ((.int v) :: rest) sh I R (c.1 + 0, c.2 + 0) F) : MW l K J mi pc L (.ref l0 :: rest) sh I R c F := by
  obtain ⟨r, h1, h2⟩ := wBd hw
  have hT : isT sh l0 8 = true := by unfold fX10_errorPosition at h1; exact (gd h1).1
  have ml : mL 66 = 1 := by decide +kernel
  refine mwx_call (as := [.ref l0]) (G := fun o' sh' I' R' => o' = .inl (some (.int r)) ∧ sh' = sh ∧ I' = I ∧ R' = R) hq hc rfl hr (by rw [ml]; rfl) rfl (fun _ => rv_of (by unfold rcvB; rw [hT]; rfl) (by decide +kernel)) (fun z => absurd z (by decide +kernel)) (V_MW (by rw [ml]; exact vX10_errorPosition (F := fun o' sh' I' R' => o' = .inl (some (.int r)) ∧ sh' = sh ∧ I' = I ∧ R' = R) ⟨rfl, rfl, rfl, rfl⟩ h1)) ?_ ?_ ?_
  · rintro sh' I' R' ⟨g1, rfl, rfl, rfl⟩
    cases g1
  · rintro v' sh' I' R' ⟨g1, rfl, rfl, rfl⟩
    cases g1
    exact kk _ h2
  · rintro E' sh' I' R' ⟨g1, rfl, rfl, rfl⟩
    cases g1
/- ('X10', 'faults') -/
theorem hX10_faults {l : Launch} {K J : Nat → Nat} {fu : Nat} {sh : HS} {I : HI} {R : HR} {F : VF} {mi pc X Y : Nat} {L : VL} {rest : List Value} {c : Nat × Nat} {l0 : Nat} {P : Int32 → Prop} (hq : cQx mi pc 86 1 1 6 X Y = true) (hc : c.1 + 1 ≤ X ∧ c.2 + 6 ≤ Y) (hr : Nat.ble (catS rest) 8 = true) (hw : wB (fX10_faults fu sh I R l0) fun r => wS r P) (kk : ∀ v, P v → MW l K J mi (pc + 3) L ((.int v) :: rest) sh I R (c.1 + 1, c.2 + 6) F) : MW l K J mi pc L (.ref l0 :: rest) sh I R c F := by
  obtain ⟨r, h1, h2⟩ := wBd hw
  obtain ⟨v, e9, h3⟩ := wSd h2
  subst e9
  have hT : isT sh l0 8 = true := by unfold fX10_faults at h1; exact (gd h1).1
  have ml : mL 86 = 1 := by decide +kernel
  refine mwx_call (as := [.ref l0]) (G := fun o' sh' I' R' => o' = .inl (some (.int v)) ∧ sh' = sh ∧ I' = I ∧ R' = R) hq hc rfl hr (by rw [ml]; rfl) rfl (fun _ => rv_of (by unfold rcvB; rw [hT]; rfl) (by decide +kernel)) (fun z => absurd z (by decide +kernel)) (V_MW (by rw [ml]; exact vX10_faults (F := fun o' sh' I' R' => o' = .inl (some (.int v)) ∧ sh' = sh ∧ I' = I ∧ R' = R) ⟨rfl, rfl, rfl, rfl⟩ h1)) ?_ ?_ ?_
  · rintro sh' I' R' ⟨g1, rfl, rfl, rfl⟩
    cases g1
  · rintro v' sh' I' R' ⟨g1, rfl, rfl, rfl⟩
    cases g1
    exact kk _ h3
  · rintro E' sh' I' R' ⟨g1, rfl, rfl, rfl⟩
    cases g1
/- ('X10', 'setLimits') -/
theorem hX10_setLimits {l : Launch} {K J : Nat → Nat} {fu : Nat} {sh : HS} {I : HI} {R : HR} {F : VF} {mi pc X Y : Nat} {L : VL} {rest : List Value} {c : Nat × Nat} {l0 : Nat} {l1 : Int32} {l2 : Int32} {l3 : Int32} {P : Int32 → (Int32 ⊕ String) × HI → Prop} (hq : cQx mi pc 71 4 4 24 X Y = true) (hc : c.1 + 4 ≤ X ∧ c.2 + 24 ≤ Y) (hr : Nat.ble (catS rest) 8 = true) (hw : wB (fX10_setLimits fu sh I R l0 l1 l2 l3) fun r => wS r.1 fun v => P v r) (kk : ∀ v r, P v r → MW l K J mi (pc + 3) L ((.int v) :: rest) sh r.2 R (c.1 + 4, c.2 + 24) F) : MW l K J mi pc L (.int l3 :: .int l2 :: .int l1 :: .ref l0 :: rest) sh I R c F := by
  obtain ⟨r, h1, h2⟩ := wBd hw
  obtain ⟨r1, r2⟩ := r
  obtain ⟨v, e9, h3⟩ := wSd h2
  have e8 : r1 = .inl v := e9
  subst e8
  have hT : isT sh l0 8 = true := by unfold fX10_setLimits at h1; exact (gd h1).1
  have ml : mL 71 = 4 := by decide +kernel
  refine mwx_call (as := [.int l3, .int l2, .int l1, .ref l0]) (G := fun o' sh' I' R' => o' = .inl (some (.int v)) ∧ sh' = sh ∧ I' = r2 ∧ R' = R) hq hc rfl hr (by rw [ml]; rfl) rfl (fun _ => rv_of (by unfold rcvB; rw [hT]; rfl) (by decide +kernel)) (fun z => absurd z (by decide +kernel)) (V_MW (by rw [ml]; exact vX10_setLimits (F := fun o' sh' I' R' => o' = .inl (some (.int v)) ∧ sh' = sh ∧ I' = r2 ∧ R' = R) ⟨rfl, rfl, rfl, rfl⟩ h1)) ?_ ?_ ?_
  · rintro sh' I' R' ⟨g1, rfl, rfl, rfl⟩
    cases g1
  · rintro v' sh' I' R' ⟨g1, rfl, rfl, rfl⟩
    cases g1
    exact kk _ _ h3
  · rintro E' sh' I' R' ⟨g1, rfl, rfl, rfl⟩
    cases g1
/- ('J6', 'numberOfTrailingZeros_0f7a4') -/
theorem hJ6_numberOfTrailingZeros_0f7a4 {l : Launch} {K J : Nat → Nat} {fu : Nat} {sh : HS} {I : HI} {R : HR} {F : VF} {mi pc X Y : Nat} {L : VL} {rest : List Value} {c : Nat × Nat} {l0 : Int32} {P : Int32 → Prop} (hq : cQx mi pc 153 1 0 0 X Y = true) (hc : c.1 + 0 ≤ X ∧ c.2 + 0 ≤ Y) (hr : Nat.ble (catS rest) 8 = true) (hw : wB (fJ6_numberOfTrailingZeros_0f7a4 fu sh I R l0) P) (kk : ∀ v, P v → MW l K J mi (pc + 3) L ((.int v) :: rest) sh I R (c.1 + 0, c.2 + 0) F) : MW l K J mi pc L (.int l0 :: rest) sh I R c F := by
  obtain ⟨r, h1, h2⟩ := wBd hw
  have ml : mL 153 = 2 := by decide +kernel
  refine mwx_call (as := [.int l0]) (G := fun o' sh' I' R' => o' = .inl (some (.int r)) ∧ sh' = sh ∧ I' = I ∧ R' = R) hq hc rfl hr (by rw [ml]; rfl) rfl (fun z => absurd z (by decide +kernel)) (fun z => absurd z (by decide +kernel)) (V_MW (by rw [ml]; exact vJ6_numberOfTrailingZeros_0f7a4 (F := fun o' sh' I' R' => o' = .inl (some (.int r)) ∧ sh' = sh ∧ I' = I ∧ R' = R) ⟨rfl, rfl, rfl, rfl⟩ h1)) ?_ ?_ ?_
  · rintro sh' I' R' ⟨g1, rfl, rfl, rfl⟩
    cases g1
  · rintro v' sh' I' R' ⟨g1, rfl, rfl, rfl⟩
    cases g1
    exact kk _ h2
  · rintro E' sh' I' R' ⟨g1, rfl, rfl, rfl⟩
    cases g1
/- ('X11', 'direction') -/
theorem hX11_direction {l : Launch} {K J : Nat → Nat} {fu : Nat} {sh : HS} {I : HI} {R : HR} {F : VF} {mi pc X Y : Nat} {L : VL} {rest : List Value} {c : Nat × Nat} {l0 : Int32} {l1 : Int32} {P : Int32 → Prop} (hq : cQx mi pc 113 2 0 0 X Y = true) (hc : c.1 + 0 ≤ X ∧ c.2 + 0 ≤ Y) (hr : Nat.ble (catS rest) 8 = true) (hw : wB (fX11_direction fu sh I R l0 l1) P) (kk : ∀ v, P v → MW l K J mi (pc + 3) L ((.int v) :: rest) sh I R (c.1 + 0, c.2 + 0) F) : MW l K J mi pc L (.int l1 :: .int l0 :: rest) sh I R c F := by
  obtain ⟨r, h1, h2⟩ := wBd hw
  have ml : mL 113 = 3 := by decide +kernel
  refine mwx_call (as := [.int l1, .int l0]) (G := fun o' sh' I' R' => o' = .inl (some (.int r)) ∧ sh' = sh ∧ I' = I ∧ R' = R) hq hc rfl hr (by rw [ml]; rfl) rfl (fun z => absurd z (by decide +kernel)) (fun z => absurd z (by decide +kernel)) (V_MW (by rw [ml]; exact vX11_direction (F := fun o' sh' I' R' => o' = .inl (some (.int r)) ∧ sh' = sh ∧ I' = I ∧ R' = R) ⟨rfl, rfl, rfl, rfl⟩ h1)) ?_ ?_ ?_
  · rintro sh' I' R' ⟨g1, rfl, rfl, rfl⟩
    cases g1
  · rintro v' sh' I' R' ⟨g1, rfl, rfl, rfl⟩
    cases g1
    exact kk _ h2
  · rintro E' sh' I' R' ⟨g1, rfl, rfl, rfl⟩
    cases g1
/- ('X11', 'turn') -/
theorem hX11_turn {l : Launch} {K J : Nat → Nat} {fu : Nat} {sh : HS} {I : HI} {R : HR} {F : VF} {mi pc X Y : Nat} {L : VL} {rest : List Value} {c : Nat × Nat} {l0 : Int32} {l1 : Int32} {P : Int32 → Prop} (hq : cQx mi pc 114 2 0 0 X Y = true) (hc : c.1 + 0 ≤ X ∧ c.2 + 0 ≤ Y) (hr : Nat.ble (catS rest) 8 = true) (hw : wB (fX11_turn fu sh I R l0 l1) P) (kk : ∀ v, P v → MW l K J mi (pc + 3) L ((.int v) :: rest) sh I R (c.1 + 0, c.2 + 0) F) : MW l K J mi pc L (.int l1 :: .int l0 :: rest) sh I R c F := by
  obtain ⟨r, h1, h2⟩ := wBd hw
  have ml : mL 114 = 2 := by decide +kernel
  refine mwx_call (as := [.int l1, .int l0]) (G := fun o' sh' I' R' => o' = .inl (some (.int r)) ∧ sh' = sh ∧ I' = I ∧ R' = R) hq hc rfl hr (by rw [ml]; rfl) rfl (fun z => absurd z (by decide +kernel)) (fun z => absurd z (by decide +kernel)) (V_MW (by rw [ml]; exact vX11_turn (F := fun o' sh' I' R' => o' = .inl (some (.int r)) ∧ sh' = sh ∧ I' = I ∧ R' = R) ⟨rfl, rfl, rfl, rfl⟩ h1)) ?_ ?_ ?_
  · rintro sh' I' R' ⟨g1, rfl, rfl, rfl⟩
    cases g1
  · rintro v' sh' I' R' ⟨g1, rfl, rfl, rfl⟩
    cases g1
    exact kk _ h2
  · rintro E' sh' I' R' ⟨g1, rfl, rfl, rfl⟩
    cases g1
/- ('X10', 'setLight') -/
theorem hX10_setLight {l : Launch} {K J : Nat → Nat} {fu : Nat} {sh : HS} {I : HI} {R : HR} {F : VF} {mi pc X Y : Nat} {L : VL} {rest : List Value} {c : Nat × Nat} {l0 : Nat} {l1 : Int32} {l2 : Int32} {P : Int32 → (Int32 ⊕ String) × HI → Prop} (hq : cQx mi pc 72 3 3 18 X Y = true) (hc : c.1 + 3 ≤ X ∧ c.2 + 18 ≤ Y) (hr : Nat.ble (catS rest) 8 = true) (hw : wB (fX10_setLight fu sh I R l0 l1 l2) fun r => wS r.1 fun v => P v r) (kk : ∀ v r, P v r → MW l K J mi (pc + 3) L ((.int v) :: rest) sh r.2 R (c.1 + 3, c.2 + 18) F) : MW l K J mi pc L (.int l2 :: .int l1 :: .ref l0 :: rest) sh I R c F := by
  obtain ⟨r, h1, h2⟩ := wBd hw
  obtain ⟨r1, r2⟩ := r
  obtain ⟨v, e9, h3⟩ := wSd h2
  have e8 : r1 = .inl v := e9
  subst e8
  have hT : isT sh l0 8 = true := by unfold fX10_setLight at h1; exact (gd h1).1
  have ml : mL 72 = 4 := by decide +kernel
  refine mwx_call (as := [.int l2, .int l1, .ref l0]) (G := fun o' sh' I' R' => o' = .inl (some (.int v)) ∧ sh' = sh ∧ I' = r2 ∧ R' = R) hq hc rfl hr (by rw [ml]; rfl) rfl (fun _ => rv_of (by unfold rcvB; rw [hT]; rfl) (by decide +kernel)) (fun z => absurd z (by decide +kernel)) (V_MW (by rw [ml]; exact vX10_setLight (F := fun o' sh' I' R' => o' = .inl (some (.int v)) ∧ sh' = sh ∧ I' = r2 ∧ R' = R) ⟨rfl, rfl, rfl, rfl⟩ h1)) ?_ ?_ ?_
  · rintro sh' I' R' ⟨g1, rfl, rfl, rfl⟩
    cases g1
  · rintro v' sh' I' R' ⟨g1, rfl, rfl, rfl⟩
    cases g1
    exact kk _ _ h3
  · rintro E' sh' I' R' ⟨g1, rfl, rfl, rfl⟩
    cases g1
/- ('X10', 'moveActor') -/
theorem hX10_moveActor {l : Launch} {K J : Nat → Nat} {fu : Nat} {sh : HS} {I : HI} {R : HR} {F : VF} {mi pc X Y : Nat} {L : VL} {rest : List Value} {c : Nat × Nat} {l0 : Nat} {l1 : Int32} {l2 : Int32} {l3 : Int32} {l4 : Int32} {P : Int32 → (Int32 ⊕ String) × HI → Prop} (hq : cQx mi pc 73 5 5 30 X Y = true) (hc : c.1 + 5 ≤ X ∧ c.2 + 30 ≤ Y) (hr : Nat.ble (catS rest) 8 = true) (hw : wB (fX10_moveActor fu sh I R l0 l1 l2 l3 l4) fun r => wS r.1 fun v => P v r) (kk : ∀ v r, P v r → MW l K J mi (pc + 3) L ((.int v) :: rest) sh r.2 R (c.1 + 5, c.2 + 30) F) : MW l K J mi pc L (.int l4 :: .int l3 :: .int l2 :: .int l1 :: .ref l0 :: rest) sh I R c F := by
  obtain ⟨r, h1, h2⟩ := wBd hw
  obtain ⟨r1, r2⟩ := r
  obtain ⟨v, e9, h3⟩ := wSd h2
  have e8 : r1 = .inl v := e9
  subst e8
  have hT : isT sh l0 8 = true := by unfold fX10_moveActor at h1; exact (gd h1).1
  have ml : mL 73 = 5 := by decide +kernel
  refine mwx_call (as := [.int l4, .int l3, .int l2, .int l1, .ref l0]) (G := fun o' sh' I' R' => o' = .inl (some (.int v)) ∧ sh' = sh ∧ I' = r2 ∧ R' = R) hq hc rfl hr (by rw [ml]; rfl) rfl (fun _ => rv_of (by unfold rcvB; rw [hT]; rfl) (by decide +kernel)) (fun z => absurd z (by decide +kernel)) (V_MW (by rw [ml]; exact vX10_moveActor (F := fun o' sh' I' R' => o' = .inl (some (.int v)) ∧ sh' = sh ∧ I' = r2 ∧ R' = R) ⟨rfl, rfl, rfl, rfl⟩ h1)) ?_ ?_ ?_
  · rintro sh' I' R' ⟨g1, rfl, rfl, rfl⟩
    cases g1
  · rintro v' sh' I' R' ⟨g1, rfl, rfl, rfl⟩
    cases g1
    exact kk _ _ h3
  · rintro E' sh' I' R' ⟨g1, rfl, rfl, rfl⟩
    cases g1
/- ('J6', 'signum_0f7a4') -/
theorem hJ6_signum_0f7a4 {l : Launch} {K J : Nat → Nat} {fu : Nat} {sh : HS} {I : HI} {R : HR} {F : VF} {mi pc X Y : Nat} {L : VL} {rest : List Value} {c : Nat × Nat} {l0 : Int32} {P : Int32 → Prop} (hq : cQx mi pc 155 1 0 0 X Y = true) (hc : c.1 + 0 ≤ X ∧ c.2 + 0 ≤ Y) (hr : Nat.ble (catS rest) 8 = true) (hw : wB (fJ6_signum_0f7a4 fu sh I R l0) P) (kk : ∀ v, P v → MW l K J mi (pc + 3) L ((.int v) :: rest) sh I R (c.1 + 0, c.2 + 0) F) : MW l K J mi pc L (.int l0 :: rest) sh I R c F := by
  obtain ⟨r, h1, h2⟩ := wBd hw
  have ml : mL 155 = 1 := by decide +kernel
  refine mwx_call (as := [.int l0]) (G := fun o' sh' I' R' => o' = .inl (some (.int r)) ∧ sh' = sh ∧ I' = I ∧ R' = R) hq hc rfl hr (by rw [ml]; rfl) rfl (fun z => absurd z (by decide +kernel)) (fun z => absurd z (by decide +kernel)) (V_MW (by rw [ml]; exact vJ6_signum_0f7a4 (F := fun o' sh' I' R' => o' = .inl (some (.int r)) ∧ sh' = sh ∧ I' = I ∧ R' = R) ⟨rfl, rfl, rfl, rfl⟩ h1)) ?_ ?_ ?_
  · rintro sh' I' R' ⟨g1, rfl, rfl, rfl⟩
    cases g1
  · rintro v' sh' I' R' ⟨g1, rfl, rfl, rfl⟩
    cases g1
    exact kk _ h2
  · rintro E' sh' I' R' ⟨g1, rfl, rfl, rfl⟩
    cases g1
/- ('J6', 'bitCount_0f7a4') -/
theorem hJ6_bitCount_0f7a4 {l : Launch} {K J : Nat → Nat} {fu : Nat} {sh : HS} {I : HI} {R : HR} {F : VF} {mi pc X Y : Nat} {L : VL} {rest : List Value} {c : Nat × Nat} {l0 : Int32} {P : Int32 → Prop} (hq : cQx mi pc 154 1 0 0 X Y = true) (hc : c.1 + 0 ≤ X ∧ c.2 + 0 ≤ Y) (hr : Nat.ble (catS rest) 8 = true) (hw : wB (fJ6_bitCount_0f7a4 fu sh I R l0) P) (kk : ∀ v, P v → MW l K J mi (pc + 3) L ((.int v) :: rest) sh I R (c.1 + 0, c.2 + 0) F) : MW l K J mi pc L (.int l0 :: rest) sh I R c F := by
  obtain ⟨r, h1, h2⟩ := wBd hw
  have ml : mL 154 = 1 := by decide +kernel
  refine mwx_call (as := [.int l0]) (G := fun o' sh' I' R' => o' = .inl (some (.int r)) ∧ sh' = sh ∧ I' = I ∧ R' = R) hq hc rfl hr (by rw [ml]; rfl) rfl (fun z => absurd z (by decide +kernel)) (fun z => absurd z (by decide +kernel)) (V_MW (by rw [ml]; exact vJ6_bitCount_0f7a4 (F := fun o' sh' I' R' => o' = .inl (some (.int r)) ∧ sh' = sh ∧ I' = I ∧ R' = R) ⟨rfl, rfl, rfl, rfl⟩ h1)) ?_ ?_ ?_
  · rintro sh' I' R' ⟨g1, rfl, rfl, rfl⟩
    cases g1
  · rintro v' sh' I' R' ⟨g1, rfl, rfl, rfl⟩
    cases g1
    exact kk _ h2
  · rintro E' sh' I' R' ⟨g1, rfl, rfl, rfl⟩
    cases g1
/- ('X10', 'count') -/
theorem hX10_count {l : Launch} {K J : Nat → Nat} {fu : Nat} {sh : HS} {I : HI} {R : HR} {F : VF} {mi pc X Y : Nat} {L : VL} {rest : List Value} {c : Nat × Nat} {l0 : Nat} {l1 : Int32} {P : Int32 → Prop} (hq : cQx mi pc 67 2 2 12 X Y = true) (hc : c.1 + 2 ≤ X ∧ c.2 + 12 ≤ Y) (hr : Nat.ble (catS rest) 8 = true) (hw : wB (fX10_count fu sh I R l0 l1) fun r => wS r P) (kk : ∀ v, P v → MW l K J mi (pc + 3) L ((.int v) :: rest) sh I R (c.1 + 2, c.2 + 12) F) : MW l K J mi pc L (.int l1 :: .ref l0 :: rest) sh I R c F := by
  obtain ⟨r, h1, h2⟩ := wBd hw
  obtain ⟨v, e9, h3⟩ := wSd h2
  subst e9
  have hT : isT sh l0 8 = true := by unfold fX10_count at h1; exact (gd h1).1
  have ml : mL 67 = 2 := by decide +kernel
  refine mwx_call (as := [.int l1, .ref l0]) (G := fun o' sh' I' R' => o' = .inl (some (.int v)) ∧ sh' = sh ∧ I' = I ∧ R' = R) hq hc rfl hr (by rw [ml]; rfl) rfl (fun _ => rv_of (by unfold rcvB; rw [hT]; rfl) (by decide +kernel)) (fun z => absurd z (by decide +kernel)) (V_MW (by rw [ml]; exact vX10_count (F := fun o' sh' I' R' => o' = .inl (some (.int v)) ∧ sh' = sh ∧ I' = I ∧ R' = R) ⟨rfl, rfl, rfl, rfl⟩ h1)) ?_ ?_ ?_
  · rintro sh' I' R' ⟨g1, rfl, rfl, rfl⟩
    cases g1
  · rintro v' sh' I' R' ⟨g1, rfl, rfl, rfl⟩
    cases g1
    exact kk _ h3
  · rintro E' sh' I' R' ⟨g1, rfl, rfl, rfl⟩
    cases g1
/- ('X10', 'moveCamera') -/
theorem hX10_moveCamera {l : Launch} {K J : Nat → Nat} {fu : Nat} {sh : HS} {I : HI} {R : HR} {F : VF} {mi pc X Y : Nat} {L : VL} {rest : List Value} {c : Nat × Nat} {l0 : Nat} {l1 : Int32} {l2 : Int32} {l3 : Int32} {P : Int32 → (Int32 ⊕ String) × HI → Prop} (hq : cQx mi pc 74 4 4 24 X Y = true) (hc : c.1 + 4 ≤ X ∧ c.2 + 24 ≤ Y) (hr : Nat.ble (catS rest) 8 = true) (hw : wB (fX10_moveCamera fu sh I R l0 l1 l2 l3) fun r => wS r.1 fun v => P v r) (kk : ∀ v r, P v r → MW l K J mi (pc + 3) L ((.int v) :: rest) sh r.2 R (c.1 + 4, c.2 + 24) F) : MW l K J mi pc L (.int l3 :: .int l2 :: .int l1 :: .ref l0 :: rest) sh I R c F := by
  obtain ⟨r, h1, h2⟩ := wBd hw
  obtain ⟨r1, r2⟩ := r
  obtain ⟨v, e9, h3⟩ := wSd h2
  have e8 : r1 = .inl v := e9
  subst e8
  have hT : isT sh l0 8 = true := by unfold fX10_moveCamera at h1; exact (gd h1).1
  have ml : mL 74 = 5 := by decide +kernel
  refine mwx_call (as := [.int l3, .int l2, .int l1, .ref l0]) (G := fun o' sh' I' R' => o' = .inl (some (.int v)) ∧ sh' = sh ∧ I' = r2 ∧ R' = R) hq hc rfl hr (by rw [ml]; rfl) rfl (fun _ => rv_of (by unfold rcvB; rw [hT]; rfl) (by decide +kernel)) (fun z => absurd z (by decide +kernel)) (V_MW (by rw [ml]; exact vX10_moveCamera (F := fun o' sh' I' R' => o' = .inl (some (.int v)) ∧ sh' = sh ∧ I' = r2 ∧ R' = R) ⟨rfl, rfl, rfl, rfl⟩ h1)) ?_ ?_ ?_
  · rintro sh' I' R' ⟨g1, rfl, rfl, rfl⟩
    cases g1
  · rintro v' sh' I' R' ⟨g1, rfl, rfl, rfl⟩
    cases g1
    exact kk _ _ h3
  · rintro E' sh' I' R' ⟨g1, rfl, rfl, rfl⟩
    cases g1
/- ('X10', 'setCast') -/
theorem hX10_setCast {l : Launch} {K J : Nat → Nat} {fu : Nat} {sh : HS} {I : HI} {R : HR} {F : VF} {mi pc X Y : Nat} {L : VL} {rest : List Value} {c : Nat × Nat} {l0 : Nat} {l1 : Int32} {l2 : Int32} {l3 : Int32} {P : Int32 → (Int32 ⊕ String) × HI → Prop} (hq : cQx mi pc 75 4 4 24 X Y = true) (hc : c.1 + 4 ≤ X ∧ c.2 + 24 ≤ Y) (hr : Nat.ble (catS rest) 8 = true) (hw : wB (fX10_setCast fu sh I R l0 l1 l2 l3) fun r => wS r.1 fun v => P v r) (kk : ∀ v r, P v r → MW l K J mi (pc + 3) L ((.int v) :: rest) sh r.2 R (c.1 + 4, c.2 + 24) F) : MW l K J mi pc L (.int l3 :: .int l2 :: .int l1 :: .ref l0 :: rest) sh I R c F := by
  obtain ⟨r, h1, h2⟩ := wBd hw
  obtain ⟨r1, r2⟩ := r
  obtain ⟨v, e9, h3⟩ := wSd h2
  have e8 : r1 = .inl v := e9
  subst e8
  have hT : isT sh l0 8 = true := by unfold fX10_setCast at h1; exact (gd h1).1
  have ml : mL 75 = 6 := by decide +kernel
  refine mwx_call (as := [.int l3, .int l2, .int l1, .ref l0]) (G := fun o' sh' I' R' => o' = .inl (some (.int v)) ∧ sh' = sh ∧ I' = r2 ∧ R' = R) hq hc rfl hr (by rw [ml]; rfl) rfl (fun _ => rv_of (by unfold rcvB; rw [hT]; rfl) (by decide +kernel)) (fun z => absurd z (by decide +kernel)) (V_MW (by rw [ml]; exact vX10_setCast (F := fun o' sh' I' R' => o' = .inl (some (.int v)) ∧ sh' = sh ∧ I' = r2 ∧ R' = R) ⟨rfl, rfl, rfl, rfl⟩ h1)) ?_ ?_ ?_
  · rintro sh' I' R' ⟨g1, rfl, rfl, rfl⟩
    cases g1
  · rintro v' sh' I' R' ⟨g1, rfl, rfl, rfl⟩
    cases g1
    exact kk _ _ h3
  · rintro E' sh' I' R' ⟨g1, rfl, rfl, rfl⟩
    cases g1
/- ('X10', 'setLength') -/
theorem hX10_setLength {l : Launch} {K J : Nat → Nat} {fu : Nat} {sh : HS} {I : HI} {R : HR} {F : VF} {mi pc X Y : Nat} {L : VL} {rest : List Value} {c : Nat × Nat} {l0 : Nat} {l1 : Int32} {l2 : Int32} {P : Int32 → (Int32 ⊕ String) × HI → Prop} (hq : cQx mi pc 76 3 3 18 X Y = true) (hc : c.1 + 3 ≤ X ∧ c.2 + 18 ≤ Y) (hr : Nat.ble (catS rest) 8 = true) (hw : wB (fX10_setLength fu sh I R l0 l1 l2) fun r => wS r.1 fun v => P v r) (kk : ∀ v r, P v r → MW l K J mi (pc + 3) L ((.int v) :: rest) sh r.2 R (c.1 + 3, c.2 + 18) F) : MW l K J mi pc L (.int l2 :: .int l1 :: .ref l0 :: rest) sh I R c F := by
  obtain ⟨r, h1, h2⟩ := wBd hw
  obtain ⟨r1, r2⟩ := r
  obtain ⟨v, e9, h3⟩ := wSd h2
  have e8 : r1 = .inl v := e9
  subst e8
  have hT : isT sh l0 8 = true := by unfold fX10_setLength at h1; exact (gd h1).1
  have ml : mL 76 = 4 := by decide +kernel
  refine mwx_call (as := [.int l2, .int l1, .ref l0]) (G := fun o' sh' I' R' => o' = .inl (some (.int v)) ∧ sh' = sh ∧ I' = r2 ∧ R' = R) hq hc rfl hr (by rw [ml]; rfl) rfl (fun _ => rv_of (by unfold rcvB; rw [hT]; rfl) (by decide +kernel)) (fun z => absurd z (by decide +kernel)) (V_MW (by rw [ml]; exact vX10_setLength (F := fun o' sh' I' R' => o' = .inl (some (.int v)) ∧ sh' = sh ∧ I' = r2 ∧ R' = R) ⟨rfl, rfl, rfl, rfl⟩ h1)) ?_ ?_ ?_
  · rintro sh' I' R' ⟨g1, rfl, rfl, rfl⟩
    cases g1
  · rintro v' sh' I' R' ⟨g1, rfl, rfl, rfl⟩
    cases g1
    exact kk _ _ h3
  · rintro E' sh' I' R' ⟨g1, rfl, rfl, rfl⟩
    cases g1
/- ('X10', 'shift') -/
theorem hX10_shift {l : Launch} {K J : Nat → Nat} {fu : Nat} {sh : HS} {I : HI} {R : HR} {F : VF} {mi pc X Y : Nat} {L : VL} {rest : List Value} {c : Nat × Nat} {l0 : Nat} {l1 : Int32} {l2 : Int32} {P : Int32 → (Int32 ⊕ String) × (HI × HR) → Prop} (hq : cQx mi pc 77 3 3 18 X Y = true) (hc : c.1 + 3 ≤ X ∧ c.2 + 18 ≤ Y) (hr : Nat.ble (catS rest) 8 = true) (hw : wB (fX10_shift fu sh I R l0 l1 l2) fun r => wS r.1 fun v => P v r) (kk : ∀ v r, P v r → MW l K J mi (pc + 3) L ((.int v) :: rest) sh r.2.1 r.2.2 (c.1 + 3, c.2 + 18) F) : MW l K J mi pc L (.int l2 :: .int l1 :: .ref l0 :: rest) sh I R c F := by
  obtain ⟨r, h1, h2⟩ := wBd hw
  obtain ⟨r1, r2⟩ := r
  obtain ⟨v, e9, h3⟩ := wSd h2
  have e8 : r1 = .inl v := e9
  subst e8
  have hT : isT sh l0 8 = true := by unfold fX10_shift at h1; exact (gd h1).1
  have ml : mL 77 = 3 := by decide +kernel
  refine mwx_call (as := [.int l2, .int l1, .ref l0]) (G := fun o' sh' I' R' => o' = .inl (some (.int v)) ∧ sh' = sh ∧ I' = r2.1 ∧ R' = r2.2) hq hc rfl hr (by rw [ml]; rfl) rfl (fun _ => rv_of (by unfold rcvB; rw [hT]; rfl) (by decide +kernel)) (fun z => absurd z (by decide +kernel)) (V_MW (by rw [ml]; exact vX10_shift (F := fun o' sh' I' R' => o' = .inl (some (.int v)) ∧ sh' = sh ∧ I' = r2.1 ∧ R' = r2.2) ⟨rfl, rfl, rfl, rfl⟩ h1)) ?_ ?_ ?_
  · rintro sh' I' R' ⟨g1, rfl, rfl, rfl⟩
    cases g1
  · rintro v' sh' I' R' ⟨g1, rfl, rfl, rfl⟩
    cases g1
    exact kk _ _ h3
  · rintro E' sh' I' R' ⟨g1, rfl, rfl, rfl⟩
    cases g1
/- ('X10', 'drop') -/
theorem hX10_drop {l : Launch} {K J : Nat → Nat} {fu : Nat} {sh : HS} {I : HI} {R : HR} {F : VF} {mi pc X Y : Nat} {L : VL} {rest : List Value} {c : Nat × Nat} {l0 : Nat} {l1 : Int32} {P : Int32 → (Int32 ⊕ String) × (HI × HR) → Prop} (hq : cQx mi pc 78 2 2 12 X Y = true) (hc : c.1 + 2 ≤ X ∧ c.2 + 12 ≤ Y) (hr : Nat.ble (catS rest) 8 = true) (hw : wB (fX10_drop fu sh I R l0 l1) fun r => wS r.1 fun v => P v r) (kk : ∀ v r, P v r → MW l K J mi (pc + 3) L ((.int v) :: rest) sh r.2.1 r.2.2 (c.1 + 2, c.2 + 12) F) : MW l K J mi pc L (.int l1 :: .ref l0 :: rest) sh I R c F := by
  obtain ⟨r, h1, h2⟩ := wBd hw
  obtain ⟨r1, r2⟩ := r
  obtain ⟨v, e9, h3⟩ := wSd h2
  have e8 : r1 = .inl v := e9
  subst e8
  have hT : isT sh l0 8 = true := by unfold fX10_drop at h1; exact (gd h1).1
  have ml : mL 78 = 2 := by decide +kernel
  refine mwx_call (as := [.int l1, .ref l0]) (G := fun o' sh' I' R' => o' = .inl (some (.int v)) ∧ sh' = sh ∧ I' = r2.1 ∧ R' = r2.2) hq hc rfl hr (by rw [ml]; rfl) rfl (fun _ => rv_of (by unfold rcvB; rw [hT]; rfl) (by decide +kernel)) (fun z => absurd z (by decide +kernel)) (V_MW (by rw [ml]; exact vX10_drop (F := fun o' sh' I' R' => o' = .inl (some (.int v)) ∧ sh' = sh ∧ I' = r2.1 ∧ R' = r2.2) ⟨rfl, rfl, rfl, rfl⟩ h1)) ?_ ?_ ?_
  · rintro sh' I' R' ⟨g1, rfl, rfl, rfl⟩
    cases g1
  · rintro v' sh' I' R' ⟨g1, rfl, rfl, rfl⟩
    cases g1
    exact kk _ _ h3
  · rintro E' sh' I' R' ⟨g1, rfl, rfl, rfl⟩
    cases g1
/- ('X10', 'flip') -/
theorem hX10_flip {l : Launch} {K J : Nat → Nat} {fu : Nat} {sh : HS} {I : HI} {R : HR} {F : VF} {mi pc X Y : Nat} {L : VL} {rest : List Value} {c : Nat × Nat} {l0 : Nat} {l1 : Int32} {P : Int32 → (Int32 ⊕ String) × HI → Prop} (hq : cQx mi pc 79 2 2 12 X Y = true) (hc : c.1 + 2 ≤ X ∧ c.2 + 12 ≤ Y) (hr : Nat.ble (catS rest) 8 = true) (hw : wB (fX10_flip fu sh I R l0 l1) fun r => wS r.1 fun v => P v r) (kk : ∀ v r, P v r → MW l K J mi (pc + 3) L ((.int v) :: rest) sh r.2 R (c.1 + 2, c.2 + 12) F) : MW l K J mi pc L (.int l1 :: .ref l0 :: rest) sh I R c F := by
  obtain ⟨r, h1, h2⟩ := wBd hw
  obtain ⟨r1, r2⟩ := r
  obtain ⟨v, e9, h3⟩ := wSd h2
  have e8 : r1 = .inl v := e9
  subst e8
  have hT : isT sh l0 8 = true := by unfold fX10_flip at h1; exact (gd h1).1
  have ml : mL 79 = 3 := by decide +kernel
  refine mwx_call (as := [.int l1, .ref l0]) (G := fun o' sh' I' R' => o' = .inl (some (.int v)) ∧ sh' = sh ∧ I' = r2 ∧ R' = R) hq hc rfl hr (by rw [ml]; rfl) rfl (fun _ => rv_of (by unfold rcvB; rw [hT]; rfl) (by decide +kernel)) (fun z => absurd z (by decide +kernel)) (V_MW (by rw [ml]; exact vX10_flip (F := fun o' sh' I' R' => o' = .inl (some (.int v)) ∧ sh' = sh ∧ I' = r2 ∧ R' = R) ⟨rfl, rfl, rfl, rfl⟩ h1)) ?_ ?_ ?_
  · rintro sh' I' R' ⟨g1, rfl, rfl, rfl⟩
    cases g1
  · rintro v' sh' I' R' ⟨g1, rfl, rfl, rfl⟩
    cases g1
    exact kk _ _ h3
  · rintro E' sh' I' R' ⟨g1, rfl, rfl, rfl⟩
    cases g1
/- ('X10', 'shot') -/
theorem hX10_shot {l : Launch} {K J : Nat → Nat} {fu : Nat} {sh : HS} {I : HI} {R : HR} {F : VF} {mi pc X Y : Nat} {L : VL} {rest : List Value} {c : Nat × Nat} {l0 : Nat} {l1 : Int32} {l2 : Int32} {P : Int32 → Prop} (hq : cQx mi pc 70 3 3 18 X Y = true) (hc : c.1 + 3 ≤ X ∧ c.2 + 18 ≤ Y) (hr : Nat.ble (catS rest) 8 = true) (hw : wB (fX10_shot fu sh I R l0 l1 l2) fun r => wS r P) (kk : ∀ v, P v → MW l K J mi (pc + 3) L ((.int v) :: rest) sh I R (c.1 + 3, c.2 + 18) F) : MW l K J mi pc L (.int l2 :: .int l1 :: .ref l0 :: rest) sh I R c F := by
  obtain ⟨r, h1, h2⟩ := wBd hw
  obtain ⟨v, e9, h3⟩ := wSd h2
  subst e9
  have hT : isT sh l0 8 = true := by unfold fX10_shot at h1; exact (gd h1).1
  have ml : mL 70 = 4 := by decide +kernel
  refine mwx_call (as := [.int l2, .int l1, .ref l0]) (G := fun o' sh' I' R' => o' = .inl (some (.int v)) ∧ sh' = sh ∧ I' = I ∧ R' = R) hq hc rfl hr (by rw [ml]; rfl) rfl (fun _ => rv_of (by unfold rcvB; rw [hT]; rfl) (by decide +kernel)) (fun z => absurd z (by decide +kernel)) (V_MW (by rw [ml]; exact vX10_shot (F := fun o' sh' I' R' => o' = .inl (some (.int v)) ∧ sh' = sh ∧ I' = I ∧ R' = R) ⟨rfl, rfl, rfl, rfl⟩ h1)) ?_ ?_ ?_
  · rintro sh' I' R' ⟨g1, rfl, rfl, rfl⟩
    cases g1
  · rintro v' sh' I' R' ⟨g1, rfl, rfl, rfl⟩
    cases g1
    exact kk _ h3
  · rintro E' sh' I' R' ⟨g1, rfl, rfl, rfl⟩
    cases g1
/- ('X10', 'view') -/
theorem hX10_view {l : Launch} {K J : Nat → Nat} {fu : Nat} {sh : HS} {I : HI} {R : HR} {F : VF} {mi pc X Y : Nat} {L : VL} {rest : List Value} {c : Nat × Nat} {l0 : Nat} {l1 : Int32} {P : Int32 → Prop} (hq : cQx mi pc 80 2 2 12 X Y = true) (hc : c.1 + 2 ≤ X ∧ c.2 + 12 ≤ Y) (hr : Nat.ble (catS rest) 8 = true) (hw : wB (fX10_view fu sh I R l0 l1) fun r => wS r P) (kk : ∀ v, P v → MW l K J mi (pc + 3) L ((.int v) :: rest) sh I R (c.1 + 2, c.2 + 12) F) : MW l K J mi pc L (.int l1 :: .ref l0 :: rest) sh I R c F := by
  obtain ⟨r, h1, h2⟩ := wBd hw
  obtain ⟨v, e9, h3⟩ := wSd h2
  subst e9
  have hT : isT sh l0 8 = true := by unfold fX10_view at h1; exact (gd h1).1
  have ml : mL 80 = 2 := by decide +kernel
  refine mwx_call (as := [.int l1, .ref l0]) (G := fun o' sh' I' R' => o' = .inl (some (.int v)) ∧ sh' = sh ∧ I' = I ∧ R' = R) hq hc rfl hr (by rw [ml]; rfl) rfl (fun _ => rv_of (by unfold rcvB; rw [hT]; rfl) (by decide +kernel)) (fun z => absurd z (by decide +kernel)) (V_MW (by rw [ml]; exact vX10_view (F := fun o' sh' I' R' => o' = .inl (some (.int v)) ∧ sh' = sh ∧ I' = I ∧ R' = R) ⟨rfl, rfl, rfl, rfl⟩ h1)) ?_ ?_ ?_
  · rintro sh' I' R' ⟨g1, rfl, rfl, rfl⟩
    cases g1
  · rintro v' sh' I' R' ⟨g1, rfl, rfl, rfl⟩
    cases g1
    exact kk _ h3
  · rintro E' sh' I' R' ⟨g1, rfl, rfl, rfl⟩
    cases g1
/- ('X10', 'side') -/
theorem hX10_side {l : Launch} {K J : Nat → Nat} {fu : Nat} {sh : HS} {I : HI} {R : HR} {F : VF} {mi pc X Y : Nat} {L : VL} {rest : List Value} {c : Nat × Nat} {l0 : Nat} {l1 : Int32} {P : Int32 → Prop} (hq : cQx mi pc 81 2 2 12 X Y = true) (hc : c.1 + 2 ≤ X ∧ c.2 + 12 ≤ Y) (hr : Nat.ble (catS rest) 8 = true) (hw : wB (fX10_side fu sh I R l0 l1) fun r => wS r P) (kk : ∀ v, P v → MW l K J mi (pc + 3) L ((.int v) :: rest) sh I R (c.1 + 2, c.2 + 12) F) : MW l K J mi pc L (.int l1 :: .ref l0 :: rest) sh I R c F := by
  obtain ⟨r, h1, h2⟩ := wBd hw
  obtain ⟨v, e9, h3⟩ := wSd h2
  subst e9
  have hT : isT sh l0 8 = true := by unfold fX10_side at h1; exact (gd h1).1
  have ml : mL 81 = 2 := by decide +kernel
  refine mwx_call (as := [.int l1, .ref l0]) (G := fun o' sh' I' R' => o' = .inl (some (.int v)) ∧ sh' = sh ∧ I' = I ∧ R' = R) hq hc rfl hr (by rw [ml]; rfl) rfl (fun _ => rv_of (by unfold rcvB; rw [hT]; rfl) (by decide +kernel)) (fun z => absurd z (by decide +kernel)) (V_MW (by rw [ml]; exact vX10_side (F := fun o' sh' I' R' => o' = .inl (some (.int v)) ∧ sh' = sh ∧ I' = I ∧ R' = R) ⟨rfl, rfl, rfl, rfl⟩ h1)) ?_ ?_ ?_
  · rintro sh' I' R' ⟨g1, rfl, rfl, rfl⟩
    cases g1
  · rintro v' sh' I' R' ⟨g1, rfl, rfl, rfl⟩
    cases g1
    exact kk _ h3
  · rintro E' sh' I' R' ⟨g1, rfl, rfl, rfl⟩
    cases g1
/- ('X10', 'look') -/
theorem hX10_look {l : Launch} {K J : Nat → Nat} {fu : Nat} {sh : HS} {I : HI} {R : HR} {F : VF} {mi pc X Y : Nat} {L : VL} {rest : List Value} {c : Nat × Nat} {l0 : Nat} {l1 : Int32} {P : Int32 → Prop} (hq : cQx mi pc 82 2 2 12 X Y = true) (hc : c.1 + 2 ≤ X ∧ c.2 + 12 ≤ Y) (hr : Nat.ble (catS rest) 8 = true) (hw : wB (fX10_look fu sh I R l0 l1) fun r => wS r P) (kk : ∀ v, P v → MW l K J mi (pc + 3) L ((.int v) :: rest) sh I R (c.1 + 2, c.2 + 12) F) : MW l K J mi pc L (.int l1 :: .ref l0 :: rest) sh I R c F := by
  obtain ⟨r, h1, h2⟩ := wBd hw
  obtain ⟨v, e9, h3⟩ := wSd h2
  subst e9
  have hT : isT sh l0 8 = true := by unfold fX10_look at h1; exact (gd h1).1
  have ml : mL 82 = 2 := by decide +kernel
  refine mwx_call (as := [.int l1, .ref l0]) (G := fun o' sh' I' R' => o' = .inl (some (.int v)) ∧ sh' = sh ∧ I' = I ∧ R' = R) hq hc rfl hr (by rw [ml]; rfl) rfl (fun _ => rv_of (by unfold rcvB; rw [hT]; rfl) (by decide +kernel)) (fun z => absurd z (by decide +kernel)) (V_MW (by rw [ml]; exact vX10_look (F := fun o' sh' I' R' => o' = .inl (some (.int v)) ∧ sh' = sh ∧ I' = I ∧ R' = R) ⟨rfl, rfl, rfl, rfl⟩ h1)) ?_ ?_ ?_
  · rintro sh' I' R' ⟨g1, rfl, rfl, rfl⟩
    cases g1
  · rintro v' sh' I' R' ⟨g1, rfl, rfl, rfl⟩
    cases g1
    exact kk _ h3
  · rintro E' sh' I' R' ⟨g1, rfl, rfl, rfl⟩
    cases g1
/- ('X10', 'visible') -/
theorem hX10_visible {l : Launch} {K J : Nat → Nat} {fu : Nat} {sh : HS} {I : HI} {R : HR} {F : VF} {mi pc X Y : Nat} {L : VL} {rest : List Value} {c : Nat × Nat} {l0 : Nat} {l1 : Int32} {P : Int32 → Prop} (hq : cQx mi pc 83 2 2 12 X Y = true) (hc : c.1 + 2 ≤ X ∧ c.2 + 12 ≤ Y) (hr : Nat.ble (catS rest) 8 = true) (hw : wB (fX10_visible fu sh I R l0 l1) fun r => wS r P) (kk : ∀ v, P v → MW l K J mi (pc + 3) L ((.int v) :: rest) sh I R (c.1 + 2, c.2 + 12) F) : MW l K J mi pc L (.int l1 :: .ref l0 :: rest) sh I R c F := by
  obtain ⟨r, h1, h2⟩ := wBd hw
  obtain ⟨v, e9, h3⟩ := wSd h2
  subst e9
  have hT : isT sh l0 8 = true := by unfold fX10_visible at h1; exact (gd h1).1
  have ml : mL 83 = 2 := by decide +kernel
  refine mwx_call (as := [.int l1, .ref l0]) (G := fun o' sh' I' R' => o' = .inl (some (.int v)) ∧ sh' = sh ∧ I' = I ∧ R' = R) hq hc rfl hr (by rw [ml]; rfl) rfl (fun _ => rv_of (by unfold rcvB; rw [hT]; rfl) (by decide +kernel)) (fun z => absurd z (by decide +kernel)) (V_MW (by rw [ml]; exact vX10_visible (F := fun o' sh' I' R' => o' = .inl (some (.int v)) ∧ sh' = sh ∧ I' = I ∧ R' = R) ⟨rfl, rfl, rfl, rfl⟩ h1)) ?_ ?_ ?_
  · rintro sh' I' R' ⟨g1, rfl, rfl, rfl⟩
    cases g1
  · rintro v' sh' I' R' ⟨g1, rfl, rfl, rfl⟩
    cases g1
    exact kk _ h3
  · rintro E' sh' I' R' ⟨g1, rfl, rfl, rfl⟩
    cases g1
/- ('X10', 'faultsOf') -/
theorem hX10_faultsOf {l : Launch} {K J : Nat → Nat} {fu : Nat} {sh : HS} {I : HI} {R : HR} {F : VF} {mi pc X Y : Nat} {L : VL} {rest : List Value} {c : Nat × Nat} {l0 : Nat} {l1 : Int32} {P : Int32 → Prop} (hq : cQx mi pc 89 2 2 12 X Y = true) (hc : c.1 + 2 ≤ X ∧ c.2 + 12 ≤ Y) (hr : Nat.ble (catS rest) 8 = true) (hw : wB (fX10_faultsOf fu sh I R l0 l1) fun r => wS r P) (kk : ∀ v, P v → MW l K J mi (pc + 3) L ((.int v) :: rest) sh I R (c.1 + 2, c.2 + 12) F) : MW l K J mi pc L (.int l1 :: .ref l0 :: rest) sh I R c F := by
  obtain ⟨r, h1, h2⟩ := wBd hw
  obtain ⟨v, e9, h3⟩ := wSd h2
  subst e9
  have hT : isT sh l0 8 = true := by unfold fX10_faultsOf at h1; exact (gd h1).1
  have ml : mL 89 = 2 := by decide +kernel
  refine mwx_call (as := [.int l1, .ref l0]) (G := fun o' sh' I' R' => o' = .inl (some (.int v)) ∧ sh' = sh ∧ I' = I ∧ R' = R) hq hc rfl hr (by rw [ml]; rfl) rfl (fun _ => rv_of (by unfold rcvB; rw [hT]; rfl) (by decide +kernel)) (fun z => absurd z (by decide +kernel)) (V_MW (by rw [ml]; exact vX10_faultsOf (F := fun o' sh' I' R' => o' = .inl (some (.int v)) ∧ sh' = sh ∧ I' = I ∧ R' = R) ⟨rfl, rfl, rfl, rfl⟩ h1)) ?_ ?_ ?_
  · rintro sh' I' R' ⟨g1, rfl, rfl, rfl⟩
    cases g1
  · rintro v' sh' I' R' ⟨g1, rfl, rfl, rfl⟩
    cases g1
    exact kk _ h3
  · rintro E' sh' I' R' ⟨g1, rfl, rfl, rfl⟩
    cases g1
/- ('X10', 'eyeline') -/
theorem hX10_eyeline {l : Launch} {K J : Nat → Nat} {fu : Nat} {sh : HS} {I : HI} {R : HR} {F : VF} {mi pc X Y : Nat} {L : VL} {rest : List Value} {c : Nat × Nat} {l0 : Nat} {l1 : Int32} {P : Int32 → Prop} (hq : cQx mi pc 84 2 2 12 X Y = true) (hc : c.1 + 2 ≤ X ∧ c.2 + 12 ≤ Y) (hr : Nat.ble (catS rest) 8 = true) (hw : wB (fX10_eyeline fu sh I R l0 l1) fun r => wS r P) (kk : ∀ v, P v → MW l K J mi (pc + 3) L ((.int v) :: rest) sh I R (c.1 + 2, c.2 + 12) F) : MW l K J mi pc L (.int l1 :: .ref l0 :: rest) sh I R c F := by
  obtain ⟨r, h1, h2⟩ := wBd hw
  obtain ⟨v, e9, h3⟩ := wSd h2
  subst e9
  have hT : isT sh l0 8 = true := by unfold fX10_eyeline at h1; exact (gd h1).1
  have ml : mL 84 = 2 := by decide +kernel
  refine mwx_call (as := [.int l1, .ref l0]) (G := fun o' sh' I' R' => o' = .inl (some (.int v)) ∧ sh' = sh ∧ I' = I ∧ R' = R) hq hc rfl hr (by rw [ml]; rfl) rfl (fun _ => rv_of (by unfold rcvB; rw [hT]; rfl) (by decide +kernel)) (fun z => absurd z (by decide +kernel)) (V_MW (by rw [ml]; exact vX10_eyeline (F := fun o' sh' I' R' => o' = .inl (some (.int v)) ∧ sh' = sh ∧ I' = I ∧ R' = R) ⟨rfl, rfl, rfl, rfl⟩ h1)) ?_ ?_ ?_
  · rintro sh' I' R' ⟨g1, rfl, rfl, rfl⟩
    cases g1
  · rintro v' sh' I' R' ⟨g1, rfl, rfl, rfl⟩
    cases g1
    exact kk _ h3
  · rintro E' sh' I' R' ⟨g1, rfl, rfl, rfl⟩
    cases g1
/- ('X10', 'isNear') -/
theorem hX10_isNear {l : Launch} {K J : Nat → Nat} {fu : Nat} {sh : HS} {I : HI} {R : HR} {F : VF} {mi pc X Y : Nat} {L : VL} {rest : List Value} {c : Nat × Nat} {l0 : Nat} {l1 : Int32} {l2 : Int32} {P : Int32 → Prop} (hq : cQx mi pc 85 3 3 18 X Y = true) (hc : c.1 + 3 ≤ X ∧ c.2 + 18 ≤ Y) (hr : Nat.ble (catS rest) 8 = true) (hw : wB (fX10_isNear fu sh I R l0 l1 l2) fun r => wS r P) (kk : ∀ v, P v → MW l K J mi (pc + 3) L ((.int v) :: rest) sh I R (c.1 + 3, c.2 + 18) F) : MW l K J mi pc L (.int l2 :: .int l1 :: .ref l0 :: rest) sh I R c F := by
  obtain ⟨r, h1, h2⟩ := wBd hw
  obtain ⟨v, e9, h3⟩ := wSd h2
  subst e9
  have hT : isT sh l0 8 = true := by unfold fX10_isNear at h1; exact (gd h1).1
  have ml : mL 85 = 3 := by decide +kernel
  refine mwx_call (as := [.int l2, .int l1, .ref l0]) (G := fun o' sh' I' R' => o' = .inl (some (.int v)) ∧ sh' = sh ∧ I' = I ∧ R' = R) hq hc rfl hr (by rw [ml]; rfl) rfl (fun _ => rv_of (by unfold rcvB; rw [hT]; rfl) (by decide +kernel)) (fun z => absurd z (by decide +kernel)) (V_MW (by rw [ml]; exact vX10_isNear (F := fun o' sh' I' R' => o' = .inl (some (.int v)) ∧ sh' = sh ∧ I' = I ∧ R' = R) ⟨rfl, rfl, rfl, rfl⟩ h1)) ?_ ?_ ?_
  · rintro sh' I' R' ⟨g1, rfl, rfl, rfl⟩
    cases g1
  · rintro v' sh' I' R' ⟨g1, rfl, rfl, rfl⟩
    cases g1
    exact kk _ h3
  · rintro E' sh' I' R' ⟨g1, rfl, rfl, rfl⟩
    cases g1
/- ('X10', 'actor') -/
theorem hX10_actor {l : Launch} {K J : Nat → Nat} {fu : Nat} {sh : HS} {I : HI} {R : HR} {F : VF} {mi pc X Y : Nat} {L : VL} {rest : List Value} {c : Nat × Nat} {l0 : Nat} {l1 : Int32} {l2 : Int32} {l3 : Int32} {P : Int32 → Prop} (hq : cQx mi pc 69 4 3 18 X Y = true) (hc : c.1 + 3 ≤ X ∧ c.2 + 18 ≤ Y) (hr : Nat.ble (catS rest) 8 = true) (hw : wB (fX10_actor fu sh I R l0 l1 l2 l3) fun r => wS r P) (kk : ∀ v, P v → MW l K J mi (pc + 3) L ((.int v) :: rest) sh I R (c.1 + 3, c.2 + 18) F) : MW l K J mi pc L (.int l3 :: .int l2 :: .int l1 :: .ref l0 :: rest) sh I R c F := by
  obtain ⟨r, h1, h2⟩ := wBd hw
  obtain ⟨v, e9, h3⟩ := wSd h2
  subst e9
  have hT : isT sh l0 8 = true := by unfold fX10_actor at h1; exact (gd h1).1
  have ml : mL 69 = 4 := by decide +kernel
  refine mwx_call (as := [.int l3, .int l2, .int l1, .ref l0]) (G := fun o' sh' I' R' => o' = .inl (some (.int v)) ∧ sh' = sh ∧ I' = I ∧ R' = R) hq hc rfl hr (by rw [ml]; rfl) rfl (fun _ => rv_of (by unfold rcvB; rw [hT]; rfl) (by decide +kernel)) (fun z => absurd z (by decide +kernel)) (V_MW (by rw [ml]; exact vX10_actor (F := fun o' sh' I' R' => o' = .inl (some (.int v)) ∧ sh' = sh ∧ I' = I ∧ R' = R) ⟨rfl, rfl, rfl, rfl⟩ h1)) ?_ ?_ ?_
  · rintro sh' I' R' ⟨g1, rfl, rfl, rfl⟩
    cases g1
  · rintro v' sh' I' R' ⟨g1, rfl, rfl, rfl⟩
    cases g1
    exact kk _ h3
  · rintro E' sh' I' R' ⟨g1, rfl, rfl, rfl⟩
    cases g1
/- ('X10', 'scene') -/
theorem hX10_scene {l : Launch} {K J : Nat → Nat} {fu : Nat} {sh : HS} {I : HI} {R : HR} {F : VF} {mi pc X Y : Nat} {L : VL} {rest : List Value} {c : Nat × Nat} {l0 : Nat} {l1 : Int32} {l2 : Int32} {P : Int32 → Prop} (hq : cQx mi pc 68 3 3 18 X Y = true) (hc : c.1 + 3 ≤ X ∧ c.2 + 18 ≤ Y) (hr : Nat.ble (catS rest) 8 = true) (hw : wB (fX10_scene fu sh I R l0 l1 l2) fun r => wS r P) (kk : ∀ v, P v → MW l K J mi (pc + 3) L ((.int v) :: rest) sh I R (c.1 + 3, c.2 + 18) F) : MW l K J mi pc L (.int l2 :: .int l1 :: .ref l0 :: rest) sh I R c F := by
  obtain ⟨r, h1, h2⟩ := wBd hw
  obtain ⟨v, e9, h3⟩ := wSd h2
  subst e9
  have hT : isT sh l0 8 = true := by unfold fX10_scene at h1; exact (gd h1).1
  have ml : mL 68 = 3 := by decide +kernel
  refine mwx_call (as := [.int l2, .int l1, .ref l0]) (G := fun o' sh' I' R' => o' = .inl (some (.int v)) ∧ sh' = sh ∧ I' = I ∧ R' = R) hq hc rfl hr (by rw [ml]; rfl) rfl (fun _ => rv_of (by unfold rcvB; rw [hT]; rfl) (by decide +kernel)) (fun z => absurd z (by decide +kernel)) (V_MW (by rw [ml]; exact vX10_scene (F := fun o' sh' I' R' => o' = .inl (some (.int v)) ∧ sh' = sh ∧ I' = I ∧ R' = R) ⟨rfl, rfl, rfl, rfl⟩ h1)) ?_ ?_ ?_
  · rintro sh' I' R' ⟨g1, rfl, rfl, rfl⟩
    cases g1
  · rintro v' sh' I' R' ⟨g1, rfl, rfl, rfl⟩
    cases g1
    exact kk _ h3
  · rintro E' sh' I' R' ⟨g1, rfl, rfl, rfl⟩
    cases g1
/- ('X10', 'fault') -/
theorem hX10_fault {l : Launch} {K J : Nat → Nat} {fu : Nat} {sh : HS} {I : HI} {R : HR} {F : VF} {mi pc X Y : Nat} {L : VL} {rest : List Value} {c : Nat × Nat} {l0 : Nat} {l1 : Int32} {l2 : Int32} {P : Int32 → Prop} (hq : cQx mi pc 87 3 4 24 X Y = true) (hc : c.1 + 4 ≤ X ∧ c.2 + 24 ≤ Y) (hr : Nat.ble (catS rest) 8 = true) (hw : wB (fX10_fault fu sh I R l0 l1 l2) fun r => wS r P) (kk : ∀ v, P v → MW l K J mi (pc + 3) L ((.int v) :: rest) sh I R (c.1 + 4, c.2 + 24) F) : MW l K J mi pc L (.int l2 :: .int l1 :: .ref l0 :: rest) sh I R c F := by
  obtain ⟨r, h1, h2⟩ := wBd hw
  obtain ⟨v, e9, h3⟩ := wSd h2
  subst e9
  have hT : isT sh l0 8 = true := by unfold fX10_fault at h1; exact (gd h1).1
  have ml : mL 87 = 7 := by decide +kernel
  refine mwx_call (as := [.int l2, .int l1, .ref l0]) (G := fun o' sh' I' R' => o' = .inl (some (.int v)) ∧ sh' = sh ∧ I' = I ∧ R' = R) hq hc rfl hr (by rw [ml]; rfl) rfl (fun _ => rv_of (by unfold rcvB; rw [hT]; rfl) (by decide +kernel)) (fun z => absurd z (by decide +kernel)) (V_MW (by rw [ml]; exact vX10_fault (F := fun o' sh' I' R' => o' = .inl (some (.int v)) ∧ sh' = sh ∧ I' = I ∧ R' = R) ⟨rfl, rfl, rfl, rfl⟩ h1)) ?_ ?_ ?_
  · rintro sh' I' R' ⟨g1, rfl, rfl, rfl⟩
    cases g1
  · rintro v' sh' I' R' ⟨g1, rfl, rfl, rfl⟩
    cases g1
    exact kk _ h3
  · rintro E' sh' I' R' ⟨g1, rfl, rfl, rfl⟩
    cases g1
/- ('X10', 'setup') -/
theorem hX10_setup {l : Launch} {K J : Nat → Nat} {fu : Nat} {sh : HS} {I : HI} {R : HR} {F : VF} {mi pc X Y : Nat} {L : VL} {rest : List Value} {c : Nat × Nat} {l0 : Nat} {l1 : Int32} {l2 : Int32} {P : Int32 → (Int32 ⊕ String) × HI → Prop} (hq : cQx mi pc 92 3 3 18 X Y = true) (hc : c.1 + 3 ≤ X ∧ c.2 + 18 ≤ Y) (hr : Nat.ble (catS rest) 8 = true) (hw : wB (fX10_setup fu sh I R l0 l1 l2) fun r => wS r.1 fun v => P v r) (kk : ∀ v r, P v r → MW l K J mi (pc + 3) L ((.int v) :: rest) sh r.2 R (c.1 + 3, c.2 + 18) F) : MW l K J mi pc L (.int l2 :: .int l1 :: .ref l0 :: rest) sh I R c F := by
  obtain ⟨r, h1, h2⟩ := wBd hw
  obtain ⟨r1, r2⟩ := r
  obtain ⟨v, e9, h3⟩ := wSd h2
  have e8 : r1 = .inl v := e9
  subst e8
  have hT : isT sh l0 8 = true := by unfold fX10_setup at h1; exact (gd h1).1
  have ml : mL 92 = 3 := by decide +kernel
  refine mwx_call (as := [.int l2, .int l1, .ref l0]) (G := fun o' sh' I' R' => o' = .inl (some (.int v)) ∧ sh' = sh ∧ I' = r2 ∧ R' = R) hq hc rfl hr (by rw [ml]; rfl) rfl (fun _ => rv_of (by unfold rcvB; rw [hT]; rfl) (by decide +kernel)) (fun z => absurd z (by decide +kernel)) (V_MW (by rw [ml]; exact vX10_setup (F := fun o' sh' I' R' => o' = .inl (some (.int v)) ∧ sh' = sh ∧ I' = r2 ∧ R' = R) ⟨rfl, rfl, rfl, rfl⟩ h1)) ?_ ?_ ?_
  · rintro sh' I' R' ⟨g1, rfl, rfl, rfl⟩
    cases g1
  · rintro v' sh' I' R' ⟨g1, rfl, rfl, rfl⟩
    cases g1
    exact kk _ _ h3
  · rintro E' sh' I' R' ⟨g1, rfl, rfl, rfl⟩
    cases g1
/- ('X10', 'setupOf') -/
theorem hX10_setupOf {l : Launch} {K J : Nat → Nat} {fu : Nat} {sh : HS} {I : HI} {R : HR} {F : VF} {mi pc X Y : Nat} {L : VL} {rest : List Value} {c : Nat × Nat} {l0 : Nat} {l1 : Int32} {P : Int32 → (Int32 ⊕ String) × HI → Prop} (hq : cQx mi pc 91 2 2 12 X Y = true) (hc : c.1 + 2 ≤ X ∧ c.2 + 12 ≤ Y) (hr : Nat.ble (catS rest) 8 = true) (hw : wB (fX10_setupOf fu sh I R l0 l1) fun r => wS r.1 fun v => P v r) (kk : ∀ v r, P v r → MW l K J mi (pc + 3) L ((.int v) :: rest) sh r.2 R (c.1 + 2, c.2 + 12) F) : MW l K J mi pc L (.int l1 :: .ref l0 :: rest) sh I R c F := by
  obtain ⟨r, h1, h2⟩ := wBd hw
  obtain ⟨r1, r2⟩ := r
  obtain ⟨v, e9, h3⟩ := wSd h2
  have e8 : r1 = .inl v := e9
  subst e8
  have hT : isT sh l0 8 = true := by unfold fX10_setupOf at h1; exact (gd h1).1
  have ml : mL 91 = 2 := by decide +kernel
  refine mwx_call (as := [.int l1, .ref l0]) (G := fun o' sh' I' R' => o' = .inl (some (.int v)) ∧ sh' = sh ∧ I' = r2 ∧ R' = R) hq hc rfl hr (by rw [ml]; rfl) rfl (fun _ => rv_of (by unfold rcvB; rw [hT]; rfl) (by decide +kernel)) (fun z => absurd z (by decide +kernel)) (V_MW (by rw [ml]; exact vX10_setupOf (F := fun o' sh' I' R' => o' = .inl (some (.int v)) ∧ sh' = sh ∧ I' = r2 ∧ R' = R) ⟨rfl, rfl, rfl, rfl⟩ h1)) ?_ ?_ ?_
  · rintro sh' I' R' ⟨g1, rfl, rfl, rfl⟩
    cases g1
  · rintro v' sh' I' R' ⟨g1, rfl, rfl, rfl⟩
    cases g1
    exact kk _ _ h3
  · rintro E' sh' I' R' ⟨g1, rfl, rfl, rfl⟩
    cases g1
/- ('X10', 'change') -/
theorem hX10_change {l : Launch} {K J : Nat → Nat} {fu : Nat} {sh : HS} {I : HI} {R : HR} {F : VF} {mi pc X Y : Nat} {L : VL} {rest : List Value} {c : Nat × Nat} {l0 : Nat} {l1 : Int32} {l2 : Int32} {P : Int32 → (Int32 ⊕ String) × HI → Prop} (hq : cQx mi pc 93 3 3 18 X Y = true) (hc : c.1 + 3 ≤ X ∧ c.2 + 18 ≤ Y) (hr : Nat.ble (catS rest) 8 = true) (hw : wB (fX10_change fu sh I R l0 l1 l2) fun r => wS r.1 fun v => P v r) (kk : ∀ v r, P v r → MW l K J mi (pc + 3) L ((.int v) :: rest) sh r.2 R (c.1 + 3, c.2 + 18) F) : MW l K J mi pc L (.int l2 :: .int l1 :: .ref l0 :: rest) sh I R c F := by
  obtain ⟨r, h1, h2⟩ := wBd hw
  obtain ⟨r1, r2⟩ := r
  obtain ⟨v, e9, h3⟩ := wSd h2
  have e8 : r1 = .inl v := e9
  subst e8
  have hT : isT sh l0 8 = true := by unfold fX10_change at h1; exact (gd h1).1
  have ml : mL 93 = 3 := by decide +kernel
  refine mwx_call (as := [.int l2, .int l1, .ref l0]) (G := fun o' sh' I' R' => o' = .inl (some (.int v)) ∧ sh' = sh ∧ I' = r2 ∧ R' = R) hq hc rfl hr (by rw [ml]; rfl) rfl (fun _ => rv_of (by unfold rcvB; rw [hT]; rfl) (by decide +kernel)) (fun z => absurd z (by decide +kernel)) (V_MW (by rw [ml]; exact vX10_change (F := fun o' sh' I' R' => o' = .inl (some (.int v)) ∧ sh' = sh ∧ I' = r2 ∧ R' = R) ⟨rfl, rfl, rfl, rfl⟩ h1)) ?_ ?_ ?_
  · rintro sh' I' R' ⟨g1, rfl, rfl, rfl⟩
    cases g1
  · rintro v' sh' I' R' ⟨g1, rfl, rfl, rfl⟩
    cases g1
    exact kk _ _ h3
  · rintro E' sh' I' R' ⟨g1, rfl, rfl, rfl⟩
    cases g1
/- ('X10', 'setups') -/
theorem hX10_setups {l : Launch} {K J : Nat → Nat} {fu : Nat} {sh : HS} {I : HI} {R : HR} {F : VF} {mi pc X Y : Nat} {L : VL} {rest : List Value} {c : Nat × Nat} {l0 : Nat} {P : Int32 → (Int32 ⊕ String) × HI → Prop} (hq : cQx mi pc 90 1 1 6 X Y = true) (hc : c.1 + 1 ≤ X ∧ c.2 + 6 ≤ Y) (hr : Nat.ble (catS rest) 8 = true) (hw : wB (fX10_setups fu sh I R l0) fun r => wS r.1 fun v => P v r) (kk : ∀ v r, P v r → MW l K J mi (pc + 3) L ((.int v) :: rest) sh r.2 R (c.1 + 1, c.2 + 6) F) : MW l K J mi pc L (.ref l0 :: rest) sh I R c F := by
  obtain ⟨r, h1, h2⟩ := wBd hw
  obtain ⟨r1, r2⟩ := r
  obtain ⟨v, e9, h3⟩ := wSd h2
  have e8 : r1 = .inl v := e9
  subst e8
  have hT : isT sh l0 8 = true := by unfold fX10_setups at h1; exact (gd h1).1
  have ml : mL 90 = 1 := by decide +kernel
  refine mwx_call (as := [.ref l0]) (G := fun o' sh' I' R' => o' = .inl (some (.int v)) ∧ sh' = sh ∧ I' = r2 ∧ R' = R) hq hc rfl hr (by rw [ml]; rfl) rfl (fun _ => rv_of (by unfold rcvB; rw [hT]; rfl) (by decide +kernel)) (fun z => absurd z (by decide +kernel)) (V_MW (by rw [ml]; exact vX10_setups (F := fun o' sh' I' R' => o' = .inl (some (.int v)) ∧ sh' = sh ∧ I' = r2 ∧ R' = R) ⟨rfl, rfl, rfl, rfl⟩ h1)) ?_ ?_ ?_
  · rintro sh' I' R' ⟨g1, rfl, rfl, rfl⟩
    cases g1
  · rintro v' sh' I' R' ⟨g1, rfl, rfl, rfl⟩
    cases g1
    exact kk _ _ h3
  · rintro E' sh' I' R' ⟨g1, rfl, rfl, rfl⟩
    cases g1
/- ('X10', 'plainCost') -/
theorem hX10_plainCost {l : Launch} {K J : Nat → Nat} {fu : Nat} {sh : HS} {I : HI} {R : HR} {F : VF} {mi pc X Y : Nat} {L : VL} {rest : List Value} {c : Nat × Nat} {l0 : Nat} {P : Int32 → (Int32 ⊕ String) × HI → Prop} (hq : cQx mi pc 94 1 1 6 X Y = true) (hc : c.1 + 1 ≤ X ∧ c.2 + 6 ≤ Y) (hr : Nat.ble (catS rest) 8 = true) (hw : wB (fX10_plainCost fu sh I R l0) fun r => wS r.1 fun v => P v r) (kk : ∀ v r, P v r → MW l K J mi (pc + 3) L ((.int v) :: rest) sh r.2 R (c.1 + 1, c.2 + 6) F) : MW l K J mi pc L (.ref l0 :: rest) sh I R c F := by
  obtain ⟨r, h1, h2⟩ := wBd hw
  obtain ⟨r1, r2⟩ := r
  obtain ⟨v, e9, h3⟩ := wSd h2
  have e8 : r1 = .inl v := e9
  subst e8
  have hT : isT sh l0 8 = true := by unfold fX10_plainCost at h1; exact (gd h1).1
  have ml : mL 94 = 3 := by decide +kernel
  refine mwx_call (as := [.ref l0]) (G := fun o' sh' I' R' => o' = .inl (some (.int v)) ∧ sh' = sh ∧ I' = r2 ∧ R' = R) hq hc rfl hr (by rw [ml]; rfl) rfl (fun _ => rv_of (by unfold rcvB; rw [hT]; rfl) (by decide +kernel)) (fun z => absurd z (by decide +kernel)) (V_MW (by rw [ml]; exact vX10_plainCost (F := fun o' sh' I' R' => o' = .inl (some (.int v)) ∧ sh' = sh ∧ I' = r2 ∧ R' = R) ⟨rfl, rfl, rfl, rfl⟩ h1)) ?_ ?_ ?_
  · rintro sh' I' R' ⟨g1, rfl, rfl, rfl⟩
    cases g1
  · rintro v' sh' I' R' ⟨g1, rfl, rfl, rfl⟩
    cases g1
    exact kk _ _ h3
  · rintro E' sh' I' R' ⟨g1, rfl, rfl, rfl⟩
    cases g1
/- ('Jxa1e45', 'init_da8c8') -/
def wJxa1e45_init_da8c8 (K J : Nat → Nat) (fu : Nat) (sh : HS) (I : HI) (R : HR) (l0 : Nat) (F : VF) : Prop :=
  F (.inl none) sh I R
theorem vwJxa1e45_init_da8c8 {l : Launch} {K J : Nat → Nat} {fu : Nat} {sh : HS} {I : HI} {R : HR} {l0 : Nat} {F : VF} (h0 : wJxa1e45_init_da8c8 K J fu sh I R l0 F) : MW l K J 217 0 (ent (mL 217) [.ref l0]) [] sh I R (0, 0) F := by
  unfold wJxa1e45_init_da8c8 at h0
  have ml : mL 217 = 1 := by decide +kernel
  rw [ml]
  show MW l K J 217 0 [some (.ref l0)] [] sh I R (0, 0) F
  refine mw_rl (i := 0) (pc' := 1) (by decide +kernel) rfl ?_
  refine mw_oin (ix := 1) (X := 0) (Y := 0) (by decide +kernel) rfl ⟨Nat.le_refl _, Nat.le_refl _⟩ ?_
  exact mw_rv (X := 0) (Y := 0) (by decide +kernel) ⟨Nat.le_refl _, Nat.le_refl _⟩ h0
/- ('Jxc12de', 'init_da8c8') -/
def wJxc12de_init_da8c8 (K J : Nat → Nat) (fu : Nat) (sh : HS) (I : HI) (R : HR) (l0 : Nat) (F : VF) : Prop :=
  wJxa1e45_init_da8c8 K J fu sh I R l0 (qwV fun t1 i1 j1 =>
  wB (oP t1 i1 l0 10 0 0) fun v2 =>
  F (.inl none) t1 v2 j1)
theorem vwJxc12de_init_da8c8 {l : Launch} {K J : Nat → Nat} {fu : Nat} {sh : HS} {I : HI} {R : HR} {l0 : Nat} {F : VF} (h0 : wJxc12de_init_da8c8 K J fu sh I R l0 F) : MW l K J 216 0 (ent (mL 216) [.ref l0]) [] sh I R (0, 0) F := by
  unfold wJxc12de_init_da8c8 at h0
  have ml : mL 216 = 1 := by decide +kernel
  rw [ml]
  show MW l K J 216 0 [some (.ref l0)] [] sh I R (0, 0) F
  refine mw_rl (i := 0) (pc' := 1) (by decide +kernel) rfl ?_
  refine mwx_V (q := 217) (na := 1) (ce := 0) (sl := 0) (X := 0) (Y := 0) (as := [.ref l0]) (by decide +kernel) ⟨Nat.le_refl _, Nat.le_refl _⟩ rfl rfl (by rw [show mL 217 = 1 from by decide +kernel]; rfl) rfl (fun z => absurd z (by decide +kernel)) (fun _ => ⟨_, rfl⟩) (vwJxa1e45_init_da8c8 h0) (fun t1 i1 j1 h1 => ?_); clear h0
  refine mw_rl (i := 0) (pc' := 5) (by decide +kernel) rfl ?_
  refine mw_c (v := 0) (pc' := 6) (by decide +kernel) ?_
  refine mw_pI (ix := 7) (t := 10) (j := 0) (ty := 0) (md := 0) (by decide +kernel) (Or.inl rfl) h1 (fun v2 h2 => ?_); clear h1
  exact mw_rv (X := 0) (Y := 0) (by decide +kernel) ⟨Nat.le_refl _, Nat.le_refl _⟩ h2
/- ('Jx4a65c', 'init_da8c8') -/
def wJx4a65c_init_da8c8 (K J : Nat → Nat) (fu : Nat) (sh : HS) (I : HI) (R : HR) (l0 : Nat) (F : VF) : Prop :=
  wJxc12de_init_da8c8 K J fu sh I R l0 (qwV fun t1 i1 j1 =>
  wB (oQ t1 j1 l0 10 1 (K nS)) fun v2 =>
  F (.inl none) t1 i1 v2)
theorem vwJx4a65c_init_da8c8 {l : Launch} {K J : Nat → Nat} {fu : Nat} {sh : HS} {I : HI} {R : HR} {l0 : Nat} {F : VF} (h0 : wJx4a65c_init_da8c8 K J fu sh I R l0 F) : MW l K J 130 0 (ent (mL 130) [.ref l0]) [] sh I R (0, 0) F := by
  unfold wJx4a65c_init_da8c8 at h0
  have ml : mL 130 = 1 := by decide +kernel
  rw [ml]
  show MW l K J 130 0 [some (.ref l0)] [] sh I R (0, 0) F
  refine mw_rl (i := 0) (pc' := 1) (by decide +kernel) rfl ?_
  refine mwx_V (q := 216) (na := 1) (ce := 0) (sl := 0) (X := 0) (Y := 0) (as := [.ref l0]) (by decide +kernel) ⟨Nat.le_refl _, Nat.le_refl _⟩ rfl rfl (by rw [show mL 216 = 1 from by decide +kernel]; rfl) rfl (fun z => absurd z (by decide +kernel)) (fun _ => ⟨_, rfl⟩) (vwJxc12de_init_da8c8 h0) (fun t1 i1 j1 h1 => ?_); clear h0
  refine mw_rl (i := 0) (pc' := 5) (by decide +kernel) rfl ?_
  refine mw_gsV (ix := 39) (q := 2) (v := .ref (K nS)) (by decide +kernel) rfl ?_
  refine mw_pR (ix := 9) (t := 10) (j := 1) (md := 0) (by decide +kernel) h1 (fun v2 h2 => ?_); clear h1
  exact mw_rv (X := 0) (Y := 0) (by decide +kernel) ⟨Nat.le_refl _, Nat.le_refl _⟩ h2
/- ('X11', 'init') -/
def wX11_init (K J : Nat → Nat) (fu : Nat) (sh : HS) (I : HI) (R : HR) (l0 : Nat) (F : VF) : Prop :=
  (0 ≤ 4 ∧ 0 ≤ 3) ∧
  (0 + 1 ≤ 4 ∧ 0 + 3 ≤ 3) ∧
  wNew sh I R 10 3 fun a3 t3 i3 j3 =>
  ((0 + 1) ≤ 4 ∧ (0 + 3) ≤ 3) ∧
  wJx4a65c_init_da8c8 K J fu t3 i3 j3 a3 (qwV fun t5 i5 j5 =>
  wB (oQ t5 j5 l0 9 3 a3) fun v6 =>
  (¬ (0 : Int32) < 0 ∧ (0 : Int32).toNatClampNeg < 100000) ∧
  ((0 + 1) + 1 ≤ 4 ∧ (0 + 3) + (0 : Int32).toNatClampNeg ≤ 3) ∧
  wNewI t5 i5 20 (0 : Int32).toNatClampNeg fun a7 t7 i7 =>
  wB (oQ t7 v6 l0 9 4 a7) fun v9 =>
  (¬ (0 : Int32) < 0 ∧ (0 : Int32).toNatClampNeg < 100000) ∧
  (((0 + 1) + 1) + 1 ≤ 4 ∧ ((0 + 3) + (0 : Int32).toNatClampNeg) + (0 : Int32).toNatClampNeg ≤ 3) ∧
  wNewR t7 v9 45 (0 : Int32).toNatClampNeg fun a10 t10 j10 =>
  wB (oQ t10 j10 l0 9 5 a10) fun v12 =>
  (¬ (0 : Int32) < 0 ∧ (0 : Int32).toNatClampNeg < 100000) ∧
  ((((0 + 1) + 1) + 1) + 1 ≤ 4 ∧ (((0 + 3) + (0 : Int32).toNatClampNeg) + (0 : Int32).toNatClampNeg) + (0 : Int32).toNatClampNeg ≤ 3) ∧
  wNewR t10 v12 45 (0 : Int32).toNatClampNeg fun a13 t13 j13 =>
  wB (oQ t13 j13 l0 9 6 a13) fun v15 =>
  (((((0 + 1) + 1) + 1) + 1) ≤ 4 ∧ ((((0 + 3) + (0 : Int32).toNatClampNeg) + (0 : Int32).toNatClampNeg) + (0 : Int32).toNatClampNeg) ≤ 3) ∧
  F (.inl none) t13 i7 v15)
theorem vwX11_init {l : Launch} {K J : Nat → Nat} {fu : Nat} {sh : HS} {I : HI} {R : HR} {l0 : Nat} {F : VF} (h0 : wX11_init K J fu sh I R l0 F) : MW l K J 112 0 (ent (mL 112) [.ref l0]) [] sh I R (0, 0) F := by
  unfold wX11_init at h0
  have ml : mL 112 = 1 := by decide +kernel
  rw [ml]
  show MW l K J 112 0 [some (.ref l0)] [] sh I R (0, 0) F
  refine mw_rl (i := 0) (pc' := 1) (by decide +kernel) rfl ?_
  obtain ⟨r1, h1⟩ := h0
  refine mw_oin (ix := 1) (X := 4) (Y := 3) (by decide +kernel) rfl r1 ?_
  refine mw_rl (i := 0) (pc' := 5) (by decide +kernel) rfl ?_
  obtain ⟨r2, h2⟩ := h1
  refine mw_new (ix := 7) (t := 10) (N := 3) (X := 4) (Y := 3) (by decide +kernel) r2 h2 (fun a3 t3 i3 j3 h3 => ?_); clear h2
  refine mw_a (ins := .dup) (pc' := 9) (by decide +kernel) rfl ?_
  obtain ⟨r4, h4⟩ := h3
  refine mwx_V (q := 130) (na := 1) (ce := 0) (sl := 0) (X := 4) (Y := 3) (as := [.ref a3]) (by decide +kernel) r4 rfl rfl (by rw [show mL 130 = 1 from by decide +kernel]; rfl) rfl (fun z => absurd z (by decide +kernel)) (fun _ => ⟨_, rfl⟩) (vwJx4a65c_init_da8c8 h4) (fun t5 i5 j5 h5 => ?_); clear h4
  refine mw_pR (ix := 10) (t := 9) (j := 3) (md := 0) (by decide +kernel) h5 (fun v6 h6 => ?_); clear h5
  refine mw_rl (i := 0) (pc' := 16) (by decide +kernel) rfl ?_
  refine mw_c (v := 0) (pc' := 17) (by decide +kernel) ?_
  obtain ⟨q7, h7⟩ := h6
  obtain ⟨r8, h8⟩ := h7
  refine mw_nwi (X := 4) (Y := 3) (by decide +kernel) q7 r8 h8 (fun a7 t7 i7 h9 => ?_); clear h8
  refine mw_pR (ix := 16) (t := 9) (j := 4) (md := 0) (by decide +kernel) h9 (fun v9 h10 => ?_); clear h9
  refine mw_rl (i := 0) (pc' := 23) (by decide +kernel) rfl ?_
  refine mw_c (v := 0) (pc' := 24) (by decide +kernel) ?_
  obtain ⟨q10, h11⟩ := h10
  obtain ⟨r11, h12⟩ := h11
  refine mw_anw (ix := 20) (v := 1) (X := 4) (Y := 3) (by decide +kernel) (by decide) q10 r11 h12 (fun a10 t10 j10 h13 => ?_); clear h12
  refine mw_pR (ix := 21) (t := 9) (j := 5) (md := 0) (by decide +kernel) h13 (fun v12 h14 => ?_); clear h13
  refine mw_rl (i := 0) (pc' := 31) (by decide +kernel) rfl ?_
  refine mw_c (v := 0) (pc' := 32) (by decide +kernel) ?_
  obtain ⟨q13, h15⟩ := h14
  obtain ⟨r14, h16⟩ := h15
  refine mw_anw (ix := 20) (v := 1) (X := 4) (Y := 3) (by decide +kernel) (by decide) q13 r14 h16 (fun a13 t13 j13 h17 => ?_); clear h16
  refine mw_pR (ix := 25) (t := 9) (j := 6) (md := 0) (by decide +kernel) h17 (fun v15 h18 => ?_); clear h17
  obtain ⟨r16, h19⟩ := h18
  exact mw_rv (X := 4) (Y := 3) (by decide +kernel) r16 h19
/- ('L', 'cell') -/
def wL_cell_b24 (K J : Nat → Nat) (fu : Nat) (F : VF) (sh : HS) (I : HI) (R : HR) (s0 : Int32) : Prop :=
  F (.inl (some (.int s0))) sh I R
theorem vwL_cell_b24 {l : Launch} {K J : Nat → Nat} {fu : Nat} {F : VF} {sh : HS} {I : HI} {R : HR} {s0 : Int32} {d0 d1 : Option Value} (h0 : wL_cell_b24 K J fu F sh I R s0) : MW l K J 174 24 [d0, d1] [.int s0] sh I R (0, 0) F := by
  unfold wL_cell_b24 at h0
  exact mw_ri (X := 0) (Y := 0) (by decide +kernel) ⟨Nat.le_refl _, Nat.le_refl _⟩ h0
def wL_cell (K J : Nat → Nat) (fu : Nat) (sh : HS) (I : HI) (R : HR) (l0 : Nat) (l1 : Int32) (F : VF) : Prop :=
  wB (oLn sh l0) fun v1 =>
  if v1 ≤ l1 then
    ((wL_cell_b24 K J fu F) sh I R ((l1 * 7919) &&& 1023))
  else
    (wB (oA2 sh I l0 l1) fun v2 =>
    (wL_cell_b24 K J fu F) sh I R (v2 &&& 1073741823))
theorem vwL_cell {l : Launch} {K J : Nat → Nat} {fu : Nat} {sh : HS} {I : HI} {R : HR} {l0 : Nat} {l1 : Int32} {F : VF} (h0 : wL_cell K J fu sh I R l0 l1 F) : MW l K J 174 0 (ent (mL 174) [.ref l0, .int l1]) [] sh I R (0, 0) F := by
  unfold wL_cell at h0
  have ml : mL 174 = 2 := by decide +kernel
  rw [ml]
  show MW l K J 174 0 [some (.ref l0), some (.int l1)] [] sh I R (0, 0) F
  refine mw_il (i := 1) (pc' := 1) (by decide +kernel) rfl ?_
  refine mw_rl (i := 0) (pc' := 2) (by decide +kernel) rfl ?_
  refine mw_ln (by decide +kernel) h0 (fun v1 h1 => ?_); clear h0
  refine mw_if (ins := .if_icmp .ge 12) (t := 15) (pc' := 6) (by decide +kernel) rfl rfl rfl h1 (fun p2 h2 => ?_) (fun p2 h2 => ?_) <;> clear h1
  · refine mw_il (i := 1) (pc' := 16) (by decide +kernel) rfl ?_
    refine mw_c (v := 7919) (pc' := 19) (by decide +kernel) ?_
    refine mw_a (ins := .imul) (pc' := 20) (by decide +kernel) rfl ?_
    refine mw_c (v := 1023) (pc' := 23) (by decide +kernel) ?_
    refine mw_a (ins := .iand) (pc' := 24) (by decide +kernel) rfl ?_
    exact (vwL_cell_b24) h2
  · refine mw_rl (i := 0) (pc' := 7) (by decide +kernel) rfl ?_
    refine mw_il (i := 1) (pc' := 8) (by decide +kernel) rfl ?_
    refine mw_al (by decide +kernel) h2 (fun v2 h3 => ?_); clear h2
    refine mw_c (v := 1073741823) (pc' := 11) (by decide +kernel) ?_
    refine mw_a (ins := .iand) (pc' := 12) (by decide +kernel) rfl ?_
    refine mw_go (t := 24) (by decide +kernel) ?_
    exact (vwL_cell_b24) h3
