theorem va_AOA.moved {ty : FieldType} {u U : State} (hvm : u.vm.Alike U.vm) (h : va_AOA ty u) : va_AOA ty U := by
  unfold va_AOA Cond.before Cond.holds at h ⊢
  simp only [Cond.value] at h ⊢
  simp only [hvm.findClass]
  cases e1 : u.vm.findClass (FieldType.array ty).toString with
  | none => rw [e1] at h; simp at h
  | some comp =>
    rw [e1] at h
    simp only [Option.bind_some] at h ⊢
    have e2 : (U.vm.classes.findIdx? fun (x : Class) => match x.kind with | .array component _ => component == comp | _ => false) = (u.vm.classes.findIdx? fun (x : Class) => match x.kind with | .array component _ => component == comp | _ => false) := by
      have hb : U.vm.bare = u.vm.bare := by first | exact hvm.bare_eq | exact hvm.bare_eq.symm
      have h1 := va_idx_bare U.vm comp
      rw [hb] at h1
      exact h1.symm.trans (va_idx_bare u.vm comp)
    cases e3 : (u.vm.classes.findIdx? fun (x : Class) => match x.kind with | .array component _ => component == comp | _ => false) with
    | none => 
      exfalso
      refine absurd ((congrArg (fun o : Option Nat => (o.bind (fun c => (u.vm.classes[c]?).map fun (k : Class) => match k.kind with | .array _ ty' => decide (ty' = FieldType.array ty) && decide (u.vm.findClass ("[" ++ (FieldType.array ty).toString) = some c) | _ => false) == some true)) e3).symm.trans h) (by simp)
    | some c =>
      have h2 := (congrArg (fun o : Option Nat => (o.bind (fun c => (u.vm.classes[c]?).map fun (k : Class) => match k.kind with | .array _ ty' => decide (ty' = FieldType.array ty) && decide (u.vm.findClass ("[" ++ (FieldType.array ty).toString) = some c) | _ => false) == some true)) e3).symm.trans h
      refine (congrArg (fun o : Option Nat => (o.bind (fun c => (U.vm.classes[c]?).map fun (k : Class) => match k.kind with | .array _ ty' => decide (ty' = FieldType.array ty) && decide (u.vm.findClass ("[" ++ (FieldType.array ty).toString) = some c) | _ => false) == some true)) (e2.trans e3)).trans ?_
      simp only [Option.bind_some] at h2 ⊢
      cases e4 : u.vm.classes[c]? with
      | none => rw [e4] at h2; simp at h2
      | some k =>
        obtain ⟨k', hk', he⟩ := hvm.2.2 _ _ e4
        rw [e4] at h2
        rw [hk']
        have hk2 : k'.kind = k.kind := by rw [he]
        simp only [Option.map_some, hk2] at h2 ⊢
        exact h2
