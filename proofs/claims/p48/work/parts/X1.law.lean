/-! THE LAW, STAGE 2: the law, whole -/
section LA
variable {K J : Nat → Nat} {fu : Nat} {sh : HS} {I : HI} {R : HR} {a n : Nat} {P : Int32 → HS → HI → HR → Prop}
theorem l_law (hfu : 5000 ≤ fu) (ha : sh a = some (22, n)) (hn : n ≤ 2147483647) (O : OLD sh I R K) (W : OLW sh I R K) (hP : ∀ sh I R, P 1 sh I R) : wL_law K J fu sh I R a (qwI P) := by
  unfold wL_law
  refine ⟨⟨by decide, by decide⟩, l_drawn hfu ha hn O (fun ρ A cap S sh2 I2 R2 D => ?_)⟩
  obtain ⟨B, O2, V, Dt, E2, -⟩ := D
  have m := V.m
  refine ⟨⟨by decide, by decide⟩, l_loaded B V (W.ex0 E2) hfu (fun σ AD sh4 I4 R4 S4 b4 HF V4 fr E4 => ?_)⟩
  rw [if_neg (by simp)]
  have E24 : EXH (fun _ => False) sh I R sh4 I4 R4 := E2.tr E4 (fun _ _ z => z)
  have W4 := W.ex0 E24
  have B4 := B.ex0 E4
  refine ⟨⟨by decide, by decide⟩, ?_⟩
  rw [il70]
  refine l_cell (k := 70) (E24.k ha) hn (by decide) (by decide) (fun q q0 qm => ?_)
  refine ⟨⟨by decide, by decide⟩, l_wrong B4 V W4 hfu ⟨q0, by omega⟩ (fun sh9 I9 R9 E9 => ?_)⟩
  rw [if_neg (by decide)]
  have S9 : PLS sh9 I9 R9 σ AD := S4.fr (fun i i0 i1 => by
    have hn := nnk (S4.1 i i0 i1)
    exact ⟨E9.1 _ hn, E9.2 _ hn (fun z => z)⟩)
  have E29 : EXH (fun _ => False) sh2 I2 R2 sh9 I9 R9 := E4.tr E9 (fun _ _ z => z)
  have r3 : σ.2.1 3 = ρ 3 := HF.2.1.1
  have X9 : WLX K σ σ.2.1 AD A cap S sh9 I9 R9 := ⟨S9, b4, (B.ex0 E29).row HF, O2.ex0 E29, fun c hc i i0 i1 e => by
    rw [r3] at hc
    exact B.nn hc (by rw [e]; exact fr i i0 i1), V4, by rw [r3]; exact Dt⟩
  rw [il0]
  exact l_law31 (K := K) (J := J) (A := A) (AD := AD) hfu hn hP 30 0 fu 4860 2651000 σ S sh9 I9 R9 (by omega) (by omega) ⟨by decide, by decide⟩ X9 ((E24.tr E9 (fun _ _ z => z) : EXH (fun _ => False) sh I R sh9 I9 R9).k ha)
end LA
