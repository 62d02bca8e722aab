/-! STAGE 2: the bytes of an int -/
theorem mask_B : ∀ i : Nat, i < 32 → (255#32).getLsbD i = decide (i < 8) := by decide +kernel
theorem bv_shr (x : BitVec 32) (k : Nat) (hk : k ≤ 24) : (x >>> k) &&& 255#32 = (x.sshiftRight k) &&& 255#32 := by
  refine BitVec.eq_of_getLsbD_eq fun i hi => ?_
  rw [BitVec.getLsbD_and, BitVec.getLsbD_and, mask_B i hi]
  by_cases z : i < 8
  · rw [BitVec.getLsbD_ushiftRight, BitVec.getLsbD_sshiftRight]
    have h1 : ¬ 32 ≤ i := by omega
    have h2 : k + i < 32 := by omega
    simp [h1, h2]
  · simp [z]
theorem shr_24 (x : Int32) : iShr x (iz 24) &&& iz 255 = (x >>> (iz 24 &&& iz 31)) &&& iz 255 := Int32.toBitVec_inj.1 (bv_shr x.toBitVec 24 (by decide))
theorem shr_16 (x : Int32) : iShr x (iz 16) &&& iz 255 = (x >>> (iz 16 &&& iz 31)) &&& iz 255 := Int32.toBitVec_inj.1 (bv_shr x.toBitVec 16 (by decide))
theorem shr_8 (x : Int32) : iShr x (iz 8) &&& iz 255 = (x >>> (iz 8 &&& iz 31)) &&& iz 255 := Int32.toBitVec_inj.1 (bv_shr x.toBitVec 8 (by decide))
theorem shr_0 (x : Int32) : iShr x (iz 0) &&& iz 255 = (x >>> (iz 0 &&& iz 31)) &&& iz 255 := Int32.toBitVec_inj.1 (bv_shr x.toBitVec 0 (by decide))
/-- the byte of an int at a place from 0 to 3; a text with four bytes more -/
def byV (x : Int32) (i : Nat) : Int := ((x >>> (iz (24 - 8 * (i : Int)) &&& iz 31)) &&& iz 255).toInt
theorem byV_c (x : Int32) {i : Nat} (h : i < 4) : iShr x (iz (24 - 8 * (i : Int))) &&& iz 255 = iz (byV x i) := by
  unfold byV iz
  rw [Int32.ofInt_toInt]
  have q : i = 0 ∨ i = 1 ∨ i = 2 ∨ i = 3 := by omega
  rcases q with rfl | rfl | rfl | rfl
  · exact shr_24 x
  · exact shr_16 x
  · exact shr_8 x
  · exact shr_0 x
