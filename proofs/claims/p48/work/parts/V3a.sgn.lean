/-! THE LAW, STAGE 2: Integer.signum, bitCount, numberOfTrailingZeros -/
theorem sar31 {v : Int} (h1 : -2147483648 ≤ v) (h2 : v ≤ 2147483647) : iz v >>> (31 &&& 31) = iz (if v < 0 then -1 else 0) := by
  have e : (31 : Int32) &&& 31 = 31 := by decide
  rw [e]
  refine Int32.toInt_inj.mp ?_
  have h3 : (iz v >>> (31 : Int32)).toInt = (iz v).toInt >>> 31 := by
    show (iz v >>> (31 : Int32)).toBitVec.toInt = (iz v).toBitVec.toInt >>> 31
    rw [Int32.toBitVec_shiftRight]
    have : (31 : Int32).toBitVec.smod 32 = 31#32 := by decide
    rw [this]
    show (BitVec.sshiftRight _ 31).toInt = _
    rw [BitVec.toInt_sshiftRight]
  rw [h3, iz_toInt h1 h2, Int.shiftRight_eq_div_pow]
  split
  · rw [iz_toInt (by decide) (by decide)]; omega
  · rw [iz_toInt (by decide) (by decide)]; omega
theorem shr31 {v : Int} (h1 : -2147483648 ≤ v) (h2 : v ≤ 2147483647) : iShr (iz v) 31 = iz (if v < 0 then 1 else 0) := by
  unfold iShr
  refine Int32.toBitVec_inj.1 ?_
  refine BitVec.eq_of_toNat_eq ?_
  have h3 : ((iz v).toUInt32 >>> (Int32.toUInt32 31 &&& Int32.toUInt32 31)).toInt32.toBitVec.toNat = (iz v).toBitVec.toNat >>> 31 := by
    show ((iz v).toUInt32 >>> (Int32.toUInt32 31 &&& Int32.toUInt32 31)).toNat = _
    rw [UInt32.toNat_shiftRight]
    rfl
  rw [h3, Nat.shiftRight_eq_div_pow]
  have h4 : (iz v).toBitVec.toNat = (v % 4294967296).toNat := by
    show (BitVec.ofInt 32 v).toNat = _
    rw [BitVec.toNat_ofInt]
    rfl
  rw [h4]
  split
  · show _ = 1; omega
  · show _ = 0; omega
theorem l_sgn {fu : Nat} {sh : HS} {I : HI} {R : HR} {v : Int} (h1 : -2147483647 ≤ v) (h2 : v ≤ 2147483647) : fJ6_signum_0f7a4 fu sh I R (iz v) = some (iz (sgnS v)) := by
  unfold fJ6_signum_0f7a4
  rw [sar31 (by omega) h2, iz_neg, shr31 (by omega) (by omega)]
  unfold sgnS
  by_cases a : v < 0
  · rw [if_pos a, if_neg (by omega), if_neg (by omega)]
    decide
  · by_cases b : 0 < v
    · rw [if_neg a, if_pos (by omega), if_pos b]
      decide
    · rw [if_neg a, if_neg (by omega), if_neg b]
      decide
theorem btc_B : ((List.range 64).all fun m => (fJ6_bitCount_0f7a4 0 (fun _ => none) (fun _ _ => 0) (fun _ _ => none) (iz (m : Int))) == some (iz (((List.range 6).filter (fun k => m.testBit k)).length : Int))) = true := by decide +kernel
