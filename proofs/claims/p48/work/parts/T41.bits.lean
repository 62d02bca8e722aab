/-! STAGE 2, sets as bit masks -/
theorem iz_bv (m : Nat) : (iz (m : Int)).toBitVec = BitVec.ofNat 32 m := by
  unfold iz
  rw [Int32.ofInt_eq_ofNat]
  rfl
theorem iz_andN (m n : Nat) : iz (m : Int) &&& iz (n : Int) = iz ((m &&& n : Nat) : Int) := by
  refine Int32.toBitVec_inj.1 ?_
  rw [Int32.toBitVec_and, iz_bv, iz_bv, iz_bv]
  refine BitVec.eq_of_toNat_eq ?_
  simp [BitVec.toNat_and, BitVec.toNat_ofNat, Nat.and_mod_two_pow]
theorem iz_orN (m n : Nat) : iz (m : Int) ||| iz (n : Int) = iz ((m ||| n : Nat) : Int) := by
  refine Int32.toBitVec_inj.1 ?_
  rw [Int32.toBitVec_or, iz_bv, iz_bv, iz_bv]
  refine BitVec.eq_of_toNat_eq ?_
  simp [BitVec.toNat_or, BitVec.toNat_ofNat, Nat.or_mod_two_pow]
theorem iz_shB : ((List.range 32).all fun k => decide (((iz (k : Int) &&& 31).toBitVec.smod 32).toNat = k)) = true := by decide +kernel
theorem iz_shr {m k : Nat} (hm : m < 2147483648) (hk : k < 32) : iz (m : Int) >>> (iz (k : Int) &&& 31) = iz ((m >>> k : Nat) : Int) := by
  have e := of_decide_eq_true (List.all_eq_true.mp iz_shB k (List.mem_range.mpr hk))
  have hs : m >>> k ≤ m := by rw [Nat.shiftRight_eq_div_pow]; exact Nat.div_le_self _ _
  refine Int32.toInt_inj.mp ?_
  have e2 : (iz (m : Int) >>> (iz (k : Int) &&& 31)).toInt = ((iz (m : Int)).toBitVec.sshiftRight' ((iz (k : Int) &&& 31).toBitVec.smod 32)).toInt := rfl
  rw [e2, BitVec.toInt_sshiftRight', e]
  have e3 : (iz (m : Int)).toBitVec.toInt = (m : Int) := iz_toInt (by omega) (by omega)
  rw [e3]
  show ((m >>> k : Nat) : Int) = _
  generalize m >>> k = q at hs ⊢
  rw [iz_toInt (by omega) (by omega)]
theorem iz_shlB : ((List.range 31).all fun k => decide ((1 : Int32) <<< (iz (k : Int) &&& 31) = iz ((2 ^ k : Nat) : Int))) = true := by decide +kernel
theorem iz_shl {k : Nat} (hk : k < 31) : (1 : Int32) <<< (iz (k : Int) &&& 31) = iz ((2 ^ k : Nat) : Int) := of_decide_eq_true (List.all_eq_true.mp iz_shlB k (List.mem_range.mpr hk))
/-- the bit k of a set, as 0 or 1 -/
def bt (m k : Nat) : Int := if m.testBit k = true then 1 else 0
theorem iz_bit {m k : Nat} (hm : m < 2147483648) (hk : k < 32) : (iz (m : Int) >>> (iz (k : Int) &&& 31)) &&& 1 = iz (bt m k) := by
  rw [iz_shr hm hk, iz_lit 1]
  show iz ((m >>> k : Nat) : Int) &&& iz ((1 : Nat) : Int) = _
  rw [iz_andN]
  congr 1
  unfold bt
  rw [Nat.testBit_eq_decide_div_mod_eq, Nat.shiftRight_eq_div_pow, Nat.and_one_is_mod]
  have h : m / 2 ^ k % 2 = 0 ∨ m / 2 ^ k % 2 = 1 := by omega
  rcases h with h | h <;> simp [h]
