/-! PURE: the bytes of a word, side by side -/
theorem g_and255 {x : Int} : 0 ≤ gj_and x 255 ∧ gj_and x 255 < 256 ∧ gj_and x 255 % 256 = x % 256 := by
  unfold gj_and
  have h : (Int32.ofInt x &&& Int32.ofInt 255).toInt = (((x % 256).toNat : Nat) : Int) := by
    rw [← Int32.toInt_toBitVec, Int32.toBitVec_and, Int32.toBitVec_ofInt, Int32.toBitVec_ofInt]
    have e : (BitVec.ofInt 32 x &&& BitVec.ofInt 32 255).toNat = (x % 256).toNat := by
      rw [BitVec.toNat_and, BitVec.toNat_ofInt, show (BitVec.ofInt 32 255).toNat = 2 ^ 8 - 1 from rfl, Nat.and_two_pow_sub_one_eq_mod]
      omega
    rw [BitVec.toInt_eq_toNat_of_lt (by rw [e]; omega), e]
  rw [h]
  omega
