/-! BYTES of the tape -/
theorem zand255 (y : Int) : zand y 255 = y % 256 := by
  have e1 : (Int32.ofInt y &&& Int32.ofInt 255) = Int32.ofInt (y % 256) := by
    apply Int32.toBitVec_inj.mp
    apply BitVec.eq_of_toNat_eq
    rw [Int32.toBitVec_and, BitVec.toNat_and, Int32.toBitVec_ofInt, Int32.toBitVec_ofInt, Int32.toBitVec_ofInt, BitVec.toNat_ofInt, BitVec.toNat_ofInt, BitVec.toNat_ofInt]
    show (y % (4294967296 : Nat)).toNat &&& (2 ^ 8 - 1) = ((y % 256) % (4294967296 : Nat)).toNat
    rw [Nat.and_two_pow_sub_one_eq_mod]; omega
  unfold zand
  rw [e1, i32_to (by unfold in32; omega)]
theorem w8_mod (v : Int) : w8 (w8 v) % 256 = v % 256 := by
  have h : ∀ u : Int, w8 u % 256 = u % 256 := fun u => by
    unfold w8
    rw [Int.bmod_def]
    split <;> omega
  rw [h, h]
theorem bv_sh (v : BitVec 32) (s : Nat) (hs : s ≤ 24) : v.sshiftRight s &&& 255#32 = v >>> s &&& 255#32 := by
  apply BitVec.eq_of_getLsbD_eq
  intro i hi
  rw [BitVec.getLsbD_and, BitVec.getLsbD_and]
  by_cases h : i < 8
  · have : (v.sshiftRight s).getLsbD i = (v >>> s).getLsbD i := by
      rw [BitVec.getLsbD_sshiftRight, BitVec.getLsbD_ushiftRight]
      simp [show i < 32 by omega, show s + i < 32 by omega]
    rw [this]
  · have : (255#32).getLsbD i = false := by
      rw [BitVec.getLsbD_ofNat]
      have h2 : 255 < 2 ^ i := Nat.lt_of_lt_of_le (by decide : 255 < 2 ^ 8) (Nat.pow_le_pow_right (by decide) (by omega))
      rw [Nat.testBit_lt_two_pow h2]; simp
    rw [this, Bool.and_false, Bool.and_false]
theorem sh_eq (x s : Int) (h : s = 24 ∨ s = 16 ∨ s = 8 ∨ s = 0) : zand (zush x s) 255 = zshr x s % 256 := by
  rw [← zand255 (zshr x s)]
  unfold zand
  rw [zush_i, zshr_i]
  generalize Int32.ofInt x = a
  congr 1
  apply Int32.toBitVec_inj.mp
  rw [Int32.toBitVec_and, Int32.toBitVec_and]
  rcases h with h | h | h | h <;> subst h
  · exact (bv_sh a.toBitVec 24 (by decide)).symm
  · exact (bv_sh a.toBitVec 16 (by decide)).symm
  · exact (bv_sh a.toBitVec 8 (by decide)).symm
  · exact (bv_sh a.toBitVec 0 (by decide)).symm
/-- the byte that a call lays on the tape -/
def byt (x s : Int) : Int := zshr x s % 256
theorem byt_b (x s : Int) : 0 ≤ byt x s ∧ byt x s < 256 := by unfold byt; omega
