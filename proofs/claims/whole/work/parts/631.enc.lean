/-! RULES: an order of the class as a number -/
theorem shl5 (x : Int32) : (x <<< (Int32.ofInt 5 &&& 31)).toBitVec = x.toBitVec <<< 5 := rfl
theorem shr5 (x : Int32) : (x >>> (Int32.ofInt 5 &&& 31)).toBitVec = x.toBitVec.sshiftRight 5 := rfl
theorem enc_eq {k v : Int} (hk : 0 ≤ k ∧ k < 32) (hv : 0 ≤ v ∧ v ≤ 99999) : zor k (zshl v 5) = k + 32 * v := by
  obtain ⟨a, rfl⟩ := Int.eq_ofNat_of_zero_le hk.1
  obtain ⟨b, rfl⟩ := Int.eq_ofNat_of_zero_le hv.1
  have e1 : (Int32.ofInt (a : Int) ||| Int32.ofInt (zshl (b : Int) 5)) = Int32.ofInt ((a : Int) + 32 * (b : Int)) := by
    unfold zshl
    rw [Int32.ofInt_toInt]
    apply Int32.toBitVec_inj.mp
    apply BitVec.eq_of_toNat_eq
    rw [Int32.toBitVec_or, BitVec.toNat_or, shl5, BitVec.toNat_shiftLeft, Int32.toBitVec_ofInt, Int32.toBitVec_ofInt, Int32.toBitVec_ofInt, BitVec.toNat_ofInt, BitVec.toNat_ofInt, BitVec.toNat_ofInt]
    have h1 : ((a : Int) % ((2 ^ 32 : Nat) : Int)).toNat = a := by
      show ((a : Int) % 4294967296).toNat = a; omega
    have h2 : ((b : Int) % ((2 ^ 32 : Nat) : Int)).toNat = b := by
      show ((b : Int) % 4294967296).toNat = b; omega
    have h3 : (((a : Int) + 32 * (b : Int)) % ((2 ^ 32 : Nat) : Int)).toNat = b <<< 5 + a := by
      rw [Nat.shiftLeft_eq]
      show (((a : Int) + 32 * (b : Int)) % 4294967296).toNat = b * 32 + a; omega
    rw [h1, h2, h3, Nat.shiftLeft_add_eq_or_of_lt (by show a < 32; omega), Nat.mod_eq_of_lt (by rw [Nat.shiftLeft_eq]; show b * 32 < 4294967296; omega), Nat.or_comm]
  unfold zor
  rw [e1, i32_to (by unfold in32; omega)]
theorem zand31 {y : Int} : zand y 31 = y % 32 := by
  have e1 : (Int32.ofInt y &&& Int32.ofInt 31) = Int32.ofInt (y % 32) := by
    apply Int32.toBitVec_inj.mp
    apply BitVec.eq_of_toNat_eq
    rw [Int32.toBitVec_and, BitVec.toNat_and, Int32.toBitVec_ofInt, Int32.toBitVec_ofInt, Int32.toBitVec_ofInt, BitVec.toNat_ofInt, BitVec.toNat_ofInt, BitVec.toNat_ofInt]
    show (y % (4294967296 : Nat)).toNat &&& (2 ^ 5 - 1) = ((y % 32) % (4294967296 : Nat)).toNat
    rw [Nat.and_two_pow_sub_one_eq_mod]; omega
  unfold zand
  rw [e1, i32_to (by unfold in32; omega)]
theorem zshr5 {y : Int} (hy : 0 ≤ y ∧ y < 2147483648) : zshr y 5 = y / 32 := by
  obtain ⟨a, rfl⟩ := Int.eq_ofNat_of_zero_le hy.1
  have e1 : (Int32.ofInt (a : Int) >>> (Int32.ofInt 5 &&& 31)) = Int32.ofInt ((a : Int) / 32) := by
    apply Int32.toBitVec_inj.mp
    apply BitVec.eq_of_toInt_eq
    rw [shr5, BitVec.toInt_sshiftRight, Int32.toBitVec_ofInt, Int32.toBitVec_ofInt, BitVec.toInt_ofInt, BitVec.toInt_ofInt, Int.shiftRight_eq_div_pow]
    have h1 : Int.bmod (a : Int) (2 ^ 32) = a := by
      rw [Int.bmod_def]
      show (if (a : Int) % 4294967296 < (4294967296 + 1) / 2 then (a : Int) % 4294967296 else (a : Int) % 4294967296 - 4294967296) = a
      split <;> omega
    have h2 : Int.bmod ((a : Int) / 32) (2 ^ 32) = (a : Int) / 32 := by
      rw [Int.bmod_def]
      show (if (a : Int) / 32 % 4294967296 < (4294967296 + 1) / 2 then (a : Int) / 32 % 4294967296 else (a : Int) / 32 % 4294967296 - 4294967296) = (a : Int) / 32
      split <;> omega
    rw [h1, h2]; rfl
  unfold zshr
  rw [e1, i32_to (by unfold in32; omega)]
theorem kc_b {k : Int} (hk : 0 ≤ k ∧ k ≤ 17 ∧ k ≠ 12) : 0 ≤ kc k ∧ kc k < 32 := by
  have h : k = 0 ∨ k = 1 ∨ k = 2 ∨ k = 3 ∨ k = 4 ∨ k = 5 ∨ k = 6 ∨ k = 7 ∨ k = 8 ∨ k = 9 ∨ k = 10 ∨ k = 11 ∨ k = 13 ∨ k = 14 ∨ k = 15 ∨ k = 16 ∨ k = 17 := by omega
  rcases h with u | u | u | u | u | u | u | u | u | u | u | u | u | u | u | u | u <;> subst u <;> decide
theorem enc_k {c : Int × Int} (hk : 0 ≤ c.1 ∧ c.1 ≤ 17 ∧ c.1 ≠ 12) (hv : 0 ≤ c.2 ∧ c.2 ≤ 99999) : zand (encC c) 31 = kc c.1 ∧ zshr (encC c) 5 = c.2 := by
  have hb := kc_b hk
  have e : encC c = kc c.1 + 32 * c.2 := enc_eq hb hv
  rw [e, zand31, zshr5 (by omega)]
  omega
