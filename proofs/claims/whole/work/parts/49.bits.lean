/-! ===== numbers and their bits ===== -/
theorem nI_bv (n : Nat) : (nI n).toBitVec = BitVec.ofNat 32 n := rfl
theorem nI_or (a b : Nat) : nI a ||| nI b = nI (a ||| b) := by
  apply Int32.toBitVec_inj.mp
  rw [Int32.toBitVec_or, nI_bv, nI_bv, nI_bv, BitVec.ofNat_or]
theorem nI_and (a b : Nat) : nI a &&& nI b = nI (a &&& b) := by
  apply Int32.toBitVec_inj.mp
  rw [Int32.toBitVec_and, nI_bv, nI_bv, nI_bv, BitVec.ofNat_and]
theorem k32 : ∀ k, k < 32 → ((nI k &&& 31).toBitVec.smod 32).toNat = k := by decide +kernel
theorem jsr_nI {m k : Nat} (hm : m < 2 ^ 31) (hk : k < 32) : jsr (nI m) (nI k) = nI (m / 2 ^ k) := by
  unfold jsr
  apply Int32.toBitVec_inj.mp
  rw [Int32.toBitVec_shiftRight]
  have e : (BitVec.ofNat 32 m).msb = false := by
    rw [BitVec.msb_eq_decide]
    simp
    omega
  unfold BitVec.sshiftRight'
  rw [k32 k hk, nI_bv, nI_bv, BitVec.sshiftRight_eq_of_msb_false e]
  apply BitVec.eq_of_toNat_eq
  simp [Nat.shiftRight_eq_div_pow]
  have : m / 2 ^ k ≤ m := Nat.div_le_self _ _
  rw [Nat.mod_eq_of_lt (show m < 4294967296 by omega), Nat.mod_eq_of_lt (show m / 2 ^ k < 4294967296 by omega)]
theorem jsl_nI {m k : Nat} (hk : k < 32) : jsl (nI m) (nI k) = nI (m * 2 ^ k) := by
  unfold jsl
  apply Int32.toBitVec_inj.mp
  rw [Int32.toBitVec_shiftLeft]
  rw [BitVec.shiftLeft_eq', k32 k hk, nI_bv, nI_bv]
  apply BitVec.eq_of_toNat_eq
  simp [Nat.shiftLeft_eq]
