/-! ===== bits of small numbers ===== -/
theorem tn32 {n : Nat} (h : n < 2147483648) : (Int32.ofInt (n : Int)).toBitVec.toNat = n := by
  have e : (Int32.ofInt (n : Int)).toBitVec = BitVec.ofInt 32 (n : Int) := rfl
  rw [e, BitVec.toNat_ofInt]
  omega
theorem toInt_small {z : Int32} (h : z.toBitVec.toNat < 2147483648) : z.toInt = (z.toBitVec.toNat : Int) := by
  show z.toBitVec.toInt = _
  rw [BitVec.toInt_eq_toNat_of_lt]
  omega
theorem landN {n m : Nat} (hn : n < 2147483648) (hm : m < 2147483648) : landI (n : Int) (m : Int) = ((n &&& m : Nat) : Int) := by
  unfold landI
  have e : (Int32.ofInt (n : Int) &&& Int32.ofInt (m : Int)).toBitVec.toNat = n &&& m := by
    show ((Int32.ofInt (n : Int)).toBitVec &&& (Int32.ofInt (m : Int)).toBitVec).toNat = _
    rw [BitVec.toNat_and, tn32 hn, tn32 hm]
  have hl : n &&& m ≤ n := Nat.and_le_left
  rw [toInt_small (by rw [e]; omega), e]
theorem lorN {n m : Nat} (hn : n < 2147483648) (hm : m < 2147483648) : lorI (n : Int) (m : Int) = ((n ||| m : Nat) : Int) := by
  unfold lorI
  have e : (Int32.ofInt (n : Int) ||| Int32.ofInt (m : Int)).toBitVec.toNat = n ||| m := by
    show ((Int32.ofInt (n : Int)).toBitVec ||| (Int32.ofInt (m : Int)).toBitVec).toNat = _
    rw [BitVec.toNat_or, tn32 hn, tn32 hm]
  have hl : n ||| m < 2 ^ 31 := Nat.or_lt_two_pow (by omega) (by omega)
  rw [toInt_small (by rw [e]; omega), e]
theorem lxorN {n m : Nat} (hn : n < 2147483648) (hm : m < 2147483648) : lxorI (n : Int) (m : Int) = ((n ^^^ m : Nat) : Int) := by
  unfold lxorI
  have e : (Int32.ofInt (n : Int) ^^^ Int32.ofInt (m : Int)).toBitVec.toNat = n ^^^ m := by
    show ((Int32.ofInt (n : Int)).toBitVec ^^^ (Int32.ofInt (m : Int)).toBitVec).toNat = _
    rw [BitVec.toNat_xor, tn32 hn, tn32 hm]
  have hl : n ^^^ m < 2 ^ 31 := Nat.xor_lt_two_pow (by omega) (by omega)
  rw [toInt_small (by rw [e]; omega), e]
theorem lxor_range {x y : Int} (hx : 0 ≤ x ∧ x ≤ 131071) (hy : 0 ≤ y ∧ y ≤ 255) : 0 ≤ lxorI x y ∧ lxorI x y ≤ 131071 := by
  obtain ⟨n, rfl⟩ := Int.eq_ofNat_of_zero_le hx.1
  obtain ⟨m, rfl⟩ := Int.eq_ofNat_of_zero_le hy.1
  have h := lxorN (n := n) (m := m) (by omega) (by omega)
  have hl : n ^^^ m < 2 ^ 17 := Nat.xor_lt_two_pow (by omega) (by omega)
  have h2 : lxorI (Int.ofNat n) (Int.ofNat m) = ((n ^^^ m : Nat) : Int) := h
  omega
theorem sh31 {k : Nat} (hk : k < 32) : (Int32.ofInt (k : Int) &&& 31).toBitVec.toNat = k := by
  show ((Int32.ofInt (k : Int)).toBitVec &&& 31#32).toNat = _
  rw [BitVec.toNat_and, tn32 (by omega)]
  have : ∀ k, k < 32 → k &&& (31#32).toNat = k := by decide
  exact this k hk
theorem smod32 {k : Nat} (hk : k < 32) : ((Int32.ofInt (k : Int) &&& 31).toBitVec.smod 32) = BitVec.ofNat 32 k := by
  have e : (Int32.ofInt (k : Int) &&& 31).toBitVec = BitVec.ofNat 32 k := by
    apply BitVec.eq_of_toNat_eq
    rw [sh31 hk]
    simp
    omega
  rw [e]
  have : ∀ k, k < 32 → (BitVec.ofNat 32 k).smod 32 = BitVec.ofNat 32 k := by decide
  exact this k hk
theorem shlN {n k : Nat} (hk : k < 32) (hn : n * 2 ^ k < 2147483648) : shlI (n : Int) (k : Int) = ((n * 2 ^ k : Nat) : Int) := by
  unfold shlI
  have hp : 0 < 2 ^ k := Nat.two_pow_pos k
  have hn' : n < 2147483648 := Nat.lt_of_le_of_lt (Nat.le_mul_of_pos_right n hp) hn
  have e : (Int32.ofInt (n : Int) <<< (Int32.ofInt (k : Int) &&& 31)).toBitVec.toNat = n * 2 ^ k := by
    show ((Int32.ofInt (n : Int)).toBitVec <<< ((Int32.ofInt (k : Int) &&& 31).toBitVec.smod 32)).toNat = _
    rw [smod32 hk, BitVec.shiftLeft_eq', BitVec.toNat_shiftLeft, tn32 hn']
    rw [BitVec.toNat_ofNat, Nat.mod_eq_of_lt (show k < 2 ^ 32 by omega), Nat.shiftLeft_eq]
    exact Nat.mod_eq_of_lt (by omega)
  rw [toInt_small (by rw [e]; omega), e]
theorem shrN {n k : Nat} (hk : k < 32) (hn : n < 2147483648) : shrI (n : Int) (k : Int) = ((n / 2 ^ k : Nat) : Int) := by
  unfold shrI
  have e : (Int32.ofInt (n : Int) >>> (Int32.ofInt (k : Int) &&& 31)).toBitVec.toNat = n / 2 ^ k := by
    show (BitVec.sshiftRight' (Int32.ofInt (n : Int)).toBitVec ((Int32.ofInt (k : Int) &&& 31).toBitVec.smod 32)).toNat = _
    rw [smod32 hk]
    unfold BitVec.sshiftRight'
    rw [BitVec.toNat_ofNat, Nat.mod_eq_of_lt (show k < 2 ^ 32 by omega), BitVec.sshiftRight_eq_of_msb_false, BitVec.toNat_ushiftRight, tn32 hn, Nat.shiftRight_eq_div_pow]
    rw [BitVec.msb_eq_false_iff_two_mul_lt, tn32 hn]
    omega
  have hl : n / 2 ^ k ≤ n := Nat.div_le_self n _
  rw [toInt_small (by rw [e]; omega), e]
/-- the test of a bit -/
theorem bitN {n k : Nat} (hk : k < 32) (hn : n < 2147483648) : landI (shrI (n : Int) (k : Int)) 1 = if n.testBit k then 1 else 0 := by
  rw [shrN hk hn]
  have h := landN (n := n / 2 ^ k) (m := 1) (Nat.lt_of_le_of_lt (Nat.div_le_self n _) hn) (by omega)
  have h2 : landI ((n / 2 ^ k : Nat) : Int) 1 = ((n / 2 ^ k &&& 1 : Nat) : Int) := h
  rw [h2, Nat.and_one_is_mod, Nat.testBit_eq_decide_div_mod_eq]
  rcases Nat.mod_two_eq_zero_or_one (n / 2 ^ k) with e | e <;> rw [e] <;> rfl
theorem shl1 {k : Nat} (hk : k < 31) : shlI 1 (k : Int) = ((2 ^ k : Nat) : Int) := by
  have : 2 ^ k ≤ 2 ^ 30 := Nat.pow_le_pow_right (by decide) (by omega)
  have h := shlN (n := 1) (k := k) (by omega) (by omega)
  rw [Nat.one_mul] at h
  exact h
