/-! ===== how many bits ===== -/
theorem ushrN {n k : Nat} (hn : n < 2147483648) (hk : ((Int32.ofInt (k : Int)).toUInt32 &&& Int32.toUInt32 31).toNat % 32 = k) : ushrI (n : Int) (k : Int) = ((n / 2 ^ k : Nat) : Int) := by
  unfold ushrI
  have e0 : (Int32.ofInt (n : Int)).toUInt32.toNat = n := tn32 hn
  have e : ((Int32.ofInt (n : Int)).toUInt32 >>> ((Int32.ofInt (k : Int)).toUInt32 &&& Int32.toUInt32 31)).toNat = n / 2 ^ k := by
    rw [UInt32.toNat_shiftRight, hk, Nat.shiftRight_eq_div_pow, e0]
  have hle : n / 2 ^ k ≤ n := Nat.div_le_self _ _
  have h2 : (((Int32.ofInt (n : Int)).toUInt32 >>> ((Int32.ofInt (k : Int)).toUInt32 &&& Int32.toUInt32 31)).toInt32).toBitVec.toNat = n / 2 ^ k := e
  rw [toInt_small (by rw [h2]; omega), h2]
def pcR (n : Nat) : Nat → Nat
  | 0 => 0
  | k + 1 => pcR n k + (if n.testBit k = true then 1 else 0)
/-- how many of the lowest 24 bits -/
def popc (n : Nat) : Nat := pcR n 24
def T3 (p q r : Nat) : Nat := p + 256 * q + 65536 * r
theorem andS {x y : Nat} : x &&& y = ((x % 256) &&& (y % 256)) + 256 * ((x / 256) &&& (y / 256)) := by
  have h1 := Nat.and_mod_two_pow (a := x) (b := y) (n := 8)
  have h2 := Nat.and_div_two_pow (a := x) (b := y) (n := 8)
  have e : (2 : Nat) ^ 8 = 256 := by decide
  rw [e] at h1 h2
  rw [← h1, ← h2]
  omega
theorem andT {p q r m K K1 K2 : Nat} (hp : p < 256) (hq : q < 256) (hr : r < 256) (h0 : K % 256 = m ∧ K / 256 = K1) (h1 : K1 % 256 = m ∧ K1 / 256 = K2) (h2 : K2 % 256 = m) : T3 p q r &&& K = T3 (p &&& m) (q &&& m) (r &&& m) := by
  unfold T3
  rw [andS (x := p + 256 * q + 65536 * r), show (p + 256 * q + 65536 * r) % 256 = p by omega, show (p + 256 * q + 65536 * r) / 256 = q + 256 * r by omega, h0.1, h0.2]
  rw [andS (x := q + 256 * r), show (q + 256 * r) % 256 = q by omega, show (q + 256 * r) / 256 = r by omega, h1.1, h1.2]
  rw [andS (x := r) (y := K2), show r % 256 = r by omega, show r / 256 = 0 by omega, h2, Nat.zero_and]
  omega
def z1 (a : Nat) : Nat := a - ((a / 2) &&& 85)
def z2 (a : Nat) : Nat := (z1 a &&& 51) + ((z1 a / 4) &&& 51)
theorem l_z1 : ∀ a, a < 256 → ((a / 2) &&& 85) ≤ a ∧ z1 a < 256 := by decide +kernel
theorem l_z2 : ∀ a, a < 256 → z2 a % 16 ≤ 4 ∧ z2 a / 16 ≤ 4 ∧ ((z2 a + z2 a / 16) % 16) = pcR a 8 ∧ pcR a 8 ≤ 8 := by decide +kernel
theorem l_m1 : ∀ a, a < 128 → ∀ e, e < 2 → (a + 128 * e) &&& 85 = a &&& 85 := by decide
theorem l_m2 : ∀ a, a < 64 → ∀ e, e < 4 → (a + 64 * e) &&& 51 = a &&& 51 := by decide
theorem pcR_congr {n m : Nat} : ∀ k, (∀ i, i < k → n.testBit i = m.testBit i) → pcR n k = pcR m k
  | 0, _ => rfl
  | k + 1, h => by
    have ih := pcR_congr k (fun i hi => h i (by omega))
    unfold pcR
    rw [ih, h k (by omega)]
theorem pcR_add (n j : Nat) : ∀ k, pcR n (j + k) = pcR n j + pcR (n / 2 ^ j) k
  | 0 => rfl
  | k + 1 => by
    have ih := pcR_add n j k
    show pcR n (j + k) + (if n.testBit (j + k) = true then 1 else 0) = pcR n j + (pcR (n / 2 ^ j) k + (if (n / 2 ^ j).testBit k = true then 1 else 0))
    have e : (n / 2 ^ j).testBit k = n.testBit (j + k) := by rw [Nat.testBit_div_two_pow, Nat.add_comm]
    rw [ih, e]
    omega
theorem popc_T {a b c : Nat} (ha : a < 256) (hb : b < 256) (hc : c < 256) : popc (T3 a b c) = pcR a 8 + pcR b 8 + pcR c 8 := by
  have h1 := pcR_add (T3 a b c) 8 16
  have h2 := pcR_add (T3 a b c / 2 ^ 8) 8 8
  have e1 : T3 a b c / 2 ^ 8 = b + 256 * c := by unfold T3; rw [show (2 : Nat) ^ 8 = 256 by decide]; omega
  have e2 : T3 a b c / 2 ^ 8 / 2 ^ 8 = c := by rw [e1, show (2 : Nat) ^ 8 = 256 by decide]; omega
  have f1 : pcR (T3 a b c) 8 = pcR a 8 := pcR_congr 8 (fun i hi => by
    have := Nat.testBit_mod_two_pow (T3 a b c) 8 i
    have e : T3 a b c % 2 ^ 8 = a := by unfold T3; rw [show (2 : Nat) ^ 8 = 256 by decide]; omega
    rw [e, decide_eq_true hi, Bool.true_and] at this
    exact this.symm)
  have f2 : pcR (b + 256 * c) 8 = pcR b 8 := pcR_congr 8 (fun i hi => by
    have := Nat.testBit_mod_two_pow (b + 256 * c) 8 i
    have e : (b + 256 * c) % 2 ^ 8 = b := by rw [show (2 : Nat) ^ 8 = 256 by decide]; omega
    rw [e, decide_eq_true hi, Bool.true_and] at this
    exact this.symm)
  rw [show 8 + 8 = 16 by decide] at h2
  rw [h2, e2, e1, f1, f2] at h1
  have h3 : popc (T3 a b c) = pcR (T3 a b c) (8 + 16) := rfl
  omega
theorem sum3 {p q r : Nat} (hp : p ≤ 8) (hq : q ≤ 8) (hr : r ≤ 8) : (T3 p q r + T3 p q r / 256 + (T3 p q r + T3 p q r / 256) / 65536) % 64 = p + q + r := by
  have h1 : T3 p q r / 256 = q + 256 * r := by unfold T3; omega
  have h2 : (T3 p q r + (q + 256 * r)) / 65536 = r := by unfold T3; omega
  rw [h1, h2]
  unfold T3
  omega
theorem bitsN {n : Nat} (hn : n < 16777216) : ∃ x1 x2 x3 : Nat, x1 = n - (n / 2 &&& 1431655765) ∧ (n / 2 &&& 1431655765) ≤ n ∧ x1 < 16777216 ∧ x2 = (x1 &&& 858993459) + (x1 / 4 &&& 858993459) ∧ x2 < 16777216 ∧ x3 = (x2 + x2 / 16 &&& 252645135) ∧ x3 < 16777216 ∧ (x3 + x3 / 256 + (x3 + x3 / 256) / 65536) % 64 = popc n := by
  obtain ⟨a, b, c, ha, hb, hc, e⟩ : ∃ a b c, a < 256 ∧ b < 256 ∧ c < 256 ∧ n = T3 a b c := ⟨n % 256, n / 256 % 256, n / 65536, by omega, by omega, by omega, by unfold T3; omega⟩
  have A1 := l_z1 a ha
  have B1 := l_z1 b hb
  have C1 := l_z1 c hc
  have d1 : n / 2 = T3 (a / 2 + 128 * (b % 2)) (b / 2 + 128 * (c % 2)) (c / 2) := by rw [e]; unfold T3; omega
  have f1 : n / 2 &&& 1431655765 = T3 (a / 2 &&& 85) (b / 2 &&& 85) (c / 2 &&& 85) := by
    rw [d1, andT (m := 85) (K1 := 5592405) (K2 := 21845) (by omega) (by omega) (by omega) (by decide) (by decide) (by decide), l_m1 (a / 2) (by omega) (b % 2) (by omega), l_m1 (b / 2) (by omega) (c % 2) (by omega)]
  have g1 : n - (n / 2 &&& 1431655765) = T3 (z1 a) (z1 b) (z1 c) := by
    rw [f1, e]; unfold T3 z1; omega
  have d2 : T3 (z1 a) (z1 b) (z1 c) / 4 = T3 (z1 a / 4 + 64 * (z1 b % 4)) (z1 b / 4 + 64 * (z1 c % 4)) (z1 c / 4) := by unfold T3; omega
  have f2 : T3 (z1 a) (z1 b) (z1 c) &&& 858993459 = T3 (z1 a &&& 51) (z1 b &&& 51) (z1 c &&& 51) := andT (K1 := 3355443) (K2 := 13107) (by omega) (by omega) (by omega) (by decide) (by decide) (by decide)
  have f3 : T3 (z1 a) (z1 b) (z1 c) / 4 &&& 858993459 = T3 (z1 a / 4 &&& 51) (z1 b / 4 &&& 51) (z1 c / 4 &&& 51) := by
    rw [d2, andT (m := 51) (K1 := 3355443) (K2 := 13107) (by omega) (by omega) (by omega) (by decide) (by decide) (by decide), l_m2 (z1 a / 4) (by omega) (z1 b % 4) (by omega), l_m2 (z1 b / 4) (by omega) (z1 c % 4) (by omega)]
  have A2 := l_z2 a ha
  have B2 := l_z2 b hb
  have C2 := l_z2 c hc
  have g2 : (T3 (z1 a) (z1 b) (z1 c) &&& 858993459) + (T3 (z1 a) (z1 b) (z1 c) / 4 &&& 858993459) = T3 (z2 a) (z2 b) (z2 c) := by
    rw [f2, f3]; unfold T3 z2; omega
  have d3 : T3 (z2 a) (z2 b) (z2 c) + T3 (z2 a) (z2 b) (z2 c) / 16 = T3 (z2 a + z2 a / 16 + 16 * (z2 b % 16)) (z2 b + z2 b / 16 + 16 * (z2 c % 16)) (z2 c + z2 c / 16) := by unfold T3; omega
  have m15 : ∀ x, x &&& 15 = x % 16 := fun x => Nat.and_two_pow_sub_one_eq_mod x 4
  have g3 : T3 (z2 a) (z2 b) (z2 c) + T3 (z2 a) (z2 b) (z2 c) / 16 &&& 252645135 = T3 (pcR a 8) (pcR b 8) (pcR c 8) := by
    rw [d3, andT (m := 15) (K1 := 986895) (K2 := 3855) (by omega) (by omega) (by omega) (by decide) (by decide) (by decide), m15, m15, m15]
    unfold T3; omega
  have lt : ∀ {p q r : Nat}, p < 256 → q < 256 → r < 256 → T3 p q r < 16777216 := by intro p q r; unfold T3; omega
  refine ⟨T3 (z1 a) (z1 b) (z1 c), T3 (z2 a) (z2 b) (z2 c), T3 (pcR a 8) (pcR b 8) (pcR c 8), g1.symm, ?_, lt (by omega) (by omega) (by omega), g2.symm, lt (by omega) (by omega) (by omega), g3.symm, lt (by omega) (by omega) (by omega), ?_⟩
  · rw [f1, e]; unfold T3; omega
  · rw [e, popc_T ha hb hc]; exact sum3 A2.2.2.2 B2.2.2.2 C2.2.2.2
section Ones
variable {M : Mm} {k : Int → Mm → Prop} {n : Nat}
theorem b_bits (hn : n < 16777216) (hk : k (popc n : Nat) M) : Bd (wJ6_bitCount_0f7a4 (n : Int) M) k := by
  obtain ⟨x1, x2, x3, e1, l1, b1, e2, b2, e3, b3, e4⟩ := bitsN hn
  apply Bd.of; unfold wJ6_bitCount_0f7a4
  have u1 : ushrI (n : Int) 1 = ((n / 2 : Nat) : Int) := ushrN (k := 1) (by omega) (by decide)
  have a1 : landI ((n / 2 : Nat) : Int) 1431655765 = ((n / 2 &&& 1431655765 : Nat) : Int) := landN (m := 1431655765) (by omega) (by decide)
  have s1 : (n : Int) - ((n / 2 &&& 1431655765 : Nat) : Int) = (x1 : Int) := by omega
  have a2 : landI (x1 : Int) 858993459 = ((x1 &&& 858993459 : Nat) : Int) := landN (m := 858993459) (by omega) (by decide)
  have u2 : ushrI (x1 : Int) 2 = ((x1 / 4 : Nat) : Int) := ushrN (k := 2) (by omega) (by decide)
  have a3 : landI ((x1 / 4 : Nat) : Int) 858993459 = ((x1 / 4 &&& 858993459 : Nat) : Int) := landN (m := 858993459) (by omega) (by decide)
  have s2 : ((x1 &&& 858993459 : Nat) : Int) + ((x1 / 4 &&& 858993459 : Nat) : Int) = (x2 : Int) := by omega
  have u3 : ushrI (x2 : Int) 4 = ((x2 / 16 : Nat) : Int) := ushrN (k := 4) (by omega) (by decide)
  have s3 : (x2 : Int) + ((x2 / 16 : Nat) : Int) = ((x2 + x2 / 16 : Nat) : Int) := by omega
  have a4 : landI ((x2 + x2 / 16 : Nat) : Int) 252645135 = ((x2 + x2 / 16 &&& 252645135 : Nat) : Int) := landN (m := 252645135) (by omega) (by decide)
  have u4 : ushrI (x3 : Int) 8 = ((x3 / 256 : Nat) : Int) := ushrN (k := 8) (by omega) (by decide)
  have s4 : (x3 : Int) + ((x3 / 256 : Nat) : Int) = ((x3 + x3 / 256 : Nat) : Int) := by omega
  have u5 : ushrI ((x3 + x3 / 256 : Nat) : Int) 16 = (((x3 + x3 / 256) / 65536 : Nat) : Int) := ushrN (k := 16) (by omega) (by decide)
  have s5 : ((x3 + x3 / 256 : Nat) : Int) + (((x3 + x3 / 256) / 65536 : Nat) : Int) = ((x3 + x3 / 256 + (x3 + x3 / 256) / 65536 : Nat) : Int) := by omega
  have a5 : landI ((x3 + x3 / 256 + (x3 + x3 / 256) / 65536 : Nat) : Int) 63 = ((x3 + x3 / 256 + (x3 + x3 / 256) / 65536 &&& 63 : Nat) : Int) := landN (m := 63) (by omega) (by decide)
  have m63 : x3 + x3 / 256 + (x3 + x3 / 256) / 65536 &&& 63 = popc n := by
    rw [show (63 : Nat) = 2 ^ 6 - 1 by decide, Nat.and_two_pow_sub_one_eq_mod]
    exact e4
  rw [u1, a1, s1, a2, u2, a3, s2, u3, s3, a4, ← e3, u4, s4, u5, s5, a5, m63]
  exact hk
theorem pcR_le (n : Nat) : ∀ k, pcR n k ≤ k
  | 0 => Nat.le_refl _
  | k + 1 => by
    have ih := pcR_le n k
    unfold pcR
    split <;> omega
theorem popc_le : popc n ≤ 24 := pcR_le n 24
theorem l_ones {Q : Int → Mm → Prop} (hn : n < 2147483648) (hk : Q (popc n : Nat) M) : ∀ (f j : Nat), j ≤ 24 → 24 - j < f → wX12_ones_4 Q (n : Int) f (pcR n j : Nat) (j : Int) M := by
  intro f
  induction f with
  | zero => intro j h1 h2; omega
  | succ f ih =>
    intro j h1 h2
    unfold wX12_ones_4
    refine ⟨(inRof ⟨by omega, by omega⟩), ?_⟩
    by_cases c : j < 24
    · rw [if_pos (by omega), bitN (by omega) hn]
      have ih := ih (j + 1) (by omega) (by omega)
      have e : pcR n (j + 1) = pcR n j + (if n.testBit j = true then 1 else 0) := rfl
      rw [e] at ih
      by_cases q : n.testBit j = true
      · rw [if_pos q]; rw [if_pos q] at ih; exact ih
      · rw [if_neg q]; rw [if_neg q] at ih; exact ih
    · rw [if_neg (by omega)]
      rw [show j = 24 by omega]
      exact hk
theorem b_ones (hn : n < 2147483648) (hk : k (popc n : Nat) M) : Bd (wX12_ones (n : Int) M) k := by
  apply Bd.of; unfold wX12_ones
  exact ⟨25, l_ones hn hk 25 0 (by omega) (by omega)⟩
end Ones
