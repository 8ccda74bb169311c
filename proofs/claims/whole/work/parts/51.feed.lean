/-! ===== feed, seal, found ===== -/
theorem mulb {a b A B : Int} (ha : 0 ≤ a) (ha' : a ≤ A) (hb : -B ≤ b) (hb' : b ≤ B) (hB : 0 ≤ B) : -(A * B) ≤ a * b ∧ a * b ≤ A * B := by
  have h1 : a * b ≤ a * B := Int.mul_le_mul_of_nonneg_left hb' ha
  have h2 : a * B ≤ A * B := Int.mul_le_mul_of_nonneg_right ha' hB
  have h3 : a * (-B) ≤ a * b := Int.mul_le_mul_of_nonneg_left hb ha
  rw [Int.mul_neg] at h3
  omega
theorem land255 (y : Int) : (0 ≤ landI y 255 ∧ landI y 255 ≤ 255) ∧ i2bI y = (if landI y 255 < 128 then landI y 255 else landI y 255 - 256) := by
  have e1 : landI y 255 = (((Int32.ofInt y).toBitVec.toNat % 256 : Nat) : Int) := by
    unfold landI
    have e : (Int32.ofInt y &&& Int32.ofInt 255).toBitVec.toNat = (Int32.ofInt y).toBitVec.toNat % 256 := by
      show ((Int32.ofInt y).toBitVec &&& 255#32).toNat = _
      rw [BitVec.toNat_and]
      show (Int32.ofInt y).toBitVec.toNat &&& (2 ^ 8 - 1) = _
      rw [Nat.and_two_pow_sub_one_eq_mod]
    rw [toInt_small (by rw [e]; omega), e]
  have e2 : i2bI y = (Int32.ofInt y).toInt.bmod 256 := by
    unfold i2bI
    rw [Int8.toInt_toInt32, Int32.toInt_toInt8]
  have e3 : (Int32.ofInt y).toInt = (Int32.ofInt y).toBitVec.toInt := rfl
  have e4 := BitVec.toInt_eq_toNat_cond (Int32.ofInt y).toBitVec
  have h32 : (Int32.ofInt y).toBitVec.toNat < 2 ^ 32 := (Int32.ofInt y).toBitVec.isLt
  rw [e1, e2, e3, e4]
  generalize (Int32.ofInt y).toBitVec.toNat = t at *
  rw [Int.bmod_def]
  refine ⟨⟨by omega, by omega⟩, ?_⟩
  split <;> split <;> split <;> omega
theorem i2b_i2b (y : Int) : i2bI (i2bI y) = i2bI y := by
  have h1 : ∀ z : Int8, z.toInt32.toInt8 = z := fun z => by simp
  unfold i2bI
  rw [Int32.ofInt_toInt, h1]
/-- the j-th byte of a number, the highest first -/
def byteOf (x j : Int) : Int := landI (shrI x (24 - 8 * j)) 255
theorem l_append {Q : Mm → Prop} {x : Int} : ∀ (f : Nat) (j : Int) (M : Mm), 0 ≤ j → j ≤ 4 → 4 - j < (f : Int) → 0 ≤ M 88 2 → M 88 2 + (4 - j) ≤ 400 → (∀ M', (∀ c : Nat, c ≠ 88 → c ≠ 89 → M' c = M c) → M' 88 2 = M 88 2 + (4 - j) → (∀ s, s ≠ 2 → M' 88 s = M 88 s) → (∀ i, 0 ≤ i → i < 4 - j → M' 89 (M 88 2 + i) = byteOf x (j + i)) → (∀ i, i < M 88 2 → M' 89 i = M 89 i) → Q M') → wX10_append_3 Q x f (24 - 8 * j) M := by
  intro f
  induction f with
  | zero => intro j M h0 h1 h2; omega
  | succ f ih =>
    intro j M h0 h1 h2 h3 h4 hk
    unfold wX10_append_3
    refine ⟨inRof ⟨by omega, by omega⟩, ?_⟩
    by_cases c : 24 - 8 * j < 0
    · rw [if_pos c]
      have : j = 4 := by omega
      subst this
      exact hk M (fun _ _ _ => rfl) (by omega) (fun _ _ => rfl) (fun i g0 g1 => by omega) (fun _ _ => rfl)
    · rw [if_neg c]
      refine ⟨inRof ⟨by omega, by omega⟩, ?_⟩
      rw [if_pos (by omega)]
      refine ⟨⟨h3, by omega⟩, ?_⟩
      rw [show 24 - 8 * j + -8 = 24 - 8 * (j + 1) by omega]
      have e88 : up (up M 89 (M 88 2) (landI (shrI x (24 - 8 * j)) 255)) 88 2 (M 88 2 + 1) 88 2 = M 88 2 + 1 := up_eq
      refine ih (j + 1) _ (by omega) (by omega) (by omega) (by rw [e88]; omega) (by rw [e88]; omega) (fun M' k1 k2 k3 k4 k5 => ?_)
      rw [e88] at k2 k4 k5
      refine hk M' (fun c' q1 q2 => by rw [k1 c' q1 q2, up_cell q1, up_cell q2]) (by rw [k2]; omega) (fun s q => by rw [k3 s q, up_nei q, up_ne (by decide)]) (fun i g0 g1 => ?_) (fun i g => ?_)
      · by_cases q : i = 0
        · subst q
          rw [show M 88 2 + 0 = M 88 2 by omega, k5 _ (by omega), up_ne (by decide), up_eq, show j + 0 = j by omega]
          rfl
        · have := k4 (i - 1) (by omega) (by omega)
          rw [show M 88 2 + 1 + (i - 1) = M 88 2 + i by omega, show j + 1 + (i - 1) = j + i by omega] at this
          exact this
      · rw [k5 i (by omega), up_ne (by decide), up_nei (by omega)]
theorem b_append {M : Mm} {k : Mm → Prop} {x : Int} (h3 : 0 ≤ M 88 2) (h4 : M 88 2 + 4 ≤ 400) (hk : ∀ M', (∀ c : Nat, c ≠ 88 → c ≠ 89 → M' c = M c) → M' 88 2 = M 88 2 + 4 → (∀ s, s ≠ 2 → M' 88 s = M 88 s) → (∀ i, 0 ≤ i → i < 4 → M' 89 (M 88 2 + i) = byteOf x i) → (∀ i, i < M 88 2 → M' 89 i = M 89 i) → k M') : Bv (wX10_append x M) k := by
  apply Bv.of; unfold wX10_append
  refine ⟨5, ?_⟩
  have := l_append (Q := k) (x := x) 5 0 M (by omega) (by omega) (by omega) h3 (by omega) (fun M' k1 k2 k3 k4 k5 => hk M' k1 (by omega) k3 (fun i g0 g1 => by have := k4 i g0 (by omega); rw [show (0 : Int) + i = i by omega] at this; exact this) k5)
  exact this
theorem l_mfeed {Q : Int → Mm → Prop} {T : Int} : ∀ (f : Nat) (v : Int) (M : Mm), 0 ≤ v → v ≤ 20 → 20 - v < (f : Int) → M 102 25 = T → 0 ≤ T → T + 20 ≤ 400 → (∀ M', (∀ c : Nat, c ≠ 114 → M' c = M c) → (∀ i, v ≤ i → i < 20 → M' 114 (T + i) = i2bI (shrI (M 116 (Int.tdiv i 4)) (24 - 8 * Int.tmod i 4))) → (∀ i, i < T + v → M' 114 i = M 114 i) → wX12_feed_101 Q M') → wX12_feed_55 Q f v M := by
  intro f
  induction f with
  | zero => intro v M h0 h1 h2; omega
  | succ f ih =>
    intro v M h0 h1 h2 hT h3 h4 hk
    unfold wX12_feed_55
    refine ⟨inRof ⟨by omega, by omega⟩, ?_⟩
    by_cases c : v < 20
    · rw [if_pos c, hT]
      have td : Int.tdiv v 4 = v / 4 := Int.tdiv_eq_ediv_of_nonneg h0
      refine ⟨⟨by omega, by omega⟩, ⟨by omega, by omega⟩, ?_⟩
      refine ih (v + 1) _ (by omega) (by omega) (by omega) (by rw [up_ne (by decide)]; exact hT) h3 h4 (fun M' k1 k2 k3 => hk M' (fun c' q => by rw [k1 c' q, up_cell q]) (fun i g0 g1 => ?_) (fun i g => ?_))
      · by_cases q : i = v
        · subst q
          rw [k3 _ (by omega), up_eq, i2b_i2b]
        · rw [k2 i (by omega) g1, up_ne (by decide)]
      · rw [k3 i (by omega), up_nei (by omega)]
    · rw [if_neg c]
      exact hk M (fun _ _ => rfl) (fun i g0 g1 => by omega) (fun _ _ => rfl)
section Feed
variable {M : Mm} {k : Mm → Prop} {a b c d e : Int}
set_option maxHeartbeats 1000000 in
theorem op_feed (hI : Inv M) (hk : ∀ M, Inv M → k M) : Bd (wX11_feed a b c d e M) (fun r1 M1 => Bd (wX12_feed a b c d e M1) (fun r2 M2 => inR r1 ∧ inR r2 ∧ r1 = r2 ∧ k M2)) := by
  have hI' := hI
  obtain ⟨i1, i2, i3, i4, i5, i6, i7, ⟨t1, t2, t3⟩, i9, i10, i11⟩ := hI'
  apply Bd.of; unfold wX11_feed
  apply Bd.of; unfold wX10_hasRoom
  refine ⟨inRof ⟨by omega, by omega⟩, ?_⟩
  by_cases q : M 88 2 + 4 * 5 ≤ 400
  · rw [if_pos q]
    refine ⟨inR1, ?_⟩
    rw [if_neg (by decide)]
    generalize hL : M 88 2 = L at *
    refine b_append (by omega) (by omega) (fun M1 a1 a2 a3 a4 a5 => ?_)
    rw [hL] at a2 a4 a5
    refine b_append (by omega) (by omega) (fun M2 b1 b2 b3 b4 b5 => ?_)
    rw [a2] at b2 b4 b5
    refine b_append (by omega) (by omega) (fun M3 c1 c2 c3 c4 c5 => ?_)
    rw [b2] at c2 c4 c5
    refine b_append (by omega) (by omega) (fun M4 d1 d2 d3 d4 d5 => ?_)
    rw [c2] at d2 d4 d5
    refine b_append (by omega) (by omega) (fun M5 e1 e2 e3 e4 e5 => ?_)
    rw [d2] at e2 e4 e5
    have g : ∀ c : Nat, c ≠ 88 → c ≠ 89 → M5 c = M c := fun c q1 q2 => by rw [e1 c q1 q2, d1 c q1 q2, c1 c q1 q2, b1 c q1 q2, a1 c q1 q2]
    have g88 : ∀ s, s ≠ 2 → M5 88 s = M 88 s := fun s q => by rw [e3 s q, d3 s q, c3 s q, b3 s q, a3 s q]
    have g102 := g 102 (by decide) (by decide)
    apply Bd.of; unfold wX12_feed
    rw [g102, t1.2.2]
    refine ⟨inRof ⟨by omega, by omega⟩, ?_⟩
    rw [if_pos (by omega)]
    refine ⟨21, l_mfeed (T := L) 21 0 _ (by omega) (by omega) (by omega) ?_ (by omega) (by omega) (fun M6 f1 f2 f3 => ?_)⟩
    · repeat rw [up_ne (by decide)]
      rw [g102]; exact t1.2.2
    unfold wX12_feed_101
    have h102 : M6 102 = M 102 := by
      rw [f1 102 (by decide)]
      repeat rw [up_cell (by decide)]
      exact g102
    have gg : ∀ c : Nat, c ≠ 88 → c ≠ 89 → c ≠ 114 → c ≠ 116 → M6 c = M c := fun c q1 q2 q3 q4 => by
      rw [f1 c q3, up_cell q4, up_cell q4, up_cell q4, up_cell q4, up_cell q4, g c q1 q2]
    have gl : ∀ c : Nat, c ≠ 114 → c ≠ 116 → M6 c = M5 c := fun c q3 q4 => by
      rw [f1 c q3, up_cell q4, up_cell q4, up_cell q4, up_cell q4, up_cell q4]
    rw [h102, t1.2.2]
    refine ⟨inRof ⟨by omega, by omega⟩, inRof ⟨by omega, by omega⟩, by omega, hk _ ?_⟩
    refine hI.rest (fun c h1 h2 => by rw [up_cell (by omega), gg c (by omega) (by omega) (by omega) (by omega)]) (by rw [up_cell (by decide), gg 103 (by decide) (by decide) (by decide) (by decide)]) (by rw [up_cell (by decide), gg 104 (by decide) (by decide) (by decide) (by decide)]) (by rw [up_cell (by decide), gg 105 (by decide) (by decide) (by decide) (by decide)]) ?_ ?_ ?_ ?_ ?_ ?_ ?_
    · rw [up_ne (by decide), up_nei (by decide), gg 0 (by decide) (by decide) (by decide) (by decide), h102]; exact i5
    · rw [up_ne (by decide), up_ne (by decide), up_nei (by decide), gg 0 (by decide) (by decide) (by decide) (by decide), h102]; exact i6
    · rw [up_ne (by decide), up_cell (by decide), up_nei (by decide), up_cell (by decide), gg 86 (by decide) (by decide) (by decide) (by decide), gg 87 (by decide) (by decide) (by decide) (by decide), h102, gg 111 (by decide) (by decide) (by decide) (by decide)]; exact i7
    · rw [up_ne (by decide), up_cell (by decide), up_ne (by decide), up_eq, up_cell (by decide), up_nei (by decide), gl 88 (by decide) (by decide), gl 89 (by decide) (by decide), h102, g88 3 (by decide), e2]
      refine ⟨⟨by omega, by omega, by omega⟩, t2, fun i h0 h1 => ?_⟩
      by_cases z : i < L
      · rw [e5 i (by omega), d5 i (by omega), c5 i (by omega), b5 i (by omega), a5 i z, f3 i (by omega)]
        repeat rw [up_ne (by decide)]
        rw [g 114 (by decide) (by decide)]
        exact t3 i h0 z
      · have hm := f2 (i - L) (by omega) (by omega)
        rw [show L + (i - L) = i by omega] at hm
        have td : Int.tdiv (i - L) 4 = (i - L) / 4 := Int.tdiv_eq_ediv_of_nonneg (by omega)
        have tm : Int.tmod (i - L) 4 = (i - L) % 4 := Int.tmod_eq_emod_of_nonneg (by omega)
        have key : ∀ (x j : Int), M5 89 i = byteOf x j → shrI (up (up (up (up (up M5 116 0 a) 116 1 b) 116 2 c) 116 3 d) 116 4 e 116 (Int.tdiv (i - L) 4)) (24 - 8 * Int.tmod (i - L) 4) = shrI x (24 - 8 * j) → (0 ≤ M5 89 i ∧ M5 89 i ≤ 255) ∧ M6 114 i = (if M5 89 i < 128 then M5 89 i else M5 89 i - 256) := by
          intro x j k1 k2
          rw [hm, k2, k1]
          exact land255 (shrI x (24 - 8 * j))
        by_cases z1 : i < L + 4
        · refine key a (i - L) ?_ ?_
          · rw [e5 i (by omega), d5 i (by omega), c5 i (by omega), b5 i (by omega)]
            have := a4 (i - L) (by omega) (by omega)
            rw [show L + (i - L) = i by omega] at this
            exact this
          · rw [show Int.tdiv (i - L) 4 = 0 by omega, show Int.tmod (i - L) 4 = i - L by omega]
            rfl
        · by_cases z2 : i < L + 8
          · refine key b (i - L - 4) ?_ ?_
            · rw [e5 i (by omega), d5 i (by omega), c5 i (by omega)]
              have := b4 (i - L - 4) (by omega) (by omega)
              rw [show L + 4 + (i - L - 4) = i by omega] at this
              exact this
            · rw [show Int.tdiv (i - L) 4 = 1 by omega, show Int.tmod (i - L) 4 = i - L - 4 by omega]
              rfl
          · by_cases z3 : i < L + 12
            · refine key c (i - L - 8) ?_ ?_
              · rw [e5 i (by omega), d5 i (by omega)]
                have := c4 (i - L - 8) (by omega) (by omega)
                rw [show L + 4 + 4 + (i - L - 8) = i by omega] at this
                exact this
              · rw [show Int.tdiv (i - L) 4 = 2 by omega, show Int.tmod (i - L) 4 = i - L - 8 by omega]
                rfl
            · by_cases z4 : i < L + 16
              · refine key d (i - L - 12) ?_ ?_
                · rw [e5 i (by omega)]
                  have := d4 (i - L - 12) (by omega) (by omega)
                  rw [show L + 4 + 4 + 4 + (i - L - 12) = i by omega] at this
                  exact this
                · rw [show Int.tdiv (i - L) 4 = 3 by omega, show Int.tmod (i - L) 4 = i - L - 12 by omega]
                  rfl
              · refine key e (i - L - 16) ?_ ?_
                · have := e4 (i - L - 16) (by omega) (by omega)
                  rw [show L + 4 + 4 + 4 + 4 + (i - L - 16) = i by omega] at this
                  exact this
                · rw [show Int.tdiv (i - L) 4 = 4 by omega, show Int.tmod (i - L) 4 = i - L - 16 by omega]
                  rfl
    · rw [up_ne (by decide), up_cell (by decide), up_nei (by decide), up_cell (by decide), gg 90 (by decide) (by decide) (by decide) (by decide), gg 98 (by decide) (by decide) (by decide) (by decide), h102, gg 122 (by decide) (by decide) (by decide) (by decide)]; exact i9
    · rw [up_ne (by decide), up_cell (by decide), up_nei (by decide), up_cell (by decide), gg 90 (by decide) (by decide) (by decide) (by decide), gg 99 (by decide) (by decide) (by decide) (by decide), h102, gg 124 (by decide) (by decide) (by decide) (by decide)]; exact i10
    · rw [up_ne (by decide), up_cell (by decide), up_nei (by decide), up_cell (by decide), gg 100 (by decide) (by decide) (by decide) (by decide), gg 101 (by decide) (by decide) (by decide) (by decide), h102, gg 125 (by decide) (by decide) (by decide) (by decide)]; exact i11
  · rw [if_neg q]
    refine ⟨inR0, ?_⟩
    rw [if_pos rfl]
    apply Bd.of; unfold wX12_feed
    rw [t1.2.2]
    refine ⟨inRof ⟨by omega, by omega⟩, ?_⟩
    rw [if_neg (by omega)]
    exact ⟨(inRl (by decide)), (inRl (by decide)), rfl, hk M hI⟩
end Feed
