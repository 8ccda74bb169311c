/-! ===== Chooser.search ===== -/
def cnd (g : Nat → Nat) (O T : Nat) : Prop := subs T O ∧ ind g T
/-- what a search leaves -/
def Res (K : Nat → Int) (g : Nat → Nat) (O ch : Nat) (v b : Int) (bs : Nat) (b' : Int) (bs' : Nat) : Prop := (b' = b ∧ bs' = bs ∧ ∀ T, cnd g O T → v + K T ≤ b) ∨ (∃ T, cnd g O T ∧ b' = v + K T ∧ bs' = ch ||| T ∧ b < b' ∧ ∀ T', cnd g O T' → v + K T' ≤ b')
section Search
variable {f : Nat → Int} {g : Nat → Nat} {wt : Nat → Int} {U O T : Nat}
theorem pcR_sub {A C : Nat} (h : subs A C) : ∀ n : Nat, pcR A n ≤ pcR C n
  | 0 => Nat.le_refl _
  | n + 1 => by
    have ih := pcR_sub h n
    unfold pcR
    by_cases q : A.testBit n = true
    · rw [if_pos q, if_pos (h n q)]; omega
    · rw [if_neg q]; omega
theorem pcR_less {A C l : Nat} (h : subs A C) (hl : C.testBit l = true) (hn : ¬ A.testBit l = true) : ∀ n : Nat, l < n → pcR A n < pcR C n
  | 0, h0 => by omega
  | n + 1, h0 => by
    unfold pcR
    by_cases e : l = n
    · subst e
      have := pcR_sub h l
      rw [if_neg hn, if_pos hl]; omega
    · have ih := pcR_less h hl hn n (by omega)
      by_cases q : A.testBit n = true
      · rw [if_pos q, if_pos (h n q)]; omega
      · rw [if_neg q]; omega
theorem gpR_ind {fr j : Nat} (hi : ind g fr) (hj : fr.testBit j = true) : ∀ (n i : Nat), i + n = 24 → gpR g fr n i (2 ^ j) = 2 ^ j
  | 0, _, _ => rfl
  | n + 1, i, h => by
    unfold gpR
    rw [if_neg]
    · exact gpR_ind hi hj n (i + 1) (by omega)
    · rintro ⟨q1, q2⟩
      have hp := pow24 (show j < 24 by
        by_cases z : j < 24
        · exact z
        · exfalso
          have : sd (2 ^ j) (g i) = 0 := q2
          exact absurd hj (by
            intro _
            exact hi j j hj hj (by
              exfalso
              exact absurd q1 (by
                intro _
                omega))))
      exact hi i j q1 hj (sd_zero hp q2 (pow_bit.mpr rfl))
end Search
