/-! ===== which logs count (the model) ===== -/
def cntC (B : Int → Int) (s kn : Int) (n : Nat) : Prop := B (503 + 9 * (n : Int)) = s ∧ B (508 + 9 * (n : Int)) ≤ kn ∧ B (510 + 9 * (n : Int)) = 0 ∧ rd B (n : Int) 0 ≠ -1
def cntR (B : Int → Int) (s kn : Int) : Nat → Nat
  | 0 => 0
  | n + 1 => if B (503 + 9 * (n : Int)) = s ∧ B (508 + 9 * (n : Int)) ≤ kn ∧ B (510 + 9 * (n : Int)) = 0 ∧ rd B (n : Int) 0 ≠ -1 then cntR B s kn n ||| 2 ^ n else cntR B s kn n
/-- the logs of ship s that count as known on day kn, as bits -/
def cnt (B : Int → Int) (s kn : Int) : Nat := cntR B s kn (B 724).toNat
theorem cntR_lt (B : Int → Int) (s kn : Int) : ∀ n : Nat, cntR B s kn n < 2 ^ n
  | 0 => by show 0 < 2 ^ 0; decide
  | n + 1 => by
    have ih := cntR_lt B s kn n
    have e : 2 ^ (n + 1) = 2 ^ n + 2 ^ n := by rw [Nat.pow_succ]; omega
    show (if _ then cntR B s kn n ||| 2 ^ n else cntR B s kn n) < 2 ^ (n + 1)
    split
    · exact Nat.or_lt_two_pow (by omega) (by rw [e]; have := Nat.two_pow_pos n; omega)
    · omega
theorem cntR_bit (B : Int → Int) (s kn : Int) (i : Nat) : ∀ n : Nat, (cntR B s kn n).testBit i = true ↔ i < n ∧ cntC B s kn i
  | 0 => by
    show (0 : Nat).testBit i = true ↔ _
    simp
  | n + 1 => by
    have ih := cntR_bit B s kn i n
    show (if B (503 + 9 * (n : Int)) = s ∧ B (508 + 9 * (n : Int)) ≤ kn ∧ B (510 + 9 * (n : Int)) = 0 ∧ rd B (n : Int) 0 ≠ -1 then cntR B s kn n ||| 2 ^ n else cntR B s kn n).testBit i = true ↔ _
    by_cases c : B (503 + 9 * (n : Int)) = s ∧ B (508 + 9 * (n : Int)) ≤ kn ∧ B (510 + 9 * (n : Int)) = 0 ∧ rd B (n : Int) 0 ≠ -1
    · rw [if_pos c, Nat.testBit_or, Bool.or_eq_true, ih, Nat.testBit_two_pow, decide_eq_true_eq]
      constructor
      · rintro (⟨h1, h2⟩ | h1)
        · exact ⟨by omega, h2⟩
        · subst h1; exact ⟨by omega, c⟩
      · rintro ⟨h1, h2⟩
        by_cases q : n = i
        · exact Or.inr q
        · exact Or.inl ⟨by omega, h2⟩
    · rw [if_neg c, ih]
      constructor
      · rintro ⟨h1, h2⟩; exact ⟨by omega, h2⟩
      · rintro ⟨h1, h2⟩
        by_cases q : n = i
        · subst q; exact absurd h2 c
        · exact ⟨by omega, h2⟩
section Cnt
variable {M : Mm} {k : Int → Mm → Prop} {s kn : Int} {bb : Mm}
theorem cnt_lt {b : Mm} {B : Int → Int} (n : BkN b B) : cnt B s kn < 16777216 := by
  have h := cntR_lt B s kn (B 724).toNat
  have n3 := n.2.2.2
  have : 2 ^ (B 724).toNat ≤ 2 ^ 24 := Nat.pow_le_pow_right (by decide) (by omega)
  unfold cnt
  omega
theorem l_cnt {Q : Int → Mm → Prop} {N : Nat} (h : BkR bb (M 103)) (hs : inR s) (hkn : inR kn) (hN : M 103 724 = (N : Int)) (hk : Q (cntR (M 103) s kn N : Nat) M) : ∀ (f j : Nat), j ≤ N → N - j < f → wX12_counting_5 Q s kn f (cntR (M 103) s kn j : Nat) (j : Int) M := by
  intro f
  induction f with
  | zero => intro j h1 h2; omega
  | succ f ih =>
    intro j h1 h2
    unfold wX12_counting_5
    have n3 := h.1.2.2.2
    have n0 := h.1.1
    have e1 : M 103 (721 + 3) = (N : Int) := hN
    refine b_many (by omega) ?_
    rw [e1]
    refine ⟨inRof ⟨by omega, by omega⟩, inRof ⟨by omega, by omega⟩, ?_⟩
    by_cases c : (j : Int) < (N : Int)
    · rw [if_pos c]
      obtain ⟨-, r1, r2, r3, r4, r5, r6, r7, r8⟩ := h.2.2.2.2.2.2.1 (j : Int) (by omega) (by omega)
      have hrd := rd_range h (show 0 ≤ (j : Int) ∧ (j : Int) < M 103 724 by omega)
      have ih := ih (j + 1) (by omega) (by omega)
      have step : cntR (M 103) s kn (j + 1) = if M 103 (503 + 9 * (j : Int)) = s ∧ M 103 (508 + 9 * (j : Int)) ≤ kn ∧ M 103 (510 + 9 * (j : Int)) = 0 ∧ rd (M 103) (j : Int) 0 ≠ -1 then cntR (M 103) s kn j ||| 2 ^ j else cntR (M 103) s kn j := rfl
      refine b_logAt (x := 503 + 9 * (j : Int)) (by omega) (by omega) (by omega) ⟨inRof ⟨by omega, by omega⟩, hs, ?_⟩
      by_cases c1 : M 103 (503 + 9 * (j : Int)) = s
      · rw [if_pos c1]
        refine b_logAt (x := 508 + 9 * (j : Int)) (by omega) (by omega) (by omega) ⟨inRof ⟨by omega, by omega⟩, hkn, ?_⟩
        by_cases c2 : M 103 (508 + 9 * (j : Int)) ≤ kn
        · rw [if_pos c2]
          refine b_logAt (x := 510 + 9 * (j : Int)) (by omega) (by omega) (by omega) ⟨inRof ⟨by omega, by omega⟩, ?_⟩
          by_cases c3 : M 103 (510 + 9 * (j : Int)) = 0
          · rw [if_pos c3]
            refine b_rd h (by omega) (Or.inl rfl) ⟨inRof ⟨by omega, by omega⟩, ?_⟩
            by_cases c4 : rd (M 103) (j : Int) 0 = -1
            · rw [if_pos c4]
              rw [step, if_neg (fun q => q.2.2.2 c4)] at ih
              exact ih
            · rw [if_neg c4]
              rw [step, if_pos ⟨c1, c2, c3, c4⟩] at ih
              have hlt := cntR_lt (M 103) s kn j
              have hp : 2 ^ j ≤ 2 ^ 24 := Nat.pow_le_pow_right (by decide) (by omega)
              rw [shl1 (by omega), lorN (by omega) (by omega)]
              exact ih
          · rw [if_neg c3]
            rw [step, if_neg (fun q => c3 q.2.2.1)] at ih
            exact ih
        · rw [if_neg c2]
          rw [step, if_neg (fun q => c2 q.2.1)] at ih
          exact ih
      · rw [if_neg c1]
        rw [step, if_neg (fun q => c1 q.1)] at ih
        exact ih
    · rw [if_neg c]
      rw [show j = N by omega]
      exact hk
theorem b_cnt (h : BkR bb (M 103)) (hs : inR s) (hkn : inR kn) (hk : k (cnt (M 103) s kn : Nat) M) : Bd (wX12_counting s kn M) k := by
  apply Bd.of; unfold wX12_counting
  have n3 := h.1.2.2.2
  exact ⟨25, l_cnt (N := (M 103 724).toNat) h hs hkn (by omega) hk 25 0 (by omega) (by omega)⟩
end Cnt
