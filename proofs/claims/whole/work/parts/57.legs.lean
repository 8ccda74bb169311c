/-! ===== Net: legs of the days ===== -/
def l1R (B : Int → Int) (s d : Int) : Nat → Int
  | 0 => -1
  | n + 1 => if B (23 + 6 * (n : Int)) = s ∧ B (24 + 6 * (n : Int)) = d then (n : Int) else l1R B s d n
section Legs
variable {B : Int → Int} {s d : Int}
theorem l1R_day : ∀ n : Nat, l1R B s d n = -1 ∨ (0 ≤ l1R B s d n ∧ l1R B s d n < (n : Int) ∧ B (24 + 6 * l1R B s d n) = d)
  | 0 => Or.inl rfl
  | n + 1 => by
    have ih := l1R_day n
    have e : l1R B s d (n + 1) = if B (23 + 6 * (n : Int)) = s ∧ B (24 + 6 * (n : Int)) = d then (n : Int) else l1R B s d n := rfl
    rw [e]
    by_cases c : B (23 + 6 * (n : Int)) = s ∧ B (24 + 6 * (n : Int)) = d
    · rw [if_pos c]; exact Or.inr ⟨by omega, by omega, c.2⟩
    · rw [if_neg c]
      rcases ih with q | ⟨q1, q2, q3⟩
      · exact Or.inl q
      · exact Or.inr ⟨q1, by omega, q3⟩
theorem legR_day : ∀ n : Nat, legR B s d n = -1 ∨ B (24 + 6 * legR B s d n) ≤ d
  | 0 => Or.inl rfl
  | n + 1 => by
    have ih := legR_day n
    have e : legR B s d (n + 1) = if B (23 + 6 * (n : Int)) = s ∧ B (24 + 6 * (n : Int)) ≤ d ∧ (legR B s d n = -1 ∨ B (24 + 6 * legR B s d n) ≤ B (24 + 6 * (n : Int))) then (n : Int) else legR B s d n := rfl
    rw [e]
    by_cases c : B (23 + 6 * (n : Int)) = s ∧ B (24 + 6 * (n : Int)) ≤ d ∧ (legR B s d n = -1 ∨ B (24 + 6 * legR B s d n) ≤ B (24 + 6 * (n : Int)))
    · rw [if_pos c]; exact Or.inr c.2.1
    · rw [if_neg c]; exact ih
theorem legR_step : ∀ n : Nat, legR B s d n = if l1R B s d n ≠ -1 then l1R B s d n else legR B s (d - 1) n
  | 0 => rfl
  | n + 1 => by
    have ih := legR_step n
    have h1 := l1R_day (B := B) (s := s) (d := d) n
    have h2 := legR_day (B := B) (s := s) (d := d) n
    have h3 := legR_range B s d n
    have h4 := legR_range B s (d - 1) n
    have e : legR B s d (n + 1) = if B (23 + 6 * (n : Int)) = s ∧ B (24 + 6 * (n : Int)) ≤ d ∧ (legR B s d n = -1 ∨ B (24 + 6 * legR B s d n) ≤ B (24 + 6 * (n : Int))) then (n : Int) else legR B s d n := rfl
    have e' : legR B s (d - 1) (n + 1) = if B (23 + 6 * (n : Int)) = s ∧ B (24 + 6 * (n : Int)) ≤ d - 1 ∧ (legR B s (d - 1) n = -1 ∨ B (24 + 6 * legR B s (d - 1) n) ≤ B (24 + 6 * (n : Int))) then (n : Int) else legR B s (d - 1) n := rfl
    have e1 : l1R B s d (n + 1) = if B (23 + 6 * (n : Int)) = s ∧ B (24 + 6 * (n : Int)) = d then (n : Int) else l1R B s d n := rfl
    by_cases cs : B (23 + 6 * (n : Int)) = s
    · rcases Int.lt_trichotomy (B (24 + 6 * (n : Int))) d with q | q | q
      · have a1 : l1R B s d (n + 1) = l1R B s d n := by rw [e1, if_neg (by omega)]
        rw [a1]
        by_cases c : l1R B s d n = -1
        · rw [if_neg (show ¬ l1R B s d n ≠ -1 from fun z => z c)] at ih ⊢
          rw [ih] at e
          by_cases cc : legR B s (d - 1) n = -1 ∨ B (24 + 6 * legR B s (d - 1) n) ≤ B (24 + 6 * (n : Int))
          · rw [if_pos ⟨cs, by omega, cc⟩] at e
            rw [if_pos ⟨cs, by omega, cc⟩] at e'
            rw [e, e']
          · rw [if_neg (fun z => cc z.2.2)] at e
            rw [if_neg (fun z => cc z.2.2)] at e'
            rw [e, e']
        · rw [if_pos c] at ih ⊢
          have h1 := h1.resolve_left c
          rw [ih] at e
          rw [e]
          refine if_neg (fun z => ?_)
          rcases z.2.2 with z | z
          · exact c z
          · omega
      · have a1 : l1R B s d (n + 1) = (n : Int) := by rw [e1, if_pos ⟨cs, q⟩]
        rw [a1, if_pos (show (n : Int) ≠ -1 by omega), e]
        refine if_pos ⟨cs, by omega, ?_⟩
        rcases h2 with z | z
        · exact Or.inl z
        · exact Or.inr (by omega)
      · have a1 : l1R B s d (n + 1) = l1R B s d n := by rw [e1, if_neg (by omega)]
        have a2 : legR B s d (n + 1) = legR B s d n := by rw [e, if_neg (fun z => by omega)]
        have a3 : legR B s (d - 1) (n + 1) = legR B s (d - 1) n := by rw [e', if_neg (fun z => by omega)]
        rw [a1, a2, a3]
        exact ih
    · have a1 : l1R B s d (n + 1) = l1R B s d n := by rw [e1, if_neg (fun z => cs z.1)]
      have a2 : legR B s d (n + 1) = legR B s d n := by rw [e, if_neg (fun z => cs z.1)]
      have a3 : legR B s (d - 1) (n + 1) = legR B s (d - 1) n := by rw [e', if_neg (fun z => cs z.1)]
      rw [a1, a2, a3]
      exact ih
theorem legR_neg (hd : d < 0) : ∀ n : Nat, (∀ i, 0 ≤ i → i < (n : Int) → 0 ≤ B (24 + 6 * i)) → legR B s d n = -1
  | 0, _ => rfl
  | n + 1, h => by
    have ih := legR_neg hd n (fun i h0 h1 => h i h0 (by omega))
    have hn := h (n : Int) (by omega) (by omega)
    have e : legR B s d (n + 1) = if B (23 + 6 * (n : Int)) = s ∧ B (24 + 6 * (n : Int)) ≤ d ∧ (legR B s d n = -1 ∨ B (24 + 6 * legR B s d n) ≤ B (24 + 6 * (n : Int))) then (n : Int) else legR B s d n := rfl
    rw [e, if_neg (fun z => by omega), ih]
end Legs
section Legs2
variable {M : Mm} {k : Mm → Prop} {s : Int}
theorem l_fl1 {Q : Mm → Prop} : ∀ (f : Nat) (v : Int) (M : Mm), 0 ≤ v → v ≤ 120 → 120 - v < (f : Int) → (∀ M', (∀ c : Nat, c ≠ 73 → M' c = M c) → (∀ i, v ≤ i → i < 120 → M' 73 i = -1) → (∀ i, i < v → M' 73 i = M 73 i) → wX6_findLegs_21 Q M') → wX6_findLegs_2 Q f v M := by
  intro f
  induction f with
  | zero => intro v M h0 h1 h2; omega
  | succ f ih =>
    intro v M h0 h1 h2 hk
    unfold wX6_findLegs_2
    refine ⟨inRof ⟨by omega, by omega⟩, ?_⟩
    by_cases c : v < 120
    · rw [if_pos c]
      refine ⟨⟨h0, c⟩, ih (v + 1) _ (by omega) (by omega) (by omega) (fun M' k1 k2 k3 => hk M' (fun c' e => ?_) (fun i g0 g1 => ?_) (fun i g => ?_))⟩
      · rw [k1 c' e, up_cell e]
      · by_cases q : i = v
        · subst q; rw [k3 i (by omega), up_eq]
        · exact k2 i (by omega) g1
      · rw [k3 i (by omega), up_nei (by omega)]
    · rw [if_neg c]
      exact hk M (fun _ _ => rfl) (fun i g0 g1 => by omega) (fun i g => rfl)
/-- the legs one by one: each day has the last leg of its own -/
theorem l_fl2 {Q : Mm → Prop} {B : Int → Int} {N : Nat} (hsr : inR s) (h60 : N ≤ 60) : ∀ (f j : Nat) (M : Mm), j ≤ N → N - j < f → M 8 0 = (N : Int) → M 72 1 = s → (∀ i, 0 ≤ i → i < (N : Int) → M 9 i = B (23 + 6 * i) ∧ M 10 i = B (24 + 6 * i) ∧ inR (B (23 + 6 * i)) ∧ 0 ≤ B (24 + 6 * i) ∧ B (24 + 6 * i) ≤ 119) → (∀ i, 0 ≤ i → i < 120 → M 73 i = l1R B s i j) → (∀ M', (∀ c : Nat, c ≠ 73 → M' c = M c) → (∀ i, 0 ≤ i → i < 120 → M' 73 i = l1R B s i N) → ∃ n, wX6_findLegs_72 Q n 1 M') → wX6_findLegs_31 Q f (j : Int) M := by
  intro f
  induction f with
  | zero => intro j M h1 h2; omega
  | succ f ih =>
    intro j M h1 h2 h8 h72 hB h73 hk
    unfold wX6_findLegs_31
    rw [h8, h72]
    refine ⟨inRof ⟨by omega, by omega⟩, inRof ⟨by omega, by omega⟩, ?_⟩
    by_cases c : (j : Int) < (N : Int)
    · rw [if_pos c]
      obtain ⟨b1, b2, b3, b4, b5⟩ := hB (j : Int) (by omega) c
      rw [b1, b2]
      refine ⟨⟨by omega, by omega⟩, b3, hsr, ?_⟩
      by_cases c1 : B (23 + 6 * (j : Int)) = s
      · rw [if_pos c1]
        refine ⟨⟨b4, by omega⟩, ?_⟩
        refine ih (j + 1) _ (by omega) (by omega) (by rw [up_ne (by decide)]; exact h8) (by rw [up_ne (by decide)]; exact h72) (fun i g0 g1 => by rw [up_ne (by decide), up_ne (by decide)]; exact hB i g0 g1) (fun i g0 g1 => ?_) (fun M' k1 k2 => hk M' (fun c' q => by rw [k1 c' q, up_cell q]) k2)
        have e : l1R B s i (j + 1) = if B (23 + 6 * (j : Int)) = s ∧ B (24 + 6 * (j : Int)) = i then (j : Int) else l1R B s i j := rfl
        rw [e]
        by_cases q : B (24 + 6 * (j : Int)) = i
        · rw [if_pos ⟨c1, q⟩, q, up_eq]
        · rw [if_neg (fun z => q z.2), up_nei (fun z => q z.symm)]
          exact h73 i g0 g1
      · rw [if_neg c1]
        refine ih (j + 1) _ (by omega) (by omega) h8 h72 hB (fun i g0 g1 => ?_) hk
        have e : l1R B s i (j + 1) = if B (23 + 6 * (j : Int)) = s ∧ B (24 + 6 * (j : Int)) = i then (j : Int) else l1R B s i j := rfl
        rw [e, if_neg (fun z => c1 z.1)]
        exact h73 i g0 g1
    · rw [if_neg c]
      rw [show j = N by omega] at h73
      exact hk M (fun _ _ => rfl) h73
theorem l_fl3 {Q : Mm → Prop} {g h : Int → Int} (hr : ∀ i, 0 ≤ i → i < 120 → inR (g i)) (hs : ∀ i, 1 ≤ i → i < 120 → h i = if g i ≠ -1 then g i else h (i - 1)) : ∀ (f : Nat) (v : Int) (M : Mm), 1 ≤ v → v ≤ 120 → 120 - v < (f : Int) → (∀ i, 0 ≤ i → i < v → M 73 i = h i) → (∀ i, v ≤ i → i < 120 → M 73 i = g i) → (∀ M', (∀ c : Nat, c ≠ 73 → M' c = M c) → (∀ i, 0 ≤ i → i < 120 → M' 73 i = h i) → Q M') → wX6_findLegs_72 Q f v M := by
  intro f
  induction f with
  | zero => intro v M h0 h1 h2; omega
  | succ f ih =>
    intro v M h0 h1 h2 ha hb hk
    unfold wX6_findLegs_72
    refine ⟨inRof ⟨by omega, by omega⟩, ?_⟩
    by_cases c : v < 120
    · rw [if_pos c]
      rw [hb v (by omega) c]
      refine ⟨⟨by omega, c⟩, hr v (by omega) c, ?_⟩
      have e := hs v h0 c
      by_cases q : g v = -1
      · rw [if_pos q]
        rw [if_neg (fun z => z q)] at e
        refine ⟨⟨by omega, by omega⟩, ih (v + 1) _ (by omega) (by omega) (by omega) (fun i g0 g1 => ?_) (fun i g0 g1 => ?_) (fun M' k1 k2 => hk M' (fun c' z => by rw [k1 c' z, up_cell z]) k2)⟩
        · by_cases z : i = v
          · subst z; rw [up_eq, ha (i - 1) (by omega) (by omega), e]
          · rw [up_nei z]; exact ha i g0 (by omega)
        · rw [up_nei (by omega)]; exact hb i (by omega) g1
      · rw [if_neg q]
        rw [if_pos q] at e
        refine ih (v + 1) _ (by omega) (by omega) (by omega) (fun i g0 g1 => ?_) (fun i g0 g1 => hb i (by omega) g1) hk
        by_cases z : i = v
        · subst z; rw [hb i (by omega) c, e]
        · exact ha i g0 (by omega)
    · rw [if_neg c]
      exact hk M (fun _ _ => rfl) (fun i g0 g1 => ha i g0 (by omega))
theorem b_findLegs {B : Int → Int} (h : BkR M B) (h72 : M 72 1 = s) (hs : inR s) (hk : ∀ M', (∀ c : Nat, c ≠ 73 → M' c = M c) → (∀ d, 0 ≤ d → d < 120 → M' 73 d = leg B s d) → k M') : Bv (wX6_findLegs M) k := by
  apply Bv.of; unfold wX6_findLegs
  have n1 := h.1.2.1
  have n0 := h.1.1
  have hg := h.2.2.2.2.1
  obtain ⟨N, hN⟩ := Int.eq_ofNat_of_zero_le n1.2.1
  have hN' : B 722 = (N : Int) := hN
  refine ⟨121, l_fl1 121 0 M (by omega) (by omega) (by omega) (fun M1 a1 a2 _ => ?_)⟩
  unfold wX6_findLegs_21
  refine ⟨61, l_fl2 (B := B) (N := N) (s := s) hs (by omega) 61 0 M1 (by omega) (by omega) (by rw [a1 8 (by decide), n1.1]; exact hN') (by rw [a1 72 (by decide)]; exact h72) (fun i g0 g1 => ?_) (fun i g0 g1 => a2 i g0 g1) (fun M2 b1 b2 => ?_)⟩
  · obtain ⟨⟨e1, e2, -⟩, r1, r2, -⟩ := hg i g0 (by omega)
    rw [a1 9 (by decide), a1 10 (by decide)]
    exact ⟨e1, e2, inRof ⟨by omega, by omega⟩, r2.1, r2.2⟩
  · have hL : leg B s = fun d => legR B s d N := by
      funext d
      unfold leg
      rw [hN']
      rfl
    refine ⟨120, l_fl3 (g := fun i => l1R B s i N) (h := leg B s) (fun i g0 g1 => ?_) (fun i g0 g1 => ?_) 120 1 M2 (by omega) (by omega) (by omega) (fun i g0 g1 => ?_) (fun i g0 g1 => b2 i (by omega) g1) (fun M3 c1 c2 => hk M3 (fun c q => by rw [c1 c q, b1 c q, a1 c q]) c2)⟩
    · have := l1R_day (B := B) (s := s) (d := i) N
      exact inRof ⟨by omega, by omega⟩
    · rw [hL]
      exact legR_step N
    · have e0 : i = 0 := by omega
      subst e0
      rw [b2 0 (by omega) (by omega), hL]
      have e := legR_step (B := B) (s := s) (d := 0) N
      have en := legR_neg (B := B) (s := s) (d := 0 - 1) (by omega) N (fun i g0 g1 => (hg i g0 (by omega)).2.2.1.1)
      rw [en] at e
      show l1R B s 0 N = legR B s 0 N
      rw [e]
      by_cases q : l1R B s 0 N ≠ -1
      · rw [if_pos q]
      · rw [if_neg q]; omega
end Legs2
