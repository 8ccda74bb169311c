/-! ===== the model's least and slides ===== -/
def arr (M : Mm) (at_ z : Int) : Int := if at_ < 0 then M 123 z else M 118 (at_ + z)
def loR (A : Int → Int) : Nat → Int
  | 0 => 1000000000
  | n + 1 => if A (n : Int) < loR A n then A (n : Int) else loR A n
def okA (at_ : Int) : Prop := at_ = -1 ∨ (0 ≤ at_ ∧ at_ ≤ 119119)
section Ml
variable {kv : Mm → Prop} {kk : Int → Mm → Prop} {M : Mm} {at_ a b : Int} {A : Int → Int}
theorem b_bh {z : Int} (ha : okA at_) (hz : 0 ≤ z ∧ z ≤ 1000) (hk : kk (arr M at_ z) M) : Bd (wX12_behind0 at_ z M) kk := by
  apply Bd.of; unfold wX12_behind0
  unfold arr at hk
  rcases ha with ha | ha
  · subst ha
    rw [if_pos (by decide)] at hk
    refine ⟨(inRl (by decide)), ?_⟩
    rw [if_pos (by decide)]
    exact ⟨⟨by omega, by omega⟩, hk⟩
  · rw [if_neg (by omega)] at hk
    refine ⟨(inRof ⟨by omega, by omega⟩), ?_⟩
    rw [if_neg (by omega)]
    exact ⟨⟨by omega, by omega⟩, hk⟩
theorem loR_spec : ∀ n : Nat, loR A n ≤ 1000000000 ∧ (∀ z : Int, 0 ≤ z → z < (n : Int) → loR A n ≤ A z) ∧ (loR A n = 1000000000 ∨ ∃ z : Int, 0 ≤ z ∧ z < (n : Int) ∧ A z = loR A n)
  | 0 => ⟨Int.le_refl _, fun z h1 h2 => by omega, Or.inl rfl⟩
  | n + 1 => by
    obtain ⟨h1, h2, h3⟩ := loR_spec n
    unfold loR
    by_cases c : A (n : Int) < loR A n
    · rw [if_pos c]
      refine ⟨by omega, fun z z1 z2 => ?_, Or.inr ⟨(n : Int), by omega, by omega, rfl⟩⟩
      by_cases q : z = (n : Int)
      · rw [q]; exact Int.le_refl _
      · have := h2 z z1 (by omega); omega
    · rw [if_neg c]
      refine ⟨h1, fun z z1 z2 => ?_, ?_⟩
      · by_cases q : z = (n : Int)
        · rw [q]; omega
        · exact h2 z z1 (by omega)
      · rcases h3 with h3 | ⟨z, z1, z2, z3⟩
        · exact Or.inl h3
        · exact Or.inr ⟨z, z1, by omega, z3⟩
theorem l_lo {Q : Int → Mm → Prop} (ha : okA at_) (hA : ∀ z, 0 ≤ z → z ≤ 1000 → 0 ≤ arr M at_ z ∧ arr M at_ z ≤ 1000000000) (hk : Q (loR (arr M at_) 1001) M) : ∀ (k i : Nat), i + k = 1001 → wX12_leastOf_6 Q at_ (k + 1) (loR (arr M at_) i) (i : Int) M := by
  intro k
  induction k with
  | zero =>
    intro i hi
    unfold wX12_leastOf_6
    refine ⟨(inRof ⟨by omega, by omega⟩), ?_⟩
    rw [if_neg (by omega)]
    have e : i = 1001 := by omega
    rw [e]
    exact hk
  | succ k ih =>
    intro i hi
    unfold wX12_leastOf_6
    have hr := hA (i : Int) (by omega) (by omega)
    have ls := loR_spec (A := arr M at_) i
    have l0 : 0 ≤ loR (arr M at_) i := by
      rcases ls.2.2 with e | ⟨z, z1, z2, z3⟩
      · omega
      · have := hA z z1 (by omega); omega
    have l1 := ls.1
    have ih := ih (i + 1) (by omega)
    have e : loR (arr M at_) (i + 1) = if arr M at_ (i : Int) < loR (arr M at_) i then arr M at_ (i : Int) else loR (arr M at_) i := rfl
    rw [e] at ih
    refine ⟨(inRof ⟨by omega, by omega⟩), ?_⟩
    rw [if_pos (by omega)]
    refine b_bh ha (by omega) ⟨(inRof ⟨by omega, by omega⟩), (inRof ⟨by omega, by omega⟩), ?_⟩
    by_cases c : arr M at_ (i : Int) < loR (arr M at_) i
    · rw [if_pos c]
      rw [if_pos c] at ih
      exact b_bh ha (by omega) ih
    · rw [if_neg c]
      rw [if_neg c] at ih
      exact ih
theorem b_lo (ha : okA at_) (hA : ∀ z, 0 ≤ z → z ≤ 1000 → 0 ≤ arr M at_ z ∧ arr M at_ z ≤ 1000000000) (hk : kk (loR (arr M at_) 1001) M) : Bd (wX12_leastOf at_ M) kk := by
  apply Bd.of; unfold wX12_leastOf
  exact ⟨1002, l_lo ha hA hk 1001 0 (by omega)⟩
/-- the line of those that may be least -/
def DQ (M : Mm) (A : Int → Int) (h tl ad : Nat) (lb : Int) : Prop := (h ≤ tl ∧ tl ≤ ad ∧ ad ≤ 1001) ∧ (∀ i : Nat, h ≤ i → i < tl → 0 ≤ M 120 (i : Int) ∧ M 120 (i : Int) < (ad : Int)) ∧ (∀ i j : Nat, h ≤ i → i < j → j < tl → M 120 (i : Int) < M 120 (j : Int) ∧ A (M 120 (i : Int)) < A (M 120 (j : Int))) ∧ ∀ y : Int, 0 ≤ y → lb ≤ y → y < (ad : Int) → ∃ i : Nat, h ≤ i ∧ i < tl ∧ y ≤ M 120 (i : Int) ∧ A (M 120 (i : Int)) ≤ A y
/-- the same while one is being added -/
def DP (M : Mm) (A : Int → Int) (h tl ad : Nat) (lb : Int) : Prop := (h ≤ tl ∧ tl ≤ ad ∧ ad ≤ 1000) ∧ (∀ i : Nat, h ≤ i → i < tl → 0 ≤ M 120 (i : Int) ∧ M 120 (i : Int) < (ad : Int)) ∧ (∀ i j : Nat, h ≤ i → i < j → j < tl → M 120 (i : Int) < M 120 (j : Int) ∧ A (M 120 (i : Int)) < A (M 120 (j : Int))) ∧ ∀ y : Int, 0 ≤ y → lb ≤ y → y < (ad : Int) → (∃ i : Nat, h ≤ i ∧ i < tl ∧ y ≤ M 120 (i : Int) ∧ A (M 120 (i : Int)) ≤ A y) ∨ A (ad : Int) ≤ A y
def RW (A : Int → Int) (a b z r : Int) : Prop := (∀ y : Int, 0 ≤ y → y ≤ 1000 → z + a ≤ y → y ≤ z + b → r ≤ A y) ∧ (r = 1000000000 ∨ ∃ y : Int, (0 ≤ y ∧ y ≤ 1000) ∧ (z + a ≤ y ∧ y ≤ z + b) ∧ A y = r)
theorem l_s37 {Q : Mm → Prop} {k12 : Int → Int → Int → Int → Mm → Prop} {k20 : Int → Int → Mm → Prop} {h ad : Nat} {z lb : Int} (ha : okA at_) (hA : ∀ z, 0 ≤ z → z ≤ 1000 → 0 ≤ A z ∧ A z ≤ 1000000000) : ∀ (n : Nat) (M : Mm), (∀ z, 0 ≤ z → z ≤ 1000 → arr M at_ z = A z) → DP M A h (h + n) ad lb → (∀ (M' : Mm) (tl' : Nat), (∀ c : Nat, c ≠ 120 → M' c = M c) → DQ M' A h (tl' + 1) (ad + 1) lb → k20 ((tl' : Int) + 1) ((ad : Int) + 1) M') → wX12_slides_37 Q k12 k20 at_ a b (h : Int) (ad : Int) z (n + 1) ((h + n : Nat) : Int) M := by
  intro n
  have push : ∀ (n : Nat) (M : Mm), DP M A h (h + n) ad lb → (n = 0 ∨ A (M 120 ((h + (n - 1) : Nat) : Int)) < A (ad : Int)) → (∀ (M' : Mm) (tl' : Nat), (∀ c : Nat, c ≠ 120 → M' c = M c) → DQ M' A h (tl' + 1) (ad + 1) lb → k20 ((tl' : Int) + 1) ((ad : Int) + 1) M') → wX12_slides_74 Q k12 k20 at_ a b (h : Int) ((h + n : Nat) : Int) (ad : Int) z M := by
    intro n M hd hlast hk
    obtain ⟨⟨d1, d2, d3⟩, d4, d5, d6⟩ := hd
    unfold wX12_slides_74
    refine ⟨⟨by omega, by omega⟩, hk _ (h + n) (fun c hc => up_cell hc) ⟨⟨by omega, by omega, by omega⟩, fun i i1 i2 => ?_, fun i j i1 i2 i3 => ?_, fun y y1 y2 y3 => ?_⟩⟩
    · by_cases q : i = h + n
      · rw [q, up_eq]; omega
      · rw [up_nei (by omega)]; have := d4 i i1 (by omega); omega
    · have hij : M 120 (i : Int) < (ad : Int) := (d4 i i1 (by omega)).2
      rw [up_nei (show (i : Int) ≠ ((h + n : Nat) : Int) by omega)]
      by_cases q : j = h + n
      · rw [q, up_eq]
        refine ⟨hij, ?_⟩
        rcases hlast with e | e
        · omega
        · by_cases q2 : i = h + (n - 1)
          · rw [q2]; exact e
          · have := (d5 i (h + (n - 1)) i1 (by omega) (by omega)).2; omega
      · rw [up_nei (by omega)]; exact d5 i j i1 i2 (by omega)
    · by_cases q : y = (ad : Int)
      · exact ⟨h + n, by omega, by omega, by rw [up_eq]; omega, by rw [up_eq, q]; exact Int.le_refl _⟩
      · rcases d6 y y1 y2 (by omega) with ⟨i, i1, i2, i3, i4⟩ | e
        · exact ⟨i, i1, by omega, by rw [up_nei (by omega)]; exact i3, by rw [up_nei (by omega)]; exact i4⟩
        · exact ⟨h + n, by omega, by omega, by rw [up_eq]; omega, by rw [up_eq]; exact e⟩
  induction n with
  | zero =>
    intro M hM hd hk
    have d3 := hd.1
    unfold wX12_slides_37
    refine ⟨(inRof ⟨by omega, by omega⟩), (inRof ⟨by omega, by omega⟩), ?_⟩
    rw [if_pos (by omega)]
    exact push 0 M hd (Or.inl rfl) hk
  | succ n ih =>
    intro M hM hd hk
    obtain ⟨⟨d1, d2, d3⟩, d4, d5, d6⟩ := id hd
    have dl := d4 (h + n) (by omega) (by omega)
    have a1 := hA (M 120 ((h + n : Nat) : Int)) (by omega) (by omega)
    have a2 := hA (ad : Int) (by omega) (by omega)
    unfold wX12_slides_37
    refine ⟨(inRof ⟨by omega, by omega⟩), (inRof ⟨by omega, by omega⟩), ?_⟩
    rw [if_neg (by omega), show ((h + (n + 1) : Nat) : Int) - 1 = ((h + n : Nat) : Int) by omega, show ((h + (n + 1) : Nat) : Int) + -1 = ((h + n : Nat) : Int) by omega]
    refine ⟨⟨by omega, by omega⟩, b_bh ha (by omega) (b_bh ha (by omega) ?_)⟩
    rw [hM _ (by omega) (by omega), hM _ (by omega) (by omega)]
    refine ⟨(inRof ⟨by omega, by omega⟩), (inRof ⟨by omega, by omega⟩), ?_⟩
    by_cases c : A (M 120 ((h + n : Nat) : Int)) < A (ad : Int)
    · rw [if_pos c]
      exact push (n + 1) M hd (Or.inr (by rw [Nat.add_sub_cancel]; exact c)) hk
    · rw [if_neg c]
      refine ih M hM ⟨⟨by omega, by omega, d3⟩, fun i i1 i2 => d4 i i1 (by omega), fun i j i1 i2 i3 => d5 i j i1 i2 (by omega), fun y y1 y2 y3 => ?_⟩ hk
      rcases d6 y y1 y2 y3 with ⟨i, i1, i2, i3, i4⟩ | e
      · by_cases q : i = h + n
        · rw [q] at i4; exact Or.inr (by omega)
        · exact Or.inl ⟨i, i1, by omega, i3, i4⟩
      · exact Or.inr e
theorem l_s20 {Q : Mm → Prop} {k12 : Int → Int → Int → Int → Mm → Prop} {h : Nat} {z lb : Int} (ha : okA at_) (hA : ∀ z, 0 ≤ z → z ≤ 1000 → 0 ≤ A z ∧ A z ≤ 1000000000) (hb : -100 ≤ b ∧ b ≤ 100) (hz : 0 ≤ z ∧ z ≤ 1000) : ∀ (n tl ad : Nat) (M : Mm), ad + n = 1001 → (∀ z, 0 ≤ z → z ≤ 1000 → arr M at_ z = A z) → DQ M A h tl ad lb → (ad : Int) ≤ max 0 (z + b + 1) → (∀ (M' : Mm) (tl' ad' : Nat), (∀ c : Nat, c ≠ 120 → M' c = M c) → DQ M' A h tl' ad' lb → (ad' : Int) ≤ max 0 (z + b + 1) → (ad' = 1001 ∨ z + b < (ad' : Int)) → ∃ m, wX12_slides_92 Q k12 at_ a b (tl' : Int) (ad' : Int) z m (h : Int) M') → wX12_slides_20 Q k12 at_ a b (h : Int) z (n + 1) (tl : Int) (ad : Int) M := by
  intro n
  induction n with
  | zero =>
    intro tl ad M hn hM hd hm hk
    unfold wX12_slides_20
    refine ⟨(inRof ⟨by omega, by omega⟩), ?_⟩
    rw [if_neg (by omega)]
    exact hk M tl ad (fun _ _ => rfl) hd hm (Or.inl (by omega))
  | succ n ih =>
    intro tl ad M hn hM hd hm hk
    unfold wX12_slides_20
    refine ⟨(inRof ⟨by omega, by omega⟩), ?_⟩
    rw [if_pos (by omega)]
    refine ⟨(inRof ⟨by omega, by omega⟩), ?_⟩
    by_cases c : (ad : Int) ≤ z + b
    · rw [if_pos c]
      obtain ⟨⟨d1, d2, d3⟩, d4, d5, d6⟩ := id hd
      have e : tl = h + (tl - h) := by omega
      have dp : DP M A h (h + (tl - h)) ad lb := by
        rw [← e]
        exact ⟨⟨d1, d2, by omega⟩, d4, d5, fun y y1 y2 y3 => Or.inl (d6 y y1 y2 y3)⟩
      refine ⟨tl - h + 1, ?_⟩
      have := l_s37 (Q := Q) (k12 := k12) (k20 := wX12_slides_20 Q k12 at_ a b (h : Int) z (n + 1)) (a := a) (b := b) (z := z) (h := h) (ad := ad) ha hA (tl - h) M hM dp (fun M1 tl1 f1 q1 => by
        have := ih (tl1 + 1) (ad + 1) M1 (by omega) (fun y y1 y2 => by rw [← hM y y1 y2]; unfold arr; rw [f1 123 (by decide), f1 118 (by decide)]) q1 (by omega) (fun M2 tl2 ad2 f2 => hk M2 tl2 ad2 (fun c hc => by rw [f2 c hc, f1 c hc]))
        rw [show ((tl1 + 1 : Nat) : Int) = (tl1 : Int) + 1 by omega, show ((ad + 1 : Nat) : Int) = (ad : Int) + 1 by omega] at this
        exact this)
      rw [← e] at this
      exact this
    · rw [if_neg c]
      exact hk M tl ad (fun _ _ => rfl) hd hm (Or.inr (by omega))
theorem l_s92 {Q : Mm → Prop} {k12 : Int → Int → Int → Int → Mm → Prop} {tl ad : Nat} {z : Int} (ha : okA at_) (hM : ∀ z, 0 ≤ z → z ≤ 1000 → arr M at_ z = A z) (hab : -100 ≤ a ∧ a ≤ 100) (hz : 0 ≤ z ∧ z ≤ 1000) (hm : (ad : Int) ≤ max 0 (z + b + 1)) (hend : ad = 1001 ∨ z + b < (ad : Int)) (hk : ∀ (h' : Nat) (r : Int), DQ M A h' tl ad (z + a) → RW A a b z r → k12 (h' : Int) (tl : Int) (ad : Int) (z + 1) (up M 119 z r)) : ∀ (n h : Nat), h + n = tl → DQ M A h tl ad (z + a) → wX12_slides_92 Q k12 at_ a b (tl : Int) (ad : Int) z (n + 1) (h : Int) M := by
  intro n
  induction n with
  | zero =>
    intro h hn hd
    obtain ⟨⟨d1, d2, d3⟩, d4, d5, d6⟩ := id hd
    unfold wX12_slides_92
    refine ⟨(inRof ⟨by omega, by omega⟩), (inRof ⟨by omega, by omega⟩), ?_⟩
    rw [if_neg (by omega)]
    unfold wX12_slides_119
    refine ⟨(inRof ⟨by omega, by omega⟩), (inRof ⟨by omega, by omega⟩), ?_⟩
    rw [if_neg (by omega)]
    refine ⟨⟨by omega, by omega⟩, hk h _ hd ⟨fun y y1 y2 y3 y4 => ?_, Or.inl rfl⟩⟩
    obtain ⟨i, i1, i2, -⟩ := d6 y y1 y3 (by omega)
    omega
  | succ n ih =>
    intro h hn hd
    obtain ⟨⟨d1, d2, d3⟩, d4, d5, d6⟩ := id hd
    have dh := d4 h (Nat.le_refl _) (by omega)
    unfold wX12_slides_92
    refine ⟨(inRof ⟨by omega, by omega⟩), (inRof ⟨by omega, by omega⟩), ?_⟩
    rw [if_pos (by omega)]
    refine ⟨⟨by omega, by omega⟩, (inRof ⟨by omega, by omega⟩), (inRof ⟨by omega, by omega⟩), ?_⟩
    by_cases c : M 120 (h : Int) < z + a
    · rw [if_pos c]
      refine ih (h + 1) (by omega) ⟨⟨by omega, d2, d3⟩, fun i i1 i2 => d4 i (by omega) i2, fun i j i1 i2 i3 => d5 i j (by omega) i2 i3, fun y y1 y2 y3 => ?_⟩
      obtain ⟨i, i1, i2, i3, i4⟩ := d6 y y1 y2 y3
      refine ⟨i, ?_, i2, i3, i4⟩
      by_cases q : i = h
      · rw [q] at i3; omega
      · omega
    · rw [if_neg c]
      unfold wX12_slides_119
      refine ⟨(inRof ⟨by omega, by omega⟩), (inRof ⟨by omega, by omega⟩), ?_⟩
      rw [if_pos (by omega)]
      refine ⟨⟨by omega, by omega⟩, b_bh ha (by omega) ⟨⟨by omega, by omega⟩, ?_⟩⟩
      rw [hM _ (by omega) (by omega)]
      refine hk h _ hd ⟨fun y y1 y2 y3 y4 => ?_, Or.inr ⟨M 120 (h : Int), by omega, by omega, rfl⟩⟩
      obtain ⟨i, i1, i2, i3, i4⟩ := d6 y y1 y3 (by omega)
      by_cases q : i = h
      · rw [q] at i4; exact i4
      · have := (d5 h i (Nat.le_refl _) (by omega) i2).2; omega
theorem l_s12 {Q : Mm → Prop} (ha : okA at_) (hA : ∀ z, 0 ≤ z → z ≤ 1000 → 0 ≤ A z ∧ A z ≤ 1000000000) (hab : -100 ≤ a ∧ a ≤ b ∧ b ≤ 100) : ∀ (n i h tl ad : Nat) (M : Mm), i + n = 1001 → (∀ z, 0 ≤ z → z ≤ 1000 → arr M at_ z = A z) → DQ M A h tl ad ((i : Int) - 1 + a) → (ad : Int) ≤ max 0 ((i : Int) + b) → (∀ z : Int, 0 ≤ z → z < (i : Int) → RW A a b z (M 119 z)) → (∀ M', (∀ c : Nat, c ≠ 119 → c ≠ 120 → M' c = M c) → (∀ z : Int, 0 ≤ z → z ≤ 1000 → RW A a b z (M' 119 z)) → Q M') → wX12_slides_12 Q at_ a b (n + 1) (h : Int) (tl : Int) (ad : Int) (i : Int) M := by
  intro n
  induction n with
  | zero =>
    intro i h tl ad M hn hM hd hm hr hk
    unfold wX12_slides_12
    refine ⟨(inRof ⟨by omega, by omega⟩), ?_⟩
    rw [if_neg (by omega)]
    exact hk M (fun _ _ _ => rfl) (fun z z1 z2 => hr z z1 (by omega))
  | succ n ih =>
    intro i h tl ad M hn hM hd hm hr hk
    unfold wX12_slides_12
    refine ⟨(inRof ⟨by omega, by omega⟩), ?_⟩
    rw [if_pos (by omega)]
    obtain ⟨⟨d1, d2, d3⟩, d4, d5, d6⟩ := id hd
    refine ⟨1001 - ad + 1, l_s20 (lb := (i : Int) + a) ha hA (by omega) (by omega) (1001 - ad) tl ad M (by omega) hM ⟨⟨d1, d2, d3⟩, d4, d5, fun y y1 y2 y3 => d6 y y1 (by omega) y3⟩ (by omega) (fun M1 tl1 ad1 f1 q1 m1 e1 => ?_)⟩
    have hM1 : ∀ z, 0 ≤ z → z ≤ 1000 → arr M1 at_ z = A z := fun y y1 y2 => by rw [← hM y y1 y2]; unfold arr; rw [f1 123 (by decide), f1 118 (by decide)]
    refine ⟨tl1 - h + 1, l_s92 ha hM1 (by omega) (by omega) m1 e1 (fun h' r q2 q3 => ?_) (tl1 - h) h (by have := q1.1; omega) q1⟩
    rw [show (i : Int) + 1 = ((i + 1 : Nat) : Int) by omega]
    refine ih (i + 1) h' tl1 ad1 _ (by omega) (fun y y1 y2 => by rw [← hM1 y y1 y2]; unfold arr; rw [up_cell (by decide), up_cell (by decide)]) ?_ (by omega) (fun z z1 z2 => ?_) (fun M2 f2 => hk M2 (fun c c1 c2 => by rw [f2 c c1 c2, up_cell c1, f1 c c2]))
    · rw [show ((i + 1 : Nat) : Int) - 1 + a = (i : Int) + a by omega]
      unfold DQ
      rw [up_cell (show 120 ≠ 119 by decide)]
      exact q2
    · by_cases q : z = (i : Int)
      · rw [q, up_eq]; exact q3
      · rw [up_nei q, f1 119 (by decide)]; exact hr z z1 (by omega)
theorem b_slides (ha : okA at_) (hA : ∀ z, 0 ≤ z → z ≤ 1000 → 0 ≤ arr M at_ z ∧ arr M at_ z ≤ 1000000000) (hab : -100 ≤ a ∧ a ≤ b ∧ b ≤ 100) (hk : ∀ M', (∀ c : Nat, c ≠ 119 → c ≠ 120 → M' c = M c) → (∀ z : Int, 0 ≤ z → z ≤ 1000 → RW (arr M at_) a b z (M' 119 z)) → kv M') : Bv (wX12_slides at_ a b M) kv := by
  apply Bv.of; unfold wX12_slides
  refine ⟨1002, ?_⟩
  have := l_s12 (Q := kv) (A := arr M at_) ha hA hab 1001 0 0 0 0 M (by omega) (fun _ _ _ => rfl) ⟨⟨by omega, by omega, by omega⟩, fun i i1 i2 => by omega, fun i j _ i2 i3 => by omega, fun y y1 y2 y3 => by omega⟩ (by omega) (fun z z1 z2 => by omega) hk
  exact this
end Ml
