/-! ===== printed by math/gen48.py: a book copied ===== -/
theorem cpy_ne {M : Mm} {c c0 c1 n : Nat} (h : c ≠ c1) : cpy M c0 c1 n c = M c := by unfold cpy; rw [if_neg h]
theorem cpy_at {M : Mm} {c0 c1 n : Nat} {i : Int} (h : 0 ≤ i ∧ i < (n : Int)) : cpy M c0 c1 n c1 i = M c0 i := by unfold cpy; rw [if_pos rfl, if_pos h]
theorem l_copy {Q : Mm → Prop} : ∀ (f : Nat) (v : Int) (M : Mm), 0 ≤ v → v ≤ 24 → 24 - v < (f : Int) → (∀ i, 0 ≤ i → i < 24 → (M 22 i = 0 ∨ M 22 i = 1) ∧ (M 23 i = 0 ∨ M 23 i = 1)) → (∀ M', (∀ c : Nat, c ≠ 46 → c ≠ 47 → M' c = M c) → (∀ i, v ≤ i → i < 24 → M' 46 i = M 22 i ∧ M' 47 i = M 23 i) → (∀ i, i < v → M' 46 i = M 46 i ∧ M' 47 i = M 47 i) → Q M') → wX4_copyFrom_100 Q f v M := by
  intro f
  induction f with
  | zero => intro v M h0 h1 h2; omega
  | succ f ih =>
    intro v M h0 h1 h2 hz hk
    unfold wX4_copyFrom_100
    refine ⟨inRof ⟨by omega, by omega⟩, ?_⟩
    by_cases c : v < 24
    · rw [if_pos c]
      refine ⟨⟨h0, c⟩, (hz v h0 c).1, (hz v h0 c).2, ?_⟩
      refine ih (v + 1) _ (by omega) (by omega) (by omega) (fun i g0 g1 => ?_) (fun M' k1 k2 k3 => ?_)
      · rw [up_ne (by decide), up_ne (by decide), up_ne (by decide), up_ne (by decide)]
        exact hz i g0 g1
      · refine hk M' (fun c' e1 e2 => ?_) (fun i g0 g1 => ?_) (fun i g => ?_)
        · rw [k1 c' e1 e2, up_cell e2, up_cell e1]
        · by_cases q : i = v
          · subst q
            have := k3 i (by omega)
            rw [this.1, this.2, up_ne (by decide), up_eq, up_eq]
            exact ⟨rfl, rfl⟩
          · have := k2 i (by omega) g1
            rw [this.1, this.2, up_ne (by decide), up_ne (by decide), up_ne (by decide), up_ne (by decide)]
            exact ⟨rfl, rfl⟩
        · have := k3 i (by omega)
          rw [this.1, this.2, up_ne (by decide), up_nei (by omega), up_nei (by omega), up_ne (by decide)]
          exact ⟨rfl, rfl⟩
    · rw [if_neg c]
      exact hk M (fun _ _ _ => rfl) (fun i g0 g1 => by omega) (fun i g => ⟨rfl, rfl⟩)
set_option maxHeartbeats 4000000 in
theorem b_copy {M : Mm} {k : Mm → Prop} (hz : ∀ i, 0 ≤ i → i < 24 → (M 22 i = 0 ∨ M 22 i = 1) ∧ (M 23 i = 0 ∨ M 23 i = 1)) (h : ∀ M', (∀ c : Nat, 1 ≤ c → c ≤ 23 → ∀ i, 0 ≤ i → i < szB c → M' (c + 24) i = M (c + 0) i) → (∀ c : Nat, ¬ (25 ≤ c ∧ c ≤ 47) → M' c = M c) → k M') : Bv (wX0_copyFrom M) k := by
  apply Bv.of; unfold wX0_copyFrom
  apply Bv.of; unfold wX3_copyFrom
  apply Bv.of; unfold wX4_copyFrom
  refine ⟨25, l_copy 25 0 _ (by omega) (by omega) (by omega) (fun i h0 h1 => ?_) (fun M2 e1 e2 _ => h M2 (fun c g1 g2 i h0 h1 => ?_) (fun c g => ?_))⟩
  · repeat (first | rw [cpy_ne (by decide)] | rw [up_cell (by decide)])
    exact hz i h0 h1
  · have q : c = 1 ∨ c = 2 ∨ c = 3 ∨ c = 4 ∨ c = 5 ∨ c = 6 ∨ c = 7 ∨ c = 8 ∨ c = 9 ∨ c = 10 ∨ c = 11 ∨ c = 12 ∨ c = 13 ∨ c = 14 ∨ c = 15 ∨ c = 16 ∨ c = 17 ∨ c = 18 ∨ c = 19 ∨ c = 20 ∨ c = 21 ∨ c = 22 ∨ c = 23 := by omega
    rcases q with rfl | rfl | rfl | rfl | rfl | rfl | rfl | rfl | rfl | rfl | rfl | rfl | rfl | rfl | rfl | rfl | rfl | rfl | rfl | rfl | rfl | rfl | rfl
    · have h1 : i < 7 := h1
      show M2 25 i = M 1 i
      rw [e1 25 (by decide) (by decide)]
      repeat (first | rw [cpy_ne (by decide)] | rw [up_cell (by decide)])
      have q : i = 0 ∨ i = 1 ∨ i = 2 ∨ i = 3 ∨ i = 4 ∨ i = 5 ∨ i = 6 := by omega
      rcases q with rfl | rfl | rfl | rfl | rfl | rfl | rfl <;> rfl
    · have h1 : i < 3 := h1
      show M2 26 i = M 2 i
      rw [e1 26 (by decide) (by decide)]
      repeat (first | rw [cpy_ne (by decide)] | rw [cpy_at (by omega)] | rw [up_cell (by decide)])
    · have h1 : i < 10 := h1
      show M2 27 i = M 3 i
      rw [e1 27 (by decide) (by decide)]
      repeat (first | rw [cpy_ne (by decide)] | rw [cpy_at (by omega)] | rw [up_cell (by decide)])
    · have h1 : i < 10 := h1
      show M2 28 i = M 4 i
      rw [e1 28 (by decide) (by decide)]
      repeat (first | rw [cpy_ne (by decide)] | rw [cpy_at (by omega)] | rw [up_cell (by decide)])
    · have h1 : i < 40 := h1
      show M2 29 i = M 5 i
      rw [e1 29 (by decide) (by decide)]
      repeat (first | rw [cpy_ne (by decide)] | rw [cpy_at (by omega)] | rw [up_cell (by decide)])
    · have h1 : i < 40 := h1
      show M2 30 i = M 6 i
      rw [e1 30 (by decide) (by decide)]
      repeat (first | rw [cpy_ne (by decide)] | rw [cpy_at (by omega)] | rw [up_cell (by decide)])
    · have h1 : i < 40 := h1
      show M2 31 i = M 7 i
      rw [e1 31 (by decide) (by decide)]
      repeat (first | rw [cpy_ne (by decide)] | rw [cpy_at (by omega)] | rw [up_cell (by decide)])
    · have h1 : i < 1 := h1
      show M2 32 i = M 8 i
      rw [e1 32 (by decide) (by decide)]
      repeat (first | rw [cpy_ne (by decide)] | rw [up_cell (by decide)])
      have q : i = 0 := by omega
      subst q
      rfl
    · have h1 : i < 60 := h1
      show M2 33 i = M 9 i
      rw [e1 33 (by decide) (by decide)]
      repeat (first | rw [cpy_ne (by decide)] | rw [cpy_at (by omega)] | rw [up_cell (by decide)])
    · have h1 : i < 60 := h1
      show M2 34 i = M 10 i
      rw [e1 34 (by decide) (by decide)]
      repeat (first | rw [cpy_ne (by decide)] | rw [cpy_at (by omega)] | rw [up_cell (by decide)])
    · have h1 : i < 60 := h1
      show M2 35 i = M 11 i
      rw [e1 35 (by decide) (by decide)]
      repeat (first | rw [cpy_ne (by decide)] | rw [cpy_at (by omega)] | rw [up_cell (by decide)])
    · have h1 : i < 60 := h1
      show M2 36 i = M 12 i
      rw [e1 36 (by decide) (by decide)]
      repeat (first | rw [cpy_ne (by decide)] | rw [cpy_at (by omega)] | rw [up_cell (by decide)])
    · have h1 : i < 60 := h1
      show M2 37 i = M 13 i
      rw [e1 37 (by decide) (by decide)]
      repeat (first | rw [cpy_ne (by decide)] | rw [cpy_at (by omega)] | rw [up_cell (by decide)])
    · have h1 : i < 60 := h1
      show M2 38 i = M 14 i
      rw [e1 38 (by decide) (by decide)]
      repeat (first | rw [cpy_ne (by decide)] | rw [cpy_at (by omega)] | rw [up_cell (by decide)])
    · have h1 : i < 1 := h1
      show M2 39 i = M 15 i
      rw [e1 39 (by decide) (by decide)]
      repeat (first | rw [cpy_ne (by decide)] | rw [up_cell (by decide)])
      have q : i = 0 := by omega
      subst q
      rfl
    · have h1 : i < 24 := h1
      show M2 40 i = M 16 i
      rw [e1 40 (by decide) (by decide)]
      repeat (first | rw [cpy_ne (by decide)] | rw [cpy_at (by omega)] | rw [up_cell (by decide)])
    · have h1 : i < 24 := h1
      show M2 41 i = M 17 i
      rw [e1 41 (by decide) (by decide)]
      repeat (first | rw [cpy_ne (by decide)] | rw [cpy_at (by omega)] | rw [up_cell (by decide)])
    · have h1 : i < 24 := h1
      show M2 42 i = M 18 i
      rw [e1 42 (by decide) (by decide)]
      repeat (first | rw [cpy_ne (by decide)] | rw [cpy_at (by omega)] | rw [up_cell (by decide)])
    · have h1 : i < 24 := h1
      show M2 43 i = M 19 i
      rw [e1 43 (by decide) (by decide)]
      repeat (first | rw [cpy_ne (by decide)] | rw [cpy_at (by omega)] | rw [up_cell (by decide)])
    · have h1 : i < 24 := h1
      show M2 44 i = M 20 i
      rw [e1 44 (by decide) (by decide)]
      repeat (first | rw [cpy_ne (by decide)] | rw [cpy_at (by omega)] | rw [up_cell (by decide)])
    · have h1 : i < 24 := h1
      show M2 45 i = M 21 i
      rw [e1 45 (by decide) (by decide)]
      repeat (first | rw [cpy_ne (by decide)] | rw [cpy_at (by omega)] | rw [up_cell (by decide)])
    · have h1 : i < 24 := h1
      show M2 46 i = M 22 i
      have := (e2 i h0 h1).1
      rw [this]
      repeat (first | rw [cpy_ne (by decide)] | rw [up_cell (by decide)])
    · have h1 : i < 24 := h1
      show M2 47 i = M 23 i
      have := (e2 i h0 h1).2
      rw [this]
      repeat (first | rw [cpy_ne (by decide)] | rw [up_cell (by decide)])
  · rw [e1 c (by omega) (by omega)]
    repeat (first | rw [cpy_ne (by omega)] | rw [up_cell (by omega)])
theorem l_copy_2 {Q : Mm → Prop} : ∀ (f : Nat) (v : Int) (M : Mm), 0 ≤ v → v ≤ 24 → 24 - v < (f : Int) → (∀ i, 0 ≤ i → i < 24 → (M 22 i = 0 ∨ M 22 i = 1) ∧ (M 23 i = 0 ∨ M 23 i = 1)) → (∀ M', (∀ c : Nat, c ≠ 69 → c ≠ 70 → M' c = M c) → (∀ i, v ≤ i → i < 24 → M' 69 i = M 22 i ∧ M' 70 i = M 23 i) → (∀ i, i < v → M' 69 i = M 69 i ∧ M' 70 i = M 70 i) → Q M') → wX4_copyFrom_2_100 Q f v M := by
  intro f
  induction f with
  | zero => intro v M h0 h1 h2; omega
  | succ f ih =>
    intro v M h0 h1 h2 hz hk
    unfold wX4_copyFrom_2_100
    refine ⟨inRof ⟨by omega, by omega⟩, ?_⟩
    by_cases c : v < 24
    · rw [if_pos c]
      refine ⟨⟨h0, c⟩, (hz v h0 c).1, (hz v h0 c).2, ?_⟩
      refine ih (v + 1) _ (by omega) (by omega) (by omega) (fun i g0 g1 => ?_) (fun M' k1 k2 k3 => ?_)
      · rw [up_ne (by decide), up_ne (by decide), up_ne (by decide), up_ne (by decide)]
        exact hz i g0 g1
      · refine hk M' (fun c' e1 e2 => ?_) (fun i g0 g1 => ?_) (fun i g => ?_)
        · rw [k1 c' e1 e2, up_cell e2, up_cell e1]
        · by_cases q : i = v
          · subst q
            have := k3 i (by omega)
            rw [this.1, this.2, up_ne (by decide), up_eq, up_eq]
            exact ⟨rfl, rfl⟩
          · have := k2 i (by omega) g1
            rw [this.1, this.2, up_ne (by decide), up_ne (by decide), up_ne (by decide), up_ne (by decide)]
            exact ⟨rfl, rfl⟩
        · have := k3 i (by omega)
          rw [this.1, this.2, up_ne (by decide), up_nei (by omega), up_nei (by omega), up_ne (by decide)]
          exact ⟨rfl, rfl⟩
    · rw [if_neg c]
      exact hk M (fun _ _ _ => rfl) (fun i g0 g1 => by omega) (fun i g => ⟨rfl, rfl⟩)
set_option maxHeartbeats 4000000 in
theorem b_copy_2 {M : Mm} {k : Mm → Prop} (hz : ∀ i, 0 ≤ i → i < 24 → (M 22 i = 0 ∨ M 22 i = 1) ∧ (M 23 i = 0 ∨ M 23 i = 1)) (h : ∀ M', (∀ c : Nat, 1 ≤ c → c ≤ 23 → ∀ i, 0 ≤ i → i < szB c → M' (c + 47) i = M (c + 0) i) → (∀ c : Nat, ¬ (48 ≤ c ∧ c ≤ 70) → M' c = M c) → k M') : Bv (wX0_copyFrom_2 M) k := by
  apply Bv.of; unfold wX0_copyFrom_2
  apply Bv.of; unfold wX3_copyFrom_2
  apply Bv.of; unfold wX4_copyFrom_2
  refine ⟨25, l_copy_2 25 0 _ (by omega) (by omega) (by omega) (fun i h0 h1 => ?_) (fun M2 e1 e2 _ => h M2 (fun c g1 g2 i h0 h1 => ?_) (fun c g => ?_))⟩
  · repeat (first | rw [cpy_ne (by decide)] | rw [up_cell (by decide)])
    exact hz i h0 h1
  · have q : c = 1 ∨ c = 2 ∨ c = 3 ∨ c = 4 ∨ c = 5 ∨ c = 6 ∨ c = 7 ∨ c = 8 ∨ c = 9 ∨ c = 10 ∨ c = 11 ∨ c = 12 ∨ c = 13 ∨ c = 14 ∨ c = 15 ∨ c = 16 ∨ c = 17 ∨ c = 18 ∨ c = 19 ∨ c = 20 ∨ c = 21 ∨ c = 22 ∨ c = 23 := by omega
    rcases q with rfl | rfl | rfl | rfl | rfl | rfl | rfl | rfl | rfl | rfl | rfl | rfl | rfl | rfl | rfl | rfl | rfl | rfl | rfl | rfl | rfl | rfl | rfl
    · have h1 : i < 7 := h1
      show M2 48 i = M 1 i
      rw [e1 48 (by decide) (by decide)]
      repeat (first | rw [cpy_ne (by decide)] | rw [up_cell (by decide)])
      have q : i = 0 ∨ i = 1 ∨ i = 2 ∨ i = 3 ∨ i = 4 ∨ i = 5 ∨ i = 6 := by omega
      rcases q with rfl | rfl | rfl | rfl | rfl | rfl | rfl <;> rfl
    · have h1 : i < 3 := h1
      show M2 49 i = M 2 i
      rw [e1 49 (by decide) (by decide)]
      repeat (first | rw [cpy_ne (by decide)] | rw [cpy_at (by omega)] | rw [up_cell (by decide)])
    · have h1 : i < 10 := h1
      show M2 50 i = M 3 i
      rw [e1 50 (by decide) (by decide)]
      repeat (first | rw [cpy_ne (by decide)] | rw [cpy_at (by omega)] | rw [up_cell (by decide)])
    · have h1 : i < 10 := h1
      show M2 51 i = M 4 i
      rw [e1 51 (by decide) (by decide)]
      repeat (first | rw [cpy_ne (by decide)] | rw [cpy_at (by omega)] | rw [up_cell (by decide)])
    · have h1 : i < 40 := h1
      show M2 52 i = M 5 i
      rw [e1 52 (by decide) (by decide)]
      repeat (first | rw [cpy_ne (by decide)] | rw [cpy_at (by omega)] | rw [up_cell (by decide)])
    · have h1 : i < 40 := h1
      show M2 53 i = M 6 i
      rw [e1 53 (by decide) (by decide)]
      repeat (first | rw [cpy_ne (by decide)] | rw [cpy_at (by omega)] | rw [up_cell (by decide)])
    · have h1 : i < 40 := h1
      show M2 54 i = M 7 i
      rw [e1 54 (by decide) (by decide)]
      repeat (first | rw [cpy_ne (by decide)] | rw [cpy_at (by omega)] | rw [up_cell (by decide)])
    · have h1 : i < 1 := h1
      show M2 55 i = M 8 i
      rw [e1 55 (by decide) (by decide)]
      repeat (first | rw [cpy_ne (by decide)] | rw [up_cell (by decide)])
      have q : i = 0 := by omega
      subst q
      rfl
    · have h1 : i < 60 := h1
      show M2 56 i = M 9 i
      rw [e1 56 (by decide) (by decide)]
      repeat (first | rw [cpy_ne (by decide)] | rw [cpy_at (by omega)] | rw [up_cell (by decide)])
    · have h1 : i < 60 := h1
      show M2 57 i = M 10 i
      rw [e1 57 (by decide) (by decide)]
      repeat (first | rw [cpy_ne (by decide)] | rw [cpy_at (by omega)] | rw [up_cell (by decide)])
    · have h1 : i < 60 := h1
      show M2 58 i = M 11 i
      rw [e1 58 (by decide) (by decide)]
      repeat (first | rw [cpy_ne (by decide)] | rw [cpy_at (by omega)] | rw [up_cell (by decide)])
    · have h1 : i < 60 := h1
      show M2 59 i = M 12 i
      rw [e1 59 (by decide) (by decide)]
      repeat (first | rw [cpy_ne (by decide)] | rw [cpy_at (by omega)] | rw [up_cell (by decide)])
    · have h1 : i < 60 := h1
      show M2 60 i = M 13 i
      rw [e1 60 (by decide) (by decide)]
      repeat (first | rw [cpy_ne (by decide)] | rw [cpy_at (by omega)] | rw [up_cell (by decide)])
    · have h1 : i < 60 := h1
      show M2 61 i = M 14 i
      rw [e1 61 (by decide) (by decide)]
      repeat (first | rw [cpy_ne (by decide)] | rw [cpy_at (by omega)] | rw [up_cell (by decide)])
    · have h1 : i < 1 := h1
      show M2 62 i = M 15 i
      rw [e1 62 (by decide) (by decide)]
      repeat (first | rw [cpy_ne (by decide)] | rw [up_cell (by decide)])
      have q : i = 0 := by omega
      subst q
      rfl
    · have h1 : i < 24 := h1
      show M2 63 i = M 16 i
      rw [e1 63 (by decide) (by decide)]
      repeat (first | rw [cpy_ne (by decide)] | rw [cpy_at (by omega)] | rw [up_cell (by decide)])
    · have h1 : i < 24 := h1
      show M2 64 i = M 17 i
      rw [e1 64 (by decide) (by decide)]
      repeat (first | rw [cpy_ne (by decide)] | rw [cpy_at (by omega)] | rw [up_cell (by decide)])
    · have h1 : i < 24 := h1
      show M2 65 i = M 18 i
      rw [e1 65 (by decide) (by decide)]
      repeat (first | rw [cpy_ne (by decide)] | rw [cpy_at (by omega)] | rw [up_cell (by decide)])
    · have h1 : i < 24 := h1
      show M2 66 i = M 19 i
      rw [e1 66 (by decide) (by decide)]
      repeat (first | rw [cpy_ne (by decide)] | rw [cpy_at (by omega)] | rw [up_cell (by decide)])
    · have h1 : i < 24 := h1
      show M2 67 i = M 20 i
      rw [e1 67 (by decide) (by decide)]
      repeat (first | rw [cpy_ne (by decide)] | rw [cpy_at (by omega)] | rw [up_cell (by decide)])
    · have h1 : i < 24 := h1
      show M2 68 i = M 21 i
      rw [e1 68 (by decide) (by decide)]
      repeat (first | rw [cpy_ne (by decide)] | rw [cpy_at (by omega)] | rw [up_cell (by decide)])
    · have h1 : i < 24 := h1
      show M2 69 i = M 22 i
      have := (e2 i h0 h1).1
      rw [this]
      repeat (first | rw [cpy_ne (by decide)] | rw [up_cell (by decide)])
    · have h1 : i < 24 := h1
      show M2 70 i = M 23 i
      have := (e2 i h0 h1).2
      rw [this]
      repeat (first | rw [cpy_ne (by decide)] | rw [up_cell (by decide)])
  · rw [e1 c (by omega) (by omega)]
    repeat (first | rw [cpy_ne (by omega)] | rw [up_cell (by omega)])
theorem l_copy_3 {Q : Mm → Prop} : ∀ (f : Nat) (v : Int) (M : Mm), 0 ≤ v → v ≤ 24 → 24 - v < (f : Int) → (∀ i, 0 ≤ i → i < 24 → (M 46 i = 0 ∨ M 46 i = 1) ∧ (M 47 i = 0 ∨ M 47 i = 1)) → (∀ M', (∀ c : Nat, c ≠ 22 → c ≠ 23 → M' c = M c) → (∀ i, v ≤ i → i < 24 → M' 22 i = M 46 i ∧ M' 23 i = M 47 i) → (∀ i, i < v → M' 22 i = M 22 i ∧ M' 23 i = M 23 i) → Q M') → wX4_copyFrom_3_100 Q f v M := by
  intro f
  induction f with
  | zero => intro v M h0 h1 h2; omega
  | succ f ih =>
    intro v M h0 h1 h2 hz hk
    unfold wX4_copyFrom_3_100
    refine ⟨inRof ⟨by omega, by omega⟩, ?_⟩
    by_cases c : v < 24
    · rw [if_pos c]
      refine ⟨⟨h0, c⟩, (hz v h0 c).1, (hz v h0 c).2, ?_⟩
      refine ih (v + 1) _ (by omega) (by omega) (by omega) (fun i g0 g1 => ?_) (fun M' k1 k2 k3 => ?_)
      · rw [up_ne (by decide), up_ne (by decide), up_ne (by decide), up_ne (by decide)]
        exact hz i g0 g1
      · refine hk M' (fun c' e1 e2 => ?_) (fun i g0 g1 => ?_) (fun i g => ?_)
        · rw [k1 c' e1 e2, up_cell e2, up_cell e1]
        · by_cases q : i = v
          · subst q
            have := k3 i (by omega)
            rw [this.1, this.2, up_ne (by decide), up_eq, up_eq]
            exact ⟨rfl, rfl⟩
          · have := k2 i (by omega) g1
            rw [this.1, this.2, up_ne (by decide), up_ne (by decide), up_ne (by decide), up_ne (by decide)]
            exact ⟨rfl, rfl⟩
        · have := k3 i (by omega)
          rw [this.1, this.2, up_ne (by decide), up_nei (by omega), up_nei (by omega), up_ne (by decide)]
          exact ⟨rfl, rfl⟩
    · rw [if_neg c]
      exact hk M (fun _ _ _ => rfl) (fun i g0 g1 => by omega) (fun i g => ⟨rfl, rfl⟩)
set_option maxHeartbeats 4000000 in
theorem b_copy_3 {M : Mm} {k : Mm → Prop} (hz : ∀ i, 0 ≤ i → i < 24 → (M 46 i = 0 ∨ M 46 i = 1) ∧ (M 47 i = 0 ∨ M 47 i = 1)) (h : ∀ M', (∀ c : Nat, 1 ≤ c → c ≤ 23 → ∀ i, 0 ≤ i → i < szB c → M' (c + 0) i = M (c + 24) i) → (∀ c : Nat, ¬ (1 ≤ c ∧ c ≤ 23) → M' c = M c) → k M') : Bv (wX0_copyFrom_3 M) k := by
  apply Bv.of; unfold wX0_copyFrom_3
  apply Bv.of; unfold wX3_copyFrom_3
  apply Bv.of; unfold wX4_copyFrom_3
  refine ⟨25, l_copy_3 25 0 _ (by omega) (by omega) (by omega) (fun i h0 h1 => ?_) (fun M2 e1 e2 _ => h M2 (fun c g1 g2 i h0 h1 => ?_) (fun c g => ?_))⟩
  · repeat (first | rw [cpy_ne (by decide)] | rw [up_cell (by decide)])
    exact hz i h0 h1
  · have q : c = 1 ∨ c = 2 ∨ c = 3 ∨ c = 4 ∨ c = 5 ∨ c = 6 ∨ c = 7 ∨ c = 8 ∨ c = 9 ∨ c = 10 ∨ c = 11 ∨ c = 12 ∨ c = 13 ∨ c = 14 ∨ c = 15 ∨ c = 16 ∨ c = 17 ∨ c = 18 ∨ c = 19 ∨ c = 20 ∨ c = 21 ∨ c = 22 ∨ c = 23 := by omega
    rcases q with rfl | rfl | rfl | rfl | rfl | rfl | rfl | rfl | rfl | rfl | rfl | rfl | rfl | rfl | rfl | rfl | rfl | rfl | rfl | rfl | rfl | rfl | rfl
    · have h1 : i < 7 := h1
      show M2 1 i = M 25 i
      rw [e1 1 (by decide) (by decide)]
      repeat (first | rw [cpy_ne (by decide)] | rw [up_cell (by decide)])
      have q : i = 0 ∨ i = 1 ∨ i = 2 ∨ i = 3 ∨ i = 4 ∨ i = 5 ∨ i = 6 := by omega
      rcases q with rfl | rfl | rfl | rfl | rfl | rfl | rfl <;> rfl
    · have h1 : i < 3 := h1
      show M2 2 i = M 26 i
      rw [e1 2 (by decide) (by decide)]
      repeat (first | rw [cpy_ne (by decide)] | rw [cpy_at (by omega)] | rw [up_cell (by decide)])
    · have h1 : i < 10 := h1
      show M2 3 i = M 27 i
      rw [e1 3 (by decide) (by decide)]
      repeat (first | rw [cpy_ne (by decide)] | rw [cpy_at (by omega)] | rw [up_cell (by decide)])
    · have h1 : i < 10 := h1
      show M2 4 i = M 28 i
      rw [e1 4 (by decide) (by decide)]
      repeat (first | rw [cpy_ne (by decide)] | rw [cpy_at (by omega)] | rw [up_cell (by decide)])
    · have h1 : i < 40 := h1
      show M2 5 i = M 29 i
      rw [e1 5 (by decide) (by decide)]
      repeat (first | rw [cpy_ne (by decide)] | rw [cpy_at (by omega)] | rw [up_cell (by decide)])
    · have h1 : i < 40 := h1
      show M2 6 i = M 30 i
      rw [e1 6 (by decide) (by decide)]
      repeat (first | rw [cpy_ne (by decide)] | rw [cpy_at (by omega)] | rw [up_cell (by decide)])
    · have h1 : i < 40 := h1
      show M2 7 i = M 31 i
      rw [e1 7 (by decide) (by decide)]
      repeat (first | rw [cpy_ne (by decide)] | rw [cpy_at (by omega)] | rw [up_cell (by decide)])
    · have h1 : i < 1 := h1
      show M2 8 i = M 32 i
      rw [e1 8 (by decide) (by decide)]
      repeat (first | rw [cpy_ne (by decide)] | rw [up_cell (by decide)])
      have q : i = 0 := by omega
      subst q
      rfl
    · have h1 : i < 60 := h1
      show M2 9 i = M 33 i
      rw [e1 9 (by decide) (by decide)]
      repeat (first | rw [cpy_ne (by decide)] | rw [cpy_at (by omega)] | rw [up_cell (by decide)])
    · have h1 : i < 60 := h1
      show M2 10 i = M 34 i
      rw [e1 10 (by decide) (by decide)]
      repeat (first | rw [cpy_ne (by decide)] | rw [cpy_at (by omega)] | rw [up_cell (by decide)])
    · have h1 : i < 60 := h1
      show M2 11 i = M 35 i
      rw [e1 11 (by decide) (by decide)]
      repeat (first | rw [cpy_ne (by decide)] | rw [cpy_at (by omega)] | rw [up_cell (by decide)])
    · have h1 : i < 60 := h1
      show M2 12 i = M 36 i
      rw [e1 12 (by decide) (by decide)]
      repeat (first | rw [cpy_ne (by decide)] | rw [cpy_at (by omega)] | rw [up_cell (by decide)])
    · have h1 : i < 60 := h1
      show M2 13 i = M 37 i
      rw [e1 13 (by decide) (by decide)]
      repeat (first | rw [cpy_ne (by decide)] | rw [cpy_at (by omega)] | rw [up_cell (by decide)])
    · have h1 : i < 60 := h1
      show M2 14 i = M 38 i
      rw [e1 14 (by decide) (by decide)]
      repeat (first | rw [cpy_ne (by decide)] | rw [cpy_at (by omega)] | rw [up_cell (by decide)])
    · have h1 : i < 1 := h1
      show M2 15 i = M 39 i
      rw [e1 15 (by decide) (by decide)]
      repeat (first | rw [cpy_ne (by decide)] | rw [up_cell (by decide)])
      have q : i = 0 := by omega
      subst q
      rfl
    · have h1 : i < 24 := h1
      show M2 16 i = M 40 i
      rw [e1 16 (by decide) (by decide)]
      repeat (first | rw [cpy_ne (by decide)] | rw [cpy_at (by omega)] | rw [up_cell (by decide)])
    · have h1 : i < 24 := h1
      show M2 17 i = M 41 i
      rw [e1 17 (by decide) (by decide)]
      repeat (first | rw [cpy_ne (by decide)] | rw [cpy_at (by omega)] | rw [up_cell (by decide)])
    · have h1 : i < 24 := h1
      show M2 18 i = M 42 i
      rw [e1 18 (by decide) (by decide)]
      repeat (first | rw [cpy_ne (by decide)] | rw [cpy_at (by omega)] | rw [up_cell (by decide)])
    · have h1 : i < 24 := h1
      show M2 19 i = M 43 i
      rw [e1 19 (by decide) (by decide)]
      repeat (first | rw [cpy_ne (by decide)] | rw [cpy_at (by omega)] | rw [up_cell (by decide)])
    · have h1 : i < 24 := h1
      show M2 20 i = M 44 i
      rw [e1 20 (by decide) (by decide)]
      repeat (first | rw [cpy_ne (by decide)] | rw [cpy_at (by omega)] | rw [up_cell (by decide)])
    · have h1 : i < 24 := h1
      show M2 21 i = M 45 i
      rw [e1 21 (by decide) (by decide)]
      repeat (first | rw [cpy_ne (by decide)] | rw [cpy_at (by omega)] | rw [up_cell (by decide)])
    · have h1 : i < 24 := h1
      show M2 22 i = M 46 i
      have := (e2 i h0 h1).1
      rw [this]
      repeat (first | rw [cpy_ne (by decide)] | rw [up_cell (by decide)])
    · have h1 : i < 24 := h1
      show M2 23 i = M 47 i
      have := (e2 i h0 h1).2
      rw [this]
      repeat (first | rw [cpy_ne (by decide)] | rw [up_cell (by decide)])
  · rw [e1 c (by omega) (by omega)]
    repeat (first | rw [cpy_ne (by omega)] | rw [up_cell (by omega)])
theorem l_copy_4 {Q : Mm → Prop} : ∀ (f : Nat) (v : Int) (M : Mm), 0 ≤ v → v ≤ 24 → 24 - v < (f : Int) → (∀ i, 0 ≤ i → i < 24 → (M 69 i = 0 ∨ M 69 i = 1) ∧ (M 70 i = 0 ∨ M 70 i = 1)) → (∀ M', (∀ c : Nat, c ≠ 22 → c ≠ 23 → M' c = M c) → (∀ i, v ≤ i → i < 24 → M' 22 i = M 69 i ∧ M' 23 i = M 70 i) → (∀ i, i < v → M' 22 i = M 22 i ∧ M' 23 i = M 23 i) → Q M') → wX4_copyFrom_4_100 Q f v M := by
  intro f
  induction f with
  | zero => intro v M h0 h1 h2; omega
  | succ f ih =>
    intro v M h0 h1 h2 hz hk
    unfold wX4_copyFrom_4_100
    refine ⟨inRof ⟨by omega, by omega⟩, ?_⟩
    by_cases c : v < 24
    · rw [if_pos c]
      refine ⟨⟨h0, c⟩, (hz v h0 c).1, (hz v h0 c).2, ?_⟩
      refine ih (v + 1) _ (by omega) (by omega) (by omega) (fun i g0 g1 => ?_) (fun M' k1 k2 k3 => ?_)
      · rw [up_ne (by decide), up_ne (by decide), up_ne (by decide), up_ne (by decide)]
        exact hz i g0 g1
      · refine hk M' (fun c' e1 e2 => ?_) (fun i g0 g1 => ?_) (fun i g => ?_)
        · rw [k1 c' e1 e2, up_cell e2, up_cell e1]
        · by_cases q : i = v
          · subst q
            have := k3 i (by omega)
            rw [this.1, this.2, up_ne (by decide), up_eq, up_eq]
            exact ⟨rfl, rfl⟩
          · have := k2 i (by omega) g1
            rw [this.1, this.2, up_ne (by decide), up_ne (by decide), up_ne (by decide), up_ne (by decide)]
            exact ⟨rfl, rfl⟩
        · have := k3 i (by omega)
          rw [this.1, this.2, up_ne (by decide), up_nei (by omega), up_nei (by omega), up_ne (by decide)]
          exact ⟨rfl, rfl⟩
    · rw [if_neg c]
      exact hk M (fun _ _ _ => rfl) (fun i g0 g1 => by omega) (fun i g => ⟨rfl, rfl⟩)
set_option maxHeartbeats 4000000 in
theorem b_copy_4 {M : Mm} {k : Mm → Prop} (hz : ∀ i, 0 ≤ i → i < 24 → (M 69 i = 0 ∨ M 69 i = 1) ∧ (M 70 i = 0 ∨ M 70 i = 1)) (h : ∀ M', (∀ c : Nat, 1 ≤ c → c ≤ 23 → ∀ i, 0 ≤ i → i < szB c → M' (c + 0) i = M (c + 47) i) → (∀ c : Nat, ¬ (1 ≤ c ∧ c ≤ 23) → M' c = M c) → k M') : Bv (wX0_copyFrom_4 M) k := by
  apply Bv.of; unfold wX0_copyFrom_4
  apply Bv.of; unfold wX3_copyFrom_4
  apply Bv.of; unfold wX4_copyFrom_4
  refine ⟨25, l_copy_4 25 0 _ (by omega) (by omega) (by omega) (fun i h0 h1 => ?_) (fun M2 e1 e2 _ => h M2 (fun c g1 g2 i h0 h1 => ?_) (fun c g => ?_))⟩
  · repeat (first | rw [cpy_ne (by decide)] | rw [up_cell (by decide)])
    exact hz i h0 h1
  · have q : c = 1 ∨ c = 2 ∨ c = 3 ∨ c = 4 ∨ c = 5 ∨ c = 6 ∨ c = 7 ∨ c = 8 ∨ c = 9 ∨ c = 10 ∨ c = 11 ∨ c = 12 ∨ c = 13 ∨ c = 14 ∨ c = 15 ∨ c = 16 ∨ c = 17 ∨ c = 18 ∨ c = 19 ∨ c = 20 ∨ c = 21 ∨ c = 22 ∨ c = 23 := by omega
    rcases q with rfl | rfl | rfl | rfl | rfl | rfl | rfl | rfl | rfl | rfl | rfl | rfl | rfl | rfl | rfl | rfl | rfl | rfl | rfl | rfl | rfl | rfl | rfl
    · have h1 : i < 7 := h1
      show M2 1 i = M 48 i
      rw [e1 1 (by decide) (by decide)]
      repeat (first | rw [cpy_ne (by decide)] | rw [up_cell (by decide)])
      have q : i = 0 ∨ i = 1 ∨ i = 2 ∨ i = 3 ∨ i = 4 ∨ i = 5 ∨ i = 6 := by omega
      rcases q with rfl | rfl | rfl | rfl | rfl | rfl | rfl <;> rfl
    · have h1 : i < 3 := h1
      show M2 2 i = M 49 i
      rw [e1 2 (by decide) (by decide)]
      repeat (first | rw [cpy_ne (by decide)] | rw [cpy_at (by omega)] | rw [up_cell (by decide)])
    · have h1 : i < 10 := h1
      show M2 3 i = M 50 i
      rw [e1 3 (by decide) (by decide)]
      repeat (first | rw [cpy_ne (by decide)] | rw [cpy_at (by omega)] | rw [up_cell (by decide)])
    · have h1 : i < 10 := h1
      show M2 4 i = M 51 i
      rw [e1 4 (by decide) (by decide)]
      repeat (first | rw [cpy_ne (by decide)] | rw [cpy_at (by omega)] | rw [up_cell (by decide)])
    · have h1 : i < 40 := h1
      show M2 5 i = M 52 i
      rw [e1 5 (by decide) (by decide)]
      repeat (first | rw [cpy_ne (by decide)] | rw [cpy_at (by omega)] | rw [up_cell (by decide)])
    · have h1 : i < 40 := h1
      show M2 6 i = M 53 i
      rw [e1 6 (by decide) (by decide)]
      repeat (first | rw [cpy_ne (by decide)] | rw [cpy_at (by omega)] | rw [up_cell (by decide)])
    · have h1 : i < 40 := h1
      show M2 7 i = M 54 i
      rw [e1 7 (by decide) (by decide)]
      repeat (first | rw [cpy_ne (by decide)] | rw [cpy_at (by omega)] | rw [up_cell (by decide)])
    · have h1 : i < 1 := h1
      show M2 8 i = M 55 i
      rw [e1 8 (by decide) (by decide)]
      repeat (first | rw [cpy_ne (by decide)] | rw [up_cell (by decide)])
      have q : i = 0 := by omega
      subst q
      rfl
    · have h1 : i < 60 := h1
      show M2 9 i = M 56 i
      rw [e1 9 (by decide) (by decide)]
      repeat (first | rw [cpy_ne (by decide)] | rw [cpy_at (by omega)] | rw [up_cell (by decide)])
    · have h1 : i < 60 := h1
      show M2 10 i = M 57 i
      rw [e1 10 (by decide) (by decide)]
      repeat (first | rw [cpy_ne (by decide)] | rw [cpy_at (by omega)] | rw [up_cell (by decide)])
    · have h1 : i < 60 := h1
      show M2 11 i = M 58 i
      rw [e1 11 (by decide) (by decide)]
      repeat (first | rw [cpy_ne (by decide)] | rw [cpy_at (by omega)] | rw [up_cell (by decide)])
    · have h1 : i < 60 := h1
      show M2 12 i = M 59 i
      rw [e1 12 (by decide) (by decide)]
      repeat (first | rw [cpy_ne (by decide)] | rw [cpy_at (by omega)] | rw [up_cell (by decide)])
    · have h1 : i < 60 := h1
      show M2 13 i = M 60 i
      rw [e1 13 (by decide) (by decide)]
      repeat (first | rw [cpy_ne (by decide)] | rw [cpy_at (by omega)] | rw [up_cell (by decide)])
    · have h1 : i < 60 := h1
      show M2 14 i = M 61 i
      rw [e1 14 (by decide) (by decide)]
      repeat (first | rw [cpy_ne (by decide)] | rw [cpy_at (by omega)] | rw [up_cell (by decide)])
    · have h1 : i < 1 := h1
      show M2 15 i = M 62 i
      rw [e1 15 (by decide) (by decide)]
      repeat (first | rw [cpy_ne (by decide)] | rw [up_cell (by decide)])
      have q : i = 0 := by omega
      subst q
      rfl
    · have h1 : i < 24 := h1
      show M2 16 i = M 63 i
      rw [e1 16 (by decide) (by decide)]
      repeat (first | rw [cpy_ne (by decide)] | rw [cpy_at (by omega)] | rw [up_cell (by decide)])
    · have h1 : i < 24 := h1
      show M2 17 i = M 64 i
      rw [e1 17 (by decide) (by decide)]
      repeat (first | rw [cpy_ne (by decide)] | rw [cpy_at (by omega)] | rw [up_cell (by decide)])
    · have h1 : i < 24 := h1
      show M2 18 i = M 65 i
      rw [e1 18 (by decide) (by decide)]
      repeat (first | rw [cpy_ne (by decide)] | rw [cpy_at (by omega)] | rw [up_cell (by decide)])
    · have h1 : i < 24 := h1
      show M2 19 i = M 66 i
      rw [e1 19 (by decide) (by decide)]
      repeat (first | rw [cpy_ne (by decide)] | rw [cpy_at (by omega)] | rw [up_cell (by decide)])
    · have h1 : i < 24 := h1
      show M2 20 i = M 67 i
      rw [e1 20 (by decide) (by decide)]
      repeat (first | rw [cpy_ne (by decide)] | rw [cpy_at (by omega)] | rw [up_cell (by decide)])
    · have h1 : i < 24 := h1
      show M2 21 i = M 68 i
      rw [e1 21 (by decide) (by decide)]
      repeat (first | rw [cpy_ne (by decide)] | rw [cpy_at (by omega)] | rw [up_cell (by decide)])
    · have h1 : i < 24 := h1
      show M2 22 i = M 69 i
      have := (e2 i h0 h1).1
      rw [this]
      repeat (first | rw [cpy_ne (by decide)] | rw [up_cell (by decide)])
    · have h1 : i < 24 := h1
      show M2 23 i = M 70 i
      have := (e2 i h0 h1).2
      rw [this]
      repeat (first | rw [cpy_ne (by decide)] | rw [up_cell (by decide)])
  · rw [e1 c (by omega) (by omega)]
    repeat (first | rw [cpy_ne (by omega)] | rw [up_cell (by omega)])
