/-! ===== image, back ===== -/
section Img
variable {M : Mm} {k : Mm → Prop} {a : Int}
theorem l_mimg {Q : Int → Mm → Prop} {a : Int} (ha : a = 0 ∨ a = 1) : ∀ (f : Nat) (v : Int) (M : Mm), 0 ≤ v → v ≤ 730 → 730 - v < (f : Int) → (∀ M', (∀ c : Nat, c ≠ 104 → M' c = M c) → (∀ i, v ≤ i → i < 730 → M' 104 (730 * a + i) = M 103 i) → (∀ j, ¬ (730 * a + v ≤ j ∧ j < 730 * a + 730) → M' 104 j = M 104 j) → wX12_image_48 Q a M') → wX12_image_17 Q a f v M := by
  intro f
  induction f with
  | zero => intro v M h0 h1 h2; omega
  | succ f ih =>
    intro v M h0 h1 h2 hk
    unfold wX12_image_17
    refine ⟨inRof ⟨by omega, by omega⟩, ?_⟩
    by_cases c : v < 730
    · rw [if_pos c]
      refine ⟨⟨h0, c⟩, ⟨by omega, by omega⟩, ?_⟩
      refine ih (v + 1) _ (by omega) (by omega) (by omega) (fun M' k1 k2 k3 => ?_)
      refine hk M' (fun c' e1 => ?_) (fun i g0 g1 => ?_) (fun j g => ?_)
      · rw [k1 c' e1, up_cell e1]
      · by_cases q : i = v
        · subst q
          rw [k3 _ (by omega), up_eq]
        · rw [k2 i (by omega) g1, up_ne (by decide)]
      · rw [k3 j (by omega), up_nei (by omega)]
    · rw [if_neg c]
      exact hk M (fun _ _ => rfl) (fun i g0 g1 => by omega) (fun j g => rfl)
theorem l_mback {Q : Int → Mm → Prop} {a : Int} (ha : a = 0 ∨ a = 1) : ∀ (f : Nat) (v : Int) (M : Mm), 0 ≤ v → v ≤ 730 → 730 - v < (f : Int) → (∀ M', (∀ c : Nat, c ≠ 103 → M' c = M c) → (∀ i, v ≤ i → i < 730 → M' 103 i = M 104 (730 * a + i)) → (∀ j, j < v → M' 103 j = M 103 j) → Q 0 (up M' 102 0 0)) → wX12_back_33 Q a f v M := by
  intro f
  induction f with
  | zero => intro v M h0 h1 h2; omega
  | succ f ih =>
    intro v M h0 h1 h2 hk
    unfold wX12_back_33
    refine ⟨inRof ⟨by omega, by omega⟩, ?_⟩
    by_cases c : v < 730
    · rw [if_pos c]
      refine ⟨⟨by omega, by omega⟩, ⟨h0, c⟩, ?_⟩
      refine ih (v + 1) _ (by omega) (by omega) (by omega) (fun M' k1 k2 k3 => ?_)
      refine hk M' (fun c' e1 => ?_) (fun i g0 g1 => ?_) (fun j g => ?_)
      · rw [k1 c' e1, up_cell e1]
      · by_cases q : i = v
        · subst q
          rw [k3 _ (by omega), up_eq]
        · rw [k2 i (by omega) g1, up_ne (by decide)]
      · rw [k3 j (by omega), up_nei (by omega)]
    · rw [if_neg c]
      exact b_endsP (by omega) (hk M (fun _ _ => rfl) (fun i g0 g1 => by omega) (fun j g => rfl))
theorem m_image (ha : inR a) {k : Int → Mm → Prop} (h1 : (a = 0 ∨ a = 1) → ∀ M', (∀ c : Nat, c ≠ 104 → M' c = M c) → (∀ i, 0 ≤ i → i < 730 → M' 104 (730 * a + i) = M 103 i) → (∀ j, ¬ (730 * a ≤ j ∧ j < 730 * a + 730) → M' 104 j = M 104 j) → k 0 (up (up M' 105 a 1) 102 0 0)) (h0 : ¬ (a = 0 ∨ a = 1) → k (-1) (up M 102 0 (-1))) : Bd (wX12_image a M) k := by
  apply Bd.of; unfold wX12_image
  refine i_in ha inR0 (inRl (by decide)) (fun c1 => ?_) (fun c1 => b_endsN (by omega) (h0 (by omega)))
  refine ⟨731, l_mimg (by omega) 731 0 M (by omega) (by omega) (by omega) (fun M' k1 k2 k3 => ?_)⟩
  unfold wX12_image_48
  refine ⟨⟨by omega, by omega⟩, b_endsP (by omega) (h1 (by omega) M' k1 k2 (fun j hj => k3 j (by omega)))⟩
theorem x_image (ha : inR a) (hz : BkZ M) {k : Int → Mm → Prop} (h1 : a = 0 → ∀ M', (∀ c : Nat, 1 ≤ c → c ≤ 23 → ∀ i, 0 ≤ i → i < szB c → M' (c + 24) i = M c i) → (∀ c : Nat, ¬ (25 ≤ c ∧ c ≤ 47) → M' c = M c) → k 0 (up (up M' 71 a 1) 0 10 0)) (h2 : a = 1 → ∀ M', (∀ c : Nat, 1 ≤ c → c ≤ 23 → ∀ i, 0 ≤ i → i < szB c → M' (c + 47) i = M c i) → (∀ c : Nat, ¬ (48 ≤ c ∧ c ≤ 70) → M' c = M c) → k 0 (up (up M' 71 a 1) 0 10 0)) (h0 : ¬ (a = 0 ∨ a = 1) → k (-1) (up M 0 10 (-1))) : Bd (wX11_image a M) k := by
  apply Bd.of; unfold wX11_image
  refine i_within ha inR0 (inRl (by decide)) (fun c1 => ⟨⟨by omega, by omega⟩, ?_⟩) (fun c1 => b_refuse (h0 (by omega)))
  by_cases q : a = 0
  · rw [if_pos q]
    refine b_copy hz (fun M' e1 e2 => b_accept (h1 q M' (fun c g1 g2 i g3 g4 => e1 c g1 g2 i g3 g4) e2))
  · rw [if_neg q]
    refine b_copy_2 hz (fun M' e1 e2 => b_accept (h2 (by omega) M' (fun c g1 g2 i g3 g4 => e1 c g1 g2 i g3 g4) e2))
theorem op_image (ha : inR a) (hI : Inv M) (hk : ∀ M, Inv M → k M) : Bd (wX11_image a M) (fun r1 M1 => Bd (wX12_image a M1) (fun r2 M2 => inR r1 ∧ inR r2 ∧ r1 = r2 ∧ k M2)) := by
  have hI' := hI
  obtain ⟨i1, i2, i3, i4, i5, i6, i7, i8, i9, i10, i11⟩ := hI'
  refine x_image ha i1.2.2.2.2.2.2.2.2 (fun c1 M1 e1 e2 => ?_) (fun c1 M1 e1 e2 => ?_) (fun c1 => ?_)
  · subst c1
    refine m_image ha (fun _ M2 f1 f2 f3 => ⟨inR0, inR0, rfl, hk _ ?_⟩) (fun q => absurd (Or.inl rfl) q)
    have g : ∀ c : Nat, ¬ (25 ≤ c ∧ c ≤ 47) → c ≠ 104 → c ≠ 0 → c ≠ 71 → M2 c = M c := fun c q1 q2 q3 q4 => by rw [f1 c q2, up_cell q3, up_cell q4, e2 c q1]
    have g2 : ∀ c : Nat, 25 ≤ c → c ≤ 47 → M2 c = M1 c := fun c q1 q2 => by rw [f1 c (by omega), up_cell (by omega), up_cell (by omega)]
    have g0 : ∀ i, i ≠ 10 → M2 0 i = M 0 i := fun i q => by rw [f1 0 (by decide), up_nei q, up_ne (by decide), e2 0 (by decide)]
    have g71 : M2 71 1 = M 71 1 := by rw [f1 71 (by decide), up_ne (by decide), up_nei (by decide), e2 71 (by decide)]
    have g710 : M2 71 0 = 1 := by rw [f1 71 (by decide), up_ne (by decide), up_eq]
    have f2' : ∀ i, 0 ≤ i → i < 730 → M2 104 i = M 103 i := fun i q1 q2 => by
      have := f2 i q1 q2
      rw [show (730 : Int) * 0 + i = i by omega] at this
      rw [this, up_ne (by decide), up_ne (by decide), e2 103 (by decide)]
    refine ⟨?_, ?_, ?_, ?_, ?_, ?_, ?_, ?_, ?_, ?_, ?_⟩
    · exact BkR_congr (fun c h1 h2 i _ _ => by rw [up_ne (by omega), up_ne (by omega), g c (by omega) (by omega) (by omega) (by omega)]) (fun i _ _ => by rw [up_ne (by decide), up_ne (by decide), g 103 (by decide) (by decide) (by decide) (by decide)]) i1
    · refine ⟨⟨?_, Or.inr ?_⟩, ?_⟩
      · rw [up_ne (by decide), up_ne (by decide), g710, up_ne (by decide), up_eq]
      · rw [up_ne (by decide), up_ne (by decide), g710]
      · rw [up_ne (by decide), up_ne (by decide), up_ne (by decide), up_nei (by decide), g71, g 105 (by decide) (by decide) (by decide) (by decide)]
        exact i2.2
    · intro _
      refine BkR_congr (fun c h1 h2 i q1 q2 => ?_) (fun i q1 q2 => ?_) i1
      · show up (up M2 105 0 1) 102 0 0 (c + 24) i = M c i
        rw [up_ne (by omega), up_ne (by omega), g2 (c + 24) (by omega) (by omega), e1 c h1 h2 i q1 q2]
      · rw [up_ne (by decide), up_ne (by decide), f2' i q1 q2]
    · intro h1
      rw [up_ne (by decide), up_ne (by decide), g71] at h1
      refine BkR_congr (fun c h1 h2 i q1 q2 => ?_) (fun i q1 q2 => ?_) (i4 h1)
      · show up (up M2 105 0 1) 102 0 0 (c + 47) i = M (c + 47) i
        rw [up_ne (by omega), up_ne (by omega), g (c + 47) (by omega) (by omega) (by omega) (by omega)]
      · show up (up M2 105 0 1) 102 0 0 104 (730 + i) = M 104 (730 + i)
        rw [up_ne (by decide), up_ne (by decide), f3 (730 + i) (by omega), up_ne (by decide), up_ne (by decide), e2 104 (by decide)]
    · have e : up (up M2 105 0 1) 102 0 0 0 10 = 0 := by rw [up_ne (by decide), up_ne (by decide), f1 0 (by decide), up_eq]
      rw [e, up_eq]
      omega
    · rw [up_ne (by decide), up_ne (by decide), up_ne (by decide), up_ne (by decide), up_nei (by decide), up_ne (by decide), g0 11 (by decide), g0 12 (by decide), g 102 (by decide) (by decide) (by decide) (by decide)]
      exact i6
    · rw [up_ne (by decide), up_ne (by decide), up_cell (by decide), up_cell (by decide), up_nei (by decide), up_ne (by decide), up_cell (by decide), up_cell (by decide), g 86 (by decide) (by decide) (by decide) (by decide), g 87 (by decide) (by decide) (by decide) (by decide), g 102 (by decide) (by decide) (by decide) (by decide), g 111 (by decide) (by decide) (by decide) (by decide)]
      exact i7
    · rw [up_ne (by decide), up_ne (by decide), up_cell (by decide), up_cell (by decide), up_ne (by decide), up_ne (by decide), up_nei (by decide), up_ne (by decide), up_cell (by decide), up_cell (by decide), up_nei (by decide), up_ne (by decide), g 88 (by decide) (by decide) (by decide) (by decide), g 89 (by decide) (by decide) (by decide) (by decide), g 102 (by decide) (by decide) (by decide) (by decide), g 114 (by decide) (by decide) (by decide) (by decide)]
      exact i8
    · rw [up_ne (by decide), up_ne (by decide), up_cell (by decide), up_cell (by decide), up_nei (by decide), up_ne (by decide), up_cell (by decide), up_cell (by decide), g 90 (by decide) (by decide) (by decide) (by decide), g 98 (by decide) (by decide) (by decide) (by decide), g 102 (by decide) (by decide) (by decide) (by decide), g 122 (by decide) (by decide) (by decide) (by decide)]
      exact i9
    · rw [up_ne (by decide), up_ne (by decide), up_cell (by decide), up_cell (by decide), up_nei (by decide), up_ne (by decide), up_cell (by decide), up_cell (by decide), g 90 (by decide) (by decide) (by decide) (by decide), g 99 (by decide) (by decide) (by decide) (by decide), g 102 (by decide) (by decide) (by decide) (by decide), g 124 (by decide) (by decide) (by decide) (by decide)]
      exact i10
    · rw [up_ne (by decide), up_ne (by decide), up_cell (by decide), up_cell (by decide), up_nei (by decide), up_ne (by decide), up_cell (by decide), up_cell (by decide), g 100 (by decide) (by decide) (by decide) (by decide), g 101 (by decide) (by decide) (by decide) (by decide), g 102 (by decide) (by decide) (by decide) (by decide), g 125 (by decide) (by decide) (by decide) (by decide)]
      exact i11
  · subst c1
    refine m_image ha (fun _ M2 f1 f2 f3 => ⟨inR0, inR0, rfl, hk _ ?_⟩) (fun q => absurd (Or.inr rfl) q)
    have g : ∀ c : Nat, ¬ (48 ≤ c ∧ c ≤ 70) → c ≠ 104 → c ≠ 0 → c ≠ 71 → M2 c = M c := fun c q1 q2 q3 q4 => by rw [f1 c q2, up_cell q3, up_cell q4, e2 c q1]
    have g2 : ∀ c : Nat, 48 ≤ c → c ≤ 70 → M2 c = M1 c := fun c q1 q2 => by rw [f1 c (by omega), up_cell (by omega), up_cell (by omega)]
    have g0 : ∀ i, i ≠ 10 → M2 0 i = M 0 i := fun i q => by rw [f1 0 (by decide), up_nei q, up_ne (by decide), e2 0 (by decide)]
    have g71 : M2 71 0 = M 71 0 := by rw [f1 71 (by decide), up_ne (by decide), up_nei (by decide), e2 71 (by decide)]
    have g710 : M2 71 1 = 1 := by rw [f1 71 (by decide), up_ne (by decide), up_eq]
    have f2' : ∀ i, 0 ≤ i → i < 730 → M2 104 (730 + i) = M 103 i := fun i q1 q2 => by
      have := f2 i q1 q2
      rw [show (730 : Int) * 1 + i = 730 + i by omega] at this
      rw [this, up_ne (by decide), up_ne (by decide), e2 103 (by decide)]
    refine ⟨?_, ?_, ?_, ?_, ?_, ?_, ?_, ?_, ?_, ?_, ?_⟩
    · exact BkR_congr (fun c h1 h2 i _ _ => by rw [up_ne (by omega), up_ne (by omega), g c (by omega) (by omega) (by omega) (by omega)]) (fun i _ _ => by rw [up_ne (by decide), up_ne (by decide), g 103 (by decide) (by decide) (by decide) (by decide)]) i1
    · refine ⟨?_, ⟨?_, Or.inr ?_⟩⟩
      · rw [up_ne (by decide), up_ne (by decide), up_ne (by decide), up_nei (by decide), g71, g 105 (by decide) (by decide) (by decide) (by decide)]
        exact i2.1
      · rw [up_ne (by decide), up_ne (by decide), g710, up_ne (by decide), up_eq]
      · rw [up_ne (by decide), up_ne (by decide), g710]
    · intro h1
      rw [up_ne (by decide), up_ne (by decide), g71] at h1
      refine BkR_congr (fun c h1 h2 i q1 q2 => ?_) (fun i q1 q2 => ?_) (i3 h1)
      · show up (up M2 105 1 1) 102 0 0 (c + 24) i = M (c + 24) i
        rw [up_ne (by omega), up_ne (by omega), g (c + 24) (by omega) (by omega) (by omega) (by omega)]
      · show up (up M2 105 1 1) 102 0 0 104 i = M 104 i
        rw [up_ne (by decide), up_ne (by decide), f3 i (by omega), up_ne (by decide), up_ne (by decide), e2 104 (by decide)]
    · intro _
      refine BkR_congr (fun c h1 h2 i q1 q2 => ?_) (fun i q1 q2 => ?_) i1
      · show up (up M2 105 1 1) 102 0 0 (c + 47) i = M c i
        rw [up_ne (by omega), up_ne (by omega), g2 (c + 47) (by omega) (by omega), e1 c h1 h2 i q1 q2]
      · show up (up M2 105 1 1) 102 0 0 104 (730 + i) = M 103 i
        rw [up_ne (by decide), up_ne (by decide), f2' i q1 q2]
    · have e : up (up M2 105 1 1) 102 0 0 0 10 = 0 := by rw [up_ne (by decide), up_ne (by decide), f1 0 (by decide), up_eq]
      rw [e, up_eq]
      omega
    · rw [up_ne (by decide), up_ne (by decide), up_ne (by decide), up_ne (by decide), up_nei (by decide), up_ne (by decide), g0 11 (by decide), g0 12 (by decide), g 102 (by decide) (by decide) (by decide) (by decide)]
      exact i6
    · rw [up_ne (by decide), up_ne (by decide), up_cell (by decide), up_cell (by decide), up_nei (by decide), up_ne (by decide), up_cell (by decide), up_cell (by decide), g 86 (by decide) (by decide) (by decide) (by decide), g 87 (by decide) (by decide) (by decide) (by decide), g 102 (by decide) (by decide) (by decide) (by decide), g 111 (by decide) (by decide) (by decide) (by decide)]
      exact i7
    · rw [up_ne (by decide), up_ne (by decide), up_cell (by decide), up_cell (by decide), up_ne (by decide), up_ne (by decide), up_nei (by decide), up_ne (by decide), up_cell (by decide), up_cell (by decide), up_nei (by decide), up_ne (by decide), g 88 (by decide) (by decide) (by decide) (by decide), g 89 (by decide) (by decide) (by decide) (by decide), g 102 (by decide) (by decide) (by decide) (by decide), g 114 (by decide) (by decide) (by decide) (by decide)]
      exact i8
    · rw [up_ne (by decide), up_ne (by decide), up_cell (by decide), up_cell (by decide), up_nei (by decide), up_ne (by decide), up_cell (by decide), up_cell (by decide), g 90 (by decide) (by decide) (by decide) (by decide), g 98 (by decide) (by decide) (by decide) (by decide), g 102 (by decide) (by decide) (by decide) (by decide), g 122 (by decide) (by decide) (by decide) (by decide)]
      exact i9
    · rw [up_ne (by decide), up_ne (by decide), up_cell (by decide), up_cell (by decide), up_nei (by decide), up_ne (by decide), up_cell (by decide), up_cell (by decide), g 90 (by decide) (by decide) (by decide) (by decide), g 99 (by decide) (by decide) (by decide) (by decide), g 102 (by decide) (by decide) (by decide) (by decide), g 124 (by decide) (by decide) (by decide) (by decide)]
      exact i10
    · rw [up_ne (by decide), up_ne (by decide), up_cell (by decide), up_cell (by decide), up_nei (by decide), up_ne (by decide), up_cell (by decide), up_cell (by decide), g 100 (by decide) (by decide) (by decide) (by decide), g 101 (by decide) (by decide) (by decide) (by decide), g 102 (by decide) (by decide) (by decide) (by decide), g 125 (by decide) (by decide) (by decide) (by decide)]
      exact i11
  · exact m_image ha (fun q => absurd q c1) (fun _ => ⟨(inRl (by decide)), (inRl (by decide)), rfl, hk _ (hI.status (by omega))⟩)
end Img
