/-! ===== back, calls, tape, seal ===== -/
section Bk
variable {M : Mm} {k : Mm → Prop} {a b c d e : Int}
theorem m_back (ha : inR a) (hr : ∀ j, j = 0 ∨ j = 1 → M 105 j = 0 ∨ M 105 j = 1) {k : Int → Mm → Prop} (h1 : (a = 0 ∨ a = 1) → M 105 a = 1 → ∀ M', (∀ c : Nat, c ≠ 103 → M' c = M c) → (∀ i, 0 ≤ i → i < 730 → M' 103 i = M 104 (730 * a + i)) → k 0 (up M' 102 0 0)) (h0 : ¬ (a = 0 ∨ a = 1) → k (-1) (up M 102 0 (-1))) (h2 : (a = 0 ∨ a = 1) → M 105 a = 0 → k (-2) (up M 102 0 (-2))) : Bd (wX12_back a M) k := by
  apply Bd.of; unfold wX12_back
  refine i_in ha inR0 (inRl (by decide)) (fun c1 => ⟨⟨by omega, by omega⟩, ?_⟩) (fun c1 => b_endsN (by omega) (h0 (by omega)))
  have := hr a (by omega)
  refine ⟨inRof ⟨by omega, by omega⟩, ?_⟩
  by_cases q : M 105 a = 0
  · rw [if_pos q]
    exact b_endsN (by omega) (h2 (by omega) q)
  · rw [if_neg q]
    exact ⟨731, l_mback (by omega) 731 0 M (by omega) (by omega) (by omega) (fun M' k1 k2 _ => h1 (by omega) (by omega) M' k1 k2)⟩
theorem op_back (ha : inR a) (hI : Inv M) (hk : ∀ M, Inv M → k M) : Bd (wX11_back a M) (fun r1 M1 => Bd (wX12_back a M1) (fun r2 M2 => inR r1 ∧ inR r2 ∧ r1 = r2 ∧ k M2)) := by
  have hI' := hI
  obtain ⟨i1, i2, i3, i4, -⟩ := hI'
  have hr : ∀ j, j = 0 ∨ j = 1 → M 105 j = 0 ∨ M 105 j = 1 := by
    intro j hj
    rcases hj with rfl | rfl
    · rw [← i2.1.1]; exact i2.1.2
    · rw [← i2.2.1]; exact i2.2.2
  have hq : ∀ j, j = 0 ∨ j = 1 → M 71 j = M 105 j := by
    intro j hj
    rcases hj with rfl | rfl
    · exact i2.1.1
    · exact i2.2.1
  apply Bd.of; unfold wX11_back
  refine i_within ha inR0 (inRl (by decide)) (fun c1 => ⟨⟨by omega, by omega⟩, ?_⟩) (fun c1 => b_refuse ?_)
  · have h01 := hr a (by omega)
    have hqa := hq a (by omega)
    refine ⟨inRof ⟨by omega, by omega⟩, ?_⟩
    by_cases q : M 71 a = 0
    · rw [if_pos q]
      refine b_refuse ?_
      exact m_back ha (by exact hr) (fun _ w => absurd (by have w : M 105 a = 1 := w; omega) (show ¬ False from id)) (fun w => absurd (by omega) w) (fun _ _ => ⟨(inRl (by decide)), (inRl (by decide)), rfl, hk _ (hI.status (by omega))⟩)
    · rw [if_neg q]
      by_cases q0 : a = 0
      · rw [if_pos q0]
        subst q0
        have hb := i3 (by omega)
        refine b_copy_3 (by exact hb.2.2.2.2.2.2.2.2) (fun M1 e1 e2 => b_accept ?_)
        have e105 : up M1 0 10 0 105 = M 105 := by rw [up_cell (by decide), e2 105 (by decide)]
        refine m_back ha (by intro j hj; rw [e105]; exact hr j hj) (fun _ _ M2 f1 f2 => ⟨inR0, inR0, rfl, hk _ ?_⟩) (fun w => absurd (Or.inl rfl) w) (fun _ w => absurd (by rw [e105] at w; omega) (show ¬ False from id))
        refine hI.book (fun c i _ h1 h2 h3 h4 => by rw [up_ne2 h4, f1 c h2, up_ne2 h3, e2 c h1]) ?_ ?_
        · refine BkR_congr (fun c h1 h2 i q1 q2 => ?_) (fun i q1 q2 => ?_) hb
          · show up M2 102 0 0 c i = M (c + 24) i
            rw [up_ne (by omega), f1 c (by omega), up_ne (by omega)]
            exact e1 c h1 h2 i q1 q2
          · rw [up_ne (by decide), f2 i q1 q2, up_ne (by decide), e2 104 (by decide), show (730 : Int) * 0 + i = i by omega]
        · rw [up_eq, up_ne (by decide), f1 0 (by decide), up_eq]
          omega
      · rw [if_neg q0]
        have q1 : a = 1 := by omega
        subst q1
        have hb := i4 (by omega)
        refine b_copy_4 (by exact hb.2.2.2.2.2.2.2.2) (fun M1 e1 e2 => b_accept ?_)
        have e105 : up M1 0 10 0 105 = M 105 := by rw [up_cell (by decide), e2 105 (by decide)]
        refine m_back ha (by intro j hj; rw [e105]; exact hr j hj) (fun _ _ M2 f1 f2 => ⟨inR0, inR0, rfl, hk _ ?_⟩) (fun w => absurd (Or.inr rfl) w) (fun _ w => absurd (by rw [e105] at w; omega) (show ¬ False from id))
        refine hI.book (fun c i _ h1 h2 h3 h4 => by rw [up_ne2 h4, f1 c h2, up_ne2 h3, e2 c h1]) ?_ ?_
        · refine BkR_congr (fun c h1 h2 i q1 q2 => ?_) (fun i q1 q2 => ?_) hb
          · show up M2 102 0 0 c i = M (c + 47) i
            rw [up_ne (by omega), f1 c (by omega), up_ne (by omega)]
            exact e1 c h1 h2 i q1 q2
          · show up M2 102 0 0 103 i = M 104 (730 + i)
            rw [up_ne (by decide), f2 i q1 q2, up_ne (by decide), e2 104 (by decide), show (730 : Int) * 1 + i = 730 + i by omega]
        · rw [up_eq, up_ne (by decide), f1 0 (by decide), up_eq]
          omega
  · exact m_back ha (by exact hr) (fun w => absurd (by omega) c1) (fun _ => ⟨(inRl (by decide)), (inRl (by decide)), rfl, hk _ (hI.status (by omega))⟩) (fun w => absurd (by omega) c1)
/-! calls -/
theorem l_mcall {Q : Int → Mm → Prop} {a n : Int} {M : Mm} (ha : inR a) (hn : 0 ≤ n ∧ n ≤ 7) (hM : M 102 47 = n) (hr : ∀ c, 0 ≤ c → c < n → inR (M 125 c)) (h1 : (∃ c, 0 ≤ c ∧ c < n ∧ M 125 c = a) → Q (-4) (up M 102 0 (-4))) : ∀ (f : Nat) (v : Int), 0 ≤ v → v ≤ n → n - v < (f : Int) → ((∀ c, v ≤ c → c < n → M 125 c ≠ a) → wX12_call_46 Q a M) → wX12_call_15 Q a f v M := by
  intro f
  induction f with
  | zero => intro v h0 h1 h2; omega
  | succ f ih =>
    intro v h0 h1' h2 hk
    unfold wX12_call_15
    rw [hM]
    refine ⟨inRof ⟨by omega, by omega⟩, inRof ⟨by omega, by omega⟩, ?_⟩
    by_cases c : v < n
    · rw [if_pos c]
      refine ⟨⟨h0, by omega⟩, hr v h0 c, ha, ?_⟩
      by_cases q : M 125 v = a
      · rw [if_pos q]
        exact b_endsN (by omega) (h1 ⟨v, h0, c, q⟩)
      · rw [if_neg q]
        refine ih (v + 1) (by omega) (by omega) (by omega) (fun w => hk (fun c' g0 g1 => ?_))
        by_cases e : c' = v
        · subst e; exact q
        · exact w c' (by omega) g1
    · rw [if_neg c]
      exact hk (fun c' g0 g1 => by omega)
theorem m_call (ha : inR a) {n : Int} (hn : 0 ≤ n ∧ n ≤ 7) (hM : M 102 47 = n) (hr : ∀ c, 0 ≤ c → c < n → inR (M 125 c)) {k : Int → Mm → Prop} (h0 : ¬ (0 ≤ a ∧ a ≤ 119) → k (-1) (up M 102 0 (-1))) (h1 : (0 ≤ a ∧ a ≤ 119) → (∃ c, 0 ≤ c ∧ c < n ∧ M 125 c = a) → k (-4) (up M 102 0 (-4))) (h2 : (0 ≤ a ∧ a ≤ 119) → (∀ c, 0 ≤ c → c < n → M 125 c ≠ a) → n = 7 → k (-5) (up M 102 0 (-5))) (h3 : (0 ≤ a ∧ a ≤ 119) → (∀ c, 0 ≤ c → c < n → M 125 c ≠ a) → n < 7 → k (n + 1) (up (up (up M 125 n a) 102 47 (n + 1)) 102 0 0)) : Bd (wX12_call a M) k := by
  apply Bd.of; unfold wX12_call
  refine i_mDay ha (fun c1 => ?_) (fun c1 => b_endsN (by omega) (h0 c1))
  refine ⟨8, l_mcall ha hn hM hr (h1 c1) 8 0 (by omega) (by omega) (by omega) (fun w => ?_)⟩
  unfold wX12_call_46
  rw [hM]
  refine ⟨inRof ⟨by omega, by omega⟩, ?_⟩
  by_cases q : n = 7
  · rw [if_pos q]
    exact b_endsN (by omega) (h2 c1 w q)
  · rw [if_neg q]
    exact ⟨⟨by omega, by omega⟩, b_endsP (by omega) (h3 c1 w (by omega))⟩
theorem op_call (ha : inR a) (hI : Inv M) (hk : ∀ M, Inv M → k M) : Bd (wX11_call a M) (fun r1 M1 => Bd (wX12_call a M1) (fun r2 M2 => inR r1 ∧ inR r2 ∧ r1 = r2 ∧ k M2)) := by
  have hI' := hI
  obtain ⟨i1, i2, i3, i4, i5, i6, i7, i8, i9, i10, ⟨k1, k2, k3, k4⟩⟩ := hI'
  have hr : ∀ c, 0 ≤ c → c < M 100 1 → inR (M 125 c) := fun c g0 g1 => inRof ⟨by have := k2 c g0 g1; omega, by have := k2 c g0 g1; omega⟩
  have p2 : ∀ c : Nat, c < 7 → (2 : Int) ^ c ≠ 0 ∧ (0 ≤ (2 : Int) ^ c ∧ (2 : Int) ^ c ≤ 64) := by decide
  apply Bd.of; unfold wX11_call
  refine i_isDay ha (fun c1 => ⟨⟨by omega, by omega⟩, ?_⟩) (fun c1 => b_refuse ?_)
  · have k4a := k4 a c1.1 (by omega)
    have hb : inR (M 101 a) := by
      rcases k4a with ⟨h, -⟩ | ⟨c, h1, -, h2⟩
      · rw [h]; exact inR0
      · rw [h2]; have := (p2 c (by omega)).2; exact inRof ⟨by omega, by omega⟩
    refine ⟨hb, ?_⟩
    by_cases q : M 101 a = 0
    · rw [if_pos q]
      have hno : ∀ c, 0 ≤ c → c < M 100 1 → M 125 c ≠ a := by
        rcases k4a with ⟨-, h⟩ | ⟨c, h1, -, h2⟩
        · exact h
        · exact absurd (h2.symm.trans q) (p2 c (by omega)).1
      refine ⟨inRof ⟨by omega, by omega⟩, ?_⟩
      by_cases q7 : M 100 1 < 7
      · rw [if_pos q7]
        apply Bv.of
        refine ⟨⟨by omega, by omega⟩, b_accept ?_⟩
        refine m_call ha (n := M 100 1) (by omega) (by exact k1.2.2) (by exact hr) (fun w => absurd c1 w) (fun _ ⟨c, g0, g1, g2⟩ => absurd g2 (hno c g0 g1)) (fun _ _ w => absurd w (by omega)) (fun _ _ _ => ⟨inRof ⟨by show -2147483648 ≤ M 100 1 + 1; omega, by show M 100 1 + 1 ≤ 2147483647; omega⟩, inRof ⟨by omega, by omega⟩, rfl, hk _ ?_⟩)
        obtain ⟨N, hN⟩ := Int.eq_ofNat_of_zero_le k1.1
        have hN' : M 100 1 = (N : Int) := hN
        have hsh : shlI 1 (M 100 1) = (2 : Int) ^ N := by
          rw [hN', shl1 (by omega)]
          simp
        rw [hsh]
        refine hI.rest (fun c h1 h2 => by repeat (first | rfl | rw [up_cell (by omega)])) rfl rfl rfl ⟨rfl, (by decide : (-10 : Int) ≤ 0), (by decide : (0 : Int) ≤ 0)⟩ i6 i7 i8 i9 i10 ⟨⟨?_, ?_, rfl⟩, ?_, ?_, ?_⟩
        · show 0 ≤ M 100 1 + 1
          omega
        · show M 100 1 + 1 ≤ 7
          omega
        · intro c g0 g1
          have g1 : c < M 100 1 + 1 := g1
          by_cases e : c = M 100 1
          · subst e
            rw [up_ne (by decide), up_ne (by decide), up_eq]
            exact c1
          · rw [up_ne (by decide), up_ne (by decide), up_nei e]
            exact k2 c g0 (by omega)
        · intro c c' g0 g1 g2
          have g2 : c' < M 100 1 + 1 := g2
          have w : ∀ x, x ≠ M 100 1 → up (up (up (up (up (up M 101 a ((2 : Int) ^ N)) 100 1 (M 100 1 + 1)) 0 10 0) 125 (M 100 1) a) 102 47 (M 100 1 + 1)) 102 0 0 125 x = M 125 x := fun x hx => by rw [up_ne (by decide), up_ne (by decide), up_nei hx]; rfl
          rw [w c (by omega)]
          by_cases e : c' = M 100 1
          · subst e
            rw [up_ne (by decide), up_ne (by decide), up_eq]
            exact hno c g0 (by omega)
          · rw [w c' e]
            exact k3 c c' g0 g1 (by omega)
        · intro d g0 g1
          by_cases e : d = a
          · subst e
            refine Or.inr ⟨N, ?_, ?_, ?_⟩
            · show (N : Int) < M 100 1 + 1
              omega
            · rw [up_ne (by decide), up_ne (by decide), ← hN', up_eq]
            · rw [up_ne (by decide), up_ne (by decide), up_ne (by decide), up_ne (by decide), up_ne (by decide), up_eq]
          · rw [up_ne (by decide), up_ne (by decide), up_ne (by decide), up_ne (by decide), up_ne (by decide), up_nei e]
            rcases k4 d g0 g1 with ⟨w1, w2⟩ | ⟨c, w1, w2, w3⟩
            · refine Or.inl ⟨w1, fun c h0 h1 => ?_⟩
              have h1 : c < M 100 1 + 1 := h1
              by_cases e2 : c = M 100 1
              · subst e2
                rw [up_ne (by decide), up_ne (by decide), up_eq]
                exact fun z => e z.symm
              · rw [up_ne (by decide), up_ne (by decide), up_nei e2]
                exact w2 c h0 (by omega)
            · refine Or.inr ⟨c, ?_, ?_, w3⟩
              · show (c : Int) < M 100 1 + 1
                omega
              · rw [up_ne (by decide), up_ne (by decide), up_nei (by omega)]
                exact w2
      · rw [if_neg q7]
        refine b_refuse ?_
        exact m_call ha (n := M 100 1) (by omega) (by exact k1.2.2) (by exact hr) (fun w => absurd c1 w) (fun _ ⟨c, g0, g1, g2⟩ => absurd g2 (hno c g0 g1)) (fun _ _ _ => ⟨(inRl (by decide)), (inRl (by decide)), rfl, hk _ (hI.status (by omega))⟩) (fun _ _ w => absurd w (by omega))
    · rw [if_neg q]
      refine b_refuse ?_
      have hyes : ∃ c, 0 ≤ c ∧ c < M 100 1 ∧ M 125 c = a := by
        rcases k4a with ⟨h, -⟩ | ⟨c, h1, h2, -⟩
        · exact absurd h q
        · exact ⟨(c : Int), by omega, h1, h2⟩
      refine m_call ha (n := M 100 1) (by omega) (by exact k1.2.2) (by exact hr) (fun w => absurd c1 w) (fun _ _ => ⟨(inRl (by decide)), (inRl (by decide)), rfl, hk _ (hI.status (by omega))⟩) (fun _ w _ => ?_) (fun _ w _ => ?_)
      · obtain ⟨c, g0, g1, g2⟩ := hyes; exact absurd g2 (w c g0 g1)
      · obtain ⟨c, g0, g1, g2⟩ := hyes; exact absurd g2 (w c g0 g1)
  · exact m_call ha (n := M 100 1) (by omega) (by exact k1.2.2) (by exact hr) (fun _ => ⟨(inRl (by decide)), (inRl (by decide)), rfl, hk _ (hI.status (by omega))⟩) (fun w => absurd w c1) (fun w => absurd w c1) (fun w => absurd w c1)
theorem l_drop {Q : Mm → Prop} : ∀ (f : Nat) (v : Int) (M : Mm), 0 ≤ v → v ≤ 120 → 120 - v < (f : Int) → (∀ M', (∀ c : Nat, c ≠ 101 → M' c = M c) → (∀ d, v ≤ d → d < 120 → M' 101 d = 0) → (∀ d, d < v → M' 101 d = M 101 d) → Q M') → wX7_drop_7 Q f v M := by
  intro f
  induction f with
  | zero => intro v M h0 h1 h2; omega
  | succ f ih =>
    intro v M h0 h1 h2 hk
    unfold wX7_drop_7
    refine ⟨inRof ⟨by omega, by omega⟩, ?_⟩
    by_cases c : v < 120
    · rw [if_pos c]
      refine ⟨⟨h0, c⟩, ih (v + 1) _ (by omega) (by omega) (by omega) (fun M' k1 k2 k3 => hk M' (fun c' e => ?_) (fun d g0 g1 => ?_) (fun d g => ?_))⟩
      · rw [k1 c' e, up_cell e]
      · by_cases q : d = v
        · subst q; rw [k3 d (by omega), up_eq]
        · exact k2 d (by omega) g1
      · rw [k3 d (by omega), up_nei (by omega)]
    · rw [if_neg c]
      exact hk M (fun _ _ => rfl) (fun d g0 g1 => by omega) (fun d g => rfl)
theorem op_clear (hI : Inv M) (hk : ∀ M, Inv M → k M) : Bd (wX11_clear M) (fun r1 M1 => Bd (wX12_clear M1) (fun r2 M2 => inR r1 ∧ inR r2 ∧ r1 = r2 ∧ k M2)) := by
  have hI' := hI
  obtain ⟨i1, i2, i3, i4, i5, i6, i7, i8, i9, i10, ⟨k1, k2, k3, k4⟩⟩ := hI'
  apply Bd.of; unfold wX11_clear
  apply Bv.of; unfold wX7_drop
  refine ⟨121, l_drop 121 0 _ (by omega) (by omega) (by omega) (fun M' e1 e2 _ => ?_)⟩
  apply Bd.of; unfold wX12_clear
  have g : ∀ c : Nat, c ≠ 101 → c ≠ 100 → M' c = M c := fun c q1 q2 => by rw [e1 c q1, up_cell q2]
  have g102 := g 102 (by decide) (by decide)
  refine ⟨inRof ⟨by omega, by omega⟩, inRof ⟨by rw [g102]; omega, by rw [g102]; omega⟩, by rw [g102]; exact k1.2.2.symm, hk _ ?_⟩
  refine hI.rest (fun c h1 h2 => by rw [up_cell (by omega), g c (by omega) (by omega)]) (by rw [up_cell (by decide), g 103 (by decide) (by decide)]) (by rw [up_cell (by decide), g 104 (by decide) (by decide)]) (by rw [up_cell (by decide), g 105 (by decide) (by decide)]) ?_ ?_ ?_ ?_ ?_ ?_ ?_
  · rw [up_ne (by decide), up_nei (by decide), g 0 (by decide) (by decide), g102]; exact i5
  · rw [up_ne (by decide), up_ne (by decide), up_nei (by decide), g 0 (by decide) (by decide), g102]; exact i6
  · rw [up_ne (by decide), up_cell (by decide), up_nei (by decide), up_cell (by decide), g 86 (by decide) (by decide), g 87 (by decide) (by decide), g102, g 111 (by decide) (by decide)]; exact i7
  · rw [up_ne (by decide), up_cell (by decide), up_ne (by decide), up_nei (by decide), up_cell (by decide), up_nei (by decide), g 88 (by decide) (by decide), g 89 (by decide) (by decide), g102, g 114 (by decide) (by decide)]; exact i8
  · rw [up_ne (by decide), up_cell (by decide), up_nei (by decide), up_cell (by decide), g 90 (by decide) (by decide), g 98 (by decide) (by decide), g102, g 122 (by decide) (by decide)]; exact i9
  · rw [up_ne (by decide), up_cell (by decide), up_nei (by decide), up_cell (by decide), g 90 (by decide) (by decide), g 99 (by decide) (by decide), g102, g 124 (by decide) (by decide)]; exact i10
  · have h100 : M' 100 1 = 0 := by rw [e1 100 (by decide), up_eq]
    rw [up_ne (by decide), h100, up_cell (by decide), up_eq, up_cell (by decide)]
    exact ⟨⟨by omega, by omega, rfl⟩, fun c g0 g1 => by omega, fun c c' g0 g1 g2 => by omega, fun d g0 g1 => Or.inl ⟨e2 d g0 g1, fun c h0 h1 => by omega⟩⟩
end Bk
