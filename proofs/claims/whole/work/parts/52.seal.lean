/-! ===== seal, found ===== -/
/-- the sum of the first n of g -/
def sN (g : Int → Int) : Nat → Int
  | 0 => 0
  | n + 1 => sN g n + g (n : Int)
theorem sN_congr {g g' : Int → Int} : ∀ n : Nat, (∀ i, 0 ≤ i → i < (n : Int) → g' i = g i) → sN g' n = sN g n
  | 0, _ => rfl
  | n + 1, h => by
    show sN g' n + g' (n : Int) = sN g n + g (n : Int)
    rw [sN_congr n (fun i h0 h1 => h i h0 (by omega)), h (n : Int) (by omega) (by omega)]
theorem sN_bound {g : Int → Int} {A : Int} : ∀ n : Nat, (∀ i, 0 ≤ i → i < (n : Int) → 0 ≤ g i ∧ g i ≤ A) → 0 ≤ sN g n ∧ sN g n ≤ (n : Int) * A
  | 0, _ => ⟨Int.le_refl _, by show (0 : Int) ≤ ((0 : Nat) : Int) * A; simp⟩
  | n + 1, h => by
    have ih := sN_bound n (fun i h0 h1 => h i h0 (by omega))
    have hn := h (n : Int) (by omega) (by omega)
    show 0 ≤ sN g n + g (n : Int) ∧ sN g n + g (n : Int) ≤ ((n + 1 : Nat) : Int) * A
    have e : ((n + 1 : Nat) : Int) * A = (n : Int) * A + A := by
      rw [show ((n + 1 : Nat) : Int) = (n : Int) + 1 by omega, Int.add_mul, Int.one_mul]
    rw [e]
    omega
section Seal
variable {M : Mm} {k : Mm → Prop}
theorem l_xsum {Q : Int → Mm → Prop} {M : Mm} {N : Nat} (hN : M 15 0 = (N : Int)) (h24 : N ≤ 24) (hb : ∀ i, 0 ≤ i → i < (N : Int) → inR (M 18 i)) (hk : Q (sN (M 18) N) M) : ∀ (f j : Nat), j ≤ N → N - j < f → wX4_sum_4 Q f (sN (M 18) j) (j : Int) M := by
  intro f
  induction f with
  | zero => intro j h1 h2; omega
  | succ f ih =>
    intro j h1 h2
    unfold wX4_sum_4
    rw [hN]
    refine ⟨inRof ⟨by omega, by omega⟩, inRof ⟨by omega, by omega⟩, ?_⟩
    by_cases c : (j : Int) < (N : Int)
    · rw [if_pos c]
      exact ⟨⟨by omega, by omega⟩, hb _ (by omega) c, ih (j + 1) (by omega) (by omega)⟩
    · rw [if_neg c]
      rw [show j = N by omega]
      exact hk
theorem l_psum {Q : Int → Mm → Prop} {M : Mm} {N : Nat} (hN : M 15 0 = (N : Int)) (h24 : N ≤ 24) (hb : ∀ i, 0 ≤ i → i < (N : Int) → inR (M 18 i)) (hk : Q (sN (fun i => M 18 i * (i + 1)) N) M) : ∀ (f j : Nat), j ≤ N → N - j < f → wX4_placedSum_4 Q f (sN (fun i => M 18 i * (i + 1)) j) (j : Int) M := by
  intro f
  induction f with
  | zero => intro j h1 h2; omega
  | succ f ih =>
    intro j h1 h2
    unfold wX4_placedSum_4
    rw [hN]
    refine ⟨inRof ⟨by omega, by omega⟩, inRof ⟨by omega, by omega⟩, ?_⟩
    by_cases c : (j : Int) < (N : Int)
    · rw [if_pos c]
      exact ⟨⟨by omega, by omega⟩, hb _ (by omega) c, inRof ⟨by omega, by omega⟩, ih (j + 1) (by omega) (by omega)⟩
    · rw [if_neg c]
      rw [show j = N by omega]
      exact hk
theorem l_msum {Q : Int → Mm → Prop} {M : Mm} {N : Nat} (hN : M 103 724 = (N : Int)) (h24 : N ≤ 24) (hk : Q (sN (fun i => M 103 (505 + 9 * i)) N) M) : ∀ (f j : Nat), j ≤ N → N - j < f → wX12_sumOf_4 Q f (sN (fun i => M 103 (505 + 9 * i)) j) (j : Int) M := by
  intro f
  induction f with
  | zero => intro j h1 h2; omega
  | succ f ih =>
    intro j h1 h2
    unfold wX12_sumOf_4
    have e1 : M 103 (721 + 3) = (N : Int) := hN
    refine b_many (by omega) ?_
    rw [e1]
    refine ⟨inRof ⟨by omega, by omega⟩, inRof ⟨by omega, by omega⟩, ?_⟩
    by_cases c : (j : Int) < (N : Int)
    · rw [if_pos c]
      exact b_logAt (x := 505 + 9 * (j : Int)) (by omega) (by omega) (by omega) (ih (j + 1) (by omega) (by omega))
    · rw [if_neg c]
      rw [show j = N by omega]
      exact hk
theorem l_mwt {Q : Int → Mm → Prop} {M : Mm} {N : Nat} (hN : M 103 724 = (N : Int)) (h24 : N ≤ 24) (hk : Q (sN (fun i => (i + 1) * M 103 (505 + 9 * i)) N) M) : ∀ (f j : Nat), j ≤ N → N - j < f → wX12_weightOf_4 Q f (sN (fun i => (i + 1) * M 103 (505 + 9 * i)) j) (j : Int) M := by
  intro f
  induction f with
  | zero => intro j h1 h2; omega
  | succ f ih =>
    intro j h1 h2
    unfold wX12_weightOf_4
    have e1 : M 103 (721 + 3) = (N : Int) := hN
    refine b_many (by omega) ?_
    rw [e1]
    refine ⟨inRof ⟨by omega, by omega⟩, inRof ⟨by omega, by omega⟩, ?_⟩
    by_cases c : (j : Int) < (N : Int)
    · rw [if_pos c]
      exact b_logAt (x := 505 + 9 * (j : Int)) (by omega) (by omega) (by omega) (ih (j + 1) (by omega) (by omega))
    · rw [if_neg c]
      rw [show j = N by omega]
      exact hk
theorem b_sum {N : Nat} {k : Int → Mm → Prop} (hN : M 15 0 = (N : Int)) (h24 : N ≤ 24) (hb : ∀ i, 0 ≤ i → i < (N : Int) → inR (M 18 i)) (hk : k (sN (M 18) N) M) : Bd (wX4_sum M) k := by
  apply Bd.of; unfold wX4_sum
  exact ⟨25, l_xsum hN h24 hb hk 25 0 (by omega) (by omega)⟩
theorem b_psum {N : Nat} {k : Int → Mm → Prop} (hN : M 15 0 = (N : Int)) (h24 : N ≤ 24) (hb : ∀ i, 0 ≤ i → i < (N : Int) → inR (M 18 i)) (hk : k (sN (fun i => M 18 i * (i + 1)) N) M) : Bd (wX4_placedSum M) k := by
  apply Bd.of; unfold wX4_placedSum
  exact ⟨25, l_psum hN h24 hb hk 25 0 (by omega) (by omega)⟩
theorem b_msum {N : Nat} {k : Int → Mm → Prop} (hN : M 103 724 = (N : Int)) (h24 : N ≤ 24) (hk : k (sN (fun i => M 103 (505 + 9 * i)) N) M) : Bd (wX12_sumOf M) k := by
  apply Bd.of; unfold wX12_sumOf
  exact ⟨25, l_msum hN h24 hk 25 0 (by omega) (by omega)⟩
theorem b_mwt {N : Nat} {k : Int → Mm → Prop} (hN : M 103 724 = (N : Int)) (h24 : N ≤ 24) (hk : k (sN (fun i => (i + 1) * M 103 (505 + 9 * i)) N) M) : Bd (wX12_weightOf M) k := by
  apply Bd.of; unfold wX12_weightOf
  exact ⟨25, l_mwt hN h24 hk 25 0 (by omega) (by omega)⟩
/-- both sums, of both sides -/
theorem sums {B : Int → Int} {b : Mm} (n : BkN b B) (o : BkO b B) : ∃ N : Nat, B 724 = (N : Int) ∧ N ≤ 24 ∧ (∀ i, 0 ≤ i → i < (N : Int) → inR (b 18 i)) ∧ sN (b 18) N = sN (fun i => B (505 + 9 * i)) N ∧ sN (fun i => b 18 i * (i + 1)) N = sN (fun i => (i + 1) * B (505 + 9 * i)) N ∧ (0 ≤ sN (fun i => B (505 + 9 * i)) N ∧ sN (fun i => B (505 + 9 * i)) N ≤ 3145704) ∧ (0 ≤ sN (fun i => (i + 1) * B (505 + 9 * i)) N ∧ sN (fun i => (i + 1) * B (505 + 9 * i)) N ≤ 75496896) := by
  have n3 := n.2.2.2
  obtain ⟨N, hN⟩ := Int.eq_ofNat_of_zero_le n3.2.1
  have hN' : B 724 = (N : Int) := hN
  refine ⟨N, hN', by omega, fun i h0 h1 => ?_, ?_, ?_, ?_, ?_⟩
  · obtain ⟨⟨-, -, e3, -⟩, -, -, r3, -⟩ := o i h0 (by omega)
    rw [e3]
    exact inRof ⟨by omega, by omega⟩
  · exact sN_congr N (fun i h0 h1 => (o i h0 (by omega)).1.2.2.1)
  · refine sN_congr N (fun i h0 h1 => ?_)
    show b 18 i * (i + 1) = (i + 1) * B (505 + 9 * i)
    rw [(o i h0 (by omega)).1.2.2.1, Int.mul_comm]
  · have := sN_bound (g := fun i => B (505 + 9 * i)) (A := 131071) N (fun i h0 h1 => (o i h0 (by omega)).2.2.2.1)
    omega
  · have := sN_bound (g := fun i => (i + 1) * B (505 + 9 * i)) (A := 3145704) N (fun i h0 h1 => by
      have r := (o i h0 (by omega)).2.2.2.1
      have m := mulb (a := i + 1) (b := B (505 + 9 * i)) (A := 24) (B := 131071) (by omega) (by omega) (by omega) (by omega) (by omega)
      have m2 : 0 ≤ (i + 1) * B (505 + 9 * i) := Int.mul_nonneg (by omega) r.1
      show 0 ≤ (i + 1) * B (505 + 9 * i) ∧ (i + 1) * B (505 + 9 * i) ≤ 3145704
      omega)
    omega
theorem op_seal (hI : Inv M) (hk : ∀ M, Inv M → k M) : Bd (wX11_seal M) (fun r1 M1 => Bd (wX12_seal M1) (fun r2 M2 => inR r1 ∧ inR r2 ∧ r1 = r2 ∧ k M2)) := by
  obtain ⟨n, t, hbb, l, g, cl, o, s⟩ := hI.1
  obtain ⟨N, hN, h24, hr, s1, s2, b1, b2⟩ := sums n o
  have n3 := n.2.2.2
  apply Bd.of; unfold wX11_seal
  refine b_sum (N := N) (by show M 15 0 = _; omega) h24 (by exact hr) ?_
  refine b_psum (N := N) (by show M 15 0 = _; omega) h24 (by exact hr) ?_
  have e1 : sN (up M 1 4 (M 15 0) 18) N = sN (M 18) N := rfl
  have e2 : sN (fun i => up (up M 1 4 (M 15 0)) 1 5 (sN (up M 1 4 (M 15 0) 18) N) 18 i * (i + 1)) N = sN (fun i => M 18 i * (i + 1)) N := rfl
  rw [e2, e1, s1, s2]
  generalize hS : sN (fun i => M 103 (505 + 9 * i)) N = S at *
  generalize hW : sN (fun i => (i + 1) * M 103 (505 + 9 * i)) N = W at *
  show Bd (wX12_seal (up (up (up M 1 4 (M 15 0)) 1 5 S) 1 6 W)) (fun r2 M2 => inR (M 15 0) ∧ inR r2 ∧ M 15 0 = r2 ∧ k M2)
  apply Bd.of; unfold wX12_seal
  refine b_many (by omega) ?_
  have e3 : up (up (up M 1 4 (M 15 0)) 1 5 S) 1 6 W 103 (721 + 3) = M 15 0 := n3.1.symm
  rw [e3]
  refine b_msum (N := N) (by show M 103 724 = _; omega) h24 ?_
  have e4 : sN (fun i => up (up (up (up M 1 4 (M 15 0)) 1 5 S) 1 6 W) 103 725 (M 15 0) 103 (505 + 9 * i)) N = S := by
    rw [← hS]
    exact sN_congr N (fun i h0 h1 => by show up _ 103 725 _ 103 (505 + 9 * i) = _; rw [up_nei (by omega)]; rfl)
  rw [e4]
  refine b_mwt (N := N) (by show M 103 724 = _; omega) h24 ?_
  have e5 : sN (fun i => (i + 1) * up (up (up (up (up M 1 4 (M 15 0)) 1 5 S) 1 6 W) 103 725 (M 15 0)) 103 726 S 103 (505 + 9 * i)) N = W := by
    rw [← hW]
    exact sN_congr N (fun i h0 h1 => by show (i + 1) * up (up _ 103 725 _) 103 726 _ 103 (505 + 9 * i) = _; rw [up_nei (by omega), up_nei (by omega)]; rfl)
  rw [e5]
  refine b_many (by omega) ?_
  refine ⟨inRof ⟨by omega, by omega⟩, inRof ⟨by show -2147483648 ≤ M 103 724; omega, by show M 103 724 ≤ 2147483647; omega⟩, n3.1, hk _ ?_⟩
  refine hI.book (fun c i _ h1 h2 h3 h4 => by repeat (first | rfl | rw [up_ne2 h4] | rw [up_ne2 h3] | rw [up_ne h2] | rw [up_ne (by omega)])) ?_ hI.2.2.2.2.1
  refine ⟨n, t, ?_, ?_, ?_, ?_, ?_, ?_⟩
  · exact BkB_keep hbb (Int.le_refl _) n.1.2.2 (fun i _ _ => rfl) (fun i h0 h1 => by repeat (first | rfl | rw [up_ne (by decide)] | rw [up_nei (by omega)]))
  · exact BkL_keep l rfl rfl (fun i h0 h1 => by repeat (first | rfl | rw [up_ne (by decide)] | rw [up_nei (by omega)]))
  · exact BkG_keep g (Int.le_refl _) rfl n.2.1.2.2 (fun c h1 h2 => by repeat (first | rfl | rw [up_cell (by omega)])) (fun i h0 h1 => by repeat (first | rfl | rw [up_ne (by decide)] | rw [up_nei (by omega)]))
  · exact BkC_keep cl (Int.le_refl _) rfl n.2.2.1.2.2 (fun c h1 h2 => by repeat (first | rfl | rw [up_cell (by omega)])) (fun i h0 h1 => by repeat (first | rfl | rw [up_ne (by decide)] | rw [up_nei (by omega)]))
  · exact BkO_keep o (Int.le_refl _) rfl n.2.2.2.2.2 (fun c h1 h2 => by repeat (first | rfl | rw [up_cell (by omega)])) (fun i h0 h1 => by repeat (first | rfl | rw [up_ne (by decide)] | rw [up_nei (by omega)]))
  · refine ⟨⟨⟨rfl, rfl, rfl⟩, ?_, b1, b2⟩, s.2⟩
    show -1 ≤ M 15 0 ∧ M 15 0 ≤ M 103 724
    omega
/-- the first place i < N with (i + 1) * x = y -/
theorem l_found {Q : Int → Mm → Prop} {M : Mm} {N x y : Int} (hN : M 15 0 = N) (h24 : N ≤ 24) (hx : -3145704 ≤ x ∧ x ≤ 3145704) (hy : -75496896 ≤ y ∧ y ≤ 75496896) : ∀ (f : Nat) (v : Int), 0 ≤ v → v ≤ N → N - v < (f : Int) → (∀ i, v ≤ i → i < N → (i + 1) * x = y → (∀ j, v ≤ j → j < i → (j + 1) * x ≠ y) → Q i M) → ((∀ i, v ≤ i → i < N → (i + 1) * x ≠ y) → Q (-2) M) → wX11_found_89 Q x y f v M := by
  intro f
  induction f with
  | zero => intro v h0 h1 h2; omega
  | succ f ih =>
    intro v h0 h1 h2 hq h3
    unfold wX11_found_89
    rw [hN]
    refine ⟨inRof ⟨by omega, by omega⟩, inRof ⟨by omega, by omega⟩, ?_⟩
    by_cases c : v < N
    · rw [if_pos c]
      have m := mulb (a := v + 1) (b := x) (A := 24) (B := 3145704) (by omega) (by omega) (by omega) (by omega) (by omega)
      rw [show (v + 1) * x = x * (v + 1) from Int.mul_comm _ _] at m
      refine ⟨inRof ⟨by omega, by omega⟩, ⟨by omega, by omega⟩, ⟨by omega, by omega⟩, ?_⟩
      by_cases z : x * (v + 1) = y
      · have e : cmpI (x * (v + 1)) y = 0 := by rw [z]; exact cmpI_self y
        rw [if_pos e]
        exact hq v (by omega) c (by rw [Int.mul_comm]; exact z) (fun j g0 g1 => by omega)
      · have e : ¬ cmpI (x * (v + 1)) y = 0 := by
          unfold cmpI
          split
          · decide
          · decide
        rw [if_neg e]
        refine ih (v + 1) (by omega) (by omega) (by omega) (fun i g0 g1 g2 g3 => hq i (by omega) g1 g2 (fun j k0 k1 => ?_)) (fun w => h3 (fun i g0 g1 => ?_))
        · by_cases q : j = v
          · subst q; rw [Int.mul_comm]; exact z
          · exact g3 j (by omega) k1
        · by_cases q : i = v
          · subst q; rw [Int.mul_comm]; exact z
          · exact w i (by omega) g1
    · rw [if_neg c]
      exact h3 (fun i g0 g1 => by omega)
theorem l_mfound {Q : Int → Mm → Prop} {M : Mm} {N x y : Int} (hN : M 103 724 = N) (h24 : N ≤ 24) (hx : -3145704 ≤ x ∧ x ≤ 3145704) (hy : -75496896 ≤ y ∧ y ≤ 75496896) : ∀ (f : Nat) (v : Int), 0 ≤ v → v ≤ N → N - v < (f : Int) → (x ≠ 0 → ∀ i, v ≤ i → i < N → (i + 1) * x = y → (∀ j, v ≤ j → j < i → (j + 1) * x ≠ y) → Q i M) → ((x = 0 ∨ ∀ i, v ≤ i → i < N → (i + 1) * x ≠ y) → Q (-2) M) → wX12_found_74 Q x y f v M := by
  intro f
  induction f with
  | zero => intro v h0 h1 h2; omega
  | succ f ih =>
    intro v h0 h1 h2 hq h3
    unfold wX12_found_74
    have e1 : M 103 (721 + 3) = N := hN
    refine b_many (by omega) ?_
    rw [e1]
    refine ⟨inRof ⟨by omega, by omega⟩, inRof ⟨by omega, by omega⟩, ?_⟩
    by_cases c : v < N
    · rw [if_pos c]
      refine ⟨inRof ⟨by omega, by omega⟩, ?_⟩
      by_cases z0 : x = 0
      · rw [if_pos z0]
        exact h3 (Or.inl z0)
      · rw [if_neg z0]
        have m := mulb (a := v + 1) (b := x) (A := 24) (B := 3145704) (by omega) (by omega) (by omega) (by omega) (by omega)
        refine ⟨inRof ⟨by omega, by omega⟩, inRof ⟨by omega, by omega⟩, ?_⟩
        by_cases z : (v + 1) * x = y
        · rw [if_pos z]
          exact hq z0 v (by omega) c z (fun j g0 g1 => by omega)
        · rw [if_neg z]
          refine ih (v + 1) (by omega) (by omega) (by omega) (fun _ i g0 g1 g2 g3 => hq z0 i (by omega) g1 g2 (fun j k0 k1 => ?_)) (fun w => h3 (w.imp id (fun w i g0 g1 => ?_)))
          · by_cases q : j = v
            · subst q; exact z
            · exact g3 j (by omega) k1
          · by_cases q : i = v
            · subst q; exact z
            · exact w i (by omega) g1
    · rw [if_neg c]
      exact h3 (Or.inr (fun i g0 g1 => by omega))
theorem op_found (hI : Inv M) (hk : ∀ M, Inv M → k M) : Bd (wX11_found M) (fun r1 M1 => Bd (wX12_found M1) (fun r2 M2 => inR r1 ∧ inR r2 ∧ r1 = r2 ∧ k M2)) := by
  have hkM := hk M hI
  obtain ⟨n, t, hbb, l, g, cl, o, ⟨⟨s1, s2, s3, s4⟩, -⟩⟩ := hI.1
  obtain ⟨N, hN, h24, hr, q1, q2, b1, b2⟩ := sums n o
  have n3 := n.2.2.2
  apply Bd.of; unfold wX11_found
  refine ⟨inRof ⟨by omega, by omega⟩, ?_⟩
  by_cases c : M 1 4 = -1
  · rw [if_pos c]
    apply Bd.of; unfold wX12_found
    refine ⟨inRof ⟨by omega, by omega⟩, ?_⟩
    rw [if_pos (by omega)]
    exact ⟨(inRl (by decide)), (inRl (by decide)), rfl, hkM⟩
  · rw [if_neg c]
    refine ⟨inRof ⟨by omega, by omega⟩, ?_⟩
    have e1 : M 103 (721 + 3) = (N : Int) := hN
    by_cases c2 : M 15 0 ≤ M 1 4
    · rw [if_pos c2]
      refine b_sum (N := N) (by omega) h24 hr ?_
      refine b_psum (N := N) (by omega) h24 hr ?_
      rw [q1, q2, s1.2.1, s1.2.2]
      generalize hS : sN (fun i => M 103 (505 + 9 * i)) N = S at *
      generalize hW : sN (fun i => (i + 1) * M 103 (505 + 9 * i)) N = W at *
      have hx : -3145704 ≤ S - M 103 726 ∧ S - M 103 726 ≤ 3145704 := by omega
      have hy : -75496896 ≤ W - M 103 727 ∧ W - M 103 727 ≤ 75496896 := by omega
      have mm : ∀ r : Int, inR r → ((S - M 103 726 = 0 ∧ W - M 103 727 = 0 → r = -1) ∧ (S - M 103 726 = 0 ∧ W - M 103 727 ≠ 0 → r = -2) ∧ (S - M 103 726 ≠ 0 → ∀ i, 0 ≤ i → i < (N : Int) → (i + 1) * (S - M 103 726) = W - M 103 727 → (∀ j, 0 ≤ j → j < i → (j + 1) * (S - M 103 726) ≠ W - M 103 727) → r = i) ∧ (S - M 103 726 ≠ 0 → (∀ i, 0 ≤ i → i < (N : Int) → (i + 1) * (S - M 103 726) ≠ W - M 103 727) → r = -2)) → Bd (wX12_found M) (fun r2 M2 => inR r ∧ inR r2 ∧ r = r2 ∧ k M2) := by
        intro r hrr h1
        apply Bd.of; unfold wX12_found
        refine ⟨inRof ⟨by omega, by omega⟩, ?_⟩
        rw [if_neg (by omega)]
        refine b_many (by omega) ?_
        rw [e1]
        refine ⟨inRof ⟨by omega, by omega⟩, ?_⟩
        rw [if_pos (by omega)]
        refine b_msum hN h24 ?_
        refine b_mwt hN h24 ?_
        rw [hS, hW]
        have fin : ∀ z, r = z → inR r ∧ inR z ∧ r = z ∧ k M := fun z hz => ⟨hrr, hz ▸ hrr, hz, hkM⟩
        refine ⟨inRof ⟨by omega, by omega⟩, ?_⟩
        by_cases z1 : S - M 103 726 = 0
        · rw [if_pos z1]
          refine ⟨inRof ⟨by omega, by omega⟩, ?_⟩
          by_cases z2 : W - M 103 727 = 0
          · rw [if_pos z2]
            exact fin _ (h1.1 ⟨z1, z2⟩)
          · rw [if_neg z2]
            exact ⟨25, l_mfound hN (by omega) hx hy 25 0 (by omega) (by omega) (by omega) (fun w => absurd z1 w) (fun _ => fin _ (h1.2.1 ⟨z1, z2⟩))⟩
        · rw [if_neg z1]
          exact ⟨25, l_mfound hN (by omega) hx hy 25 0 (by omega) (by omega) (by omega) (fun _ i g0 g1 g2 g3 => fin _ (h1.2.2.1 z1 i g0 g1 g2 g3)) (fun w => fin _ (h1.2.2.2 z1 (w.resolve_left z1)))⟩
      have cz : ∀ x : Int, cmpI x 0 = 0 ↔ x = 0 := by
        intro x
        unfold cmpI
        constructor
        · intro h
          split at h
          · cases h
          · split at h
            · assumption
            · cases h
        · intro h
          rw [if_neg (by omega), if_pos h]
      refine ⟨⟨by omega, by omega⟩, ?_⟩
      by_cases z1 : S - M 103 726 = 0
      · rw [if_pos ((cz _).mpr z1)]
        refine ⟨⟨by omega, by omega⟩, ?_⟩
        by_cases z2 : W - M 103 727 = 0
        · rw [if_pos ((cz _).mpr z2)]
          exact mm (-1) (inRl (by decide)) ⟨fun _ => rfl, fun h => absurd z2 h.2, fun h => absurd z1 h, fun h => absurd z1 h⟩
        · rw [if_neg (fun h => z2 ((cz _).mp h))]
          exact mm (-2) (inRl (by decide)) ⟨fun h => absurd h.2 z2, fun _ => rfl, fun h => absurd z1 h, fun h => absurd z1 h⟩
      · rw [if_neg (fun h => z1 ((cz _).mp h))]
        refine ⟨25, l_found (N := (N : Int)) (by omega) (by omega) hx hy 25 0 (by omega) (by omega) (by omega) (fun i g0 g1 g2 g3 => ?_) (fun w => ?_)⟩
        · refine mm i (inRof ⟨by omega, by omega⟩) ⟨fun h => absurd h.1 z1, fun h => absurd h.1 z1, fun _ j k0 k1 k2 k3 => ?_, fun _ w => absurd g2 (w i g0 g1)⟩
          rcases Int.lt_trichotomy i j with w | w | w
          · exact absurd g2 (k3 i g0 w)
          · exact w
          · exact absurd k2 (g3 j k0 w)
        · exact mm (-2) (inRl (by decide)) ⟨fun h => absurd h.1 z1, fun h => absurd h.1 z1, fun _ j k0 k1 k2 k3 => absurd k2 (w j k0 k1), fun _ _ => rfl⟩
    · rw [if_neg c2]
      apply Bd.of; unfold wX12_found
      refine ⟨inRof ⟨by omega, by omega⟩, ?_⟩
      rw [if_neg (by omega)]
      refine b_many (by omega) ?_
      rw [e1]
      refine ⟨inRof ⟨by omega, by omega⟩, ?_⟩
      rw [if_neg (by omega)]
      exact ⟨(inRl (by decide)), (inRl (by decide)), rfl, hkM⟩
end Seal
