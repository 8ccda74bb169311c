/-! ===== cleaned; what a log is read as; which logs count ===== -/
section Cl
variable {b : Mm} {B : Int → Int} {s d : Int}
theorem leftR_none : ∀ n : Nat, (∀ i : Nat, i < n → ¬ (B (383 + 3 * (i : Int)) = s ∧ B (384 + 3 * (i : Int)) = d)) → leftR B s d n = -1
  | 0, _ => rfl
  | n + 1, h => by
    have ih := leftR_none n (fun i hi => h i (by omega))
    show (if leftR B s d n ≠ -1 then leftR B s d n else if B (383 + 3 * (n : Int)) = s ∧ B (384 + 3 * (n : Int)) = d then B (385 + 3 * (n : Int)) else -1) = -1
    rw [if_neg (by rw [ih]; decide), if_neg (h n (by omega))]
theorem left_none (n : BkN b B) (h : ∀ i, 0 ≤ i → i < B 723 → ¬ (B (383 + 3 * i) = s ∧ B (384 + 3 * i) = d)) : left B s d = -1 := by
  have n2 := n.2.2.1
  exact leftR_none _ (fun i hi => h (i : Int) (by omega) (by omega))
theorem left_some (h : BkR b B) {i : Int} (h0 : 0 ≤ i) (h1 : i < B 723) (hm : B (383 + 3 * i) = s ∧ B (384 + 3 * i) = d) : left B s d = B (385 + 3 * i) := by
  obtain ⟨j, rfl⟩ := Int.eq_ofNat_of_zero_le h0
  have n2 := h.1.2.2.1
  have hu := h.2.2.2.2.2.1.2
  have e0 : leftR B s d j = -1 := leftR_none j (fun i hi q => hu (i : Int) (j : Int) (by omega) (by omega) h1 ⟨q.1.trans hm.1.symm, q.2.trans hm.2.symm⟩)
  have e1 : leftR B s d (j + 1) = B (385 + 3 * (j : Int)) := by
    show (if leftR B s d j ≠ -1 then leftR B s d j else if B (383 + 3 * (j : Int)) = s ∧ B (384 + 3 * (j : Int)) = d then B (385 + 3 * (j : Int)) else -1) = _
    rw [if_neg (by rw [e0]; decide), if_pos hm]
  have hc := h.2.2.2.2.2.1.1 (j : Int) (by omega) h1
  have h1' : (j : Int) < B 723 := h1
  have e2 := leftR_stay (j := j + 1) (by rw [e1]; omega) ((B 723).toNat - (j + 1)) (B := B) (s := s) (d := d)
  rw [show j + 1 + ((B 723).toNat - (j + 1)) = (B 723).toNat by omega, e1] at e2
  exact e2
end Cl
section Cl2
variable {M : Mm} {k : Mm → Prop} {a b c : Int}
theorem l_isC {Q : Int → Mm → Prop} {s d n : Int} (ha : inR s) (hb : inR d) (hn : M 1 1 = n) (h40 : 0 ≤ n ∧ n ≤ 40) (hr : ∀ i, 0 ≤ i → i < n → inR (M 5 i) ∧ inR (M 6 i)) (h1 : (∃ i, 0 ≤ i ∧ i < n ∧ M 5 i = s ∧ M 6 i = d) → Q 1 M) : ∀ (f : Nat) (v : Int), 0 ≤ v → v ≤ n → n - v < (f : Int) → ((∀ i, v ≤ i → i < n → ¬ (M 5 i = s ∧ M 6 i = d)) → Q 0 M) → wX0_isCleaned_2 Q s d f v M := by
  intro f
  induction f with
  | zero => intro v h0 h1 h2; omega
  | succ f ih =>
    intro v h0 hv h2 hk
    unfold wX0_isCleaned_2
    rw [hn]
    refine ⟨inRof ⟨by omega, by omega⟩, inRof ⟨by omega, by omega⟩, ?_⟩
    by_cases c : v < n
    · rw [if_pos c]
      have r := hr v h0 c
      have nx : ¬ (M 5 v = s ∧ M 6 v = d) → wX0_isCleaned_2 Q s d f (v + 1) M := fun hno => ih (v + 1) (by omega) (by omega) (by omega) (fun w => hk (fun i g0 g1 => by
        by_cases q : i = v
        · subst q; exact hno
        · exact w i (by omega) g1))
      refine ⟨⟨h0, by omega⟩, r.1, ha, ?_⟩
      by_cases c1 : M 5 v = s
      · rw [if_pos c1]
        refine ⟨r.2, hb, ?_⟩
        by_cases c2 : M 6 v = d
        · rw [if_pos c2]; exact h1 ⟨v, h0, c, c1, c2⟩
        · rw [if_neg c2]; exact nx (fun q => c2 q.2)
      · rw [if_neg c1]; exact nx (fun q => c1 q.1)
    · rw [if_neg c]
      exact hk (fun i g0 g1 => by omega)
theorem b_isC {k : Int → Mm → Prop} (h : BkR M (M 103)) (ha : inR a) (hb : inR b) (h1 : left (M 103) a b ≠ -1 → k 1 M) (h0 : left (M 103) a b = -1 → (∀ i, 0 ≤ i → i < M 103 723 → ¬ (M 103 (383 + 3 * i) = a ∧ M 103 (384 + 3 * i) = b)) → k 0 M) : Bd (wX0_isCleaned a b M) k := by
  apply Bd.of; unfold wX0_isCleaned
  have n2 := h.1.2.2.1
  have n0 := h.1.1
  have hc := h.2.2.2.2.2.1.1
  refine ⟨41, l_isC (n := M 103 723) ha hb n2.1 n2.2 (fun i g0 g1 => ?_) (fun hx => ?_) 41 0 (by omega) (by omega) (by omega) (fun w => ?_)⟩
  · obtain ⟨⟨e1, e2, -⟩, r1, r2, -⟩ := hc i g0 g1
    rw [e1, e2]
    exact ⟨inRof ⟨by omega, by omega⟩, inRof ⟨by omega, by omega⟩⟩
  · obtain ⟨i, g0, g1, g2, g3⟩ := hx
    obtain ⟨⟨e1, e2, -⟩, r1, r2, r3⟩ := hc i g0 g1
    rw [e1] at g2; rw [e2] at g3
    refine h1 ?_
    rw [left_some h g0 g1 ⟨g2, g3⟩]
    omega
  · have w2 : ∀ i, 0 ≤ i → i < M 103 723 → ¬ (M 103 (383 + 3 * i) = a ∧ M 103 (384 + 3 * i) = b) := by
      intro i g0 g1 q
      obtain ⟨⟨e1, e2, -⟩, -⟩ := hc i g0 g1
      exact w i g0 g1 ⟨e1.trans q.1, e2.trans q.2⟩
    exact h0 (left_none h.1 w2) w2
theorem m_clean (ha : inR a) (hb : inR b) (hc : inR c) {n : Int} {bb : Mm} (h : BkR bb (M 103)) (hn : M 103 723 = n) {k : Int → Mm → Prop}
    (h1 : (0 ≤ b ∧ b ≤ 119) ∧ (0 ≤ c ∧ c ≤ 1000) → (0 ≤ a ∧ a < M 103 721) → left (M 103) a b = -1 → n < 40 → k (n + 1) (up (up (up (up (up M 103 (383 + 3 * n) a) 103 (383 + 3 * n + 1) b) 103 (383 + 3 * n + 2) c) 103 723 (n + 1)) 102 0 0))
    (h2 : ¬ ((0 ≤ b ∧ b ≤ 119) ∧ (0 ≤ c ∧ c ≤ 1000)) → k (-1) (up M 102 0 (-1)))
    (h3 : (0 ≤ b ∧ b ≤ 119) ∧ (0 ≤ c ∧ c ≤ 1000) → ¬ (0 ≤ a ∧ a < M 103 721) → k (-2) (up M 102 0 (-2)))
    (h4 : (0 ≤ b ∧ b ≤ 119) ∧ (0 ≤ c ∧ c ≤ 1000) → (0 ≤ a ∧ a < M 103 721) → left (M 103) a b ≠ -1 → k (-4) (up M 102 0 (-4)))
    (h5 : (0 ≤ b ∧ b ≤ 119) ∧ (0 ≤ c ∧ c ≤ 1000) → (0 ≤ a ∧ a < M 103 721) → left (M 103) a b = -1 → n = 40 → k (-5) (up M 102 0 (-5))) : Bd (wX12_cleaned a b c M) k := by
  have n2 := h.1.2.2.1
  have n0 := h.1.1
  have hl := left_range (s := a) (d := b) h
  apply Bd.of; unfold wX12_cleaned
  refine i_mDay hb (fun c1 => ?_) (fun c1 => b_endsN (by omega) (h2 (by omega)))
  refine i_in hc inR0 (inRl (by decide)) (fun c2 => ?_) (fun c2 => b_endsN (by omega) (h2 (by omega)))
  refine i_mShip ha n0.2 (fun c3 => ?_) (fun c3 => b_endsN (by omega) (h3 ⟨c1, c2⟩ c3))
  refine b_left h ha hb ⟨inRof ⟨by omega, by omega⟩, ?_⟩
  by_cases q : left (M 103) a b = -1
  · rw [if_pos q]
    have e1 : M 103 (721 + 2) = n := hn
    refine b_many (by omega) ?_
    rw [e1]
    refine ⟨inRof ⟨by omega, by omega⟩, ?_⟩
    by_cases q2 : n = 40
    · rw [if_pos q2]
      exact b_endsN (by omega) (h5 ⟨c1, c2⟩ c3 q q2)
    · rw [if_neg q2]
      refine b_many (by omega) ?_
      rw [e1]
      refine ⟨⟨by omega, by omega⟩, ⟨by omega, by omega⟩, ⟨by omega, by omega⟩, ?_⟩
      have e2 : (up (up (up M 103 (383 + 3 * n) a) 103 (383 + 3 * n + 1) b) 103 (383 + 3 * n + 2) c) 103 723 = n := by
        repeat (first | exact hn | rw [up_nei (by omega)])
      rw [e2]
      refine b_many (by omega) ?_
      rw [show (721 : Int) + 2 = 723 by omega, up_eq]
      exact b_endsP (by omega) (h1 ⟨c1, c2⟩ c3 q (by omega))
  · rw [if_neg q]
    exact b_endsN (by omega) (h4 ⟨c1, c2⟩ c3 q)
theorem op_cleaned (ha : inR a) (hb : inR b) (hc : inR c) (hI : Inv M) (hk : ∀ M, Inv M → k M) : Bd (wX11_cleaned a b c M) (fun r1 M1 => Bd (wX12_cleaned a b c M1) (fun r2 M2 => inR r1 ∧ inR r2 ∧ r1 = r2 ∧ k M2)) := by
  have hB := hI.1
  obtain ⟨n, t, hbb, l, g, cl, o, s⟩ := hI.1
  have n0 := n.1
  have n2 := n.2.2.1
  apply Bd.of; unfold wX11_cleaned
  have no1 : ¬ ((0 ≤ b ∧ b ≤ 119) ∧ (0 ≤ c ∧ c ≤ 1000)) → Bd (wX12_cleaned a b c (up M 0 10 (-1))) (fun r2 M2 => inR (-1) ∧ inR r2 ∧ -1 = r2 ∧ k M2) := fun hno => m_clean ha hb hc (bb := M) (by exact hB) (by exact rfl) (fun q => absurd q hno) (fun _ => ⟨(inRl (by decide)), (inRl (by decide)), rfl, hk _ (hI.status (by omega))⟩) (fun q => absurd q hno) (fun q => absurd q hno) (fun q => absurd q hno)
  refine i_isDay hb (fun c1 => ?_) (fun c1 => b_refuse (no1 (by omega)))
  refine i_within hc inR0 (inRl (by decide)) (fun c2 => ?_) (fun c2 => b_refuse (no1 (by omega)))
  refine i_isShip ha (by omega) (fun c3 => ?_) (fun c3 => b_refuse ?_)
  · refine b_isC hB ha hb (fun q => ⟨inR1, ?_⟩) (fun q hno => ⟨inR0, ?_⟩)
    · rw [if_neg (by decide)]
      refine b_refuse ?_
      exact m_clean ha hb hc (bb := M) (by exact hB) (by exact rfl) (fun _ _ w => absurd w q) (fun w => absurd ⟨c1, c2⟩ w) (fun _ w => absurd (by show 0 ≤ a ∧ a < M 103 721; omega) w) (fun _ _ _ => ⟨(inRl (by decide)), (inRl (by decide)), rfl, hk _ (hI.status (by omega))⟩) (fun _ _ w => absurd w q)
    · rw [if_pos rfl]
      refine ⟨inRof ⟨by omega, by omega⟩, ?_⟩
      by_cases q2 : M 1 1 < 40
      · rw [if_pos q2]
        apply Bv.of
        refine ⟨⟨by omega, q2⟩, b_accept ?_⟩
        rw [n2.1]
        generalize hN : M 103 723 = N at *
        refine m_clean ha hb hc (bb := M) (n := N) (by exact hB) (by exact hN) (fun _ _ _ _ => ⟨inRof ⟨by show -2147483648 ≤ N + 1; omega, by show N + 1 ≤ 2147483647; omega⟩, inRof ⟨by omega, by omega⟩, rfl, hk _ ?_⟩) (fun w => absurd ⟨c1, c2⟩ w) (fun _ w => absurd (by show 0 ≤ a ∧ a < M 103 721; omega) w) (fun _ _ w => absurd (by exact q) w) (fun _ _ _ w => absurd w (by omega))
        refine hI.book (fun c i _ h1 h2 h3 h4 => by repeat (first | rfl | rw [up_ne2 h4] | rw [up_ne2 h3] | rw [up_ne h2] | rw [up_ne (by omega)])) ?_ ⟨rfl, (by decide : (-10 : Int) ≤ 0), (by decide : (0 : Int) ≤ 0)⟩
        refine ⟨⟨?_, ?_, ?_, ?_⟩, ?_, ?_, ?_, ?_, ⟨fun i h0 h1 => ?_, fun i j h0 h1 h2 => ?_⟩, ?_, ?_⟩
        · repeat (first | rw [up_ne (by decide)] | rw [up_nei (by omega)])
          exact n0
        · repeat (first | rw [up_ne (by decide)] | rw [up_nei (by omega)])
          exact n.2.1
        · show N + 1 = N + 1 ∧ 0 ≤ N + 1 ∧ N + 1 ≤ 40
          omega
        · repeat (first | rw [up_ne (by decide)] | rw [up_nei (by omega)])
          exact n.2.2.2
        · exact BkT_keep t rfl rfl (fun i h0 h1 => by repeat (first | rfl | rw [up_ne (by decide)] | rw [up_nei (by omega)]))
        · exact BkB_keep hbb (by repeat (first | exact Int.le_refl _ | rw [up_ne (by decide)] | rw [up_nei (by omega)])) n0.2.2 (fun i _ _ => rfl) (fun i h0 h1 => by repeat (first | rfl | rw [up_ne (by decide)] | rw [up_nei (by omega)]))
        · exact BkL_keep l rfl rfl (fun i h0 h1 => by repeat (first | rfl | rw [up_ne (by decide)] | rw [up_nei (by omega)]))
        · exact BkG_keep g (by repeat (first | exact Int.le_refl _ | rw [up_ne (by decide)] | rw [up_nei (by omega)])) (by repeat (first | rfl | rw [up_ne (by decide)] | rw [up_nei (by omega)])) n.2.1.2.2 (fun c h1 h2 => by repeat (first | rfl | rw [up_cell (by omega)])) (fun i h0 h1 => by repeat (first | rfl | rw [up_ne (by decide)] | rw [up_nei (by omega)]))
        · have h1 : i < N + 1 := h1
          by_cases e : i = N
          · subst e
            repeat (first | rw [up_ne (by decide)] | rw [up_nei (by omega)] | rw [up_at, if_pos (by omega)])
            exact ⟨⟨rfl, rfl, rfl⟩, by omega, c1, c2⟩
          · repeat (first | rw [up_ne (by decide)] | rw [up_nei (by omega)])
            exact cl.1 i h0 (by omega)
        · have h2 : j < N + 1 := h2
          have f1 : ∀ i, i < N → 0 ≤ i → up (up (up (up (up (up (up (up (up (up M 5 N a) 6 N b) 7 N c) 1 1 (N + 1)) 0 10 0) 103 (383 + 3 * N) a) 103 (383 + 3 * N + 1) b) 103 (383 + 3 * N + 2) c) 103 723 (N + 1)) 102 0 0 103 (383 + 3 * i) = M 103 (383 + 3 * i) ∧ up (up (up (up (up (up (up (up (up (up M 5 N a) 6 N b) 7 N c) 1 1 (N + 1)) 0 10 0) 103 (383 + 3 * N) a) 103 (383 + 3 * N + 1) b) 103 (383 + 3 * N + 2) c) 103 723 (N + 1)) 102 0 0 103 (384 + 3 * i) = M 103 (384 + 3 * i) := by
            intro i g1 g0
            constructor <;> repeat (first | rfl | rw [up_ne (by decide)] | rw [up_nei (by omega)])
          rw [(f1 i (by omega) h0).1, (f1 i (by omega) h0).2]
          by_cases e : j = N
          · subst e
            repeat (first | rw [up_ne (by decide)] | rw [up_nei (by omega)] | rw [up_at, if_pos (by omega)])
            exact hno i h0 (by omega)
          · rw [(f1 j (by omega) (by omega)).1, (f1 j (by omega) (by omega)).2]
            exact cl.2 i j h0 h1 (by omega)
        · exact BkO_keep o (by repeat (first | exact Int.le_refl _ | rw [up_ne (by decide)] | rw [up_nei (by omega)])) (by repeat (first | rfl | rw [up_ne (by decide)] | rw [up_nei (by omega)])) n.2.2.2.2.2 (fun c h1 h2 => by repeat (first | rfl | rw [up_cell (by omega)])) (fun i h0 h1 => by repeat (first | rfl | rw [up_ne (by decide)] | rw [up_nei (by omega)]))
        · exact BkS_keep s rfl rfl rfl (by repeat (first | exact Int.le_refl _ | rw [up_ne (by decide)] | rw [up_nei (by omega)])) s.2 (fun i h0 h1 => by repeat (first | rfl | rw [up_ne (by decide)] | rw [up_nei (by omega)]))
      · rw [if_neg q2]
        refine b_refuse ?_
        exact m_clean ha hb hc (bb := M) (by exact hB) (by exact rfl) (fun _ _ _ w => absurd w (by show ¬ M 103 723 < 40; omega)) (fun w => absurd ⟨c1, c2⟩ w) (fun _ w => absurd (by show 0 ≤ a ∧ a < M 103 721; omega) w) (fun _ _ w => absurd q w) (fun _ _ _ _ => ⟨(inRl (by decide)), (inRl (by decide)), rfl, hk _ (hI.status (by omega))⟩)
  · exact m_clean ha hb hc (bb := M) (by exact hB) (by exact rfl) (fun _ w => absurd (by have w : 0 ≤ a ∧ a < M 103 721 := w; omega) c3) (fun w => absurd ⟨c1, c2⟩ w) (fun _ _ => ⟨(inRl (by decide)), (inRl (by decide)), rfl, hk _ (hI.status (by omega))⟩) (fun _ w => absurd (by have w : 0 ≤ a ∧ a < M 103 721 := w; omega) c3) (fun _ w => absurd (by have w : 0 ≤ a ∧ a < M 103 721 := w; omega) c3)
end Cl2
