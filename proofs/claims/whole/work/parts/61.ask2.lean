/-! ===== log, share ===== -/
section Log
variable {M : Mm} {k : Mm → Prop} {kk : Int → Mm → Prop} {a b c d e f : Int} {bb : Mm}
theorem op_log (ha : inR a) (hb : inR b) (hc : inR c) (hd : inR d) (he : inR e) (hf : inR f) (hI : Inv M) (hk : ∀ M, Inv M → k M) : Bd (wX11_log a b c d e f M) (fun r1 M1 => Bd (wX12_log a b c d e f M1) (fun r2 M2 => inR r1 ∧ inR r2 ∧ r1 = r2 ∧ k M2)) := by
  have hB := hI.1
  have n := hI.1.1
  have n0 := n.1
  have m1 : ¬ ((0 ≤ b ∧ b ≤ 119) ∧ (0 ≤ c ∧ c ≤ 100000) ∧ (0 ≤ d ∧ d ≤ 1000) ∧ (1 ≤ e ∧ e ≤ 100) ∧ (0 ≤ f ∧ f ≤ 119)) → Bd (wX12_log a b c d e f (up M 0 10 (-1))) (fun r2 M2 => inR (-1) ∧ inR r2 ∧ -1 = r2 ∧ k M2) := by
    intro hn
    have fin : Bd (wX12_ends (-1) (up M 0 10 (-1))) (fun r2 M2 => inR (-1) ∧ inR r2 ∧ -1 = r2 ∧ k M2) := b_endsN (by omega) ⟨(inRl (by decide)), (inRl (by decide)), rfl, hk _ (hI.status (by omega))⟩
    apply Bd.of; unfold wX12_log
    refine i_mDay hb (fun c1 => ?_) (fun _ => fin)
    refine i_in hc inR0 (inRl (by decide)) (fun c2 => ?_) (fun _ => fin)
    refine i_in hd inR0 (inRl (by decide)) (fun c3 => ?_) (fun _ => fin)
    refine i_in he inR1 (inRl (by decide)) (fun c4 => ?_) (fun _ => fin)
    refine i_mDay hf (fun c5 => ?_) (fun _ => fin)
    exact absurd ⟨c1, c2, c3, c4, c5⟩ hn
  apply Bd.of; unfold wX11_log
  refine i_isDay hb (fun c1 => ?_) (fun c1 => b_refuse (m1 (by omega)))
  refine i_within hc inR0 (inRl (by decide)) (fun c2 => ?_) (fun c2 => b_refuse (m1 (by omega)))
  refine i_within hd inR0 (inRl (by decide)) (fun c3 => ?_) (fun c3 => b_refuse (m1 (by omega)))
  refine i_within he inR1 (inRl (by decide)) (fun c4 => ?_) (fun c4 => b_refuse (m1 (by omega)))
  refine i_isDay hf (fun c5 => ?_) (fun c5 => b_refuse (m1 (by omega)))
  have m2 : ∀ (M1 : Mm) (B : Int → Int), M1 103 = B → BkR M B → ∀ {kk : Int → Mm → Prop}, ((0 ≤ a ∧ a < B 721) → spd B a b ≠ 0 → Bd (wX12_many 3 M1) (fun r63 M64 => (inR r63) ∧ (if r63 = 24 then Bd (wX12_ends (-5) M64) (fun r69 M70 => kk r69 M70) else Bd (wX12_adds a b c d e f 0 M64) (fun r73 M74 => Bd (wX12_ends r73 M74) (fun r77 M78 => kk r77 M78))))) → (¬ (0 ≤ a ∧ a < B 721) → kk (-2) (up M1 102 0 (-2))) → ((0 ≤ a ∧ a < B 721) → spd B a b = 0 → kk (-3) (up M1 102 0 (-3))) → Bd (wX12_log a b c d e f M1) kk := by
    intro M1 B hB1 hb1 kk h1 h2 h3
    subst hB1
    have hs := hb1.1.1
    have hv := spd_range (s := a) (d := b) hb1
    apply Bd.of; unfold wX12_log
    refine i_mDay hb (fun _ => ?_) (fun q => absurd c1 q)
    refine i_in hc inR0 (inRl (by decide)) (fun _ => ?_) (fun q => absurd c2 q)
    refine i_in hd inR0 (inRl (by decide)) (fun _ => ?_) (fun q => absurd c3 q)
    refine i_in he inR1 (inRl (by decide)) (fun _ => ?_) (fun q => absurd c4 q)
    refine i_mDay hf (fun _ => ?_) (fun q => absurd c5 q)
    refine i_mShip ha (by omega) (fun q => ?_) (fun q => b_endsN (by omega) (h2 q))
    refine b_spd hb1 ha hb ⟨inRof ⟨by omega, by omega⟩, ?_⟩
    by_cases q2 : spd (M1 103) a b = 0
    · rw [if_pos q2]
      exact b_endsN (by omega) (h3 q q2)
    · rw [if_neg q2]
      exact h1 q q2
  refine i_isShip ha (by omega) (fun c6 => ?_) (fun c6 => b_refuse (m2 (up M 0 10 (-2)) (M 103) (by exact rfl) hB (fun q => absurd (by omega) c6) (fun _ => ⟨(inRl (by decide)), (inRl (by decide)), rfl, hk _ (hI.status (by omega))⟩) (fun q => absurd (by omega) c6)))
  refine b_load hB (by omega) (fun M' k1 k2 k3 k4 => ?_)
  have hI' := hI.calm k1
  have e3 : M' 103 = M 103 := k1 103 (by omega)
  have n3 := k3.1.2.2.2
  have hv := spd_range (s := a) (d := b) hB
  rw [(k4.1.2 b (by omega) (by omega)).2.1]
  refine ⟨⟨by omega, by omega⟩, inRof ⟨by omega, by omega⟩, ?_⟩
  by_cases q : spd (M 103) a b = 0
  · rw [if_pos q]
    refine b_refuse (m2 _ (M 103) (by exact e3) hB (fun _ w => absurd q w) (fun w => absurd (by omega) w) (fun _ _ => ⟨(inRl (by decide)), (inRl (by decide)), rfl, hk _ (hI'.status (by omega))⟩))
  · rw [if_neg q]
    refine b_addLog (Or.inl rfl) (by omega) (fun c7 => m2 _ (M 103) (by exact e3) hB (fun _ _ => ?_) (fun w => absurd (by omega) w) (fun _ w => absurd w q)) (fun c7 => m2 _ (M 103) (by exact e3) hB (fun _ _ => ?_) (fun w => absurd (by omega) w) (fun _ w => absurd w q))
    · refine b_many (by omega) ?_
      have e1 : xAdd M' a b c d e f 0 103 (721 + 3) = M' 15 0 := by
        show M' 103 724 = M' 15 0
        rw [e3]; exact n3.1.symm
      rw [e1]
      refine ⟨inRof ⟨by omega, by omega⟩, ?_⟩
      rw [if_neg (by omega)]
      refine b_adds (n := M' 15 0) e1 (by omega) ?_
      exact b_endsP (by omega) ⟨inRof ⟨by omega, by omega⟩, inRof ⟨by omega, by omega⟩, rfl, hk _ (hI'.add c7 (by have := k3.1.1.1; omega) c1 (by omega) c3 c4 c5 (Or.inl rfl))⟩
    · refine b_many (by omega) ?_
      have e1 : up M' 0 10 (-5) 103 (721 + 3) = M' 15 0 := by
        show M' 103 724 = M' 15 0
        rw [e3]; exact n3.1.symm
      rw [e1]
      refine ⟨inRof ⟨by omega, by omega⟩, ?_⟩
      rw [if_pos c7]
      exact b_endsN (by omega) ⟨(inRl (by decide)), (inRl (by decide)), rfl, hk _ (hI'.status (by omega))⟩
end Log
