/-! ===== ship, leg, leave, alter, a log more ===== -/
section Ops4
variable {M : Mm} {k : Mm → Prop} {a b c d e f : Int}
theorem m_ship (ha : inR a) {n : Int} (hg : 0 ≤ n ∧ n ≤ 3) (hn : M 103 721 = n) {k : Int → Mm → Prop} (h1 : (0 ≤ a ∧ a ≤ 1000) → n < 3 → k n (up (up (up M 103 n a) 103 721 (n + 1)) 102 0 0)) (h2 : ¬ (0 ≤ a ∧ a ≤ 1000) → k (-1) (up M 102 0 (-1))) (h3 : (0 ≤ a ∧ a ≤ 1000) → n = 3 → k (-5) (up M 102 0 (-5))) : Bd (wX12_ship a M) k := by
  apply Bd.of; unfold wX12_ship
  have e1 : M 103 (721 + 0) = n := hn
  refine i_in ha inR0 (inRl (by decide)) (fun c1 => ?_) (fun c1 => b_endsN (by omega) (h2 c1))
  refine b_many (by omega) ?_
  rw [e1]
  refine ⟨inRof ⟨by omega, by omega⟩, ?_⟩
  by_cases c2 : n = 3
  · rw [if_pos c2]
    exact b_endsN (by omega) (h3 c1 c2)
  · rw [if_neg c2]
    refine b_many (by omega) ?_
    rw [e1, show (0 : Int) + n = n by omega]
    refine ⟨⟨by omega, by omega⟩, ?_⟩
    rw [show up M 103 n a 103 721 = n by rw [up_nei (by omega)]; exact hn]
    refine b_many (by omega) ?_
    rw [show (721 : Int) + 0 = 721 by omega, up_eq]
    refine b_endsP (by omega) ?_
    rw [show n + 1 - 1 = n by omega]
    exact h1 c1 (by omega)
theorem op_ship (ha : inR a) (hI : Inv M) (hk : ∀ M, Inv M → k M) : Bd (wX11_ship a M) (fun r1 M1 => Bd (wX12_ship a M1) (fun r2 M2 => inR r1 ∧ inR r2 ∧ r1 = r2 ∧ k M2)) := by
  obtain ⟨n, t, hbb, l, g, cl, o, s⟩ := hI.1
  have n0 := n.1
  apply Bd.of; unfold wX11_ship
  refine i_within ha inR0 (inRl (by decide)) (fun c1 => ⟨inRof ⟨by omega, by omega⟩, ?_⟩) (fun c1 => b_refuse ?_)
  · by_cases c2 : M 1 0 < 3
    · rw [if_pos c2]
      refine ⟨⟨by omega, by omega⟩, b_accept ?_⟩
      rw [n0.1]
      generalize hN : M 103 721 = N at *
      refine m_ship ha (n := N) (by omega) (by exact hN) (fun _ _ => ⟨inRof ⟨by omega, by omega⟩, inRof ⟨by omega, by omega⟩, by omega, hk _ ?_⟩) (fun q => absurd c1 q) (fun _ q => absurd q (by omega))
      refine hI.book (fun c i _ h1 h2 h3 h4 => by repeat (first | rfl | rw [up_ne2 h4] | rw [up_ne2 h3] | rw [up_ne h2] | rw [up_ne (by omega)])) ?_ ⟨rfl, (by decide : (-10 : Int) ≤ 0), (by decide : (0 : Int) ≤ 0)⟩
      have hle : M 103 721 ≤ up (up (up (up (up (up M 2 N a) 1 0 (N + 1)) 0 10 0) 103 N a) 103 721 (N + 1)) 102 0 0 103 721 := by
        show M 103 721 ≤ N + 1
        omega
      refine ⟨⟨?_, ?_, ?_, ?_⟩, ?_, fun i h0 h1 => ?_, ?_, ?_, ?_, ?_, ?_⟩
      · show N + 1 = N + 1 ∧ 0 ≤ N + 1 ∧ N + 1 ≤ 3
        omega
      · repeat (first | rw [up_ne (by decide)] | rw [up_nei (by omega)])
        exact n.2.1
      · repeat (first | rw [up_ne (by decide)] | rw [up_nei (by omega)])
        exact n.2.2.1
      · repeat (first | rw [up_ne (by decide)] | rw [up_nei (by omega)])
        exact n.2.2.2
      · exact BkT_keep t rfl rfl (fun i h0 h1 => by repeat (first | rfl | rw [up_ne (by decide)] | rw [up_nei (by omega)]))
      · have h1 : i < N + 1 := h1
        by_cases q : i = N
        · repeat (first | rw [up_ne (by decide)] | rw [up_nei (by omega)] | rw [up_at, if_pos (by omega)])
          exact ⟨rfl, c1⟩
        · repeat (first | rw [up_ne (by decide)] | rw [up_nei (by omega)])
          exact hbb i h0 (by omega)
      · exact BkL_keep l rfl rfl (fun i h0 h1 => by repeat (first | rfl | rw [up_ne (by decide)] | rw [up_nei (by omega)]))
      · exact BkG_keep g hle (by repeat (first | rfl | rw [up_ne (by decide)] | rw [up_nei (by omega)])) n.2.1.2.2 (fun c h1 h2 => by repeat (first | rfl | rw [up_cell (by omega)])) (fun i h0 h1 => by repeat (first | rfl | rw [up_ne (by decide)] | rw [up_nei (by omega)]))
      · exact BkC_keep cl hle (by repeat (first | rfl | rw [up_ne (by decide)] | rw [up_nei (by omega)])) n.2.2.1.2.2 (fun c h1 h2 => by repeat (first | rfl | rw [up_cell (by omega)])) (fun i h0 h1 => by repeat (first | rfl | rw [up_ne (by decide)] | rw [up_nei (by omega)]))
      · exact BkO_keep o hle (by repeat (first | rfl | rw [up_ne (by decide)] | rw [up_nei (by omega)])) n.2.2.2.2.2 (fun c h1 h2 => by repeat (first | rfl | rw [up_cell (by omega)])) (fun i h0 h1 => by repeat (first | rfl | rw [up_ne (by decide)] | rw [up_nei (by omega)]))
      · exact BkS_keep s rfl rfl rfl (by repeat (first | exact Int.le_refl _ | rw [up_ne (by decide)] | rw [up_nei (by omega)])) s.2 (fun i h0 h1 => by repeat (first | rfl | rw [up_ne (by decide)] | rw [up_nei (by omega)]))
    · rw [if_neg c2]
      refine b_refuse ?_
      exact m_ship ha (n := M 103 721) n0.2 (by exact rfl) (fun _ q => absurd q (by omega)) (fun q => absurd c1 q) (fun _ _ => ⟨(inRl (by decide)), (inRl (by decide)), rfl, hk _ (hI.status (by omega))⟩)
  · exact m_ship ha (n := M 103 721) n0.2 (by exact rfl) (fun q => absurd q c1) (fun _ => ⟨(inRl (by decide)), (inRl (by decide)), rfl, hk _ (hI.status (by omega))⟩) (fun q => absurd q c1)
/-! a leg -/
theorem x_leg (ha : inR a) (hb : inR b) (hc : inR c) (hd : inR d) (he : inR e) (hf : inR f) (hs : 0 ≤ M 1 0 ∧ M 1 0 ≤ 3) (hg : 0 ≤ M 8 0 ∧ M 8 0 ≤ 60) {k : Int → Mm → Prop}
    (h1 : (0 ≤ b ∧ b ≤ 119) ∧ (0 ≤ c ∧ c ≤ 5) ∧ (0 ≤ d ∧ d ≤ 30) ∧ (0 ≤ e ∧ e ≤ 20) ∧ (0 ≤ f ∧ f ≤ 100) → (0 ≤ a ∧ a < M 1 0) → M 8 0 < 60 → k (M 8 0 + 1) (up (up (up (up (up (up (up (up M 9 (M 8 0) a) 10 (M 8 0) b) 11 (M 8 0) c) 12 (M 8 0) d) 13 (M 8 0) e) 14 (M 8 0) f) 8 0 (M 8 0 + 1)) 0 10 0))
    (h2 : ¬ ((0 ≤ b ∧ b ≤ 119) ∧ (0 ≤ c ∧ c ≤ 5) ∧ (0 ≤ d ∧ d ≤ 30) ∧ (0 ≤ e ∧ e ≤ 20) ∧ (0 ≤ f ∧ f ≤ 100)) → k (-1) (up M 0 10 (-1)))
    (h3 : (0 ≤ b ∧ b ≤ 119) ∧ (0 ≤ c ∧ c ≤ 5) ∧ (0 ≤ d ∧ d ≤ 30) ∧ (0 ≤ e ∧ e ≤ 20) ∧ (0 ≤ f ∧ f ≤ 100) → ¬ (0 ≤ a ∧ a < M 1 0) → k (-2) (up M 0 10 (-2)))
    (h4 : (0 ≤ b ∧ b ≤ 119) ∧ (0 ≤ c ∧ c ≤ 5) ∧ (0 ≤ d ∧ d ≤ 30) ∧ (0 ≤ e ∧ e ≤ 20) ∧ (0 ≤ f ∧ f ≤ 100) → (0 ≤ a ∧ a < M 1 0) → M 8 0 = 60 → k (-5) (up M 0 10 (-5))) : Bd (wX11_leg a b c d e f M) k := by
  apply Bd.of; unfold wX11_leg
  refine i_isDay hb (fun c1 => ?_) (fun c1 => b_refuse (h2 (by omega)))
  refine i_within hc inR0 (inRl (by decide)) (fun c2 => ?_) (fun c2 => b_refuse (h2 (by omega)))
  refine i_within hd inR0 (inRl (by decide)) (fun c3 => ?_) (fun c3 => b_refuse (h2 (by omega)))
  refine i_within he inR0 (inRl (by decide)) (fun c4 => ?_) (fun c4 => b_refuse (h2 (by omega)))
  refine i_within hf inR0 (inRl (by decide)) (fun c5 => ?_) (fun c5 => b_refuse (h2 (by omega)))
  refine i_isShip ha hs (fun c6 => ⟨inRof ⟨by omega, by omega⟩, ?_⟩) (fun c6 => b_refuse (h3 ⟨c1, c2, c3, c4, c5⟩ c6))
  by_cases c7 : M 8 0 < 60
  · rw [if_pos c7]
    apply Bv.of
    refine ⟨⟨by omega, c7⟩, ?_⟩
    exact b_accept (h1 ⟨c1, c2, c3, c4, c5⟩ c6 c7)
  · rw [if_neg c7]
    exact b_refuse (h4 ⟨c1, c2, c3, c4, c5⟩ c6 (by omega))
theorem m_leg (ha : inR a) (hb : inR b) (hc : inR c) (hd : inR d) (he : inR e) (hf : inR f) {n : Int} (hs : 0 ≤ M 103 721 ∧ M 103 721 ≤ 3) (hg : 0 ≤ n ∧ n ≤ 60) (hn : M 103 722 = n) {k : Int → Mm → Prop}
    (h1 : (0 ≤ b ∧ b ≤ 119) ∧ (0 ≤ c ∧ c ≤ 5) ∧ (0 ≤ d ∧ d ≤ 30) ∧ (0 ≤ e ∧ e ≤ 20) ∧ (0 ≤ f ∧ f ≤ 100) → (0 ≤ a ∧ a < M 103 721) → n < 60 → k (n + 1) (up (up (up (up (up (up (up (up M 103 (23 + 6 * n) a) 103 (23 + 6 * n + 1) b) 103 (23 + 6 * n + 2) c) 103 (23 + 6 * n + 3) d) 103 (23 + 6 * n + 4) e) 103 (23 + 6 * n + 5) f) 103 722 (n + 1)) 102 0 0))
    (h2 : ¬ ((0 ≤ b ∧ b ≤ 119) ∧ (0 ≤ c ∧ c ≤ 5) ∧ (0 ≤ d ∧ d ≤ 30) ∧ (0 ≤ e ∧ e ≤ 20) ∧ (0 ≤ f ∧ f ≤ 100)) → k (-1) (up M 102 0 (-1)))
    (h3 : (0 ≤ b ∧ b ≤ 119) ∧ (0 ≤ c ∧ c ≤ 5) ∧ (0 ≤ d ∧ d ≤ 30) ∧ (0 ≤ e ∧ e ≤ 20) ∧ (0 ≤ f ∧ f ≤ 100) → ¬ (0 ≤ a ∧ a < M 103 721) → k (-2) (up M 102 0 (-2)))
    (h4 : (0 ≤ b ∧ b ≤ 119) ∧ (0 ≤ c ∧ c ≤ 5) ∧ (0 ≤ d ∧ d ≤ 30) ∧ (0 ≤ e ∧ e ≤ 20) ∧ (0 ≤ f ∧ f ≤ 100) → (0 ≤ a ∧ a < M 103 721) → n = 60 → k (-5) (up M 102 0 (-5))) : Bd (wX12_leg a b c d e f M) k := by
  apply Bd.of; unfold wX12_leg
  refine i_mDay hb (fun c1 => ?_) (fun c1 => b_endsN (by omega) (h2 (by omega)))
  refine i_in hc inR0 (inRl (by decide)) (fun c2 => ?_) (fun c2 => b_endsN (by omega) (h2 (by omega)))
  refine i_in hd inR0 (inRl (by decide)) (fun c3 => ?_) (fun c3 => b_endsN (by omega) (h2 (by omega)))
  refine i_in he inR0 (inRl (by decide)) (fun c4 => ?_) (fun c4 => b_endsN (by omega) (h2 (by omega)))
  refine i_in hf inR0 (inRl (by decide)) (fun c5 => ?_) (fun c5 => b_endsN (by omega) (h2 (by omega)))
  refine i_mShip ha hs (fun c6 => ?_) (fun c6 => b_endsN (by omega) (h3 ⟨c1, c2, c3, c4, c5⟩ c6))
  have e1 : M 103 (721 + 1) = n := hn
  refine b_many (by omega) ?_
  rw [e1]
  refine ⟨inRof ⟨by omega, by omega⟩, ?_⟩
  by_cases c7 : n = 60
  · rw [if_pos c7]
    exact b_endsN (by omega) (h4 ⟨c1, c2, c3, c4, c5⟩ c6 c7)
  · rw [if_neg c7]
    refine b_many (by omega) ?_
    rw [e1]
    refine ⟨⟨by omega, by omega⟩, ⟨by omega, by omega⟩, ⟨by omega, by omega⟩, ⟨by omega, by omega⟩, ⟨by omega, by omega⟩, ⟨by omega, by omega⟩, ?_⟩
    have e2 : (up (up (up (up (up (up M 103 (23 + 6 * n) a) 103 (23 + 6 * n + 1) b) 103 (23 + 6 * n + 2) c) 103 (23 + 6 * n + 3) d) 103 (23 + 6 * n + 4) e) 103 (23 + 6 * n + 5) f) 103 722 = n := by
      repeat (first | exact hn | rw [up_nei (by omega)])
    rw [e2]
    refine b_many (by omega) ?_
    rw [show (721 : Int) + 1 = 722 by omega, up_eq]
    exact b_endsP (by omega) (h1 ⟨c1, c2, c3, c4, c5⟩ c6 (by omega))
theorem op_leg (ha : inR a) (hb : inR b) (hc : inR c) (hd : inR d) (he : inR e) (hf : inR f) (hI : Inv M) (hk : ∀ M, Inv M → k M) : Bd (wX11_leg a b c d e f M) (fun r1 M1 => Bd (wX12_leg a b c d e f M1) (fun r2 M2 => inR r1 ∧ inR r2 ∧ r1 = r2 ∧ k M2)) := by
  obtain ⟨n, t, hbb, l, g, cl, o, s⟩ := hI.1
  have n0 := n.1
  have n1 := n.2.1
  refine x_leg ha hb hc hd he hf (by omega) (by omega) (fun c1 c2 c3 => ?_) (fun c1 => ?_) (fun c1 c2 => ?_) (fun c1 c2 c3 => ?_)
  · rw [n1.1]
    refine m_leg ha hb hc hd he hf (n := M 103 722) (by exact n0.2) n1.2 (by exact rfl) (fun _ _ _ => ⟨inRof ⟨by omega, by omega⟩, inRof ⟨by omega, by omega⟩, rfl, hk _ ?_⟩) (fun q => absurd c1 q) (fun _ q => absurd (by show 0 ≤ a ∧ a < M 103 721; omega) q) (fun _ _ q => absurd q (by omega))
    refine hI.book (fun c i _ h1 h2 h3 h4 => by repeat (first | rfl | rw [up_ne2 h4] | rw [up_ne2 h3] | rw [up_ne h2] | rw [up_ne (by omega)])) ?_ ⟨rfl, (by decide : (-10 : Int) ≤ 0), (by decide : (0 : Int) ≤ 0)⟩
    generalize hN : M 103 722 = N at *
    refine ⟨⟨?_, ?_, ?_, ?_⟩, ?_, ?_, ?_, fun i h0 h1 => ?_, ?_, ?_, ?_⟩
    · repeat (first | rw [up_ne (by decide)] | rw [up_nei (by omega)])
      exact n0
    · show N + 1 = N + 1 ∧ 0 ≤ N + 1 ∧ N + 1 ≤ 60
      omega
    · repeat (first | rw [up_ne (by decide)] | rw [up_nei (by omega)])
      exact n.2.2.1
    · repeat (first | rw [up_ne (by decide)] | rw [up_nei (by omega)])
      exact n.2.2.2
    · exact BkT_keep t rfl rfl (fun i h0 h1 => by repeat (first | rfl | rw [up_ne (by decide)] | rw [up_nei (by omega)]))
    · exact BkB_keep hbb (by repeat (first | exact Int.le_refl _ | rw [up_ne (by decide)] | rw [up_nei (by omega)])) n0.2.2 (fun i _ _ => rfl) (fun i h0 h1 => by repeat (first | rfl | rw [up_ne (by decide)] | rw [up_nei (by omega)]))
    · exact BkL_keep l rfl rfl (fun i h0 h1 => by repeat (first | rfl | rw [up_ne (by decide)] | rw [up_nei (by omega)]))
    · have h1 : i < N + 1 := h1
      by_cases q : i = N
      · subst q
        repeat (first | rw [up_ne (by decide)] | rw [up_nei (by omega)] | rw [up_at, if_pos (by omega)])
        exact ⟨⟨rfl, rfl, rfl, rfl, rfl, rfl⟩, by omega, c1⟩
      · repeat (first | rw [up_ne (by decide)] | rw [up_nei (by omega)])
        exact g i h0 (by omega)
    · exact BkC_keep cl (by repeat (first | exact Int.le_refl _ | rw [up_ne (by decide)] | rw [up_nei (by omega)])) (by repeat (first | rfl | rw [up_ne (by decide)] | rw [up_nei (by omega)])) n.2.2.1.2.2 (fun c h1 h2 => by repeat (first | rfl | rw [up_cell (by omega)])) (fun i h0 h1 => by repeat (first | rfl | rw [up_ne (by decide)] | rw [up_nei (by omega)]))
    · exact BkO_keep o (by repeat (first | exact Int.le_refl _ | rw [up_ne (by decide)] | rw [up_nei (by omega)])) (by repeat (first | rfl | rw [up_ne (by decide)] | rw [up_nei (by omega)])) n.2.2.2.2.2 (fun c h1 h2 => by repeat (first | rfl | rw [up_cell (by omega)])) (fun i h0 h1 => by repeat (first | rfl | rw [up_ne (by decide)] | rw [up_nei (by omega)]))
    · exact BkS_keep s rfl rfl rfl (by repeat (first | exact Int.le_refl _ | rw [up_ne (by decide)] | rw [up_nei (by omega)])) s.2 (fun i h0 h1 => by repeat (first | rfl | rw [up_ne (by decide)] | rw [up_nei (by omega)]))
  · exact m_leg ha hb hc hd he hf (n := M 103 722) (by exact n0.2) n1.2 (by exact rfl) (fun q => absurd q c1) (fun _ => ⟨(inRl (by decide)), (inRl (by decide)), rfl, hk _ (hI.status (by omega))⟩) (fun q => absurd q c1) (fun q => absurd q c1)
  · exact m_leg ha hb hc hd he hf (n := M 103 722) (by exact n0.2) n1.2 (by exact rfl) (fun _ q => absurd (by have q : 0 ≤ a ∧ a < M 103 721 := q; omega) c2) (fun q => absurd c1 q) (fun _ _ => ⟨(inRl (by decide)), (inRl (by decide)), rfl, hk _ (hI.status (by omega))⟩) (fun _ q => absurd (by have q : 0 ≤ a ∧ a < M 103 721 := q; omega) c2)
  · exact m_leg ha hb hc hd he hf (n := M 103 722) (by exact n0.2) n1.2 (by exact rfl) (fun _ _ q => absurd q (by omega)) (fun q => absurd c1 q) (fun _ q => absurd (by show 0 ≤ a ∧ a < M 103 721; omega) q) (fun _ _ _ => ⟨(inRl (by decide)), (inRl (by decide)), rfl, hk _ (hI.status (by omega))⟩)
end Ops4
