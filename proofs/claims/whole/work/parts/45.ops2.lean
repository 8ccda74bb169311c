/-! ===== ops that write the book ===== -/
section Keep2
variable {b b' : Mm} {B B' : Int → Int}
theorem BkN_keep (h : BkN b B) (h1 : b' 1 0 = b 1 0) (h2 : b' 8 0 = b 8 0) (h3 : b' 1 1 = b 1 1) (h4 : b' 15 0 = b 15 0) (hB : ∀ i, 721 ≤ i → i < 725 → B' i = B i) : BkN b' B' := by
  unfold BkN
  rw [h1, h2, h3, h4, hB 721 (by omega) (by omega), hB 722 (by omega) (by omega), hB 723 (by omega) (by omega), hB 724 (by omega) (by omega)]
  exact h
theorem BkT_keep (h : BkT b B) (h1 : b' 1 2 = b 1 2) (h2 : b' 1 3 = b 1 3) (hB : ∀ i, 719 ≤ i → i < 721 → B' i = B i) : BkT b' B' := by
  unfold BkT
  rw [h1, h2, hB 719 (by omega) (by omega), hB 720 (by omega) (by omega)]
  exact h
theorem BkS_keep (h : BkS b B) (h1 : b' 1 4 = b 1 4) (h2 : b' 1 5 = b 1 5) (h3 : b' 1 6 = b 1 6) (h4 : B 724 ≤ B' 724) (hz : BkZ b') (hB : ∀ i, 725 ≤ i → i < 728 → B' i = B i) : BkS b' B' := by
  unfold BkS
  rw [h1, h2, h3, hB 725 (by omega) (by omega), hB 726 (by omega) (by omega), hB 727 (by omega) (by omega)]
  obtain ⟨⟨s1, s2, s3⟩, -⟩ := h
  exact ⟨⟨s1, ⟨s2.1, by omega⟩, s3⟩, hz⟩
end Keep2
section Ops3
variable {M : Mm} {k : Mm → Prop} {a b c d e f : Int}
theorem x_table (ha : inR a) (hb : inR b) (hc : inR c) (hd : inR d) {k : Int → Mm → Prop}
    (h1 : a = 0 ∧ (0 ≤ b ∧ b ≤ 5) ∧ -100 ≤ c ∧ c ≤ d ∧ d ≤ 100 → k 0 (up (up (up M 3 b c) 4 b d) 0 10 0))
    (h2 : a = 1 ∧ (0 ≤ b ∧ b ≤ 3) ∧ -100 ≤ c ∧ c ≤ d ∧ d ≤ 100 → k 0 (up (up (up M 3 (6 + b) c) 4 (6 + b) d) 0 10 0))
    (h0 : ¬ ((a = 0 ∧ (0 ≤ b ∧ b ≤ 5) ∨ a = 1 ∧ (0 ≤ b ∧ b ≤ 3)) ∧ -100 ≤ c ∧ c ≤ d ∧ d ≤ 100) → k (-1) (up M 0 10 (-1))) : Bd (wX11_table a b c d M) k := by
  apply Bd.of; unfold wX11_table
  refine i_within ha inR0 (inRl (by decide)) (fun c1 => ⟨ha, ?_⟩) (fun c1 => b_refuse (h0 (by omega)))
  by_cases c2 : a = 0
  · rw [if_pos c2]
    unfold wX11_table_20
    refine i_within hb inR0 (inRl (by decide)) (fun c3 => ?_) (fun c3 => b_refuse (h0 (by omega)))
    refine i_within hc (inRl (by decide)) (inRl (by decide)) (fun c4 => ?_) (fun c4 => b_refuse (h0 (by omega)))
    refine i_within hd (inRl (by decide)) (inRl (by decide)) (fun c5 => ⟨hc, hd, ?_⟩) (fun c5 => b_refuse (h0 (by omega)))
    by_cases c6 : c ≤ d
    · rw [if_pos c6]
      refine ⟨ha, ?_⟩
      rw [if_pos c2]
      apply Bv.of
      exact ⟨⟨by omega, by omega⟩, b_accept (h1 (by omega))⟩
    · rw [if_neg c6]
      exact b_refuse (h0 (by omega))
  · rw [if_neg c2]
    unfold wX11_table_20
    refine i_within hb inR0 (inRl (by decide)) (fun c3 => ?_) (fun c3 => b_refuse (h0 (by omega)))
    refine i_within hc (inRl (by decide)) (inRl (by decide)) (fun c4 => ?_) (fun c4 => b_refuse (h0 (by omega)))
    refine i_within hd (inRl (by decide)) (inRl (by decide)) (fun c5 => ⟨hc, hd, ?_⟩) (fun c5 => b_refuse (h0 (by omega)))
    by_cases c6 : c ≤ d
    · rw [if_pos c6]
      refine ⟨ha, ?_⟩
      rw [if_neg c2]
      apply Bv.of
      exact ⟨⟨by omega, by omega⟩, b_accept (h2 (by omega))⟩
    · rw [if_neg c6]
      exact b_refuse (h0 (by omega))
theorem m_table (ha : inR a) (hb : inR b) (hc : inR c) (hd : inR d) {k : Int → Mm → Prop}
    (h1 : a = 0 ∧ (0 ≤ b ∧ b ≤ 5) ∧ -100 ≤ c ∧ c ≤ d ∧ d ≤ 100 → k 0 (up (up (up M 103 (3 + b) c) 103 (3 + 6 + b) d) 102 0 0))
    (h2 : a = 1 ∧ (0 ≤ b ∧ b ≤ 3) ∧ -100 ≤ c ∧ c ≤ d ∧ d ≤ 100 → k 0 (up (up (up M 103 (15 + b) c) 103 (15 + 4 + b) d) 102 0 0))
    (h0 : ¬ ((a = 0 ∧ (0 ≤ b ∧ b ≤ 5) ∨ a = 1 ∧ (0 ≤ b ∧ b ≤ 3)) ∧ -100 ≤ c ∧ c ≤ d ∧ d ≤ 100) → k (-1) (up M 102 0 (-1))) : Bd (wX12_table a b c d M) k := by
  apply Bd.of; unfold wX12_table
  refine i_in ha inR0 (inRl (by decide)) (fun c1 => ⟨ha, ?_⟩) (fun c1 => b_endsN (by omega) (h0 (by omega)))
  by_cases c2 : a = 0
  · rw [if_pos c2]
    unfold wX12_table_20
    refine i_in hb inR0 (inRl (by decide)) (fun c3 => ?_) (fun c3 => b_endsN (by omega) (h0 (by omega)))
    refine i_in hc (inRl (by decide)) (inRl (by decide)) (fun c4 => ?_) (fun c4 => b_endsN (by omega) (h0 (by omega)))
    refine i_in hd hc (inRl (by decide)) (fun c5 => ⟨ha, ?_⟩) (fun c5 => b_endsN (by omega) (h0 (by omega)))
    rw [if_pos c2, if_pos c2]
    unfold wX12_table_76
    exact ⟨⟨by omega, by omega⟩, ⟨by omega, by omega⟩, b_endsP (by omega) (h1 (by omega))⟩
  · rw [if_neg c2]
    unfold wX12_table_20
    refine i_in hb inR0 (inRl (by decide)) (fun c3 => ?_) (fun c3 => b_endsN (by omega) (h0 (by omega)))
    refine i_in hc (inRl (by decide)) (inRl (by decide)) (fun c4 => ?_) (fun c4 => b_endsN (by omega) (h0 (by omega)))
    refine i_in hd hc (inRl (by decide)) (fun c5 => ⟨ha, ?_⟩) (fun c5 => b_endsN (by omega) (h0 (by omega)))
    rw [if_neg c2, if_neg c2]
    unfold wX12_table_76
    exact ⟨⟨by omega, by omega⟩, ⟨by omega, by omega⟩, b_endsP (by omega) (h2 (by omega))⟩
theorem op_table (ha : inR a) (hb : inR b) (hc : inR c) (hd : inR d) (hI : Inv M) (hk : ∀ M, Inv M → k M) : Bd (wX11_table a b c d M) (fun r1 M1 => Bd (wX12_table a b c d M1) (fun r2 M2 => inR r1 ∧ inR r2 ∧ r1 = r2 ∧ k M2)) := by
  refine x_table ha hb hc hd (fun c1 => ?_) (fun c1 => ?_) (fun c1 => ?_)
  · refine m_table ha hb hc hd (fun _ => ⟨inR0, inR0, rfl, hk _ ?_⟩) (fun q => absurd q (by omega)) (fun q => absurd (by omega) q)
    refine hI.book (fun c i _ h1 h2 h3 h4 => by repeat (first | rfl | rw [up_ne2 h4] | rw [up_ne2 h3] | rw [up_ne h2] | rw [up_ne (by omega)])) ?_ ⟨rfl, (by decide : (-10 : Int) ≤ 0), (by decide : (0 : Int) ≤ 0)⟩
    obtain ⟨n, t, hbb, ⟨l1, l2⟩, g, cl, o, s⟩ := hI.1
    refine ⟨?_, ?_, ?_, ⟨fun i h0 h1 => ?_, fun i h0 h1 => ?_⟩, ?_, ?_, ?_, ?_⟩
    · exact BkN_keep n rfl rfl rfl rfl (fun i h0 h1 => by repeat (first | rfl | rw [up_ne (by decide)] | rw [up_nei (by omega)]))
    · exact BkT_keep t rfl rfl (fun i h0 h1 => by repeat (first | rfl | rw [up_ne (by decide)] | rw [up_nei (by omega)]))
    · exact BkB_keep hbb (by repeat (first | exact Int.le_refl _ | rw [up_ne (by decide)] | rw [up_nei (by omega)])) n.1.2.2 (fun i _ _ => rfl) (fun i h0 h1 => by repeat (first | rfl | rw [up_ne (by decide)] | rw [up_nei (by omega)]))
    · have := l1 i h0 h1
      by_cases q : i = b
      · subst q
        repeat (first | rw [up_ne (by decide)] | rw [up_nei (by omega)] | rw [up_at, if_pos (by omega)])
        exact ⟨rfl, rfl, by omega, by omega, by omega⟩
      · repeat (first | rw [up_ne (by decide)] | rw [up_nei (by omega)])
        exact this
    · repeat (first | rw [up_ne (by decide)] | rw [up_nei (by omega)])
      exact l2 i h0 h1
    · exact BkG_keep g (by repeat (first | exact Int.le_refl _ | rw [up_ne (by decide)] | rw [up_nei (by omega)])) (by repeat (first | rfl | rw [up_ne (by decide)] | rw [up_nei (by omega)])) n.2.1.2.2 (fun c h1 h2 => by repeat (first | rfl | rw [up_cell (by omega)])) (fun i h0 h1 => by repeat (first | rfl | rw [up_ne (by decide)] | rw [up_nei (by omega)]))
    · exact BkC_keep cl (by repeat (first | exact Int.le_refl _ | rw [up_ne (by decide)] | rw [up_nei (by omega)])) (by repeat (first | rfl | rw [up_ne (by decide)] | rw [up_nei (by omega)])) n.2.2.1.2.2 (fun c h1 h2 => by repeat (first | rfl | rw [up_cell (by omega)])) (fun i h0 h1 => by repeat (first | rfl | rw [up_ne (by decide)] | rw [up_nei (by omega)]))
    · exact BkO_keep o (by repeat (first | exact Int.le_refl _ | rw [up_ne (by decide)] | rw [up_nei (by omega)])) (by repeat (first | rfl | rw [up_ne (by decide)] | rw [up_nei (by omega)])) n.2.2.2.2.2 (fun c h1 h2 => by repeat (first | rfl | rw [up_cell (by omega)])) (fun i h0 h1 => by repeat (first | rfl | rw [up_ne (by decide)] | rw [up_nei (by omega)]))
    · exact BkS_keep s rfl rfl rfl (by repeat (first | exact Int.le_refl _ | rw [up_ne (by decide)] | rw [up_nei (by omega)])) s.2 (fun i h0 h1 => by repeat (first | rfl | rw [up_ne (by decide)] | rw [up_nei (by omega)]))
  · refine m_table ha hb hc hd (fun q => absurd q (by omega)) (fun _ => ⟨inR0, inR0, rfl, hk _ ?_⟩) (fun q => absurd (by omega) q)
    refine hI.book (fun c i _ h1 h2 h3 h4 => by repeat (first | rfl | rw [up_ne2 h4] | rw [up_ne2 h3] | rw [up_ne h2] | rw [up_ne (by omega)])) ?_ ⟨rfl, (by decide : (-10 : Int) ≤ 0), (by decide : (0 : Int) ≤ 0)⟩
    obtain ⟨n, t, hbb, ⟨l1, l2⟩, g, cl, o, s⟩ := hI.1
    refine ⟨?_, ?_, ?_, ⟨fun i h0 h1 => ?_, fun i h0 h1 => ?_⟩, ?_, ?_, ?_, ?_⟩
    · exact BkN_keep n rfl rfl rfl rfl (fun i h0 h1 => by repeat (first | rfl | rw [up_ne (by decide)] | rw [up_nei (by omega)]))
    · exact BkT_keep t rfl rfl (fun i h0 h1 => by repeat (first | rfl | rw [up_ne (by decide)] | rw [up_nei (by omega)]))
    · exact BkB_keep hbb (by repeat (first | exact Int.le_refl _ | rw [up_ne (by decide)] | rw [up_nei (by omega)])) n.1.2.2 (fun i _ _ => rfl) (fun i h0 h1 => by repeat (first | rfl | rw [up_ne (by decide)] | rw [up_nei (by omega)]))
    · repeat (first | rw [up_ne (by decide)] | rw [up_nei (by omega)])
      exact l1 i h0 h1
    · have := l2 i h0 h1
      by_cases q : i = b
      · subst q
        repeat (first | rw [up_ne (by decide)] | rw [up_nei (by omega)] | rw [up_at, if_pos (by omega)])
        exact ⟨rfl, rfl, by omega, by omega, by omega⟩
      · repeat (first | rw [up_ne (by decide)] | rw [up_nei (by omega)])
        exact this
    · exact BkG_keep g (by repeat (first | exact Int.le_refl _ | rw [up_ne (by decide)] | rw [up_nei (by omega)])) (by repeat (first | rfl | rw [up_ne (by decide)] | rw [up_nei (by omega)])) n.2.1.2.2 (fun c h1 h2 => by repeat (first | rfl | rw [up_cell (by omega)])) (fun i h0 h1 => by repeat (first | rfl | rw [up_ne (by decide)] | rw [up_nei (by omega)]))
    · exact BkC_keep cl (by repeat (first | exact Int.le_refl _ | rw [up_ne (by decide)] | rw [up_nei (by omega)])) (by repeat (first | rfl | rw [up_ne (by decide)] | rw [up_nei (by omega)])) n.2.2.1.2.2 (fun c h1 h2 => by repeat (first | rfl | rw [up_cell (by omega)])) (fun i h0 h1 => by repeat (first | rfl | rw [up_ne (by decide)] | rw [up_nei (by omega)]))
    · exact BkO_keep o (by repeat (first | exact Int.le_refl _ | rw [up_ne (by decide)] | rw [up_nei (by omega)])) (by repeat (first | rfl | rw [up_ne (by decide)] | rw [up_nei (by omega)])) n.2.2.2.2.2 (fun c h1 h2 => by repeat (first | rfl | rw [up_cell (by omega)])) (fun i h0 h1 => by repeat (first | rfl | rw [up_ne (by decide)] | rw [up_nei (by omega)]))
    · exact BkS_keep s rfl rfl rfl (by repeat (first | exact Int.le_refl _ | rw [up_ne (by decide)] | rw [up_nei (by omega)])) s.2 (fun i h0 h1 => by repeat (first | rfl | rw [up_ne (by decide)] | rw [up_nei (by omega)]))
  · refine m_table ha hb hc hd (fun q => absurd (by omega) c1) (fun q => absurd (by omega) c1) (fun _ => ⟨(inRl (by decide)), (inRl (by decide)), rfl, hk _ (hI.status (by omega))⟩)
end Ops3
