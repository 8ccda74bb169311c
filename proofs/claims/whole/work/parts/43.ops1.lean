/-! ===== ops without a search ===== -/
/-- the invariant where the book and its images stay as they are -/
theorem Inv.rest {M M' : Mm} (hI : Inv M) (hb : ∀ c : Nat, 1 ≤ c → c ≤ 71 → M' c = M c) (h3 : M' 103 = M 103) (h4 : M' 104 = M 104) (h5 : M' 105 = M 105) (s : M' 0 10 = M' 102 0 ∧ -10 ≤ M' 0 10 ∧ M' 0 10 ≤ 0) (r : IvR (M' 0 11) (M' 0 12) (M' 102 14)) (p : IvP (M' 86 2) (M' 87) (M' 102 17) (M' 111)) (t : IvT (M' 88 2) (M' 89) (M' 88 3) (M' 102 25) (M' 114) (M' 102 29)) (c : IvC (M' 90 7) (M' 98) (M' 102 38) (M' 122)) (h : IvH (M' 90 12) (M' 99) (M' 102 41) (M' 124)) (k : IvK (M' 100 1) (M' 101) (M' 102 47) (M' 125)) : Inv M' := by
  obtain ⟨i1, i2, i3, i4, -⟩ := hI
  refine ⟨?_, ?_, ?_, ?_, s, r, p, t, c, h, k⟩
  · exact BkR_congr (fun c h1 h2 i _ _ => by rw [hb c h1 (by omega)]) (fun i _ _ => by rw [h3]) i1
  · rw [hb 71 (by decide) (by decide), h5]; exact i2
  · rw [hb 71 (by decide) (by decide)]
    intro q
    exact BkR_congr (fun c h1 h2 i _ _ => by show M' (c + 24) i = M (c + 24) i; rw [hb (c + 24) (by omega) (by omega)]) (fun i _ _ => by rw [h4]) (i3 q)
  · rw [hb 71 (by decide) (by decide)]
    intro q
    exact BkR_congr (fun c h1 h2 i _ _ => by show M' (c + 47) i = M (c + 47) i; rw [hb (c + 47) (by omega) (by omega)]) (fun i _ _ => by rw [h4]) (i4 q)
section Ops2
variable {M : Mm} {k : Mm → Prop} {a b c d e f : Int}
theorem op_count (ha : inR a) (hI : Inv M) (hk : ∀ M, Inv M → k M) : Bd (wX11_count a M) (fun r1 M1 => Bd (wX12_count a M1) (fun r2 M2 => inR r1 ∧ inR r2 ∧ r1 = r2 ∧ k M2)) := by
  have hI' := hI
  obtain ⟨⟨⟨n1, n2, n3, n4⟩, -⟩, -, -, -, -, -, ⟨p1, p2, -⟩, ⟨t1, -⟩, -, -, ⟨k1, -⟩⟩ := hI'
  have hkM := hk M hI
  apply Bd.of
  unfold wX11_count
  refine ⟨ha, ?_⟩
  have key : ∀ x : Int, (0 ≤ x ∧ x ≤ 2000) → ∀ y : Int, y = x → inR x ∧ inR y ∧ x = y ∧ k M := fun x hx y hy => ⟨inRof ⟨by omega, by omega⟩, inRof ⟨by omega, by omega⟩, hy.symm, hkM⟩
  by_cases c0 : a = 0
  · rw [if_pos c0]
    apply Bd.of; unfold wX12_count
    refine ⟨ha, ?_⟩
    rw [if_neg (by omega), if_neg (by omega), if_neg (by omega)]
    refine i_in ha inR0 (inRl (by decide)) (fun _ => ?_) (fun q => absurd (by omega) q)
    refine b_many (by omega) ?_
    subst c0
    exact key _ (by omega) _ n1.1.symm
  rw [if_neg c0]
  by_cases c1 : a = 1
  · rw [if_pos c1]
    apply Bd.of; unfold wX12_count
    refine ⟨ha, ?_⟩
    rw [if_neg (by omega), if_neg (by omega), if_neg (by omega)]
    refine i_in ha inR0 (inRl (by decide)) (fun _ => ?_) (fun q => absurd (by omega) q)
    refine b_many (by omega) ?_
    subst c1
    exact key _ (by omega) _ n2.1.symm
  rw [if_neg c1]
  by_cases c2 : a = 2
  · rw [if_pos c2]
    apply Bd.of; unfold wX12_count
    refine ⟨ha, ?_⟩
    rw [if_neg (by omega), if_neg (by omega), if_neg (by omega)]
    refine i_in ha inR0 (inRl (by decide)) (fun _ => ?_) (fun q => absurd (by omega) q)
    refine b_many (by omega) ?_
    subst c2
    exact key _ (by omega) _ n3.1.symm
  rw [if_neg c2]
  by_cases c3 : a = 3
  · rw [if_pos c3]
    apply Bd.of; unfold wX12_count
    refine ⟨ha, ?_⟩
    rw [if_neg (by omega), if_neg (by omega), if_neg (by omega)]
    refine i_in ha inR0 (inRl (by decide)) (fun _ => ?_) (fun q => absurd (by omega) q)
    refine b_many (by omega) ?_
    subst c3
    exact key _ (by omega) _ n4.1.symm
  rw [if_neg c3]
  by_cases c4 : a = 4
  · rw [if_pos c4]
    apply Bd.of; unfold wX12_count
    refine ⟨ha, ?_⟩
    rw [if_pos c4]
    exact key _ (by omega) _ k1.2.2
  rw [if_neg c4]
  by_cases c5 : a = 5
  · rw [if_pos c5]
    apply Bd.of; unfold wX12_count
    refine ⟨ha, ?_⟩
    rw [if_neg c4, if_pos c5]
    exact key _ (by omega) _ t1.2.2
  rw [if_neg c5]
  by_cases c6 : a = 6
  · rw [if_pos c6]
    apply Bd.of; unfold wX12_count
    refine ⟨ha, ?_⟩
    rw [if_neg c4, if_neg c5, if_pos c6]
    refine ⟨inRof ⟨by omega, by omega⟩, ?_⟩
    by_cases q : M 102 17 = -1
    · rw [if_pos q]
      exact key _ (by omega) _ (by omega)
    · rw [if_neg q]
      exact key _ (by omega) _ (by omega)
  rw [if_neg c6]
  apply Bd.of; unfold wX12_count
  refine ⟨ha, ?_⟩
  rw [if_neg c4, if_neg c5, if_neg c6]
  refine i_in ha inR0 (inRl (by decide)) (fun q => absurd q (by omega)) (fun _ => ⟨(inRl (by decide)), (inRl (by decide)), rfl, hkM⟩)
theorem op_fault (hI : Inv M) (hk : ∀ M, Inv M → k M) : Bd (wX11_fault M) (fun r1 M1 => Bd (wX12_fault M1) (fun r2 M2 => inR r1 ∧ inR r2 ∧ r1 = r2 ∧ k M2)) := by
  have hkM := hk M hI
  obtain ⟨-, -, -, -, -, -, -, ⟨-, f1, -⟩, -⟩ := hI
  apply Bd.of; unfold wX11_fault
  apply Bd.of; unfold wX12_fault
  exact ⟨inRof ⟨by omega, by omega⟩, inRof ⟨by omega, by omega⟩, f1.1, hkM⟩
theorem op_isRight (ha : inR a) (hI : Inv M) (hk : ∀ M, Inv M → k M) : Bd (wX11_isRight a M) (fun r1 M1 => Bd (wX12_isRight a M1) (fun r2 M2 => inR r1 ∧ inR r2 ∧ r1 = r2 ∧ k M2)) := by
  have hkM := hk M hI
  obtain ⟨⟨⟨n1, n2, n3, n4⟩, -⟩, -, -, -, -, hr, -⟩ := hI
  apply Bd.of; unfold wX11_isRight
  refine ⟨by rcases hr with ⟨h, -⟩ | ⟨h, -⟩ <;> rw [h] <;> exact (inRl (by decide)), ?_⟩
  by_cases c : M 0 12 = 0
  · rw [if_pos c]
    apply Bd.of; unfold wX12_isRight
    have h2 : M 102 14 = -1 := by rcases hr with ⟨-, h⟩ | ⟨h, -⟩ <;> omega
    rw [if_pos h2, h2]
    exact ⟨(inRl (by decide)), (inRl (by decide)), (inRl (by decide)), rfl, hkM⟩
  · rw [if_neg c]
    have h2 : M 102 14 = M 0 11 ∧ 0 ≤ M 0 11 ∧ M 0 11 < 16777216 := by rcases hr with ⟨h, -⟩ | ⟨-, h⟩; exact absurd h c; exact h
    refine i_isLog ha (by omega) (fun c1 => ?_) (fun c1 => ?_)
    · apply Bd.of; unfold wX12_isRight
      refine ⟨inRof ⟨by omega, by omega⟩, ?_⟩
      rw [if_neg (by omega)]
      refine i_mLog ha (by omega) (fun _ => ⟨inR_land _ _, inR_land _ _, by rw [h2.1], hkM⟩) (fun q => absurd (by omega) q)
    · apply Bd.of; unfold wX12_isRight
      refine ⟨inRof ⟨by omega, by omega⟩, ?_⟩
      rw [if_neg (by omega)]
      refine i_mLog ha (by omega) (fun q => absurd (by omega) c1) (fun _ => ⟨(inRl (by decide)), (inRl (by decide)), rfl, hkM⟩)
theorem op_proof (ha : inR a) (hI : Inv M) (hk : ∀ M, Inv M → k M) : Bd (wX11_proof a M) (fun r1 M1 => Bd (wX12_proof a M1) (fun r2 M2 => inR r1 ∧ inR r2 ∧ r1 = r2 ∧ k M2)) := by
  have hkM := hk M hI
  obtain ⟨-, -, -, -, -, -, ⟨p1, p2, p3⟩, -⟩ := hI
  apply Bd.of; unfold wX11_proof
  refine i_within ha inR0 (inRof ⟨by omega, by omega⟩) (fun c1 => ⟨⟨by omega, by omega⟩, ?_⟩) (fun c1 => ?_)
  · have h := p3 a (by omega) (by omega)
    apply Bd.of; unfold wX12_proof
    refine i_in ha inR0 (inRof ⟨by omega, by omega⟩) (fun _ => ⟨⟨by omega, by omega⟩, inRof ⟨by omega, by omega⟩, inRof ⟨by omega, by omega⟩, h.1, hkM⟩) (fun q => absurd (by omega) q)
  · apply Bd.of; unfold wX12_proof
    refine i_in ha inR0 (inRof ⟨by omega, by omega⟩) (fun q => absurd (by omega) c1) (fun _ => ⟨(inRl (by decide)), (inRl (by decide)), rfl, hkM⟩)
theorem op_curve (ha : inR a) (hI : Inv M) (hk : ∀ M, Inv M → k M) : Bd (wX11_curve a M) (fun r1 M1 => Bd (wX12_curve a M1) (fun r2 M2 => inR r1 ∧ inR r2 ∧ r1 = r2 ∧ k M2)) := by
  have hkM := hk M hI
  obtain ⟨-, -, -, -, -, -, -, -, ⟨p1, p2, p3⟩, -⟩ := hI
  apply Bd.of; unfold wX11_curve
  refine ⟨inRof ⟨by omega, by omega⟩, ?_⟩
  by_cases c : M 90 7 = 0
  · rw [if_pos c]
    apply Bd.of; unfold wX12_curve
    refine ⟨inRof ⟨by omega, by omega⟩, ?_⟩
    rw [if_pos (by omega)]
    exact ⟨(inRl (by decide)), (inRl (by decide)), rfl, hkM⟩
  · rw [if_neg c]
    have p3 := p3 (by omega)
    refine i_isDay ha (fun c1 => ⟨⟨by omega, by omega⟩, ?_⟩) (fun c1 => ?_)
    · have h := p3 a (by omega) (by omega)
      apply Bd.of; unfold wX12_curve
      refine ⟨inRof ⟨by omega, by omega⟩, ?_⟩
      rw [if_neg (by omega)]
      refine i_mDay ha (fun _ => ⟨⟨by omega, by omega⟩, h.2, by rw [← h.1]; exact h.2, h.1, hkM⟩) (fun q => absurd c1 q)
    · apply Bd.of; unfold wX12_curve
      refine ⟨inRof ⟨by omega, by omega⟩, ?_⟩
      rw [if_neg (by omega)]
      refine i_mDay ha (fun q => absurd q c1) (fun _ => ⟨(inRl (by decide)), (inRl (by decide)), rfl, hkM⟩)
theorem op_hid (ha : inR a) (hI : Inv M) (hk : ∀ M, Inv M → k M) : Bd (wX11_hid a M) (fun r1 M1 => Bd (wX12_hid a M1) (fun r2 M2 => inR r1 ∧ inR r2 ∧ r1 = r2 ∧ k M2)) := by
  have hkM := hk M hI
  obtain ⟨-, -, -, -, -, -, -, -, -, ⟨p1, p2, p3⟩, -⟩ := hI
  apply Bd.of; unfold wX11_hid
  refine i_within ha inR0 (inRof ⟨by omega, by omega⟩) (fun c1 => ⟨⟨by omega, by omega⟩, ?_⟩) (fun c1 => ?_)
  · have h := p3 a (by omega) (by omega)
    apply Bd.of; unfold wX12_hid
    refine i_in ha inR0 (inRof ⟨by omega, by omega⟩) (fun _ => ⟨⟨by omega, by omega⟩, h.2, by rw [← h.1]; exact h.2, h.1, hkM⟩) (fun q => absurd (by omega) q)
  · apply Bd.of; unfold wX12_hid
    refine i_in ha inR0 (inRof ⟨by omega, by omega⟩) (fun q => absurd (by omega) c1) (fun _ => ⟨(inRl (by decide)), (inRl (by decide)), rfl, hkM⟩)
theorem op_end (ha : inR a) (hI : Inv M) (hk : ∀ M, Inv M → k M) : Bd (wX11_end a M) (fun r1 M1 => Bd (wX12_end a M1) (fun r2 M2 => inR r1 ∧ inR r2 ∧ r1 = r2 ∧ k M2)) := by
  have hI' := hI
  obtain ⟨-, -, -, -, s, r, p, ⟨t1, t2, t3⟩, c, h, kk⟩ := hI'
  apply Bd.of; unfold wX11_end
  refine i_within ha inR0 (inRof ⟨by omega, by omega⟩) (fun c1 => ?_) (fun c1 => ?_)
  · apply Bd.of; unfold wX12_end
    show Bd (wX12_in a 0 (M 102 25) (up M 88 2 a)) _
    refine i_in ha inR0 (inRof ⟨by omega, by omega⟩) (fun _ => ⟨ha, ha, rfl, hk _ ?_⟩) (fun q => absurd (by omega) q)
    exact hI.rest (fun c h1 h2 => by rw [up_cell (by omega), up_cell (by omega)]) rfl rfl rfl s r p ⟨⟨c1.1, by show a ≤ 400; omega, rfl⟩, t2, fun i h0 h1 => t3 i h0 (by have : i < a := h1; omega)⟩ c h kk
  · apply Bd.of; unfold wX12_end
    refine i_in ha inR0 (inRof ⟨by omega, by omega⟩) (fun q => absurd (by omega) c1) (fun _ => ⟨(inRl (by decide)), (inRl (by decide)), rfl, hk M hI⟩)
end Ops2
