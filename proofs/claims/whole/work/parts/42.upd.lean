/-! ===== memory written; parts of the book kept ===== -/
theorem up_ne {M : Mm} {c c' : Nat} {i v j : Int} (h : c' ≠ c) : up M c i v c' j = M c' j := by unfold up; rw [if_neg h]
theorem up_cell {M : Mm} {c c' : Nat} {i v : Int} (h : c' ≠ c) : up M c i v c' = M c' := by unfold up; rw [if_neg h]
theorem up_ne2 {M : Mm} {c c' : Nat} {i v j : Int} (h : (c', j) ≠ (c, i)) : up M c i v c' j = M c' j := by
  unfold up upA
  by_cases hc : c' = c
  · subst hc
    rw [if_pos rfl, if_neg (fun e => h (by rw [e]))]
  · rw [if_neg hc]
theorem up_nei {M : Mm} {c : Nat} {i v j : Int} (h : j ≠ i) : up M c i v c j = M c j := by unfold up upA; rw [if_pos rfl, if_neg h]
theorem up_eq {M : Mm} {c : Nat} {i v : Int} : up M c i v c i = v := by unfold up upA; rw [if_pos rfl, if_pos rfl]
theorem up_at {M : Mm} {c : Nat} {i v j : Int} : up M c i v c j = if j = i then v else M c j := by unfold up upA; rw [if_pos rfl]
section Keep
variable {b b' : Mm} {B B' : Int → Int}
theorem BkB_keep (h : BkB b B) (h1 : B' 721 ≤ B 721) (h3 : B 721 ≤ 3) (hb : ∀ i, 0 ≤ i → i < 3 → b' 2 i = b 2 i) (hB : ∀ i, 0 ≤ i → i < 3 → B' i = B i) : BkB b' B' := by
  intro i h0 hi
  rw [hb i h0 (by omega), hB i h0 (by omega)]
  exact h i h0 (by omega)
theorem BkL_keep (h : BkL b B) (h3 : b' 3 = b 3) (h4 : b' 4 = b 4) (hB : ∀ i, 3 ≤ i → i < 23 → B' i = B i) : BkL b' B' := by
  refine ⟨fun i h0 h1 => ?_, fun i h0 h1 => ?_⟩
  · rw [h3, h4, hB (3 + i) (by omega) (by omega), hB (9 + i) (by omega) (by omega)]; exact h.1 i h0 h1
  · rw [h3, h4, hB (15 + i) (by omega) (by omega), hB (19 + i) (by omega) (by omega)]; exact h.2 i h0 h1
theorem BkG_keep (h : BkG b B) (h1 : B 721 ≤ B' 721) (h2 : B' 722 = B 722) (h60 : B 722 ≤ 60) (hb : ∀ c : Nat, 9 ≤ c → c ≤ 14 → b' c = b c) (hB : ∀ i, 23 ≤ i → i < 383 → B' i = B i) : BkG b' B' := by
  intro i h0 hi
  rw [h2] at hi
  have := h i h0 hi
  rw [hb 9 (by decide) (by decide), hb 10 (by decide) (by decide), hb 11 (by decide) (by decide), hb 12 (by decide) (by decide), hb 13 (by decide) (by decide), hb 14 (by decide) (by decide), hB (23 + 6 * i) (by omega) (by omega), hB (24 + 6 * i) (by omega) (by omega), hB (25 + 6 * i) (by omega) (by omega), hB (26 + 6 * i) (by omega) (by omega), hB (27 + 6 * i) (by omega) (by omega), hB (28 + 6 * i) (by omega) (by omega)]
  refine ⟨this.1, ⟨this.2.1.1, by omega⟩, this.2.2⟩
theorem BkC_keep (h : BkC b B) (h1 : B 721 ≤ B' 721) (h2 : B' 723 = B 723) (h40 : B 723 ≤ 40) (hb : ∀ c : Nat, 5 ≤ c → c ≤ 7 → b' c = b c) (hB : ∀ i, 383 ≤ i → i < 503 → B' i = B i) : BkC b' B' := by
  refine ⟨fun i h0 hi => ?_, fun i j h0 hi hj => ?_⟩
  · rw [h2] at hi
    have := h.1 i h0 hi
    rw [hb 5 (by decide) (by decide), hb 6 (by decide) (by decide), hb 7 (by decide) (by decide), hB (383 + 3 * i) (by omega) (by omega), hB (384 + 3 * i) (by omega) (by omega), hB (385 + 3 * i) (by omega) (by omega)]
    exact ⟨this.1, ⟨this.2.1.1, by omega⟩, this.2.2⟩
  · rw [h2] at hj
    rw [hB (383 + 3 * i) (by omega) (by omega), hB (384 + 3 * i) (by omega) (by omega), hB (383 + 3 * j) (by omega) (by omega), hB (384 + 3 * j) (by omega) (by omega)]
    exact h.2 i j h0 hi hj
theorem BkO_keep (h : BkO b B) (h1 : B 721 ≤ B' 721) (h2 : B' 724 = B 724) (h24 : B 724 ≤ 24) (hb : ∀ c : Nat, 16 ≤ c → c ≤ 23 → b' c = b c) (hB : ∀ i, 503 ≤ i → i < 719 → B' i = B i) : BkO b' B' := by
  intro i h0 hi
  rw [h2] at hi
  have := h i h0 hi
  rw [hb 16 (by decide) (by decide), hb 17 (by decide) (by decide), hb 18 (by decide) (by decide), hb 19 (by decide) (by decide), hb 20 (by decide) (by decide), hb 21 (by decide) (by decide), hb 22 (by decide) (by decide), hb 23 (by decide) (by decide), hB (503 + 9 * i) (by omega) (by omega), hB (504 + 9 * i) (by omega) (by omega), hB (505 + 9 * i) (by omega) (by omega), hB (506 + 9 * i) (by omega) (by omega), hB (507 + 9 * i) (by omega) (by omega), hB (508 + 9 * i) (by omega) (by omega), hB (509 + 9 * i) (by omega) (by omega), hB (510 + 9 * i) (by omega) (by omega)]
  exact ⟨this.1, ⟨this.2.1.1, by omega⟩, this.2.2⟩
end Keep
/-- the invariant behind a change of the book alone -/
theorem Inv.book {M M' : Mm} (hI : Inv M) (hs : ∀ c i, ftb c i = true → ¬ (1 ≤ c ∧ c ≤ 23) → c ≠ 103 → (c, i) ≠ (0, 10) → (c, i) ≠ (102, 0) → M' c i = M c i) (hb : BkR M' (M' 103)) (hst : M' 0 10 = M' 102 0 ∧ -10 ≤ M' 0 10 ∧ M' 0 10 ≤ 0) : Inv M' := by
  obtain ⟨i1, i2, i3, i4, i5, i6, i7, i8, i9, i10, i11⟩ := hI
  have hc : ∀ c : Nat, ftC.contains c = true → ¬ (1 ≤ c ∧ c ≤ 23) → c ≠ 103 → c ≠ 0 → c ≠ 102 → M' c = M c := fun c h1 h2 h3 h4 h5 => funext fun i => hs c i (by unfold ftb; rw [h1]; rfl) h2 h3 (fun e => h4 (congrArg Prod.fst e)) (fun e => h5 (congrArg Prod.fst e))
  have e2 : ∀ c : Nat, 25 ≤ c → c ≤ 70 → M' c = M c := by
    intro c h1 h2
    refine hc c ?_ (by omega) (by omega) (by omega) (by omega)
    have : ∀ c, c < 71 → 25 ≤ c → ftC.contains c = true := by decide
    exact this c (by omega) h1
  refine ⟨hb, ?_, ?_, ?_, hst, ?_, ?_, ?_, ?_, ?_, ?_⟩
  · rw [hc 71 (by decide) (by decide) (by decide) (by decide) (by decide), hc 105 (by decide) (by decide) (by decide) (by decide) (by decide)]; exact i2
  · rw [hc 71 (by decide) (by decide) (by decide) (by decide) (by decide)]
    intro h1
    refine BkR_congr (fun c h1 h2 i _ _ => ?_) (fun i _ _ => by rw [hc 104 (by decide) (by decide) (by decide) (by decide) (by decide)]) (i3 h1)
    show M' (c + 24) i = M (c + 24) i
    rw [e2 (c + 24) (by omega) (by omega)]
  · rw [hc 71 (by decide) (by decide) (by decide) (by decide) (by decide)]
    intro h1
    refine BkR_congr (fun c h1 h2 i _ _ => ?_) (fun i _ _ => by rw [hc 104 (by decide) (by decide) (by decide) (by decide) (by decide)]) (i4 h1)
    show M' (c + 47) i = M (c + 47) i
    rw [e2 (c + 47) (by omega) (by omega)]
  · rw [hs 0 11 (by decide) (by decide) (by decide) (by decide) (by decide), hs 0 12 (by decide) (by decide) (by decide) (by decide) (by decide), hs 102 14 (by decide) (by decide) (by decide) (by decide) (by decide)]; exact i6
  · rw [hs 86 2 (by decide) (by decide) (by decide) (by decide) (by decide), hc 87 (by decide) (by decide) (by decide) (by decide) (by decide), hs 102 17 (by decide) (by decide) (by decide) (by decide) (by decide), hc 111 (by decide) (by decide) (by decide) (by decide) (by decide)]; exact i7
  · rw [hs 88 2 (by decide) (by decide) (by decide) (by decide) (by decide), hc 89 (by decide) (by decide) (by decide) (by decide) (by decide), hs 88 3 (by decide) (by decide) (by decide) (by decide) (by decide), hs 102 25 (by decide) (by decide) (by decide) (by decide) (by decide), hc 114 (by decide) (by decide) (by decide) (by decide) (by decide), hs 102 29 (by decide) (by decide) (by decide) (by decide) (by decide)]; exact i8
  · rw [hs 90 7 (by decide) (by decide) (by decide) (by decide) (by decide), hc 98 (by decide) (by decide) (by decide) (by decide) (by decide), hs 102 38 (by decide) (by decide) (by decide) (by decide) (by decide), hc 122 (by decide) (by decide) (by decide) (by decide) (by decide)]; exact i9
  · rw [hs 90 12 (by decide) (by decide) (by decide) (by decide) (by decide), hc 99 (by decide) (by decide) (by decide) (by decide) (by decide), hs 102 41 (by decide) (by decide) (by decide) (by decide) (by decide), hc 124 (by decide) (by decide) (by decide) (by decide) (by decide)]; exact i10
  · rw [hs 100 1 (by decide) (by decide) (by decide) (by decide) (by decide), hc 101 (by decide) (by decide) (by decide) (by decide) (by decide), hs 102 47 (by decide) (by decide) (by decide) (by decide) (by decide), hc 125 (by decide) (by decide) (by decide) (by decide) (by decide)]; exact i11
/-- a refusal, or its end, on both sides -/
theorem Inv.status {M : Mm} (hI : Inv M) {x : Int} (hx : -10 ≤ x ∧ x ≤ 0) : Inv (up (up M 0 10 x) 102 0 x) := by
  refine hI.book (fun c i _ _ _ h3 h4 => by rw [up_ne2 h4, up_ne2 h3]) ?_ ⟨rfl, hx.1, hx.2⟩
  exact BkR_congr (fun c h1 h2 i _ _ => by rw [up_ne (by omega), up_ne (by omega)]) (fun i _ _ => rfl) hI.1
/-- what an op must do: both answer alike, and the invariant holds behind -/
def opk (k : Mm → Prop) (r1 r2 : Int) (M2 : Mm) : Prop := inR r1 ∧ inR r2 ∧ r1 = r2 ∧ k M2
section Ops1
variable {M : Mm} {k : Mm → Prop}
theorem op_status (hI : Inv M) (hk : ∀ M, Inv M → k M) : Bd (wX11_status M) (fun r1 M1 => Bd (wX12_status M1) (fun r2 M2 => inR r1 ∧ inR r2 ∧ r1 = r2 ∧ k M2)) := by
  apply Bd.of
  unfold wX11_status
  apply Bd.of
  unfold wX12_status
  obtain ⟨h1, h2, h3⟩ := hI.2.2.2.2.1
  exact ⟨inRof ⟨by omega, by omega⟩, inRof ⟨by omega, by omega⟩, h1, hk M hI⟩
theorem x_terms {a b : Int} (ha : inR a) (hb : inR b) {k : Int → Mm → Prop} (h1 : (0 ≤ a ∧ a ≤ 1000) ∧ (0 ≤ b ∧ b ≤ 100000) → k 0 (up (up (up M 1 2 a) 1 3 b) 0 10 0)) (h0 : ¬ ((0 ≤ a ∧ a ≤ 1000) ∧ (0 ≤ b ∧ b ≤ 100000)) → k (-1) (up M 0 10 (-1))) : Bd (wX11_terms a b M) k := by
  apply Bd.of
  unfold wX11_terms
  refine i_within ha inR0 (inRl (by decide)) (fun c1 => ?_) (fun c1 => b_refuse (h0 (by omega)))
  refine i_within hb inR0 (inRl (by decide)) (fun c2 => ?_) (fun c2 => b_refuse (h0 (by omega)))
  exact b_accept (h1 ⟨c1, c2⟩)
theorem m_terms {a b : Int} (ha : inR a) (hb : inR b) {k : Int → Mm → Prop} (h1 : (0 ≤ a ∧ a ≤ 1000) ∧ (0 ≤ b ∧ b ≤ 100000) → k 0 (up (up (up M 103 719 a) 103 720 b) 102 0 0)) (h0 : ¬ ((0 ≤ a ∧ a ≤ 1000) ∧ (0 ≤ b ∧ b ≤ 100000)) → k (-1) (up M 102 0 (-1))) : Bd (wX12_terms a b M) k := by
  apply Bd.of
  unfold wX12_terms
  refine i_in ha inR0 (inRl (by decide)) (fun c1 => ?_) (fun c1 => b_endsN (by omega) (h0 (by omega)))
  refine i_in hb inR0 (inRl (by decide)) (fun c2 => ?_) (fun c2 => b_endsN (by omega) (h0 (by omega)))
  exact b_endsP (by omega) (h1 ⟨c1, c2⟩)
theorem op_terms {a b : Int} (ha : inR a) (hb : inR b) (hI : Inv M) (hk : ∀ M, Inv M → k M) : Bd (wX11_terms a b M) (fun r1 M1 => Bd (wX12_terms a b M1) (fun r2 M2 => inR r1 ∧ inR r2 ∧ r1 = r2 ∧ k M2)) := by
  refine x_terms ha hb (fun c => ?_) (fun c => ?_)
  · refine m_terms ha hb (fun _ => ⟨inR0, inR0, rfl, hk _ ?_⟩) (fun c' => absurd c c')
    refine hI.book (fun c i _ h1 h2 h3 h4 => by rw [up_ne2 h4, up_ne h2, up_ne h2, up_ne2 h3, up_ne (by omega), up_ne (by omega)]) ?_ ⟨rfl, (by decide : (-10 : Int) ≤ 0), (by decide : (0 : Int) ≤ 0)⟩
    obtain ⟨n, t, hbb, l, g, cl, o, s⟩ := hI.1
    refine ⟨n, ⟨⟨rfl, c.1⟩, ⟨rfl, c.2⟩⟩, ?_, ?_, ?_, ?_, ?_, s⟩
    · exact BkB_keep hbb (Int.le_refl _) n.1.2.2 (fun i _ _ => rfl) (fun i h0 h1 => by rw [up_ne (by decide), up_nei (by omega), up_nei (by omega)]; rfl)
    · exact BkL_keep l rfl rfl (fun i h0 h1 => by rw [up_ne (by decide), up_nei (by omega), up_nei (by omega)]; rfl)
    · exact BkG_keep g (Int.le_refl _) rfl n.2.1.2.2 (fun c h1 h2 => by rw [up_cell (by omega), up_cell (by omega), up_cell (by omega), up_cell (by omega), up_cell (by omega), up_cell (by omega)]) (fun i h0 h1 => by rw [up_ne (by decide), up_nei (by omega), up_nei (by omega)]; rfl)
    · exact BkC_keep cl (Int.le_refl _) rfl n.2.2.1.2.2 (fun c h1 h2 => by rw [up_cell (by omega), up_cell (by omega), up_cell (by omega), up_cell (by omega), up_cell (by omega), up_cell (by omega)]) (fun i h0 h1 => by rw [up_ne (by decide), up_nei (by omega), up_nei (by omega)]; rfl)
    · exact BkO_keep o (Int.le_refl _) rfl n.2.2.2.2.2 (fun c h1 h2 => by rw [up_cell (by omega), up_cell (by omega), up_cell (by omega), up_cell (by omega), up_cell (by omega), up_cell (by omega)]) (fun i h0 h1 => by rw [up_ne (by decide), up_nei (by omega), up_nei (by omega)]; rfl)
  · refine m_terms ha hb (fun c' => absurd c' c) (fun _ => ⟨inRl (by decide), inRl (by decide), rfl, hk _ (hI.status (by omega))⟩)
end Ops1
