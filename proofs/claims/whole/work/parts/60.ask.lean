/-! ===== law, of, log ===== -/
theorem Inv.calm {M M' : Mm} (hI : Inv M) (h1 : ∀ c : Nat, c < 72 ∨ 80 < c → M' c = M c) : Inv M' := by
  have hJ := hI
  obtain ⟨-, -, -, -, i5, i6, i7, i8, i9, i10, i11⟩ := hJ
  refine hI.rest (fun c g0 g1 => h1 c (by omega)) (h1 103 (by omega)) (h1 104 (by omega)) (h1 105 (by omega)) ?_ ?_ ?_ ?_ ?_ ?_ ?_
  · rw [h1 0 (by omega), h1 102 (by omega)]; exact i5
  · rw [h1 0 (by omega), h1 102 (by omega)]; exact i6
  · rw [h1 86 (by omega), h1 87 (by omega), h1 102 (by omega), h1 111 (by omega)]; exact i7
  · rw [h1 88 (by omega), h1 89 (by omega), h1 102 (by omega), h1 114 (by omega)]; exact i8
  · rw [h1 90 (by omega), h1 98 (by omega), h1 102 (by omega), h1 122 (by omega)]; exact i9
  · rw [h1 90 (by omega), h1 99 (by omega), h1 102 (by omega), h1 124 (by omega)]; exact i10
  · rw [h1 100 (by omega), h1 101 (by omega), h1 102 (by omega), h1 125 (by omega)]; exact i11
def lawV (B : Int → Int) (a b c : Int) : Int := if (0 ≤ a ∧ a < B 721) ∧ (0 ≤ b ∧ b ≤ 118) ∧ (0 ≤ c ∧ c ≤ 1) ∧ left B a (b + 1) = -1 then byT B a b c else -1000
def ofV (B : Int → Int) (l w : Int) : Int := if (0 ≤ l ∧ l < B 724) ∧ (0 ≤ w ∧ w ≤ 6) then (if w < 2 then B (503 + 9 * l + w) else if w < 4 then rd B l (w - 2) else if w = 6 then B (510 + 9 * l) else B (503 + 9 * l + w)) else -1
section Ask
variable {M : Mm} {k : Mm → Prop} {kk : Int → Mm → Prop} {a b c d e f : Int} {bb : Mm}
theorem m_law (h : BkR bb (M 103)) (ha : inR a) (hb : inR b) (hc : inR c) (hk : kk (lawV (M 103) a b c) M) : Bd (wX12_law a b c M) kk := by
  have n0 := h.1.1
  have hl := left_range (s := a) (d := b + 1) h
  unfold lawV at hk
  apply Bd.of; unfold wX12_law
  refine i_mShip ha (by omega) (fun c1 => ?_) (fun c1 => ?_)
  · refine i_in hb inR0 (inRl (by decide)) (fun c2 => ?_) (fun c2 => ?_)
    · refine i_in hc inR0 inR1 (fun c3 => ?_) (fun c3 => ?_)
      · refine b_left h ha (inRof ⟨by omega, by omega⟩) ⟨inRof ⟨by omega, by omega⟩, ?_⟩
        by_cases q : left (M 103) a (b + 1) = -1
        · rw [if_pos q]
          rw [if_pos ⟨c1, c2, c3, q⟩] at hk
          exact b_byT h ha hb (by omega) hk
        · rw [if_neg q]
          rw [if_neg (fun z => q z.2.2.2)] at hk
          exact hk
      · rw [if_neg (fun z => c3 z.2.2.1)] at hk
        exact hk
    · rw [if_neg (fun z => c2 z.2.1)] at hk
      exact hk
  · rw [if_neg (fun z => c1 z.1)] at hk
    exact hk
theorem lawV_range {B : Int → Int} (h : BkR bb B) : inR (lawV B a b c) := by
  have h2 := byT_range (s := a) (d := b) h
  unfold lawV
  by_cases q : (0 ≤ a ∧ a < B 721) ∧ (0 ≤ b ∧ b ≤ 118) ∧ (0 ≤ c ∧ c ≤ 1) ∧ left B a (b + 1) = -1
  · rw [if_pos q]
    rcases (show c = 0 ∨ c = 1 by omega) with e | e
    · rw [e]; exact inRof ⟨by omega, by omega⟩
    · rw [e]; exact inRof ⟨by omega, by omega⟩
  · rw [if_neg q]; exact (inRl (by decide))
theorem op_law (ha : inR a) (hb : inR b) (hc : inR c) (hI : Inv M) (hk : ∀ M, Inv M → k M) : Bd (wX11_law a b c M) (fun r1 M1 => Bd (wX12_law a b c M1) (fun r2 M2 => inR r1 ∧ inR r2 ∧ r1 = r2 ∧ k M2)) := by
  have hB := hI.1
  have n0 := hB.1.1
  have hr : inR (lawV (M 103) a b c) := lawV_range hB
  have fin : ∀ (M' : Mm) (r : Int), Inv M' → M' 103 = M 103 → r = lawV (M 103) a b c → Bd (wX12_law a b c M') (fun r2 M2 => inR r ∧ inR r2 ∧ r = r2 ∧ k M2) := by
    intro M' r hI' e3 er
    refine m_law (bb := M') hI'.1 ha hb hc ?_
    rw [e3, ← er]
    rw [← er] at hr
    exact ⟨hr, hr, rfl, hk _ hI'⟩
  apply Bd.of; unfold wX11_law
  refine i_isShip ha (by omega) (fun c1 => ?_) (fun c1 => fin M _ hI rfl (by unfold lawV; rw [if_neg (fun z => by omega)]))
  refine i_within hb inR0 (inRl (by decide)) (fun c2 => ?_) (fun c2 => fin M _ hI rfl (by unfold lawV; rw [if_neg (fun z => by omega)]))
  refine i_within hc inR0 inR1 (fun c3 => ?_) (fun c3 => fin M _ hI rfl (by unfold lawV; rw [if_neg (fun z => by omega)]))
  refine b_load hB (by omega) (fun M' k1 k2 k3 k4 => ?_)
  have hI' := hI.calm k1
  have e3 : M' 103 = M 103 := k1 103 (by omega)
  have t1 := k4.1.2 (b + 1) (by omega) (by omega)
  have t0 := k4.1.2 b (by omega) (by omega)
  rw [t1.2.2.2.2.2, t0.2.2.1, t0.2.2.2.1]
  unfold cutD
  by_cases q : left (M 103) a (b + 1) = -1
  · rw [if_pos q]
    refine ⟨⟨by omega, by omega⟩, inR0, ?_⟩
    rw [if_pos rfl]
    refine ⟨hc, ?_⟩
    by_cases q2 : c = 0
    · rw [if_pos q2]
      exact ⟨⟨by omega, by omega⟩, fin M' _ hI' e3 (by unfold lawV; rw [if_pos ⟨by omega, c2, c3, q⟩, q2])⟩
    · rw [if_neg q2]
      exact ⟨⟨by omega, by omega⟩, fin M' _ hI' e3 (by unfold lawV; rw [if_pos ⟨by omega, c2, c3, q⟩, show c = 1 by omega])⟩
  · rw [if_neg q]
    refine ⟨⟨by omega, by omega⟩, inR1, ?_⟩
    rw [if_neg (by decide)]
    exact fin M' _ hI' e3 (by unfold lawV; rw [if_neg (fun z => q z.2.2.2)])
theorem m_of (h : BkR bb (M 103)) (ha : inR a) (hb : inR b) (hk : kk (ofV (M 103) a b) M) : Bd (wX12_of a b M) kk := by
  have n0 := h.1.1
  have n3 := h.1.2.2.2
  unfold ofV at hk
  apply Bd.of; unfold wX12_of
  refine i_mLog ha (by omega) (fun c1 => ?_) (fun c1 => ?_)
  · refine i_in hb inR0 (inRl (by decide)) (fun c2 => ?_) (fun c2 => ?_)
    · rw [if_pos ⟨c1, c2⟩] at hk
      refine ⟨hb, ?_⟩
      by_cases q1 : b < 2
      · rw [if_pos q1]; rw [if_pos q1] at hk
        exact b_logAt (x := 503 + 9 * a + b) (by omega) (by omega) (by omega) hk
      · rw [if_neg q1]; rw [if_neg q1] at hk
        by_cases q2 : b < 4
        · rw [if_pos q2]; rw [if_pos q2] at hk
          exact b_rd h c1 (by omega) hk
        · rw [if_neg q2]; rw [if_neg q2] at hk
          by_cases q3 : b = 6
          · rw [if_pos q3]; rw [if_pos q3] at hk
            exact b_logAt (x := 510 + 9 * a) (by omega) (by omega) (by omega) hk
          · rw [if_neg q3]; rw [if_neg q3] at hk
            exact b_logAt (x := 503 + 9 * a + b) (by omega) (by omega) (by omega) hk
    · rw [if_neg (fun z => c2 z.2)] at hk
      exact hk
  · rw [if_neg (fun z => c1 z.1)] at hk
    exact hk
theorem op_of (ha : inR a) (hb : inR b) (hI : Inv M) (hk : ∀ M, Inv M → k M) : Bd (wX11_of a b M) (fun r1 M1 => Bd (wX12_of a b M1) (fun r2 M2 => inR r1 ∧ inR r2 ∧ r1 = r2 ∧ k M2)) := by
  have hB := hI.1
  have n0 := hB.1.1
  have n3 := hB.1.2.2.2
  have fin : ∀ (M' : Mm) (r : Int), Inv M' → M' 103 = M 103 → r = ofV (M 103) a b → inR r → Bd (wX12_of a b M') (fun r2 M2 => inR r ∧ inR r2 ∧ r = r2 ∧ k M2) := by
    intro M' r hI' e3 er hr
    refine m_of (bb := M') hI'.1 ha hb ?_
    rw [e3, ← er]
    exact ⟨hr, hr, rfl, hk _ hI'⟩
  apply Bd.of; unfold wX11_of
  refine i_isLog ha (by omega) (fun c1 => ?_) (fun c1 => fin M _ hI rfl (by unfold ofV; rw [if_neg (fun z => by omega)]) (inRl (by decide)))
  have hl : 0 ≤ a ∧ a < M 103 724 := by omega
  obtain ⟨⟨e16, -⟩, r1, -⟩ := hB.2.2.2.2.2.2.1 a hl.1 hl.2
  rw [e16]
  refine ⟨⟨by omega, by omega⟩, b_load hB r1 (fun M' k1 k2 k3 k4 => ⟨hb, ?_⟩)⟩
  have hI' := hI.calm k1
  have e3 : M' 103 = M 103 := k1 103 (by omega)
  obtain ⟨⟨f16, f17, f18, f19, f20, f21, f22, f23⟩, r1, r2, r3, r4, r5, r6, r7, r8⟩ := k3.2.2.2.2.2.2.1 a hl.1 hl.2
  obtain ⟨f79, f80⟩ := k4.2.2 a hl.1 hl.2 rfl
  have hb2 := rd_range hB hl
  rw [f16, f17, f79, f80, f20, f21, f23]
  by_cases q0 : b = 0
  · rw [if_pos q0]
    exact fin M' _ hI' e3 (by unfold ofV; rw [if_pos ⟨hl, by omega⟩, if_pos (by omega), q0, show 503 + 9 * a + 0 = 503 + 9 * a by omega]) (inRof ⟨by omega, by omega⟩)
  rw [if_neg q0]
  by_cases q1 : b = 1
  · rw [if_pos q1]
    exact fin M' _ hI' e3 (by unfold ofV; rw [if_pos ⟨hl, by omega⟩, if_pos (by omega), q1, show 503 + 9 * a + 1 = 504 + 9 * a by omega]) (inRof ⟨by omega, by omega⟩)
  rw [if_neg q1]
  by_cases q2 : b = 2
  · rw [if_pos q2]
    exact fin M' _ hI' e3 (by unfold ofV; rw [if_pos ⟨hl, by omega⟩, if_neg (by omega), if_pos (by omega), show b - 2 = 0 by omega]) (inRof ⟨by omega, by omega⟩)
  rw [if_neg q2]
  by_cases q3 : b = 3
  · rw [if_pos q3]
    exact fin M' _ hI' e3 (by unfold ofV; rw [if_pos ⟨hl, by omega⟩, if_neg (by omega), if_pos (by omega), show b - 2 = 1 by omega]) (inRof ⟨by omega, by omega⟩)
  rw [if_neg q3]
  by_cases q4 : b = 4
  · rw [if_pos q4]
    exact fin M' _ hI' e3 (by unfold ofV; rw [if_pos ⟨hl, by omega⟩, if_neg (by omega), if_neg (by omega), if_neg (by omega), q4, show 503 + 9 * a + 4 = 507 + 9 * a by omega]) (inRof ⟨by omega, by omega⟩)
  rw [if_neg q4]
  by_cases q5 : b = 5
  · rw [if_pos q5]
    exact fin M' _ hI' e3 (by unfold ofV; rw [if_pos ⟨hl, by omega⟩, if_neg (by omega), if_neg (by omega), if_neg (by omega), q5, show 503 + 9 * a + 5 = 508 + 9 * a by omega]) (inRof ⟨by omega, by omega⟩)
  rw [if_neg q5]
  by_cases q6 : b = 6
  · rw [if_pos q6]
    have hv : ofV (M 103) a b = M 103 (510 + 9 * a) := by unfold ofV; rw [if_pos ⟨hl, by omega⟩, if_neg (by omega), if_neg (by omega), if_pos q6]
    refine ⟨inRof ⟨by omega, by omega⟩, ?_⟩
    by_cases q7 : M 103 (510 + 9 * a) = 0
    · rw [if_pos q7]
      exact fin M' _ hI' e3 (by omega) inR0
    · rw [if_neg q7]
      exact fin M' _ hI' e3 (by omega) inR1
  · rw [if_neg q6]
    exact fin M' _ hI' e3 (by unfold ofV; rw [if_neg (by omega)]) (inRl (by decide))
end Ask
