/-! ===== leave, alter, a log more ===== -/
section Ops5
variable {M : Mm} {k : Mm → Prop} {a b c d e f : Int}
theorem x_leave (ha : inR a) (hb : inR b) (hs : 0 ≤ M 15 0 ∧ M 15 0 ≤ 24) {k : Int → Mm → Prop} (h1 : (b = 0 ∨ b = 1) → (0 ≤ a ∧ a < M 15 0) → k 0 (up (up M 23 a b) 0 10 0)) (h2 : ¬ (b = 0 ∨ b = 1) → k (-1) (up M 0 10 (-1))) (h3 : (b = 0 ∨ b = 1) → ¬ (0 ≤ a ∧ a < M 15 0) → k (-2) (up M 0 10 (-2))) : Bd (wX11_leave a b M) k := by
  apply Bd.of; unfold wX11_leave
  refine i_within hb inR0 (inRl (by decide)) (fun c1 => ?_) (fun c1 => b_refuse (h2 (by omega)))
  refine i_isLog ha hs (fun c2 => ⟨hb, ?_⟩) (fun c2 => b_refuse (h3 (by omega) c2))
  by_cases q : b = 1
  · rw [if_pos q]
    refine ⟨⟨by omega, by omega⟩, b_accept ?_⟩
    have := h1 (by omega) c2
    rw [q] at this
    exact this
  · rw [if_neg q]
    refine ⟨⟨by omega, by omega⟩, b_accept ?_⟩
    have := h1 (by omega) c2
    rw [show b = 0 by omega] at this
    exact this
theorem m_leave (ha : inR a) (hb : inR b) (hs : 0 ≤ M 103 724 ∧ M 103 724 ≤ 24) {k : Int → Mm → Prop} (h1 : (b = 0 ∨ b = 1) → (0 ≤ a ∧ a < M 103 724) → k 0 (up (up M 103 (503 + 9 * a + 7) b) 102 0 0)) (h2 : ¬ (b = 0 ∨ b = 1) → k (-1) (up M 102 0 (-1))) (h3 : (b = 0 ∨ b = 1) → ¬ (0 ≤ a ∧ a < M 103 724) → k (-2) (up M 102 0 (-2))) : Bd (wX12_leave a b M) k := by
  apply Bd.of; unfold wX12_leave
  refine i_in hb inR0 (inRl (by decide)) (fun c1 => ?_) (fun c1 => b_endsN (by omega) (h2 (by omega)))
  refine i_mLog ha hs (fun c2 => ⟨⟨by omega, by omega⟩, b_endsP (by omega) (h1 (by omega) c2)⟩) (fun c2 => b_endsN (by omega) (h3 (by omega) c2))
theorem op_leave (ha : inR a) (hb : inR b) (hI : Inv M) (hk : ∀ M, Inv M → k M) : Bd (wX11_leave a b M) (fun r1 M1 => Bd (wX12_leave a b M1) (fun r2 M2 => inR r1 ∧ inR r2 ∧ r1 = r2 ∧ k M2)) := by
  obtain ⟨n, t, hbb, l, g, cl, o, s⟩ := hI.1
  have n3 := n.2.2.2
  refine x_leave ha hb (by omega) (fun c1 c2 => ?_) (fun c1 => ?_) (fun c1 c2 => ?_)
  · refine m_leave ha hb (by exact n3.2) (fun _ _ => ⟨inR0, inR0, rfl, hk _ ?_⟩) (fun q => absurd c1 q) (fun _ q => absurd (by show 0 ≤ a ∧ a < M 103 724; omega) q)
    refine hI.book (fun c i _ h1 h2 h3 h4 => by repeat (first | rfl | rw [up_ne2 h4] | rw [up_ne2 h3] | rw [up_ne h2] | rw [up_ne (by omega)])) ?_ ⟨rfl, (by decide : (-10 : Int) ≤ 0), (by decide : (0 : Int) ≤ 0)⟩
    refine ⟨?_, ?_, ?_, ?_, ?_, ?_, fun i h0 h1 => ?_, ?_⟩
    · exact BkN_keep n rfl rfl rfl rfl (fun i h0 h1 => by repeat (first | rfl | rw [up_ne (by decide)] | rw [up_nei (by omega)]))
    · exact BkT_keep t rfl rfl (fun i h0 h1 => by repeat (first | rfl | rw [up_ne (by decide)] | rw [up_nei (by omega)]))
    · exact BkB_keep hbb (by repeat (first | exact Int.le_refl _ | rw [up_ne (by decide)] | rw [up_nei (by omega)])) n.1.2.2 (fun i _ _ => rfl) (fun i h0 h1 => by repeat (first | rfl | rw [up_ne (by decide)] | rw [up_nei (by omega)]))
    · exact BkL_keep l rfl rfl (fun i h0 h1 => by repeat (first | rfl | rw [up_ne (by decide)] | rw [up_nei (by omega)]))
    · exact BkG_keep g (by repeat (first | exact Int.le_refl _ | rw [up_ne (by decide)] | rw [up_nei (by omega)])) (by repeat (first | rfl | rw [up_ne (by decide)] | rw [up_nei (by omega)])) n.2.1.2.2 (fun c h1 h2 => by repeat (first | rfl | rw [up_cell (by omega)])) (fun i h0 h1 => by repeat (first | rfl | rw [up_ne (by decide)] | rw [up_nei (by omega)]))
    · exact BkC_keep cl (by repeat (first | exact Int.le_refl _ | rw [up_ne (by decide)] | rw [up_nei (by omega)])) (by repeat (first | rfl | rw [up_ne (by decide)] | rw [up_nei (by omega)])) n.2.2.1.2.2 (fun c h1 h2 => by repeat (first | rfl | rw [up_cell (by omega)])) (fun i h0 h1 => by repeat (first | rfl | rw [up_ne (by decide)] | rw [up_nei (by omega)]))
    · have h1 : i < M 103 724 := by
        have e : up (up (up (up M 23 a b) 0 10 0) 103 (503 + 9 * a + 7) b) 102 0 0 103 724 = M 103 724 := (by repeat (first | rfl | rw [up_ne (by decide)] | rw [up_nei (by omega)]))
        rw [e] at h1
        exact h1
      have := o i h0 h1
      by_cases q : i = a
      · subst q
        repeat (first | rw [up_ne (by decide)] | rw [up_nei (by omega)] | rw [up_at, if_pos (by omega)])
        obtain ⟨⟨e1, e2, e3, e4, e5, e6, e7, e8⟩, r1, r2, r3, r4, r5, r6, r7, r8⟩ := this
        exact ⟨⟨e1, e2, e3, e4, e5, e6, e7, rfl⟩, r1, r2, r3, r4, r5, r6, r7, c1⟩
      · repeat (first | rw [up_ne (by decide)] | rw [up_nei (by omega)])
        exact this
    · refine BkS_keep s rfl rfl rfl (by repeat (first | exact Int.le_refl _ | rw [up_ne (by decide)] | rw [up_nei (by omega)])) (fun i h0 h1 => ⟨(s.2 i h0 h1).1, ?_⟩) (fun i h0 h1 => by repeat (first | rfl | rw [up_ne (by decide)] | rw [up_nei (by omega)]))
      by_cases q : i = a
      · subst q
        repeat (first | rw [up_ne (by decide)] | rw [up_nei (by omega)] | rw [up_at, if_pos (by omega)])
        exact c1
      · repeat (first | rw [up_ne (by decide)] | rw [up_nei (by omega)])
        exact (s.2 i h0 h1).2
  · exact m_leave ha hb (by exact n3.2) (fun q => absurd q c1) (fun _ => ⟨(inRl (by decide)), (inRl (by decide)), rfl, hk _ (hI.status (by omega))⟩) (fun q => absurd q c1)
  · exact m_leave ha hb (by exact n3.2) (fun _ q => absurd (by have q : 0 ≤ a ∧ a < M 103 724 := q; omega) c2) (fun q => absurd c1 q) (fun _ _ => ⟨(inRl (by decide)), (inRl (by decide)), rfl, hk _ (hI.status (by omega))⟩)
theorem x_alter (ha : inR a) (hb : inR b) (hs : 0 ≤ M 15 0 ∧ M 15 0 ≤ 24) {k : Int → Mm → Prop} (h1 : (1 ≤ b ∧ b ≤ 255) → (0 ≤ a ∧ a < M 15 0) → k (lxorI (M 18 a) b) (up (up M 18 a (lxorI (M 18 a) b)) 0 10 0)) (h2 : ¬ (1 ≤ b ∧ b ≤ 255) → k (-1) (up M 0 10 (-1))) (h3 : (1 ≤ b ∧ b ≤ 255) → ¬ (0 ≤ a ∧ a < M 15 0) → k (-2) (up M 0 10 (-2))) : Bd (wX11_alter a b M) k := by
  apply Bd.of; unfold wX11_alter
  refine i_within hb inR1 (inRl (by decide)) (fun c1 => ?_) (fun c1 => b_refuse (h2 c1))
  refine i_isLog ha hs (fun c2 => ⟨⟨by omega, by omega⟩, ?_⟩) (fun c2 => b_refuse (h3 c1 c2))
  rw [up_eq]
  exact b_accept (h1 c1 c2)
theorem m_alter (ha : inR a) (hb : inR b) (hs : 0 ≤ M 103 724 ∧ M 103 724 ≤ 24) {k : Int → Mm → Prop} (h1 : (1 ≤ b ∧ b ≤ 255) → (0 ≤ a ∧ a < M 103 724) → k (lxorI (M 103 (505 + 9 * a)) b) (up (up M 103 (505 + 9 * a) (lxorI (M 103 (505 + 9 * a)) b)) 102 0 0)) (h2 : ¬ (1 ≤ b ∧ b ≤ 255) → k (-1) (up M 102 0 (-1))) (h3 : (1 ≤ b ∧ b ≤ 255) → ¬ (0 ≤ a ∧ a < M 103 724) → k (-2) (up M 102 0 (-2))) : Bd (wX12_alter a b M) k := by
  apply Bd.of; unfold wX12_alter
  refine i_in hb inR1 (inRl (by decide)) (fun c1 => ?_) (fun c1 => b_endsN (by omega) (h2 c1))
  refine i_mLog ha hs (fun c2 => ?_) (fun c2 => b_endsN (by omega) (h3 c1 c2))
  rw [show (503 : Int) + 9 * a + 2 = 505 + 9 * a by omega]
  refine ⟨⟨by omega, by omega⟩, b_logAt (x := 505 + 9 * a) (by omega) (by omega) (by omega) ?_⟩
  rw [up_ne (by decide), up_eq]
  exact h1 c1 c2
theorem op_alter (ha : inR a) (hb : inR b) (hI : Inv M) (hk : ∀ M, Inv M → k M) : Bd (wX11_alter a b M) (fun r1 M1 => Bd (wX12_alter a b M1) (fun r2 M2 => inR r1 ∧ inR r2 ∧ r1 = r2 ∧ k M2)) := by
  obtain ⟨n, t, hbb, l, g, cl, o, s⟩ := hI.1
  have n3 := n.2.2.2
  refine x_alter ha hb (by omega) (fun c1 c2 => ?_) (fun c1 => ?_) (fun c1 c2 => ?_)
  · obtain ⟨⟨e1, e2, e3, e4, e5, e6, e7, e8⟩, r1, r2, r3, r4, r5, r6, r7, r8⟩ := o a c2.1 (by omega)
    have hx := lxor_range r3 (show 0 ≤ b ∧ b ≤ 255 by omega)
    rw [e3]
    generalize hX : lxorI (M 103 (505 + 9 * a)) b = X at *
    refine m_alter ha hb (by exact n3.2) (fun _ _ => ?_) (fun q => absurd c1 q) (fun _ q => absurd (by show 0 ≤ a ∧ a < M 103 724; omega) q)
    have e9 : up (up M 18 a X) 0 10 0 103 (505 + 9 * a) = M 103 (505 + 9 * a) := rfl
    rw [e9, hX]
    refine ⟨inRof ⟨by omega, by omega⟩, inRof ⟨by omega, by omega⟩, rfl, hk _ ?_⟩
    refine hI.book (fun c i _ h1 h2 h3 h4 => by repeat (first | rfl | rw [up_ne2 h4] | rw [up_ne2 h3] | rw [up_ne h2] | rw [up_ne (by omega)])) ?_ ⟨rfl, (by decide : (-10 : Int) ≤ 0), (by decide : (0 : Int) ≤ 0)⟩
    refine ⟨?_, ?_, ?_, ?_, ?_, ?_, fun i h0 h1 => ?_, ?_⟩
    · exact BkN_keep n rfl rfl rfl rfl (fun i h0 h1 => by repeat (first | rfl | rw [up_ne (by decide)] | rw [up_nei (by omega)]))
    · exact BkT_keep t rfl rfl (fun i h0 h1 => by repeat (first | rfl | rw [up_ne (by decide)] | rw [up_nei (by omega)]))
    · exact BkB_keep hbb (by repeat (first | exact Int.le_refl _ | rw [up_ne (by decide)] | rw [up_nei (by omega)])) n.1.2.2 (fun i _ _ => rfl) (fun i h0 h1 => by repeat (first | rfl | rw [up_ne (by decide)] | rw [up_nei (by omega)]))
    · exact BkL_keep l rfl rfl (fun i h0 h1 => by repeat (first | rfl | rw [up_ne (by decide)] | rw [up_nei (by omega)]))
    · exact BkG_keep g (by repeat (first | exact Int.le_refl _ | rw [up_ne (by decide)] | rw [up_nei (by omega)])) (by repeat (first | rfl | rw [up_ne (by decide)] | rw [up_nei (by omega)])) n.2.1.2.2 (fun c h1 h2 => by repeat (first | rfl | rw [up_cell (by omega)])) (fun i h0 h1 => by repeat (first | rfl | rw [up_ne (by decide)] | rw [up_nei (by omega)]))
    · exact BkC_keep cl (by repeat (first | exact Int.le_refl _ | rw [up_ne (by decide)] | rw [up_nei (by omega)])) (by repeat (first | rfl | rw [up_ne (by decide)] | rw [up_nei (by omega)])) n.2.2.1.2.2 (fun c h1 h2 => by repeat (first | rfl | rw [up_cell (by omega)])) (fun i h0 h1 => by repeat (first | rfl | rw [up_ne (by decide)] | rw [up_nei (by omega)]))
    · have h1 : i < M 103 724 := by
        have e : up (up (up (up M 18 a X) 0 10 0) 103 (505 + 9 * a) X) 102 0 0 103 724 = M 103 724 := (by repeat (first | rfl | rw [up_ne (by decide)] | rw [up_nei (by omega)]))
        rw [e] at h1
        exact h1
      by_cases q : i = a
      · subst q
        repeat (first | rw [up_ne (by decide)] | rw [up_nei (by omega)] | rw [up_at, if_pos (by omega)])
        exact ⟨⟨e1, e2, rfl, e4, e5, e6, e7, e8⟩, r1, r2, hx, r4, r5, r6, r7, r8⟩
      · repeat (first | rw [up_ne (by decide)] | rw [up_nei (by omega)])
        exact o i h0 h1
    · exact BkS_keep s rfl rfl rfl (by repeat (first | exact Int.le_refl _ | rw [up_ne (by decide)] | rw [up_nei (by omega)])) s.2 (fun i h0 h1 => by repeat (first | rfl | rw [up_ne (by decide)] | rw [up_nei (by omega)]))
  · exact m_alter ha hb (by exact n3.2) (fun q => absurd q c1) (fun _ => ⟨(inRl (by decide)), (inRl (by decide)), rfl, hk _ (hI.status (by omega))⟩) (fun q => absurd q c1)
  · exact m_alter ha hb (by exact n3.2) (fun _ q => absurd (by have q : 0 ≤ a ∧ a < M 103 724 := q; omega) c2) (fun q => absurd c1 q) (fun _ _ => ⟨(inRl (by decide)), (inRl (by decide)), rfl, hk _ (hI.status (by omega))⟩)
/-! a log more -/
def xAdd (M : Mm) (a b c d e f w : Int) : Mm := up (up (up (up (up (up (up (up (up (up M 16 (M 15 0) a) 17 (M 15 0) b) 18 (M 15 0) c) 19 (M 15 0) d) 20 (M 15 0) e) 21 (M 15 0) f) 22 (M 15 0) w) 23 (M 15 0) 0) 15 0 (M 15 0 + 1)) 0 10 0
def mAdd (M : Mm) (n a b c d e f w : Int) : Mm := up (up (up (up (up (up (up (up (up (up M 103 (503 + 9 * n) a) 103 (503 + 9 * n + 1) b) 103 (503 + 9 * n + 2) c) 103 (503 + 9 * n + 3) d) 103 (503 + 9 * n + 4) e) 103 (503 + 9 * n + 5) f) 103 (503 + 9 * n + 6) w) 103 (503 + 9 * n + 7) 0) 103 724 (n + 1)) 102 0 0
theorem b_addLog {w : Int} {k : Int → Mm → Prop} (hw : w = 0 ∨ w = 1) (hs : 0 ≤ M 15 0 ∧ M 15 0 ≤ 24) (h1 : M 15 0 < 24 → k (M 15 0) (xAdd M a b c d e f w)) (h0 : M 15 0 = 24 → k (-5) (up M 0 10 (-5))) : Bd (wX11_addLog a b c d e f w M) k := by
  apply Bd.of; unfold wX11_addLog
  refine ⟨inRof ⟨by omega, by omega⟩, ?_⟩
  by_cases q : M 15 0 < 24
  · rw [if_pos q]
    exact ⟨⟨by omega, q⟩, hw, b_accept (h1 q)⟩
  · rw [if_neg q]
    exact b_refuse (h0 (by omega))
theorem b_adds {n w : Int} {k : Int → Mm → Prop} (hn : M 103 724 = n) (hs : 0 ≤ n ∧ n < 24) (h1 : k n (up (up (up (up (up (up (up (up (up M 103 (503 + 9 * n) a) 103 (503 + 9 * n + 1) b) 103 (503 + 9 * n + 2) c) 103 (503 + 9 * n + 3) d) 103 (503 + 9 * n + 4) e) 103 (503 + 9 * n + 5) f) 103 (503 + 9 * n + 6) w) 103 (503 + 9 * n + 7) 0) 103 724 (n + 1))) : Bd (wX12_adds a b c d e f w M) k := by
  apply Bd.of; unfold wX12_adds
  have e1 : M 103 (721 + 3) = n := hn
  refine b_many (by omega) ?_
  rw [e1]
  refine ⟨⟨by omega, by omega⟩, ⟨by omega, by omega⟩, ⟨by omega, by omega⟩, ⟨by omega, by omega⟩, ⟨by omega, by omega⟩, ⟨by omega, by omega⟩, ⟨by omega, by omega⟩, ⟨by omega, by omega⟩, ?_⟩
  have e2 : (up (up (up (up (up (up (up (up M 103 (503 + 9 * n) a) 103 (503 + 9 * n + 1) b) 103 (503 + 9 * n + 2) c) 103 (503 + 9 * n + 3) d) 103 (503 + 9 * n + 4) e) 103 (503 + 9 * n + 5) f) 103 (503 + 9 * n + 6) w) 103 (503 + 9 * n + 7) 0) 103 724 = n := by
    repeat (first | exact hn | rw [up_nei (by omega)])
  rw [e2]
  exact h1
theorem Inv.add {w : Int} (hI : Inv M) (hn : M 15 0 < 24) (ha : 0 ≤ a ∧ a < M 1 0) (hb : 0 ≤ b ∧ b ≤ 119) (hc : 0 ≤ c ∧ c ≤ 131071) (hd : 0 ≤ d ∧ d ≤ 1000) (he : 1 ≤ e ∧ e ≤ 100) (hf : 0 ≤ f ∧ f ≤ 119) (hw : w = 0 ∨ w = 1) : Inv (mAdd (xAdd M a b c d e f w) (M 15 0) a b c d e f w) := by
  obtain ⟨n, t, hbb, l, g, cl, o, s⟩ := hI.1
  have n0 := n.1
  have n3 := n.2.2.2
  unfold mAdd xAdd
  rw [n3.1]
  rw [n3.1] at hn
  rw [n0.1] at ha
  refine hI.book (fun c i _ h1 h2 h3 h4 => by repeat (first | rfl | rw [up_ne2 h4] | rw [up_ne2 h3] | rw [up_ne h2] | rw [up_ne (by omega)])) ?_ ⟨rfl, (by decide : (-10 : Int) ≤ 0), (by decide : (0 : Int) ≤ 0)⟩
  generalize hN : M 103 724 = N at *
  refine ⟨⟨?_, ?_, ?_, ?_⟩, ?_, ?_, ?_, ?_, ?_, fun i h0 h1 => ?_, ?_⟩
  · repeat (first | rw [up_ne (by decide)] | rw [up_nei (by omega)])
    exact n0
  · repeat (first | rw [up_ne (by decide)] | rw [up_nei (by omega)])
    exact n.2.1
  · repeat (first | rw [up_ne (by decide)] | rw [up_nei (by omega)])
    exact n.2.2.1
  · show N + 1 = N + 1 ∧ 0 ≤ N + 1 ∧ N + 1 ≤ 24
    omega
  · exact BkT_keep t rfl rfl (fun i h0 h1 => by repeat (first | rfl | rw [up_ne (by decide)] | rw [up_nei (by omega)]))
  · exact BkB_keep hbb (by repeat (first | exact Int.le_refl _ | rw [up_ne (by decide)] | rw [up_nei (by omega)])) n0.2.2 (fun i _ _ => rfl) (fun i h0 h1 => by repeat (first | rfl | rw [up_ne (by decide)] | rw [up_nei (by omega)]))
  · exact BkL_keep l rfl rfl (fun i h0 h1 => by repeat (first | rfl | rw [up_ne (by decide)] | rw [up_nei (by omega)]))
  · exact BkG_keep g (by repeat (first | exact Int.le_refl _ | rw [up_ne (by decide)] | rw [up_nei (by omega)])) (by repeat (first | rfl | rw [up_ne (by decide)] | rw [up_nei (by omega)])) n.2.1.2.2 (fun c h1 h2 => by repeat (first | rfl | rw [up_cell (by omega)])) (fun i h0 h1 => by repeat (first | rfl | rw [up_ne (by decide)] | rw [up_nei (by omega)]))
  · exact BkC_keep cl (by repeat (first | exact Int.le_refl _ | rw [up_ne (by decide)] | rw [up_nei (by omega)])) (by repeat (first | rfl | rw [up_ne (by decide)] | rw [up_nei (by omega)])) n.2.2.1.2.2 (fun c h1 h2 => by repeat (first | rfl | rw [up_cell (by omega)])) (fun i h0 h1 => by repeat (first | rfl | rw [up_ne (by decide)] | rw [up_nei (by omega)]))
  · have h1 : i < N + 1 := h1
    by_cases q : i = N
    · subst q
      repeat (first | rw [up_ne (by decide)] | rw [up_nei (by omega)] | rw [up_at, if_pos (by omega)])
      exact ⟨⟨rfl, rfl, rfl, rfl, rfl, rfl, rfl, rfl⟩, ha, hb, hc, hd, he, hf, hw, Or.inl rfl⟩
    · repeat (first | rw [up_ne (by decide)] | rw [up_nei (by omega)])
      exact o i h0 (by omega)
  · refine BkS_keep s rfl rfl rfl ?_ (fun i h0 h1 => ?_) (fun i h0 h1 => by repeat (first | rfl | rw [up_ne (by decide)] | rw [up_nei (by omega)]))
    · show M 103 724 ≤ N + 1
      omega
    · by_cases q : i = N
      · subst q
        repeat (first | rw [up_ne (by decide)] | rw [up_nei (by omega)] | rw [up_at, if_pos (by omega)])
        exact ⟨hw, Or.inl rfl⟩
      · repeat (first | rw [up_ne (by decide)] | rw [up_nei (by omega)])
        exact s.2 i h0 h1
theorem op_look (ha : inR a) (hb : inR b) (hc : inR c) (hd : inR d) (he : inR e) (hf : inR f) (hI : Inv M) (hk : ∀ M, Inv M → k M) : Bd (wX11_look a b c d e f M) (fun r1 M1 => Bd (wX12_look a b c d e f M1) (fun r2 M2 => inR r1 ∧ inR r2 ∧ r1 = r2 ∧ k M2)) := by
  have n := hI.1.1
  have n0 := n.1
  have n3 := n.2.2.2
  have m1 : ¬ ((0 ≤ b ∧ b ≤ 119) ∧ (0 ≤ c ∧ c ≤ 1000) ∧ (c ≤ d ∧ d ≤ 1000) ∧ (1 ≤ e ∧ e ≤ 100) ∧ (0 ≤ f ∧ f ≤ 119)) → Bd (wX12_look a b c d e f (up M 0 10 (-1))) (fun r2 M2 => inR (-1) ∧ inR r2 ∧ -1 = r2 ∧ k M2) := by
    intro hn
    have fin : Bd (wX12_ends (-1) (up M 0 10 (-1))) (fun r2 M2 => inR (-1) ∧ inR r2 ∧ -1 = r2 ∧ k M2) := b_endsN (by omega) ⟨(inRl (by decide)), (inRl (by decide)), rfl, hk _ (hI.status (by omega))⟩
    apply Bd.of; unfold wX12_look
    refine i_mDay hb (fun c1 => ?_) (fun _ => fin)
    refine i_in hc inR0 (inRl (by decide)) (fun c2 => ?_) (fun _ => fin)
    refine i_in hd hc (inRl (by decide)) (fun c3 => ?_) (fun _ => fin)
    refine i_in he inR1 (inRl (by decide)) (fun c4 => ?_) (fun _ => fin)
    refine i_mDay hf (fun c5 => ?_) (fun _ => fin)
    exact absurd ⟨c1, c2, c3, c4, c5⟩ hn
  apply Bd.of; unfold wX11_look
  refine i_isDay hb (fun c1 => ?_) (fun c1 => b_refuse (m1 (by omega)))
  refine i_within hc inR0 (inRl (by decide)) (fun c2 => ?_) (fun c2 => b_refuse (m1 (by omega)))
  refine i_within hd hc (inRl (by decide)) (fun c3 => ?_) (fun c3 => b_refuse (m1 (by omega)))
  refine i_within he inR1 (inRl (by decide)) (fun c4 => ?_) (fun c4 => b_refuse (m1 (by omega)))
  refine i_isDay hf (fun c5 => ?_) (fun c5 => b_refuse (m1 (by omega)))
  have m2 : ∀ M1 : Mm, (0 ≤ M1 103 721 ∧ M1 103 721 ≤ 3) → ∀ {kk : Int → Mm → Prop}, ((0 ≤ a ∧ a < M1 103 721) → Bd (wX12_many 3 M1) (fun r63 M64 => (inR r63) ∧ (if r63 = 24 then Bd (wX12_ends (-5) M64) (fun r69 M70 => kk r69 M70) else Bd (wX12_adds a b c d e f 1 M64) (fun r73 M74 => Bd (wX12_ends r73 M74) (fun r77 M78 => kk r77 M78))))) → (¬ (0 ≤ a ∧ a < M1 103 721) → kk (-2) (up M1 102 0 (-2))) → Bd (wX12_look a b c d e f M1) kk := by
    intro M1 hs kk h1 h2
    apply Bd.of; unfold wX12_look
    refine i_mDay hb (fun _ => ?_) (fun q => absurd c1 q)
    refine i_in hc inR0 (inRl (by decide)) (fun _ => ?_) (fun q => absurd c2 q)
    refine i_in hd hc (inRl (by decide)) (fun _ => ?_) (fun q => absurd c3 q)
    refine i_in he inR1 (inRl (by decide)) (fun _ => ?_) (fun q => absurd c4 q)
    refine i_mDay hf (fun _ => ?_) (fun q => absurd c5 q)
    exact i_mShip ha hs (fun q => h1 q) (fun q => b_endsN (by omega) (h2 q))
  refine i_isShip ha (by omega) (fun c6 => ?_) (fun c6 => b_refuse (m2 _ (by exact n0.2) (fun q => absurd (by have q : 0 ≤ a ∧ a < M 103 721 := q; omega) c6) (fun _ => ⟨(inRl (by decide)), (inRl (by decide)), rfl, hk _ (hI.status (by omega))⟩)))
  refine b_addLog (Or.inr rfl) (by omega) (fun c7 => m2 _ (by exact n0.2) (fun _ => ?_) (fun q => absurd (by show 0 ≤ a ∧ a < M 103 721; omega) q)) (fun c7 => m2 _ (by exact n0.2) (fun _ => ?_) (fun q => absurd (by show 0 ≤ a ∧ a < M 103 721; omega) q))
  · refine b_many (by omega) ?_
    have e1 : xAdd M a b c d e f 1 103 (721 + 3) = M 15 0 := n3.1.symm
    rw [e1]
    refine ⟨inRof ⟨by omega, by omega⟩, ?_⟩
    rw [if_neg (by omega)]
    refine b_adds (n := M 15 0) (by exact n3.1.symm) (by omega) ?_
    exact b_endsP (by omega) ⟨inRof ⟨by omega, by omega⟩, inRof ⟨by omega, by omega⟩, rfl, hk _ (hI.add c7 c6 c1 (by omega) (by omega) c4 c5 (Or.inr rfl))⟩
  · refine b_many (by omega) ?_
    have e1 : up M 0 10 (-5) 103 (721 + 3) = M 15 0 := n3.1.symm
    rw [e1]
    refine ⟨inRof ⟨by omega, by omega⟩, ?_⟩
    rw [if_pos c7]
    exact b_endsN (by omega) ⟨(inRl (by decide)), (inRl (by decide)), rfl, hk _ (hI.status (by omega))⟩
end Ops5
