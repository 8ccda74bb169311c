/-! ===== printed by tools/gen.py ===== -/
def wX12_behind0 (v1 : Int) (v2 : Int) (M : Mm) (Q : Int → Mm → Prop) : Prop :=
    (inR v1) ∧
    (if v1 < 0 then
      (0 ≤ v2 ∧ v2 < 1001) ∧
      Q (M 123 v2) M
    else
      (0 ≤ (v1 + v2) ∧ (v1 + v2) < 120120) ∧
      Q (M 118 (v1 + v2)) M)
set_option maxHeartbeats 4000000 in
theorem s_wX12_behind0 {Γ : Cx} {h : Nat} (hΓ : Ok Γ cX12_behind0 RX12 3 h 0 0) (hh : 1 ≤ h) (hr : (cxm Γ).sig.returnType = (some .int)) {Q : Int → Mm → Prop} (v1 : Int) (v2 : Int) (M : Mm) (h : wX12_behind0 v1 v2 M Q) : Wa Γ 3 (Kf Γ (QI Q) 0 0) 0 0 0 [(0, aR 102), (1, aI v1), (2, aI v2)] [] (NC, RF, M) := by
  unfold wX12_behind0 at h
  refine a_iload_n hΓ 1 dX12_behind0_0 rfl rfl ?_
  obtain ⟨g1, h⟩ := h
  refine a_if_ge (tgt := 13) hΓ g1 dX12_behind0_1 (by decide) (fun c2 => ?_) (fun c2 => ?_)
  · rw [if_pos c2] at h
    refine a_aload_n hΓ 0 dX12_behind0_4 rfl rfl ?_
    refine n_getR hΓ fl_RX12_90 cl_12 kd_102 lz_102 dX12_behind0_5 ft_12_39 rf_102_39 ?_
    refine a_iload_n hΓ 2 dX12_behind0_8 rfl rfl ?_
    obtain ⟨g3, h⟩ := h
    refine n_iald (x := (M 123 v2)) hΓ dX12_behind0_9 kd_123 lz_123 g3 rfl ?_
    refine a_goto (tgt := 21) hΓ dX12_behind0_10 (by decide) ?_
    exact a_iret hΓ hr dX12_behind0_21 ⟨_, _, rfl, rfl, h⟩
  · rw [if_neg c2] at h
    refine a_aload_n hΓ 0 dX12_behind0_13 rfl rfl ?_
    refine n_getR hΓ fl_RX12_75 cl_12 kd_102 lz_102 dX12_behind0_14 ft_12_33 rf_102_33 ?_
    refine a_iload_n hΓ 1 dX12_behind0_17 rfl rfl ?_
    refine a_iload_n hΓ 2 dX12_behind0_18 rfl rfl ?_
    refine a_iadd hΓ dX12_behind0_19 ?_
    obtain ⟨g4, h⟩ := h
    refine n_iald (x := (M 118 (v1 + v2))) hΓ dX12_behind0_20 kd_118 lz_118 g4 rfl ?_
    exact a_iret hΓ hr dX12_behind0_21 ⟨_, _, rfl, rfl, h⟩
theorem ct_wX12_behind0 (l : Launch) (g : Gp) (v1 : Int) (v2 : Int) (M : Mm) (Q : Int → Mm → Prop) (h : wX12_behind0 v1 v2 M Q) : Ct l g yX12_behind0 cX12_behind0 3 (some .int) 1 0 0 [aR 102, aI v1, aI v2] (NC, RF, M) (QI Q) :=
  ct_of (by decide) (Nat.le_of_ble_eq_true rfl) (fun Γ hg hl hr _ hΓ => by subst hg; subst hl; exact s_wX12_behind0 hΓ (by decide) hr v1 v2 M h)
def wX12_slides_119 (Q : Mm → Prop) (k12 : Int → Int → Int → Int → Mm → Prop) (v1 : Int) (v2 : Int) (v3 : Int) (v4 : Int) (v5 : Int) (v6 : Int) (v7 : Int) (M : Mm) : Prop :=
    (inR v4) ∧
    (inR v5) ∧
    (if v4 < v5 then
      (0 ≤ v4 ∧ v4 < 1001) ∧
      Bd (wX12_behind0 v1 (M 120 v4) M) (fun r7 M8 =>
      (0 ≤ v7 ∧ v7 < 1001) ∧
      k12 v4 v5 v6 (v7 + 1) (up M8 119 v7 r7))
    else
      (0 ≤ v7 ∧ v7 < 1001) ∧
      k12 v4 v5 v6 (v7 + 1) (up M 119 v7 1000000000))
set_option maxHeartbeats 4000000 in
theorem s_wX12_slides_119 {Γ : Cx} {h : Nat} (hΓ : Ok Γ cX12_slides RX12 8 h 0 0) (hh : 2 ≤ h) (hr : (cxm Γ).sig.returnType = none) {Q : Mm → Prop} {v1 v2 v3 v4 v5 v6 v7 : Int}  {k12 : Int → Int → Int → Int → Mm → Prop} (hk12 : ∀ (v4 : Int) (v5 : Int) (v6 : Int) (v7 : Int) (M : Mm), k12 v4 v5 v6 v7 M → Wa Γ 8 (Kf Γ (QV Q) 0 0) 0 0 12 [(0, aR 102), (1, aI v1), (2, aI v2), (3, aI v3), (4, aI v4), (5, aI v5), (6, aI v6), (7, aI v7)] [] (NC, RF, M)) (M : Mm) (h : wX12_slides_119 Q k12 v1 v2 v3 v4 v5 v6 v7 M) : Wa Γ 8 (Kf Γ (QV Q) 0 0) 0 0 119 [(0, aR 102), (1, aI v1), (2, aI v2), (3, aI v3), (4, aI v4), (5, aI v5), (6, aI v6), (7, aI v7)] [] (NC, RF, M) := by
  unfold wX12_slides_119 at h
  refine a_aload_n hΓ 0 dX12_slides_119 rfl rfl ?_
  refine n_getR hΓ fl_RX12_78 cl_12 kd_102 lz_102 dX12_slides_120 ft_12_34 rf_102_34 ?_
  refine a_iload hΓ 7 dX12_slides_123 rfl ?_
  refine a_iload hΓ 4 dX12_slides_125 rfl ?_
  refine a_iload hΓ 5 dX12_slides_127 rfl ?_
  obtain ⟨g1, h⟩ := h
  obtain ⟨g2, h⟩ := h
  refine a_icmp_ge (tgt := 147) hΓ g1 g2 dX12_slides_129 (by decide) (fun c3 => ?_) (fun c3 => ?_)
  · rw [if_pos c3] at h
    refine a_aload_n hΓ 0 dX12_slides_132 rfl rfl ?_
    refine a_iload_n hΓ 1 dX12_slides_133 rfl rfl ?_
    refine a_aload_n hΓ 0 dX12_slides_134 rfl rfl ?_
    refine n_getR hΓ fl_RX12_81 cl_12 kd_102 lz_102 dX12_slides_135 ft_12_35 rf_102_35 ?_
    refine a_iload hΓ 4 dX12_slides_138 rfl ?_
    obtain ⟨g4, h⟩ := h
    refine n_iald (x := (M 120 v4)) hΓ dX12_slides_140 kd_120 lz_120 g4 rfl ?_
    obtain ⟨P5, q6, h⟩ := h
    refine n_callV (c := 102) (av := [aI v1, aI (M 120 v4)]) (st := [aI v7, aR 119]) hΓ (ct_wX12_behind0 _ _ v1 (M 120 v4) M P5 q6) my_X12_behind0 ml_RX12_298 ni_X12_behind0 kd_102 rfl lz_102 rfl (Nat.le_trans (by decide) hh) (by decide) (Nat.le_of_ble_eq_true rfl) rfl dX12_slides_141 (fun v Z' hq => ?_)
    obtain ⟨r7, M8, rfl, rfl, hq⟩ := hq
    have h := h r7 M8 hq
    dsimp only at h
    refine a_goto (tgt := 150) hΓ dX12_slides_144 (by decide) ?_
    obtain ⟨g9, h⟩ := h
    refine a_iast hΓ dX12_slides_150 kd_119 lz_119 g9 ?_
    refine a_iinc (ls' := [(7, aI (v7 + 1)), (0, aR 102), (1, aI v1), (2, aI v2), (3, aI v3), (4, aI v4), (5, aI v5), (6, aI v6)]) hΓ 7 dX12_slides_151 rfl (by decide) rfl ?_
    refine a_goto (tgt := 12) hΓ dX12_slides_154 (by decide) ?_
    refine a_sub (ls' := [(0, aR 102), (1, aI v1), (2, aI v2), (3, aI v3), (4, aI v4), (5, aI v5), (6, aI v6), (7, aI (v7 + 1))]) [1, 2, 3, 4, 5, 6, 7, 0] rfl ?_
    exact hk12 v4 v5 v6 (v7 + 1) (up M8 119 v7 r7) h
  · rw [if_neg c3] at h
    refine a_ldc_w hΓ gc_RX12_297 dX12_slides_147 ?_
    obtain ⟨g10, h⟩ := h
    refine a_iast hΓ dX12_slides_150 kd_119 lz_119 g10 ?_
    refine a_iinc (ls' := [(7, aI (v7 + 1)), (0, aR 102), (1, aI v1), (2, aI v2), (3, aI v3), (4, aI v4), (5, aI v5), (6, aI v6)]) hΓ 7 dX12_slides_151 rfl (by decide) rfl ?_
    refine a_goto (tgt := 12) hΓ dX12_slides_154 (by decide) ?_
    refine a_sub (ls' := [(0, aR 102), (1, aI v1), (2, aI v2), (3, aI v3), (4, aI v4), (5, aI v5), (6, aI v6), (7, aI (v7 + 1))]) [1, 2, 3, 4, 5, 6, 7, 0] rfl ?_
    exact hk12 v4 v5 v6 (v7 + 1) (up M 119 v7 1000000000) h
def wX12_slides_92 (Q : Mm → Prop) (k12 : Int → Int → Int → Int → Mm → Prop) (v1 : Int) (v2 : Int) (v3 : Int) (v5 : Int) (v6 : Int) (v7 : Int) : Nat → Int → Mm → Prop
  | 0, _, _ => False
  | f + 1, v4, M => (inR v4) ∧
    (inR v5) ∧
    (if v4 < v5 then
      (0 ≤ v4 ∧ v4 < 1001) ∧
      (inR (M 120 v4)) ∧
      (inR (v7 + v2)) ∧
      (if (M 120 v4) < (v7 + v2) then
        (wX12_slides_92 Q k12 v1 v2 v3 v5 v6 v7 f) (v4 + 1) M
      else
        wX12_slides_119 Q k12 v1 v2 v3 v4 v5 v6 v7 M)
    else
      wX12_slides_119 Q k12 v1 v2 v3 v4 v5 v6 v7 M)
set_option maxHeartbeats 4000000 in
theorem s_wX12_slides_92 {Γ : Cx} {h : Nat} (hΓ : Ok Γ cX12_slides RX12 8 h 0 0) (hh : 2 ≤ h) (hr : (cxm Γ).sig.returnType = none) {Q : Mm → Prop} {v1 v2 v3 v5 v6 v7 : Int}  {k12 : Int → Int → Int → Int → Mm → Prop} (hk12 : ∀ (v4 : Int) (v5 : Int) (v6 : Int) (v7 : Int) (M : Mm), k12 v4 v5 v6 v7 M → Wa Γ 8 (Kf Γ (QV Q) 0 0) 0 0 12 [(0, aR 102), (1, aI v1), (2, aI v2), (3, aI v3), (4, aI v4), (5, aI v5), (6, aI v6), (7, aI v7)] [] (NC, RF, M)) : ∀ (f : Nat) (v4 : Int) (M : Mm), wX12_slides_92 Q k12 v1 v2 v3 v5 v6 v7 f v4 M → Wa Γ 8 (Kf Γ (QV Q) 0 0) 0 0 92 [(0, aR 102), (1, aI v1), (2, aI v2), (3, aI v3), (4, aI v4), (5, aI v5), (6, aI v6), (7, aI v7)] [] (NC, RF, M) := by
  intro f
  induction f with
  | zero => intro v4 M h; exact h.elim
  | succ f ih =>
    intro v4 M h
    unfold wX12_slides_92 at h
    refine a_iload hΓ 4 dX12_slides_92 rfl ?_
    refine a_iload hΓ 5 dX12_slides_94 rfl ?_
    obtain ⟨g1, h⟩ := h
    obtain ⟨g2, h⟩ := h
    refine a_icmp_ge (tgt := 119) hΓ g1 g2 dX12_slides_96 (by decide) (fun c3 => ?_) (fun c3 => ?_)
    · rw [if_pos c3] at h
      refine a_aload_n hΓ 0 dX12_slides_99 rfl rfl ?_
      refine n_getR hΓ fl_RX12_81 cl_12 kd_102 lz_102 dX12_slides_100 ft_12_35 rf_102_35 ?_
      refine a_iload hΓ 4 dX12_slides_103 rfl ?_
      obtain ⟨g4, h⟩ := h
      refine n_iald (x := (M 120 v4)) hΓ dX12_slides_105 kd_120 lz_120 g4 rfl ?_
      refine a_iload hΓ 7 dX12_slides_106 rfl ?_
      refine a_iload_n hΓ 2 dX12_slides_108 rfl rfl ?_
      refine a_iadd hΓ dX12_slides_109 ?_
      obtain ⟨g5, h⟩ := h
      obtain ⟨g6, h⟩ := h
      refine a_icmp_ge (tgt := 119) hΓ g5 g6 dX12_slides_110 (by decide) (fun c7 => ?_) (fun c7 => ?_)
      · rw [if_pos c7] at h
        refine a_iinc (ls' := [(4, aI (v4 + 1)), (0, aR 102), (1, aI v1), (2, aI v2), (3, aI v3), (5, aI v5), (6, aI v6), (7, aI v7)]) hΓ 4 dX12_slides_113 rfl (by decide) rfl ?_
        refine a_goto (tgt := 92) hΓ dX12_slides_116 (by decide) ?_
        refine a_sub (ls' := [(0, aR 102), (1, aI v1), (2, aI v2), (3, aI v3), (4, aI (v4 + 1)), (5, aI v5), (6, aI v6), (7, aI v7)]) [1, 2, 3, 4, 0, 5, 6, 7] rfl ?_
        exact ih (v4 + 1) M h
      · rw [if_neg c7] at h
        exact s_wX12_slides_119 hΓ (Nat.le_trans (by decide) hh) hr hk12 M h
    · rw [if_neg c3] at h
      exact s_wX12_slides_119 hΓ (Nat.le_trans (by decide) hh) hr hk12 M h
def wX12_slides_74 (Q : Mm → Prop) (k12 : Int → Int → Int → Int → Mm → Prop) (k20 : Int → Int → Mm → Prop) (v1 : Int) (v2 : Int) (v3 : Int) (v4 : Int) (v5 : Int) (v6 : Int) (v7 : Int) (M : Mm) : Prop :=
    (0 ≤ v5 ∧ v5 < 1001) ∧
    k20 (v5 + 1) (v6 + 1) (up M 120 v5 v6)
set_option maxHeartbeats 4000000 in
theorem s_wX12_slides_74 {Γ : Cx} {h : Nat} (hΓ : Ok Γ cX12_slides RX12 8 h 0 0) (hh : 2 ≤ h) (hr : (cxm Γ).sig.returnType = none) {Q : Mm → Prop} {v1 v2 v3 v4 v5 v6 v7 : Int}  {k12 : Int → Int → Int → Int → Mm → Prop} (hk12 : ∀ (v4 : Int) (v5 : Int) (v6 : Int) (v7 : Int) (M : Mm), k12 v4 v5 v6 v7 M → Wa Γ 8 (Kf Γ (QV Q) 0 0) 0 0 12 [(0, aR 102), (1, aI v1), (2, aI v2), (3, aI v3), (4, aI v4), (5, aI v5), (6, aI v6), (7, aI v7)] [] (NC, RF, M)) {k20 : Int → Int → Mm → Prop} (hk20 : ∀ (v5 : Int) (v6 : Int) (M : Mm), k20 v5 v6 M → Wa Γ 8 (Kf Γ (QV Q) 0 0) 0 0 20 [(0, aR 102), (1, aI v1), (2, aI v2), (3, aI v3), (4, aI v4), (5, aI v5), (6, aI v6), (7, aI v7)] [] (NC, RF, M)) (M : Mm) (h : wX12_slides_74 Q k12 k20 v1 v2 v3 v4 v5 v6 v7 M) : Wa Γ 8 (Kf Γ (QV Q) 0 0) 0 0 74 [(0, aR 102), (1, aI v1), (2, aI v2), (3, aI v3), (4, aI v4), (5, aI v5), (6, aI v6), (7, aI v7)] [] (NC, RF, M) := by
  unfold wX12_slides_74 at h
  refine a_aload_n hΓ 0 dX12_slides_74 rfl rfl ?_
  refine n_getR hΓ fl_RX12_81 cl_12 kd_102 lz_102 dX12_slides_75 ft_12_35 rf_102_35 ?_
  refine a_iload hΓ 5 dX12_slides_78 rfl ?_
  refine a_iload hΓ 6 dX12_slides_80 rfl ?_
  obtain ⟨g1, h⟩ := h
  refine a_iast hΓ dX12_slides_82 kd_120 lz_120 g1 ?_
  refine a_iinc (ls' := [(5, aI (v5 + 1)), (0, aR 102), (1, aI v1), (2, aI v2), (3, aI v3), (4, aI v4), (6, aI v6), (7, aI v7)]) hΓ 5 dX12_slides_83 rfl (by decide) rfl ?_
  refine a_iinc (ls' := [(6, aI (v6 + 1)), (5, aI (v5 + 1)), (0, aR 102), (1, aI v1), (2, aI v2), (3, aI v3), (4, aI v4), (7, aI v7)]) hΓ 6 dX12_slides_86 rfl (by decide) rfl ?_
  refine a_goto (tgt := 20) hΓ dX12_slides_89 (by decide) ?_
  refine a_sub (ls' := [(0, aR 102), (1, aI v1), (2, aI v2), (3, aI v3), (4, aI v4), (5, aI (v5 + 1)), (6, aI (v6 + 1)), (7, aI v7)]) [2, 3, 4, 5, 6, 1, 0, 7] rfl ?_
  exact hk20 (v5 + 1) (v6 + 1) (up M 120 v5 v6) h
def wX12_slides_37 (Q : Mm → Prop) (k12 : Int → Int → Int → Int → Mm → Prop) (k20 : Int → Int → Mm → Prop) (v1 : Int) (v2 : Int) (v3 : Int) (v4 : Int) (v6 : Int) (v7 : Int) : Nat → Int → Mm → Prop
  | 0, _, _ => False
  | f + 1, v5, M => (inR v5) ∧
    (inR v4) ∧
    (if v5 ≤ v4 then
      wX12_slides_74 Q k12 k20 v1 v2 v3 v4 v5 v6 v7 M
    else
      (0 ≤ (v5 - 1) ∧ (v5 - 1) < 1001) ∧
      Bd (wX12_behind0 v1 (M 120 (v5 - 1)) M) (fun r7 M8 =>
      Bd (wX12_behind0 v1 v6 M8) (fun r11 M12 =>
      (inR r7) ∧
      (inR r11) ∧
      (if r7 < r11 then
        wX12_slides_74 Q k12 k20 v1 v2 v3 v4 v5 v6 v7 M12
      else
        (wX12_slides_37 Q k12 k20 v1 v2 v3 v4 v6 v7 f) (v5 + (-1)) M12))))
set_option maxHeartbeats 4000000 in
theorem s_wX12_slides_37 {Γ : Cx} {h : Nat} (hΓ : Ok Γ cX12_slides RX12 8 h 0 0) (hh : 2 ≤ h) (hr : (cxm Γ).sig.returnType = none) {Q : Mm → Prop} {v1 v2 v3 v4 v6 v7 : Int}  {k12 : Int → Int → Int → Int → Mm → Prop} (hk12 : ∀ (v4 : Int) (v5 : Int) (v6 : Int) (v7 : Int) (M : Mm), k12 v4 v5 v6 v7 M → Wa Γ 8 (Kf Γ (QV Q) 0 0) 0 0 12 [(0, aR 102), (1, aI v1), (2, aI v2), (3, aI v3), (4, aI v4), (5, aI v5), (6, aI v6), (7, aI v7)] [] (NC, RF, M)) {k20 : Int → Int → Mm → Prop} (hk20 : ∀ (v5 : Int) (v6 : Int) (M : Mm), k20 v5 v6 M → Wa Γ 8 (Kf Γ (QV Q) 0 0) 0 0 20 [(0, aR 102), (1, aI v1), (2, aI v2), (3, aI v3), (4, aI v4), (5, aI v5), (6, aI v6), (7, aI v7)] [] (NC, RF, M)) : ∀ (f : Nat) (v5 : Int) (M : Mm), wX12_slides_37 Q k12 k20 v1 v2 v3 v4 v6 v7 f v5 M → Wa Γ 8 (Kf Γ (QV Q) 0 0) 0 0 37 [(0, aR 102), (1, aI v1), (2, aI v2), (3, aI v3), (4, aI v4), (5, aI v5), (6, aI v6), (7, aI v7)] [] (NC, RF, M) := by
  intro f
  induction f with
  | zero => intro v5 M h; exact h.elim
  | succ f ih =>
    intro v5 M h
    unfold wX12_slides_37 at h
    refine a_iload hΓ 5 dX12_slides_37 rfl ?_
    refine a_iload hΓ 4 dX12_slides_39 rfl ?_
    obtain ⟨g1, h⟩ := h
    obtain ⟨g2, h⟩ := h
    refine a_icmp_le (tgt := 74) hΓ g1 g2 dX12_slides_41 (by decide) (fun c3 => ?_) (fun c3 => ?_)
    · rw [if_pos c3] at h
      exact s_wX12_slides_74 hΓ (Nat.le_trans (by decide) hh) hr hk12 hk20 M h
    · rw [if_neg c3] at h
      refine a_aload_n hΓ 0 dX12_slides_44 rfl rfl ?_
      refine a_iload_n hΓ 1 dX12_slides_45 rfl rfl ?_
      refine a_aload_n hΓ 0 dX12_slides_46 rfl rfl ?_
      refine n_getR hΓ fl_RX12_81 cl_12 kd_102 lz_102 dX12_slides_47 ft_12_35 rf_102_35 ?_
      refine a_iload hΓ 5 dX12_slides_50 rfl ?_
      refine a_iconst hΓ dX12_slides_52 ?_
      refine a_isub hΓ dX12_slides_53 ?_
      obtain ⟨g4, h⟩ := h
      refine n_iald (x := (M 120 (v5 - 1))) hΓ dX12_slides_54 kd_120 lz_120 g4 rfl ?_
      obtain ⟨P5, q6, h⟩ := h
      refine n_callV (c := 102) (av := [aI v1, aI (M 120 (v5 - 1))]) (st := []) hΓ (ct_wX12_behind0 _ _ v1 (M 120 (v5 - 1)) M P5 q6) my_X12_behind0 ml_RX12_298 ni_X12_behind0 kd_102 rfl lz_102 rfl (Nat.le_trans (by decide) hh) (by decide) (Nat.le_of_ble_eq_true rfl) rfl dX12_slides_55 (fun v Z' hq => ?_)
      obtain ⟨r7, M8, rfl, rfl, hq⟩ := hq
      have h := h r7 M8 hq
      dsimp only at h
      refine a_aload_n hΓ 0 dX12_slides_58 rfl rfl ?_
      refine a_iload_n hΓ 1 dX12_slides_59 rfl rfl ?_
      refine a_iload hΓ 6 dX12_slides_60 rfl ?_
      obtain ⟨P9, q10, h⟩ := h
      refine n_callV (c := 102) (av := [aI v1, aI v6]) (st := [aI r7]) hΓ (ct_wX12_behind0 _ _ v1 v6 M8 P9 q10) my_X12_behind0 ml_RX12_298 ni_X12_behind0 kd_102 rfl lz_102 rfl (Nat.le_trans (by decide) hh) (by decide) (Nat.le_of_ble_eq_true rfl) rfl dX12_slides_62 (fun v Z' hq => ?_)
      obtain ⟨r11, M12, rfl, rfl, hq⟩ := hq
      have h := h r11 M12 hq
      dsimp only at h
      obtain ⟨g13, h⟩ := h
      obtain ⟨g14, h⟩ := h
      refine a_icmp_lt (tgt := 74) hΓ g13 g14 dX12_slides_65 (by decide) (fun c15 => ?_) (fun c15 => ?_)
      · rw [if_pos c15] at h
        exact s_wX12_slides_74 hΓ (Nat.le_trans (by decide) hh) hr hk12 hk20 M12 h
      · rw [if_neg c15] at h
        refine a_iinc (ls' := [(5, aI (v5 + (-1))), (0, aR 102), (1, aI v1), (2, aI v2), (3, aI v3), (4, aI v4), (6, aI v6), (7, aI v7)]) hΓ 5 dX12_slides_68 rfl (by decide) rfl ?_
        refine a_goto (tgt := 37) hΓ dX12_slides_71 (by decide) ?_
        refine a_sub (ls' := [(0, aR 102), (1, aI v1), (2, aI v2), (3, aI v3), (4, aI v4), (5, aI (v5 + (-1))), (6, aI v6), (7, aI v7)]) [1, 2, 3, 4, 5, 0, 6, 7] rfl ?_
        exact ih (v5 + (-1)) M12 h
def wX12_slides_20 (Q : Mm → Prop) (k12 : Int → Int → Int → Int → Mm → Prop) (v1 : Int) (v2 : Int) (v3 : Int) (v4 : Int) (v7 : Int) : Nat → Int → Int → Mm → Prop
  | 0, _, _, _ => False
  | f + 1, v5, v6, M => (inR v6) ∧
    (if v6 < 1001 then
      (inR (v7 + v3)) ∧
      (if v6 ≤ (v7 + v3) then
        ∃ n, wX12_slides_37 Q k12 (wX12_slides_20 Q k12 v1 v2 v3 v4 v7 f) v1 v2 v3 v4 v6 v7 n v5 M
      else
        ∃ n, wX12_slides_92 Q k12 v1 v2 v3 v5 v6 v7 n v4 M)
    else
      ∃ n, wX12_slides_92 Q k12 v1 v2 v3 v5 v6 v7 n v4 M)
set_option maxHeartbeats 4000000 in
theorem s_wX12_slides_20 {Γ : Cx} {h : Nat} (hΓ : Ok Γ cX12_slides RX12 8 h 0 0) (hh : 2 ≤ h) (hr : (cxm Γ).sig.returnType = none) {Q : Mm → Prop} {v1 v2 v3 v4 v7 : Int}  {k12 : Int → Int → Int → Int → Mm → Prop} (hk12 : ∀ (v4 : Int) (v5 : Int) (v6 : Int) (v7 : Int) (M : Mm), k12 v4 v5 v6 v7 M → Wa Γ 8 (Kf Γ (QV Q) 0 0) 0 0 12 [(0, aR 102), (1, aI v1), (2, aI v2), (3, aI v3), (4, aI v4), (5, aI v5), (6, aI v6), (7, aI v7)] [] (NC, RF, M)) : ∀ (f : Nat) (v5 : Int) (v6 : Int) (M : Mm), wX12_slides_20 Q k12 v1 v2 v3 v4 v7 f v5 v6 M → Wa Γ 8 (Kf Γ (QV Q) 0 0) 0 0 20 [(0, aR 102), (1, aI v1), (2, aI v2), (3, aI v3), (4, aI v4), (5, aI v5), (6, aI v6), (7, aI v7)] [] (NC, RF, M) := by
  intro f
  induction f with
  | zero => intro v5 v6 M h; exact h.elim
  | succ f ih =>
    intro v5 v6 M h
    unfold wX12_slides_20 at h
    refine a_iload hΓ 6 dX12_slides_20 rfl ?_
    refine a_sipush hΓ dX12_slides_22 (by decide) ?_
    obtain ⟨g1, h⟩ := h
    refine a_icmp_ge (tgt := 92) hΓ g1 (inRl (by decide)) dX12_slides_25 (by decide) (fun c2 => ?_) (fun c2 => ?_)
    · rw [if_pos c2] at h
      refine a_iload hΓ 6 dX12_slides_28 rfl ?_
      refine a_iload hΓ 7 dX12_slides_30 rfl ?_
      refine a_iload_n hΓ 3 dX12_slides_32 rfl rfl ?_
      refine a_iadd hΓ dX12_slides_33 ?_
      obtain ⟨g3, h⟩ := h
      refine a_icmp_gt (tgt := 92) hΓ g1 g3 dX12_slides_34 (by decide) (fun c4 => ?_) (fun c4 => ?_)
      · rw [if_pos c4] at h
        obtain ⟨f5, h⟩ := h
        exact s_wX12_slides_37 hΓ (Nat.le_trans (by decide) hh) hr hk12 ih f5 v5 M h
      · rw [if_neg c4] at h
        obtain ⟨f6, h⟩ := h
        exact s_wX12_slides_92 hΓ (Nat.le_trans (by decide) hh) hr hk12 f6 v4 M h
    · rw [if_neg c2] at h
      obtain ⟨f7, h⟩ := h
      exact s_wX12_slides_92 hΓ (Nat.le_trans (by decide) hh) hr hk12 f7 v4 M h
def wX12_slides_12 (Q : Mm → Prop) (v1 : Int) (v2 : Int) (v3 : Int) : Nat → Int → Int → Int → Int → Mm → Prop
  | 0, _, _, _, _, _ => False
  | f + 1, v4, v5, v6, v7, M => (inR v7) ∧
    (if v7 < 1001 then
      ∃ n, wX12_slides_20 Q (wX12_slides_12 Q v1 v2 v3 f) v1 v2 v3 v4 v7 n v5 v6 M
    else
      Q M)
set_option maxHeartbeats 4000000 in
theorem s_wX12_slides_12 {Γ : Cx} {h : Nat} (hΓ : Ok Γ cX12_slides RX12 8 h 0 0) (hh : 2 ≤ h) (hr : (cxm Γ).sig.returnType = none) {Q : Mm → Prop} {v1 v2 v3 : Int}   : ∀ (f : Nat) (v4 : Int) (v5 : Int) (v6 : Int) (v7 : Int) (M : Mm), wX12_slides_12 Q v1 v2 v3 f v4 v5 v6 v7 M → Wa Γ 8 (Kf Γ (QV Q) 0 0) 0 0 12 [(0, aR 102), (1, aI v1), (2, aI v2), (3, aI v3), (4, aI v4), (5, aI v5), (6, aI v6), (7, aI v7)] [] (NC, RF, M) := by
  intro f
  induction f with
  | zero => intro v4 v5 v6 v7 M h; exact h.elim
  | succ f ih =>
    intro v4 v5 v6 v7 M h
    unfold wX12_slides_12 at h
    refine a_iload hΓ 7 dX12_slides_12 rfl ?_
    refine a_sipush hΓ dX12_slides_14 (by decide) ?_
    obtain ⟨g1, h⟩ := h
    refine a_icmp_ge (tgt := 157) hΓ g1 (inRl (by decide)) dX12_slides_17 (by decide) (fun c2 => ?_) (fun c2 => ?_)
    · rw [if_pos c2] at h
      obtain ⟨f3, h⟩ := h
      exact s_wX12_slides_20 hΓ (Nat.le_trans (by decide) hh) hr ih f3 v5 v6 M h
    · rw [if_neg c2] at h
      exact a_vret hΓ hr dX12_slides_157 ⟨_, rfl, rfl, h⟩
def wX12_slides (v1 : Int) (v2 : Int) (v3 : Int) (M : Mm) (Q : Mm → Prop) : Prop :=
    ∃ n, wX12_slides_12 Q v1 v2 v3 n 0 0 0 0 M
set_option maxHeartbeats 4000000 in
theorem s_wX12_slides {Γ : Cx} {h : Nat} (hΓ : Ok Γ cX12_slides RX12 8 h 0 0) (hh : 2 ≤ h) (hr : (cxm Γ).sig.returnType = none) {Q : Mm → Prop} (v1 : Int) (v2 : Int) (v3 : Int) (M : Mm) (h : wX12_slides v1 v2 v3 M Q) : Wa Γ 8 (Kf Γ (QV Q) 0 0) 0 0 0 [(0, aR 102), (1, aI v1), (2, aI v2), (3, aI v3)] [] (NC, RF, M) := by
  unfold wX12_slides at h
  refine a_iconst hΓ dX12_slides_0 ?_
  refine a_istore (ls' := [(4, aI 0), (0, aR 102), (1, aI v1), (2, aI v2), (3, aI v3)]) hΓ dX12_slides_1 (by decide) rfl ?_
  refine a_iconst hΓ dX12_slides_3 ?_
  refine a_istore (ls' := [(5, aI 0), (4, aI 0), (0, aR 102), (1, aI v1), (2, aI v2), (3, aI v3)]) hΓ dX12_slides_4 (by decide) rfl ?_
  refine a_iconst hΓ dX12_slides_6 ?_
  refine a_istore (ls' := [(6, aI 0), (5, aI 0), (4, aI 0), (0, aR 102), (1, aI v1), (2, aI v2), (3, aI v3)]) hΓ dX12_slides_7 (by decide) rfl ?_
  refine a_iconst hΓ dX12_slides_9 ?_
  refine a_istore (ls' := [(7, aI 0), (6, aI 0), (5, aI 0), (4, aI 0), (0, aR 102), (1, aI v1), (2, aI v2), (3, aI v3)]) hΓ dX12_slides_10 (by decide) rfl ?_
  refine a_sub (ls' := [(0, aR 102), (1, aI v1), (2, aI v2), (3, aI v3), (4, aI 0), (5, aI 0), (6, aI 0), (7, aI 0)]) [4, 5, 6, 7, 3, 2, 1, 0] rfl ?_
  obtain ⟨f1, h⟩ := h
  exact s_wX12_slides_12 hΓ (Nat.le_trans (by decide) hh) hr  f1 0 0 0 0 M h
theorem ct_wX12_slides (l : Launch) (g : Gp) (v1 : Int) (v2 : Int) (v3 : Int) (M : Mm) (Q : Mm → Prop) (h : wX12_slides v1 v2 v3 M Q) : Ct l g yX12_slides cX12_slides 8 none 2 0 0 [aR 102, aI v1, aI v2, aI v3] (NC, RF, M) (QV Q) :=
  ct_of (by decide) (Nat.le_of_ble_eq_true rfl) (fun Γ hg hl hr _ hΓ => by subst hg; subst hl; exact s_wX12_slides hΓ (by decide) hr v1 v2 v3 M h)
def wX12_adds2 (v0 : Int) (v1 : Int) (M : Mm) (Q : Int → Mm → Prop) : Prop :=
    (inR v0) ∧
    (if v0 < 1000000000 then
      (inR v1) ∧
      (if v1 < 1000000000 then
        Q (v0 + v1) M
      else
        Q 1000000000 M)
    else
      Q 1000000000 M)
set_option maxHeartbeats 4000000 in
theorem s_wX12_adds2 {Γ : Cx} {h : Nat} (hΓ : Ok Γ cX12_adds2 RX12 2 h 0 0) (hh : 1 ≤ h) (hr : (cxm Γ).sig.returnType = (some .int)) {Q : Int → Mm → Prop} (v0 : Int) (v1 : Int) (M : Mm) (h : wX12_adds2 v0 v1 M Q) : Wa Γ 2 (Kf Γ (QI Q) 0 0) 0 0 0 [(0, aI v0), (1, aI v1)] [] (NC, RF, M) := by
  unfold wX12_adds2 at h
  refine a_iload_n hΓ 0 dX12_adds2_0 rfl rfl ?_
  refine a_ldc_w hΓ gc_RX12_297 dX12_adds2_1 ?_
  obtain ⟨g1, h⟩ := h
  refine a_icmp_ge (tgt := 14) hΓ g1 (inRl (by decide)) dX12_adds2_4 (by decide) (fun c2 => ?_) (fun c2 => ?_)
  · rw [if_pos c2] at h
    refine a_iload_n hΓ 1 dX12_adds2_7 rfl rfl ?_
    refine a_ldc_w hΓ gc_RX12_297 dX12_adds2_8 ?_
    obtain ⟨g3, h⟩ := h
    refine a_icmp_lt (tgt := 20) hΓ g3 (inRl (by decide)) dX12_adds2_11 (by decide) (fun c4 => ?_) (fun c4 => ?_)
    · rw [if_pos c4] at h
      refine a_iload_n hΓ 0 dX12_adds2_20 rfl rfl ?_
      refine a_iload_n hΓ 1 dX12_adds2_21 rfl rfl ?_
      refine a_iadd hΓ dX12_adds2_22 ?_
      exact a_iret hΓ hr dX12_adds2_23 ⟨_, _, rfl, rfl, h⟩
    · rw [if_neg c4] at h
      refine a_ldc_w hΓ gc_RX12_297 dX12_adds2_14 ?_
      refine a_goto (tgt := 23) hΓ dX12_adds2_17 (by decide) ?_
      exact a_iret hΓ hr dX12_adds2_23 ⟨_, _, rfl, rfl, h⟩
  · rw [if_neg c2] at h
    refine a_ldc_w hΓ gc_RX12_297 dX12_adds2_14 ?_
    refine a_goto (tgt := 23) hΓ dX12_adds2_17 (by decide) ?_
    exact a_iret hΓ hr dX12_adds2_23 ⟨_, _, rfl, rfl, h⟩
theorem ct_wX12_adds2 (l : Launch) (g : Gp) (v0 : Int) (v1 : Int) (M : Mm) (Q : Int → Mm → Prop) (h : wX12_adds2 v0 v1 M Q) : Ct l g yX12_adds2 cX12_adds2 2 (some .int) 1 0 0 [aI v0, aI v1] (NC, RF, M) (QI Q) :=
  ct_of (by decide) (Nat.le_of_ble_eq_true rfl) (fun Γ hg hl hr _ hΓ => by subst hg; subst hl; exact s_wX12_adds2 hΓ (by decide) hr v0 v1 M h)
def wX12_leastOf_6 (Q : Int → Mm → Prop) (v1 : Int) : Nat → Int → Int → Mm → Prop
  | 0, _, _, _ => False
  | f + 1, v2, v3, M => (inR v3) ∧
    (if v3 < 1001 then
      Bd (wX12_behind0 v1 v3 M) (fun r5 M6 =>
      (inR r5) ∧
      (inR v2) ∧
      (if r5 < v2 then
        Bd (wX12_behind0 v1 v3 M6) (fun r12 M13 =>
        (wX12_leastOf_6 Q v1 f) r12 (v3 + 1) M13)
      else
        (wX12_leastOf_6 Q v1 f) v2 (v3 + 1) M6))
    else
      Q v2 M)
set_option maxHeartbeats 4000000 in
theorem s_wX12_leastOf_6 {Γ : Cx} {h : Nat} (hΓ : Ok Γ cX12_leastOf RX12 4 h 0 0) (hh : 2 ≤ h) (hr : (cxm Γ).sig.returnType = (some .int)) {Q : Int → Mm → Prop} {v1 : Int}   : ∀ (f : Nat) (v2 : Int) (v3 : Int) (M : Mm), wX12_leastOf_6 Q v1 f v2 v3 M → Wa Γ 4 (Kf Γ (QI Q) 0 0) 0 0 6 [(0, aR 102), (1, aI v1), (2, aI v2), (3, aI v3)] [] (NC, RF, M) := by
  intro f
  induction f with
  | zero => intro v2 v3 M h; exact h.elim
  | succ f ih =>
    intro v2 v3 M h
    unfold wX12_leastOf_6 at h
    refine a_iload_n hΓ 3 dX12_leastOf_6 rfl rfl ?_
    refine a_sipush hΓ dX12_leastOf_7 (by decide) ?_
    obtain ⟨g1, h⟩ := h
    refine a_icmp_ge (tgt := 40) hΓ g1 (inRl (by decide)) dX12_leastOf_10 (by decide) (fun c2 => ?_) (fun c2 => ?_)
    · rw [if_pos c2] at h
      refine a_aload_n hΓ 0 dX12_leastOf_13 rfl rfl ?_
      refine a_iload_n hΓ 1 dX12_leastOf_14 rfl rfl ?_
      refine a_iload_n hΓ 3 dX12_leastOf_15 rfl rfl ?_
      obtain ⟨P3, q4, h⟩ := h
      refine n_callV (c := 102) (av := [aI v1, aI v3]) (st := []) hΓ (ct_wX12_behind0 _ _ v1 v3 M P3 q4) my_X12_behind0 ml_RX12_298 ni_X12_behind0 kd_102 rfl lz_102 rfl (Nat.le_trans (by decide) hh) (by decide) (Nat.le_of_ble_eq_true rfl) rfl dX12_leastOf_16 (fun v Z' hq => ?_)
      obtain ⟨r5, M6, rfl, rfl, hq⟩ := hq
      have h := h r5 M6 hq
      dsimp only at h
      refine a_iload_n hΓ 2 dX12_leastOf_19 rfl rfl ?_
      obtain ⟨g7, h⟩ := h
      obtain ⟨g8, h⟩ := h
      refine a_icmp_ge (tgt := 32) hΓ g7 g8 dX12_leastOf_20 (by decide) (fun c9 => ?_) (fun c9 => ?_)
      · rw [if_pos c9] at h
        refine a_aload_n hΓ 0 dX12_leastOf_23 rfl rfl ?_
        refine a_iload_n hΓ 1 dX12_leastOf_24 rfl rfl ?_
        refine a_iload_n hΓ 3 dX12_leastOf_25 rfl rfl ?_
        obtain ⟨P10, q11, h⟩ := h
        refine n_callV (c := 102) (av := [aI v1, aI v3]) (st := []) hΓ (ct_wX12_behind0 _ _ v1 v3 M6 P10 q11) my_X12_behind0 ml_RX12_298 ni_X12_behind0 kd_102 rfl lz_102 rfl (Nat.le_trans (by decide) hh) (by decide) (Nat.le_of_ble_eq_true rfl) rfl dX12_leastOf_26 (fun v Z' hq => ?_)
        obtain ⟨r12, M13, rfl, rfl, hq⟩ := hq
        have h := h r12 M13 hq
        dsimp only at h
        refine a_goto (tgt := 33) hΓ dX12_leastOf_29 (by decide) ?_
        refine a_istore_n (ls' := [(2, aI r12), (0, aR 102), (1, aI v1), (3, aI v3)]) hΓ dX12_leastOf_33 rfl (by decide) rfl ?_
        refine a_iinc (ls' := [(3, aI (v3 + 1)), (2, aI r12), (0, aR 102), (1, aI v1)]) hΓ 3 dX12_leastOf_34 rfl (by decide) rfl ?_
        refine a_goto (tgt := 6) hΓ dX12_leastOf_37 (by decide) ?_
        refine a_sub (ls' := [(0, aR 102), (1, aI v1), (2, aI r12), (3, aI (v3 + 1))]) [2, 3, 1, 0] rfl ?_
        exact ih r12 (v3 + 1) M13 h
      · rw [if_neg c9] at h
        refine a_iload_n hΓ 2 dX12_leastOf_32 rfl rfl ?_
        refine a_istore_n (ls' := [(2, aI v2), (0, aR 102), (1, aI v1), (3, aI v3)]) hΓ dX12_leastOf_33 rfl (by decide) rfl ?_
        refine a_iinc (ls' := [(3, aI (v3 + 1)), (2, aI v2), (0, aR 102), (1, aI v1)]) hΓ 3 dX12_leastOf_34 rfl (by decide) rfl ?_
        refine a_goto (tgt := 6) hΓ dX12_leastOf_37 (by decide) ?_
        refine a_sub (ls' := [(0, aR 102), (1, aI v1), (2, aI v2), (3, aI (v3 + 1))]) [2, 3, 1, 0] rfl ?_
        exact ih v2 (v3 + 1) M6 h
    · rw [if_neg c2] at h
      refine a_iload_n hΓ 2 dX12_leastOf_40 rfl rfl ?_
      exact a_iret hΓ hr dX12_leastOf_41 ⟨_, _, rfl, rfl, h⟩
def wX12_leastOf (v1 : Int) (M : Mm) (Q : Int → Mm → Prop) : Prop :=
    ∃ n, wX12_leastOf_6 Q v1 n 1000000000 0 M
set_option maxHeartbeats 4000000 in
theorem s_wX12_leastOf {Γ : Cx} {h : Nat} (hΓ : Ok Γ cX12_leastOf RX12 4 h 0 0) (hh : 2 ≤ h) (hr : (cxm Γ).sig.returnType = (some .int)) {Q : Int → Mm → Prop} (v1 : Int) (M : Mm) (h : wX12_leastOf v1 M Q) : Wa Γ 4 (Kf Γ (QI Q) 0 0) 0 0 0 [(0, aR 102), (1, aI v1)] [] (NC, RF, M) := by
  unfold wX12_leastOf at h
  refine a_ldc_w hΓ gc_RX12_297 dX12_leastOf_0 ?_
  refine a_istore_n (ls' := [(2, aI 1000000000), (0, aR 102), (1, aI v1)]) hΓ dX12_leastOf_3 rfl (by decide) rfl ?_
  refine a_iconst hΓ dX12_leastOf_4 ?_
  refine a_istore_n (ls' := [(3, aI 0), (2, aI 1000000000), (0, aR 102), (1, aI v1)]) hΓ dX12_leastOf_5 rfl (by decide) rfl ?_
  refine a_sub (ls' := [(0, aR 102), (1, aI v1), (2, aI 1000000000), (3, aI 0)]) [2, 3, 1, 0] rfl ?_
  obtain ⟨f1, h⟩ := h
  exact s_wX12_leastOf_6 hΓ (Nat.le_trans (by decide) hh) hr  f1 1000000000 0 M h
theorem ct_wX12_leastOf (l : Launch) (g : Gp) (v1 : Int) (M : Mm) (Q : Int → Mm → Prop) (h : wX12_leastOf v1 M Q) : Ct l g yX12_leastOf cX12_leastOf 4 (some .int) 2 0 0 [aR 102, aI v1] (NC, RF, M) (QI Q) :=
  ct_of (by decide) (Nat.le_of_ble_eq_true rfl) (fun Γ hg hl hr _ hΓ => by subst hg; subst hl; exact s_wX12_leastOf hΓ (by decide) hr v1 M h)
def wX12_miss_400 (Q : Int → Mm → Prop) (v3 : Int) (M : Mm) : Prop :=
    Q v3 (up M 102 38 1)
set_option maxHeartbeats 4000000 in
theorem s_wX12_miss_400 {Γ : Cx} {h : Nat} (hΓ : Ok Γ cX12_miss RX12 10 h 0 0) (hh : 9 ≤ h) (hr : (cxm Γ).sig.returnType = (some .int)) {Q : Int → Mm → Prop} {v3 : Int}   (M : Mm) (h : wX12_miss_400 Q v3 M) : Wa Γ 10 (Kf Γ (QI Q) 0 0) 0 0 400 [(0, aR 102), (3, aI v3)] [] (NC, RF, M) := by
  unfold wX12_miss_400 at h
  refine a_aload_n hΓ 0 dX12_miss_400 rfl rfl ?_
  refine a_iconst hΓ dX12_miss_401 ?_
  refine n_putI (j := 38) hΓ fl_RX12_313 cl_12 nf_12_38 kd_102 lz_102 dX12_miss_402 (Or.inr ⟨ft_12_38, (Or.inr rfl)⟩) rfl ?_
  refine a_iload_n hΓ 1 dX12_miss_405 rfl rfl ?_
  exact a_iret hΓ hr dX12_miss_406 ⟨_, _, rfl, rfl, h⟩
def wX12_miss_385 (Q : Int → Mm → Prop) (k213 : Int → Mm → Prop) (v1 : Int) (v3 : Int) (v4 : Int) (v8 : Int) (M : Mm) : Prop :=
    (0 ≤ v4 ∧ v4 < 120) ∧
    k213 (v4 + 1) (up M 122 v4 v8)
set_option maxHeartbeats 4000000 in
theorem s_wX12_miss_385 {Γ : Cx} {h : Nat} (hΓ : Ok Γ cX12_miss RX12 10 h 0 0) (hh : 9 ≤ h) (hr : (cxm Γ).sig.returnType = (some .int)) {Q : Int → Mm → Prop} {v1 v3 v4 v8 : Int}  {k213 : Int → Mm → Prop} (hk213 : ∀ (v4 : Int) (M : Mm), k213 v4 M → Wa Γ 10 (Kf Γ (QI Q) 0 0) 0 0 213 [(0, aR 102), (1, aI v1), (3, aI v3), (4, aI v4)] [] (NC, RF, M)) (M : Mm) (h : wX12_miss_385 Q k213 v1 v3 v4 v8 M) : Wa Γ 10 (Kf Γ (QI Q) 0 0) 0 0 385 [(0, aR 102), (1, aI v1), (3, aI v3), (4, aI v4), (8, aI v8)] [] (NC, RF, M) := by
  unfold wX12_miss_385 at h
  refine a_aload_n hΓ 0 dX12_miss_385 rfl rfl ?_
  refine n_getR hΓ fl_RX12_87 cl_12 kd_102 lz_102 dX12_miss_386 ft_12_37 rf_102_37 ?_
  refine a_iload hΓ 3 dX12_miss_389 rfl ?_
  refine a_iload hΓ 4 dX12_miss_391 rfl ?_
  obtain ⟨g1, h⟩ := h
  refine a_iast hΓ dX12_miss_393 kd_122 lz_122 g1 ?_
  refine a_iinc (ls' := [(4, aI (v4 + 1)), (0, aR 102), (1, aI v1), (3, aI v3), (8, aI v8)]) hΓ 3 dX12_miss_394 rfl (by decide) rfl ?_
  refine a_goto (tgt := 213) hΓ dX12_miss_397 (by decide) ?_
  refine a_sub (ls' := [(0, aR 102), (1, aI v1), (3, aI v3), (4, aI (v4 + 1))]) [1, 2, 3, 0] rfl ?_
  exact hk213 (v4 + 1) (up M 122 v4 v8) h
def wX12_miss_323 (Q : Int → Mm → Prop) (k213 : Int → Mm → Prop) (v1 : Int) (v3 : Int) (v4 : Int) (v7 : Int) : Nat → Int → Int → Mm → Prop
  | 0, _, _, _ => False
  | f + 1, v8, v9, M => (inR v9) ∧
    (inR v7) ∧
    (if v9 ≤ v7 then
      (if v9 ≤ 1000 then
        (inR v8) ∧
        (if v8 = (-1) then
          (wX12_miss_323 Q k213 v1 v3 v4 v7 f) v9 (v9 + 1) M
        else
          (0 ≤ ((1001 * v4) + v9) ∧ ((1001 * v4) + v9) < 120120) ∧
          (0 ≤ ((1001 * v4) + v8) ∧ ((1001 * v4) + v8) < 120120) ∧
          (inR (M 118 ((1001 * v4) + v9))) ∧
          (inR (M 118 ((1001 * v4) + v8))) ∧
          (if (M 118 ((1001 * v4) + v9)) < (M 118 ((1001 * v4) + v8)) then
            (wX12_miss_323 Q k213 v1 v3 v4 v7 f) v9 (v9 + 1) M
          else
            (wX12_miss_323 Q k213 v1 v3 v4 v7 f) v8 (v9 + 1) M))
      else
        wX12_miss_385 Q k213 v1 v3 v4 v8 M)
    else
      wX12_miss_385 Q k213 v1 v3 v4 v8 M)
set_option maxHeartbeats 4000000 in
theorem s_wX12_miss_323 {Γ : Cx} {h : Nat} (hΓ : Ok Γ cX12_miss RX12 10 h 0 0) (hh : 9 ≤ h) (hr : (cxm Γ).sig.returnType = (some .int)) {Q : Int → Mm → Prop} {v1 v3 v4 v7 : Int}  {k213 : Int → Mm → Prop} (hk213 : ∀ (v4 : Int) (M : Mm), k213 v4 M → Wa Γ 10 (Kf Γ (QI Q) 0 0) 0 0 213 [(0, aR 102), (1, aI v1), (3, aI v3), (4, aI v4)] [] (NC, RF, M)) : ∀ (f : Nat) (v8 : Int) (v9 : Int) (M : Mm), wX12_miss_323 Q k213 v1 v3 v4 v7 f v8 v9 M → Wa Γ 10 (Kf Γ (QI Q) 0 0) 0 0 323 [(0, aR 102), (1, aI v1), (3, aI v3), (4, aI v4), (7, aI v7), (8, aI v8), (9, aI v9)] [] (NC, RF, M) := by
  intro f
  induction f with
  | zero => intro v8 v9 M h; exact h.elim
  | succ f ih =>
    intro v8 v9 M h
    unfold wX12_miss_323 at h
    refine a_iload hΓ 6 dX12_miss_323 rfl ?_
    refine a_iload hΓ 4 dX12_miss_325 rfl ?_
    obtain ⟨g1, h⟩ := h
    obtain ⟨g2, h⟩ := h
    refine a_icmp_gt (tgt := 385) hΓ g1 g2 dX12_miss_327 (by decide) (fun c3 => ?_) (fun c3 => ?_)
    · rw [if_pos c3] at h
      refine a_iload hΓ 6 dX12_miss_330 rfl ?_
      refine a_sipush hΓ dX12_miss_332 (by decide) ?_
      refine a_icmp_gt (tgt := 385) hΓ g1 (inRl (by decide)) dX12_miss_335 (by decide) (fun c4 => ?_) (fun c4 => ?_)
      · rw [if_pos c4] at h
        refine a_iload hΓ 5 dX12_miss_338 rfl ?_
        refine a_iconst hΓ dX12_miss_340 ?_
        obtain ⟨g5, h⟩ := h
        refine a_icmp_eq (tgt := 375) hΓ g5 (inRl (by decide)) dX12_miss_341 (by decide) (fun c6 => ?_) (fun c6 => ?_)
        · rw [if_pos c6] at h
          refine a_iload hΓ 6 dX12_miss_375 rfl ?_
          refine a_istore (ls' := [(8, aI v9), (0, aR 102), (1, aI v1), (3, aI v3), (4, aI v4), (7, aI v7), (9, aI v9)]) hΓ dX12_miss_377 (by decide) rfl ?_
          refine a_iinc (ls' := [(9, aI (v9 + 1)), (8, aI v9), (0, aR 102), (1, aI v1), (3, aI v3), (4, aI v4), (7, aI v7)]) hΓ 6 dX12_miss_379 rfl (by decide) rfl ?_
          refine a_goto (tgt := 323) hΓ dX12_miss_382 (by decide) ?_
          refine a_sub (ls' := [(0, aR 102), (1, aI v1), (3, aI v3), (4, aI v4), (7, aI v7), (8, aI v9), (9, aI (v9 + 1))]) [2, 3, 4, 5, 6, 1, 0] rfl ?_
          exact ih v9 (v9 + 1) M h
        · rw [if_neg c6] at h
          refine a_aload_n hΓ 0 dX12_miss_344 rfl rfl ?_
          refine n_getR hΓ fl_RX12_75 cl_12 kd_102 lz_102 dX12_miss_345 ft_12_33 rf_102_33 ?_
          refine a_sipush hΓ dX12_miss_348 (by decide) ?_
          refine a_iload hΓ 3 dX12_miss_351 rfl ?_
          refine a_imul hΓ dX12_miss_353 ?_
          refine a_iload hΓ 6 dX12_miss_354 rfl ?_
          refine a_iadd hΓ dX12_miss_356 ?_
          obtain ⟨g7, h⟩ := h
          refine n_iald (x := (M 118 ((1001 * v4) + v9))) hΓ dX12_miss_357 kd_118 lz_118 g7 rfl ?_
          refine a_aload_n hΓ 0 dX12_miss_358 rfl rfl ?_
          refine n_getR hΓ fl_RX12_75 cl_12 kd_102 lz_102 dX12_miss_359 ft_12_33 rf_102_33 ?_
          refine a_sipush hΓ dX12_miss_362 (by decide) ?_
          refine a_iload hΓ 3 dX12_miss_365 rfl ?_
          refine a_imul hΓ dX12_miss_367 ?_
          refine a_iload hΓ 5 dX12_miss_368 rfl ?_
          refine a_iadd hΓ dX12_miss_370 ?_
          obtain ⟨g8, h⟩ := h
          refine n_iald (x := (M 118 ((1001 * v4) + v8))) hΓ dX12_miss_371 kd_118 lz_118 g8 rfl ?_
          obtain ⟨g9, h⟩ := h
          obtain ⟨g10, h⟩ := h
          refine a_icmp_ge (tgt := 379) hΓ g9 g10 dX12_miss_372 (by decide) (fun c11 => ?_) (fun c11 => ?_)
          · rw [if_pos c11] at h
            refine a_iload hΓ 6 dX12_miss_375 rfl ?_
            refine a_istore (ls' := [(8, aI v9), (0, aR 102), (1, aI v1), (3, aI v3), (4, aI v4), (7, aI v7), (9, aI v9)]) hΓ dX12_miss_377 (by decide) rfl ?_
            refine a_iinc (ls' := [(9, aI (v9 + 1)), (8, aI v9), (0, aR 102), (1, aI v1), (3, aI v3), (4, aI v4), (7, aI v7)]) hΓ 6 dX12_miss_379 rfl (by decide) rfl ?_
            refine a_goto (tgt := 323) hΓ dX12_miss_382 (by decide) ?_
            refine a_sub (ls' := [(0, aR 102), (1, aI v1), (3, aI v3), (4, aI v4), (7, aI v7), (8, aI v9), (9, aI (v9 + 1))]) [2, 3, 4, 5, 6, 1, 0] rfl ?_
            exact ih v9 (v9 + 1) M h
          · rw [if_neg c11] at h
            refine a_iinc (ls' := [(9, aI (v9 + 1)), (0, aR 102), (1, aI v1), (3, aI v3), (4, aI v4), (7, aI v7), (8, aI v8)]) hΓ 6 dX12_miss_379 rfl (by decide) rfl ?_
            refine a_goto (tgt := 323) hΓ dX12_miss_382 (by decide) ?_
            refine a_sub (ls' := [(0, aR 102), (1, aI v1), (3, aI v3), (4, aI v4), (7, aI v7), (8, aI v8), (9, aI (v9 + 1))]) [1, 2, 3, 4, 5, 6, 0] rfl ?_
            exact ih v8 (v9 + 1) M h
      · rw [if_neg c4] at h
        refine a_sub (ls' := [(0, aR 102), (1, aI v1), (3, aI v3), (4, aI v4), (8, aI v8)]) [0, 1, 2, 3, 5] rfl ?_
        exact s_wX12_miss_385 hΓ (Nat.le_trans (by decide) hh) hr hk213 M h
    · rw [if_neg c3] at h
      refine a_sub (ls' := [(0, aR 102), (1, aI v1), (3, aI v3), (4, aI v4), (8, aI v8)]) [0, 1, 2, 3, 5] rfl ?_
      exact s_wX12_miss_385 hΓ (Nat.le_trans (by decide) hh) hr hk213 M h
def wX12_miss_305 (Q : Int → Mm → Prop) (k213 : Int → Mm → Prop) (v1 : Int) (v3 : Int) (v4 : Int) (v6 : Int) (s0 : Int) (M : Mm) : Prop :=
    (inR v6) ∧
    (if v6 < 0 then
      ∃ n, wX12_miss_323 Q k213 v1 v3 v4 s0 n (-1) 0 M
    else
      ∃ n, wX12_miss_323 Q k213 v1 v3 v4 s0 n (-1) v6 M)
set_option maxHeartbeats 4000000 in
theorem s_wX12_miss_305 {Γ : Cx} {h : Nat} (hΓ : Ok Γ cX12_miss RX12 10 h 0 0) (hh : 9 ≤ h) (hr : (cxm Γ).sig.returnType = (some .int)) {Q : Int → Mm → Prop} {v1 v3 v4 v6 s0 : Int}  {k213 : Int → Mm → Prop} (hk213 : ∀ (v4 : Int) (M : Mm), k213 v4 M → Wa Γ 10 (Kf Γ (QI Q) 0 0) 0 0 213 [(0, aR 102), (1, aI v1), (3, aI v3), (4, aI v4)] [] (NC, RF, M)) (M : Mm) (h : wX12_miss_305 Q k213 v1 v3 v4 v6 s0 M) : Wa Γ 10 (Kf Γ (QI Q) 0 0) 0 0 305 [(0, aR 102), (1, aI v1), (3, aI v3), (4, aI v4), (6, aI v6)] [aI s0] (NC, RF, M) := by
  unfold wX12_miss_305 at h
  refine a_istore (ls' := [(7, aI s0), (0, aR 102), (1, aI v1), (3, aI v3), (4, aI v4), (6, aI v6)]) hΓ dX12_miss_305 (by decide) rfl ?_
  refine a_iconst hΓ dX12_miss_307 ?_
  refine a_istore (ls' := [(8, aI (-1)), (7, aI s0), (0, aR 102), (1, aI v1), (3, aI v3), (4, aI v4), (6, aI v6)]) hΓ dX12_miss_308 (by decide) rfl ?_
  refine a_iload hΓ 6 dX12_miss_310 rfl ?_
  obtain ⟨g1, h⟩ := h
  refine a_if_ge (tgt := 319) hΓ g1 dX12_miss_312 (by decide) (fun c2 => ?_) (fun c2 => ?_)
  · rw [if_pos c2] at h
    refine a_iconst hΓ dX12_miss_315 ?_
    refine a_goto (tgt := 321) hΓ dX12_miss_316 (by decide) ?_
    refine a_istore (ls' := [(9, aI 0), (8, aI (-1)), (7, aI s0), (0, aR 102), (1, aI v1), (3, aI v3), (4, aI v4), (6, aI v6)]) hΓ dX12_miss_321 (by decide) rfl ?_
    refine a_sub (ls' := [(0, aR 102), (1, aI v1), (3, aI v3), (4, aI v4), (7, aI s0), (8, aI (-1)), (9, aI 0)]) [3, 4, 5, 6, 2, 1, 0] rfl ?_
    obtain ⟨f3, h⟩ := h
    exact s_wX12_miss_323 hΓ (Nat.le_trans (by decide) hh) hr hk213 f3 (-1) 0 M h
  · rw [if_neg c2] at h
    refine a_iload hΓ 6 dX12_miss_319 rfl ?_
    refine a_istore (ls' := [(9, aI v6), (8, aI (-1)), (7, aI s0), (0, aR 102), (1, aI v1), (3, aI v3), (4, aI v4), (6, aI v6)]) hΓ dX12_miss_321 (by decide) rfl ?_
    refine a_sub (ls' := [(0, aR 102), (1, aI v1), (3, aI v3), (4, aI v4), (7, aI s0), (8, aI (-1)), (9, aI v6)]) [3, 4, 5, 6, 2, 1, 0] rfl ?_
    obtain ⟨f4, h⟩ := h
    exact s_wX12_miss_323 hΓ (Nat.le_trans (by decide) hh) hr hk213 f4 (-1) v6 M h
def wX12_miss_272 (Q : Int → Mm → Prop) (k213 : Int → Mm → Prop) (v1 : Int) (v3 : Int) (v4 : Int) (v5 : Int) (s0 : Int) (M : Mm) : Prop :=
    (inR v5) ∧
    (if v5 = 0 then
      (0 ≤ (v4 - 1) ∧ (v4 - 1) < 120) ∧
      Bd (wX12_byTable v1 (v4 - 1) 1 M) (fun r6 M7 =>
      wX12_miss_305 Q k213 v1 v3 v4 s0 ((M 122 (v4 - 1)) + r6) M7)
    else
      wX12_miss_305 Q k213 v1 v3 v4 s0 1000 M)
set_option maxHeartbeats 4000000 in
theorem s_wX12_miss_272 {Γ : Cx} {h : Nat} (hΓ : Ok Γ cX12_miss RX12 10 h 0 0) (hh : 9 ≤ h) (hr : (cxm Γ).sig.returnType = (some .int)) {Q : Int → Mm → Prop} {v1 v3 v4 v5 s0 : Int}  {k213 : Int → Mm → Prop} (hk213 : ∀ (v4 : Int) (M : Mm), k213 v4 M → Wa Γ 10 (Kf Γ (QI Q) 0 0) 0 0 213 [(0, aR 102), (1, aI v1), (3, aI v3), (4, aI v4)] [] (NC, RF, M)) (M : Mm) (h : wX12_miss_272 Q k213 v1 v3 v4 v5 s0 M) : Wa Γ 10 (Kf Γ (QI Q) 0 0) 0 0 272 [(0, aR 102), (1, aI v1), (3, aI v3), (4, aI v4), (5, aI v5)] [aI s0] (NC, RF, M) := by
  unfold wX12_miss_272 at h
  refine a_istore (ls' := [(6, aI s0), (0, aR 102), (1, aI v1), (3, aI v3), (4, aI v4), (5, aI v5)]) hΓ dX12_miss_272 (by decide) rfl ?_
  refine a_iload hΓ 5 dX12_miss_274 rfl ?_
  obtain ⟨g1, h⟩ := h
  refine a_if_eq (tgt := 285) hΓ g1 dX12_miss_276 (by decide) (fun c2 => ?_) (fun c2 => ?_)
  · rw [if_pos c2] at h
    refine a_aload_n hΓ 1 dX12_miss_285 rfl rfl ?_
    refine n_getR hΓ fl_RX12_87 cl_12 kd_102 lz_102 dX12_miss_286 ft_12_37 rf_102_37 ?_
    refine a_iload hΓ 4 dX12_miss_289 rfl ?_
    refine a_iconst hΓ dX12_miss_291 ?_
    refine a_isub hΓ dX12_miss_292 ?_
    obtain ⟨g3, h⟩ := h
    refine n_iald (x := (M 122 (v4 - 1))) hΓ dX12_miss_293 kd_122 lz_122 g3 rfl ?_
    refine a_aload_n hΓ 1 dX12_miss_294 rfl rfl ?_
    refine a_iload_n hΓ 2 dX12_miss_295 rfl rfl ?_
    refine a_iload hΓ 4 dX12_miss_296 rfl ?_
    refine a_iconst hΓ dX12_miss_298 ?_
    refine a_isub hΓ dX12_miss_299 ?_
    refine a_iconst hΓ dX12_miss_300 ?_
    obtain ⟨P4, q5, h⟩ := h
    refine n_callV (c := 102) (av := [aI v1, aI (v4 - 1), aI 1]) (st := [aI (M 122 (v4 - 1))]) hΓ (ct_wX12_byTable _ _ v1 (v4 - 1) 1 M P4 q5) my_X12_byTable ml_RX12_137 ni_X12_byTable kd_102 rfl lz_102 rfl (Nat.le_trans (by decide) hh) (by decide) (Nat.le_of_ble_eq_true rfl) rfl dX12_miss_301 (fun v Z' hq => ?_)
    obtain ⟨r6, M7, rfl, rfl, hq⟩ := hq
    have h := h r6 M7 hq
    dsimp only at h
    refine a_iadd hΓ dX12_miss_304 ?_
    refine a_sub (ls' := [(0, aR 102), (1, aI v1), (3, aI v3), (4, aI v4), (6, aI s0)]) [1, 2, 3, 4, 0] rfl ?_
    exact s_wX12_miss_305 hΓ (Nat.le_trans (by decide) hh) hr hk213 M7 h
  · rw [if_neg c2] at h
    refine a_sipush hΓ dX12_miss_279 (by decide) ?_
    refine a_goto (tgt := 305) hΓ dX12_miss_282 (by decide) ?_
    refine a_sub (ls' := [(0, aR 102), (1, aI v1), (3, aI v3), (4, aI v4), (6, aI s0)]) [1, 2, 3, 4, 0] rfl ?_
    exact s_wX12_miss_305 hΓ (Nat.le_trans (by decide) hh) hr hk213 M h
def wX12_miss_241 (Q : Int → Mm → Prop) (k213 : Int → Mm → Prop) (v1 : Int) (v3 : Int) (v4 : Int) (s0 : Int) (M : Mm) : Prop :=
    (inR s0) ∧
    (if s0 = 0 then
      (0 ≤ (v4 - 1) ∧ (v4 - 1) < 120) ∧
      Bd (wX12_byTable v1 (v4 - 1) 0 M) (fun r6 M7 =>
      wX12_miss_272 Q k213 v1 v3 v4 s0 ((M 122 (v4 - 1)) + r6) M7)
    else
      wX12_miss_272 Q k213 v1 v3 v4 s0 0 M)
set_option maxHeartbeats 4000000 in
theorem s_wX12_miss_241 {Γ : Cx} {h : Nat} (hΓ : Ok Γ cX12_miss RX12 10 h 0 0) (hh : 9 ≤ h) (hr : (cxm Γ).sig.returnType = (some .int)) {Q : Int → Mm → Prop} {v1 v3 v4 s0 : Int}  {k213 : Int → Mm → Prop} (hk213 : ∀ (v4 : Int) (M : Mm), k213 v4 M → Wa Γ 10 (Kf Γ (QI Q) 0 0) 0 0 213 [(0, aR 102), (1, aI v1), (3, aI v3), (4, aI v4)] [] (NC, RF, M)) (M : Mm) (h : wX12_miss_241 Q k213 v1 v3 v4 s0 M) : Wa Γ 10 (Kf Γ (QI Q) 0 0) 0 0 241 [(0, aR 102), (1, aI v1), (3, aI v3), (4, aI v4)] [aI s0] (NC, RF, M) := by
  unfold wX12_miss_241 at h
  refine a_istore (ls' := [(5, aI s0), (0, aR 102), (1, aI v1), (3, aI v3), (4, aI v4)]) hΓ dX12_miss_241 (by decide) rfl ?_
  refine a_iload hΓ 0 dX12_miss_243 rfl ?_
  obtain ⟨g1, h⟩ := h
  refine a_if_eq (tgt := 252) hΓ g1 dX12_miss_245 (by decide) (fun c2 => ?_) (fun c2 => ?_)
  · rw [if_pos c2] at h
    refine a_aload_n hΓ 1 dX12_miss_252 rfl rfl ?_
    refine n_getR hΓ fl_RX12_87 cl_12 kd_102 lz_102 dX12_miss_253 ft_12_37 rf_102_37 ?_
    refine a_iload hΓ 4 dX12_miss_256 rfl ?_
    refine a_iconst hΓ dX12_miss_258 ?_
    refine a_isub hΓ dX12_miss_259 ?_
    obtain ⟨g3, h⟩ := h
    refine n_iald (x := (M 122 (v4 - 1))) hΓ dX12_miss_260 kd_122 lz_122 g3 rfl ?_
    refine a_aload_n hΓ 1 dX12_miss_261 rfl rfl ?_
    refine a_iload_n hΓ 2 dX12_miss_262 rfl rfl ?_
    refine a_iload hΓ 4 dX12_miss_263 rfl ?_
    refine a_iconst hΓ dX12_miss_265 ?_
    refine a_isub hΓ dX12_miss_266 ?_
    refine a_iconst hΓ dX12_miss_267 ?_
    obtain ⟨P4, q5, h⟩ := h
    refine n_callV (c := 102) (av := [aI v1, aI (v4 - 1), aI 0]) (st := [aI (M 122 (v4 - 1))]) hΓ (ct_wX12_byTable _ _ v1 (v4 - 1) 0 M P4 q5) my_X12_byTable ml_RX12_137 ni_X12_byTable kd_102 rfl lz_102 rfl (Nat.le_trans (by decide) hh) (by decide) (Nat.le_of_ble_eq_true rfl) rfl dX12_miss_268 (fun v Z' hq => ?_)
    obtain ⟨r6, M7, rfl, rfl, hq⟩ := hq
    have h := h r6 M7 hq
    dsimp only at h
    refine a_iadd hΓ dX12_miss_271 ?_
    refine a_sub (ls' := [(0, aR 102), (1, aI v1), (3, aI v3), (4, aI v4), (5, aI s0)]) [1, 2, 3, 4, 0] rfl ?_
    exact s_wX12_miss_272 hΓ (Nat.le_trans (by decide) hh) hr hk213 M7 h
  · rw [if_neg c2] at h
    refine a_iconst hΓ dX12_miss_248 ?_
    refine a_goto (tgt := 272) hΓ dX12_miss_249 (by decide) ?_
    refine a_sub (ls' := [(0, aR 102), (1, aI v1), (3, aI v3), (4, aI v4), (5, aI s0)]) [1, 2, 3, 4, 0] rfl ?_
    exact s_wX12_miss_272 hΓ (Nat.le_trans (by decide) hh) hr hk213 M h
def wX12_miss_213 (Q : Int → Mm → Prop) (v1 : Int) (v3 : Int) : Nat → Int → Mm → Prop
  | 0, _, _ => False
  | f + 1, v4, M => (inR v4) ∧
    (if v4 < 120 then
      (if v4 = 0 then
        wX12_miss_241 Q (wX12_miss_213 Q v1 v3 f) v1 v3 v4 1 M
      else
        Bd (wX12_leftOn v1 v4 M) (fun r6 M7 =>
        (inR r6) ∧
        (if r6 = (-1) then
          wX12_miss_241 Q (wX12_miss_213 Q v1 v3 f) v1 v3 v4 0 M7
        else
          wX12_miss_241 Q (wX12_miss_213 Q v1 v3 f) v1 v3 v4 1 M7)))
    else
      wX12_miss_400 Q v3 M)
set_option maxHeartbeats 4000000 in
theorem s_wX12_miss_213 {Γ : Cx} {h : Nat} (hΓ : Ok Γ cX12_miss RX12 10 h 0 0) (hh : 9 ≤ h) (hr : (cxm Γ).sig.returnType = (some .int)) {Q : Int → Mm → Prop} {v1 v3 : Int}   : ∀ (f : Nat) (v4 : Int) (M : Mm), wX12_miss_213 Q v1 v3 f v4 M → Wa Γ 10 (Kf Γ (QI Q) 0 0) 0 0 213 [(0, aR 102), (1, aI v1), (3, aI v3), (4, aI v4)] [] (NC, RF, M) := by
  intro f
  induction f with
  | zero => intro v4 M h; exact h.elim
  | succ f ih =>
    intro v4 M h
    unfold wX12_miss_213 at h
    refine a_iload hΓ 3 dX12_miss_213 rfl ?_
    refine a_bipush hΓ dX12_miss_215 (by decide) ?_
    obtain ⟨g1, h⟩ := h
    refine a_icmp_ge (tgt := 400) hΓ g1 (inRl (by decide)) dX12_miss_217 (by decide) (fun c2 => ?_) (fun c2 => ?_)
    · rw [if_pos c2] at h
      refine a_iload hΓ 3 dX12_miss_220 rfl ?_
      refine a_if_eq (tgt := 236) hΓ g1 dX12_miss_222 (by decide) (fun c3 => ?_) (fun c3 => ?_)
      · rw [if_pos c3] at h
        refine a_iconst hΓ dX12_miss_236 ?_
        refine a_goto (tgt := 241) hΓ dX12_miss_237 (by decide) ?_
        exact s_wX12_miss_241 hΓ (Nat.le_trans (by decide) hh) hr ih M h
      · rw [if_neg c3] at h
        refine a_aload_n hΓ 0 dX12_miss_225 rfl rfl ?_
        refine a_iload_n hΓ 1 dX12_miss_226 rfl rfl ?_
        refine a_iload hΓ 3 dX12_miss_227 rfl ?_
        obtain ⟨P4, q5, h⟩ := h
        refine n_callV (c := 102) (av := [aI v1, aI v4]) (st := []) hΓ (ct_wX12_leftOn _ _ v1 v4 M P4 q5) my_X12_leftOn ml_RX12_116 ni_X12_leftOn kd_102 rfl lz_102 rfl (Nat.le_trans (by decide) hh) (by decide) (Nat.le_of_ble_eq_true rfl) rfl dX12_miss_229 (fun v Z' hq => ?_)
        obtain ⟨r6, M7, rfl, rfl, hq⟩ := hq
        have h := h r6 M7 hq
        dsimp only at h
        refine a_iconst hΓ dX12_miss_232 ?_
        obtain ⟨g8, h⟩ := h
        refine a_icmp_eq (tgt := 240) hΓ g8 (inRl (by decide)) dX12_miss_233 (by decide) (fun c9 => ?_) (fun c9 => ?_)
        · rw [if_pos c9] at h
          refine a_iconst hΓ dX12_miss_240 ?_
          exact s_wX12_miss_241 hΓ (Nat.le_trans (by decide) hh) hr ih M7 h
        · rw [if_neg c9] at h
          refine a_iconst hΓ dX12_miss_236 ?_
          refine a_goto (tgt := 241) hΓ dX12_miss_237 (by decide) ?_
          exact s_wX12_miss_241 hΓ (Nat.le_trans (by decide) hh) hr ih M7 h
    · rw [if_neg c2] at h
      refine a_sub (ls' := [(0, aR 102), (3, aI v3)]) [0, 2] rfl ?_
      exact s_wX12_miss_400 hΓ (Nat.le_trans (by decide) hh) hr  M h
def wX12_miss_195 (Q : Int → Mm → Prop) (v1 : Int) (M : Mm) : Prop :=
    Bd (wX12_leastOf 0 M) (fun r3 M4 =>
    (inR r3) ∧
    (if r3 < 1000000000 then
      ∃ n, wX12_miss_213 Q v1 r3 n 0 M4
    else
      Q (-1) M4))
set_option maxHeartbeats 4000000 in
theorem s_wX12_miss_195 {Γ : Cx} {h : Nat} (hΓ : Ok Γ cX12_miss RX12 10 h 0 0) (hh : 9 ≤ h) (hr : (cxm Γ).sig.returnType = (some .int)) {Q : Int → Mm → Prop} {v1 : Int}   (M : Mm) (h : wX12_miss_195 Q v1 M) : Wa Γ 10 (Kf Γ (QI Q) 0 0) 0 0 195 [(0, aR 102), (1, aI v1)] [] (NC, RF, M) := by
  unfold wX12_miss_195 at h
  refine a_aload_n hΓ 0 dX12_miss_195 rfl rfl ?_
  refine a_iconst hΓ dX12_miss_196 ?_
  obtain ⟨P1, q2, h⟩ := h
  refine n_callV (c := 102) (av := [aI 0]) (st := []) hΓ (ct_wX12_leastOf _ _ 0 M P1 q2) my_X12_leastOf ml_RX12_307 ni_X12_leastOf kd_102 rfl lz_102 rfl (Nat.le_trans (by decide) hh) (by decide) (Nat.le_of_ble_eq_true rfl) rfl dX12_miss_197 (fun v Z' hq => ?_)
  obtain ⟨r3, M4, rfl, rfl, hq⟩ := hq
  have h := h r3 M4 hq
  dsimp only at h
  refine a_istore_n (ls' := [(3, aI r3), (0, aR 102), (1, aI v1)]) hΓ dX12_miss_200 rfl (by decide) rfl ?_
  refine a_iload_n hΓ 0 dX12_miss_201 rfl rfl ?_
  refine a_ldc_w hΓ gc_RX12_297 dX12_miss_202 ?_
  obtain ⟨g5, h⟩ := h
  refine a_icmp_lt (tgt := 210) hΓ g5 (inRl (by decide)) dX12_miss_205 (by decide) (fun c6 => ?_) (fun c6 => ?_)
  · rw [if_pos c6] at h
    refine a_iconst hΓ dX12_miss_210 ?_
    refine a_istore (ls' := [(4, aI 0), (3, aI r3), (0, aR 102), (1, aI v1)]) hΓ dX12_miss_211 (by decide) rfl ?_
    refine a_sub (ls' := [(0, aR 102), (1, aI v1), (3, aI r3), (4, aI 0)]) [2, 3, 1, 0] rfl ?_
    obtain ⟨f7, h⟩ := h
    exact s_wX12_miss_213 hΓ (Nat.le_trans (by decide) hh) hr  f7 0 M4 h
  · rw [if_neg c6] at h
    refine a_iconst hΓ dX12_miss_208 ?_
    exact a_iret hΓ hr dX12_miss_209 ⟨_, _, rfl, rfl, h⟩
def wX12_miss_116 (Q : Int → Mm → Prop) (k31 : Int → Mm → Prop) (v1 : Int) (v3 : Int) (v4 : Int) : Nat → Int → Mm → Prop
  | 0, _, _ => False
  | f + 1, v5, M => (inR v5) ∧
    (if v5 < 1001 then
      (0 ≤ ((1001 * v3) + v5) ∧ ((1001 * v3) + v5) < 120120) ∧
      (inR v3) ∧
      (if v3 = 119 then
        Bd (wX12_adds2 (M 117 ((1001 * v3) + v5)) v4 M) (fun r8 M9 =>
        (wX12_miss_116 Q k31 v1 v3 v4 f) (v5 + 1) (up M9 118 ((1001 * v3) + v5) r8))
      else
        Bd (wX12_leftOn v1 (v3 + 1) M) (fun r12 M13 =>
        (inR r12) ∧
        (if r12 = (-1) then
          (0 ≤ v5 ∧ v5 < 1001) ∧
          Bd (wX12_adds2 (M 117 ((1001 * v3) + v5)) (M13 119 v5) M13) (fun r19 M20 =>
          (wX12_miss_116 Q k31 v1 v3 v4 f) (v5 + 1) (up M20 118 ((1001 * v3) + v5) r19))
        else
          Bd (wX12_adds2 (M 117 ((1001 * v3) + v5)) v4 M13) (fun r23 M24 =>
          (wX12_miss_116 Q k31 v1 v3 v4 f) (v5 + 1) (up M24 118 ((1001 * v3) + v5) r23)))))
    else
      k31 (v3 + (-1)) M)
set_option maxHeartbeats 4000000 in
theorem s_wX12_miss_116 {Γ : Cx} {h : Nat} (hΓ : Ok Γ cX12_miss RX12 10 h 0 0) (hh : 9 ≤ h) (hr : (cxm Γ).sig.returnType = (some .int)) {Q : Int → Mm → Prop} {v1 v3 v4 : Int}  {k31 : Int → Mm → Prop} (hk31 : ∀ (v3 : Int) (M : Mm), k31 v3 M → Wa Γ 10 (Kf Γ (QI Q) 0 0) 0 0 31 [(0, aR 102), (1, aI v1), (3, aI v3)] [] (NC, RF, M)) : ∀ (f : Nat) (v5 : Int) (M : Mm), wX12_miss_116 Q k31 v1 v3 v4 f v5 M → Wa Γ 10 (Kf Γ (QI Q) 0 0) 0 0 116 [(0, aR 102), (1, aI v1), (3, aI v3), (4, aI v4), (5, aI v5)] [] (NC, RF, M) := by
  intro f
  induction f with
  | zero => intro v5 M h; exact h.elim
  | succ f ih =>
    intro v5 M h
    unfold wX12_miss_116 at h
    refine a_iload hΓ 4 dX12_miss_116 rfl ?_
    refine a_sipush hΓ dX12_miss_118 (by decide) ?_
    obtain ⟨g1, h⟩ := h
    refine a_icmp_ge (tgt := 189) hΓ g1 (inRl (by decide)) dX12_miss_121 (by decide) (fun c2 => ?_) (fun c2 => ?_)
    · rw [if_pos c2] at h
      refine a_aload_n hΓ 0 dX12_miss_124 rfl rfl ?_
      refine n_getR hΓ fl_RX12_75 cl_12 kd_102 lz_102 dX12_miss_125 ft_12_33 rf_102_33 ?_
      refine a_sipush hΓ dX12_miss_128 (by decide) ?_
      refine a_iload_n hΓ 2 dX12_miss_131 rfl rfl ?_
      refine a_imul hΓ dX12_miss_132 ?_
      refine a_iload hΓ 4 dX12_miss_133 rfl ?_
      refine a_iadd hΓ dX12_miss_135 ?_
      refine a_aload_n hΓ 0 dX12_miss_136 rfl rfl ?_
      refine n_getR hΓ fl_RX12_72 cl_12 kd_102 lz_102 dX12_miss_137 ft_12_32 rf_102_32 ?_
      refine a_sipush hΓ dX12_miss_140 (by decide) ?_
      refine a_iload_n hΓ 2 dX12_miss_143 rfl rfl ?_
      refine a_imul hΓ dX12_miss_144 ?_
      refine a_iload hΓ 4 dX12_miss_145 rfl ?_
      refine a_iadd hΓ dX12_miss_147 ?_
      obtain ⟨g3, h⟩ := h
      refine n_iald (x := (M 117 ((1001 * v3) + v5))) hΓ dX12_miss_148 kd_117 lz_117 g3 rfl ?_
      refine a_iload_n hΓ 2 dX12_miss_149 rfl rfl ?_
      refine a_bipush hΓ dX12_miss_150 (by decide) ?_
      obtain ⟨g4, h⟩ := h
      refine a_icmp_eq (tgt := 167) hΓ g4 (inRl (by decide)) dX12_miss_152 (by decide) (fun c5 => ?_) (fun c5 => ?_)
      · rw [if_pos c5] at h
        refine a_iload hΓ 3 dX12_miss_167 rfl ?_
        refine a_goto (tgt := 179) hΓ dX12_miss_169 (by decide) ?_
        obtain ⟨P6, q7, h⟩ := h
        refine n_callS (av := [aI (M 117 ((1001 * v3) + v5)), aI v4]) (st := [aI ((1001 * v3) + v5), aR 118]) hΓ (ct_wX12_adds2 _ _ (M 117 ((1001 * v3) + v5)) v4 M P6 q7) my_X12_adds2 ml_RX12_310 rfl (Nat.le_trans (by decide) hh) (by decide) (Nat.le_of_ble_eq_true rfl) rfl dX12_miss_179 (fun v Z' hq => ?_)
        obtain ⟨r8, M9, rfl, rfl, hq⟩ := hq
        have h := h r8 M9 hq
        dsimp only at h
        refine a_iast hΓ dX12_miss_182 kd_118 lz_118 g3 ?_
        refine a_iinc (ls' := [(5, aI (v5 + 1)), (0, aR 102), (1, aI v1), (3, aI v3), (4, aI v4)]) hΓ 4 dX12_miss_183 rfl (by decide) rfl ?_
        refine a_goto (tgt := 116) hΓ dX12_miss_186 (by decide) ?_
        refine a_sub (ls' := [(0, aR 102), (1, aI v1), (3, aI v3), (4, aI v4), (5, aI (v5 + 1))]) [1, 2, 3, 4, 0] rfl ?_
        exact ih (v5 + 1) (up M9 118 ((1001 * v3) + v5) r8) h
      · rw [if_neg c5] at h
        refine a_aload_n hΓ 0 dX12_miss_155 rfl rfl ?_
        refine a_iload_n hΓ 1 dX12_miss_156 rfl rfl ?_
        refine a_iload_n hΓ 2 dX12_miss_157 rfl rfl ?_
        refine a_iconst hΓ dX12_miss_158 ?_
        refine a_iadd hΓ dX12_miss_159 ?_
        obtain ⟨P10, q11, h⟩ := h
        refine n_callV (c := 102) (av := [aI v1, aI (v3 + 1)]) (st := [aI (M 117 ((1001 * v3) + v5)), aI ((1001 * v3) + v5), aR 118]) hΓ (ct_wX12_leftOn _ _ v1 (v3 + 1) M P10 q11) my_X12_leftOn ml_RX12_116 ni_X12_leftOn kd_102 rfl lz_102 rfl (Nat.le_trans (by decide) hh) (by decide) (Nat.le_of_ble_eq_true rfl) rfl dX12_miss_160 (fun v Z' hq => ?_)
        obtain ⟨r12, M13, rfl, rfl, hq⟩ := hq
        have h := h r12 M13 hq
        dsimp only at h
        refine a_iconst hΓ dX12_miss_163 ?_
        obtain ⟨g14, h⟩ := h
        refine a_icmp_eq (tgt := 172) hΓ g14 (inRl (by decide)) dX12_miss_164 (by decide) (fun c15 => ?_) (fun c15 => ?_)
        · rw [if_pos c15] at h
          refine a_aload_n hΓ 0 dX12_miss_172 rfl rfl ?_
          refine n_getR hΓ fl_RX12_78 cl_12 kd_102 lz_102 dX12_miss_173 ft_12_34 rf_102_34 ?_
          refine a_iload hΓ 4 dX12_miss_176 rfl ?_
          obtain ⟨g16, h⟩ := h
          refine n_iald (x := (M13 119 v5)) hΓ dX12_miss_178 kd_119 lz_119 g16 rfl ?_
          obtain ⟨P17, q18, h⟩ := h
          refine n_callS (av := [aI (M 117 ((1001 * v3) + v5)), aI (M13 119 v5)]) (st := [aI ((1001 * v3) + v5), aR 118]) hΓ (ct_wX12_adds2 _ _ (M 117 ((1001 * v3) + v5)) (M13 119 v5) M13 P17 q18) my_X12_adds2 ml_RX12_310 rfl (Nat.le_trans (by decide) hh) (by decide) (Nat.le_of_ble_eq_true rfl) rfl dX12_miss_179 (fun v Z' hq => ?_)
          obtain ⟨r19, M20, rfl, rfl, hq⟩ := hq
          have h := h r19 M20 hq
          dsimp only at h
          refine a_iast hΓ dX12_miss_182 kd_118 lz_118 g3 ?_
          refine a_iinc (ls' := [(5, aI (v5 + 1)), (0, aR 102), (1, aI v1), (3, aI v3), (4, aI v4)]) hΓ 4 dX12_miss_183 rfl (by decide) rfl ?_
          refine a_goto (tgt := 116) hΓ dX12_miss_186 (by decide) ?_
          refine a_sub (ls' := [(0, aR 102), (1, aI v1), (3, aI v3), (4, aI v4), (5, aI (v5 + 1))]) [1, 2, 3, 4, 0] rfl ?_
          exact ih (v5 + 1) (up M20 118 ((1001 * v3) + v5) r19) h
        · rw [if_neg c15] at h
          refine a_iload hΓ 3 dX12_miss_167 rfl ?_
          refine a_goto (tgt := 179) hΓ dX12_miss_169 (by decide) ?_
          obtain ⟨P21, q22, h⟩ := h
          refine n_callS (av := [aI (M 117 ((1001 * v3) + v5)), aI v4]) (st := [aI ((1001 * v3) + v5), aR 118]) hΓ (ct_wX12_adds2 _ _ (M 117 ((1001 * v3) + v5)) v4 M13 P21 q22) my_X12_adds2 ml_RX12_310 rfl (Nat.le_trans (by decide) hh) (by decide) (Nat.le_of_ble_eq_true rfl) rfl dX12_miss_179 (fun v Z' hq => ?_)
          obtain ⟨r23, M24, rfl, rfl, hq⟩ := hq
          have h := h r23 M24 hq
          dsimp only at h
          refine a_iast hΓ dX12_miss_182 kd_118 lz_118 g3 ?_
          refine a_iinc (ls' := [(5, aI (v5 + 1)), (0, aR 102), (1, aI v1), (3, aI v3), (4, aI v4)]) hΓ 4 dX12_miss_183 rfl (by decide) rfl ?_
          refine a_goto (tgt := 116) hΓ dX12_miss_186 (by decide) ?_
          refine a_sub (ls' := [(0, aR 102), (1, aI v1), (3, aI v3), (4, aI v4), (5, aI (v5 + 1))]) [1, 2, 3, 4, 0] rfl ?_
          exact ih (v5 + 1) (up M24 118 ((1001 * v3) + v5) r23) h
    · rw [if_neg c2] at h
      refine a_iinc (ls' := [(3, aI (v3 + (-1))), (0, aR 102), (1, aI v1), (4, aI v4), (5, aI v5)]) hΓ 2 dX12_miss_189 rfl (by decide) rfl ?_
      refine a_goto (tgt := 31) hΓ dX12_miss_192 (by decide) ?_
      refine a_sub (ls' := [(0, aR 102), (1, aI v1), (3, aI (v3 + (-1)))]) [1, 2, 0] rfl ?_
      exact hk31 (v3 + (-1)) M h
def wX12_miss_78 (Q : Int → Mm → Prop) (k31 : Int → Mm → Prop) (v1 : Int) (v3 : Int) (M : Mm) : Prop :=
    (inR v3) ∧
    (if v3 < 119 then
      Bd (wX12_leftOn v1 (v3 + 1) M) (fun r5 M6 =>
      (inR r5) ∧
      (if r5 = (-1) then
        ∃ n, wX12_miss_116 Q k31 v1 v3 0 n 0 M6
      else
        Bd (wX12_leastOf (1001 * (v3 + 1)) M6) (fun r12 M13 =>
        ∃ n, wX12_miss_116 Q k31 v1 v3 r12 n 0 M13)))
    else
      ∃ n, wX12_miss_116 Q k31 v1 v3 0 n 0 M)
set_option maxHeartbeats 4000000 in
theorem s_wX12_miss_78 {Γ : Cx} {h : Nat} (hΓ : Ok Γ cX12_miss RX12 10 h 0 0) (hh : 9 ≤ h) (hr : (cxm Γ).sig.returnType = (some .int)) {Q : Int → Mm → Prop} {v1 v3 : Int}  {k31 : Int → Mm → Prop} (hk31 : ∀ (v3 : Int) (M : Mm), k31 v3 M → Wa Γ 10 (Kf Γ (QI Q) 0 0) 0 0 31 [(0, aR 102), (1, aI v1), (3, aI v3)] [] (NC, RF, M)) (M : Mm) (h : wX12_miss_78 Q k31 v1 v3 M) : Wa Γ 10 (Kf Γ (QI Q) 0 0) 0 0 78 [(0, aR 102), (1, aI v1), (3, aI v3)] [] (NC, RF, M) := by
  unfold wX12_miss_78 at h
  refine a_iload_n hΓ 2 dX12_miss_78 rfl rfl ?_
  refine a_bipush hΓ dX12_miss_79 (by decide) ?_
  obtain ⟨g1, h⟩ := h
  refine a_icmp_ge (tgt := 110) hΓ g1 (inRl (by decide)) dX12_miss_81 (by decide) (fun c2 => ?_) (fun c2 => ?_)
  · rw [if_pos c2] at h
    refine a_aload_n hΓ 0 dX12_miss_84 rfl rfl ?_
    refine a_iload_n hΓ 1 dX12_miss_85 rfl rfl ?_
    refine a_iload_n hΓ 2 dX12_miss_86 rfl rfl ?_
    refine a_iconst hΓ dX12_miss_87 ?_
    refine a_iadd hΓ dX12_miss_88 ?_
    obtain ⟨P3, q4, h⟩ := h
    refine n_callV (c := 102) (av := [aI v1, aI (v3 + 1)]) (st := []) hΓ (ct_wX12_leftOn _ _ v1 (v3 + 1) M P3 q4) my_X12_leftOn ml_RX12_116 ni_X12_leftOn kd_102 rfl lz_102 rfl (Nat.le_trans (by decide) hh) (by decide) (Nat.le_of_ble_eq_true rfl) rfl dX12_miss_89 (fun v Z' hq => ?_)
    obtain ⟨r5, M6, rfl, rfl, hq⟩ := hq
    have h := h r5 M6 hq
    dsimp only at h
    refine a_iconst hΓ dX12_miss_92 ?_
    obtain ⟨g7, h⟩ := h
    refine a_icmp_eq (tgt := 110) hΓ g7 (inRl (by decide)) dX12_miss_93 (by decide) (fun c8 => ?_) (fun c8 => ?_)
    · rw [if_pos c8] at h
      refine a_iconst hΓ dX12_miss_110 ?_
      refine a_istore (ls' := [(4, aI 0), (0, aR 102), (1, aI v1), (3, aI v3)]) hΓ dX12_miss_111 (by decide) rfl ?_
      refine a_iconst hΓ dX12_miss_113 ?_
      refine a_istore (ls' := [(5, aI 0), (4, aI 0), (0, aR 102), (1, aI v1), (3, aI v3)]) hΓ dX12_miss_114 (by decide) rfl ?_
      refine a_sub (ls' := [(0, aR 102), (1, aI v1), (3, aI v3), (4, aI 0), (5, aI 0)]) [2, 3, 4, 1, 0] rfl ?_
      obtain ⟨f9, h⟩ := h
      exact s_wX12_miss_116 hΓ (Nat.le_trans (by decide) hh) hr hk31 f9 0 M6 h
    · rw [if_neg c8] at h
      refine a_aload_n hΓ 0 dX12_miss_96 rfl rfl ?_
      refine a_sipush hΓ dX12_miss_97 (by decide) ?_
      refine a_iload_n hΓ 2 dX12_miss_100 rfl rfl ?_
      refine a_iconst hΓ dX12_miss_101 ?_
      refine a_iadd hΓ dX12_miss_102 ?_
      refine a_imul hΓ dX12_miss_103 ?_
      obtain ⟨P10, q11, h⟩ := h
      refine n_callV (c := 102) (av := [aI (1001 * (v3 + 1))]) (st := []) hΓ (ct_wX12_leastOf _ _ (1001 * (v3 + 1)) M6 P10 q11) my_X12_leastOf ml_RX12_307 ni_X12_leastOf kd_102 rfl lz_102 rfl (Nat.le_trans (by decide) hh) (by decide) (Nat.le_of_ble_eq_true rfl) rfl dX12_miss_104 (fun v Z' hq => ?_)
      obtain ⟨r12, M13, rfl, rfl, hq⟩ := hq
      have h := h r12 M13 hq
      dsimp only at h
      refine a_goto (tgt := 111) hΓ dX12_miss_107 (by decide) ?_
      refine a_istore (ls' := [(4, aI r12), (0, aR 102), (1, aI v1), (3, aI v3)]) hΓ dX12_miss_111 (by decide) rfl ?_
      refine a_iconst hΓ dX12_miss_113 ?_
      refine a_istore (ls' := [(5, aI 0), (4, aI r12), (0, aR 102), (1, aI v1), (3, aI v3)]) hΓ dX12_miss_114 (by decide) rfl ?_
      refine a_sub (ls' := [(0, aR 102), (1, aI v1), (3, aI v3), (4, aI r12), (5, aI 0)]) [2, 3, 4, 1, 0] rfl ?_
      obtain ⟨f14, h⟩ := h
      exact s_wX12_miss_116 hΓ (Nat.le_trans (by decide) hh) hr hk31 f14 0 M13 h
  · rw [if_neg c2] at h
    refine a_iconst hΓ dX12_miss_110 ?_
    refine a_istore (ls' := [(4, aI 0), (0, aR 102), (1, aI v1), (3, aI v3)]) hΓ dX12_miss_111 (by decide) rfl ?_
    refine a_iconst hΓ dX12_miss_113 ?_
    refine a_istore (ls' := [(5, aI 0), (4, aI 0), (0, aR 102), (1, aI v1), (3, aI v3)]) hΓ dX12_miss_114 (by decide) rfl ?_
    refine a_sub (ls' := [(0, aR 102), (1, aI v1), (3, aI v3), (4, aI 0), (5, aI 0)]) [2, 3, 4, 1, 0] rfl ?_
    obtain ⟨f15, h⟩ := h
    exact s_wX12_miss_116 hΓ (Nat.le_trans (by decide) hh) hr hk31 f15 0 M h
def wX12_miss_31 (Q : Int → Mm → Prop) (v1 : Int) : Nat → Int → Mm → Prop
  | 0, _, _ => False
  | f + 1, v3, M => (inR v3) ∧
    (if v3 < 0 then
      wX12_miss_195 Q v1 M
    else
      (if v3 < 119 then
        Bd (wX12_leftOn v1 (v3 + 1) M) (fun r6 M7 =>
        (inR r6) ∧
        (if r6 = (-1) then
          Bd (wX12_byTable v1 v3 0 M7) (fun r12 M13 =>
          Bd (wX12_byTable v1 v3 1 M13) (fun r16 M17 =>
          Bv (wX12_slides (1001 * (v3 + 1)) r12 r16 M17) (fun M21 =>
          wX12_miss_78 Q (wX12_miss_31 Q v1 f) v1 v3 M21)))
        else
          wX12_miss_78 Q (wX12_miss_31 Q v1 f) v1 v3 M7))
      else
        wX12_miss_78 Q (wX12_miss_31 Q v1 f) v1 v3 M))
set_option maxHeartbeats 4000000 in
theorem s_wX12_miss_31 {Γ : Cx} {h : Nat} (hΓ : Ok Γ cX12_miss RX12 10 h 0 0) (hh : 9 ≤ h) (hr : (cxm Γ).sig.returnType = (some .int)) {Q : Int → Mm → Prop} {v1 : Int}   : ∀ (f : Nat) (v3 : Int) (M : Mm), wX12_miss_31 Q v1 f v3 M → Wa Γ 10 (Kf Γ (QI Q) 0 0) 0 0 31 [(0, aR 102), (1, aI v1), (3, aI v3)] [] (NC, RF, M) := by
  intro f
  induction f with
  | zero => intro v3 M h; exact h.elim
  | succ f ih =>
    intro v3 M h
    unfold wX12_miss_31 at h
    refine a_iload_n hΓ 2 dX12_miss_31 rfl rfl ?_
    obtain ⟨g1, h⟩ := h
    refine a_if_lt (tgt := 195) hΓ g1 dX12_miss_32 (by decide) (fun c2 => ?_) (fun c2 => ?_)
    · rw [if_pos c2] at h
      refine a_sub (ls' := [(0, aR 102), (1, aI v1)]) [0, 1] rfl ?_
      exact s_wX12_miss_195 hΓ (Nat.le_trans (by decide) hh) hr  M h
    · rw [if_neg c2] at h
      refine a_iload_n hΓ 2 dX12_miss_35 rfl rfl ?_
      refine a_bipush hΓ dX12_miss_36 (by decide) ?_
      refine a_icmp_ge (tgt := 78) hΓ g1 (inRl (by decide)) dX12_miss_38 (by decide) (fun c3 => ?_) (fun c3 => ?_)
      · rw [if_pos c3] at h
        refine a_aload_n hΓ 0 dX12_miss_41 rfl rfl ?_
        refine a_iload_n hΓ 1 dX12_miss_42 rfl rfl ?_
        refine a_iload_n hΓ 2 dX12_miss_43 rfl rfl ?_
        refine a_iconst hΓ dX12_miss_44 ?_
        refine a_iadd hΓ dX12_miss_45 ?_
        obtain ⟨P4, q5, h⟩ := h
        refine n_callV (c := 102) (av := [aI v1, aI (v3 + 1)]) (st := []) hΓ (ct_wX12_leftOn _ _ v1 (v3 + 1) M P4 q5) my_X12_leftOn ml_RX12_116 ni_X12_leftOn kd_102 rfl lz_102 rfl (Nat.le_trans (by decide) hh) (by decide) (Nat.le_of_ble_eq_true rfl) rfl dX12_miss_46 (fun v Z' hq => ?_)
        obtain ⟨r6, M7, rfl, rfl, hq⟩ := hq
        have h := h r6 M7 hq
        dsimp only at h
        refine a_iconst hΓ dX12_miss_49 ?_
        obtain ⟨g8, h⟩ := h
        refine a_icmp_ne (tgt := 78) hΓ g8 (inRl (by decide)) dX12_miss_50 (by decide) (fun c9 => ?_) (fun c9 => ?_)
        · rw [if_pos c9] at h
          refine a_aload_n hΓ 0 dX12_miss_53 rfl rfl ?_
          refine a_sipush hΓ dX12_miss_54 (by decide) ?_
          refine a_iload_n hΓ 2 dX12_miss_57 rfl rfl ?_
          refine a_iconst hΓ dX12_miss_58 ?_
          refine a_iadd hΓ dX12_miss_59 ?_
          refine a_imul hΓ dX12_miss_60 ?_
          refine a_aload_n hΓ 0 dX12_miss_61 rfl rfl ?_
          refine a_iload_n hΓ 1 dX12_miss_62 rfl rfl ?_
          refine a_iload_n hΓ 2 dX12_miss_63 rfl rfl ?_
          refine a_iconst hΓ dX12_miss_64 ?_
          obtain ⟨P10, q11, h⟩ := h
          refine n_callV (c := 102) (av := [aI v1, aI v3, aI 0]) (st := [aI (1001 * (v3 + 1)), aR 102]) hΓ (ct_wX12_byTable _ _ v1 v3 0 M7 P10 q11) my_X12_byTable ml_RX12_137 ni_X12_byTable kd_102 rfl lz_102 rfl (Nat.le_trans (by decide) hh) (by decide) (Nat.le_of_ble_eq_true rfl) rfl dX12_miss_65 (fun v Z' hq => ?_)
          obtain ⟨r12, M13, rfl, rfl, hq⟩ := hq
          have h := h r12 M13 hq
          dsimp only at h
          refine a_aload_n hΓ 0 dX12_miss_68 rfl rfl ?_
          refine a_iload_n hΓ 1 dX12_miss_69 rfl rfl ?_
          refine a_iload_n hΓ 2 dX12_miss_70 rfl rfl ?_
          refine a_iconst hΓ dX12_miss_71 ?_
          obtain ⟨P14, q15, h⟩ := h
          refine n_callV (c := 102) (av := [aI v1, aI v3, aI 1]) (st := [aI r12, aI (1001 * (v3 + 1)), aR 102]) hΓ (ct_wX12_byTable _ _ v1 v3 1 M13 P14 q15) my_X12_byTable ml_RX12_137 ni_X12_byTable kd_102 rfl lz_102 rfl (Nat.le_trans (by decide) hh) (by decide) (Nat.le_of_ble_eq_true rfl) rfl dX12_miss_72 (fun v Z' hq => ?_)
          obtain ⟨r16, M17, rfl, rfl, hq⟩ := hq
          have h := h r16 M17 hq
          dsimp only at h
          obtain ⟨P18, q19, h⟩ := h
          refine n_callV (c := 102) (av := [aI (1001 * (v3 + 1)), aI r12, aI r16]) (st := []) hΓ (ct_wX12_slides _ _ (1001 * (v3 + 1)) r12 r16 M17 P18 q19) my_X12_slides ml_RX12_304 ni_X12_slides kd_102 rfl lz_102 rfl (Nat.le_trans (by decide) hh) (by decide) (Nat.le_of_ble_eq_true rfl) rfl dX12_miss_75 (fun v Z' hq => ?_)
          obtain ⟨M21, rfl, rfl, hq⟩ := hq
          have h := h M21 hq
          dsimp only at h
          exact s_wX12_miss_78 hΓ (Nat.le_trans (by decide) hh) hr ih M21 h
        · rw [if_neg c9] at h
          exact s_wX12_miss_78 hΓ (Nat.le_trans (by decide) hh) hr ih M7 h
      · rw [if_neg c3] at h
        exact s_wX12_miss_78 hΓ (Nat.le_trans (by decide) hh) hr ih M h
def wX12_miss (v1 : Int) (v2 : Int) (M : Mm) (Q : Int → Mm → Prop) : Prop :=
    Bd (wX12_isShip v1 M) (fun r3 M4 =>
    (inR r3) ∧
    (if r3 = 0 then
      Q (-1) M4
    else
      Bd (wX12_isDay v2 M4) (fun r9 M10 =>
      (inR r9) ∧
      (if r9 = 0 then
        Q (-1) M10
      else
        Bd (wX12_counting v1 v2 M10) (fun r15 M16 =>
        Bv (wX12_lays v1 r15 M16) (fun M20 =>
        ∃ n, wX12_miss_31 Q v1 n 119 M20))))))
set_option maxHeartbeats 4000000 in
theorem s_wX12_miss {Γ : Cx} {h : Nat} (hΓ : Ok Γ cX12_miss RX12 10 h 0 0) (hh : 9 ≤ h) (hr : (cxm Γ).sig.returnType = (some .int)) {Q : Int → Mm → Prop} (v1 : Int) (v2 : Int) (M : Mm) (h : wX12_miss v1 v2 M Q) : Wa Γ 10 (Kf Γ (QI Q) 0 0) 0 0 0 [(0, aR 102), (1, aI v1), (2, aI v2)] [] (NC, RF, M) := by
  unfold wX12_miss at h
  refine a_aload_n hΓ 0 dX12_miss_0 rfl rfl ?_
  refine a_iload_n hΓ 1 dX12_miss_1 rfl rfl ?_
  obtain ⟨P1, q2, h⟩ := h
  refine n_callV (c := 102) (av := [aI v1]) (st := []) hΓ (ct_wX12_isShip _ _ v1 M P1 q2) my_X12_isShip ml_RX12_113 ni_X12_isShip kd_102 rfl lz_102 rfl (Nat.le_trans (by decide) hh) (by decide) (Nat.le_of_ble_eq_true rfl) rfl dX12_miss_2 (fun v Z' hq => ?_)
  obtain ⟨r3, M4, rfl, rfl, hq⟩ := hq
  have h := h r3 M4 hq
  dsimp only at h
  obtain ⟨g5, h⟩ := h
  refine a_if_eq (tgt := 15) hΓ g5 dX12_miss_5 (by decide) (fun c6 => ?_) (fun c6 => ?_)
  · rw [if_pos c6] at h
    refine a_iconst hΓ dX12_miss_15 ?_
    exact a_iret hΓ hr dX12_miss_16 ⟨_, _, rfl, rfl, h⟩
  · rw [if_neg c6] at h
    refine a_iload_n hΓ 2 dX12_miss_8 rfl rfl ?_
    obtain ⟨P7, q8, h⟩ := h
    refine n_callS (av := [aI v2]) (st := []) hΓ (ct_wX12_isDay _ _ v2 M4 P7 q8) my_X12_isDay ml_RX12_109 rfl (Nat.le_trans (by decide) hh) (by decide) (Nat.le_of_ble_eq_true rfl) rfl dX12_miss_9 (fun v Z' hq => ?_)
    obtain ⟨r9, M10, rfl, rfl, hq⟩ := hq
    have h := h r9 M10 hq
    dsimp only at h
    obtain ⟨g11, h⟩ := h
    refine a_if_ne (tgt := 17) hΓ g11 dX12_miss_12 (by decide) (fun c12 => ?_) (fun c12 => ?_)
    · rw [if_pos c12] at h
      refine a_iconst hΓ dX12_miss_15 ?_
      exact a_iret hΓ hr dX12_miss_16 ⟨_, _, rfl, rfl, h⟩
    · rw [if_neg c12] at h
      refine a_aload_n hΓ 0 dX12_miss_17 rfl rfl ?_
      refine a_iload_n hΓ 1 dX12_miss_18 rfl rfl ?_
      refine a_aload_n hΓ 0 dX12_miss_19 rfl rfl ?_
      refine a_iload_n hΓ 1 dX12_miss_20 rfl rfl ?_
      refine a_iload_n hΓ 2 dX12_miss_21 rfl rfl ?_
      obtain ⟨P13, q14, h⟩ := h
      refine n_callV (c := 102) (av := [aI v1, aI v2]) (st := [aI v1, aR 102]) hΓ (ct_wX12_counting _ _ v1 v2 M10 P13 q14) my_X12_counting ml_RX12_177 ni_X12_counting kd_102 rfl lz_102 rfl (Nat.le_trans (by decide) hh) (by decide) (Nat.le_of_ble_eq_true rfl) rfl dX12_miss_22 (fun v Z' hq => ?_)
      obtain ⟨r15, M16, rfl, rfl, hq⟩ := hq
      have h := h r15 M16 hq
      dsimp only at h
      obtain ⟨P17, q18, h⟩ := h
      refine n_callV (c := 102) (av := [aI v1, aI r15]) (st := []) hΓ (ct_wX12_lays _ _ v1 r15 M16 P17 q18) my_X12_lays ml_RX12_301 ni_X12_lays kd_102 rfl lz_102 rfl (Nat.le_trans (by decide) hh) (by decide) (Nat.le_of_ble_eq_true rfl) rfl dX12_miss_25 (fun v Z' hq => ?_)
      obtain ⟨M20, rfl, rfl, hq⟩ := hq
      have h := h M20 hq
      dsimp only at h
      refine a_bipush hΓ dX12_miss_28 (by decide) ?_
      refine a_istore_n (ls' := [(3, aI 119), (0, aR 102), (1, aI v1), (2, aI v2)]) hΓ dX12_miss_30 rfl (by decide) rfl ?_
      refine a_sub (ls' := [(0, aR 102), (1, aI v1), (3, aI 119)]) [1, 2, 0] rfl ?_
      obtain ⟨f21, h⟩ := h
      exact s_wX12_miss_31 hΓ (Nat.le_trans (by decide) hh) hr  f21 119 M20 h
theorem ct_wX12_miss (l : Launch) (g : Gp) (v1 : Int) (v2 : Int) (M : Mm) (Q : Int → Mm → Prop) (h : wX12_miss v1 v2 M Q) : Ct l g yX12_miss cX12_miss 10 (some .int) 9 0 0 [aR 102, aI v1, aI v2] (NC, RF, M) (QI Q) :=
  ct_of (by decide) (Nat.le_of_ble_eq_true rfl) (fun Γ hg hl hr _ hΓ => by subst hg; subst hl; exact s_wX12_miss hΓ (by decide) hr v1 v2 M h)
def wX12_curve (v1 : Int) (M : Mm) (Q : Int → Mm → Prop) : Prop :=
    (inR (M 102 38)) ∧
    (if (M 102 38) = 0 then
      Q (-1) M
    else
      Bd (wX12_isDay v1 M) (fun r5 M6 =>
      (inR r5) ∧
      (if r5 = 0 then
        Q (-1) M6
      else
        (0 ≤ v1 ∧ v1 < 120) ∧
        Q (M6 122 v1) M6)))
set_option maxHeartbeats 4000000 in
theorem s_wX12_curve {Γ : Cx} {h : Nat} (hΓ : Ok Γ cX12_curve RX12 2 h 0 0) (hh : 3 ≤ h) (hr : (cxm Γ).sig.returnType = (some .int)) {Q : Int → Mm → Prop} (v1 : Int) (M : Mm) (h : wX12_curve v1 M Q) : Wa Γ 2 (Kf Γ (QI Q) 0 0) 0 0 0 [(0, aR 102), (1, aI v1)] [] (NC, RF, M) := by
  unfold wX12_curve at h
  refine a_aload_n hΓ 0 dX12_curve_0 rfl rfl ?_
  refine n_getI (x := (M 102 38)) hΓ fl_RX12_313 cl_12 kd_102 lz_102 dX12_curve_1 (Or.inr ft_12_38) rfl ?_
  obtain ⟨g1, h⟩ := h
  refine a_if_eq (tgt := 23) hΓ g1 dX12_curve_4 (by decide) (fun c2 => ?_) (fun c2 => ?_)
  · rw [if_pos c2] at h
    refine a_iconst hΓ dX12_curve_23 ?_
    exact a_iret hΓ hr dX12_curve_24 ⟨_, _, rfl, rfl, h⟩
  · rw [if_neg c2] at h
    refine a_iload_n hΓ 1 dX12_curve_7 rfl rfl ?_
    obtain ⟨P3, q4, h⟩ := h
    refine n_callS (av := [aI v1]) (st := []) hΓ (ct_wX12_isDay _ _ v1 M P3 q4) my_X12_isDay ml_RX12_109 rfl (Nat.le_trans (by decide) hh) (by decide) (Nat.le_of_ble_eq_true rfl) rfl dX12_curve_8 (fun v Z' hq => ?_)
    obtain ⟨r5, M6, rfl, rfl, hq⟩ := hq
    have h := h r5 M6 hq
    dsimp only at h
    obtain ⟨g7, h⟩ := h
    refine a_if_eq (tgt := 23) hΓ g7 dX12_curve_11 (by decide) (fun c8 => ?_) (fun c8 => ?_)
    · rw [if_pos c8] at h
      refine a_iconst hΓ dX12_curve_23 ?_
      exact a_iret hΓ hr dX12_curve_24 ⟨_, _, rfl, rfl, h⟩
    · rw [if_neg c8] at h
      refine a_aload_n hΓ 0 dX12_curve_14 rfl rfl ?_
      refine n_getR hΓ fl_RX12_87 cl_12 kd_102 lz_102 dX12_curve_15 ft_12_37 rf_102_37 ?_
      refine a_iload_n hΓ 1 dX12_curve_18 rfl rfl ?_
      obtain ⟨g9, h⟩ := h
      refine n_iald (x := (M6 122 v1)) hΓ dX12_curve_19 kd_122 lz_122 g9 rfl ?_
      refine a_goto (tgt := 24) hΓ dX12_curve_20 (by decide) ?_
      exact a_iret hΓ hr dX12_curve_24 ⟨_, _, rfl, rfl, h⟩
theorem ct_wX12_curve (l : Launch) (g : Gp) (v1 : Int) (M : Mm) (Q : Int → Mm → Prop) (h : wX12_curve v1 M Q) : Ct l g yX12_curve cX12_curve 2 (some .int) 3 0 0 [aR 102, aI v1] (NC, RF, M) (QI Q) :=
  ct_of (by decide) (Nat.le_of_ble_eq_true rfl) (fun Γ hg hl hr _ hΓ => by subst hg; subst hl; exact s_wX12_curve hΓ (by decide) hr v1 M h)
def wX12_runs_201 (Q : Mm → Prop) (k73 : Int → Mm → Prop) (v1 : Int) (v2 : Int) (v4 : Int) (M : Mm) : Prop :=
    Bd (wX12_leastOf (-1) M) (fun r3 M4 =>
    (0 ≤ ((120 * v2) + v4) ∧ ((120 * v2) + v4) < 14400) ∧
    k73 (v4 + 1) (up M4 121 ((120 * v2) + v4) r3))
set_option maxHeartbeats 4000000 in
theorem s_wX12_runs_201 {Γ : Cx} {h : Nat} (hΓ : Ok Γ cX12_runs RX12 8 h 0 0) (hh : 6 ≤ h) (hr : (cxm Γ).sig.returnType = none) {Q : Mm → Prop} {v1 v2 v4 : Int}  {k73 : Int → Mm → Prop} (hk73 : ∀ (v4 : Int) (M : Mm), k73 v4 M → Wa Γ 8 (Kf Γ (QV Q) 0 0) 0 0 73 [(0, aR 102), (1, aI v1), (2, aI v2), (4, aI v4)] [] (NC, RF, M)) (M : Mm) (h : wX12_runs_201 Q k73 v1 v2 v4 M) : Wa Γ 8 (Kf Γ (QV Q) 0 0) 0 0 201 [(0, aR 102), (1, aI v1), (2, aI v2), (4, aI v4)] [] (NC, RF, M) := by
  unfold wX12_runs_201 at h
  refine a_aload_n hΓ 0 dX12_runs_201 rfl rfl ?_
  refine n_getR hΓ fl_RX12_84 cl_12 kd_102 lz_102 dX12_runs_202 ft_12_36 rf_102_36 ?_
  refine a_bipush hΓ dX12_runs_205 (by decide) ?_
  refine a_iload_n hΓ 2 dX12_runs_207 rfl rfl ?_
  refine a_imul hΓ dX12_runs_208 ?_
  refine a_iload hΓ 3 dX12_runs_209 rfl ?_
  refine a_iadd hΓ dX12_runs_211 ?_
  refine a_aload_n hΓ 0 dX12_runs_212 rfl rfl ?_
  refine a_iconst hΓ dX12_runs_213 ?_
  obtain ⟨P1, q2, h⟩ := h
  refine n_callV (c := 102) (av := [aI (-1)]) (st := [aI ((120 * v2) + v4), aR 121]) hΓ (ct_wX12_leastOf _ _ (-1) M P1 q2) my_X12_leastOf ml_RX12_307 ni_X12_leastOf kd_102 rfl lz_102 rfl (Nat.le_trans (by decide) hh) (by decide) (Nat.le_of_ble_eq_true rfl) rfl dX12_runs_214 (fun v Z' hq => ?_)
  obtain ⟨r3, M4, rfl, rfl, hq⟩ := hq
  have h := h r3 M4 hq
  dsimp only at h
  obtain ⟨g5, h⟩ := h
  refine a_iast hΓ dX12_runs_217 kd_121 lz_121 g5 ?_
  refine a_iinc (ls' := [(4, aI (v4 + 1)), (0, aR 102), (1, aI v1), (2, aI v2)]) hΓ 3 dX12_runs_218 rfl (by decide) rfl ?_
  refine a_goto (tgt := 73) hΓ dX12_runs_221 (by decide) ?_
  refine a_sub (ls' := [(0, aR 102), (1, aI v1), (2, aI v2), (4, aI (v4 + 1))]) [1, 2, 3, 0] rfl ?_
  exact hk73 (v4 + 1) (up M4 121 ((120 * v2) + v4) r3) h
def wX12_runs_146 (Q : Mm → Prop) (k73 : Int → Mm → Prop) (v1 : Int) (v2 : Int) (v4 : Int) (v5 : Int) (v6 : Int) : Nat → Int → Mm → Prop
  | 0, _, _ => False
  | f + 1, v7, M => (inR v7) ∧
    (if v7 < 1001 then
      (0 ≤ ((1001 * v4) + v7) ∧ ((1001 * v4) + v7) < 120120) ∧
      (inR v6) ∧
      (if v6 = 0 then
        (0 ≤ v7 ∧ v7 < 1001) ∧
        Bd (wX12_adds2 (M 117 ((1001 * v4) + v7)) (M 119 v7) M) (fun r9 M10 =>
        (wX12_runs_146 Q k73 v1 v2 v4 v5 v6 f) (v7 + 1) (up M10 123 v7 r9))
      else
        Bd (wX12_adds2 (M 117 ((1001 * v4) + v7)) v5 M) (fun r13 M14 =>
        (0 ≤ v7 ∧ v7 < 1001) ∧
        (wX12_runs_146 Q k73 v1 v2 v4 v5 v6 f) (v7 + 1) (up M14 123 v7 r13)))
    else
      wX12_runs_201 Q k73 v1 v2 v4 M)
set_option maxHeartbeats 4000000 in
theorem s_wX12_runs_146 {Γ : Cx} {h : Nat} (hΓ : Ok Γ cX12_runs RX12 8 h 0 0) (hh : 6 ≤ h) (hr : (cxm Γ).sig.returnType = none) {Q : Mm → Prop} {v1 v2 v4 v5 v6 : Int}  {k73 : Int → Mm → Prop} (hk73 : ∀ (v4 : Int) (M : Mm), k73 v4 M → Wa Γ 8 (Kf Γ (QV Q) 0 0) 0 0 73 [(0, aR 102), (1, aI v1), (2, aI v2), (4, aI v4)] [] (NC, RF, M)) : ∀ (f : Nat) (v7 : Int) (M : Mm), wX12_runs_146 Q k73 v1 v2 v4 v5 v6 f v7 M → Wa Γ 8 (Kf Γ (QV Q) 0 0) 0 0 146 [(0, aR 102), (1, aI v1), (2, aI v2), (4, aI v4), (5, aI v5), (6, aI v6), (7, aI v7)] [] (NC, RF, M) := by
  intro f
  induction f with
  | zero => intro v7 M h; exact h.elim
  | succ f ih =>
    intro v7 M h
    unfold wX12_runs_146 at h
    refine a_iload hΓ 6 dX12_runs_146 rfl ?_
    refine a_sipush hΓ dX12_runs_148 (by decide) ?_
    obtain ⟨g1, h⟩ := h
    refine a_icmp_ge (tgt := 201) hΓ g1 (inRl (by decide)) dX12_runs_151 (by decide) (fun c2 => ?_) (fun c2 => ?_)
    · rw [if_pos c2] at h
      refine a_aload_n hΓ 0 dX12_runs_154 rfl rfl ?_
      refine n_getR hΓ fl_RX12_90 cl_12 kd_102 lz_102 dX12_runs_155 ft_12_39 rf_102_39 ?_
      refine a_iload hΓ 6 dX12_runs_158 rfl ?_
      refine a_aload_n hΓ 0 dX12_runs_160 rfl rfl ?_
      refine n_getR hΓ fl_RX12_72 cl_12 kd_102 lz_102 dX12_runs_161 ft_12_32 rf_102_32 ?_
      refine a_sipush hΓ dX12_runs_164 (by decide) ?_
      refine a_iload hΓ 3 dX12_runs_167 rfl ?_
      refine a_imul hΓ dX12_runs_169 ?_
      refine a_iload hΓ 6 dX12_runs_170 rfl ?_
      refine a_iadd hΓ dX12_runs_172 ?_
      obtain ⟨g3, h⟩ := h
      refine n_iald (x := (M 117 ((1001 * v4) + v7))) hΓ dX12_runs_173 kd_117 lz_117 g3 rfl ?_
      refine a_iload hΓ 5 dX12_runs_174 rfl ?_
      obtain ⟨g4, h⟩ := h
      refine a_if_eq (tgt := 184) hΓ g4 dX12_runs_176 (by decide) (fun c5 => ?_) (fun c5 => ?_)
      · rw [if_pos c5] at h
        refine a_aload_n hΓ 0 dX12_runs_184 rfl rfl ?_
        refine n_getR hΓ fl_RX12_78 cl_12 kd_102 lz_102 dX12_runs_185 ft_12_34 rf_102_34 ?_
        refine a_iload hΓ 6 dX12_runs_188 rfl ?_
        obtain ⟨g6, h⟩ := h
        refine n_iald (x := (M 119 v7)) hΓ dX12_runs_190 kd_119 lz_119 g6 rfl ?_
        obtain ⟨P7, q8, h⟩ := h
        refine n_callS (av := [aI (M 117 ((1001 * v4) + v7)), aI (M 119 v7)]) (st := [aI v7, aR 123]) hΓ (ct_wX12_adds2 _ _ (M 117 ((1001 * v4) + v7)) (M 119 v7) M P7 q8) my_X12_adds2 ml_RX12_310 rfl (Nat.le_trans (by decide) hh) (by decide) (Nat.le_of_ble_eq_true rfl) rfl dX12_runs_191 (fun v Z' hq => ?_)
        obtain ⟨r9, M10, rfl, rfl, hq⟩ := hq
        have h := h r9 M10 hq
        dsimp only at h
        refine a_iast hΓ dX12_runs_194 kd_123 lz_123 g6 ?_
        refine a_iinc (ls' := [(7, aI (v7 + 1)), (0, aR 102), (1, aI v1), (2, aI v2), (4, aI v4), (5, aI v5), (6, aI v6)]) hΓ 6 dX12_runs_195 rfl (by decide) rfl ?_
        refine a_goto (tgt := 146) hΓ dX12_runs_198 (by decide) ?_
        refine a_sub (ls' := [(0, aR 102), (1, aI v1), (2, aI v2), (4, aI v4), (5, aI v5), (6, aI v6), (7, aI (v7 + 1))]) [1, 2, 3, 4, 5, 6, 0] rfl ?_
        exact ih (v7 + 1) (up M10 123 v7 r9) h
      · rw [if_neg c5] at h
        refine a_iload hΓ 4 dX12_runs_179 rfl ?_
        refine a_goto (tgt := 191) hΓ dX12_runs_181 (by decide) ?_
        obtain ⟨P11, q12, h⟩ := h
        refine n_callS (av := [aI (M 117 ((1001 * v4) + v7)), aI v5]) (st := [aI v7, aR 123]) hΓ (ct_wX12_adds2 _ _ (M 117 ((1001 * v4) + v7)) v5 M P11 q12) my_X12_adds2 ml_RX12_310 rfl (Nat.le_trans (by decide) hh) (by decide) (Nat.le_of_ble_eq_true rfl) rfl dX12_runs_191 (fun v Z' hq => ?_)
        obtain ⟨r13, M14, rfl, rfl, hq⟩ := hq
        have h := h r13 M14 hq
        dsimp only at h
        obtain ⟨g15, h⟩ := h
        refine a_iast hΓ dX12_runs_194 kd_123 lz_123 g15 ?_
        refine a_iinc (ls' := [(7, aI (v7 + 1)), (0, aR 102), (1, aI v1), (2, aI v2), (4, aI v4), (5, aI v5), (6, aI v6)]) hΓ 6 dX12_runs_195 rfl (by decide) rfl ?_
        refine a_goto (tgt := 146) hΓ dX12_runs_198 (by decide) ?_
        refine a_sub (ls' := [(0, aR 102), (1, aI v1), (2, aI v2), (4, aI v4), (5, aI v5), (6, aI v6), (7, aI (v7 + 1))]) [1, 2, 3, 4, 5, 6, 0] rfl ?_
        exact ih (v7 + 1) (up M14 123 v7 r13) h
    · rw [if_neg c2] at h
      refine a_sub (ls' := [(0, aR 102), (1, aI v1), (2, aI v2), (4, aI v4)]) [0, 1, 2, 3] rfl ?_
      exact s_wX12_runs_201 hΓ (Nat.le_trans (by decide) hh) hr hk73 M h
def wX12_runs_99 (Q : Mm → Prop) (k73 : Int → Mm → Prop) (v1 : Int) (v2 : Int) (v4 : Int) (v5 : Int) (s0 : Int) (M : Mm) : Prop :=
    (inR s0) ∧
    (if s0 = 0 then
      Bd (wX12_byTable v1 (v4 - 1) 1 M) (fun r5 M6 =>
      Bd (wX12_byTable v1 (v4 - 1) 0 M6) (fun r9 M10 =>
      Bv (wX12_slides (-1) (-r5) (-r9) M10) (fun M14 =>
      ∃ n, wX12_runs_146 Q k73 v1 v2 v4 v5 s0 n 0 M14)))
    else
      Bd (wX12_leastOf (-1) M) (fun r18 M19 =>
      ∃ n, wX12_runs_146 Q k73 v1 v2 v4 r18 s0 n 0 M19))
set_option maxHeartbeats 4000000 in
theorem s_wX12_runs_99 {Γ : Cx} {h : Nat} (hΓ : Ok Γ cX12_runs RX12 8 h 0 0) (hh : 6 ≤ h) (hr : (cxm Γ).sig.returnType = none) {Q : Mm → Prop} {v1 v2 v4 v5 s0 : Int}  {k73 : Int → Mm → Prop} (hk73 : ∀ (v4 : Int) (M : Mm), k73 v4 M → Wa Γ 8 (Kf Γ (QV Q) 0 0) 0 0 73 [(0, aR 102), (1, aI v1), (2, aI v2), (4, aI v4)] [] (NC, RF, M)) (M : Mm) (h : wX12_runs_99 Q k73 v1 v2 v4 v5 s0 M) : Wa Γ 8 (Kf Γ (QV Q) 0 0) 0 0 99 [(0, aR 102), (1, aI v1), (2, aI v2), (4, aI v4), (5, aI v5)] [aI s0] (NC, RF, M) := by
  unfold wX12_runs_99 at h
  refine a_istore (ls' := [(6, aI s0), (0, aR 102), (1, aI v1), (2, aI v2), (4, aI v4), (5, aI v5)]) hΓ dX12_runs_99 (by decide) rfl ?_
  refine a_iload hΓ 0 dX12_runs_101 rfl ?_
  obtain ⟨g1, h⟩ := h
  refine a_if_eq (tgt := 116) hΓ g1 dX12_runs_103 (by decide) (fun c2 => ?_) (fun c2 => ?_)
  · rw [if_pos c2] at h
    refine a_aload_n hΓ 1 dX12_runs_116 rfl rfl ?_
    refine a_iconst hΓ dX12_runs_117 ?_
    refine a_aload_n hΓ 1 dX12_runs_118 rfl rfl ?_
    refine a_iload_n hΓ 2 dX12_runs_119 rfl rfl ?_
    refine a_iload hΓ 4 dX12_runs_120 rfl ?_
    refine a_iconst hΓ dX12_runs_122 ?_
    refine a_isub hΓ dX12_runs_123 ?_
    refine a_iconst hΓ dX12_runs_124 ?_
    obtain ⟨P3, q4, h⟩ := h
    refine n_callV (c := 102) (av := [aI v1, aI (v4 - 1), aI 1]) (st := [aI (-1), aR 102]) hΓ (ct_wX12_byTable _ _ v1 (v4 - 1) 1 M P3 q4) my_X12_byTable ml_RX12_137 ni_X12_byTable kd_102 rfl lz_102 rfl (Nat.le_trans (by decide) hh) (by decide) (Nat.le_of_ble_eq_true rfl) rfl dX12_runs_125 (fun v Z' hq => ?_)
    obtain ⟨r5, M6, rfl, rfl, hq⟩ := hq
    have h := h r5 M6 hq
    dsimp only at h
    refine a_ineg hΓ dX12_runs_128 ?_
    refine a_aload_n hΓ 1 dX12_runs_129 rfl rfl ?_
    refine a_iload_n hΓ 2 dX12_runs_130 rfl rfl ?_
    refine a_iload hΓ 4 dX12_runs_131 rfl ?_
    refine a_iconst hΓ dX12_runs_133 ?_
    refine a_isub hΓ dX12_runs_134 ?_
    refine a_iconst hΓ dX12_runs_135 ?_
    obtain ⟨P7, q8, h⟩ := h
    refine n_callV (c := 102) (av := [aI v1, aI (v4 - 1), aI 0]) (st := [aI (-r5), aI (-1), aR 102]) hΓ (ct_wX12_byTable _ _ v1 (v4 - 1) 0 M6 P7 q8) my_X12_byTable ml_RX12_137 ni_X12_byTable kd_102 rfl lz_102 rfl (Nat.le_trans (by decide) hh) (by decide) (Nat.le_of_ble_eq_true rfl) rfl dX12_runs_136 (fun v Z' hq => ?_)
    obtain ⟨r9, M10, rfl, rfl, hq⟩ := hq
    have h := h r9 M10 hq
    dsimp only at h
    refine a_ineg hΓ dX12_runs_139 ?_
    obtain ⟨P11, q12, h⟩ := h
    refine n_callV (c := 102) (av := [aI (-1), aI (-r5), aI (-r9)]) (st := []) hΓ (ct_wX12_slides _ _ (-1) (-r5) (-r9) M10 P11 q12) my_X12_slides ml_RX12_304 ni_X12_slides kd_102 rfl lz_102 rfl (Nat.le_trans (by decide) hh) (by decide) (Nat.le_of_ble_eq_true rfl) rfl dX12_runs_140 (fun v Z' hq => ?_)
    obtain ⟨M14, rfl, rfl, hq⟩ := hq
    have h := h M14 hq
    dsimp only at h
    refine a_iconst hΓ dX12_runs_143 ?_
    refine a_istore (ls' := [(7, aI 0), (6, aI s0), (0, aR 102), (1, aI v1), (2, aI v2), (4, aI v4), (5, aI v5)]) hΓ dX12_runs_144 (by decide) rfl ?_
    refine a_sub (ls' := [(0, aR 102), (1, aI v1), (2, aI v2), (4, aI v4), (5, aI v5), (6, aI s0), (7, aI 0)]) [2, 3, 4, 5, 6, 1, 0] rfl ?_
    obtain ⟨f15, h⟩ := h
    exact s_wX12_runs_146 hΓ (Nat.le_trans (by decide) hh) hr hk73 f15 0 M14 h
  · rw [if_neg c2] at h
    refine a_aload_n hΓ 1 dX12_runs_106 rfl rfl ?_
    refine a_iconst hΓ dX12_runs_107 ?_
    obtain ⟨P16, q17, h⟩ := h
    refine n_callV (c := 102) (av := [aI (-1)]) (st := []) hΓ (ct_wX12_leastOf _ _ (-1) M P16 q17) my_X12_leastOf ml_RX12_307 ni_X12_leastOf kd_102 rfl lz_102 rfl (Nat.le_trans (by decide) hh) (by decide) (Nat.le_of_ble_eq_true rfl) rfl dX12_runs_108 (fun v Z' hq => ?_)
    obtain ⟨r18, M19, rfl, rfl, hq⟩ := hq
    have h := h r18 M19 hq
    dsimp only at h
    refine a_istore (ls' := [(5, aI r18), (6, aI s0), (0, aR 102), (1, aI v1), (2, aI v2), (4, aI v4)]) hΓ dX12_runs_111 (by decide) rfl ?_
    refine a_goto (tgt := 143) hΓ dX12_runs_113 (by decide) ?_
    refine a_iconst hΓ dX12_runs_143 ?_
    refine a_istore (ls' := [(7, aI 0), (5, aI r18), (6, aI s0), (0, aR 102), (1, aI v1), (2, aI v2), (4, aI v4)]) hΓ dX12_runs_144 (by decide) rfl ?_
    refine a_sub (ls' := [(0, aR 102), (1, aI v1), (2, aI v2), (4, aI v4), (5, aI r18), (6, aI s0), (7, aI 0)]) [3, 4, 5, 6, 1, 2, 0] rfl ?_
    obtain ⟨f20, h⟩ := h
    exact s_wX12_runs_146 hΓ (Nat.le_trans (by decide) hh) hr hk73 f20 0 M19 h
def wX12_runs_73 (Q : Mm → Prop) (v1 : Int) (v2 : Int) : Nat → Int → Mm → Prop
  | 0, _, _ => False
  | f + 1, v4, M => (inR v4) ∧
    (if v4 < 120 then
      Bd (wX12_leftOn v1 v4 M) (fun r5 M6 =>
      (inR r5) ∧
      (if r5 = (-1) then
        wX12_runs_99 Q (wX12_runs_73 Q v1 v2 f) v1 v2 v4 0 0 M6
      else
        wX12_runs_99 Q (wX12_runs_73 Q v1 v2 f) v1 v2 v4 0 1 M6))
    else
      Q M)
set_option maxHeartbeats 4000000 in
theorem s_wX12_runs_73 {Γ : Cx} {h : Nat} (hΓ : Ok Γ cX12_runs RX12 8 h 0 0) (hh : 6 ≤ h) (hr : (cxm Γ).sig.returnType = none) {Q : Mm → Prop} {v1 v2 : Int}   : ∀ (f : Nat) (v4 : Int) (M : Mm), wX12_runs_73 Q v1 v2 f v4 M → Wa Γ 8 (Kf Γ (QV Q) 0 0) 0 0 73 [(0, aR 102), (1, aI v1), (2, aI v2), (4, aI v4)] [] (NC, RF, M) := by
  intro f
  induction f with
  | zero => intro v4 M h; exact h.elim
  | succ f ih =>
    intro v4 M h
    unfold wX12_runs_73 at h
    refine a_iload hΓ 3 dX12_runs_73 rfl ?_
    refine a_bipush hΓ dX12_runs_75 (by decide) ?_
    obtain ⟨g1, h⟩ := h
    refine a_icmp_ge (tgt := 224) hΓ g1 (inRl (by decide)) dX12_runs_77 (by decide) (fun c2 => ?_) (fun c2 => ?_)
    · rw [if_pos c2] at h
      refine a_iconst hΓ dX12_runs_80 ?_
      refine a_istore (ls' := [(5, aI 0), (0, aR 102), (1, aI v1), (2, aI v2), (4, aI v4)]) hΓ dX12_runs_81 (by decide) rfl ?_
      refine a_aload_n hΓ 1 dX12_runs_83 rfl rfl ?_
      refine a_iload_n hΓ 2 dX12_runs_84 rfl rfl ?_
      refine a_iload hΓ 4 dX12_runs_85 rfl ?_
      obtain ⟨P3, q4, h⟩ := h
      refine n_callV (c := 102) (av := [aI v1, aI v4]) (st := []) hΓ (ct_wX12_leftOn _ _ v1 v4 M P3 q4) my_X12_leftOn ml_RX12_116 ni_X12_leftOn kd_102 rfl lz_102 rfl (Nat.le_trans (by decide) hh) (by decide) (Nat.le_of_ble_eq_true rfl) rfl dX12_runs_87 (fun v Z' hq => ?_)
      obtain ⟨r5, M6, rfl, rfl, hq⟩ := hq
      have h := h r5 M6 hq
      dsimp only at h
      refine a_iconst hΓ dX12_runs_90 ?_
      obtain ⟨g7, h⟩ := h
      refine a_icmp_eq (tgt := 98) hΓ g7 (inRl (by decide)) dX12_runs_91 (by decide) (fun c8 => ?_) (fun c8 => ?_)
      · rw [if_pos c8] at h
        refine a_iconst hΓ dX12_runs_98 ?_
        refine a_sub (ls' := [(0, aR 102), (1, aI v1), (2, aI v2), (4, aI v4), (5, aI 0)]) [1, 2, 3, 4, 0] rfl ?_
        exact s_wX12_runs_99 hΓ (Nat.le_trans (by decide) hh) hr ih M6 h
      · rw [if_neg c8] at h
        refine a_iconst hΓ dX12_runs_94 ?_
        refine a_goto (tgt := 99) hΓ dX12_runs_95 (by decide) ?_
        refine a_sub (ls' := [(0, aR 102), (1, aI v1), (2, aI v2), (4, aI v4), (5, aI 0)]) [1, 2, 3, 4, 0] rfl ?_
        exact s_wX12_runs_99 hΓ (Nat.le_trans (by decide) hh) hr ih M6 h
    · rw [if_neg c2] at h
      exact a_vret hΓ hr dX12_runs_224 ⟨_, rfl, rfl, h⟩
def wX12_runs_52 (Q : Mm → Prop) (v1 : Int) (v2 : Int) (M : Mm) : Prop :=
    Bd (wX12_leastOf (-1) M) (fun r3 M4 =>
    (0 ≤ ((120 * v2) + v2) ∧ ((120 * v2) + v2) < 14400) ∧
    ∃ n, wX12_runs_73 Q v1 v2 n (v2 + 1) (up M4 121 ((120 * v2) + v2) r3))
set_option maxHeartbeats 4000000 in
theorem s_wX12_runs_52 {Γ : Cx} {h : Nat} (hΓ : Ok Γ cX12_runs RX12 8 h 0 0) (hh : 6 ≤ h) (hr : (cxm Γ).sig.returnType = none) {Q : Mm → Prop} {v1 v2 : Int}   (M : Mm) (h : wX12_runs_52 Q v1 v2 M) : Wa Γ 8 (Kf Γ (QV Q) 0 0) 0 0 52 [(0, aR 102), (1, aI v1), (2, aI v2)] [] (NC, RF, M) := by
  unfold wX12_runs_52 at h
  refine a_aload_n hΓ 0 dX12_runs_52 rfl rfl ?_
  refine n_getR hΓ fl_RX12_84 cl_12 kd_102 lz_102 dX12_runs_53 ft_12_36 rf_102_36 ?_
  refine a_bipush hΓ dX12_runs_56 (by decide) ?_
  refine a_iload_n hΓ 2 dX12_runs_58 rfl rfl ?_
  refine a_imul hΓ dX12_runs_59 ?_
  refine a_iload_n hΓ 2 dX12_runs_60 rfl rfl ?_
  refine a_iadd hΓ dX12_runs_61 ?_
  refine a_aload_n hΓ 0 dX12_runs_62 rfl rfl ?_
  refine a_iconst hΓ dX12_runs_63 ?_
  obtain ⟨P1, q2, h⟩ := h
  refine n_callV (c := 102) (av := [aI (-1)]) (st := [aI ((120 * v2) + v2), aR 121]) hΓ (ct_wX12_leastOf _ _ (-1) M P1 q2) my_X12_leastOf ml_RX12_307 ni_X12_leastOf kd_102 rfl lz_102 rfl (Nat.le_trans (by decide) hh) (by decide) (Nat.le_of_ble_eq_true rfl) rfl dX12_runs_64 (fun v Z' hq => ?_)
  obtain ⟨r3, M4, rfl, rfl, hq⟩ := hq
  have h := h r3 M4 hq
  dsimp only at h
  obtain ⟨g5, h⟩ := h
  refine a_iast hΓ dX12_runs_67 kd_121 lz_121 g5 ?_
  refine a_iload_n hΓ 2 dX12_runs_68 rfl rfl ?_
  refine a_iconst hΓ dX12_runs_69 ?_
  refine a_iadd hΓ dX12_runs_70 ?_
  refine a_istore (ls' := [(4, aI (v2 + 1)), (0, aR 102), (1, aI v1), (2, aI v2)]) hΓ dX12_runs_71 (by decide) rfl ?_
  refine a_sub (ls' := [(0, aR 102), (1, aI v1), (2, aI v2), (4, aI (v2 + 1))]) [1, 2, 3, 0] rfl ?_
  obtain ⟨f6, h⟩ := h
  exact s_wX12_runs_73 hΓ (Nat.le_trans (by decide) hh) hr  f6 (v2 + 1) (up M4 121 ((120 * v2) + v2) r3) h
def wX12_runs_32 (Q : Mm → Prop) (k3 : Int → Mm → Prop) (v1 : Int) (v2 : Int) (v3 : Int) (v4 : Int) (s0 : Int) (M : Mm) : Prop :=
    (0 ≤ ((1001 * v2) + v4) ∧ ((1001 * v2) + v4) < 120120) ∧
    (0 ≤ s0 ∧ s0 < 1001) ∧
    k3 (v4 + 1) (up M 123 s0 (M 117 ((1001 * v2) + v4)))
set_option maxHeartbeats 4000000 in
theorem s_wX12_runs_32 {Γ : Cx} {h : Nat} (hΓ : Ok Γ cX12_runs RX12 8 h 0 0) (hh : 6 ≤ h) (hr : (cxm Γ).sig.returnType = none) {Q : Mm → Prop} {v1 v2 v3 v4 s0 : Int}  {k3 : Int → Mm → Prop} (hk3 : ∀ (v4 : Int) (M : Mm), k3 v4 M → Wa Γ 8 (Kf Γ (QV Q) 0 0) 0 0 3 [(0, aR 102), (1, aI v1), (2, aI v2), (3, aI v3), (4, aI v4)] [] (NC, RF, M)) (M : Mm) (h : wX12_runs_32 Q k3 v1 v2 v3 v4 s0 M) : Wa Γ 8 (Kf Γ (QV Q) 0 0) 0 0 32 [(0, aR 102), (1, aI v1), (2, aI v2), (3, aI v3), (4, aI v4)] [aI s0, aR 123] (NC, RF, M) := by
  unfold wX12_runs_32 at h
  refine a_aload_n hΓ 0 dX12_runs_32 rfl rfl ?_
  refine n_getR hΓ fl_RX12_72 cl_12 kd_102 lz_102 dX12_runs_33 ft_12_32 rf_102_32 ?_
  refine a_sipush hΓ dX12_runs_36 (by decide) ?_
  refine a_iload_n hΓ 2 dX12_runs_39 rfl rfl ?_
  refine a_imul hΓ dX12_runs_40 ?_
  refine a_iload hΓ 4 dX12_runs_41 rfl ?_
  refine a_iadd hΓ dX12_runs_43 ?_
  obtain ⟨g1, h⟩ := h
  refine n_iald (x := (M 117 ((1001 * v2) + v4))) hΓ dX12_runs_44 kd_117 lz_117 g1 rfl ?_
  obtain ⟨g2, h⟩ := h
  refine a_iast hΓ dX12_runs_45 kd_123 lz_123 g2 ?_
  refine a_iinc (ls' := [(4, aI (v4 + 1)), (0, aR 102), (1, aI v1), (2, aI v2), (3, aI v3)]) hΓ 4 dX12_runs_46 rfl (by decide) rfl ?_
  refine a_goto (tgt := 3) hΓ dX12_runs_49 (by decide) ?_
  refine a_sub (ls' := [(0, aR 102), (1, aI v1), (2, aI v2), (3, aI v3), (4, aI (v4 + 1))]) [1, 2, 3, 4, 0] rfl ?_
  exact hk3 (v4 + 1) (up M 123 s0 (M 117 ((1001 * v2) + v4))) h
def wX12_runs_3 (Q : Mm → Prop) (v1 : Int) (v2 : Int) (v3 : Int) : Nat → Int → Mm → Prop
  | 0, _, _ => False
  | f + 1, v4, M => (inR v4) ∧
    (if v4 < 1001 then
      (inR v3) ∧
      (if v3 = 0 then
        wX12_runs_32 Q (wX12_runs_3 Q v1 v2 v3 f) v1 v2 v3 v4 v4 M
      else
        (if v4 ≤ 0 then
          wX12_runs_32 Q (wX12_runs_3 Q v1 v2 v3 f) v1 v2 v3 v4 v4 M
        else
          (0 ≤ v4 ∧ v4 < 1001) ∧
          (wX12_runs_3 Q v1 v2 v3 f) (v4 + 1) (up M 123 v4 1000000000)))
    else
      wX12_runs_52 Q v1 v2 M)
set_option maxHeartbeats 4000000 in
theorem s_wX12_runs_3 {Γ : Cx} {h : Nat} (hΓ : Ok Γ cX12_runs RX12 8 h 0 0) (hh : 6 ≤ h) (hr : (cxm Γ).sig.returnType = none) {Q : Mm → Prop} {v1 v2 v3 : Int}   : ∀ (f : Nat) (v4 : Int) (M : Mm), wX12_runs_3 Q v1 v2 v3 f v4 M → Wa Γ 8 (Kf Γ (QV Q) 0 0) 0 0 3 [(0, aR 102), (1, aI v1), (2, aI v2), (3, aI v3), (4, aI v4)] [] (NC, RF, M) := by
  intro f
  induction f with
  | zero => intro v4 M h; exact h.elim
  | succ f ih =>
    intro v4 M h
    unfold wX12_runs_3 at h
    refine a_iload hΓ 4 dX12_runs_3 rfl ?_
    refine a_sipush hΓ dX12_runs_5 (by decide) ?_
    obtain ⟨g1, h⟩ := h
    refine a_icmp_ge (tgt := 52) hΓ g1 (inRl (by decide)) dX12_runs_8 (by decide) (fun c2 => ?_) (fun c2 => ?_)
    · rw [if_pos c2] at h
      refine a_aload_n hΓ 0 dX12_runs_11 rfl rfl ?_
      refine n_getR hΓ fl_RX12_90 cl_12 kd_102 lz_102 dX12_runs_12 ft_12_39 rf_102_39 ?_
      refine a_iload hΓ 4 dX12_runs_15 rfl ?_
      refine a_iload_n hΓ 3 dX12_runs_17 rfl rfl ?_
      obtain ⟨g3, h⟩ := h
      refine a_if_eq (tgt := 32) hΓ g3 dX12_runs_18 (by decide) (fun c4 => ?_) (fun c4 => ?_)
      · rw [if_pos c4] at h
        exact s_wX12_runs_32 hΓ (Nat.le_trans (by decide) hh) hr ih M h
      · rw [if_neg c4] at h
        refine a_iload hΓ 4 dX12_runs_21 rfl ?_
        refine a_if_le (tgt := 32) hΓ g1 dX12_runs_23 (by decide) (fun c5 => ?_) (fun c5 => ?_)
        · rw [if_pos c5] at h
          exact s_wX12_runs_32 hΓ (Nat.le_trans (by decide) hh) hr ih M h
        · rw [if_neg c5] at h
          refine a_ldc_w hΓ gc_RX12_297 dX12_runs_26 ?_
          refine a_goto (tgt := 45) hΓ dX12_runs_29 (by decide) ?_
          obtain ⟨g6, h⟩ := h
          refine a_iast hΓ dX12_runs_45 kd_123 lz_123 g6 ?_
          refine a_iinc (ls' := [(4, aI (v4 + 1)), (0, aR 102), (1, aI v1), (2, aI v2), (3, aI v3)]) hΓ 4 dX12_runs_46 rfl (by decide) rfl ?_
          refine a_goto (tgt := 3) hΓ dX12_runs_49 (by decide) ?_
          refine a_sub (ls' := [(0, aR 102), (1, aI v1), (2, aI v2), (3, aI v3), (4, aI (v4 + 1))]) [1, 2, 3, 4, 0] rfl ?_
          exact ih (v4 + 1) (up M 123 v4 1000000000) h
    · rw [if_neg c2] at h
      refine a_sub (ls' := [(0, aR 102), (1, aI v1), (2, aI v2)]) [0, 1, 2] rfl ?_
      exact s_wX12_runs_52 hΓ (Nat.le_trans (by decide) hh) hr  M h
def wX12_runs (v1 : Int) (v2 : Int) (v3 : Int) (M : Mm) (Q : Mm → Prop) : Prop :=
    ∃ n, wX12_runs_3 Q v1 v2 v3 n 0 M
set_option maxHeartbeats 4000000 in
theorem s_wX12_runs {Γ : Cx} {h : Nat} (hΓ : Ok Γ cX12_runs RX12 8 h 0 0) (hh : 6 ≤ h) (hr : (cxm Γ).sig.returnType = none) {Q : Mm → Prop} (v1 : Int) (v2 : Int) (v3 : Int) (M : Mm) (h : wX12_runs v1 v2 v3 M Q) : Wa Γ 8 (Kf Γ (QV Q) 0 0) 0 0 0 [(0, aR 102), (1, aI v1), (2, aI v2), (3, aI v3)] [] (NC, RF, M) := by
  unfold wX12_runs at h
  refine a_iconst hΓ dX12_runs_0 ?_
  refine a_istore (ls' := [(4, aI 0), (0, aR 102), (1, aI v1), (2, aI v2), (3, aI v3)]) hΓ dX12_runs_1 (by decide) rfl ?_
  refine a_sub (ls' := [(0, aR 102), (1, aI v1), (2, aI v2), (3, aI v3), (4, aI 0)]) [1, 2, 3, 4, 0] rfl ?_
  obtain ⟨f1, h⟩ := h
  exact s_wX12_runs_3 hΓ (Nat.le_trans (by decide) hh) hr  f1 0 M h
theorem ct_wX12_runs (l : Launch) (g : Gp) (v1 : Int) (v2 : Int) (v3 : Int) (M : Mm) (Q : Mm → Prop) (h : wX12_runs v1 v2 v3 M Q) : Ct l g yX12_runs cX12_runs 8 none 6 0 0 [aR 102, aI v1, aI v2, aI v3] (NC, RF, M) (QV Q) :=
  ct_of (by decide) (Nat.le_of_ble_eq_true rfl) (fun Γ hg hl hr _ hΓ => by subst hg; subst hl; exact s_wX12_runs hΓ (by decide) hr v1 v2 v3 M h)
def wX12_offers_24 (Q : Mm → Prop) (v1 : Int) (v2 : Int) (v3 : Int) (v4 : Int) (M : Mm) : Prop :=
    Q (up (up (up (up M 102 42 v1) 102 45 v2) 102 43 v3) 102 44 v4)
set_option maxHeartbeats 4000000 in
theorem s_wX12_offers_24 {Γ : Cx} {h : Nat} (hΓ : Ok Γ cX12_offers RX12 5 h 0 0) (hh : 1 ≤ h) (hr : (cxm Γ).sig.returnType = none) {Q : Mm → Prop} {v1 v2 v3 v4 : Int}   (M : Mm) (h : wX12_offers_24 Q v1 v2 v3 v4 M) : Wa Γ 5 (Kf Γ (QV Q) 0 0) 0 0 24 [(0, aR 102), (1, aI v1), (2, aI v2), (3, aI v3), (4, aI v4)] [] (NC, RF, M) := by
  unfold wX12_offers_24 at h
  refine a_aload_n hΓ 0 dX12_offers_24 rfl rfl ?_
  refine a_iload_n hΓ 1 dX12_offers_25 rfl rfl ?_
  refine n_putI (j := 42) hΓ fl_RX12_320 cl_12 nf_12_42 kd_102 lz_102 dX12_offers_26 (Or.inl ft_12_42) rfl ?_
  refine a_aload_n hΓ 0 dX12_offers_29 rfl rfl ?_
  refine a_iload_n hΓ 2 dX12_offers_30 rfl rfl ?_
  refine n_putI (j := 45) hΓ fl_RX12_317 cl_12 nf_12_45 kd_102 lz_102 dX12_offers_31 (Or.inl ft_12_45) rfl ?_
  refine a_aload_n hΓ 0 dX12_offers_34 rfl rfl ?_
  refine a_iload_n hΓ 3 dX12_offers_35 rfl rfl ?_
  refine n_putI (j := 43) hΓ fl_RX12_323 cl_12 nf_12_43 kd_102 lz_102 dX12_offers_36 (Or.inl ft_12_43) rfl ?_
  refine a_aload_n hΓ 0 dX12_offers_39 rfl rfl ?_
  refine a_iload hΓ 4 dX12_offers_40 rfl ?_
  refine n_putI (j := 44) hΓ fl_RX12_326 cl_12 nf_12_44 kd_102 lz_102 dX12_offers_42 (Or.inl ft_12_44) rfl ?_
  exact a_vret hΓ hr dX12_offers_45 ⟨_, rfl, rfl, h⟩
def wX12_offers (v1 : Int) (v2 : Int) (v3 : Int) (v4 : Int) (M : Mm) (Q : Mm → Prop) : Prop :=
    (inR v1) ∧
    (if v1 < 1000000000 then
      (inR (M 102 45)) ∧
      (if (M 102 45) = (-1) then
        wX12_offers_24 Q v1 v2 v3 v4 M
      else
        (inR (M 102 42)) ∧
        (if v1 < (M 102 42) then
          wX12_offers_24 Q v1 v2 v3 v4 M
        else
          Q M))
    else
      Q M)
set_option maxHeartbeats 4000000 in
theorem s_wX12_offers {Γ : Cx} {h : Nat} (hΓ : Ok Γ cX12_offers RX12 5 h 0 0) (hh : 1 ≤ h) (hr : (cxm Γ).sig.returnType = none) {Q : Mm → Prop} (v1 : Int) (v2 : Int) (v3 : Int) (v4 : Int) (M : Mm) (h : wX12_offers v1 v2 v3 v4 M Q) : Wa Γ 5 (Kf Γ (QV Q) 0 0) 0 0 0 [(0, aR 102), (1, aI v1), (2, aI v2), (3, aI v3), (4, aI v4)] [] (NC, RF, M) := by
  unfold wX12_offers at h
  refine a_iload_n hΓ 1 dX12_offers_0 rfl rfl ?_
  refine a_ldc_w hΓ gc_RX12_297 dX12_offers_1 ?_
  obtain ⟨g1, h⟩ := h
  refine a_icmp_ge (tgt := 23) hΓ g1 (inRl (by decide)) dX12_offers_4 (by decide) (fun c2 => ?_) (fun c2 => ?_)
  · rw [if_pos c2] at h
    refine a_aload_n hΓ 0 dX12_offers_7 rfl rfl ?_
    refine n_getI (x := (M 102 45)) hΓ fl_RX12_317 cl_12 kd_102 lz_102 dX12_offers_8 (Or.inl ft_12_45) rfl ?_
    refine a_iconst hΓ dX12_offers_11 ?_
    obtain ⟨g3, h⟩ := h
    refine a_icmp_eq (tgt := 24) hΓ g3 (inRl (by decide)) dX12_offers_12 (by decide) (fun c4 => ?_) (fun c4 => ?_)
    · rw [if_pos c4] at h
      exact s_wX12_offers_24 hΓ (Nat.le_trans (by decide) hh) hr  M h
    · rw [if_neg c4] at h
      refine a_iload_n hΓ 1 dX12_offers_15 rfl rfl ?_
      refine a_aload_n hΓ 0 dX12_offers_16 rfl rfl ?_
      refine n_getI (x := (M 102 42)) hΓ fl_RX12_320 cl_12 kd_102 lz_102 dX12_offers_17 (Or.inl ft_12_42) rfl ?_
      obtain ⟨g5, h⟩ := h
      refine a_icmp_lt (tgt := 24) hΓ g1 g5 dX12_offers_20 (by decide) (fun c6 => ?_) (fun c6 => ?_)
      · rw [if_pos c6] at h
        exact s_wX12_offers_24 hΓ (Nat.le_trans (by decide) hh) hr  M h
      · rw [if_neg c6] at h
        exact a_vret hΓ hr dX12_offers_23 ⟨_, rfl, rfl, h⟩
  · rw [if_neg c2] at h
    exact a_vret hΓ hr dX12_offers_23 ⟨_, rfl, rfl, h⟩
theorem ct_wX12_offers (l : Launch) (g : Gp) (v1 : Int) (v2 : Int) (v3 : Int) (v4 : Int) (M : Mm) (Q : Mm → Prop) (h : wX12_offers v1 v2 v3 v4 M Q) : Ct l g yX12_offers cX12_offers 5 none 1 0 0 [aR 102, aI v1, aI v2, aI v3, aI v4] (NC, RF, M) (QV Q) :=
  ct_of (by decide) (Nat.le_of_ble_eq_true rfl) (fun Γ hg hl hr _ hΓ => by subst hg; subst hl; exact s_wX12_offers hΓ (by decide) hr v1 v2 v3 v4 M h)
def wX12_hidden_276 (Q : Int → Mm → Prop) (M : Mm) : Prop :=
    (inR (M 102 45)) ∧
    (if (M 102 45) = (-1) then
      Q (-1) M
    else
      Q (M 102 42) (up (up (up M 102 41 (M 102 45)) 124 0 (M 102 43)) 124 1 (M 102 44)))
set_option maxHeartbeats 4000000 in
theorem s_wX12_hidden_276 {Γ : Cx} {h : Nat} (hΓ : Ok Γ cX12_hidden RX12 6 h 0 0) (hh : 9 ≤ h) (hr : (cxm Γ).sig.returnType = (some .int)) {Q : Int → Mm → Prop}   (M : Mm) (h : wX12_hidden_276 Q  M) : Wa Γ 6 (Kf Γ (QI Q) 0 0) 0 0 276 [(0, aR 102)] [] (NC, RF, M) := by
  unfold wX12_hidden_276 at h
  refine a_aload_n hΓ 0 dX12_hidden_276 rfl rfl ?_
  refine n_getI (x := (M 102 45)) hΓ fl_RX12_317 cl_12 kd_102 lz_102 dX12_hidden_277 (Or.inl ft_12_45) rfl ?_
  refine a_iconst hΓ dX12_hidden_280 ?_
  obtain ⟨g1, h⟩ := h
  refine a_icmp_ne (tgt := 286) hΓ g1 (inRl (by decide)) dX12_hidden_281 (by decide) (fun c2 => ?_) (fun c2 => ?_)
  · rw [if_pos c2] at h
    refine a_iconst hΓ dX12_hidden_284 ?_
    exact a_iret hΓ hr dX12_hidden_285 ⟨_, _, rfl, rfl, h⟩
  · rw [if_neg c2] at h
    refine a_aload_n hΓ 0 dX12_hidden_286 rfl rfl ?_
    refine a_aload_n hΓ 0 dX12_hidden_287 rfl rfl ?_
    refine n_getI (x := (M 102 45)) hΓ fl_RX12_317 cl_12 kd_102 lz_102 dX12_hidden_288 (Or.inl ft_12_45) rfl ?_
    refine n_putI (j := 41) hΓ fl_RX12_96 cl_12 nf_12_41 kd_102 lz_102 dX12_hidden_291 (Or.inl ft_12_41) rfl ?_
    refine a_aload_n hΓ 0 dX12_hidden_294 rfl rfl ?_
    refine n_getR hΓ fl_RX12_93 cl_12 kd_102 lz_102 dX12_hidden_295 ft_12_40 rf_102_40 ?_
    refine a_iconst hΓ dX12_hidden_298 ?_
    refine a_aload_n hΓ 0 dX12_hidden_299 rfl rfl ?_
    refine n_getI (x := (M 102 43)) hΓ fl_RX12_323 cl_12 kd_102 lz_102 dX12_hidden_300 (Or.inl ft_12_43) rfl ?_
    refine a_iast hΓ dX12_hidden_303 kd_124 lz_124 ⟨by decide, by decide⟩ ?_
    refine a_aload_n hΓ 0 dX12_hidden_304 rfl rfl ?_
    refine n_getR hΓ fl_RX12_93 cl_12 kd_102 lz_102 dX12_hidden_305 ft_12_40 rf_102_40 ?_
    refine a_iconst hΓ dX12_hidden_308 ?_
    refine a_aload_n hΓ 0 dX12_hidden_309 rfl rfl ?_
    refine n_getI (x := (M 102 44)) hΓ fl_RX12_326 cl_12 kd_102 lz_102 dX12_hidden_310 (Or.inl ft_12_44) rfl ?_
    refine a_iast hΓ dX12_hidden_313 kd_124 lz_124 ⟨by decide, by decide⟩ ?_
    refine a_aload_n hΓ 0 dX12_hidden_314 rfl rfl ?_
    refine n_getI (x := (M 102 42)) hΓ fl_RX12_320 cl_12 kd_102 lz_102 dX12_hidden_315 (Or.inl ft_12_42) rfl ?_
    exact a_iret hΓ hr dX12_hidden_318 ⟨_, _, rfl, rfl, h⟩
def wX12_hidden_186 (Q : Int → Mm → Prop) (k159 : Int → Mm → Prop) (v1 : Int) (v3 : Int) (v4 : Int) : Nat → Int → Mm → Prop
  | 0, _, _ => False
  | f + 1, v5, M => (inR v5) ∧
    (if v5 < 120 then
      Bd (wX12_leftOn v1 v5 M) (fun r5 M6 =>
      (inR r5) ∧
      (if r5 = (-1) then
        (0 ≤ (v4 - 1) ∧ (v4 - 1) < 14400) ∧
        (0 ≤ (((120 * v4) + v5) - 1) ∧ (((120 * v4) + v5) - 1) < 14400) ∧
        Bd (wX12_adds2 (M6 121 (v4 - 1)) (M6 121 (((120 * v4) + v5) - 1)) M6) (fun r13 M14 =>
        (0 ≤ (((120 * v5) + 120) - 1) ∧ (((120 * v5) + 120) - 1) < 14400) ∧
        Bd (wX12_adds2 (M14 121 (((120 * v5) + 120) - 1)) (2 * v3) M14) (fun r18 M19 =>
        Bd (wX12_adds2 r13 r18 M19) (fun r22 M23 =>
        Bv (wX12_offers r22 2 v4 v5 M23) (fun M27 =>
        (wX12_hidden_186 Q k159 v1 v3 v4 f) (v5 + 1) M27))))
      else
        (wX12_hidden_186 Q k159 v1 v3 v4 f) (v5 + 1) M6))
    else
      k159 (v4 + 1) M)
set_option maxHeartbeats 4000000 in
theorem s_wX12_hidden_186 {Γ : Cx} {h : Nat} (hΓ : Ok Γ cX12_hidden RX12 6 h 0 0) (hh : 9 ≤ h) (hr : (cxm Γ).sig.returnType = (some .int)) {Q : Int → Mm → Prop} {v1 v3 v4 : Int}  {k159 : Int → Mm → Prop} (hk159 : ∀ (v4 : Int) (M : Mm), k159 v4 M → Wa Γ 6 (Kf Γ (QI Q) 0 0) 0 0 159 [(0, aR 102), (1, aI v1), (3, aI v3), (4, aI v4)] [] (NC, RF, M)) : ∀ (f : Nat) (v5 : Int) (M : Mm), wX12_hidden_186 Q k159 v1 v3 v4 f v5 M → Wa Γ 6 (Kf Γ (QI Q) 0 0) 0 0 186 [(0, aR 102), (1, aI v1), (3, aI v3), (4, aI v4), (5, aI v5)] [] (NC, RF, M) := by
  intro f
  induction f with
  | zero => intro v5 M h; exact h.elim
  | succ f ih =>
    intro v5 M h
    unfold wX12_hidden_186 at h
    refine a_iload hΓ 4 dX12_hidden_186 rfl ?_
    refine a_bipush hΓ dX12_hidden_188 (by decide) ?_
    obtain ⟨g1, h⟩ := h
    refine a_icmp_ge (tgt := 270) hΓ g1 (inRl (by decide)) dX12_hidden_190 (by decide) (fun c2 => ?_) (fun c2 => ?_)
    · rw [if_pos c2] at h
      refine a_aload_n hΓ 0 dX12_hidden_193 rfl rfl ?_
      refine a_iload_n hΓ 1 dX12_hidden_194 rfl rfl ?_
      refine a_iload hΓ 4 dX12_hidden_195 rfl ?_
      obtain ⟨P3, q4, h⟩ := h
      refine n_callV (c := 102) (av := [aI v1, aI v5]) (st := []) hΓ (ct_wX12_leftOn _ _ v1 v5 M P3 q4) my_X12_leftOn ml_RX12_116 ni_X12_leftOn kd_102 rfl lz_102 rfl (Nat.le_trans (by decide) hh) (by decide) (Nat.le_of_ble_eq_true rfl) rfl dX12_hidden_197 (fun v Z' hq => ?_)
      obtain ⟨r5, M6, rfl, rfl, hq⟩ := hq
      have h := h r5 M6 hq
      dsimp only at h
      refine a_iconst hΓ dX12_hidden_200 ?_
      obtain ⟨g7, h⟩ := h
      refine a_icmp_ne (tgt := 264) hΓ g7 (inRl (by decide)) dX12_hidden_201 (by decide) (fun c8 => ?_) (fun c8 => ?_)
      · rw [if_pos c8] at h
        refine a_aload_n hΓ 0 dX12_hidden_204 rfl rfl ?_
        refine a_aload_n hΓ 0 dX12_hidden_205 rfl rfl ?_
        refine n_getR hΓ fl_RX12_84 cl_12 kd_102 lz_102 dX12_hidden_206 ft_12_36 rf_102_36 ?_
        refine a_iload hΓ 3 dX12_hidden_209 rfl ?_
        refine a_iconst hΓ dX12_hidden_211 ?_
        refine a_isub hΓ dX12_hidden_212 ?_
        obtain ⟨g9, h⟩ := h
        refine n_iald (x := (M6 121 (v4 - 1))) hΓ dX12_hidden_213 kd_121 lz_121 g9 rfl ?_
        refine a_aload_n hΓ 0 dX12_hidden_214 rfl rfl ?_
        refine n_getR hΓ fl_RX12_84 cl_12 kd_102 lz_102 dX12_hidden_215 ft_12_36 rf_102_36 ?_
        refine a_bipush hΓ dX12_hidden_218 (by decide) ?_
        refine a_iload hΓ 3 dX12_hidden_220 rfl ?_
        refine a_imul hΓ dX12_hidden_222 ?_
        refine a_iload hΓ 4 dX12_hidden_223 rfl ?_
        refine a_iadd hΓ dX12_hidden_225 ?_
        refine a_iconst hΓ dX12_hidden_226 ?_
        refine a_isub hΓ dX12_hidden_227 ?_
        obtain ⟨g10, h⟩ := h
        refine n_iald (x := (M6 121 (((120 * v4) + v5) - 1))) hΓ dX12_hidden_228 kd_121 lz_121 g10 rfl ?_
        obtain ⟨P11, q12, h⟩ := h
        refine n_callS (av := [aI (M6 121 (v4 - 1)), aI (M6 121 (((120 * v4) + v5) - 1))]) (st := [aR 102]) hΓ (ct_wX12_adds2 _ _ (M6 121 (v4 - 1)) (M6 121 (((120 * v4) + v5) - 1)) M6 P11 q12) my_X12_adds2 ml_RX12_310 rfl (Nat.le_trans (by decide) hh) (by decide) (Nat.le_of_ble_eq_true rfl) rfl dX12_hidden_229 (fun v Z' hq => ?_)
        obtain ⟨r13, M14, rfl, rfl, hq⟩ := hq
        have h := h r13 M14 hq
        dsimp only at h
        refine a_aload_n hΓ 0 dX12_hidden_232 rfl rfl ?_
        refine n_getR hΓ fl_RX12_84 cl_12 kd_102 lz_102 dX12_hidden_233 ft_12_36 rf_102_36 ?_
        refine a_bipush hΓ dX12_hidden_236 (by decide) ?_
        refine a_iload hΓ 4 dX12_hidden_238 rfl ?_
        refine a_imul hΓ dX12_hidden_240 ?_
        refine a_bipush hΓ dX12_hidden_241 (by decide) ?_
        refine a_iadd hΓ dX12_hidden_243 ?_
        refine a_iconst hΓ dX12_hidden_244 ?_
        refine a_isub hΓ dX12_hidden_245 ?_
        obtain ⟨g15, h⟩ := h
        refine n_iald (x := (M14 121 (((120 * v5) + 120) - 1))) hΓ dX12_hidden_246 kd_121 lz_121 g15 rfl ?_
        refine a_iconst hΓ dX12_hidden_247 ?_
        refine a_iload_n hΓ 2 dX12_hidden_248 rfl rfl ?_
        refine a_imul hΓ dX12_hidden_249 ?_
        obtain ⟨P16, q17, h⟩ := h
        refine n_callS (av := [aI (M14 121 (((120 * v5) + 120) - 1)), aI (2 * v3)]) (st := [aI r13, aR 102]) hΓ (ct_wX12_adds2 _ _ (M14 121 (((120 * v5) + 120) - 1)) (2 * v3) M14 P16 q17) my_X12_adds2 ml_RX12_310 rfl (Nat.le_trans (by decide) hh) (by decide) (Nat.le_of_ble_eq_true rfl) rfl dX12_hidden_250 (fun v Z' hq => ?_)
        obtain ⟨r18, M19, rfl, rfl, hq⟩ := hq
        have h := h r18 M19 hq
        dsimp only at h
        obtain ⟨P20, q21, h⟩ := h
        refine n_callS (av := [aI r13, aI r18]) (st := [aR 102]) hΓ (ct_wX12_adds2 _ _ r13 r18 M19 P20 q21) my_X12_adds2 ml_RX12_310 rfl (Nat.le_trans (by decide) hh) (by decide) (Nat.le_of_ble_eq_true rfl) rfl dX12_hidden_253 (fun v Z' hq => ?_)
        obtain ⟨r22, M23, rfl, rfl, hq⟩ := hq
        have h := h r22 M23 hq
        dsimp only at h
        refine a_iconst hΓ dX12_hidden_256 ?_
        refine a_iload hΓ 3 dX12_hidden_257 rfl ?_
        refine a_iload hΓ 4 dX12_hidden_259 rfl ?_
        obtain ⟨P24, q25, h⟩ := h
        refine n_callV (c := 102) (av := [aI r22, aI 2, aI v4, aI v5]) (st := []) hΓ (ct_wX12_offers _ _ r22 2 v4 v5 M23 P24 q25) my_X12_offers ml_RX12_333 ni_X12_offers kd_102 rfl lz_102 rfl (Nat.le_trans (by decide) hh) (by decide) (Nat.le_of_ble_eq_true rfl) rfl dX12_hidden_261 (fun v Z' hq => ?_)
        obtain ⟨M27, rfl, rfl, hq⟩ := hq
        have h := h M27 hq
        dsimp only at h
        refine a_iinc (ls' := [(5, aI (v5 + 1)), (0, aR 102), (1, aI v1), (3, aI v3), (4, aI v4)]) hΓ 4 dX12_hidden_264 rfl (by decide) rfl ?_
        refine a_goto (tgt := 186) hΓ dX12_hidden_267 (by decide) ?_
        refine a_sub (ls' := [(0, aR 102), (1, aI v1), (3, aI v3), (4, aI v4), (5, aI (v5 + 1))]) [1, 2, 3, 4, 0] rfl ?_
        exact ih (v5 + 1) M27 h
      · rw [if_neg c8] at h
        refine a_iinc (ls' := [(5, aI (v5 + 1)), (0, aR 102), (1, aI v1), (3, aI v3), (4, aI v4)]) hΓ 4 dX12_hidden_264 rfl (by decide) rfl ?_
        refine a_goto (tgt := 186) hΓ dX12_hidden_267 (by decide) ?_
        refine a_sub (ls' := [(0, aR 102), (1, aI v1), (3, aI v3), (4, aI v4), (5, aI (v5 + 1))]) [1, 2, 3, 4, 0] rfl ?_
        exact ih (v5 + 1) M6 h
    · rw [if_neg c2] at h
      refine a_iinc (ls' := [(4, aI (v4 + 1)), (0, aR 102), (1, aI v1), (3, aI v3), (5, aI v5)]) hΓ 3 dX12_hidden_270 rfl (by decide) rfl ?_
      refine a_goto (tgt := 159) hΓ dX12_hidden_273 (by decide) ?_
      refine a_sub (ls' := [(0, aR 102), (1, aI v1), (3, aI v3), (4, aI (v4 + 1))]) [1, 2, 3, 0] rfl ?_
      exact hk159 (v4 + 1) M h
def wX12_hidden_159 (Q : Int → Mm → Prop) (v1 : Int) (v3 : Int) : Nat → Int → Mm → Prop
  | 0, _, _ => False
  | f + 1, v4, M => (inR v4) ∧
    (if v4 < 120 then
      Bd (wX12_leftOn v1 v4 M) (fun r5 M6 =>
      (inR r5) ∧
      (if r5 = (-1) then
        ∃ n, wX12_hidden_186 Q (wX12_hidden_159 Q v1 v3 f) v1 v3 v4 n (v4 + 1) M6
      else
        (wX12_hidden_159 Q v1 v3 f) (v4 + 1) M6))
    else
      wX12_hidden_276 Q M)
set_option maxHeartbeats 4000000 in
theorem s_wX12_hidden_159 {Γ : Cx} {h : Nat} (hΓ : Ok Γ cX12_hidden RX12 6 h 0 0) (hh : 9 ≤ h) (hr : (cxm Γ).sig.returnType = (some .int)) {Q : Int → Mm → Prop} {v1 v3 : Int}   : ∀ (f : Nat) (v4 : Int) (M : Mm), wX12_hidden_159 Q v1 v3 f v4 M → Wa Γ 6 (Kf Γ (QI Q) 0 0) 0 0 159 [(0, aR 102), (1, aI v1), (3, aI v3), (4, aI v4)] [] (NC, RF, M) := by
  intro f
  induction f with
  | zero => intro v4 M h; exact h.elim
  | succ f ih =>
    intro v4 M h
    unfold wX12_hidden_159 at h
    refine a_iload hΓ 3 dX12_hidden_159 rfl ?_
    refine a_bipush hΓ dX12_hidden_161 (by decide) ?_
    obtain ⟨g1, h⟩ := h
    refine a_icmp_ge (tgt := 276) hΓ g1 (inRl (by decide)) dX12_hidden_163 (by decide) (fun c2 => ?_) (fun c2 => ?_)
    · rw [if_pos c2] at h
      refine a_aload_n hΓ 0 dX12_hidden_166 rfl rfl ?_
      refine a_iload_n hΓ 1 dX12_hidden_167 rfl rfl ?_
      refine a_iload hΓ 3 dX12_hidden_168 rfl ?_
      obtain ⟨P3, q4, h⟩ := h
      refine n_callV (c := 102) (av := [aI v1, aI v4]) (st := []) hΓ (ct_wX12_leftOn _ _ v1 v4 M P3 q4) my_X12_leftOn ml_RX12_116 ni_X12_leftOn kd_102 rfl lz_102 rfl (Nat.le_trans (by decide) hh) (by decide) (Nat.le_of_ble_eq_true rfl) rfl dX12_hidden_170 (fun v Z' hq => ?_)
      obtain ⟨r5, M6, rfl, rfl, hq⟩ := hq
      have h := h r5 M6 hq
      dsimp only at h
      refine a_iconst hΓ dX12_hidden_173 ?_
      obtain ⟨g7, h⟩ := h
      refine a_icmp_eq (tgt := 180) hΓ g7 (inRl (by decide)) dX12_hidden_174 (by decide) (fun c8 => ?_) (fun c8 => ?_)
      · rw [if_pos c8] at h
        refine a_iload hΓ 3 dX12_hidden_180 rfl ?_
        refine a_iconst hΓ dX12_hidden_182 ?_
        refine a_iadd hΓ dX12_hidden_183 ?_
        refine a_istore (ls' := [(5, aI (v4 + 1)), (0, aR 102), (1, aI v1), (3, aI v3), (4, aI v4)]) hΓ dX12_hidden_184 (by decide) rfl ?_
        refine a_sub (ls' := [(0, aR 102), (1, aI v1), (3, aI v3), (4, aI v4), (5, aI (v4 + 1))]) [1, 2, 3, 4, 0] rfl ?_
        obtain ⟨f9, h⟩ := h
        exact s_wX12_hidden_186 hΓ (Nat.le_trans (by decide) hh) hr ih f9 (v4 + 1) M6 h
      · rw [if_neg c8] at h
        refine a_goto (tgt := 270) hΓ dX12_hidden_177 (by decide) ?_
        refine a_iinc (ls' := [(4, aI (v4 + 1)), (0, aR 102), (1, aI v1), (3, aI v3)]) hΓ 3 dX12_hidden_270 rfl (by decide) rfl ?_
        refine a_goto (tgt := 159) hΓ dX12_hidden_273 (by decide) ?_
        refine a_sub (ls' := [(0, aR 102), (1, aI v1), (3, aI v3), (4, aI (v4 + 1))]) [1, 2, 3, 0] rfl ?_
        exact ih (v4 + 1) M6 h
    · rw [if_neg c2] at h
      refine a_sub (ls' := [(0, aR 102)]) [0] rfl ?_
      exact s_wX12_hidden_276 hΓ (Nat.le_trans (by decide) hh) hr  M h
def wX12_hidden_93 (Q : Int → Mm → Prop) (v1 : Int) (v3 : Int) : Nat → Int → Mm → Prop
  | 0, _, _ => False
  | f + 1, v4, M => (inR v4) ∧
    (if v4 < 120 then
      Bd (wX12_leftOn v1 v4 M) (fun r5 M6 =>
      (inR r5) ∧
      (if r5 = (-1) then
        (0 ≤ (v4 - 1) ∧ (v4 - 1) < 14400) ∧
        (0 ≤ (((120 * v4) + 120) - 1) ∧ (((120 * v4) + 120) - 1) < 14400) ∧
        Bd (wX12_adds2 (M6 121 (v4 - 1)) (M6 121 (((120 * v4) + 120) - 1)) M6) (fun r13 M14 =>
        Bd (wX12_adds2 r13 v3 M14) (fun r17 M18 =>
        Bv (wX12_offers r17 1 v4 0 M18) (fun M22 =>
        (wX12_hidden_93 Q v1 v3 f) (v4 + 1) M22)))
      else
        (wX12_hidden_93 Q v1 v3 f) (v4 + 1) M6))
    else
      ∃ n, wX12_hidden_159 Q v1 v3 n 1 M)
set_option maxHeartbeats 4000000 in
theorem s_wX12_hidden_93 {Γ : Cx} {h : Nat} (hΓ : Ok Γ cX12_hidden RX12 6 h 0 0) (hh : 9 ≤ h) (hr : (cxm Γ).sig.returnType = (some .int)) {Q : Int → Mm → Prop} {v1 v3 : Int}   : ∀ (f : Nat) (v4 : Int) (M : Mm), wX12_hidden_93 Q v1 v3 f v4 M → Wa Γ 6 (Kf Γ (QI Q) 0 0) 0 0 93 [(0, aR 102), (1, aI v1), (3, aI v3), (4, aI v4)] [] (NC, RF, M) := by
  intro f
  induction f with
  | zero => intro v4 M h; exact h.elim
  | succ f ih =>
    intro v4 M h
    unfold wX12_hidden_93 at h
    refine a_iload hΓ 3 dX12_hidden_93 rfl ?_
    refine a_bipush hΓ dX12_hidden_95 (by decide) ?_
    obtain ⟨g1, h⟩ := h
    refine a_icmp_ge (tgt := 156) hΓ g1 (inRl (by decide)) dX12_hidden_97 (by decide) (fun c2 => ?_) (fun c2 => ?_)
    · rw [if_pos c2] at h
      refine a_aload_n hΓ 0 dX12_hidden_100 rfl rfl ?_
      refine a_iload_n hΓ 1 dX12_hidden_101 rfl rfl ?_
      refine a_iload hΓ 3 dX12_hidden_102 rfl ?_
      obtain ⟨P3, q4, h⟩ := h
      refine n_callV (c := 102) (av := [aI v1, aI v4]) (st := []) hΓ (ct_wX12_leftOn _ _ v1 v4 M P3 q4) my_X12_leftOn ml_RX12_116 ni_X12_leftOn kd_102 rfl lz_102 rfl (Nat.le_trans (by decide) hh) (by decide) (Nat.le_of_ble_eq_true rfl) rfl dX12_hidden_104 (fun v Z' hq => ?_)
      obtain ⟨r5, M6, rfl, rfl, hq⟩ := hq
      have h := h r5 M6 hq
      dsimp only at h
      refine a_iconst hΓ dX12_hidden_107 ?_
      obtain ⟨g7, h⟩ := h
      refine a_icmp_ne (tgt := 150) hΓ g7 (inRl (by decide)) dX12_hidden_108 (by decide) (fun c8 => ?_) (fun c8 => ?_)
      · rw [if_pos c8] at h
        refine a_aload_n hΓ 0 dX12_hidden_111 rfl rfl ?_
        refine a_aload_n hΓ 0 dX12_hidden_112 rfl rfl ?_
        refine n_getR hΓ fl_RX12_84 cl_12 kd_102 lz_102 dX12_hidden_113 ft_12_36 rf_102_36 ?_
        refine a_iload hΓ 3 dX12_hidden_116 rfl ?_
        refine a_iconst hΓ dX12_hidden_118 ?_
        refine a_isub hΓ dX12_hidden_119 ?_
        obtain ⟨g9, h⟩ := h
        refine n_iald (x := (M6 121 (v4 - 1))) hΓ dX12_hidden_120 kd_121 lz_121 g9 rfl ?_
        refine a_aload_n hΓ 0 dX12_hidden_121 rfl rfl ?_
        refine n_getR hΓ fl_RX12_84 cl_12 kd_102 lz_102 dX12_hidden_122 ft_12_36 rf_102_36 ?_
        refine a_bipush hΓ dX12_hidden_125 (by decide) ?_
        refine a_iload hΓ 3 dX12_hidden_127 rfl ?_
        refine a_imul hΓ dX12_hidden_129 ?_
        refine a_bipush hΓ dX12_hidden_130 (by decide) ?_
        refine a_iadd hΓ dX12_hidden_132 ?_
        refine a_iconst hΓ dX12_hidden_133 ?_
        refine a_isub hΓ dX12_hidden_134 ?_
        obtain ⟨g10, h⟩ := h
        refine n_iald (x := (M6 121 (((120 * v4) + 120) - 1))) hΓ dX12_hidden_135 kd_121 lz_121 g10 rfl ?_
        obtain ⟨P11, q12, h⟩ := h
        refine n_callS (av := [aI (M6 121 (v4 - 1)), aI (M6 121 (((120 * v4) + 120) - 1))]) (st := [aR 102]) hΓ (ct_wX12_adds2 _ _ (M6 121 (v4 - 1)) (M6 121 (((120 * v4) + 120) - 1)) M6 P11 q12) my_X12_adds2 ml_RX12_310 rfl (Nat.le_trans (by decide) hh) (by decide) (Nat.le_of_ble_eq_true rfl) rfl dX12_hidden_136 (fun v Z' hq => ?_)
        obtain ⟨r13, M14, rfl, rfl, hq⟩ := hq
        have h := h r13 M14 hq
        dsimp only at h
        refine a_iload_n hΓ 2 dX12_hidden_139 rfl rfl ?_
        obtain ⟨P15, q16, h⟩ := h
        refine n_callS (av := [aI r13, aI v3]) (st := [aR 102]) hΓ (ct_wX12_adds2 _ _ r13 v3 M14 P15 q16) my_X12_adds2 ml_RX12_310 rfl (Nat.le_trans (by decide) hh) (by decide) (Nat.le_of_ble_eq_true rfl) rfl dX12_hidden_140 (fun v Z' hq => ?_)
        obtain ⟨r17, M18, rfl, rfl, hq⟩ := hq
        have h := h r17 M18 hq
        dsimp only at h
        refine a_iconst hΓ dX12_hidden_143 ?_
        refine a_iload hΓ 3 dX12_hidden_144 rfl ?_
        refine a_iconst hΓ dX12_hidden_146 ?_
        obtain ⟨P19, q20, h⟩ := h
        refine n_callV (c := 102) (av := [aI r17, aI 1, aI v4, aI 0]) (st := []) hΓ (ct_wX12_offers _ _ r17 1 v4 0 M18 P19 q20) my_X12_offers ml_RX12_333 ni_X12_offers kd_102 rfl lz_102 rfl (Nat.le_trans (by decide) hh) (by decide) (Nat.le_of_ble_eq_true rfl) rfl dX12_hidden_147 (fun v Z' hq => ?_)
        obtain ⟨M22, rfl, rfl, hq⟩ := hq
        have h := h M22 hq
        dsimp only at h
        refine a_iinc (ls' := [(4, aI (v4 + 1)), (0, aR 102), (1, aI v1), (3, aI v3)]) hΓ 3 dX12_hidden_150 rfl (by decide) rfl ?_
        refine a_goto (tgt := 93) hΓ dX12_hidden_153 (by decide) ?_
        refine a_sub (ls' := [(0, aR 102), (1, aI v1), (3, aI v3), (4, aI (v4 + 1))]) [1, 2, 3, 0] rfl ?_
        exact ih (v4 + 1) M22 h
      · rw [if_neg c8] at h
        refine a_iinc (ls' := [(4, aI (v4 + 1)), (0, aR 102), (1, aI v1), (3, aI v3)]) hΓ 3 dX12_hidden_150 rfl (by decide) rfl ?_
        refine a_goto (tgt := 93) hΓ dX12_hidden_153 (by decide) ?_
        refine a_sub (ls' := [(0, aR 102), (1, aI v1), (3, aI v3), (4, aI (v4 + 1))]) [1, 2, 3, 0] rfl ?_
        exact ih (v4 + 1) M6 h
    · rw [if_neg c2] at h
      refine a_iconst hΓ dX12_hidden_156 ?_
      refine a_istore (ls' := [(4, aI 1), (0, aR 102), (1, aI v1), (3, aI v3)]) hΓ dX12_hidden_157 (by decide) rfl ?_
      refine a_sub (ls' := [(0, aR 102), (1, aI v1), (3, aI v3), (4, aI 1)]) [1, 2, 3, 0] rfl ?_
      obtain ⟨f23, h⟩ := h
      exact s_wX12_hidden_159 hΓ (Nat.le_trans (by decide) hh) hr  f23 1 M h
def wX12_hidden_71 (Q : Int → Mm → Prop) (v1 : Int) (v3 : Int) (M : Mm) : Prop :=
    Bv (wX12_offers (M 121 119) 0 0 0 (up M 102 45 (-1))) (fun M4 =>
    ∃ n, wX12_hidden_93 Q v1 v3 n 1 M4)
set_option maxHeartbeats 4000000 in
theorem s_wX12_hidden_71 {Γ : Cx} {h : Nat} (hΓ : Ok Γ cX12_hidden RX12 6 h 0 0) (hh : 9 ≤ h) (hr : (cxm Γ).sig.returnType = (some .int)) {Q : Int → Mm → Prop} {v1 v3 : Int}   (M : Mm) (h : wX12_hidden_71 Q v1 v3 M) : Wa Γ 6 (Kf Γ (QI Q) 0 0) 0 0 71 [(0, aR 102), (1, aI v1), (3, aI v3)] [] (NC, RF, M) := by
  unfold wX12_hidden_71 at h
  refine a_aload_n hΓ 0 dX12_hidden_71 rfl rfl ?_
  refine a_iconst hΓ dX12_hidden_72 ?_
  refine n_putI (j := 45) hΓ fl_RX12_317 cl_12 nf_12_45 kd_102 lz_102 dX12_hidden_73 (Or.inl ft_12_45) rfl ?_
  refine a_aload_n hΓ 0 dX12_hidden_76 rfl rfl ?_
  refine a_aload_n hΓ 0 dX12_hidden_77 rfl rfl ?_
  refine n_getR hΓ fl_RX12_84 cl_12 kd_102 lz_102 dX12_hidden_78 ft_12_36 rf_102_36 ?_
  refine a_bipush hΓ dX12_hidden_81 (by decide) ?_
  refine n_iald (x := (M 121 119)) hΓ dX12_hidden_83 kd_121 lz_121 ⟨by decide, by decide⟩ rfl ?_
  refine a_iconst hΓ dX12_hidden_84 ?_
  refine a_iconst hΓ dX12_hidden_85 ?_
  refine a_iconst hΓ dX12_hidden_86 ?_
  obtain ⟨P1, q2, h⟩ := h
  refine n_callV (c := 102) (av := [aI (M 121 119), aI 0, aI 0, aI 0]) (st := []) hΓ (ct_wX12_offers _ _ (M 121 119) 0 0 0 (up M 102 45 (-1)) P1 q2) my_X12_offers ml_RX12_333 ni_X12_offers kd_102 rfl lz_102 rfl (Nat.le_trans (by decide) hh) (by decide) (Nat.le_of_ble_eq_true rfl) rfl dX12_hidden_87 (fun v Z' hq => ?_)
  obtain ⟨M4, rfl, rfl, hq⟩ := hq
  have h := h M4 hq
  dsimp only at h
  refine a_iconst hΓ dX12_hidden_90 ?_
  refine a_istore (ls' := [(4, aI 1), (0, aR 102), (1, aI v1), (3, aI v3)]) hΓ dX12_hidden_91 (by decide) rfl ?_
  refine a_sub (ls' := [(0, aR 102), (1, aI v1), (3, aI v3), (4, aI 1)]) [1, 2, 3, 0] rfl ?_
  obtain ⟨f5, h⟩ := h
  exact s_wX12_hidden_93 hΓ (Nat.le_trans (by decide) hh) hr  f5 1 M4 h
def wX12_hidden_41 (Q : Int → Mm → Prop) (v1 : Int) (v3 : Int) : Nat → Int → Mm → Prop
  | 0, _, _ => False
  | f + 1, v4, M => (inR v4) ∧
    (if v4 < 120 then
      (if v4 ≤ 0 then
        Bv (wX12_runs v1 v4 0 M) (fun M7 =>
        (wX12_hidden_41 Q v1 v3 f) (v4 + 1) M7)
      else
        Bv (wX12_runs v1 v4 1 M) (fun M11 =>
        (wX12_hidden_41 Q v1 v3 f) (v4 + 1) M11))
    else
      wX12_hidden_71 Q v1 v3 M)
set_option maxHeartbeats 4000000 in
theorem s_wX12_hidden_41 {Γ : Cx} {h : Nat} (hΓ : Ok Γ cX12_hidden RX12 6 h 0 0) (hh : 9 ≤ h) (hr : (cxm Γ).sig.returnType = (some .int)) {Q : Int → Mm → Prop} {v1 v3 : Int}   : ∀ (f : Nat) (v4 : Int) (M : Mm), wX12_hidden_41 Q v1 v3 f v4 M → Wa Γ 6 (Kf Γ (QI Q) 0 0) 0 0 41 [(0, aR 102), (1, aI v1), (3, aI v3), (4, aI v4)] [] (NC, RF, M) := by
  intro f
  induction f with
  | zero => intro v4 M h; exact h.elim
  | succ f ih =>
    intro v4 M h
    unfold wX12_hidden_41 at h
    refine a_iload hΓ 3 dX12_hidden_41 rfl ?_
    refine a_bipush hΓ dX12_hidden_43 (by decide) ?_
    obtain ⟨g1, h⟩ := h
    refine a_icmp_ge (tgt := 71) hΓ g1 (inRl (by decide)) dX12_hidden_45 (by decide) (fun c2 => ?_) (fun c2 => ?_)
    · rw [if_pos c2] at h
      refine a_aload_n hΓ 0 dX12_hidden_48 rfl rfl ?_
      refine a_iload_n hΓ 1 dX12_hidden_49 rfl rfl ?_
      refine a_iload hΓ 3 dX12_hidden_50 rfl ?_
      refine a_iload hΓ 3 dX12_hidden_52 rfl ?_
      refine a_if_le (tgt := 61) hΓ g1 dX12_hidden_54 (by decide) (fun c3 => ?_) (fun c3 => ?_)
      · rw [if_pos c3] at h
        refine a_iconst hΓ dX12_hidden_61 ?_
        obtain ⟨P4, q5, h⟩ := h
        refine n_callV (c := 102) (av := [aI v1, aI v4, aI 0]) (st := []) hΓ (ct_wX12_runs _ _ v1 v4 0 M P4 q5) my_X12_runs ml_RX12_329 ni_X12_runs kd_102 rfl lz_102 rfl (Nat.le_trans (by decide) hh) (by decide) (Nat.le_of_ble_eq_true rfl) rfl dX12_hidden_62 (fun v Z' hq => ?_)
        obtain ⟨M7, rfl, rfl, hq⟩ := hq
        have h := h M7 hq
        dsimp only at h
        refine a_iinc (ls' := [(4, aI (v4 + 1)), (0, aR 102), (1, aI v1), (3, aI v3)]) hΓ 3 dX12_hidden_65 rfl (by decide) rfl ?_
        refine a_goto (tgt := 41) hΓ dX12_hidden_68 (by decide) ?_
        refine a_sub (ls' := [(0, aR 102), (1, aI v1), (3, aI v3), (4, aI (v4 + 1))]) [1, 2, 3, 0] rfl ?_
        exact ih (v4 + 1) M7 h
      · rw [if_neg c3] at h
        refine a_iconst hΓ dX12_hidden_57 ?_
        refine a_goto (tgt := 62) hΓ dX12_hidden_58 (by decide) ?_
        obtain ⟨P8, q9, h⟩ := h
        refine n_callV (c := 102) (av := [aI v1, aI v4, aI 1]) (st := []) hΓ (ct_wX12_runs _ _ v1 v4 1 M P8 q9) my_X12_runs ml_RX12_329 ni_X12_runs kd_102 rfl lz_102 rfl (Nat.le_trans (by decide) hh) (by decide) (Nat.le_of_ble_eq_true rfl) rfl dX12_hidden_62 (fun v Z' hq => ?_)
        obtain ⟨M11, rfl, rfl, hq⟩ := hq
        have h := h M11 hq
        dsimp only at h
        refine a_iinc (ls' := [(4, aI (v4 + 1)), (0, aR 102), (1, aI v1), (3, aI v3)]) hΓ 3 dX12_hidden_65 rfl (by decide) rfl ?_
        refine a_goto (tgt := 41) hΓ dX12_hidden_68 (by decide) ?_
        refine a_sub (ls' := [(0, aR 102), (1, aI v1), (3, aI v3), (4, aI (v4 + 1))]) [1, 2, 3, 0] rfl ?_
        exact ih (v4 + 1) M11 h
    · rw [if_neg c2] at h
      refine a_sub (ls' := [(0, aR 102), (1, aI v1), (3, aI v3)]) [0, 1, 2] rfl ?_
      exact s_wX12_hidden_71 hΓ (Nat.le_trans (by decide) hh) hr  M h
def wX12_hidden (v1 : Int) (v2 : Int) (v3 : Int) (M : Mm) (Q : Int → Mm → Prop) : Prop :=
    Bd (wX12_isShip v1 M) (fun r3 M4 =>
    (inR r3) ∧
    (if r3 = 0 then
      Q (-1) M4
    else
      Bd (wX12_isDay v2 M4) (fun r9 M10 =>
      (inR r9) ∧
      (if r9 = 0 then
        Q (-1) M10
      else
        Bd (wX12_in v3 0 100000 M10) (fun r15 M16 =>
        (inR r15) ∧
        (if r15 = 0 then
          Q (-1) M16
        else
          Bd (wX12_counting v1 v2 M16) (fun r21 M22 =>
          Bv (wX12_lays v1 r21 M22) (fun M26 =>
          ∃ n, wX12_hidden_41 Q v1 v3 n 0 M26))))))))
set_option maxHeartbeats 4000000 in
theorem s_wX12_hidden {Γ : Cx} {h : Nat} (hΓ : Ok Γ cX12_hidden RX12 6 h 0 0) (hh : 9 ≤ h) (hr : (cxm Γ).sig.returnType = (some .int)) {Q : Int → Mm → Prop} (v1 : Int) (v2 : Int) (v3 : Int) (M : Mm) (h : wX12_hidden v1 v2 v3 M Q) : Wa Γ 6 (Kf Γ (QI Q) 0 0) 0 0 0 [(0, aR 102), (1, aI v1), (2, aI v2), (3, aI v3)] [] (NC, RF, M) := by
  unfold wX12_hidden at h
  refine a_aload_n hΓ 0 dX12_hidden_0 rfl rfl ?_
  refine a_iload_n hΓ 1 dX12_hidden_1 rfl rfl ?_
  obtain ⟨P1, q2, h⟩ := h
  refine n_callV (c := 102) (av := [aI v1]) (st := []) hΓ (ct_wX12_isShip _ _ v1 M P1 q2) my_X12_isShip ml_RX12_113 ni_X12_isShip kd_102 rfl lz_102 rfl (Nat.le_trans (by decide) hh) (by decide) (Nat.le_of_ble_eq_true rfl) rfl dX12_hidden_2 (fun v Z' hq => ?_)
  obtain ⟨r3, M4, rfl, rfl, hq⟩ := hq
  have h := h r3 M4 hq
  dsimp only at h
  obtain ⟨g5, h⟩ := h
  refine a_if_eq (tgt := 25) hΓ g5 dX12_hidden_5 (by decide) (fun c6 => ?_) (fun c6 => ?_)
  · rw [if_pos c6] at h
    refine a_iconst hΓ dX12_hidden_25 ?_
    exact a_iret hΓ hr dX12_hidden_26 ⟨_, _, rfl, rfl, h⟩
  · rw [if_neg c6] at h
    refine a_iload_n hΓ 2 dX12_hidden_8 rfl rfl ?_
    obtain ⟨P7, q8, h⟩ := h
    refine n_callS (av := [aI v2]) (st := []) hΓ (ct_wX12_isDay _ _ v2 M4 P7 q8) my_X12_isDay ml_RX12_109 rfl (Nat.le_trans (by decide) hh) (by decide) (Nat.le_of_ble_eq_true rfl) rfl dX12_hidden_9 (fun v Z' hq => ?_)
    obtain ⟨r9, M10, rfl, rfl, hq⟩ := hq
    have h := h r9 M10 hq
    dsimp only at h
    obtain ⟨g11, h⟩ := h
    refine a_if_eq (tgt := 25) hΓ g11 dX12_hidden_12 (by decide) (fun c12 => ?_) (fun c12 => ?_)
    · rw [if_pos c12] at h
      refine a_iconst hΓ dX12_hidden_25 ?_
      exact a_iret hΓ hr dX12_hidden_26 ⟨_, _, rfl, rfl, h⟩
    · rw [if_neg c12] at h
      refine a_iload_n hΓ 3 dX12_hidden_15 rfl rfl ?_
      refine a_iconst hΓ dX12_hidden_16 ?_
      refine a_ldc hΓ gc_RX12_120 dX12_hidden_17 ?_
      obtain ⟨P13, q14, h⟩ := h
      refine n_callS (av := [aI v3, aI 0, aI 100000]) (st := []) hΓ (ct_wX12_in _ _ v3 0 100000 M10 P13 q14) my_X12_in ml_RX12_3 rfl (Nat.le_trans (by decide) hh) (by decide) (Nat.le_of_ble_eq_true rfl) rfl dX12_hidden_19 (fun v Z' hq => ?_)
      obtain ⟨r15, M16, rfl, rfl, hq⟩ := hq
      have h := h r15 M16 hq
      dsimp only at h
      obtain ⟨g17, h⟩ := h
      refine a_if_ne (tgt := 27) hΓ g17 dX12_hidden_22 (by decide) (fun c18 => ?_) (fun c18 => ?_)
      · rw [if_pos c18] at h
        refine a_iconst hΓ dX12_hidden_25 ?_
        exact a_iret hΓ hr dX12_hidden_26 ⟨_, _, rfl, rfl, h⟩
      · rw [if_neg c18] at h
        refine a_aload_n hΓ 0 dX12_hidden_27 rfl rfl ?_
        refine a_iload_n hΓ 1 dX12_hidden_28 rfl rfl ?_
        refine a_aload_n hΓ 0 dX12_hidden_29 rfl rfl ?_
        refine a_iload_n hΓ 1 dX12_hidden_30 rfl rfl ?_
        refine a_iload_n hΓ 2 dX12_hidden_31 rfl rfl ?_
        obtain ⟨P19, q20, h⟩ := h
        refine n_callV (c := 102) (av := [aI v1, aI v2]) (st := [aI v1, aR 102]) hΓ (ct_wX12_counting _ _ v1 v2 M16 P19 q20) my_X12_counting ml_RX12_177 ni_X12_counting kd_102 rfl lz_102 rfl (Nat.le_trans (by decide) hh) (by decide) (Nat.le_of_ble_eq_true rfl) rfl dX12_hidden_32 (fun v Z' hq => ?_)
        obtain ⟨r21, M22, rfl, rfl, hq⟩ := hq
        have h := h r21 M22 hq
        dsimp only at h
        obtain ⟨P23, q24, h⟩ := h
        refine n_callV (c := 102) (av := [aI v1, aI r21]) (st := []) hΓ (ct_wX12_lays _ _ v1 r21 M22 P23 q24) my_X12_lays ml_RX12_301 ni_X12_lays kd_102 rfl lz_102 rfl (Nat.le_trans (by decide) hh) (by decide) (Nat.le_of_ble_eq_true rfl) rfl dX12_hidden_35 (fun v Z' hq => ?_)
        obtain ⟨M26, rfl, rfl, hq⟩ := hq
        have h := h M26 hq
        dsimp only at h
        refine a_iconst hΓ dX12_hidden_38 ?_
        refine a_istore (ls' := [(4, aI 0), (0, aR 102), (1, aI v1), (2, aI v2), (3, aI v3)]) hΓ dX12_hidden_39 (by decide) rfl ?_
        refine a_sub (ls' := [(0, aR 102), (1, aI v1), (3, aI v3), (4, aI 0)]) [1, 2, 4, 0] rfl ?_
        obtain ⟨f27, h⟩ := h
        exact s_wX12_hidden_41 hΓ (Nat.le_trans (by decide) hh) hr  f27 0 M26 h
theorem ct_wX12_hidden (l : Launch) (g : Gp) (v1 : Int) (v2 : Int) (v3 : Int) (M : Mm) (Q : Int → Mm → Prop) (h : wX12_hidden v1 v2 v3 M Q) : Ct l g yX12_hidden cX12_hidden 6 (some .int) 9 0 0 [aR 102, aI v1, aI v2, aI v3] (NC, RF, M) (QI Q) :=
  ct_of (by decide) (Nat.le_of_ble_eq_true rfl) (fun Γ hg hl hr _ hΓ => by subst hg; subst hl; exact s_wX12_hidden hΓ (by decide) hr v1 v2 v3 M h)
def wX12_hid (v1 : Int) (M : Mm) (Q : Int → Mm → Prop) : Prop :=
    Bd (wX12_in v1 0 ((M 102 41) - 1) M) (fun r3 M4 =>
    (inR r3) ∧
    (if r3 = 0 then
      Q (-1) M4
    else
      (0 ≤ v1 ∧ v1 < 2) ∧
      Q (M4 124 v1) M4))
set_option maxHeartbeats 4000000 in
theorem s_wX12_hid {Γ : Cx} {h : Nat} (hΓ : Ok Γ cX12_hid RX12 2 h 0 0) (hh : 2 ≤ h) (hr : (cxm Γ).sig.returnType = (some .int)) {Q : Int → Mm → Prop} (v1 : Int) (M : Mm) (h : wX12_hid v1 M Q) : Wa Γ 2 (Kf Γ (QI Q) 0 0) 0 0 0 [(0, aR 102), (1, aI v1)] [] (NC, RF, M) := by
  unfold wX12_hid at h
  refine a_iload_n hΓ 1 dX12_hid_0 rfl rfl ?_
  refine a_iconst hΓ dX12_hid_1 ?_
  refine a_aload_n hΓ 0 dX12_hid_2 rfl rfl ?_
  refine n_getI (x := (M 102 41)) hΓ fl_RX12_96 cl_12 kd_102 lz_102 dX12_hid_3 (Or.inl ft_12_41) rfl ?_
  refine a_iconst hΓ dX12_hid_6 ?_
  refine a_isub hΓ dX12_hid_7 ?_
  obtain ⟨P1, q2, h⟩ := h
  refine n_callS (av := [aI v1, aI 0, aI ((M 102 41) - 1)]) (st := []) hΓ (ct_wX12_in _ _ v1 0 ((M 102 41) - 1) M P1 q2) my_X12_in ml_RX12_3 rfl (Nat.le_trans (by decide) hh) (by decide) (Nat.le_of_ble_eq_true rfl) rfl dX12_hid_8 (fun v Z' hq => ?_)
  obtain ⟨r3, M4, rfl, rfl, hq⟩ := hq
  have h := h r3 M4 hq
  dsimp only at h
  obtain ⟨g5, h⟩ := h
  refine a_if_eq (tgt := 23) hΓ g5 dX12_hid_11 (by decide) (fun c6 => ?_) (fun c6 => ?_)
  · rw [if_pos c6] at h
    refine a_iconst hΓ dX12_hid_23 ?_
    exact a_iret hΓ hr dX12_hid_24 ⟨_, _, rfl, rfl, h⟩
  · rw [if_neg c6] at h
    refine a_aload_n hΓ 0 dX12_hid_14 rfl rfl ?_
    refine n_getR hΓ fl_RX12_93 cl_12 kd_102 lz_102 dX12_hid_15 ft_12_40 rf_102_40 ?_
    refine a_iload_n hΓ 1 dX12_hid_18 rfl rfl ?_
    obtain ⟨g7, h⟩ := h
    refine n_iald (x := (M4 124 v1)) hΓ dX12_hid_19 kd_124 lz_124 g7 rfl ?_
    refine a_goto (tgt := 24) hΓ dX12_hid_20 (by decide) ?_
    exact a_iret hΓ hr dX12_hid_24 ⟨_, _, rfl, rfl, h⟩
theorem ct_wX12_hid (l : Launch) (g : Gp) (v1 : Int) (M : Mm) (Q : Int → Mm → Prop) (h : wX12_hid v1 M Q) : Ct l g yX12_hid cX12_hid 2 (some .int) 2 0 0 [aR 102, aI v1] (NC, RF, M) (QI Q) :=
  ct_of (by decide) (Nat.le_of_ble_eq_true rfl) (fun Γ hg hl hr _ hΓ => by subst hg; subst hl; exact s_wX12_hid hΓ (by decide) hr v1 M h)
