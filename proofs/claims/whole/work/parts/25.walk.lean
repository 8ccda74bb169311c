/-! ===== printed by tools/gen.py ===== -/
def wX9_dropFirst_44 (Q : Mm → Prop) (v1 : Int) (M : Mm) : Prop :=
    Q (up M 91 4 ((M 91 4) - v1))
set_option maxHeartbeats 4000000 in
theorem s_wX9_dropFirst_44 {Γ : Cx} {h : Nat} (hΓ : Ok Γ cX9_dropFirst RX9 3 h 0 0) (hh : 1 ≤ h) (hr : (cxm Γ).sig.returnType = none) {Q : Mm → Prop} {v1 : Int}   (M : Mm) (h : wX9_dropFirst_44 Q v1 M) : Wa Γ 3 (Kf Γ (QV Q) 0 0) 0 0 44 [(0, aR 91), (1, aI v1)] [] (NC, RF, M) := by
  unfold wX9_dropFirst_44 at h
  refine a_aload_n hΓ 0 dX9_dropFirst_44 rfl rfl ?_
  refine a_dupR hΓ dX9_dropFirst_45 ?_
  refine n_getI (x := (M 91 4)) hΓ fl_RX9_31 cl_9 kd_91 lz_91 dX9_dropFirst_46 (Or.inl ft_9_4) rfl ?_
  refine a_iload_n hΓ 1 dX9_dropFirst_49 rfl rfl ?_
  refine a_isub hΓ dX9_dropFirst_50 ?_
  refine n_putI (j := 4) hΓ fl_RX9_31 cl_9 nf_9_4 kd_91 lz_91 dX9_dropFirst_51 (Or.inl ft_9_4) rfl ?_
  exact a_vret hΓ hr dX9_dropFirst_54 ⟨_, rfl, rfl, h⟩
def wX9_dropFirst_2 (Q : Mm → Prop) (v1 : Int) : Nat → Int → Mm → Prop
  | 0, _, _ => False
  | f + 1, v2, M => (inR v2) ∧
    (inR (M 91 4)) ∧
    (if v2 < (M 91 4) then
      (0 ≤ v2 ∧ v2 < 96) ∧
      (0 ≤ (v2 - v1) ∧ (v2 - v1) < 96) ∧
      (wX9_dropFirst_2 Q v1 f) (v2 + 1) (up (up M 92 (v2 - v1) (M 92 v2)) 93 (v2 - v1) (M 93 v2))
    else
      wX9_dropFirst_44 Q v1 M)
set_option maxHeartbeats 4000000 in
theorem s_wX9_dropFirst_2 {Γ : Cx} {h : Nat} (hΓ : Ok Γ cX9_dropFirst RX9 3 h 0 0) (hh : 1 ≤ h) (hr : (cxm Γ).sig.returnType = none) {Q : Mm → Prop} {v1 : Int}   : ∀ (f : Nat) (v2 : Int) (M : Mm), wX9_dropFirst_2 Q v1 f v2 M → Wa Γ 3 (Kf Γ (QV Q) 0 0) 0 0 2 [(0, aR 91), (1, aI v1), (2, aI v2)] [] (NC, RF, M) := by
  intro f
  induction f with
  | zero => intro v2 M h; exact h.elim
  | succ f ih =>
    intro v2 M h
    unfold wX9_dropFirst_2 at h
    refine a_iload_n hΓ 2 dX9_dropFirst_2 rfl rfl ?_
    refine a_aload_n hΓ 0 dX9_dropFirst_3 rfl rfl ?_
    refine n_getI (x := (M 91 4)) hΓ fl_RX9_31 cl_9 kd_91 lz_91 dX9_dropFirst_4 (Or.inl ft_9_4) rfl ?_
    obtain ⟨g1, h⟩ := h
    obtain ⟨g2, h⟩ := h
    refine a_icmp_ge (tgt := 44) hΓ g1 g2 dX9_dropFirst_7 (by decide) (fun c3 => ?_) (fun c3 => ?_)
    · rw [if_pos c3] at h
      refine a_aload_n hΓ 0 dX9_dropFirst_10 rfl rfl ?_
      refine n_getR hΓ fl_RX9_11 cl_9 kd_91 lz_91 dX9_dropFirst_11 ft_9_5 rf_91_5 ?_
      refine a_iload_n hΓ 2 dX9_dropFirst_14 rfl rfl ?_
      refine a_iload_n hΓ 1 dX9_dropFirst_15 rfl rfl ?_
      refine a_isub hΓ dX9_dropFirst_16 ?_
      refine a_aload_n hΓ 0 dX9_dropFirst_17 rfl rfl ?_
      refine n_getR hΓ fl_RX9_11 cl_9 kd_91 lz_91 dX9_dropFirst_18 ft_9_5 rf_91_5 ?_
      refine a_iload_n hΓ 2 dX9_dropFirst_21 rfl rfl ?_
      obtain ⟨g4, h⟩ := h
      refine n_iald (x := (M 92 v2)) hΓ dX9_dropFirst_22 kd_92 lz_92 g4 rfl ?_
      obtain ⟨g5, h⟩ := h
      refine a_iast hΓ dX9_dropFirst_23 kd_92 lz_92 g5 ?_
      refine a_aload_n hΓ 0 dX9_dropFirst_24 rfl rfl ?_
      refine n_getR hΓ fl_RX9_15 cl_9 kd_91 lz_91 dX9_dropFirst_25 ft_9_6 rf_91_6 ?_
      refine a_iload_n hΓ 2 dX9_dropFirst_28 rfl rfl ?_
      refine a_iload_n hΓ 1 dX9_dropFirst_29 rfl rfl ?_
      refine a_isub hΓ dX9_dropFirst_30 ?_
      refine a_aload_n hΓ 0 dX9_dropFirst_31 rfl rfl ?_
      refine n_getR hΓ fl_RX9_15 cl_9 kd_91 lz_91 dX9_dropFirst_32 ft_9_6 rf_91_6 ?_
      refine a_iload_n hΓ 2 dX9_dropFirst_35 rfl rfl ?_
      refine n_iald (x := (M 93 v2)) hΓ dX9_dropFirst_36 kd_93 lz_93 g4 rfl ?_
      refine a_iast hΓ dX9_dropFirst_37 kd_93 lz_93 g5 ?_
      refine a_iinc (ls' := [(2, aI (v2 + 1)), (0, aR 91), (1, aI v1)]) hΓ 2 dX9_dropFirst_38 rfl (by decide) rfl ?_
      refine a_goto (tgt := 2) hΓ dX9_dropFirst_41 (by decide) ?_
      refine a_sub (ls' := [(0, aR 91), (1, aI v1), (2, aI (v2 + 1))]) [1, 2, 0] rfl ?_
      exact ih (v2 + 1) (up (up M 92 (v2 - v1) (M 92 v2)) 93 (v2 - v1) (M 93 v2)) h
    · rw [if_neg c3] at h
      refine a_sub (ls' := [(0, aR 91), (1, aI v1)]) [0, 1] rfl ?_
      exact s_wX9_dropFirst_44 hΓ (Nat.le_trans (by decide) hh) hr  M h
def wX9_dropFirst (v1 : Int) (M : Mm) (Q : Mm → Prop) : Prop :=
    ∃ n, wX9_dropFirst_2 Q v1 n v1 M
set_option maxHeartbeats 4000000 in
theorem s_wX9_dropFirst {Γ : Cx} {h : Nat} (hΓ : Ok Γ cX9_dropFirst RX9 3 h 0 0) (hh : 1 ≤ h) (hr : (cxm Γ).sig.returnType = none) {Q : Mm → Prop} (v1 : Int) (M : Mm) (h : wX9_dropFirst v1 M Q) : Wa Γ 3 (Kf Γ (QV Q) 0 0) 0 0 0 [(0, aR 91), (1, aI v1)] [] (NC, RF, M) := by
  unfold wX9_dropFirst at h
  refine a_iload_n hΓ 1 dX9_dropFirst_0 rfl rfl ?_
  refine a_istore_n (ls' := [(2, aI v1), (0, aR 91), (1, aI v1)]) hΓ dX9_dropFirst_1 rfl (by decide) rfl ?_
  refine a_sub (ls' := [(0, aR 91), (1, aI v1), (2, aI v1)]) [1, 2, 0] rfl ?_
  obtain ⟨f1, h⟩ := h
  exact s_wX9_dropFirst_2 hΓ (Nat.le_trans (by decide) hh) hr  f1 v1 M h
theorem ct_wX9_dropFirst (l : Launch) (g : Gp) (v1 : Int) (M : Mm) (Q : Mm → Prop) (h : wX9_dropFirst v1 M Q) : Ct l g yX9_dropFirst cX9_dropFirst 3 none 1 0 0 [aR 91, aI v1] (NC, RF, M) (QV Q) :=
  ct_of (by decide) (Nat.le_of_ble_eq_true rfl) (fun Γ hg hl hr _ hΓ => by subst hg; subst hl; exact s_wX9_dropFirst hΓ (by decide) hr v1 M h)
def wX9_cutTo_143 (Q : Int → Mm → Prop) (v3 : Int) : Nat → Mm → Prop
  | 0, _ => False
  | f + 1, M => (inR (M 91 4)) ∧
    (if (M 91 4) ≤ 0 then
      Q 1 M
    else
      (0 ≤ ((M 91 4) - 1) ∧ ((M 91 4) - 1) < 96) ∧
      (inR (M 92 ((M 91 4) - 1))) ∧
      (inR v3) ∧
      (if (M 92 ((M 91 4) - 1)) < v3 then
        Q 1 M
      else
        (wX9_cutTo_143 Q v3 f) (up M 91 4 ((M 91 4) - 1))))
set_option maxHeartbeats 4000000 in
theorem s_wX9_cutTo_143 {Γ : Cx} {h : Nat} (hΓ : Ok Γ cX9_cutTo RX9 5 h 0 0) (hh : 2 ≤ h) (hr : (cxm Γ).sig.returnType = (some .boolean)) {Q : Int → Mm → Prop} {v3 : Int}   : ∀ (f : Nat) (M : Mm), wX9_cutTo_143 Q v3 f M → Wa Γ 5 (Kf Γ (QI Q) 0 0) 0 0 143 [(0, aR 91), (3, aI v3)] [] (NC, RF, M) := by
  intro f
  induction f with
  | zero => intro M h; exact h.elim
  | succ f ih =>
    intro M h
    unfold wX9_cutTo_143 at h
    refine a_aload_n hΓ 0 dX9_cutTo_143 rfl rfl ?_
    refine n_getI (x := (M 91 4)) hΓ fl_RX9_31 cl_9 kd_91 lz_91 dX9_cutTo_144 (Or.inl ft_9_4) rfl ?_
    obtain ⟨g1, h⟩ := h
    refine a_if_le (tgt := 178) hΓ g1 dX9_cutTo_147 (by decide) (fun c2 => ?_) (fun c2 => ?_)
    · rw [if_pos c2] at h
      refine a_iconst hΓ dX9_cutTo_178 ?_
      exact a_zret hΓ hr (Or.inr rfl) dX9_cutTo_179 ⟨_, _, rfl, rfl, h⟩
    · rw [if_neg c2] at h
      refine a_aload_n hΓ 0 dX9_cutTo_150 rfl rfl ?_
      refine n_getR hΓ fl_RX9_11 cl_9 kd_91 lz_91 dX9_cutTo_151 ft_9_5 rf_91_5 ?_
      refine a_aload_n hΓ 0 dX9_cutTo_154 rfl rfl ?_
      refine n_getI (x := (M 91 4)) hΓ fl_RX9_31 cl_9 kd_91 lz_91 dX9_cutTo_155 (Or.inl ft_9_4) rfl ?_
      refine a_iconst hΓ dX9_cutTo_158 ?_
      refine a_isub hΓ dX9_cutTo_159 ?_
      obtain ⟨g3, h⟩ := h
      refine n_iald (x := (M 92 ((M 91 4) - 1))) hΓ dX9_cutTo_160 kd_92 lz_92 g3 rfl ?_
      refine a_iload_n hΓ 1 dX9_cutTo_161 rfl rfl ?_
      obtain ⟨g4, h⟩ := h
      obtain ⟨g5, h⟩ := h
      refine a_icmp_lt (tgt := 178) hΓ g4 g5 dX9_cutTo_162 (by decide) (fun c6 => ?_) (fun c6 => ?_)
      · rw [if_pos c6] at h
        refine a_iconst hΓ dX9_cutTo_178 ?_
        exact a_zret hΓ hr (Or.inr rfl) dX9_cutTo_179 ⟨_, _, rfl, rfl, h⟩
      · rw [if_neg c6] at h
        refine a_aload_n hΓ 0 dX9_cutTo_165 rfl rfl ?_
        refine a_dupR hΓ dX9_cutTo_166 ?_
        refine n_getI (x := (M 91 4)) hΓ fl_RX9_31 cl_9 kd_91 lz_91 dX9_cutTo_167 (Or.inl ft_9_4) rfl ?_
        refine a_iconst hΓ dX9_cutTo_170 ?_
        refine a_isub hΓ dX9_cutTo_171 ?_
        refine n_putI (j := 4) hΓ fl_RX9_31 cl_9 nf_9_4 kd_91 lz_91 dX9_cutTo_172 (Or.inl ft_9_4) rfl ?_
        refine a_goto (tgt := 143) hΓ dX9_cutTo_175 (by decide) ?_
        exact ih (up M 91 4 ((M 91 4) - 1)) h
def wX9_cutTo_107 (Q : Int → Mm → Prop) (v2 : Int) (v3 : Int) (v4 : Int) (M : Mm) : Prop :=
    Bv (wX9_dropFirst v4 (up (up (up M 91 2 ((M 91 2) + ((M 91 3) * (v2 - (M 91 0))))) 91 0 v2) 91 1 v3)) (fun M4 =>
    ∃ n, wX9_cutTo_143 Q v3 n M4)
set_option maxHeartbeats 4000000 in
theorem s_wX9_cutTo_107 {Γ : Cx} {h : Nat} (hΓ : Ok Γ cX9_cutTo RX9 5 h 0 0) (hh : 2 ≤ h) (hr : (cxm Γ).sig.returnType = (some .boolean)) {Q : Int → Mm → Prop} {v2 v3 v4 : Int}   (M : Mm) (h : wX9_cutTo_107 Q v2 v3 v4 M) : Wa Γ 5 (Kf Γ (QI Q) 0 0) 0 0 107 [(0, aR 91), (2, aI v2), (3, aI v3), (4, aI v4)] [] (NC, RF, M) := by
  unfold wX9_cutTo_107 at h
  refine a_aload_n hΓ 0 dX9_cutTo_107 rfl rfl ?_
  refine a_dupR hΓ dX9_cutTo_108 ?_
  refine n_getI (x := (M 91 2)) hΓ fl_RX9_25 cl_9 kd_91 lz_91 dX9_cutTo_109 (Or.inl ft_9_2) rfl ?_
  refine a_aload_n hΓ 0 dX9_cutTo_112 rfl rfl ?_
  refine n_getI (x := (M 91 3)) hΓ fl_RX9_28 cl_9 kd_91 lz_91 dX9_cutTo_113 (Or.inl ft_9_3) rfl ?_
  refine a_iload_n hΓ 1 dX9_cutTo_116 rfl rfl ?_
  refine a_aload_n hΓ 0 dX9_cutTo_117 rfl rfl ?_
  refine n_getI (x := (M 91 0)) hΓ fl_RX9_18 cl_9 kd_91 lz_91 dX9_cutTo_118 (Or.inl ft_9_0) rfl ?_
  refine a_isub hΓ dX9_cutTo_121 ?_
  refine a_imul hΓ dX9_cutTo_122 ?_
  refine a_iadd hΓ dX9_cutTo_123 ?_
  refine n_putI (j := 2) hΓ fl_RX9_25 cl_9 nf_9_2 kd_91 lz_91 dX9_cutTo_124 (Or.inl ft_9_2) rfl ?_
  refine a_aload_n hΓ 0 dX9_cutTo_127 rfl rfl ?_
  refine a_iload_n hΓ 1 dX9_cutTo_128 rfl rfl ?_
  refine n_putI (j := 0) hΓ fl_RX9_18 cl_9 nf_9_0 kd_91 lz_91 dX9_cutTo_129 (Or.inl ft_9_0) rfl ?_
  refine a_aload_n hΓ 0 dX9_cutTo_132 rfl rfl ?_
  refine a_iload_n hΓ 2 dX9_cutTo_133 rfl rfl ?_
  refine n_putI (j := 1) hΓ fl_RX9_22 cl_9 nf_9_1 kd_91 lz_91 dX9_cutTo_134 (Or.inl ft_9_1) rfl ?_
  refine a_aload_n hΓ 0 dX9_cutTo_137 rfl rfl ?_
  refine a_iload hΓ 3 dX9_cutTo_138 rfl ?_
  obtain ⟨P1, q2, h⟩ := h
  refine n_callV (c := 91) (av := [aI v4]) (st := []) hΓ (ct_wX9_dropFirst _ _ v4 (up (up (up M 91 2 ((M 91 2) + ((M 91 3) * (v2 - (M 91 0))))) 91 0 v2) 91 1 v3) P1 q2) my_X9_dropFirst ml_RX9_55 ni_X9_dropFirst kd_91 rfl lz_91 rfl (Nat.le_trans (by decide) hh) (by decide) (Nat.le_of_ble_eq_true rfl) rfl dX9_cutTo_140 (fun v Z' hq => ?_)
  obtain ⟨M4, rfl, rfl, hq⟩ := hq
  have h := h M4 hq
  dsimp only at h
  refine a_sub (ls' := [(0, aR 91), (3, aI v3)]) [0, 2] rfl ?_
  obtain ⟨f5, h⟩ := h
  exact s_wX9_cutTo_143 hΓ (Nat.le_trans (by decide) hh) hr  f5 M4 h
def wX9_cutTo_28 (Q : Int → Mm → Prop) (v2 : Int) (v3 : Int) : Nat → Int → Mm → Prop
  | 0, _, _ => False
  | f + 1, v4, M => (inR v4) ∧
    (inR (M 91 4)) ∧
    (if v4 < (M 91 4) then
      (0 ≤ v4 ∧ v4 < 96) ∧
      (inR (M 92 v4)) ∧
      (inR v2) ∧
      (if (M 92 v4) ≤ v2 then
        (wX9_cutTo_28 Q v2 v3 f) (v4 + 1) (up (up (up M 91 2 ((M 91 2) + ((M 91 3) * ((M 92 v4) - (M 91 0))))) 91 0 (M 92 v4)) 91 3 ((M 91 3) + (M 93 v4)))
      else
        wX9_cutTo_107 Q v2 v3 v4 M)
    else
      wX9_cutTo_107 Q v2 v3 v4 M)
set_option maxHeartbeats 4000000 in
theorem s_wX9_cutTo_28 {Γ : Cx} {h : Nat} (hΓ : Ok Γ cX9_cutTo RX9 5 h 0 0) (hh : 2 ≤ h) (hr : (cxm Γ).sig.returnType = (some .boolean)) {Q : Int → Mm → Prop} {v2 v3 : Int}   : ∀ (f : Nat) (v4 : Int) (M : Mm), wX9_cutTo_28 Q v2 v3 f v4 M → Wa Γ 5 (Kf Γ (QI Q) 0 0) 0 0 28 [(0, aR 91), (2, aI v2), (3, aI v3), (4, aI v4)] [] (NC, RF, M) := by
  intro f
  induction f with
  | zero => intro v4 M h; exact h.elim
  | succ f ih =>
    intro v4 M h
    unfold wX9_cutTo_28 at h
    refine a_iload hΓ 3 dX9_cutTo_28 rfl ?_
    refine a_aload_n hΓ 0 dX9_cutTo_30 rfl rfl ?_
    refine n_getI (x := (M 91 4)) hΓ fl_RX9_31 cl_9 kd_91 lz_91 dX9_cutTo_31 (Or.inl ft_9_4) rfl ?_
    obtain ⟨g1, h⟩ := h
    obtain ⟨g2, h⟩ := h
    refine a_icmp_ge (tgt := 107) hΓ g1 g2 dX9_cutTo_34 (by decide) (fun c3 => ?_) (fun c3 => ?_)
    · rw [if_pos c3] at h
      refine a_aload_n hΓ 0 dX9_cutTo_37 rfl rfl ?_
      refine n_getR hΓ fl_RX9_11 cl_9 kd_91 lz_91 dX9_cutTo_38 ft_9_5 rf_91_5 ?_
      refine a_iload hΓ 3 dX9_cutTo_41 rfl ?_
      obtain ⟨g4, h⟩ := h
      refine n_iald (x := (M 92 v4)) hΓ dX9_cutTo_43 kd_92 lz_92 g4 rfl ?_
      refine a_iload_n hΓ 1 dX9_cutTo_44 rfl rfl ?_
      obtain ⟨g5, h⟩ := h
      obtain ⟨g6, h⟩ := h
      refine a_icmp_gt (tgt := 107) hΓ g5 g6 dX9_cutTo_45 (by decide) (fun c7 => ?_) (fun c7 => ?_)
      · rw [if_pos c7] at h
        refine a_aload_n hΓ 0 dX9_cutTo_48 rfl rfl ?_
        refine a_dupR hΓ dX9_cutTo_49 ?_
        refine n_getI (x := (M 91 2)) hΓ fl_RX9_25 cl_9 kd_91 lz_91 dX9_cutTo_50 (Or.inl ft_9_2) rfl ?_
        refine a_aload_n hΓ 0 dX9_cutTo_53 rfl rfl ?_
        refine n_getI (x := (M 91 3)) hΓ fl_RX9_28 cl_9 kd_91 lz_91 dX9_cutTo_54 (Or.inl ft_9_3) rfl ?_
        refine a_aload_n hΓ 0 dX9_cutTo_57 rfl rfl ?_
        refine n_getR hΓ fl_RX9_11 cl_9 kd_91 lz_91 dX9_cutTo_58 ft_9_5 rf_91_5 ?_
        refine a_iload hΓ 3 dX9_cutTo_61 rfl ?_
        refine n_iald (x := (M 92 v4)) hΓ dX9_cutTo_63 kd_92 lz_92 g4 rfl ?_
        refine a_aload_n hΓ 0 dX9_cutTo_64 rfl rfl ?_
        refine n_getI (x := (M 91 0)) hΓ fl_RX9_18 cl_9 kd_91 lz_91 dX9_cutTo_65 (Or.inl ft_9_0) rfl ?_
        refine a_isub hΓ dX9_cutTo_68 ?_
        refine a_imul hΓ dX9_cutTo_69 ?_
        refine a_iadd hΓ dX9_cutTo_70 ?_
        refine n_putI (j := 2) hΓ fl_RX9_25 cl_9 nf_9_2 kd_91 lz_91 dX9_cutTo_71 (Or.inl ft_9_2) rfl ?_
        refine a_aload_n hΓ 0 dX9_cutTo_74 rfl rfl ?_
        refine a_aload_n hΓ 0 dX9_cutTo_75 rfl rfl ?_
        refine n_getR hΓ fl_RX9_11 cl_9 kd_91 lz_91 dX9_cutTo_76 ft_9_5 rf_91_5 ?_
        refine a_iload hΓ 3 dX9_cutTo_79 rfl ?_
        refine n_iald (x := (M 92 v4)) hΓ dX9_cutTo_81 kd_92 lz_92 g4 rfl ?_
        refine n_putI (j := 0) hΓ fl_RX9_18 cl_9 nf_9_0 kd_91 lz_91 dX9_cutTo_82 (Or.inl ft_9_0) rfl ?_
        refine a_aload_n hΓ 0 dX9_cutTo_85 rfl rfl ?_
        refine a_dupR hΓ dX9_cutTo_86 ?_
        refine n_getI (x := (M 91 3)) hΓ fl_RX9_28 cl_9 kd_91 lz_91 dX9_cutTo_87 (Or.inl ft_9_3) rfl ?_
        refine a_aload_n hΓ 0 dX9_cutTo_90 rfl rfl ?_
        refine n_getR hΓ fl_RX9_15 cl_9 kd_91 lz_91 dX9_cutTo_91 ft_9_6 rf_91_6 ?_
        refine a_iload hΓ 3 dX9_cutTo_94 rfl ?_
        refine n_iald (x := (M 93 v4)) hΓ dX9_cutTo_96 kd_93 lz_93 g4 rfl ?_
        refine a_iadd hΓ dX9_cutTo_97 ?_
        refine n_putI (j := 3) hΓ fl_RX9_28 cl_9 nf_9_3 kd_91 lz_91 dX9_cutTo_98 (Or.inl ft_9_3) rfl ?_
        refine a_iinc (ls' := [(4, aI (v4 + 1)), (0, aR 91), (2, aI v2), (3, aI v3)]) hΓ 3 dX9_cutTo_101 rfl (by decide) rfl ?_
        refine a_goto (tgt := 28) hΓ dX9_cutTo_104 (by decide) ?_
        refine a_sub (ls' := [(0, aR 91), (2, aI v2), (3, aI v3), (4, aI (v4 + 1))]) [1, 2, 3, 0] rfl ?_
        exact ih (v4 + 1) (up (up (up M 91 2 ((M 91 2) + ((M 91 3) * ((M 92 v4) - (M 91 0))))) 91 0 (M 92 v4)) 91 3 ((M 91 3) + (M 93 v4))) h
      · rw [if_neg c7] at h
        exact s_wX9_cutTo_107 hΓ (Nat.le_trans (by decide) hh) hr  M h
    · rw [if_neg c3] at h
      exact s_wX9_cutTo_107 hΓ (Nat.le_trans (by decide) hh) hr  M h
def wX9_cutTo (v1 : Int) (M : Mm) (Q : Int → Mm → Prop) : Prop :=
    Bd (wJ9_max_7cf53 (M 91 0) 0 M) (fun r3 M4 =>
    Bd (wJ9_min_7cf53 (M4 91 1) v1 M4) (fun r7 M8 =>
    (inR r3) ∧
    (inR r7) ∧
    (if r3 ≤ r7 then
      ∃ n, wX9_cutTo_28 Q r3 r7 n 0 M8
    else
      Q 0 M8)))
set_option maxHeartbeats 4000000 in
theorem s_wX9_cutTo {Γ : Cx} {h : Nat} (hΓ : Ok Γ cX9_cutTo RX9 5 h 0 0) (hh : 2 ≤ h) (hr : (cxm Γ).sig.returnType = (some .boolean)) {Q : Int → Mm → Prop} (v1 : Int) (M : Mm) (h : wX9_cutTo v1 M Q) : Wa Γ 5 (Kf Γ (QI Q) 0 0) 0 0 0 [(0, aR 91), (1, aI v1)] [] (NC, RF, M) := by
  unfold wX9_cutTo at h
  refine a_aload_n hΓ 0 dX9_cutTo_0 rfl rfl ?_
  refine n_getI (x := (M 91 0)) hΓ fl_RX9_18 cl_9 kd_91 lz_91 dX9_cutTo_1 (Or.inl ft_9_0) rfl ?_
  refine a_iconst hΓ dX9_cutTo_4 ?_
  obtain ⟨P1, q2, h⟩ := h
  refine n_callS (av := [aI (M 91 0), aI 0]) (st := []) hΓ (ct_wJ9_max_7cf53 _ _ (M 91 0) 0 M P1 q2) my_J9_max_7cf53 ml_RX9_34 rfl (Nat.le_trans (by decide) hh) (by decide) (Nat.le_of_ble_eq_true rfl) rfl dX9_cutTo_5 (fun v Z' hq => ?_)
  obtain ⟨r3, M4, rfl, rfl, hq⟩ := hq
  have h := h r3 M4 hq
  dsimp only at h
  refine a_istore_n (ls' := [(2, aI r3), (0, aR 91), (1, aI v1)]) hΓ dX9_cutTo_8 rfl (by decide) rfl ?_
  refine a_aload_n hΓ 1 dX9_cutTo_9 rfl rfl ?_
  refine n_getI (x := (M4 91 1)) hΓ fl_RX9_22 cl_9 kd_91 lz_91 dX9_cutTo_10 (Or.inl ft_9_1) rfl ?_
  refine a_iload_n hΓ 2 dX9_cutTo_13 rfl rfl ?_
  obtain ⟨P5, q6, h⟩ := h
  refine n_callS (av := [aI (M4 91 1), aI v1]) (st := []) hΓ (ct_wJ9_min_7cf53 _ _ (M4 91 1) v1 M4 P5 q6) my_J9_min_7cf53 ml_RX9_52 rfl (Nat.le_trans (by decide) hh) (by decide) (Nat.le_of_ble_eq_true rfl) rfl dX9_cutTo_14 (fun v Z' hq => ?_)
  obtain ⟨r7, M8, rfl, rfl, hq⟩ := hq
  have h := h r7 M8 hq
  dsimp only at h
  refine a_istore_n (ls' := [(3, aI r7), (2, aI r3), (0, aR 91), (1, aI v1)]) hΓ dX9_cutTo_17 rfl (by decide) rfl ?_
  refine a_iload_n hΓ 1 dX9_cutTo_18 rfl rfl ?_
  refine a_iload_n hΓ 0 dX9_cutTo_19 rfl rfl ?_
  obtain ⟨g9, h⟩ := h
  obtain ⟨g10, h⟩ := h
  refine a_icmp_le (tgt := 25) hΓ g9 g10 dX9_cutTo_20 (by decide) (fun c11 => ?_) (fun c11 => ?_)
  · rw [if_pos c11] at h
    refine a_iconst hΓ dX9_cutTo_25 ?_
    refine a_istore (ls' := [(4, aI 0), (3, aI r7), (2, aI r3), (0, aR 91), (1, aI v1)]) hΓ dX9_cutTo_26 (by decide) rfl ?_
    refine a_sub (ls' := [(0, aR 91), (2, aI r3), (3, aI r7), (4, aI 0)]) [3, 2, 1, 0] rfl ?_
    obtain ⟨f12, h⟩ := h
    exact s_wX9_cutTo_28 hΓ (Nat.le_trans (by decide) hh) hr  f12 0 M8 h
  · rw [if_neg c11] at h
    refine a_iconst hΓ dX9_cutTo_23 ?_
    exact a_zret hΓ hr (Or.inl rfl) dX9_cutTo_24 ⟨_, _, rfl, rfl, h⟩
theorem ct_wX9_cutTo (l : Launch) (g : Gp) (v1 : Int) (M : Mm) (Q : Int → Mm → Prop) (h : wX9_cutTo v1 M Q) : Ct l g yX9_cutTo cX9_cutTo 5 (some .boolean) 2 0 0 [aR 91, aI v1] (NC, RF, M) (QI Q) :=
  ct_of (by decide) (Nat.le_of_ble_eq_true rfl) (fun Γ hg hl hr _ hΓ => by subst hg; subst hl; exact s_wX9_cutTo hΓ (by decide) hr v1 M h)
def wX9_begin (v1 : Int) (v2 : Int) (v3 : Int) (M : Mm) (Q : Mm → Prop) : Prop :=
    Q (up (up (up (up (up M 91 0 v1) 91 1 v2) 91 2 v3) 91 3 0) 91 4 0)
set_option maxHeartbeats 4000000 in
theorem s_wX9_begin {Γ : Cx} {h : Nat} (hΓ : Ok Γ cX9_begin RX9 4 h 0 0) (hh : 1 ≤ h) (hr : (cxm Γ).sig.returnType = none) {Q : Mm → Prop} (v1 : Int) (v2 : Int) (v3 : Int) (M : Mm) (h : wX9_begin v1 v2 v3 M Q) : Wa Γ 4 (Kf Γ (QV Q) 0 0) 0 0 0 [(0, aR 91), (1, aI v1), (2, aI v2), (3, aI v3)] [] (NC, RF, M) := by
  unfold wX9_begin at h
  refine a_aload_n hΓ 0 dX9_begin_0 rfl rfl ?_
  refine a_iload_n hΓ 1 dX9_begin_1 rfl rfl ?_
  refine n_putI (j := 0) hΓ fl_RX9_18 cl_9 nf_9_0 kd_91 lz_91 dX9_begin_2 (Or.inl ft_9_0) rfl ?_
  refine a_aload_n hΓ 0 dX9_begin_5 rfl rfl ?_
  refine a_iload_n hΓ 2 dX9_begin_6 rfl rfl ?_
  refine n_putI (j := 1) hΓ fl_RX9_22 cl_9 nf_9_1 kd_91 lz_91 dX9_begin_7 (Or.inl ft_9_1) rfl ?_
  refine a_aload_n hΓ 0 dX9_begin_10 rfl rfl ?_
  refine a_iload_n hΓ 3 dX9_begin_11 rfl rfl ?_
  refine n_putI (j := 2) hΓ fl_RX9_25 cl_9 nf_9_2 kd_91 lz_91 dX9_begin_12 (Or.inl ft_9_2) rfl ?_
  refine a_aload_n hΓ 0 dX9_begin_15 rfl rfl ?_
  refine a_iconst hΓ dX9_begin_16 ?_
  refine n_putI (j := 3) hΓ fl_RX9_28 cl_9 nf_9_3 kd_91 lz_91 dX9_begin_17 (Or.inl ft_9_3) rfl ?_
  refine a_aload_n hΓ 0 dX9_begin_20 rfl rfl ?_
  refine a_iconst hΓ dX9_begin_21 ?_
  refine n_putI (j := 4) hΓ fl_RX9_31 cl_9 nf_9_4 kd_91 lz_91 dX9_begin_22 (Or.inl ft_9_4) rfl ?_
  exact a_vret hΓ hr dX9_begin_25 ⟨_, rfl, rfl, h⟩
theorem ct_wX9_begin (l : Launch) (g : Gp) (v1 : Int) (v2 : Int) (v3 : Int) (M : Mm) (Q : Mm → Prop) (h : wX9_begin v1 v2 v3 M Q) : Ct l g yX9_begin cX9_begin 4 none 1 0 0 [aR 91, aI v1, aI v2, aI v3] (NC, RF, M) (QV Q) :=
  ct_of (by decide) (Nat.le_of_ble_eq_true rfl) (fun Γ hg hl hr _ hΓ => by subst hg; subst hl; exact s_wX9_begin hΓ (by decide) hr v1 v2 v3 M h)
def wX5_stepBack (v1 : Int) (M : Mm) (Q : Int → Mm → Prop) : Prop :=
    (0 ≤ (v1 + 1) ∧ (v1 + 1) < 120) ∧
    (inR (M 78 (v1 + 1))) ∧
    (if (M 78 (v1 + 1)) = 0 then
      (0 ≤ v1 ∧ v1 < 120) ∧
      Bv (wX9_spread (-(M 76 v1)) (-(M 75 v1)) M) (fun M8 =>
      Bd (wX9_cutTo (M8 77 v1) M8) (fun r11 M12 =>
      (r11 = 0 ∨ r11 = 1) ∧
      Q r11 M12))
    else
      (0 ≤ v1 ∧ v1 < 120) ∧
      Bd (wX9_bottomCost M) (fun r17 M18 =>
      Bv (wX9_begin 0 (M 77 v1) r17 M18) (fun M22 =>
      Q 1 M22)))
set_option maxHeartbeats 4000000 in
theorem s_wX5_stepBack {Γ : Cx} {h : Nat} (hΓ : Ok Γ cX5_stepBack RX5 2 h 0 0) (hh : 4 ≤ h) (hr : (cxm Γ).sig.returnType = (some .boolean)) {Q : Int → Mm → Prop} (v1 : Int) (M : Mm) (h : wX5_stepBack v1 M Q) : Wa Γ 2 (Kf Γ (QI Q) 0 0) 0 0 0 [(0, aR 90), (1, aI v1)] [] (NC, RF, M) := by
  unfold wX5_stepBack at h
  refine a_aload_n hΓ 0 dX5_stepBack_0 rfl rfl ?_
  refine n_getR hΓ fl_RX5_37 cl_5 kd_90 lz_90 dX5_stepBack_1 ft_5_0 rf_90_0 ?_
  refine n_getR hΓ fl_RX5_103 cl_6 kd_72 lz_72 dX5_stepBack_4 ft_6_7 rf_72_7 ?_
  refine a_iload_n hΓ 1 dX5_stepBack_7 rfl rfl ?_
  refine a_iconst hΓ dX5_stepBack_8 ?_
  refine a_iadd hΓ dX5_stepBack_9 ?_
  obtain ⟨g1, h⟩ := h
  refine n_bald (x := (M 78 (v1 + 1))) hΓ dX5_stepBack_10 kd_78 (Or.inl rfl) lz_78 g1 rfl ?_
  obtain ⟨g2, h⟩ := h
  refine a_if_eq (tgt := 40) hΓ g2 dX5_stepBack_11 (by decide) (fun c3 => ?_) (fun c3 => ?_)
  · rw [if_pos c3] at h
    refine a_aload_n hΓ 0 dX5_stepBack_40 rfl rfl ?_
    refine n_getR hΓ fl_RX5_12 cl_5 kd_90 lz_90 dX5_stepBack_41 ft_5_1 rf_90_1 ?_
    refine a_aload_n hΓ 0 dX5_stepBack_44 rfl rfl ?_
    refine n_getR hΓ fl_RX5_37 cl_5 kd_90 lz_90 dX5_stepBack_45 ft_5_0 rf_90_0 ?_
    refine n_getR hΓ fl_RX5_107 cl_6 kd_72 lz_72 dX5_stepBack_48 ft_6_5 rf_72_5 ?_
    refine a_iload_n hΓ 1 dX5_stepBack_51 rfl rfl ?_
    obtain ⟨g4, h⟩ := h
    refine n_iald (x := (M 76 v1)) hΓ dX5_stepBack_52 kd_76 lz_76 g4 rfl ?_
    refine a_ineg hΓ dX5_stepBack_53 ?_
    refine a_aload_n hΓ 0 dX5_stepBack_54 rfl rfl ?_
    refine n_getR hΓ fl_RX5_37 cl_5 kd_90 lz_90 dX5_stepBack_55 ft_5_0 rf_90_0 ?_
    refine n_getR hΓ fl_RX5_110 cl_6 kd_72 lz_72 dX5_stepBack_58 ft_6_4 rf_72_4 ?_
    refine a_iload_n hΓ 1 dX5_stepBack_61 rfl rfl ?_
    refine n_iald (x := (M 75 v1)) hΓ dX5_stepBack_62 kd_75 lz_75 g4 rfl ?_
    refine a_ineg hΓ dX5_stepBack_63 ?_
    obtain ⟨P5, q6, h⟩ := h
    refine n_callV (c := 91) (av := [aI (-(M 76 v1)), aI (-(M 75 v1))]) (st := []) hΓ (ct_wX9_spread _ _ (-(M 76 v1)) (-(M 75 v1)) M P5 q6) my_X9_spread ml_RX5_113 ni_X9_spread kd_91 rfl lz_91 rfl (Nat.le_trans (by decide) hh) (by decide) (Nat.le_of_ble_eq_true rfl) rfl dX5_stepBack_64 (fun v Z' hq => ?_)
    obtain ⟨M8, rfl, rfl, hq⟩ := hq
    have h := h M8 hq
    dsimp only at h
    refine a_aload_n hΓ 0 dX5_stepBack_67 rfl rfl ?_
    refine n_getR hΓ fl_RX5_12 cl_5 kd_90 lz_90 dX5_stepBack_68 ft_5_1 rf_90_1 ?_
    refine a_aload_n hΓ 0 dX5_stepBack_71 rfl rfl ?_
    refine n_getR hΓ fl_RX5_37 cl_5 kd_90 lz_90 dX5_stepBack_72 ft_5_0 rf_90_0 ?_
    refine n_getR hΓ fl_RX5_78 cl_6 kd_72 lz_72 dX5_stepBack_75 ft_6_6 rf_72_6 ?_
    refine a_iload_n hΓ 1 dX5_stepBack_78 rfl rfl ?_
    refine n_iald (x := (M8 77 v1)) hΓ dX5_stepBack_79 kd_77 lz_77 g4 rfl ?_
    obtain ⟨P9, q10, h⟩ := h
    refine n_callV (c := 91) (av := [aI (M8 77 v1)]) (st := []) hΓ (ct_wX9_cutTo _ _ (M8 77 v1) M8 P9 q10) my_X9_cutTo ml_RX5_117 ni_X9_cutTo kd_91 rfl lz_91 rfl (Nat.le_trans (by decide) hh) (by decide) (Nat.le_of_ble_eq_true rfl) rfl dX5_stepBack_80 (fun v Z' hq => ?_)
    obtain ⟨r11, M12, rfl, rfl, hq⟩ := hq
    have h := h r11 M12 hq
    dsimp only at h
    obtain ⟨g13, h⟩ := h
    exact a_zret hΓ hr g13 dX5_stepBack_83 ⟨_, _, rfl, rfl, h⟩
  · rw [if_neg c3] at h
    refine a_aload_n hΓ 0 dX5_stepBack_14 rfl rfl ?_
    refine n_getR hΓ fl_RX5_12 cl_5 kd_90 lz_90 dX5_stepBack_15 ft_5_1 rf_90_1 ?_
    refine a_iconst hΓ dX5_stepBack_18 ?_
    refine a_aload_n hΓ 0 dX5_stepBack_19 rfl rfl ?_
    refine n_getR hΓ fl_RX5_37 cl_5 kd_90 lz_90 dX5_stepBack_20 ft_5_0 rf_90_0 ?_
    refine n_getR hΓ fl_RX5_78 cl_6 kd_72 lz_72 dX5_stepBack_23 ft_6_6 rf_72_6 ?_
    refine a_iload_n hΓ 1 dX5_stepBack_26 rfl rfl ?_
    obtain ⟨g14, h⟩ := h
    refine n_iald (x := (M 77 v1)) hΓ dX5_stepBack_27 kd_77 lz_77 g14 rfl ?_
    refine a_aload_n hΓ 0 dX5_stepBack_28 rfl rfl ?_
    refine n_getR hΓ fl_RX5_12 cl_5 kd_90 lz_90 dX5_stepBack_29 ft_5_1 rf_90_1 ?_
    obtain ⟨P15, q16, h⟩ := h
    refine n_callV (c := 91) (av := []) (st := [aI (M 77 v1), aI 0, aR 91]) hΓ (ct_wX9_bottomCost _ _  M P15 q16) my_X9_bottomCost ml_RX5_100 ni_X9_bottomCost kd_91 rfl lz_91 rfl (Nat.le_trans (by decide) hh) (by decide) (Nat.le_of_ble_eq_true rfl) rfl dX5_stepBack_32 (fun v Z' hq => ?_)
    obtain ⟨r17, M18, rfl, rfl, hq⟩ := hq
    have h := h r17 M18 hq
    dsimp only at h
    obtain ⟨P19, q20, h⟩ := h
    refine n_callV (c := 91) (av := [aI 0, aI (M 77 v1), aI r17]) (st := []) hΓ (ct_wX9_begin _ _ 0 (M 77 v1) r17 M18 P19 q20) my_X9_begin ml_RX5_81 ni_X9_begin kd_91 rfl lz_91 rfl (Nat.le_trans (by decide) hh) (by decide) (Nat.le_of_ble_eq_true rfl) rfl dX5_stepBack_35 (fun v Z' hq => ?_)
    obtain ⟨M22, rfl, rfl, hq⟩ := hq
    have h := h M22 hq
    dsimp only at h
    refine a_iconst hΓ dX5_stepBack_38 ?_
    exact a_zret hΓ hr (Or.inr rfl) dX5_stepBack_39 ⟨_, _, rfl, rfl, h⟩
theorem ct_wX5_stepBack (l : Launch) (g : Gp) (v1 : Int) (M : Mm) (Q : Int → Mm → Prop) (h : wX5_stepBack v1 M Q) : Ct l g yX5_stepBack cX5_stepBack 2 (some .boolean) 4 0 0 [aR 90, aI v1] (NC, RF, M) (QI Q) :=
  ct_of (by decide) (Nat.le_of_ble_eq_true rfl) (fun Γ hg hl hr _ hΓ => by subst hg; subst hl; exact s_wX5_stepBack hΓ (by decide) hr v1 M h)
def wX5_sweepBack_65 (Q : Int → Mm → Prop) (k44 : Int → Mm → Prop) (v1 : Int) (M : Mm) : Prop :=
    Bv (wX5_addLogs v1 M) (fun M4 =>
    Bd (wX9_bottom M4) (fun r7 M8 =>
    (0 ≤ v1 ∧ v1 < 120) ∧
    (inR (M8 91 0)) ∧
    (if (M8 91 0) = 0 then
      k44 (v1 + (-1)) (up (up M8 95 v1 r7) 97 v1 (M8 91 2))
    else
      k44 (v1 + (-1)) (up (up M8 95 v1 r7) 97 v1 100000000))))
set_option maxHeartbeats 4000000 in
theorem s_wX5_sweepBack_65 {Γ : Cx} {h : Nat} (hΓ : Ok Γ cX5_sweepBack RX5 2 h 0 0) (hh : 5 ≤ h) (hr : (cxm Γ).sig.returnType = (some .int)) {Q : Int → Mm → Prop} {v1 : Int}  {k44 : Int → Mm → Prop} (hk44 : ∀ (v1 : Int) (M : Mm), k44 v1 M → Wa Γ 2 (Kf Γ (QI Q) 0 0) 0 0 44 [(0, aR 90), (1, aI v1)] [] (NC, RF, M)) (M : Mm) (h : wX5_sweepBack_65 Q k44 v1 M) : Wa Γ 2 (Kf Γ (QI Q) 0 0) 0 0 65 [(0, aR 90), (1, aI v1)] [] (NC, RF, M) := by
  unfold wX5_sweepBack_65 at h
  refine a_aload_n hΓ 0 dX5_sweepBack_65 rfl rfl ?_
  refine a_iload_n hΓ 1 dX5_sweepBack_66 rfl rfl ?_
  obtain ⟨P1, q2, h⟩ := h
  refine n_callV (c := 90) (av := [aI v1]) (st := []) hΓ (ct_wX5_addLogs _ _ v1 M P1 q2) my_X5_addLogs ml_RX5_89 ni_X5_addLogs kd_90 rfl lz_90 rfl (Nat.le_trans (by decide) hh) (by decide) (Nat.le_of_ble_eq_true rfl) rfl dX5_sweepBack_67 (fun v Z' hq => ?_)
  obtain ⟨M4, rfl, rfl, hq⟩ := hq
  have h := h M4 hq
  dsimp only at h
  refine a_aload_n hΓ 0 dX5_sweepBack_70 rfl rfl ?_
  refine n_getR hΓ fl_RX5_22 cl_5 kd_90 lz_90 dX5_sweepBack_71 ft_5_3 rf_90_3 ?_
  refine a_iload_n hΓ 1 dX5_sweepBack_74 rfl rfl ?_
  refine a_aload_n hΓ 0 dX5_sweepBack_75 rfl rfl ?_
  refine n_getR hΓ fl_RX5_12 cl_5 kd_90 lz_90 dX5_sweepBack_76 ft_5_1 rf_90_1 ?_
  obtain ⟨P5, q6, h⟩ := h
  refine n_callV (c := 91) (av := []) (st := [aI v1, aR 95]) hΓ (ct_wX9_bottom _ _  M4 P5 q6) my_X9_bottom ml_RX5_92 ni_X9_bottom kd_91 rfl lz_91 rfl (Nat.le_trans (by decide) hh) (by decide) (Nat.le_of_ble_eq_true rfl) rfl dX5_sweepBack_79 (fun v Z' hq => ?_)
  obtain ⟨r7, M8, rfl, rfl, hq⟩ := hq
  have h := h r7 M8 hq
  dsimp only at h
  obtain ⟨g9, h⟩ := h
  refine a_iast hΓ dX5_sweepBack_82 kd_95 lz_95 g9 ?_
  refine a_aload_n hΓ 0 dX5_sweepBack_83 rfl rfl ?_
  refine n_getR hΓ fl_RX5_28 cl_5 kd_90 lz_90 dX5_sweepBack_84 ft_5_5 rf_90_5 ?_
  refine a_iload_n hΓ 1 dX5_sweepBack_87 rfl rfl ?_
  refine a_aload_n hΓ 0 dX5_sweepBack_88 rfl rfl ?_
  refine n_getR hΓ fl_RX5_12 cl_5 kd_90 lz_90 dX5_sweepBack_89 ft_5_1 rf_90_1 ?_
  refine n_getI (x := (M8 91 0)) hΓ fl_RX5_94 cl_9 kd_91 lz_91 dX5_sweepBack_92 (Or.inl ft_9_0) rfl ?_
  obtain ⟨g10, h⟩ := h
  refine a_if_ne (tgt := 108) hΓ g10 dX5_sweepBack_95 (by decide) (fun c11 => ?_) (fun c11 => ?_)
  · rw [if_pos c11] at h
    refine a_aload_n hΓ 0 dX5_sweepBack_98 rfl rfl ?_
    refine n_getR hΓ fl_RX5_12 cl_5 kd_90 lz_90 dX5_sweepBack_99 ft_5_1 rf_90_1 ?_
    refine n_getI (x := (M8 91 2)) hΓ fl_RX5_97 cl_9 kd_91 lz_91 dX5_sweepBack_102 (Or.inl ft_9_2) rfl ?_
    refine a_goto (tgt := 110) hΓ dX5_sweepBack_105 (by decide) ?_
    refine a_iast hΓ dX5_sweepBack_110 kd_97 lz_97 g9 ?_
    refine a_iinc (ls' := [(1, aI (v1 + (-1))), (0, aR 90)]) hΓ 1 dX5_sweepBack_111 rfl (by decide) rfl ?_
    refine a_goto (tgt := 44) hΓ dX5_sweepBack_114 (by decide) ?_
    refine a_sub (ls' := [(0, aR 90), (1, aI (v1 + (-1)))]) [1, 0] rfl ?_
    exact hk44 (v1 + (-1)) (up (up M8 95 v1 r7) 97 v1 (M8 91 2)) h
  · rw [if_neg c11] at h
    refine a_ldc hΓ gc_RX5_49 dX5_sweepBack_108 ?_
    refine a_iast hΓ dX5_sweepBack_110 kd_97 lz_97 g9 ?_
    refine a_iinc (ls' := [(1, aI (v1 + (-1))), (0, aR 90)]) hΓ 1 dX5_sweepBack_111 rfl (by decide) rfl ?_
    refine a_goto (tgt := 44) hΓ dX5_sweepBack_114 (by decide) ?_
    refine a_sub (ls' := [(0, aR 90), (1, aI (v1 + (-1)))]) [1, 0] rfl ?_
    exact hk44 (v1 + (-1)) (up (up M8 95 v1 r7) 97 v1 100000000) h
def wX5_sweepBack_44 (Q : Int → Mm → Prop) : Nat → Int → Mm → Prop
  | 0, _, _ => False
  | f + 1, v1, M => (inR v1) ∧
    (if v1 < 0 then
      Bd (wX9_bottomCost M) (fun r5 M6 =>
      Q r5 M6)
    else
      (if v1 < 119 then
        Bd (wX5_stepBack v1 M) (fun r10 M11 =>
        (inR r10) ∧
        (if r10 = 0 then
          Q 100000000 M11
        else
          wX5_sweepBack_65 Q (wX5_sweepBack_44 Q f) v1 M11))
      else
        wX5_sweepBack_65 Q (wX5_sweepBack_44 Q f) v1 M))
set_option maxHeartbeats 4000000 in
theorem s_wX5_sweepBack_44 {Γ : Cx} {h : Nat} (hΓ : Ok Γ cX5_sweepBack RX5 2 h 0 0) (hh : 5 ≤ h) (hr : (cxm Γ).sig.returnType = (some .int)) {Q : Int → Mm → Prop}   : ∀ (f : Nat) (v1 : Int) (M : Mm), wX5_sweepBack_44 Q  f v1 M → Wa Γ 2 (Kf Γ (QI Q) 0 0) 0 0 44 [(0, aR 90), (1, aI v1)] [] (NC, RF, M) := by
  intro f
  induction f with
  | zero => intro v1 M h; exact h.elim
  | succ f ih =>
    intro v1 M h
    unfold wX5_sweepBack_44 at h
    refine a_iload_n hΓ 1 dX5_sweepBack_44 rfl rfl ?_
    obtain ⟨g1, h⟩ := h
    refine a_if_lt (tgt := 117) hΓ g1 dX5_sweepBack_45 (by decide) (fun c2 => ?_) (fun c2 => ?_)
    · rw [if_pos c2] at h
      refine a_aload_n hΓ 0 dX5_sweepBack_117 rfl rfl ?_
      refine n_getR hΓ fl_RX5_12 cl_5 kd_90 lz_90 dX5_sweepBack_118 ft_5_1 rf_90_1 ?_
      obtain ⟨P3, q4, h⟩ := h
      refine n_callV (c := 91) (av := []) (st := []) hΓ (ct_wX9_bottomCost _ _  M P3 q4) my_X9_bottomCost ml_RX5_100 ni_X9_bottomCost kd_91 rfl lz_91 rfl (Nat.le_trans (by decide) hh) (by decide) (Nat.le_of_ble_eq_true rfl) rfl dX5_sweepBack_121 (fun v Z' hq => ?_)
      obtain ⟨r5, M6, rfl, rfl, hq⟩ := hq
      have h := h r5 M6 hq
      dsimp only at h
      exact a_iret hΓ hr dX5_sweepBack_124 ⟨_, _, rfl, rfl, h⟩
    · rw [if_neg c2] at h
      refine a_iload_n hΓ 1 dX5_sweepBack_48 rfl rfl ?_
      refine a_bipush hΓ dX5_sweepBack_49 (by decide) ?_
      refine a_icmp_ge (tgt := 65) hΓ g1 (inRl (by decide)) dX5_sweepBack_51 (by decide) (fun c7 => ?_) (fun c7 => ?_)
      · rw [if_pos c7] at h
        refine a_aload_n hΓ 0 dX5_sweepBack_54 rfl rfl ?_
        refine a_iload_n hΓ 1 dX5_sweepBack_55 rfl rfl ?_
        obtain ⟨P8, q9, h⟩ := h
        refine n_callV (c := 90) (av := [aI v1]) (st := []) hΓ (ct_wX5_stepBack _ _ v1 M P8 q9) my_X5_stepBack ml_RX5_85 ni_X5_stepBack kd_90 rfl lz_90 rfl (Nat.le_trans (by decide) hh) (by decide) (Nat.le_of_ble_eq_true rfl) rfl dX5_sweepBack_56 (fun v Z' hq => ?_)
        obtain ⟨r10, M11, rfl, rfl, hq⟩ := hq
        have h := h r10 M11 hq
        dsimp only at h
        obtain ⟨g12, h⟩ := h
        refine a_if_ne (tgt := 65) hΓ g12 dX5_sweepBack_59 (by decide) (fun c13 => ?_) (fun c13 => ?_)
        · rw [if_pos c13] at h
          refine a_ldc hΓ gc_RX5_49 dX5_sweepBack_62 ?_
          exact a_iret hΓ hr dX5_sweepBack_64 ⟨_, _, rfl, rfl, h⟩
        · rw [if_neg c13] at h
          exact s_wX5_sweepBack_65 hΓ (Nat.le_trans (by decide) hh) hr ih M11 h
      · rw [if_neg c7] at h
        exact s_wX5_sweepBack_65 hΓ (Nat.le_trans (by decide) hh) hr ih M h
def wX5_sweepBack_22 (Q : Int → Mm → Prop) (M : Mm) : Prop :=
    Bv (wX9_begin 0 (M 77 119) 0 M) (fun M4 =>
    ∃ n, wX5_sweepBack_44 Q n 119 M4)
set_option maxHeartbeats 4000000 in
theorem s_wX5_sweepBack_22 {Γ : Cx} {h : Nat} (hΓ : Ok Γ cX5_sweepBack RX5 2 h 0 0) (hh : 5 ≤ h) (hr : (cxm Γ).sig.returnType = (some .int)) {Q : Int → Mm → Prop}   (M : Mm) (h : wX5_sweepBack_22 Q  M) : Wa Γ 2 (Kf Γ (QI Q) 0 0) 0 0 22 [(0, aR 90)] [] (NC, RF, M) := by
  unfold wX5_sweepBack_22 at h
  refine a_aload_n hΓ 0 dX5_sweepBack_22 rfl rfl ?_
  refine n_getR hΓ fl_RX5_12 cl_5 kd_90 lz_90 dX5_sweepBack_23 ft_5_1 rf_90_1 ?_
  refine a_iconst hΓ dX5_sweepBack_26 ?_
  refine a_aload_n hΓ 0 dX5_sweepBack_27 rfl rfl ?_
  refine n_getR hΓ fl_RX5_37 cl_5 kd_90 lz_90 dX5_sweepBack_28 ft_5_0 rf_90_0 ?_
  refine n_getR hΓ fl_RX5_78 cl_6 kd_72 lz_72 dX5_sweepBack_31 ft_6_6 rf_72_6 ?_
  refine a_bipush hΓ dX5_sweepBack_34 (by decide) ?_
  refine n_iald (x := (M 77 119)) hΓ dX5_sweepBack_36 kd_77 lz_77 ⟨by decide, by decide⟩ rfl ?_
  refine a_iconst hΓ dX5_sweepBack_37 ?_
  obtain ⟨P1, q2, h⟩ := h
  refine n_callV (c := 91) (av := [aI 0, aI (M 77 119), aI 0]) (st := []) hΓ (ct_wX9_begin _ _ 0 (M 77 119) 0 M P1 q2) my_X9_begin ml_RX5_81 ni_X9_begin kd_91 rfl lz_91 rfl (Nat.le_trans (by decide) hh) (by decide) (Nat.le_of_ble_eq_true rfl) rfl dX5_sweepBack_38 (fun v Z' hq => ?_)
  obtain ⟨M4, rfl, rfl, hq⟩ := hq
  have h := h M4 hq
  dsimp only at h
  refine a_bipush hΓ dX5_sweepBack_41 (by decide) ?_
  refine a_istore_n (ls' := [(1, aI 119), (0, aR 90)]) hΓ dX5_sweepBack_43 rfl (by decide) rfl ?_
  refine a_sub (ls' := [(0, aR 90), (1, aI 119)]) [1, 0] rfl ?_
  obtain ⟨f5, h⟩ := h
  exact s_wX5_sweepBack_44 hΓ (Nat.le_trans (by decide) hh) hr  f5 119 M4 h
def wX5_sweepBack_2 (Q : Int → Mm → Prop) : Nat → Int → Mm → Prop
  | 0, _, _ => False
  | f + 1, v1, M => (inR v1) ∧
    (if v1 < 120 then
      (0 ≤ v1 ∧ v1 < 120) ∧
      (wX5_sweepBack_2 Q f) (v1 + 1) (up M 97 v1 100000000)
    else
      wX5_sweepBack_22 Q M)
set_option maxHeartbeats 4000000 in
theorem s_wX5_sweepBack_2 {Γ : Cx} {h : Nat} (hΓ : Ok Γ cX5_sweepBack RX5 2 h 0 0) (hh : 5 ≤ h) (hr : (cxm Γ).sig.returnType = (some .int)) {Q : Int → Mm → Prop}   : ∀ (f : Nat) (v1 : Int) (M : Mm), wX5_sweepBack_2 Q  f v1 M → Wa Γ 2 (Kf Γ (QI Q) 0 0) 0 0 2 [(0, aR 90), (1, aI v1)] [] (NC, RF, M) := by
  intro f
  induction f with
  | zero => intro v1 M h; exact h.elim
  | succ f ih =>
    intro v1 M h
    unfold wX5_sweepBack_2 at h
    refine a_iload_n hΓ 1 dX5_sweepBack_2 rfl rfl ?_
    refine a_bipush hΓ dX5_sweepBack_3 (by decide) ?_
    obtain ⟨g1, h⟩ := h
    refine a_icmp_ge (tgt := 22) hΓ g1 (inRl (by decide)) dX5_sweepBack_5 (by decide) (fun c2 => ?_) (fun c2 => ?_)
    · rw [if_pos c2] at h
      refine a_aload_n hΓ 0 dX5_sweepBack_8 rfl rfl ?_
      refine n_getR hΓ fl_RX5_28 cl_5 kd_90 lz_90 dX5_sweepBack_9 ft_5_5 rf_90_5 ?_
      refine a_iload_n hΓ 1 dX5_sweepBack_12 rfl rfl ?_
      refine a_ldc hΓ gc_RX5_49 dX5_sweepBack_13 ?_
      obtain ⟨g3, h⟩ := h
      refine a_iast hΓ dX5_sweepBack_15 kd_97 lz_97 g3 ?_
      refine a_iinc (ls' := [(1, aI (v1 + 1)), (0, aR 90)]) hΓ 1 dX5_sweepBack_16 rfl (by decide) rfl ?_
      refine a_goto (tgt := 2) hΓ dX5_sweepBack_19 (by decide) ?_
      refine a_sub (ls' := [(0, aR 90), (1, aI (v1 + 1))]) [1, 0] rfl ?_
      exact ih (v1 + 1) (up M 97 v1 100000000) h
    · rw [if_neg c2] at h
      refine a_sub (ls' := [(0, aR 90)]) [0] rfl ?_
      exact s_wX5_sweepBack_22 hΓ (Nat.le_trans (by decide) hh) hr  M h
def wX5_sweepBack  (M : Mm) (Q : Int → Mm → Prop) : Prop :=
    ∃ n, wX5_sweepBack_2 Q n 0 M
set_option maxHeartbeats 4000000 in
theorem s_wX5_sweepBack {Γ : Cx} {h : Nat} (hΓ : Ok Γ cX5_sweepBack RX5 2 h 0 0) (hh : 5 ≤ h) (hr : (cxm Γ).sig.returnType = (some .int)) {Q : Int → Mm → Prop}  (M : Mm) (h : wX5_sweepBack  M Q) : Wa Γ 2 (Kf Γ (QI Q) 0 0) 0 0 0 [(0, aR 90)] [] (NC, RF, M) := by
  unfold wX5_sweepBack at h
  refine a_iconst hΓ dX5_sweepBack_0 ?_
  refine a_istore_n (ls' := [(1, aI 0), (0, aR 90)]) hΓ dX5_sweepBack_1 rfl (by decide) rfl ?_
  refine a_sub (ls' := [(0, aR 90), (1, aI 0)]) [1, 0] rfl ?_
  obtain ⟨f1, h⟩ := h
  exact s_wX5_sweepBack_2 hΓ (Nat.le_trans (by decide) hh) hr  f1 0 M h
theorem ct_wX5_sweepBack (l : Launch) (g : Gp)  (M : Mm) (Q : Int → Mm → Prop) (h : wX5_sweepBack  M Q) : Ct l g yX5_sweepBack cX5_sweepBack 2 (some .int) 5 0 0 [aR 90] (NC, RF, M) (QI Q) :=
  ct_of (by decide) (Nat.le_of_ble_eq_true rfl) (fun Γ hg hl hr _ hΓ => by subst hg; subst hl; exact s_wX5_sweepBack hΓ (by decide) hr  M h)
def wX5_followBottoms_14 (Q : Mm → Prop) : Nat → Int → Mm → Prop
  | 0, _, _ => False
  | f + 1, v1, M => (inR v1) ∧
    (if v1 < 120 then
      (0 ≤ v1 ∧ v1 < 120) ∧
      (inR (M 78 v1)) ∧
      (if (M 78 v1) = 0 then
        (0 ≤ (v1 - 1) ∧ (v1 - 1) < 120) ∧
        Bd (wJ9_max_7cf53 (M 95 v1) ((M 98 (v1 - 1)) + (M 75 (v1 - 1))) M) (fun r9 M10 =>
        Bd (wJ9_min_7cf53 r9 ((M10 98 (v1 - 1)) + (M10 76 (v1 - 1))) M10) (fun r13 M14 =>
        (wX5_followBottoms_14 Q f) (v1 + 1) (up M14 98 v1 r13)))
      else
        (wX5_followBottoms_14 Q f) (v1 + 1) (up M 98 v1 (M 95 v1)))
    else
      Q M)
set_option maxHeartbeats 4000000 in
theorem s_wX5_followBottoms_14 {Γ : Cx} {h : Nat} (hΓ : Ok Γ cX5_followBottoms RX5 3 h 0 0) (hh : 2 ≤ h) (hr : (cxm Γ).sig.returnType = none) {Q : Mm → Prop}   : ∀ (f : Nat) (v1 : Int) (M : Mm), wX5_followBottoms_14 Q  f v1 M → Wa Γ 3 (Kf Γ (QV Q) 0 0) 0 0 14 [(0, aR 90), (1, aI v1)] [] (NC, RF, M) := by
  intro f
  induction f with
  | zero => intro v1 M h; exact h.elim
  | succ f ih =>
    intro v1 M h
    unfold wX5_followBottoms_14 at h
    refine a_iload_n hΓ 1 dX5_followBottoms_14 rfl rfl ?_
    refine a_bipush hΓ dX5_followBottoms_15 (by decide) ?_
    obtain ⟨g1, h⟩ := h
    refine a_icmp_ge (tgt := 102) hΓ g1 (inRl (by decide)) dX5_followBottoms_17 (by decide) (fun c2 => ?_) (fun c2 => ?_)
    · rw [if_pos c2] at h
      refine a_aload_n hΓ 0 dX5_followBottoms_20 rfl rfl ?_
      refine n_getR hΓ fl_RX5_22 cl_5 kd_90 lz_90 dX5_followBottoms_21 ft_5_3 rf_90_3 ?_
      refine a_iload_n hΓ 1 dX5_followBottoms_24 rfl rfl ?_
      obtain ⟨g3, h⟩ := h
      refine n_iald (x := (M 95 v1)) hΓ dX5_followBottoms_25 kd_95 lz_95 g3 rfl ?_
      refine a_istore_n (ls' := [(2, aI (M 95 v1)), (0, aR 90), (1, aI v1)]) hΓ dX5_followBottoms_26 rfl (by decide) rfl ?_
      refine a_aload_n hΓ 1 dX5_followBottoms_27 rfl rfl ?_
      refine n_getR hΓ fl_RX5_37 cl_5 kd_90 lz_90 dX5_followBottoms_28 ft_5_0 rf_90_0 ?_
      refine n_getR hΓ fl_RX5_103 cl_6 kd_72 lz_72 dX5_followBottoms_31 ft_6_7 rf_72_7 ?_
      refine a_iload_n hΓ 2 dX5_followBottoms_34 rfl rfl ?_
      refine n_bald (x := (M 78 v1)) hΓ dX5_followBottoms_35 kd_78 (Or.inl rfl) lz_78 g3 rfl ?_
      obtain ⟨g4, h⟩ := h
      refine a_if_ne (tgt := 89) hΓ g4 dX5_followBottoms_36 (by decide) (fun c5 => ?_) (fun c5 => ?_)
      · rw [if_pos c5] at h
        refine a_iload_n hΓ 0 dX5_followBottoms_39 rfl rfl ?_
        refine a_aload_n hΓ 1 dX5_followBottoms_40 rfl rfl ?_
        refine n_getR hΓ fl_RX5_31 cl_5 kd_90 lz_90 dX5_followBottoms_41 ft_5_6 rf_90_6 ?_
        refine a_iload_n hΓ 2 dX5_followBottoms_44 rfl rfl ?_
        refine a_iconst hΓ dX5_followBottoms_45 ?_
        refine a_isub hΓ dX5_followBottoms_46 ?_
        obtain ⟨g6, h⟩ := h
        refine n_iald (x := (M 98 (v1 - 1))) hΓ dX5_followBottoms_47 kd_98 lz_98 g6 rfl ?_
        refine a_aload_n hΓ 1 dX5_followBottoms_48 rfl rfl ?_
        refine n_getR hΓ fl_RX5_37 cl_5 kd_90 lz_90 dX5_followBottoms_49 ft_5_0 rf_90_0 ?_
        refine n_getR hΓ fl_RX5_110 cl_6 kd_72 lz_72 dX5_followBottoms_52 ft_6_4 rf_72_4 ?_
        refine a_iload_n hΓ 2 dX5_followBottoms_55 rfl rfl ?_
        refine a_iconst hΓ dX5_followBottoms_56 ?_
        refine a_isub hΓ dX5_followBottoms_57 ?_
        refine n_iald (x := (M 75 (v1 - 1))) hΓ dX5_followBottoms_58 kd_75 lz_75 g6 rfl ?_
        refine a_iadd hΓ dX5_followBottoms_59 ?_
        obtain ⟨P7, q8, h⟩ := h
        refine n_callS (av := [aI (M 95 v1), aI ((M 98 (v1 - 1)) + (M 75 (v1 - 1)))]) (st := []) hΓ (ct_wJ9_max_7cf53 _ _ (M 95 v1) ((M 98 (v1 - 1)) + (M 75 (v1 - 1))) M P7 q8) my_J9_max_7cf53 ml_RX5_132 rfl (Nat.le_trans (by decide) hh) (by decide) (Nat.le_of_ble_eq_true rfl) rfl dX5_followBottoms_60 (fun v Z' hq => ?_)
        obtain ⟨r9, M10, rfl, rfl, hq⟩ := hq
        have h := h r9 M10 hq
        dsimp only at h
        refine a_istore_n (ls' := [(2, aI r9), (0, aR 90), (1, aI v1)]) hΓ dX5_followBottoms_63 rfl (by decide) rfl ?_
        refine a_iload_n hΓ 0 dX5_followBottoms_64 rfl rfl ?_
        refine a_aload_n hΓ 1 dX5_followBottoms_65 rfl rfl ?_
        refine n_getR hΓ fl_RX5_31 cl_5 kd_90 lz_90 dX5_followBottoms_66 ft_5_6 rf_90_6 ?_
        refine a_iload_n hΓ 2 dX5_followBottoms_69 rfl rfl ?_
        refine a_iconst hΓ dX5_followBottoms_70 ?_
        refine a_isub hΓ dX5_followBottoms_71 ?_
        refine n_iald (x := (M10 98 (v1 - 1))) hΓ dX5_followBottoms_72 kd_98 lz_98 g6 rfl ?_
        refine a_aload_n hΓ 1 dX5_followBottoms_73 rfl rfl ?_
        refine n_getR hΓ fl_RX5_37 cl_5 kd_90 lz_90 dX5_followBottoms_74 ft_5_0 rf_90_0 ?_
        refine n_getR hΓ fl_RX5_107 cl_6 kd_72 lz_72 dX5_followBottoms_77 ft_6_5 rf_72_5 ?_
        refine a_iload_n hΓ 2 dX5_followBottoms_80 rfl rfl ?_
        refine a_iconst hΓ dX5_followBottoms_81 ?_
        refine a_isub hΓ dX5_followBottoms_82 ?_
        refine n_iald (x := (M10 76 (v1 - 1))) hΓ dX5_followBottoms_83 kd_76 lz_76 g6 rfl ?_
        refine a_iadd hΓ dX5_followBottoms_84 ?_
        obtain ⟨P11, q12, h⟩ := h
        refine n_callS (av := [aI r9, aI ((M10 98 (v1 - 1)) + (M10 76 (v1 - 1)))]) (st := []) hΓ (ct_wJ9_min_7cf53 _ _ r9 ((M10 98 (v1 - 1)) + (M10 76 (v1 - 1))) M10 P11 q12) my_J9_min_7cf53 ml_RX5_138 rfl (Nat.le_trans (by decide) hh) (by decide) (Nat.le_of_ble_eq_true rfl) rfl dX5_followBottoms_85 (fun v Z' hq => ?_)
        obtain ⟨r13, M14, rfl, rfl, hq⟩ := hq
        have h := h r13 M14 hq
        dsimp only at h
        refine a_istore_n (ls' := [(2, aI r13), (0, aR 90), (1, aI v1)]) hΓ dX5_followBottoms_88 rfl (by decide) rfl ?_
        refine a_aload_n hΓ 1 dX5_followBottoms_89 rfl rfl ?_
        refine n_getR hΓ fl_RX5_31 cl_5 kd_90 lz_90 dX5_followBottoms_90 ft_5_6 rf_90_6 ?_
        refine a_iload_n hΓ 2 dX5_followBottoms_93 rfl rfl ?_
        refine a_iload_n hΓ 0 dX5_followBottoms_94 rfl rfl ?_
        refine a_iast hΓ dX5_followBottoms_95 kd_98 lz_98 g3 ?_
        refine a_iinc (ls' := [(1, aI (v1 + 1)), (2, aI r13), (0, aR 90)]) hΓ 2 dX5_followBottoms_96 rfl (by decide) rfl ?_
        refine a_goto (tgt := 14) hΓ dX5_followBottoms_99 (by decide) ?_
        refine a_sub (ls' := [(0, aR 90), (1, aI (v1 + 1))]) [2, 0] rfl ?_
        exact ih (v1 + 1) (up M14 98 v1 r13) h
      · rw [if_neg c5] at h
        refine a_aload_n hΓ 1 dX5_followBottoms_89 rfl rfl ?_
        refine n_getR hΓ fl_RX5_31 cl_5 kd_90 lz_90 dX5_followBottoms_90 ft_5_6 rf_90_6 ?_
        refine a_iload_n hΓ 2 dX5_followBottoms_93 rfl rfl ?_
        refine a_iload_n hΓ 0 dX5_followBottoms_94 rfl rfl ?_
        refine a_iast hΓ dX5_followBottoms_95 kd_98 lz_98 g3 ?_
        refine a_iinc (ls' := [(1, aI (v1 + 1)), (2, aI (M 95 v1)), (0, aR 90)]) hΓ 2 dX5_followBottoms_96 rfl (by decide) rfl ?_
        refine a_goto (tgt := 14) hΓ dX5_followBottoms_99 (by decide) ?_
        refine a_sub (ls' := [(0, aR 90), (1, aI (v1 + 1))]) [2, 0] rfl ?_
        exact ih (v1 + 1) (up M 98 v1 (M 95 v1)) h
    · rw [if_neg c2] at h
      exact a_vret hΓ hr dX5_followBottoms_102 ⟨_, rfl, rfl, h⟩
def wX5_followBottoms  (M : Mm) (Q : Mm → Prop) : Prop :=
    ∃ n, wX5_followBottoms_14 Q n 1 (up M 98 0 (M 95 0))
set_option maxHeartbeats 4000000 in
theorem s_wX5_followBottoms {Γ : Cx} {h : Nat} (hΓ : Ok Γ cX5_followBottoms RX5 3 h 0 0) (hh : 2 ≤ h) (hr : (cxm Γ).sig.returnType = none) {Q : Mm → Prop}  (M : Mm) (h : wX5_followBottoms  M Q) : Wa Γ 3 (Kf Γ (QV Q) 0 0) 0 0 0 [(0, aR 90)] [] (NC, RF, M) := by
  unfold wX5_followBottoms at h
  refine a_aload_n hΓ 0 dX5_followBottoms_0 rfl rfl ?_
  refine n_getR hΓ fl_RX5_31 cl_5 kd_90 lz_90 dX5_followBottoms_1 ft_5_6 rf_90_6 ?_
  refine a_iconst hΓ dX5_followBottoms_4 ?_
  refine a_aload_n hΓ 0 dX5_followBottoms_5 rfl rfl ?_
  refine n_getR hΓ fl_RX5_22 cl_5 kd_90 lz_90 dX5_followBottoms_6 ft_5_3 rf_90_3 ?_
  refine a_iconst hΓ dX5_followBottoms_9 ?_
  refine n_iald (x := (M 95 0)) hΓ dX5_followBottoms_10 kd_95 lz_95 ⟨by decide, by decide⟩ rfl ?_
  refine a_iast hΓ dX5_followBottoms_11 kd_98 lz_98 ⟨by decide, by decide⟩ ?_
  refine a_iconst hΓ dX5_followBottoms_12 ?_
  refine a_istore_n (ls' := [(1, aI 1), (0, aR 90)]) hΓ dX5_followBottoms_13 rfl (by decide) rfl ?_
  refine a_sub (ls' := [(0, aR 90), (1, aI 1)]) [1, 0] rfl ?_
  obtain ⟨f1, h⟩ := h
  exact s_wX5_followBottoms_14 hΓ (Nat.le_trans (by decide) hh) hr  f1 1 (up M 98 0 (M 95 0)) h
theorem ct_wX5_followBottoms (l : Launch) (g : Gp)  (M : Mm) (Q : Mm → Prop) (h : wX5_followBottoms  M Q) : Ct l g yX5_followBottoms cX5_followBottoms 3 none 2 0 0 [aR 90] (NC, RF, M) (QV Q) :=
  ct_of (by decide) (Nat.le_of_ble_eq_true rfl) (fun Γ hg hl hr _ hΓ => by subst hg; subst hl; exact s_wX5_followBottoms hΓ (by decide) hr  M h)
def wX5_leastMiss (v1 : Int) (M : Mm) (Q : Int → Mm → Prop) : Prop :=
    Bv (wX5_sortByDay v1 M) (fun M4 =>
    Bd (wX5_sweepBack M4) (fun r7 M8 =>
    (inR r7) ∧
    (if r7 < 100000000 then
      Bv (wX5_followBottoms M8) (fun M14 =>
      Q r7 (up M14 90 7 1))
    else
      Q (-1) M8)))
set_option maxHeartbeats 4000000 in
theorem s_wX5_leastMiss {Γ : Cx} {h : Nat} (hΓ : Ok Γ cX5_leastMiss RX5 3 h 0 0) (hh : 6 ≤ h) (hr : (cxm Γ).sig.returnType = (some .int)) {Q : Int → Mm → Prop} (v1 : Int) (M : Mm) (h : wX5_leastMiss v1 M Q) : Wa Γ 3 (Kf Γ (QI Q) 0 0) 0 0 0 [(0, aR 90), (1, aI v1)] [] (NC, RF, M) := by
  unfold wX5_leastMiss at h
  refine a_aload_n hΓ 0 dX5_leastMiss_0 rfl rfl ?_
  refine a_iload_n hΓ 1 dX5_leastMiss_1 rfl rfl ?_
  obtain ⟨P1, q2, h⟩ := h
  refine n_callV (c := 90) (av := [aI v1]) (st := []) hΓ (ct_wX5_sortByDay _ _ v1 M P1 q2) my_X5_sortByDay ml_RX5_41 ni_X5_sortByDay kd_90 rfl lz_90 rfl (Nat.le_trans (by decide) hh) (by decide) (Nat.le_of_ble_eq_true rfl) rfl dX5_leastMiss_2 (fun v Z' hq => ?_)
  obtain ⟨M4, rfl, rfl, hq⟩ := hq
  have h := h M4 hq
  dsimp only at h
  refine a_aload_n hΓ 0 dX5_leastMiss_5 rfl rfl ?_
  obtain ⟨P5, q6, h⟩ := h
  refine n_callV (c := 90) (av := []) (st := []) hΓ (ct_wX5_sweepBack _ _  M4 P5 q6) my_X5_sweepBack ml_RX5_45 ni_X5_sweepBack kd_90 rfl lz_90 rfl (Nat.le_trans (by decide) hh) (by decide) (Nat.le_of_ble_eq_true rfl) rfl dX5_leastMiss_6 (fun v Z' hq => ?_)
  obtain ⟨r7, M8, rfl, rfl, hq⟩ := hq
  have h := h r7 M8 hq
  dsimp only at h
  refine a_istore_n (ls' := [(2, aI r7), (0, aR 90), (1, aI v1)]) hΓ dX5_leastMiss_9 rfl (by decide) rfl ?_
  refine a_iload_n hΓ 0 dX5_leastMiss_10 rfl rfl ?_
  refine a_ldc hΓ gc_RX5_49 dX5_leastMiss_11 ?_
  obtain ⟨g9, h⟩ := h
  refine a_icmp_lt (tgt := 18) hΓ g9 (inRl (by decide)) dX5_leastMiss_13 (by decide) (fun c10 => ?_) (fun c10 => ?_)
  · rw [if_pos c10] at h
    refine a_aload_n hΓ 1 dX5_leastMiss_18 rfl rfl ?_
    obtain ⟨P11, q12, h⟩ := h
    refine n_callV (c := 90) (av := []) (st := []) hΓ (ct_wX5_followBottoms _ _  M8 P11 q12) my_X5_followBottoms ml_RX5_50 ni_X5_followBottoms kd_90 rfl lz_90 rfl (Nat.le_trans (by decide) hh) (by decide) (Nat.le_of_ble_eq_true rfl) rfl dX5_leastMiss_19 (fun v Z' hq => ?_)
    obtain ⟨M14, rfl, rfl, hq⟩ := hq
    have h := h M14 hq
    dsimp only at h
    refine a_aload_n hΓ 1 dX5_leastMiss_22 rfl rfl ?_
    refine a_iconst hΓ dX5_leastMiss_23 ?_
    refine n_putI (j := 7) hΓ fl_RX5_53 cl_5 nf_5_7 kd_90 lz_90 dX5_leastMiss_24 (Or.inr ⟨ft_5_7, (Or.inr rfl)⟩) rfl ?_
    refine a_iload_n hΓ 0 dX5_leastMiss_27 rfl rfl ?_
    exact a_iret hΓ hr dX5_leastMiss_28 ⟨_, _, rfl, rfl, h⟩
  · rw [if_neg c10] at h
    refine a_iconst hΓ dX5_leastMiss_16 ?_
    exact a_iret hΓ hr dX5_leastMiss_17 ⟨_, _, rfl, rfl, h⟩
theorem ct_wX5_leastMiss (l : Launch) (g : Gp) (v1 : Int) (M : Mm) (Q : Int → Mm → Prop) (h : wX5_leastMiss v1 M Q) : Ct l g yX5_leastMiss cX5_leastMiss 3 (some .int) 6 0 0 [aR 90, aI v1] (NC, RF, M) (QI Q) :=
  ct_of (by decide) (Nat.le_of_ble_eq_true rfl) (fun Γ hg hl hr _ hΓ => by subst hg; subst hl; exact s_wX5_leastMiss hΓ (by decide) hr v1 M h)
def wX11_miss (v1 : Int) (v2 : Int) (M : Mm) (Q : Int → Mm → Prop) : Prop :=
    Bd (wX11_isShip v1 M) (fun r3 M4 =>
    (inR r3) ∧
    (if r3 = 0 then
      Q (-1) M4
    else
      Bd (wX11_isDay v2 M4) (fun r9 M10 =>
      (inR r9) ∧
      (if r9 = 0 then
        Q (-1) M10
      else
        Bv (wX6_load v1 M10) (fun M16 =>
        Bd (wX6_counting v2 M16) (fun r19 M20 =>
        Bd (wX5_leastMiss r19 M20) (fun r23 M24 =>
        Q r23 M24)))))))
set_option maxHeartbeats 4000000 in
theorem s_wX11_miss {Γ : Cx} {h : Nat} (hΓ : Ok Γ cX11_miss RX11 3 h 0 0) (hh : 7 ≤ h) (hr : (cxm Γ).sig.returnType = (some .int)) {Q : Int → Mm → Prop} (v1 : Int) (v2 : Int) (M : Mm) (h : wX11_miss v1 v2 M Q) : Wa Γ 3 (Kf Γ (QI Q) 0 0) 0 0 0 [(0, aR 0), (1, aI v1), (2, aI v2)] [] (NC, RF, M) := by
  unfold wX11_miss at h
  refine a_aload_n hΓ 0 dX11_miss_0 rfl rfl ?_
  refine a_iload_n hΓ 1 dX11_miss_1 rfl rfl ?_
  obtain ⟨P1, q2, h⟩ := h
  refine n_callV (c := 0) (av := [aI v1]) (st := []) hΓ (ct_wX11_isShip _ _ v1 M P1 q2) my_X11_isShip ml_RX11_106 ni_X11_isShip kd_0 rfl lz_0 rfl (Nat.le_trans (by decide) hh) (by decide) (Nat.le_of_ble_eq_true rfl) rfl dX11_miss_2 (fun v Z' hq => ?_)
  obtain ⟨r3, M4, rfl, rfl, hq⟩ := hq
  have h := h r3 M4 hq
  dsimp only at h
  obtain ⟨g5, h⟩ := h
  refine a_if_eq (tgt := 15) hΓ g5 dX11_miss_5 (by decide) (fun c6 => ?_) (fun c6 => ?_)
  · rw [if_pos c6] at h
    refine a_iconst hΓ dX11_miss_15 ?_
    exact a_iret hΓ hr dX11_miss_16 ⟨_, _, rfl, rfl, h⟩
  · rw [if_neg c6] at h
    refine a_iload_n hΓ 2 dX11_miss_8 rfl rfl ?_
    obtain ⟨P7, q8, h⟩ := h
    refine n_callS (av := [aI v2]) (st := []) hΓ (ct_wX11_isDay _ _ v2 M4 P7 q8) my_X11_isDay ml_RX11_102 rfl (Nat.le_trans (by decide) hh) (by decide) (Nat.le_of_ble_eq_true rfl) rfl dX11_miss_9 (fun v Z' hq => ?_)
    obtain ⟨r9, M10, rfl, rfl, hq⟩ := hq
    have h := h r9 M10 hq
    dsimp only at h
    obtain ⟨g11, h⟩ := h
    refine a_if_ne (tgt := 17) hΓ g11 dX11_miss_12 (by decide) (fun c12 => ?_) (fun c12 => ?_)
    · rw [if_pos c12] at h
      refine a_iconst hΓ dX11_miss_15 ?_
      exact a_iret hΓ hr dX11_miss_16 ⟨_, _, rfl, rfl, h⟩
    · rw [if_neg c12] at h
      refine a_aload_n hΓ 0 dX11_miss_17 rfl rfl ?_
      refine n_getR hΓ fl_RX11_29 cl_11 kd_0 lz_0 dX11_miss_18 ft_11_3 rf_0_3 ?_
      refine a_iload_n hΓ 1 dX11_miss_21 rfl rfl ?_
      obtain ⟨P13, q14, h⟩ := h
      refine n_callV (c := 72) (av := [aI v1]) (st := []) hΓ (ct_wX6_load _ _ v1 M10 P13 q14) my_X6_load ml_RX11_139 ni_X6_load kd_72 rfl lz_72 rfl (Nat.le_trans (by decide) hh) (by decide) (Nat.le_of_ble_eq_true rfl) rfl dX11_miss_22 (fun v Z' hq => ?_)
      obtain ⟨M16, rfl, rfl, hq⟩ := hq
      have h := h M16 hq
      dsimp only at h
      refine a_aload_n hΓ 0 dX11_miss_25 rfl rfl ?_
      refine n_getR hΓ fl_RX11_68 cl_11 kd_0 lz_0 dX11_miss_26 ft_11_8 rf_0_8 ?_
      refine a_aload_n hΓ 0 dX11_miss_29 rfl rfl ?_
      refine n_getR hΓ fl_RX11_29 cl_11 kd_0 lz_0 dX11_miss_30 ft_11_3 rf_0_3 ?_
      refine a_iload_n hΓ 2 dX11_miss_33 rfl rfl ?_
      obtain ⟨P17, q18, h⟩ := h
      refine n_callV (c := 72) (av := [aI v2]) (st := [aR 90]) hΓ (ct_wX6_counting _ _ v2 M16 P17 q18) my_X6_counting ml_RX11_203 ni_X6_counting kd_72 rfl lz_72 rfl (Nat.le_trans (by decide) hh) (by decide) (Nat.le_of_ble_eq_true rfl) rfl dX11_miss_34 (fun v Z' hq => ?_)
      obtain ⟨r19, M20, rfl, rfl, hq⟩ := hq
      have h := h r19 M20 hq
      dsimp only at h
      obtain ⟨P21, q22, h⟩ := h
      refine n_callV (c := 90) (av := [aI r19]) (st := []) hΓ (ct_wX5_leastMiss _ _ r19 M20 P21 q22) my_X5_leastMiss ml_RX11_273 ni_X5_leastMiss kd_90 rfl lz_90 rfl (Nat.le_trans (by decide) hh) (by decide) (Nat.le_of_ble_eq_true rfl) rfl dX11_miss_37 (fun v Z' hq => ?_)
      obtain ⟨r23, M24, rfl, rfl, hq⟩ := hq
      have h := h r23 M24 hq
      dsimp only at h
      exact a_iret hΓ hr dX11_miss_40 ⟨_, _, rfl, rfl, h⟩
theorem ct_wX11_miss (l : Launch) (g : Gp) (v1 : Int) (v2 : Int) (M : Mm) (Q : Int → Mm → Prop) (h : wX11_miss v1 v2 M Q) : Ct l g yX11_miss cX11_miss 3 (some .int) 7 0 0 [aR 0, aI v1, aI v2] (NC, RF, M) (QI Q) :=
  ct_of (by decide) (Nat.le_of_ble_eq_true rfl) (fun Γ hg hl hr _ hΓ => by subst hg; subst hl; exact s_wX11_miss hΓ (by decide) hr v1 v2 M h)
def wX11_curve (v1 : Int) (M : Mm) (Q : Int → Mm → Prop) : Prop :=
    (inR (M 90 7)) ∧
    (if (M 90 7) = 0 then
      Q (-1) M
    else
      Bd (wX11_isDay v1 M) (fun r5 M6 =>
      (inR r5) ∧
      (if r5 = 0 then
        Q (-1) M6
      else
        (0 ≤ v1 ∧ v1 < 120) ∧
        Q (M6 98 v1) M6)))
set_option maxHeartbeats 4000000 in
theorem s_wX11_curve {Γ : Cx} {h : Nat} (hΓ : Ok Γ cX11_curve RX11 2 h 0 0) (hh : 3 ≤ h) (hr : (cxm Γ).sig.returnType = (some .int)) {Q : Int → Mm → Prop} (v1 : Int) (M : Mm) (h : wX11_curve v1 M Q) : Wa Γ 2 (Kf Γ (QI Q) 0 0) 0 0 0 [(0, aR 0), (1, aI v1)] [] (NC, RF, M) := by
  unfold wX11_curve at h
  refine a_aload_n hΓ 0 dX11_curve_0 rfl rfl ?_
  refine n_getR hΓ fl_RX11_68 cl_11 kd_0 lz_0 dX11_curve_1 ft_11_8 rf_0_8 ?_
  refine n_getI (x := (M 90 7)) hΓ fl_RX11_276 cl_5 kd_90 lz_90 dX11_curve_4 (Or.inr ft_5_7) rfl ?_
  obtain ⟨g1, h⟩ := h
  refine a_if_eq (tgt := 29) hΓ g1 dX11_curve_7 (by decide) (fun c2 => ?_) (fun c2 => ?_)
  · rw [if_pos c2] at h
    refine a_iconst hΓ dX11_curve_29 ?_
    exact a_iret hΓ hr dX11_curve_30 ⟨_, _, rfl, rfl, h⟩
  · rw [if_neg c2] at h
    refine a_iload_n hΓ 1 dX11_curve_10 rfl rfl ?_
    obtain ⟨P3, q4, h⟩ := h
    refine n_callS (av := [aI v1]) (st := []) hΓ (ct_wX11_isDay _ _ v1 M P3 q4) my_X11_isDay ml_RX11_102 rfl (Nat.le_trans (by decide) hh) (by decide) (Nat.le_of_ble_eq_true rfl) rfl dX11_curve_11 (fun v Z' hq => ?_)
    obtain ⟨r5, M6, rfl, rfl, hq⟩ := hq
    have h := h r5 M6 hq
    dsimp only at h
    obtain ⟨g7, h⟩ := h
    refine a_if_eq (tgt := 29) hΓ g7 dX11_curve_14 (by decide) (fun c8 => ?_) (fun c8 => ?_)
    · rw [if_pos c8] at h
      refine a_iconst hΓ dX11_curve_29 ?_
      exact a_iret hΓ hr dX11_curve_30 ⟨_, _, rfl, rfl, h⟩
    · rw [if_neg c8] at h
      refine a_aload_n hΓ 0 dX11_curve_17 rfl rfl ?_
      refine n_getR hΓ fl_RX11_68 cl_11 kd_0 lz_0 dX11_curve_18 ft_11_8 rf_0_8 ?_
      refine n_getR hΓ fl_RX11_279 cl_5 kd_90 lz_90 dX11_curve_21 ft_5_6 rf_90_6 ?_
      refine a_iload_n hΓ 1 dX11_curve_24 rfl rfl ?_
      obtain ⟨g9, h⟩ := h
      refine n_iald (x := (M6 98 v1)) hΓ dX11_curve_25 kd_98 lz_98 g9 rfl ?_
      refine a_goto (tgt := 30) hΓ dX11_curve_26 (by decide) ?_
      exact a_iret hΓ hr dX11_curve_30 ⟨_, _, rfl, rfl, h⟩
theorem ct_wX11_curve (l : Launch) (g : Gp) (v1 : Int) (M : Mm) (Q : Int → Mm → Prop) (h : wX11_curve v1 M Q) : Ct l g yX11_curve cX11_curve 2 (some .int) 3 0 0 [aR 0, aI v1] (NC, RF, M) (QI Q) :=
  ct_of (by decide) (Nat.le_of_ble_eq_true rfl) (fun Γ hg hl hr _ hΓ => by subst hg; subst hl; exact s_wX11_curve hΓ (by decide) hr v1 M h)
def wX5_offer (v1 : Int) (v2 : Int) (v3 : Int) (v4 : Int) (M : Mm) (Q : Mm → Prop) : Prop :=
    (inR v1) ∧
    (inR (M 90 8)) ∧
    (if v1 < (M 90 8) then
      Q (up (up (up (up M 90 8 v1) 90 9 v2) 90 10 v3) 90 11 v4)
    else
      Q M)
set_option maxHeartbeats 4000000 in
theorem s_wX5_offer {Γ : Cx} {h : Nat} (hΓ : Ok Γ cX5_offer RX5 5 h 0 0) (hh : 1 ≤ h) (hr : (cxm Γ).sig.returnType = none) {Q : Mm → Prop} (v1 : Int) (v2 : Int) (v3 : Int) (v4 : Int) (M : Mm) (h : wX5_offer v1 v2 v3 v4 M Q) : Wa Γ 5 (Kf Γ (QV Q) 0 0) 0 0 0 [(0, aR 90), (1, aI v1), (2, aI v2), (3, aI v3), (4, aI v4)] [] (NC, RF, M) := by
  unfold wX5_offer at h
  refine a_iload_n hΓ 1 dX5_offer_0 rfl rfl ?_
  refine a_aload_n hΓ 0 dX5_offer_1 rfl rfl ?_
  refine n_getI (x := (M 90 8)) hΓ fl_RX5_141 cl_5 kd_90 lz_90 dX5_offer_2 (Or.inl ft_5_8) rfl ?_
  obtain ⟨g1, h⟩ := h
  obtain ⟨g2, h⟩ := h
  refine a_icmp_ge (tgt := 29) hΓ g1 g2 dX5_offer_5 (by decide) (fun c3 => ?_) (fun c3 => ?_)
  · rw [if_pos c3] at h
    refine a_aload_n hΓ 0 dX5_offer_8 rfl rfl ?_
    refine a_iload_n hΓ 1 dX5_offer_9 rfl rfl ?_
    refine n_putI (j := 8) hΓ fl_RX5_141 cl_5 nf_5_8 kd_90 lz_90 dX5_offer_10 (Or.inl ft_5_8) rfl ?_
    refine a_aload_n hΓ 0 dX5_offer_13 rfl rfl ?_
    refine a_iload_n hΓ 2 dX5_offer_14 rfl rfl ?_
    refine n_putI (j := 9) hΓ fl_RX5_144 cl_5 nf_5_9 kd_90 lz_90 dX5_offer_15 (Or.inl ft_5_9) rfl ?_
    refine a_aload_n hΓ 0 dX5_offer_18 rfl rfl ?_
    refine a_iload_n hΓ 3 dX5_offer_19 rfl rfl ?_
    refine n_putI (j := 10) hΓ fl_RX5_147 cl_5 nf_5_10 kd_90 lz_90 dX5_offer_20 (Or.inl ft_5_10) rfl ?_
    refine a_aload_n hΓ 0 dX5_offer_23 rfl rfl ?_
    refine a_iload hΓ 4 dX5_offer_24 rfl ?_
    refine n_putI (j := 11) hΓ fl_RX5_150 cl_5 nf_5_11 kd_90 lz_90 dX5_offer_26 (Or.inl ft_5_11) rfl ?_
    exact a_vret hΓ hr dX5_offer_29 ⟨_, rfl, rfl, h⟩
  · rw [if_neg c3] at h
    exact a_vret hΓ hr dX5_offer_29 ⟨_, rfl, rfl, h⟩
theorem ct_wX5_offer (l : Launch) (g : Gp) (v1 : Int) (v2 : Int) (v3 : Int) (v4 : Int) (M : Mm) (Q : Mm → Prop) (h : wX5_offer v1 v2 v3 v4 M Q) : Ct l g yX5_offer cX5_offer 5 none 1 0 0 [aR 90, aI v1, aI v2, aI v3, aI v4] (NC, RF, M) (QV Q) :=
  ct_of (by decide) (Nat.le_of_ble_eq_true rfl) (fun Γ hg hl hr _ hΓ => by subst hg; subst hl; exact s_wX5_offer hΓ (by decide) hr v1 v2 v3 v4 M h)
def wX5_stepAhead (v1 : Int) (M : Mm) (Q : Int → Mm → Prop) : Prop :=
    (0 ≤ v1 ∧ v1 < 120) ∧
    (inR (M 78 v1)) ∧
    (if (M 78 v1) = 0 then
      (0 ≤ (v1 - 1) ∧ (v1 - 1) < 120) ∧
      Bv (wX9_spread (M 75 (v1 - 1)) (M 76 (v1 - 1)) M) (fun M8 =>
      Bd (wX9_cutTo (M8 77 v1) M8) (fun r11 M12 =>
      (r11 = 0 ∨ r11 = 1) ∧
      Q r11 M12))
    else
      Bd (wX9_bottomCost M) (fun r16 M17 =>
      Bv (wX9_begin 0 (M 77 v1) r16 M17) (fun M21 =>
      Q 1 M21)))
set_option maxHeartbeats 4000000 in
theorem s_wX5_stepAhead {Γ : Cx} {h : Nat} (hΓ : Ok Γ cX5_stepAhead RX5 2 h 0 0) (hh : 4 ≤ h) (hr : (cxm Γ).sig.returnType = (some .boolean)) {Q : Int → Mm → Prop} (v1 : Int) (M : Mm) (h : wX5_stepAhead v1 M Q) : Wa Γ 2 (Kf Γ (QI Q) 0 0) 0 0 0 [(0, aR 90), (1, aI v1)] [] (NC, RF, M) := by
  unfold wX5_stepAhead at h
  refine a_aload_n hΓ 0 dX5_stepAhead_0 rfl rfl ?_
  refine n_getR hΓ fl_RX5_37 cl_5 kd_90 lz_90 dX5_stepAhead_1 ft_5_0 rf_90_0 ?_
  refine n_getR hΓ fl_RX5_103 cl_6 kd_72 lz_72 dX5_stepAhead_4 ft_6_7 rf_72_7 ?_
  refine a_iload_n hΓ 1 dX5_stepAhead_7 rfl rfl ?_
  obtain ⟨g1, h⟩ := h
  refine n_bald (x := (M 78 v1)) hΓ dX5_stepAhead_8 kd_78 (Or.inl rfl) lz_78 g1 rfl ?_
  obtain ⟨g2, h⟩ := h
  refine a_if_eq (tgt := 38) hΓ g2 dX5_stepAhead_9 (by decide) (fun c3 => ?_) (fun c3 => ?_)
  · rw [if_pos c3] at h
    refine a_aload_n hΓ 0 dX5_stepAhead_38 rfl rfl ?_
    refine n_getR hΓ fl_RX5_12 cl_5 kd_90 lz_90 dX5_stepAhead_39 ft_5_1 rf_90_1 ?_
    refine a_aload_n hΓ 0 dX5_stepAhead_42 rfl rfl ?_
    refine n_getR hΓ fl_RX5_37 cl_5 kd_90 lz_90 dX5_stepAhead_43 ft_5_0 rf_90_0 ?_
    refine n_getR hΓ fl_RX5_110 cl_6 kd_72 lz_72 dX5_stepAhead_46 ft_6_4 rf_72_4 ?_
    refine a_iload_n hΓ 1 dX5_stepAhead_49 rfl rfl ?_
    refine a_iconst hΓ dX5_stepAhead_50 ?_
    refine a_isub hΓ dX5_stepAhead_51 ?_
    obtain ⟨g4, h⟩ := h
    refine n_iald (x := (M 75 (v1 - 1))) hΓ dX5_stepAhead_52 kd_75 lz_75 g4 rfl ?_
    refine a_aload_n hΓ 0 dX5_stepAhead_53 rfl rfl ?_
    refine n_getR hΓ fl_RX5_37 cl_5 kd_90 lz_90 dX5_stepAhead_54 ft_5_0 rf_90_0 ?_
    refine n_getR hΓ fl_RX5_107 cl_6 kd_72 lz_72 dX5_stepAhead_57 ft_6_5 rf_72_5 ?_
    refine a_iload_n hΓ 1 dX5_stepAhead_60 rfl rfl ?_
    refine a_iconst hΓ dX5_stepAhead_61 ?_
    refine a_isub hΓ dX5_stepAhead_62 ?_
    refine n_iald (x := (M 76 (v1 - 1))) hΓ dX5_stepAhead_63 kd_76 lz_76 g4 rfl ?_
    obtain ⟨P5, q6, h⟩ := h
    refine n_callV (c := 91) (av := [aI (M 75 (v1 - 1)), aI (M 76 (v1 - 1))]) (st := []) hΓ (ct_wX9_spread _ _ (M 75 (v1 - 1)) (M 76 (v1 - 1)) M P5 q6) my_X9_spread ml_RX5_113 ni_X9_spread kd_91 rfl lz_91 rfl (Nat.le_trans (by decide) hh) (by decide) (Nat.le_of_ble_eq_true rfl) rfl dX5_stepAhead_64 (fun v Z' hq => ?_)
    obtain ⟨M8, rfl, rfl, hq⟩ := hq
    have h := h M8 hq
    dsimp only at h
    refine a_aload_n hΓ 0 dX5_stepAhead_67 rfl rfl ?_
    refine n_getR hΓ fl_RX5_12 cl_5 kd_90 lz_90 dX5_stepAhead_68 ft_5_1 rf_90_1 ?_
    refine a_aload_n hΓ 0 dX5_stepAhead_71 rfl rfl ?_
    refine n_getR hΓ fl_RX5_37 cl_5 kd_90 lz_90 dX5_stepAhead_72 ft_5_0 rf_90_0 ?_
    refine n_getR hΓ fl_RX5_78 cl_6 kd_72 lz_72 dX5_stepAhead_75 ft_6_6 rf_72_6 ?_
    refine a_iload_n hΓ 1 dX5_stepAhead_78 rfl rfl ?_
    refine n_iald (x := (M8 77 v1)) hΓ dX5_stepAhead_79 kd_77 lz_77 g1 rfl ?_
    obtain ⟨P9, q10, h⟩ := h
    refine n_callV (c := 91) (av := [aI (M8 77 v1)]) (st := []) hΓ (ct_wX9_cutTo _ _ (M8 77 v1) M8 P9 q10) my_X9_cutTo ml_RX5_117 ni_X9_cutTo kd_91 rfl lz_91 rfl (Nat.le_trans (by decide) hh) (by decide) (Nat.le_of_ble_eq_true rfl) rfl dX5_stepAhead_80 (fun v Z' hq => ?_)
    obtain ⟨r11, M12, rfl, rfl, hq⟩ := hq
    have h := h r11 M12 hq
    dsimp only at h
    obtain ⟨g13, h⟩ := h
    exact a_zret hΓ hr g13 dX5_stepAhead_83 ⟨_, _, rfl, rfl, h⟩
  · rw [if_neg c3] at h
    refine a_aload_n hΓ 0 dX5_stepAhead_12 rfl rfl ?_
    refine n_getR hΓ fl_RX5_12 cl_5 kd_90 lz_90 dX5_stepAhead_13 ft_5_1 rf_90_1 ?_
    refine a_iconst hΓ dX5_stepAhead_16 ?_
    refine a_aload_n hΓ 0 dX5_stepAhead_17 rfl rfl ?_
    refine n_getR hΓ fl_RX5_37 cl_5 kd_90 lz_90 dX5_stepAhead_18 ft_5_0 rf_90_0 ?_
    refine n_getR hΓ fl_RX5_78 cl_6 kd_72 lz_72 dX5_stepAhead_21 ft_6_6 rf_72_6 ?_
    refine a_iload_n hΓ 1 dX5_stepAhead_24 rfl rfl ?_
    refine n_iald (x := (M 77 v1)) hΓ dX5_stepAhead_25 kd_77 lz_77 g1 rfl ?_
    refine a_aload_n hΓ 0 dX5_stepAhead_26 rfl rfl ?_
    refine n_getR hΓ fl_RX5_12 cl_5 kd_90 lz_90 dX5_stepAhead_27 ft_5_1 rf_90_1 ?_
    obtain ⟨P14, q15, h⟩ := h
    refine n_callV (c := 91) (av := []) (st := [aI (M 77 v1), aI 0, aR 91]) hΓ (ct_wX9_bottomCost _ _  M P14 q15) my_X9_bottomCost ml_RX5_100 ni_X9_bottomCost kd_91 rfl lz_91 rfl (Nat.le_trans (by decide) hh) (by decide) (Nat.le_of_ble_eq_true rfl) rfl dX5_stepAhead_30 (fun v Z' hq => ?_)
    obtain ⟨r16, M17, rfl, rfl, hq⟩ := hq
    have h := h r16 M17 hq
    dsimp only at h
    obtain ⟨P18, q19, h⟩ := h
    refine n_callV (c := 91) (av := [aI 0, aI (M 77 v1), aI r16]) (st := []) hΓ (ct_wX9_begin _ _ 0 (M 77 v1) r16 M17 P18 q19) my_X9_begin ml_RX5_81 ni_X9_begin kd_91 rfl lz_91 rfl (Nat.le_trans (by decide) hh) (by decide) (Nat.le_of_ble_eq_true rfl) rfl dX5_stepAhead_33 (fun v Z' hq => ?_)
    obtain ⟨M21, rfl, rfl, hq⟩ := hq
    have h := h M21 hq
    dsimp only at h
    refine a_iconst hΓ dX5_stepAhead_36 ?_
    exact a_zret hΓ hr (Or.inr rfl) dX5_stepAhead_37 ⟨_, _, rfl, rfl, h⟩
theorem ct_wX5_stepAhead (l : Launch) (g : Gp) (v1 : Int) (M : Mm) (Q : Int → Mm → Prop) (h : wX5_stepAhead v1 M Q) : Ct l g yX5_stepAhead cX5_stepAhead 2 (some .boolean) 4 0 0 [aR 90, aI v1] (NC, RF, M) (QI Q) :=
  ct_of (by decide) (Nat.le_of_ble_eq_true rfl) (fun Γ hg hl hr _ hΓ => by subst hg; subst hl; exact s_wX5_stepAhead hΓ (by decide) hr v1 M h)
def wX5_tryTwo_52 (Q : Mm → Prop) (v1 : Int) (v3 : Int) : Nat → Int → Mm → Prop
  | 0, _, _ => False
  | f + 1, v4, M => (inR v4) ∧
    (if v4 < 120 then
      Bd (wX9_bottomCost M) (fun r5 M6 =>
      (inR (v3 + r5)) ∧
      (inR (M6 90 8)) ∧
      (if (v3 + r5) < (M6 90 8) then
        (0 ≤ v4 ∧ v4 < 120) ∧
        (inR (M6 78 v4)) ∧
        (if (M6 78 v4) = 0 then
          Bv (wX5_offer ((v3 + r5) + (M6 97 v4)) 2 v1 v4 M6) (fun M16 =>
          Bd (wX5_stepAhead v4 M16) (fun r19 M20 =>
          (inR r19) ∧
          (if r19 = 0 then
            Q M20
          else
            Bv (wX5_addLogs v4 M20) (fun M26 =>
            (wX5_tryTwo_52 Q v1 v3 f) (v4 + 1) M26))))
        else
          Bd (wX5_stepAhead v4 M6) (fun r29 M30 =>
          (inR r29) ∧
          (if r29 = 0 then
            Q M30
          else
            Bv (wX5_addLogs v4 M30) (fun M36 =>
            (wX5_tryTwo_52 Q v1 v3 f) (v4 + 1) M36))))
      else
        Q M6))
    else
      Q M)
set_option maxHeartbeats 4000000 in
theorem s_wX5_tryTwo_52 {Γ : Cx} {h : Nat} (hΓ : Ok Γ cX5_tryTwo RX5 6 h 0 0) (hh : 5 ≤ h) (hr : (cxm Γ).sig.returnType = none) {Q : Mm → Prop} {v1 v3 : Int}   : ∀ (f : Nat) (v4 : Int) (M : Mm), wX5_tryTwo_52 Q v1 v3 f v4 M → Wa Γ 6 (Kf Γ (QV Q) 0 0) 0 0 52 [(0, aR 90), (1, aI v1), (3, aI v3), (4, aI v4)] [] (NC, RF, M) := by
  intro f
  induction f with
  | zero => intro v4 M h; exact h.elim
  | succ f ih =>
    intro v4 M h
    unfold wX5_tryTwo_52 at h
    refine a_iload hΓ 3 dX5_tryTwo_52 rfl ?_
    refine a_bipush hΓ dX5_tryTwo_54 (by decide) ?_
    obtain ⟨g1, h⟩ := h
    refine a_icmp_ge (tgt := 133) hΓ g1 (inRl (by decide)) dX5_tryTwo_56 (by decide) (fun c2 => ?_) (fun c2 => ?_)
    · rw [if_pos c2] at h
      refine a_iload_n hΓ 2 dX5_tryTwo_59 rfl rfl ?_
      refine a_aload_n hΓ 0 dX5_tryTwo_60 rfl rfl ?_
      refine n_getR hΓ fl_RX5_12 cl_5 kd_90 lz_90 dX5_tryTwo_61 ft_5_1 rf_90_1 ?_
      obtain ⟨P3, q4, h⟩ := h
      refine n_callV (c := 91) (av := []) (st := [aI v3]) hΓ (ct_wX9_bottomCost _ _  M P3 q4) my_X9_bottomCost ml_RX5_100 ni_X9_bottomCost kd_91 rfl lz_91 rfl (Nat.le_trans (by decide) hh) (by decide) (Nat.le_of_ble_eq_true rfl) rfl dX5_tryTwo_64 (fun v Z' hq => ?_)
      obtain ⟨r5, M6, rfl, rfl, hq⟩ := hq
      have h := h r5 M6 hq
      dsimp only at h
      refine a_iadd hΓ dX5_tryTwo_67 ?_
      refine a_istore (ls' := [(5, aI (v3 + r5)), (0, aR 90), (1, aI v1), (3, aI v3), (4, aI v4)]) hΓ dX5_tryTwo_68 (by decide) rfl ?_
      refine a_iload hΓ 0 dX5_tryTwo_70 rfl ?_
      refine a_aload_n hΓ 1 dX5_tryTwo_72 rfl rfl ?_
      refine n_getI (x := (M6 90 8)) hΓ fl_RX5_141 cl_5 kd_90 lz_90 dX5_tryTwo_73 (Or.inl ft_5_8) rfl ?_
      obtain ⟨g7, h⟩ := h
      obtain ⟨g8, h⟩ := h
      refine a_icmp_lt (tgt := 80) hΓ g7 g8 dX5_tryTwo_76 (by decide) (fun c9 => ?_) (fun c9 => ?_)
      · rw [if_pos c9] at h
        refine a_aload_n hΓ 1 dX5_tryTwo_80 rfl rfl ?_
        refine n_getR hΓ fl_RX5_37 cl_5 kd_90 lz_90 dX5_tryTwo_81 ft_5_0 rf_90_0 ?_
        refine n_getR hΓ fl_RX5_103 cl_6 kd_72 lz_72 dX5_tryTwo_84 ft_6_7 rf_72_7 ?_
        refine a_iload hΓ 4 dX5_tryTwo_87 rfl ?_
        obtain ⟨g10, h⟩ := h
        refine n_bald (x := (M6 78 v4)) hΓ dX5_tryTwo_89 kd_78 (Or.inl rfl) lz_78 g10 rfl ?_
        obtain ⟨g11, h⟩ := h
        refine a_if_ne (tgt := 111) hΓ g11 dX5_tryTwo_90 (by decide) (fun c12 => ?_) (fun c12 => ?_)
        · rw [if_pos c12] at h
          refine a_aload_n hΓ 1 dX5_tryTwo_93 rfl rfl ?_
          refine a_iload hΓ 0 dX5_tryTwo_94 rfl ?_
          refine a_aload_n hΓ 1 dX5_tryTwo_96 rfl rfl ?_
          refine n_getR hΓ fl_RX5_28 cl_5 kd_90 lz_90 dX5_tryTwo_97 ft_5_5 rf_90_5 ?_
          refine a_iload hΓ 4 dX5_tryTwo_100 rfl ?_
          refine n_iald (x := (M6 97 v4)) hΓ dX5_tryTwo_102 kd_97 lz_97 g10 rfl ?_
          refine a_iadd hΓ dX5_tryTwo_103 ?_
          refine a_iconst hΓ dX5_tryTwo_104 ?_
          refine a_iload_n hΓ 2 dX5_tryTwo_105 rfl rfl ?_
          refine a_iload hΓ 4 dX5_tryTwo_106 rfl ?_
          obtain ⟨P13, q14, h⟩ := h
          refine n_callV (c := 90) (av := [aI ((v3 + r5) + (M6 97 v4)), aI 2, aI v1, aI v4]) (st := []) hΓ (ct_wX5_offer _ _ ((v3 + r5) + (M6 97 v4)) 2 v1 v4 M6 P13 q14) my_X5_offer ml_RX5_168 ni_X5_offer kd_90 rfl lz_90 rfl (Nat.le_trans (by decide) hh) (by decide) (Nat.le_of_ble_eq_true rfl) rfl dX5_tryTwo_108 (fun v Z' hq => ?_)
          obtain ⟨M16, rfl, rfl, hq⟩ := hq
          have h := h M16 hq
          dsimp only at h
          refine a_aload_n hΓ 1 dX5_tryTwo_111 rfl rfl ?_
          refine a_iload hΓ 4 dX5_tryTwo_112 rfl ?_
          obtain ⟨P17, q18, h⟩ := h
          refine n_callV (c := 90) (av := [aI v4]) (st := []) hΓ (ct_wX5_stepAhead _ _ v4 M16 P17 q18) my_X5_stepAhead ml_RX5_165 ni_X5_stepAhead kd_90 rfl lz_90 rfl (Nat.le_trans (by decide) hh) (by decide) (Nat.le_of_ble_eq_true rfl) rfl dX5_tryTwo_114 (fun v Z' hq => ?_)
          obtain ⟨r19, M20, rfl, rfl, hq⟩ := hq
          have h := h r19 M20 hq
          dsimp only at h
          obtain ⟨g21, h⟩ := h
          refine a_if_ne (tgt := 121) hΓ g21 dX5_tryTwo_117 (by decide) (fun c22 => ?_) (fun c22 => ?_)
          · rw [if_pos c22] at h
            exact a_vret hΓ hr dX5_tryTwo_120 ⟨_, rfl, rfl, h⟩
          · rw [if_neg c22] at h
            refine a_aload_n hΓ 1 dX5_tryTwo_121 rfl rfl ?_
            refine a_iload hΓ 4 dX5_tryTwo_122 rfl ?_
            obtain ⟨P23, q24, h⟩ := h
            refine n_callV (c := 90) (av := [aI v4]) (st := []) hΓ (ct_wX5_addLogs _ _ v4 M20 P23 q24) my_X5_addLogs ml_RX5_89 ni_X5_addLogs kd_90 rfl lz_90 rfl (Nat.le_trans (by decide) hh) (by decide) (Nat.le_of_ble_eq_true rfl) rfl dX5_tryTwo_124 (fun v Z' hq => ?_)
            obtain ⟨M26, rfl, rfl, hq⟩ := hq
            have h := h M26 hq
            dsimp only at h
            refine a_iinc (ls' := [(4, aI (v4 + 1)), (5, aI (v3 + r5)), (0, aR 90), (1, aI v1), (3, aI v3)]) hΓ 4 dX5_tryTwo_127 rfl (by decide) rfl ?_
            refine a_goto (tgt := 52) hΓ dX5_tryTwo_130 (by decide) ?_
            refine a_sub (ls' := [(0, aR 90), (1, aI v1), (3, aI v3), (4, aI (v4 + 1))]) [2, 3, 4, 0] rfl ?_
            exact ih (v4 + 1) M26 h
        · rw [if_neg c12] at h
          refine a_aload_n hΓ 1 dX5_tryTwo_111 rfl rfl ?_
          refine a_iload hΓ 4 dX5_tryTwo_112 rfl ?_
          obtain ⟨P27, q28, h⟩ := h
          refine n_callV (c := 90) (av := [aI v4]) (st := []) hΓ (ct_wX5_stepAhead _ _ v4 M6 P27 q28) my_X5_stepAhead ml_RX5_165 ni_X5_stepAhead kd_90 rfl lz_90 rfl (Nat.le_trans (by decide) hh) (by decide) (Nat.le_of_ble_eq_true rfl) rfl dX5_tryTwo_114 (fun v Z' hq => ?_)
          obtain ⟨r29, M30, rfl, rfl, hq⟩ := hq
          have h := h r29 M30 hq
          dsimp only at h
          obtain ⟨g31, h⟩ := h
          refine a_if_ne (tgt := 121) hΓ g31 dX5_tryTwo_117 (by decide) (fun c32 => ?_) (fun c32 => ?_)
          · rw [if_pos c32] at h
            exact a_vret hΓ hr dX5_tryTwo_120 ⟨_, rfl, rfl, h⟩
          · rw [if_neg c32] at h
            refine a_aload_n hΓ 1 dX5_tryTwo_121 rfl rfl ?_
            refine a_iload hΓ 4 dX5_tryTwo_122 rfl ?_
            obtain ⟨P33, q34, h⟩ := h
            refine n_callV (c := 90) (av := [aI v4]) (st := []) hΓ (ct_wX5_addLogs _ _ v4 M30 P33 q34) my_X5_addLogs ml_RX5_89 ni_X5_addLogs kd_90 rfl lz_90 rfl (Nat.le_trans (by decide) hh) (by decide) (Nat.le_of_ble_eq_true rfl) rfl dX5_tryTwo_124 (fun v Z' hq => ?_)
            obtain ⟨M36, rfl, rfl, hq⟩ := hq
            have h := h M36 hq
            dsimp only at h
            refine a_iinc (ls' := [(4, aI (v4 + 1)), (5, aI (v3 + r5)), (0, aR 90), (1, aI v1), (3, aI v3)]) hΓ 4 dX5_tryTwo_127 rfl (by decide) rfl ?_
            refine a_goto (tgt := 52) hΓ dX5_tryTwo_130 (by decide) ?_
            refine a_sub (ls' := [(0, aR 90), (1, aI v1), (3, aI v3), (4, aI (v4 + 1))]) [2, 3, 4, 0] rfl ?_
            exact ih (v4 + 1) M36 h
      · rw [if_neg c9] at h
        exact a_vret hΓ hr dX5_tryTwo_79 ⟨_, rfl, rfl, h⟩
    · rw [if_neg c2] at h
      exact a_vret hΓ hr dX5_tryTwo_133 ⟨_, rfl, rfl, h⟩
def wX5_tryTwo (v1 : Int) (v2 : Int) (M : Mm) (Q : Mm → Prop) : Prop :=
    (0 ≤ v1 ∧ v1 < 120) ∧
    (inR (M 78 v1)) ∧
    (if (M 78 v1) = 0 then
      (inR ((M 96 v1) + (2 * v2))) ∧
      (inR (M 90 8)) ∧
      (if ((M 96 v1) + (2 * v2)) < (M 90 8) then
        Bv (wX9_begin 0 0 0 M) (fun M10 =>
        Bv (wX5_addLogs v1 M10) (fun M14 =>
        ∃ n, wX5_tryTwo_52 Q v1 ((M 96 v1) + (2 * v2)) n (v1 + 1) M14))
      else
        Q M)
    else
      Q M)
set_option maxHeartbeats 4000000 in
theorem s_wX5_tryTwo {Γ : Cx} {h : Nat} (hΓ : Ok Γ cX5_tryTwo RX5 6 h 0 0) (hh : 5 ≤ h) (hr : (cxm Γ).sig.returnType = none) {Q : Mm → Prop} (v1 : Int) (v2 : Int) (M : Mm) (h : wX5_tryTwo v1 v2 M Q) : Wa Γ 6 (Kf Γ (QV Q) 0 0) 0 0 0 [(0, aR 90), (1, aI v1), (2, aI v2)] [] (NC, RF, M) := by
  unfold wX5_tryTwo at h
  refine a_aload_n hΓ 0 dX5_tryTwo_0 rfl rfl ?_
  refine n_getR hΓ fl_RX5_25 cl_5 kd_90 lz_90 dX5_tryTwo_1 ft_5_4 rf_90_4 ?_
  refine a_iload_n hΓ 1 dX5_tryTwo_4 rfl rfl ?_
  obtain ⟨g1, h⟩ := h
  refine n_iald (x := (M 96 v1)) hΓ dX5_tryTwo_5 kd_96 lz_96 g1 rfl ?_
  refine a_iconst hΓ dX5_tryTwo_6 ?_
  refine a_iload_n hΓ 2 dX5_tryTwo_7 rfl rfl ?_
  refine a_imul hΓ dX5_tryTwo_8 ?_
  refine a_iadd hΓ dX5_tryTwo_9 ?_
  refine a_istore_n (ls' := [(3, aI ((M 96 v1) + (2 * v2))), (0, aR 90), (1, aI v1), (2, aI v2)]) hΓ dX5_tryTwo_10 rfl (by decide) rfl ?_
  refine a_aload_n hΓ 1 dX5_tryTwo_11 rfl rfl ?_
  refine n_getR hΓ fl_RX5_37 cl_5 kd_90 lz_90 dX5_tryTwo_12 ft_5_0 rf_90_0 ?_
  refine n_getR hΓ fl_RX5_103 cl_6 kd_72 lz_72 dX5_tryTwo_15 ft_6_7 rf_72_7 ?_
  refine a_iload_n hΓ 2 dX5_tryTwo_18 rfl rfl ?_
  refine n_bald (x := (M 78 v1)) hΓ dX5_tryTwo_19 kd_78 (Or.inl rfl) lz_78 g1 rfl ?_
  obtain ⟨g2, h⟩ := h
  refine a_if_ne (tgt := 31) hΓ g2 dX5_tryTwo_20 (by decide) (fun c3 => ?_) (fun c3 => ?_)
  · rw [if_pos c3] at h
    refine a_iload_n hΓ 0 dX5_tryTwo_23 rfl rfl ?_
    refine a_aload_n hΓ 1 dX5_tryTwo_24 rfl rfl ?_
    refine n_getI (x := (M 90 8)) hΓ fl_RX5_141 cl_5 kd_90 lz_90 dX5_tryTwo_25 (Or.inl ft_5_8) rfl ?_
    obtain ⟨g4, h⟩ := h
    obtain ⟨g5, h⟩ := h
    refine a_icmp_lt (tgt := 32) hΓ g4 g5 dX5_tryTwo_28 (by decide) (fun c6 => ?_) (fun c6 => ?_)
    · rw [if_pos c6] at h
      refine a_aload_n hΓ 1 dX5_tryTwo_32 rfl rfl ?_
      refine n_getR hΓ fl_RX5_12 cl_5 kd_90 lz_90 dX5_tryTwo_33 ft_5_1 rf_90_1 ?_
      refine a_iconst hΓ dX5_tryTwo_36 ?_
      refine a_iconst hΓ dX5_tryTwo_37 ?_
      refine a_iconst hΓ dX5_tryTwo_38 ?_
      obtain ⟨P7, q8, h⟩ := h
      refine n_callV (c := 91) (av := [aI 0, aI 0, aI 0]) (st := []) hΓ (ct_wX9_begin _ _ 0 0 0 M P7 q8) my_X9_begin ml_RX5_81 ni_X9_begin kd_91 rfl lz_91 rfl (Nat.le_trans (by decide) hh) (by decide) (Nat.le_of_ble_eq_true rfl) rfl dX5_tryTwo_39 (fun v Z' hq => ?_)
      obtain ⟨M10, rfl, rfl, hq⟩ := hq
      have h := h M10 hq
      dsimp only at h
      refine a_aload_n hΓ 1 dX5_tryTwo_42 rfl rfl ?_
      refine a_iload_n hΓ 2 dX5_tryTwo_43 rfl rfl ?_
      obtain ⟨P11, q12, h⟩ := h
      refine n_callV (c := 90) (av := [aI v1]) (st := []) hΓ (ct_wX5_addLogs _ _ v1 M10 P11 q12) my_X5_addLogs ml_RX5_89 ni_X5_addLogs kd_90 rfl lz_90 rfl (Nat.le_trans (by decide) hh) (by decide) (Nat.le_of_ble_eq_true rfl) rfl dX5_tryTwo_44 (fun v Z' hq => ?_)
      obtain ⟨M14, rfl, rfl, hq⟩ := hq
      have h := h M14 hq
      dsimp only at h
      refine a_iload_n hΓ 2 dX5_tryTwo_47 rfl rfl ?_
      refine a_iconst hΓ dX5_tryTwo_48 ?_
      refine a_iadd hΓ dX5_tryTwo_49 ?_
      refine a_istore (ls' := [(4, aI (v1 + 1)), (3, aI ((M 96 v1) + (2 * v2))), (0, aR 90), (1, aI v1), (2, aI v2)]) hΓ dX5_tryTwo_50 (by decide) rfl ?_
      refine a_sub (ls' := [(0, aR 90), (1, aI v1), (3, aI ((M 96 v1) + (2 * v2))), (4, aI (v1 + 1))]) [2, 3, 1, 0] rfl ?_
      obtain ⟨f15, h⟩ := h
      exact s_wX5_tryTwo_52 hΓ (Nat.le_trans (by decide) hh) hr  f15 (v1 + 1) M14 h
    · rw [if_neg c6] at h
      exact a_vret hΓ hr dX5_tryTwo_31 ⟨_, rfl, rfl, h⟩
  · rw [if_neg c3] at h
    exact a_vret hΓ hr dX5_tryTwo_31 ⟨_, rfl, rfl, h⟩
theorem ct_wX5_tryTwo (l : Launch) (g : Gp) (v1 : Int) (v2 : Int) (M : Mm) (Q : Mm → Prop) (h : wX5_tryTwo v1 v2 M Q) : Ct l g yX5_tryTwo cX5_tryTwo 6 none 5 0 0 [aR 90, aI v1, aI v2] (NC, RF, M) (QV Q) :=
  ct_of (by decide) (Nat.le_of_ble_eq_true rfl) (fun Γ hg hl hr _ hΓ => by subst hg; subst hl; exact s_wX5_tryTwo hΓ (by decide) hr v1 v2 M h)
def wX5_sweepAhead_47 (Q : Mm → Prop) : Nat → Int → Mm → Prop
  | 0, _, _ => False
  | f + 1, v1, M => (inR v1) ∧
    (if v1 < 120 then
      Bd (wX9_bottomCost M) (fun r5 M6 =>
      (0 ≤ v1 ∧ v1 < 120) ∧
      Bd (wX5_stepAhead v1 (up M6 96 v1 r5)) (fun r10 M11 =>
      (inR r10) ∧
      (if r10 = 0 then
        Q M11
      else
        Bv (wX5_addLogs v1 M11) (fun M17 =>
        (wX5_sweepAhead_47 Q f) (v1 + 1) M17))))
    else
      Q M)
set_option maxHeartbeats 4000000 in
theorem s_wX5_sweepAhead_47 {Γ : Cx} {h : Nat} (hΓ : Ok Γ cX5_sweepAhead RX5 2 h 0 0) (hh : 5 ≤ h) (hr : (cxm Γ).sig.returnType = none) {Q : Mm → Prop}   : ∀ (f : Nat) (v1 : Int) (M : Mm), wX5_sweepAhead_47 Q  f v1 M → Wa Γ 2 (Kf Γ (QV Q) 0 0) 0 0 47 [(0, aR 90), (1, aI v1)] [] (NC, RF, M) := by
  intro f
  induction f with
  | zero => intro v1 M h; exact h.elim
  | succ f ih =>
    intro v1 M h
    unfold wX5_sweepAhead_47 at h
    refine a_iload_n hΓ 1 dX5_sweepAhead_47 rfl rfl ?_
    refine a_bipush hΓ dX5_sweepAhead_48 (by decide) ?_
    obtain ⟨g1, h⟩ := h
    refine a_icmp_ge (tgt := 86) hΓ g1 (inRl (by decide)) dX5_sweepAhead_50 (by decide) (fun c2 => ?_) (fun c2 => ?_)
    · rw [if_pos c2] at h
      refine a_aload_n hΓ 0 dX5_sweepAhead_53 rfl rfl ?_
      refine n_getR hΓ fl_RX5_25 cl_5 kd_90 lz_90 dX5_sweepAhead_54 ft_5_4 rf_90_4 ?_
      refine a_iload_n hΓ 1 dX5_sweepAhead_57 rfl rfl ?_
      refine a_aload_n hΓ 0 dX5_sweepAhead_58 rfl rfl ?_
      refine n_getR hΓ fl_RX5_12 cl_5 kd_90 lz_90 dX5_sweepAhead_59 ft_5_1 rf_90_1 ?_
      obtain ⟨P3, q4, h⟩ := h
      refine n_callV (c := 91) (av := []) (st := [aI v1, aR 96]) hΓ (ct_wX9_bottomCost _ _  M P3 q4) my_X9_bottomCost ml_RX5_100 ni_X9_bottomCost kd_91 rfl lz_91 rfl (Nat.le_trans (by decide) hh) (by decide) (Nat.le_of_ble_eq_true rfl) rfl dX5_sweepAhead_62 (fun v Z' hq => ?_)
      obtain ⟨r5, M6, rfl, rfl, hq⟩ := hq
      have h := h r5 M6 hq
      dsimp only at h
      obtain ⟨g7, h⟩ := h
      refine a_iast hΓ dX5_sweepAhead_65 kd_96 lz_96 g7 ?_
      refine a_aload_n hΓ 0 dX5_sweepAhead_66 rfl rfl ?_
      refine a_iload_n hΓ 1 dX5_sweepAhead_67 rfl rfl ?_
      obtain ⟨P8, q9, h⟩ := h
      refine n_callV (c := 90) (av := [aI v1]) (st := []) hΓ (ct_wX5_stepAhead _ _ v1 (up M6 96 v1 r5) P8 q9) my_X5_stepAhead ml_RX5_165 ni_X5_stepAhead kd_90 rfl lz_90 rfl (Nat.le_trans (by decide) hh) (by decide) (Nat.le_of_ble_eq_true rfl) rfl dX5_sweepAhead_68 (fun v Z' hq => ?_)
      obtain ⟨r10, M11, rfl, rfl, hq⟩ := hq
      have h := h r10 M11 hq
      dsimp only at h
      obtain ⟨g12, h⟩ := h
      refine a_if_ne (tgt := 75) hΓ g12 dX5_sweepAhead_71 (by decide) (fun c13 => ?_) (fun c13 => ?_)
      · rw [if_pos c13] at h
        exact a_vret hΓ hr dX5_sweepAhead_74 ⟨_, rfl, rfl, h⟩
      · rw [if_neg c13] at h
        refine a_aload_n hΓ 0 dX5_sweepAhead_75 rfl rfl ?_
        refine a_iload_n hΓ 1 dX5_sweepAhead_76 rfl rfl ?_
        obtain ⟨P14, q15, h⟩ := h
        refine n_callV (c := 90) (av := [aI v1]) (st := []) hΓ (ct_wX5_addLogs _ _ v1 M11 P14 q15) my_X5_addLogs ml_RX5_89 ni_X5_addLogs kd_90 rfl lz_90 rfl (Nat.le_trans (by decide) hh) (by decide) (Nat.le_of_ble_eq_true rfl) rfl dX5_sweepAhead_77 (fun v Z' hq => ?_)
        obtain ⟨M17, rfl, rfl, hq⟩ := hq
        have h := h M17 hq
        dsimp only at h
        refine a_iinc (ls' := [(1, aI (v1 + 1)), (0, aR 90)]) hΓ 1 dX5_sweepAhead_80 rfl (by decide) rfl ?_
        refine a_goto (tgt := 47) hΓ dX5_sweepAhead_83 (by decide) ?_
        refine a_sub (ls' := [(0, aR 90), (1, aI (v1 + 1))]) [1, 0] rfl ?_
        exact ih (v1 + 1) M17 h
    · rw [if_neg c2] at h
      exact a_vret hΓ hr dX5_sweepAhead_86 ⟨_, rfl, rfl, h⟩
def wX5_sweepAhead_22 (Q : Mm → Prop) (M : Mm) : Prop :=
    Bv (wX9_begin 0 (M 77 0) 0 M) (fun M4 =>
    Bv (wX5_addLogs 0 M4) (fun M8 =>
    ∃ n, wX5_sweepAhead_47 Q n 1 M8))
set_option maxHeartbeats 4000000 in
theorem s_wX5_sweepAhead_22 {Γ : Cx} {h : Nat} (hΓ : Ok Γ cX5_sweepAhead RX5 2 h 0 0) (hh : 5 ≤ h) (hr : (cxm Γ).sig.returnType = none) {Q : Mm → Prop}   (M : Mm) (h : wX5_sweepAhead_22 Q  M) : Wa Γ 2 (Kf Γ (QV Q) 0 0) 0 0 22 [(0, aR 90)] [] (NC, RF, M) := by
  unfold wX5_sweepAhead_22 at h
  refine a_aload_n hΓ 0 dX5_sweepAhead_22 rfl rfl ?_
  refine n_getR hΓ fl_RX5_12 cl_5 kd_90 lz_90 dX5_sweepAhead_23 ft_5_1 rf_90_1 ?_
  refine a_iconst hΓ dX5_sweepAhead_26 ?_
  refine a_aload_n hΓ 0 dX5_sweepAhead_27 rfl rfl ?_
  refine n_getR hΓ fl_RX5_37 cl_5 kd_90 lz_90 dX5_sweepAhead_28 ft_5_0 rf_90_0 ?_
  refine n_getR hΓ fl_RX5_78 cl_6 kd_72 lz_72 dX5_sweepAhead_31 ft_6_6 rf_72_6 ?_
  refine a_iconst hΓ dX5_sweepAhead_34 ?_
  refine n_iald (x := (M 77 0)) hΓ dX5_sweepAhead_35 kd_77 lz_77 ⟨by decide, by decide⟩ rfl ?_
  refine a_iconst hΓ dX5_sweepAhead_36 ?_
  obtain ⟨P1, q2, h⟩ := h
  refine n_callV (c := 91) (av := [aI 0, aI (M 77 0), aI 0]) (st := []) hΓ (ct_wX9_begin _ _ 0 (M 77 0) 0 M P1 q2) my_X9_begin ml_RX5_81 ni_X9_begin kd_91 rfl lz_91 rfl (Nat.le_trans (by decide) hh) (by decide) (Nat.le_of_ble_eq_true rfl) rfl dX5_sweepAhead_37 (fun v Z' hq => ?_)
  obtain ⟨M4, rfl, rfl, hq⟩ := hq
  have h := h M4 hq
  dsimp only at h
  refine a_aload_n hΓ 0 dX5_sweepAhead_40 rfl rfl ?_
  refine a_iconst hΓ dX5_sweepAhead_41 ?_
  obtain ⟨P5, q6, h⟩ := h
  refine n_callV (c := 90) (av := [aI 0]) (st := []) hΓ (ct_wX5_addLogs _ _ 0 M4 P5 q6) my_X5_addLogs ml_RX5_89 ni_X5_addLogs kd_90 rfl lz_90 rfl (Nat.le_trans (by decide) hh) (by decide) (Nat.le_of_ble_eq_true rfl) rfl dX5_sweepAhead_42 (fun v Z' hq => ?_)
  obtain ⟨M8, rfl, rfl, hq⟩ := hq
  have h := h M8 hq
  dsimp only at h
  refine a_iconst hΓ dX5_sweepAhead_45 ?_
  refine a_istore_n (ls' := [(1, aI 1), (0, aR 90)]) hΓ dX5_sweepAhead_46 rfl (by decide) rfl ?_
  refine a_sub (ls' := [(0, aR 90), (1, aI 1)]) [1, 0] rfl ?_
  obtain ⟨f9, h⟩ := h
  exact s_wX5_sweepAhead_47 hΓ (Nat.le_trans (by decide) hh) hr  f9 1 M8 h
def wX5_sweepAhead_2 (Q : Mm → Prop) : Nat → Int → Mm → Prop
  | 0, _, _ => False
  | f + 1, v1, M => (inR v1) ∧
    (if v1 < 120 then
      (0 ≤ v1 ∧ v1 < 120) ∧
      (wX5_sweepAhead_2 Q f) (v1 + 1) (up M 96 v1 100000000)
    else
      wX5_sweepAhead_22 Q M)
set_option maxHeartbeats 4000000 in
theorem s_wX5_sweepAhead_2 {Γ : Cx} {h : Nat} (hΓ : Ok Γ cX5_sweepAhead RX5 2 h 0 0) (hh : 5 ≤ h) (hr : (cxm Γ).sig.returnType = none) {Q : Mm → Prop}   : ∀ (f : Nat) (v1 : Int) (M : Mm), wX5_sweepAhead_2 Q  f v1 M → Wa Γ 2 (Kf Γ (QV Q) 0 0) 0 0 2 [(0, aR 90), (1, aI v1)] [] (NC, RF, M) := by
  intro f
  induction f with
  | zero => intro v1 M h; exact h.elim
  | succ f ih =>
    intro v1 M h
    unfold wX5_sweepAhead_2 at h
    refine a_iload_n hΓ 1 dX5_sweepAhead_2 rfl rfl ?_
    refine a_bipush hΓ dX5_sweepAhead_3 (by decide) ?_
    obtain ⟨g1, h⟩ := h
    refine a_icmp_ge (tgt := 22) hΓ g1 (inRl (by decide)) dX5_sweepAhead_5 (by decide) (fun c2 => ?_) (fun c2 => ?_)
    · rw [if_pos c2] at h
      refine a_aload_n hΓ 0 dX5_sweepAhead_8 rfl rfl ?_
      refine n_getR hΓ fl_RX5_25 cl_5 kd_90 lz_90 dX5_sweepAhead_9 ft_5_4 rf_90_4 ?_
      refine a_iload_n hΓ 1 dX5_sweepAhead_12 rfl rfl ?_
      refine a_ldc hΓ gc_RX5_49 dX5_sweepAhead_13 ?_
      obtain ⟨g3, h⟩ := h
      refine a_iast hΓ dX5_sweepAhead_15 kd_96 lz_96 g3 ?_
      refine a_iinc (ls' := [(1, aI (v1 + 1)), (0, aR 90)]) hΓ 1 dX5_sweepAhead_16 rfl (by decide) rfl ?_
      refine a_goto (tgt := 2) hΓ dX5_sweepAhead_19 (by decide) ?_
      refine a_sub (ls' := [(0, aR 90), (1, aI (v1 + 1))]) [1, 0] rfl ?_
      exact ih (v1 + 1) (up M 96 v1 100000000) h
    · rw [if_neg c2] at h
      refine a_sub (ls' := [(0, aR 90)]) [0] rfl ?_
      exact s_wX5_sweepAhead_22 hΓ (Nat.le_trans (by decide) hh) hr  M h
def wX5_sweepAhead  (M : Mm) (Q : Mm → Prop) : Prop :=
    ∃ n, wX5_sweepAhead_2 Q n 0 M
set_option maxHeartbeats 4000000 in
theorem s_wX5_sweepAhead {Γ : Cx} {h : Nat} (hΓ : Ok Γ cX5_sweepAhead RX5 2 h 0 0) (hh : 5 ≤ h) (hr : (cxm Γ).sig.returnType = none) {Q : Mm → Prop}  (M : Mm) (h : wX5_sweepAhead  M Q) : Wa Γ 2 (Kf Γ (QV Q) 0 0) 0 0 0 [(0, aR 90)] [] (NC, RF, M) := by
  unfold wX5_sweepAhead at h
  refine a_iconst hΓ dX5_sweepAhead_0 ?_
  refine a_istore_n (ls' := [(1, aI 0), (0, aR 90)]) hΓ dX5_sweepAhead_1 rfl (by decide) rfl ?_
  refine a_sub (ls' := [(0, aR 90), (1, aI 0)]) [1, 0] rfl ?_
  obtain ⟨f1, h⟩ := h
  exact s_wX5_sweepAhead_2 hΓ (Nat.le_trans (by decide) hh) hr  f1 0 M h
theorem ct_wX5_sweepAhead (l : Launch) (g : Gp)  (M : Mm) (Q : Mm → Prop) (h : wX5_sweepAhead  M Q) : Ct l g yX5_sweepAhead cX5_sweepAhead 2 none 5 0 0 [aR 90] (NC, RF, M) (QV Q) :=
  ct_of (by decide) (Nat.le_of_ble_eq_true rfl) (fun Γ hg hl hr _ hΓ => by subst hg; subst hl; exact s_wX5_sweepAhead hΓ (by decide) hr  M h)
def wX5_tryOne_2 (Q : Mm → Prop) (v1 : Int) : Nat → Int → Mm → Prop
  | 0, _, _ => False
  | f + 1, v2, M => (inR v2) ∧
    (if v2 < 120 then
      (0 ≤ v2 ∧ v2 < 120) ∧
      (inR (M 78 v2)) ∧
      (if (M 78 v2) = 0 then
        Bv (wX5_offer (((M 96 v2) + (M 97 v2)) + v1) 1 v2 (-1) M) (fun M9 =>
        (wX5_tryOne_2 Q v1 f) (v2 + 1) M9)
      else
        (wX5_tryOne_2 Q v1 f) (v2 + 1) M)
    else
      Q M)
set_option maxHeartbeats 4000000 in
theorem s_wX5_tryOne_2 {Γ : Cx} {h : Nat} (hΓ : Ok Γ cX5_tryOne RX5 3 h 0 0) (hh : 2 ≤ h) (hr : (cxm Γ).sig.returnType = none) {Q : Mm → Prop} {v1 : Int}   : ∀ (f : Nat) (v2 : Int) (M : Mm), wX5_tryOne_2 Q v1 f v2 M → Wa Γ 3 (Kf Γ (QV Q) 0 0) 0 0 2 [(0, aR 90), (1, aI v1), (2, aI v2)] [] (NC, RF, M) := by
  intro f
  induction f with
  | zero => intro v2 M h; exact h.elim
  | succ f ih =>
    intro v2 M h
    unfold wX5_tryOne_2 at h
    refine a_iload_n hΓ 2 dX5_tryOne_2 rfl rfl ?_
    refine a_bipush hΓ dX5_tryOne_3 (by decide) ?_
    obtain ⟨g1, h⟩ := h
    refine a_icmp_ge (tgt := 48) hΓ g1 (inRl (by decide)) dX5_tryOne_5 (by decide) (fun c2 => ?_) (fun c2 => ?_)
    · rw [if_pos c2] at h
      refine a_aload_n hΓ 0 dX5_tryOne_8 rfl rfl ?_
      refine n_getR hΓ fl_RX5_37 cl_5 kd_90 lz_90 dX5_tryOne_9 ft_5_0 rf_90_0 ?_
      refine n_getR hΓ fl_RX5_103 cl_6 kd_72 lz_72 dX5_tryOne_12 ft_6_7 rf_72_7 ?_
      refine a_iload_n hΓ 2 dX5_tryOne_15 rfl rfl ?_
      obtain ⟨g3, h⟩ := h
      refine n_bald (x := (M 78 v2)) hΓ dX5_tryOne_16 kd_78 (Or.inl rfl) lz_78 g3 rfl ?_
      obtain ⟨g4, h⟩ := h
      refine a_if_ne (tgt := 42) hΓ g4 dX5_tryOne_17 (by decide) (fun c5 => ?_) (fun c5 => ?_)
      · rw [if_pos c5] at h
        refine a_aload_n hΓ 0 dX5_tryOne_20 rfl rfl ?_
        refine a_aload_n hΓ 0 dX5_tryOne_21 rfl rfl ?_
        refine n_getR hΓ fl_RX5_25 cl_5 kd_90 lz_90 dX5_tryOne_22 ft_5_4 rf_90_4 ?_
        refine a_iload_n hΓ 2 dX5_tryOne_25 rfl rfl ?_
        refine n_iald (x := (M 96 v2)) hΓ dX5_tryOne_26 kd_96 lz_96 g3 rfl ?_
        refine a_aload_n hΓ 0 dX5_tryOne_27 rfl rfl ?_
        refine n_getR hΓ fl_RX5_28 cl_5 kd_90 lz_90 dX5_tryOne_28 ft_5_5 rf_90_5 ?_
        refine a_iload_n hΓ 2 dX5_tryOne_31 rfl rfl ?_
        refine n_iald (x := (M 97 v2)) hΓ dX5_tryOne_32 kd_97 lz_97 g3 rfl ?_
        refine a_iadd hΓ dX5_tryOne_33 ?_
        refine a_iload_n hΓ 1 dX5_tryOne_34 rfl rfl ?_
        refine a_iadd hΓ dX5_tryOne_35 ?_
        refine a_iconst hΓ dX5_tryOne_36 ?_
        refine a_iload_n hΓ 2 dX5_tryOne_37 rfl rfl ?_
        refine a_iconst hΓ dX5_tryOne_38 ?_
        obtain ⟨P6, q7, h⟩ := h
        refine n_callV (c := 90) (av := [aI (((M 96 v2) + (M 97 v2)) + v1), aI 1, aI v2, aI (-1)]) (st := []) hΓ (ct_wX5_offer _ _ (((M 96 v2) + (M 97 v2)) + v1) 1 v2 (-1) M P6 q7) my_X5_offer ml_RX5_168 ni_X5_offer kd_90 rfl lz_90 rfl (Nat.le_trans (by decide) hh) (by decide) (Nat.le_of_ble_eq_true rfl) rfl dX5_tryOne_39 (fun v Z' hq => ?_)
        obtain ⟨M9, rfl, rfl, hq⟩ := hq
        have h := h M9 hq
        dsimp only at h
        refine a_iinc (ls' := [(2, aI (v2 + 1)), (0, aR 90), (1, aI v1)]) hΓ 2 dX5_tryOne_42 rfl (by decide) rfl ?_
        refine a_goto (tgt := 2) hΓ dX5_tryOne_45 (by decide) ?_
        refine a_sub (ls' := [(0, aR 90), (1, aI v1), (2, aI (v2 + 1))]) [1, 2, 0] rfl ?_
        exact ih (v2 + 1) M9 h
      · rw [if_neg c5] at h
        refine a_iinc (ls' := [(2, aI (v2 + 1)), (0, aR 90), (1, aI v1)]) hΓ 2 dX5_tryOne_42 rfl (by decide) rfl ?_
        refine a_goto (tgt := 2) hΓ dX5_tryOne_45 (by decide) ?_
        refine a_sub (ls' := [(0, aR 90), (1, aI v1), (2, aI (v2 + 1))]) [1, 2, 0] rfl ?_
        exact ih (v2 + 1) M h
    · rw [if_neg c2] at h
      exact a_vret hΓ hr dX5_tryOne_48 ⟨_, rfl, rfl, h⟩
def wX5_tryOne (v1 : Int) (M : Mm) (Q : Mm → Prop) : Prop :=
    ∃ n, wX5_tryOne_2 Q v1 n 1 M
set_option maxHeartbeats 4000000 in
theorem s_wX5_tryOne {Γ : Cx} {h : Nat} (hΓ : Ok Γ cX5_tryOne RX5 3 h 0 0) (hh : 2 ≤ h) (hr : (cxm Γ).sig.returnType = none) {Q : Mm → Prop} (v1 : Int) (M : Mm) (h : wX5_tryOne v1 M Q) : Wa Γ 3 (Kf Γ (QV Q) 0 0) 0 0 0 [(0, aR 90), (1, aI v1)] [] (NC, RF, M) := by
  unfold wX5_tryOne at h
  refine a_iconst hΓ dX5_tryOne_0 ?_
  refine a_istore_n (ls' := [(2, aI 1), (0, aR 90), (1, aI v1)]) hΓ dX5_tryOne_1 rfl (by decide) rfl ?_
  refine a_sub (ls' := [(0, aR 90), (1, aI v1), (2, aI 1)]) [1, 2, 0] rfl ?_
  obtain ⟨f1, h⟩ := h
  exact s_wX5_tryOne_2 hΓ (Nat.le_trans (by decide) hh) hr  f1 1 M h
theorem ct_wX5_tryOne (l : Launch) (g : Gp) (v1 : Int) (M : Mm) (Q : Mm → Prop) (h : wX5_tryOne v1 M Q) : Ct l g yX5_tryOne cX5_tryOne 3 none 2 0 0 [aR 90, aI v1] (NC, RF, M) (QV Q) :=
  ct_of (by decide) (Nat.le_of_ble_eq_true rfl) (fun Γ hg hl hr _ hΓ => by subst hg; subst hl; exact s_wX5_tryOne hΓ (by decide) hr v1 M h)
def wX5_leastWithHidden_57 (Q : Int → Mm → Prop) (M : Mm) : Prop :=
    (inR (M 90 8)) ∧
    (if (M 90 8) < 100000000 then
      Q (M 90 8) (up (up (up M 90 12 (M 90 9)) 99 0 (M 90 10)) 99 1 (M 90 11))
    else
      Q (-1) M)
set_option maxHeartbeats 4000000 in
theorem s_wX5_leastWithHidden_57 {Γ : Cx} {h : Nat} (hΓ : Ok Γ cX5_leastWithHidden RX5 4 h 0 0) (hh : 6 ≤ h) (hr : (cxm Γ).sig.returnType = (some .int)) {Q : Int → Mm → Prop}   (M : Mm) (h : wX5_leastWithHidden_57 Q  M) : Wa Γ 4 (Kf Γ (QI Q) 0 0) 0 0 57 [(0, aR 90)] [] (NC, RF, M) := by
  unfold wX5_leastWithHidden_57 at h
  refine a_aload_n hΓ 0 dX5_leastWithHidden_57 rfl rfl ?_
  refine n_getI (x := (M 90 8)) hΓ fl_RX5_141 cl_5 kd_90 lz_90 dX5_leastWithHidden_58 (Or.inl ft_5_8) rfl ?_
  refine a_ldc hΓ gc_RX5_49 dX5_leastWithHidden_61 ?_
  obtain ⟨g1, h⟩ := h
  refine a_icmp_lt (tgt := 68) hΓ g1 (inRl (by decide)) dX5_leastWithHidden_63 (by decide) (fun c2 => ?_) (fun c2 => ?_)
  · rw [if_pos c2] at h
    refine a_aload_n hΓ 0 dX5_leastWithHidden_68 rfl rfl ?_
    refine a_aload_n hΓ 0 dX5_leastWithHidden_69 rfl rfl ?_
    refine n_getI (x := (M 90 9)) hΓ fl_RX5_144 cl_5 kd_90 lz_90 dX5_leastWithHidden_70 (Or.inl ft_5_9) rfl ?_
    refine n_putI (j := 12) hΓ fl_RX5_162 cl_5 nf_5_12 kd_90 lz_90 dX5_leastWithHidden_73 (Or.inl ft_5_12) rfl ?_
    refine a_aload_n hΓ 0 dX5_leastWithHidden_76 rfl rfl ?_
    refine n_getR hΓ fl_RX5_34 cl_5 kd_90 lz_90 dX5_leastWithHidden_77 ft_5_13 rf_90_13 ?_
    refine a_iconst hΓ dX5_leastWithHidden_80 ?_
    refine a_aload_n hΓ 0 dX5_leastWithHidden_81 rfl rfl ?_
    refine n_getI (x := (M 90 10)) hΓ fl_RX5_147 cl_5 kd_90 lz_90 dX5_leastWithHidden_82 (Or.inl ft_5_10) rfl ?_
    refine a_iast hΓ dX5_leastWithHidden_85 kd_99 lz_99 ⟨by decide, by decide⟩ ?_
    refine a_aload_n hΓ 0 dX5_leastWithHidden_86 rfl rfl ?_
    refine n_getR hΓ fl_RX5_34 cl_5 kd_90 lz_90 dX5_leastWithHidden_87 ft_5_13 rf_90_13 ?_
    refine a_iconst hΓ dX5_leastWithHidden_90 ?_
    refine a_aload_n hΓ 0 dX5_leastWithHidden_91 rfl rfl ?_
    refine n_getI (x := (M 90 11)) hΓ fl_RX5_150 cl_5 kd_90 lz_90 dX5_leastWithHidden_92 (Or.inl ft_5_11) rfl ?_
    refine a_iast hΓ dX5_leastWithHidden_95 kd_99 lz_99 ⟨by decide, by decide⟩ ?_
    refine a_aload_n hΓ 0 dX5_leastWithHidden_96 rfl rfl ?_
    refine n_getI (x := (M 90 8)) hΓ fl_RX5_141 cl_5 kd_90 lz_90 dX5_leastWithHidden_97 (Or.inl ft_5_8) rfl ?_
    exact a_iret hΓ hr dX5_leastWithHidden_100 ⟨_, _, rfl, rfl, h⟩
  · rw [if_neg c2] at h
    refine a_iconst hΓ dX5_leastWithHidden_66 ?_
    exact a_iret hΓ hr dX5_leastWithHidden_67 ⟨_, _, rfl, rfl, h⟩
def wX5_leastWithHidden_39 (Q : Int → Mm → Prop) (v2 : Int) : Nat → Int → Mm → Prop
  | 0, _, _ => False
  | f + 1, v3, M => (inR v3) ∧
    (if v3 < 119 then
      Bv (wX5_tryTwo v3 v2 M) (fun M6 =>
      (wX5_leastWithHidden_39 Q v2 f) (v3 + 1) M6)
    else
      wX5_leastWithHidden_57 Q M)
set_option maxHeartbeats 4000000 in
theorem s_wX5_leastWithHidden_39 {Γ : Cx} {h : Nat} (hΓ : Ok Γ cX5_leastWithHidden RX5 4 h 0 0) (hh : 6 ≤ h) (hr : (cxm Γ).sig.returnType = (some .int)) {Q : Int → Mm → Prop} {v2 : Int}   : ∀ (f : Nat) (v3 : Int) (M : Mm), wX5_leastWithHidden_39 Q v2 f v3 M → Wa Γ 4 (Kf Γ (QI Q) 0 0) 0 0 39 [(0, aR 90), (2, aI v2), (3, aI v3)] [] (NC, RF, M) := by
  intro f
  induction f with
  | zero => intro v3 M h; exact h.elim
  | succ f ih =>
    intro v3 M h
    unfold wX5_leastWithHidden_39 at h
    refine a_iload_n hΓ 2 dX5_leastWithHidden_39 rfl rfl ?_
    refine a_bipush hΓ dX5_leastWithHidden_40 (by decide) ?_
    obtain ⟨g1, h⟩ := h
    refine a_icmp_ge (tgt := 57) hΓ g1 (inRl (by decide)) dX5_leastWithHidden_42 (by decide) (fun c2 => ?_) (fun c2 => ?_)
    · rw [if_pos c2] at h
      refine a_aload_n hΓ 0 dX5_leastWithHidden_45 rfl rfl ?_
      refine a_iload_n hΓ 2 dX5_leastWithHidden_46 rfl rfl ?_
      refine a_iload_n hΓ 1 dX5_leastWithHidden_47 rfl rfl ?_
      obtain ⟨P3, q4, h⟩ := h
      refine n_callV (c := 90) (av := [aI v3, aI v2]) (st := []) hΓ (ct_wX5_tryTwo _ _ v3 v2 M P3 q4) my_X5_tryTwo ml_RX5_159 ni_X5_tryTwo kd_90 rfl lz_90 rfl (Nat.le_trans (by decide) hh) (by decide) (Nat.le_of_ble_eq_true rfl) rfl dX5_leastWithHidden_48 (fun v Z' hq => ?_)
      obtain ⟨M6, rfl, rfl, hq⟩ := hq
      have h := h M6 hq
      dsimp only at h
      refine a_iinc (ls' := [(3, aI (v3 + 1)), (0, aR 90), (2, aI v2)]) hΓ 2 dX5_leastWithHidden_51 rfl (by decide) rfl ?_
      refine a_goto (tgt := 39) hΓ dX5_leastWithHidden_54 (by decide) ?_
      refine a_sub (ls' := [(0, aR 90), (2, aI v2), (3, aI (v3 + 1))]) [1, 2, 0] rfl ?_
      exact ih (v3 + 1) M6 h
    · rw [if_neg c2] at h
      refine a_sub (ls' := [(0, aR 90)]) [0] rfl ?_
      exact s_wX5_leastWithHidden_57 hΓ (Nat.le_trans (by decide) hh) hr  M h
def wX5_leastWithHidden (v1 : Int) (v2 : Int) (M : Mm) (Q : Int → Mm → Prop) : Prop :=
    Bv (wX5_sortByDay v1 M) (fun M4 =>
    Bd (wX5_sweepBack M4) (fun r7 M8 =>
    Bv (wX5_sweepAhead (up (up (up (up M8 90 8 r7) 90 9 0) 90 10 (-1)) 90 11 (-1))) (fun M12 =>
    Bv (wX5_tryOne v2 M12) (fun M16 =>
    ∃ n, wX5_leastWithHidden_39 Q v2 n 1 M16))))
set_option maxHeartbeats 4000000 in
theorem s_wX5_leastWithHidden {Γ : Cx} {h : Nat} (hΓ : Ok Γ cX5_leastWithHidden RX5 4 h 0 0) (hh : 6 ≤ h) (hr : (cxm Γ).sig.returnType = (some .int)) {Q : Int → Mm → Prop} (v1 : Int) (v2 : Int) (M : Mm) (h : wX5_leastWithHidden v1 v2 M Q) : Wa Γ 4 (Kf Γ (QI Q) 0 0) 0 0 0 [(0, aR 90), (1, aI v1), (2, aI v2)] [] (NC, RF, M) := by
  unfold wX5_leastWithHidden at h
  refine a_aload_n hΓ 0 dX5_leastWithHidden_0 rfl rfl ?_
  refine a_iload_n hΓ 1 dX5_leastWithHidden_1 rfl rfl ?_
  obtain ⟨P1, q2, h⟩ := h
  refine n_callV (c := 90) (av := [aI v1]) (st := []) hΓ (ct_wX5_sortByDay _ _ v1 M P1 q2) my_X5_sortByDay ml_RX5_41 ni_X5_sortByDay kd_90 rfl lz_90 rfl (Nat.le_trans (by decide) hh) (by decide) (Nat.le_of_ble_eq_true rfl) rfl dX5_leastWithHidden_2 (fun v Z' hq => ?_)
  obtain ⟨M4, rfl, rfl, hq⟩ := hq
  have h := h M4 hq
  dsimp only at h
  refine a_aload_n hΓ 0 dX5_leastWithHidden_5 rfl rfl ?_
  refine a_aload_n hΓ 0 dX5_leastWithHidden_6 rfl rfl ?_
  obtain ⟨P5, q6, h⟩ := h
  refine n_callV (c := 90) (av := []) (st := [aR 90]) hΓ (ct_wX5_sweepBack _ _  M4 P5 q6) my_X5_sweepBack ml_RX5_45 ni_X5_sweepBack kd_90 rfl lz_90 rfl (Nat.le_trans (by decide) hh) (by decide) (Nat.le_of_ble_eq_true rfl) rfl dX5_leastWithHidden_7 (fun v Z' hq => ?_)
  obtain ⟨r7, M8, rfl, rfl, hq⟩ := hq
  have h := h r7 M8 hq
  dsimp only at h
  refine n_putI (j := 8) hΓ fl_RX5_141 cl_5 nf_5_8 kd_90 lz_90 dX5_leastWithHidden_10 (Or.inl ft_5_8) rfl ?_
  refine a_aload_n hΓ 0 dX5_leastWithHidden_13 rfl rfl ?_
  refine a_iconst hΓ dX5_leastWithHidden_14 ?_
  refine n_putI (j := 9) hΓ fl_RX5_144 cl_5 nf_5_9 kd_90 lz_90 dX5_leastWithHidden_15 (Or.inl ft_5_9) rfl ?_
  refine a_aload_n hΓ 0 dX5_leastWithHidden_18 rfl rfl ?_
  refine a_iconst hΓ dX5_leastWithHidden_19 ?_
  refine n_putI (j := 10) hΓ fl_RX5_147 cl_5 nf_5_10 kd_90 lz_90 dX5_leastWithHidden_20 (Or.inl ft_5_10) rfl ?_
  refine a_aload_n hΓ 0 dX5_leastWithHidden_23 rfl rfl ?_
  refine a_iconst hΓ dX5_leastWithHidden_24 ?_
  refine n_putI (j := 11) hΓ fl_RX5_150 cl_5 nf_5_11 kd_90 lz_90 dX5_leastWithHidden_25 (Or.inl ft_5_11) rfl ?_
  refine a_aload_n hΓ 0 dX5_leastWithHidden_28 rfl rfl ?_
  obtain ⟨P9, q10, h⟩ := h
  refine n_callV (c := 90) (av := []) (st := []) hΓ (ct_wX5_sweepAhead _ _  (up (up (up (up M8 90 8 r7) 90 9 0) 90 10 (-1)) 90 11 (-1)) P9 q10) my_X5_sweepAhead ml_RX5_153 ni_X5_sweepAhead kd_90 rfl lz_90 rfl (Nat.le_trans (by decide) hh) (by decide) (Nat.le_of_ble_eq_true rfl) rfl dX5_leastWithHidden_29 (fun v Z' hq => ?_)
  obtain ⟨M12, rfl, rfl, hq⟩ := hq
  have h := h M12 hq
  dsimp only at h
  refine a_aload_n hΓ 0 dX5_leastWithHidden_32 rfl rfl ?_
  refine a_iload_n hΓ 2 dX5_leastWithHidden_33 rfl rfl ?_
  obtain ⟨P13, q14, h⟩ := h
  refine n_callV (c := 90) (av := [aI v2]) (st := []) hΓ (ct_wX5_tryOne _ _ v2 M12 P13 q14) my_X5_tryOne ml_RX5_156 ni_X5_tryOne kd_90 rfl lz_90 rfl (Nat.le_trans (by decide) hh) (by decide) (Nat.le_of_ble_eq_true rfl) rfl dX5_leastWithHidden_34 (fun v Z' hq => ?_)
  obtain ⟨M16, rfl, rfl, hq⟩ := hq
  have h := h M16 hq
  dsimp only at h
  refine a_iconst hΓ dX5_leastWithHidden_37 ?_
  refine a_istore_n (ls' := [(3, aI 1), (0, aR 90), (1, aI v1), (2, aI v2)]) hΓ dX5_leastWithHidden_38 rfl (by decide) rfl ?_
  refine a_sub (ls' := [(0, aR 90), (2, aI v2), (3, aI 1)]) [1, 3, 0] rfl ?_
  obtain ⟨f17, h⟩ := h
  exact s_wX5_leastWithHidden_39 hΓ (Nat.le_trans (by decide) hh) hr  f17 1 M16 h
theorem ct_wX5_leastWithHidden (l : Launch) (g : Gp) (v1 : Int) (v2 : Int) (M : Mm) (Q : Int → Mm → Prop) (h : wX5_leastWithHidden v1 v2 M Q) : Ct l g yX5_leastWithHidden cX5_leastWithHidden 4 (some .int) 6 0 0 [aR 90, aI v1, aI v2] (NC, RF, M) (QI Q) :=
  ct_of (by decide) (Nat.le_of_ble_eq_true rfl) (fun Γ hg hl hr _ hΓ => by subst hg; subst hl; exact s_wX5_leastWithHidden hΓ (by decide) hr v1 v2 M h)
def wX11_hidden (v1 : Int) (v2 : Int) (v3 : Int) (M : Mm) (Q : Int → Mm → Prop) : Prop :=
    Bd (wX11_isShip v1 M) (fun r3 M4 =>
    (inR r3) ∧
    (if r3 = 0 then
      Q (-1) M4
    else
      Bd (wX11_isDay v2 M4) (fun r9 M10 =>
      (inR r9) ∧
      (if r9 = 0 then
        Q (-1) M10
      else
        Bd (wX11_within v3 0 100000 M10) (fun r15 M16 =>
        (inR r15) ∧
        (if r15 = 0 then
          Q (-1) M16
        else
          Bv (wX6_load v1 M16) (fun M22 =>
          Bd (wX6_counting v2 M22) (fun r25 M26 =>
          Bd (wX5_leastWithHidden r25 v3 M26) (fun r29 M30 =>
          Q r29 M30)))))))))
set_option maxHeartbeats 4000000 in
theorem s_wX11_hidden {Γ : Cx} {h : Nat} (hΓ : Ok Γ cX11_hidden RX11 4 h 0 0) (hh : 7 ≤ h) (hr : (cxm Γ).sig.returnType = (some .int)) {Q : Int → Mm → Prop} (v1 : Int) (v2 : Int) (v3 : Int) (M : Mm) (h : wX11_hidden v1 v2 v3 M Q) : Wa Γ 4 (Kf Γ (QI Q) 0 0) 0 0 0 [(0, aR 0), (1, aI v1), (2, aI v2), (3, aI v3)] [] (NC, RF, M) := by
  unfold wX11_hidden at h
  refine a_aload_n hΓ 0 dX11_hidden_0 rfl rfl ?_
  refine a_iload_n hΓ 1 dX11_hidden_1 rfl rfl ?_
  obtain ⟨P1, q2, h⟩ := h
  refine n_callV (c := 0) (av := [aI v1]) (st := []) hΓ (ct_wX11_isShip _ _ v1 M P1 q2) my_X11_isShip ml_RX11_106 ni_X11_isShip kd_0 rfl lz_0 rfl (Nat.le_trans (by decide) hh) (by decide) (Nat.le_of_ble_eq_true rfl) rfl dX11_hidden_2 (fun v Z' hq => ?_)
  obtain ⟨r3, M4, rfl, rfl, hq⟩ := hq
  have h := h r3 M4 hq
  dsimp only at h
  obtain ⟨g5, h⟩ := h
  refine a_if_eq (tgt := 25) hΓ g5 dX11_hidden_5 (by decide) (fun c6 => ?_) (fun c6 => ?_)
  · rw [if_pos c6] at h
    refine a_iconst hΓ dX11_hidden_25 ?_
    exact a_iret hΓ hr dX11_hidden_26 ⟨_, _, rfl, rfl, h⟩
  · rw [if_neg c6] at h
    refine a_iload_n hΓ 2 dX11_hidden_8 rfl rfl ?_
    obtain ⟨P7, q8, h⟩ := h
    refine n_callS (av := [aI v2]) (st := []) hΓ (ct_wX11_isDay _ _ v2 M4 P7 q8) my_X11_isDay ml_RX11_102 rfl (Nat.le_trans (by decide) hh) (by decide) (Nat.le_of_ble_eq_true rfl) rfl dX11_hidden_9 (fun v Z' hq => ?_)
    obtain ⟨r9, M10, rfl, rfl, hq⟩ := hq
    have h := h r9 M10 hq
    dsimp only at h
    obtain ⟨g11, h⟩ := h
    refine a_if_eq (tgt := 25) hΓ g11 dX11_hidden_12 (by decide) (fun c12 => ?_) (fun c12 => ?_)
    · rw [if_pos c12] at h
      refine a_iconst hΓ dX11_hidden_25 ?_
      exact a_iret hΓ hr dX11_hidden_26 ⟨_, _, rfl, rfl, h⟩
    · rw [if_neg c12] at h
      refine a_iload_n hΓ 3 dX11_hidden_15 rfl rfl ?_
      refine a_iconst hΓ dX11_hidden_16 ?_
      refine a_ldc hΓ gc_RX11_132 dX11_hidden_17 ?_
      obtain ⟨P13, q14, h⟩ := h
      refine n_callS (av := [aI v3, aI 0, aI 100000]) (st := []) hΓ (ct_wX11_within _ _ v3 0 100000 M10 P13 q14) my_X11_within ml_RX11_79 rfl (Nat.le_trans (by decide) hh) (by decide) (Nat.le_of_ble_eq_true rfl) rfl dX11_hidden_19 (fun v Z' hq => ?_)
      obtain ⟨r15, M16, rfl, rfl, hq⟩ := hq
      have h := h r15 M16 hq
      dsimp only at h
      obtain ⟨g17, h⟩ := h
      refine a_if_ne (tgt := 27) hΓ g17 dX11_hidden_22 (by decide) (fun c18 => ?_) (fun c18 => ?_)
      · rw [if_pos c18] at h
        refine a_iconst hΓ dX11_hidden_25 ?_
        exact a_iret hΓ hr dX11_hidden_26 ⟨_, _, rfl, rfl, h⟩
      · rw [if_neg c18] at h
        refine a_aload_n hΓ 0 dX11_hidden_27 rfl rfl ?_
        refine n_getR hΓ fl_RX11_29 cl_11 kd_0 lz_0 dX11_hidden_28 ft_11_3 rf_0_3 ?_
        refine a_iload_n hΓ 1 dX11_hidden_31 rfl rfl ?_
        obtain ⟨P19, q20, h⟩ := h
        refine n_callV (c := 72) (av := [aI v1]) (st := []) hΓ (ct_wX6_load _ _ v1 M16 P19 q20) my_X6_load ml_RX11_139 ni_X6_load kd_72 rfl lz_72 rfl (Nat.le_trans (by decide) hh) (by decide) (Nat.le_of_ble_eq_true rfl) rfl dX11_hidden_32 (fun v Z' hq => ?_)
        obtain ⟨M22, rfl, rfl, hq⟩ := hq
        have h := h M22 hq
        dsimp only at h
        refine a_aload_n hΓ 0 dX11_hidden_35 rfl rfl ?_
        refine n_getR hΓ fl_RX11_68 cl_11 kd_0 lz_0 dX11_hidden_36 ft_11_8 rf_0_8 ?_
        refine a_aload_n hΓ 0 dX11_hidden_39 rfl rfl ?_
        refine n_getR hΓ fl_RX11_29 cl_11 kd_0 lz_0 dX11_hidden_40 ft_11_3 rf_0_3 ?_
        refine a_iload_n hΓ 2 dX11_hidden_43 rfl rfl ?_
        obtain ⟨P23, q24, h⟩ := h
        refine n_callV (c := 72) (av := [aI v2]) (st := [aR 90]) hΓ (ct_wX6_counting _ _ v2 M22 P23 q24) my_X6_counting ml_RX11_203 ni_X6_counting kd_72 rfl lz_72 rfl (Nat.le_trans (by decide) hh) (by decide) (Nat.le_of_ble_eq_true rfl) rfl dX11_hidden_44 (fun v Z' hq => ?_)
        obtain ⟨r25, M26, rfl, rfl, hq⟩ := hq
        have h := h r25 M26 hq
        dsimp only at h
        refine a_iload_n hΓ 3 dX11_hidden_47 rfl rfl ?_
        obtain ⟨P27, q28, h⟩ := h
        refine n_callV (c := 90) (av := [aI r25, aI v3]) (st := []) hΓ (ct_wX5_leastWithHidden _ _ r25 v3 M26 P27 q28) my_X5_leastWithHidden ml_RX11_282 ni_X5_leastWithHidden kd_90 rfl lz_90 rfl (Nat.le_trans (by decide) hh) (by decide) (Nat.le_of_ble_eq_true rfl) rfl dX11_hidden_48 (fun v Z' hq => ?_)
        obtain ⟨r29, M30, rfl, rfl, hq⟩ := hq
        have h := h r29 M30 hq
        dsimp only at h
        exact a_iret hΓ hr dX11_hidden_51 ⟨_, _, rfl, rfl, h⟩
theorem ct_wX11_hidden (l : Launch) (g : Gp) (v1 : Int) (v2 : Int) (v3 : Int) (M : Mm) (Q : Int → Mm → Prop) (h : wX11_hidden v1 v2 v3 M Q) : Ct l g yX11_hidden cX11_hidden 4 (some .int) 7 0 0 [aR 0, aI v1, aI v2, aI v3] (NC, RF, M) (QI Q) :=
  ct_of (by decide) (Nat.le_of_ble_eq_true rfl) (fun Γ hg hl hr _ hΓ => by subst hg; subst hl; exact s_wX11_hidden hΓ (by decide) hr v1 v2 v3 M h)
def wX11_hid (v1 : Int) (M : Mm) (Q : Int → Mm → Prop) : Prop :=
    Bd (wX11_within v1 0 ((M 90 12) - 1) M) (fun r3 M4 =>
    (inR r3) ∧
    (if r3 = 0 then
      Q (-1) M4
    else
      (0 ≤ v1 ∧ v1 < 2) ∧
      Q (M4 99 v1) M4))
set_option maxHeartbeats 4000000 in
theorem s_wX11_hid {Γ : Cx} {h : Nat} (hΓ : Ok Γ cX11_hid RX11 2 h 0 0) (hh : 2 ≤ h) (hr : (cxm Γ).sig.returnType = (some .int)) {Q : Int → Mm → Prop} (v1 : Int) (M : Mm) (h : wX11_hid v1 M Q) : Wa Γ 2 (Kf Γ (QI Q) 0 0) 0 0 0 [(0, aR 0), (1, aI v1)] [] (NC, RF, M) := by
  unfold wX11_hid at h
  refine a_iload_n hΓ 1 dX11_hid_0 rfl rfl ?_
  refine a_iconst hΓ dX11_hid_1 ?_
  refine a_aload_n hΓ 0 dX11_hid_2 rfl rfl ?_
  refine n_getR hΓ fl_RX11_68 cl_11 kd_0 lz_0 dX11_hid_3 ft_11_8 rf_0_8 ?_
  refine n_getI (x := (M 90 12)) hΓ fl_RX11_285 cl_5 kd_90 lz_90 dX11_hid_6 (Or.inl ft_5_12) rfl ?_
  refine a_iconst hΓ dX11_hid_9 ?_
  refine a_isub hΓ dX11_hid_10 ?_
  obtain ⟨P1, q2, h⟩ := h
  refine n_callS (av := [aI v1, aI 0, aI ((M 90 12) - 1)]) (st := []) hΓ (ct_wX11_within _ _ v1 0 ((M 90 12) - 1) M P1 q2) my_X11_within ml_RX11_79 rfl (Nat.le_trans (by decide) hh) (by decide) (Nat.le_of_ble_eq_true rfl) rfl dX11_hid_11 (fun v Z' hq => ?_)
  obtain ⟨r3, M4, rfl, rfl, hq⟩ := hq
  have h := h r3 M4 hq
  dsimp only at h
  obtain ⟨g5, h⟩ := h
  refine a_if_eq (tgt := 29) hΓ g5 dX11_hid_14 (by decide) (fun c6 => ?_) (fun c6 => ?_)
  · rw [if_pos c6] at h
    refine a_iconst hΓ dX11_hid_29 ?_
    exact a_iret hΓ hr dX11_hid_30 ⟨_, _, rfl, rfl, h⟩
  · rw [if_neg c6] at h
    refine a_aload_n hΓ 0 dX11_hid_17 rfl rfl ?_
    refine n_getR hΓ fl_RX11_68 cl_11 kd_0 lz_0 dX11_hid_18 ft_11_8 rf_0_8 ?_
    refine n_getR hΓ fl_RX11_288 cl_5 kd_90 lz_90 dX11_hid_21 ft_5_13 rf_90_13 ?_
    refine a_iload_n hΓ 1 dX11_hid_24 rfl rfl ?_
    obtain ⟨g7, h⟩ := h
    refine n_iald (x := (M4 99 v1)) hΓ dX11_hid_25 kd_99 lz_99 g7 rfl ?_
    refine a_goto (tgt := 30) hΓ dX11_hid_26 (by decide) ?_
    exact a_iret hΓ hr dX11_hid_30 ⟨_, _, rfl, rfl, h⟩
theorem ct_wX11_hid (l : Launch) (g : Gp) (v1 : Int) (M : Mm) (Q : Int → Mm → Prop) (h : wX11_hid v1 M Q) : Ct l g yX11_hid cX11_hid 2 (some .int) 2 0 0 [aR 0, aI v1] (NC, RF, M) (QI Q) :=
  ct_of (by decide) (Nat.le_of_ble_eq_true rfl) (fun Γ hg hl hr _ hΓ => by subst hg; subst hl; exact s_wX11_hid hΓ (by decide) hr v1 M h)
def wX7_append (v1 : Int) (M : Mm) (Q : Mm → Prop) : Prop :=
    (0 ≤ v1 ∧ v1 < 120) ∧
    Q (up (up M 101 v1 (shlI 1 (M 100 1))) 100 1 ((M 100 1) + 1))
set_option maxHeartbeats 4000000 in
theorem s_wX7_append {Γ : Cx} {h : Nat} (hΓ : Ok Γ cX7_append RX7 2 h 0 0) (hh : 1 ≤ h) (hr : (cxm Γ).sig.returnType = none) {Q : Mm → Prop} (v1 : Int) (M : Mm) (h : wX7_append v1 M Q) : Wa Γ 2 (Kf Γ (QV Q) 0 0) 0 0 0 [(0, aR 100), (1, aI v1)] [] (NC, RF, M) := by
  unfold wX7_append at h
  refine a_aload_n hΓ 0 dX7_append_0 rfl rfl ?_
  refine n_getR hΓ fl_RX7_9 cl_7 kd_100 lz_100 dX7_append_1 ft_7_2 rf_100_2 ?_
  refine a_iload_n hΓ 1 dX7_append_4 rfl rfl ?_
  refine a_iconst hΓ dX7_append_5 ?_
  refine a_aload_n hΓ 0 dX7_append_6 rfl rfl ?_
  refine n_getI (x := (M 100 1)) hΓ fl_RX7_19 cl_7 kd_100 lz_100 dX7_append_7 (Or.inl ft_7_1) rfl ?_
  refine a_ishl hΓ dX7_append_10 ?_
  obtain ⟨g1, h⟩ := h
  refine a_iast hΓ dX7_append_11 kd_101 lz_101 g1 ?_
  refine a_aload_n hΓ 0 dX7_append_12 rfl rfl ?_
  refine a_dupR hΓ dX7_append_13 ?_
  refine n_getI (x := (M 100 1)) hΓ fl_RX7_19 cl_7 kd_100 lz_100 dX7_append_14 (Or.inl ft_7_1) rfl ?_
  refine a_iconst hΓ dX7_append_17 ?_
  refine a_iadd hΓ dX7_append_18 ?_
  refine n_putI (j := 1) hΓ fl_RX7_19 cl_7 nf_7_1 kd_100 lz_100 dX7_append_19 (Or.inl ft_7_1) rfl ?_
  exact a_vret hΓ hr dX7_append_22 ⟨_, rfl, rfl, h⟩
theorem ct_wX7_append (l : Launch) (g : Gp) (v1 : Int) (M : Mm) (Q : Mm → Prop) (h : wX7_append v1 M Q) : Ct l g yX7_append cX7_append 2 none 1 0 0 [aR 100, aI v1] (NC, RF, M) (QV Q) :=
  ct_of (by decide) (Nat.le_of_ble_eq_true rfl) (fun Γ hg hl hr _ hΓ => by subst hg; subst hl; exact s_wX7_append hΓ (by decide) hr v1 M h)
