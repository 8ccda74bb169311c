/-! ===== printed by tools/gen.py ===== -/
def wX12_widest_44 (Q : Int → Mm → Prop) (v3 : Int) : Nat → Int → Int → Mm → Prop
  | 0, _, _, _ => False
  | f + 1, v5, v6, M => (inR v6) ∧
    (inR v3) ∧
    (if v6 ≤ v3 then
      (0 ≤ v6 ∧ v6 < 120) ∧
      (0 ≤ v5 ∧ v5 < 120) ∧
      (inR ((M 107 v6) - (M 106 v6))) ∧
      (inR ((M 107 v5) - (M 106 v5))) ∧
      (if ((M 107 v6) - (M 106 v6)) ≤ ((M 107 v5) - (M 106 v5)) then
        (wX12_widest_44 Q v3 f) v5 (v6 + 1) M
      else
        (wX12_widest_44 Q v3 f) v6 (v6 + 1) M)
    else
      Q v5 M)
set_option maxHeartbeats 4000000 in
theorem s_wX12_widest_44 {Γ : Cx} {h : Nat} (hΓ : Ok Γ cX12_widest RX12 7 h 0 0) (hh : 10 ≤ h) (hr : (cxm Γ).sig.returnType = (some .int)) {Q : Int → Mm → Prop} {v3 : Int}   : ∀ (f : Nat) (v5 : Int) (v6 : Int) (M : Mm), wX12_widest_44 Q v3 f v5 v6 M → Wa Γ 7 (Kf Γ (QI Q) 0 0) 0 0 44 [(0, aR 102), (3, aI v3), (5, aI v5), (6, aI v6)] [] (NC, RF, M) := by
  intro f
  induction f with
  | zero => intro v5 v6 M h; exact h.elim
  | succ f ih =>
    intro v5 v6 M h
    unfold wX12_widest_44 at h
    refine a_iload hΓ 3 dX12_widest_44 rfl ?_
    refine a_iload_n hΓ 1 dX12_widest_46 rfl rfl ?_
    obtain ⟨g1, h⟩ := h
    obtain ⟨g2, h⟩ := h
    refine a_icmp_gt (tgt := 93) hΓ g1 g2 dX12_widest_47 (by decide) (fun c3 => ?_) (fun c3 => ?_)
    · rw [if_pos c3] at h
      refine a_aload_n hΓ 0 dX12_widest_50 rfl rfl ?_
      refine n_getR hΓ fl_RX12_31 cl_12 kd_102 lz_102 dX12_widest_51 ft_12_5 rf_102_5 ?_
      refine a_iload hΓ 3 dX12_widest_54 rfl ?_
      obtain ⟨g4, h⟩ := h
      refine n_iald (x := (M 107 v6)) hΓ dX12_widest_56 kd_107 lz_107 g4 rfl ?_
      refine a_aload_n hΓ 0 dX12_widest_57 rfl rfl ?_
      refine n_getR hΓ fl_RX12_28 cl_12 kd_102 lz_102 dX12_widest_58 ft_12_4 rf_102_4 ?_
      refine a_iload hΓ 3 dX12_widest_61 rfl ?_
      refine n_iald (x := (M 106 v6)) hΓ dX12_widest_63 kd_106 lz_106 g4 rfl ?_
      refine a_isub hΓ dX12_widest_64 ?_
      refine a_aload_n hΓ 0 dX12_widest_65 rfl rfl ?_
      refine n_getR hΓ fl_RX12_31 cl_12 kd_102 lz_102 dX12_widest_66 ft_12_5 rf_102_5 ?_
      refine a_iload hΓ 2 dX12_widest_69 rfl ?_
      obtain ⟨g5, h⟩ := h
      refine n_iald (x := (M 107 v5)) hΓ dX12_widest_71 kd_107 lz_107 g5 rfl ?_
      refine a_aload_n hΓ 0 dX12_widest_72 rfl rfl ?_
      refine n_getR hΓ fl_RX12_28 cl_12 kd_102 lz_102 dX12_widest_73 ft_12_4 rf_102_4 ?_
      refine a_iload hΓ 2 dX12_widest_76 rfl ?_
      refine n_iald (x := (M 106 v5)) hΓ dX12_widest_78 kd_106 lz_106 g5 rfl ?_
      refine a_isub hΓ dX12_widest_79 ?_
      obtain ⟨g6, h⟩ := h
      obtain ⟨g7, h⟩ := h
      refine a_icmp_le (tgt := 87) hΓ g6 g7 dX12_widest_80 (by decide) (fun c8 => ?_) (fun c8 => ?_)
      · rw [if_pos c8] at h
        refine a_iinc (ls' := [(6, aI (v6 + 1)), (0, aR 102), (3, aI v3), (5, aI v5)]) hΓ 3 dX12_widest_87 rfl (by decide) rfl ?_
        refine a_goto (tgt := 44) hΓ dX12_widest_90 (by decide) ?_
        refine a_sub (ls' := [(0, aR 102), (3, aI v3), (5, aI v5), (6, aI (v6 + 1))]) [1, 2, 3, 0] rfl ?_
        exact ih v5 (v6 + 1) M h
      · rw [if_neg c8] at h
        refine a_iload hΓ 3 dX12_widest_83 rfl ?_
        refine a_istore (ls' := [(5, aI v6), (0, aR 102), (3, aI v3), (6, aI v6)]) hΓ dX12_widest_85 (by decide) rfl ?_
        refine a_iinc (ls' := [(6, aI (v6 + 1)), (5, aI v6), (0, aR 102), (3, aI v3)]) hΓ 3 dX12_widest_87 rfl (by decide) rfl ?_
        refine a_goto (tgt := 44) hΓ dX12_widest_90 (by decide) ?_
        refine a_sub (ls' := [(0, aR 102), (3, aI v3), (5, aI v6), (6, aI (v6 + 1))]) [2, 3, 1, 0] rfl ?_
        exact ih v6 (v6 + 1) M h
    · rw [if_neg c3] at h
      refine a_iload hΓ 2 dX12_widest_93 rfl ?_
      exact a_iret hΓ hr dX12_widest_95 ⟨_, _, rfl, rfl, h⟩
def wX12_widest (v1 : Int) (v2 : Int) (v3 : Int) (v4 : Int) (M : Mm) (Q : Int → Mm → Prop) : Prop :=
    Bd (wX12_isAsked v1 v2 v4 M) (fun r3 M4 =>
    (inR r3) ∧
    (if r3 = 0 then
      Q (-1) M4
    else
      Bd (wX12_in v3 v2 119 M4) (fun r9 M10 =>
      (inR r9) ∧
      (if r9 = 0 then
        Q (-1) M10
      else
        Bd (wX12_counting v1 v4 M10) (fun r15 M16 =>
        Bd (wX12_spans v1 r15 M16) (fun r19 M20 =>
        (inR r19) ∧
        (if r19 = 0 then
          Q (-1) M20
        else
          ∃ n, wX12_widest_44 Q v3 n v2 v2 M20)))))))
set_option maxHeartbeats 4000000 in
theorem s_wX12_widest {Γ : Cx} {h : Nat} (hΓ : Ok Γ cX12_widest RX12 7 h 0 0) (hh : 10 ≤ h) (hr : (cxm Γ).sig.returnType = (some .int)) {Q : Int → Mm → Prop} (v1 : Int) (v2 : Int) (v3 : Int) (v4 : Int) (M : Mm) (h : wX12_widest v1 v2 v3 v4 M Q) : Wa Γ 7 (Kf Γ (QI Q) 0 0) 0 0 0 [(0, aR 102), (1, aI v1), (2, aI v2), (3, aI v3), (4, aI v4)] [] (NC, RF, M) := by
  unfold wX12_widest at h
  refine a_aload_n hΓ 0 dX12_widest_0 rfl rfl ?_
  refine a_iload_n hΓ 1 dX12_widest_1 rfl rfl ?_
  refine a_iload_n hΓ 2 dX12_widest_2 rfl rfl ?_
  refine a_iload hΓ 4 dX12_widest_3 rfl ?_
  obtain ⟨P1, q2, h⟩ := h
  refine n_callV (c := 102) (av := [aI v1, aI v2, aI v4]) (st := []) hΓ (ct_wX12_isAsked _ _ v1 v2 v4 M P1 q2) my_X12_isAsked ml_RX12_174 ni_X12_isAsked kd_102 rfl lz_102 rfl (Nat.le_trans (by decide) hh) (by decide) (Nat.le_of_ble_eq_true rfl) rfl dX12_widest_5 (fun v Z' hq => ?_)
  obtain ⟨r3, M4, rfl, rfl, hq⟩ := hq
  have h := h r3 M4 hq
  dsimp only at h
  obtain ⟨g5, h⟩ := h
  refine a_if_eq (tgt := 36) hΓ g5 dX12_widest_8 (by decide) (fun c6 => ?_) (fun c6 => ?_)
  · rw [if_pos c6] at h
    refine a_iconst hΓ dX12_widest_36 ?_
    exact a_iret hΓ hr dX12_widest_37 ⟨_, _, rfl, rfl, h⟩
  · rw [if_neg c6] at h
    refine a_iload_n hΓ 3 dX12_widest_11 rfl rfl ?_
    refine a_iload_n hΓ 2 dX12_widest_12 rfl rfl ?_
    refine a_bipush hΓ dX12_widest_13 (by decide) ?_
    obtain ⟨P7, q8, h⟩ := h
    refine n_callS (av := [aI v3, aI v2, aI 119]) (st := []) hΓ (ct_wX12_in _ _ v3 v2 119 M4 P7 q8) my_X12_in ml_RX12_3 rfl (Nat.le_trans (by decide) hh) (by decide) (Nat.le_of_ble_eq_true rfl) rfl dX12_widest_15 (fun v Z' hq => ?_)
    obtain ⟨r9, M10, rfl, rfl, hq⟩ := hq
    have h := h r9 M10 hq
    dsimp only at h
    obtain ⟨g11, h⟩ := h
    refine a_if_eq (tgt := 36) hΓ g11 dX12_widest_18 (by decide) (fun c12 => ?_) (fun c12 => ?_)
    · rw [if_pos c12] at h
      refine a_iconst hΓ dX12_widest_36 ?_
      exact a_iret hΓ hr dX12_widest_37 ⟨_, _, rfl, rfl, h⟩
    · rw [if_neg c12] at h
      refine a_aload_n hΓ 0 dX12_widest_21 rfl rfl ?_
      refine a_iload_n hΓ 1 dX12_widest_22 rfl rfl ?_
      refine a_aload_n hΓ 0 dX12_widest_23 rfl rfl ?_
      refine a_iload_n hΓ 1 dX12_widest_24 rfl rfl ?_
      refine a_iload hΓ 4 dX12_widest_25 rfl ?_
      obtain ⟨P13, q14, h⟩ := h
      refine n_callV (c := 102) (av := [aI v1, aI v4]) (st := [aI v1, aR 102]) hΓ (ct_wX12_counting _ _ v1 v4 M10 P13 q14) my_X12_counting ml_RX12_177 ni_X12_counting kd_102 rfl lz_102 rfl (Nat.le_trans (by decide) hh) (by decide) (Nat.le_of_ble_eq_true rfl) rfl dX12_widest_27 (fun v Z' hq => ?_)
      obtain ⟨r15, M16, rfl, rfl, hq⟩ := hq
      have h := h r15 M16 hq
      dsimp only at h
      obtain ⟨P17, q18, h⟩ := h
      refine n_callV (c := 102) (av := [aI v1, aI r15]) (st := []) hΓ (ct_wX12_spans _ _ v1 r15 M16 P17 q18) my_X12_spans ml_RX12_180 ni_X12_spans kd_102 rfl lz_102 rfl (Nat.le_trans (by decide) hh) (by decide) (Nat.le_of_ble_eq_true rfl) rfl dX12_widest_30 (fun v Z' hq => ?_)
      obtain ⟨r19, M20, rfl, rfl, hq⟩ := hq
      have h := h r19 M20 hq
      dsimp only at h
      obtain ⟨g21, h⟩ := h
      refine a_if_ne (tgt := 38) hΓ g21 dX12_widest_33 (by decide) (fun c22 => ?_) (fun c22 => ?_)
      · rw [if_pos c22] at h
        refine a_iconst hΓ dX12_widest_36 ?_
        exact a_iret hΓ hr dX12_widest_37 ⟨_, _, rfl, rfl, h⟩
      · rw [if_neg c22] at h
        refine a_iload_n hΓ 2 dX12_widest_38 rfl rfl ?_
        refine a_istore (ls' := [(5, aI v2), (0, aR 102), (1, aI v1), (2, aI v2), (3, aI v3), (4, aI v4)]) hΓ dX12_widest_39 (by decide) rfl ?_
        refine a_iload_n hΓ 3 dX12_widest_41 rfl rfl ?_
        refine a_istore (ls' := [(6, aI v2), (5, aI v2), (0, aR 102), (1, aI v1), (2, aI v2), (3, aI v3), (4, aI v4)]) hΓ dX12_widest_42 (by decide) rfl ?_
        refine a_sub (ls' := [(0, aR 102), (3, aI v3), (5, aI v2), (6, aI v2)]) [2, 5, 1, 0] rfl ?_
        obtain ⟨f23, h⟩ := h
        exact s_wX12_widest_44 hΓ (Nat.le_trans (by decide) hh) hr  f23 v2 v2 M20 h
theorem ct_wX12_widest (l : Launch) (g : Gp) (v1 : Int) (v2 : Int) (v3 : Int) (v4 : Int) (M : Mm) (Q : Int → Mm → Prop) (h : wX12_widest v1 v2 v3 v4 M Q) : Ct l g yX12_widest cX12_widest 7 (some .int) 10 0 0 [aR 102, aI v1, aI v2, aI v3, aI v4] (NC, RF, M) (QI Q) :=
  ct_of (by decide) (Nat.le_of_ble_eq_true rfl) (fun Γ hg hl hr _ hΓ => by subst hg; subst hl; exact s_wX12_widest hΓ (by decide) hr v1 v2 v3 v4 M h)
def wX12_quarrel0 (v1 : Int) (v2 : Int) (M : Mm) (Q : Int → Mm → Prop) : Prop :=
    Bd (wX12_logAt v1 0 M) (fun r3 M4 =>
    Bd (wX12_logAt v2 0 M4) (fun r7 M8 =>
    (inR r3) ∧
    (inR r7) ∧
    (if r3 = r7 then
      Bd (wX12_logAt v1 0 M8) (fun r14 M15 =>
      Bd (wX12_spans r14 (lorI (shlI 1 v1) (shlI 1 v2)) M15) (fun r18 M19 =>
      (inR r18) ∧
      (if r18 = 0 then
        Q 1 M19
      else
        Q 0 M19)))
    else
      Q 0 M8)))
set_option maxHeartbeats 4000000 in
theorem s_wX12_quarrel0 {Γ : Cx} {h : Nat} (hΓ : Ok Γ cX12_quarrel0 RX12 3 h 0 0) (hh : 10 ≤ h) (hr : (cxm Γ).sig.returnType = (some .boolean)) {Q : Int → Mm → Prop} (v1 : Int) (v2 : Int) (M : Mm) (h : wX12_quarrel0 v1 v2 M Q) : Wa Γ 3 (Kf Γ (QI Q) 0 0) 0 0 0 [(0, aR 102), (1, aI v1), (2, aI v2)] [] (NC, RF, M) := by
  unfold wX12_quarrel0 at h
  refine a_aload_n hΓ 0 dX12_quarrel0_0 rfl rfl ?_
  refine a_iload_n hΓ 1 dX12_quarrel0_1 rfl rfl ?_
  refine a_iconst hΓ dX12_quarrel0_2 ?_
  obtain ⟨P1, q2, h⟩ := h
  refine n_callV (c := 102) (av := [aI v1, aI 0]) (st := []) hΓ (ct_wX12_logAt _ _ v1 0 M P1 q2) my_X12_logAt ml_RX12_151 ni_X12_logAt kd_102 rfl lz_102 rfl (Nat.le_trans (by decide) hh) (by decide) (Nat.le_of_ble_eq_true rfl) rfl dX12_quarrel0_3 (fun v Z' hq => ?_)
  obtain ⟨r3, M4, rfl, rfl, hq⟩ := hq
  have h := h r3 M4 hq
  dsimp only at h
  refine a_aload_n hΓ 0 dX12_quarrel0_6 rfl rfl ?_
  refine a_iload_n hΓ 2 dX12_quarrel0_7 rfl rfl ?_
  refine a_iconst hΓ dX12_quarrel0_8 ?_
  obtain ⟨P5, q6, h⟩ := h
  refine n_callV (c := 102) (av := [aI v2, aI 0]) (st := [aI r3]) hΓ (ct_wX12_logAt _ _ v2 0 M4 P5 q6) my_X12_logAt ml_RX12_151 ni_X12_logAt kd_102 rfl lz_102 rfl (Nat.le_trans (by decide) hh) (by decide) (Nat.le_of_ble_eq_true rfl) rfl dX12_quarrel0_9 (fun v Z' hq => ?_)
  obtain ⟨r7, M8, rfl, rfl, hq⟩ := hq
  have h := h r7 M8 hq
  dsimp only at h
  obtain ⟨g9, h⟩ := h
  obtain ⟨g10, h⟩ := h
  refine a_icmp_ne (tgt := 39) hΓ g9 g10 dX12_quarrel0_12 (by decide) (fun c11 => ?_) (fun c11 => ?_)
  · rw [if_pos c11] at h
    refine a_aload_n hΓ 0 dX12_quarrel0_15 rfl rfl ?_
    refine a_aload_n hΓ 0 dX12_quarrel0_16 rfl rfl ?_
    refine a_iload_n hΓ 1 dX12_quarrel0_17 rfl rfl ?_
    refine a_iconst hΓ dX12_quarrel0_18 ?_
    obtain ⟨P12, q13, h⟩ := h
    refine n_callV (c := 102) (av := [aI v1, aI 0]) (st := [aR 102]) hΓ (ct_wX12_logAt _ _ v1 0 M8 P12 q13) my_X12_logAt ml_RX12_151 ni_X12_logAt kd_102 rfl lz_102 rfl (Nat.le_trans (by decide) hh) (by decide) (Nat.le_of_ble_eq_true rfl) rfl dX12_quarrel0_19 (fun v Z' hq => ?_)
    obtain ⟨r14, M15, rfl, rfl, hq⟩ := hq
    have h := h r14 M15 hq
    dsimp only at h
    refine a_iconst hΓ dX12_quarrel0_22 ?_
    refine a_iload_n hΓ 1 dX12_quarrel0_23 rfl rfl ?_
    refine a_ishl hΓ dX12_quarrel0_24 ?_
    refine a_iconst hΓ dX12_quarrel0_25 ?_
    refine a_iload_n hΓ 2 dX12_quarrel0_26 rfl rfl ?_
    refine a_ishl hΓ dX12_quarrel0_27 ?_
    refine a_ior hΓ dX12_quarrel0_28 ?_
    obtain ⟨P16, q17, h⟩ := h
    refine n_callV (c := 102) (av := [aI r14, aI (lorI (shlI 1 v1) (shlI 1 v2))]) (st := []) hΓ (ct_wX12_spans _ _ r14 (lorI (shlI 1 v1) (shlI 1 v2)) M15 P16 q17) my_X12_spans ml_RX12_180 ni_X12_spans kd_102 rfl lz_102 rfl (Nat.le_trans (by decide) hh) (by decide) (Nat.le_of_ble_eq_true rfl) rfl dX12_quarrel0_29 (fun v Z' hq => ?_)
    obtain ⟨r18, M19, rfl, rfl, hq⟩ := hq
    have h := h r18 M19 hq
    dsimp only at h
    obtain ⟨g20, h⟩ := h
    refine a_if_ne (tgt := 39) hΓ g20 dX12_quarrel0_32 (by decide) (fun c21 => ?_) (fun c21 => ?_)
    · rw [if_pos c21] at h
      refine a_iconst hΓ dX12_quarrel0_35 ?_
      refine a_goto (tgt := 40) hΓ dX12_quarrel0_36 (by decide) ?_
      exact a_zret hΓ hr (Or.inr rfl) dX12_quarrel0_40 ⟨_, _, rfl, rfl, h⟩
    · rw [if_neg c21] at h
      refine a_iconst hΓ dX12_quarrel0_39 ?_
      exact a_zret hΓ hr (Or.inl rfl) dX12_quarrel0_40 ⟨_, _, rfl, rfl, h⟩
  · rw [if_neg c11] at h
    refine a_iconst hΓ dX12_quarrel0_39 ?_
    exact a_zret hΓ hr (Or.inl rfl) dX12_quarrel0_40 ⟨_, _, rfl, rfl, h⟩
theorem ct_wX12_quarrel0 (l : Launch) (g : Gp) (v1 : Int) (v2 : Int) (M : Mm) (Q : Int → Mm → Prop) (h : wX12_quarrel0 v1 v2 M Q) : Ct l g yX12_quarrel0 cX12_quarrel0 3 (some .boolean) 10 0 0 [aR 102, aI v1, aI v2] (NC, RF, M) (QI Q) :=
  ct_of (by decide) (Nat.le_of_ble_eq_true rfl) (fun Γ hg hl hr _ hΓ => by subst hg; subst hl; exact s_wX12_quarrel0 hΓ (by decide) hr v1 v2 M h)
def wX12_quarrel (v1 : Int) (v2 : Int) (M : Mm) (Q : Int → Mm → Prop) : Prop :=
    Bd (wX12_isLog v1 M) (fun r3 M4 =>
    (inR r3) ∧
    (if r3 = 0 then
      Q (-1) M4
    else
      Bd (wX12_isLog v2 M4) (fun r9 M10 =>
      (inR r9) ∧
      (if r9 = 0 then
        Q (-1) M10
      else
        Bd (wX12_readAs v1 0 M10) (fun r15 M16 =>
        (inR r15) ∧
        (if r15 = (-1) then
          Q (-1) M16
        else
          Bd (wX12_readAs v2 0 M16) (fun r21 M22 =>
          (inR r21) ∧
          (if r21 = (-1) then
            Q (-1) M22
          else
            Bd (wX12_quarrel0 v1 v2 M22) (fun r27 M28 =>
            (inR r27) ∧
            (if r27 = 0 then
              Q 0 M28
            else
              Q 1 M28))))))))))
set_option maxHeartbeats 4000000 in
theorem s_wX12_quarrel {Γ : Cx} {h : Nat} (hΓ : Ok Γ cX12_quarrel RX12 3 h 0 0) (hh : 11 ≤ h) (hr : (cxm Γ).sig.returnType = (some .int)) {Q : Int → Mm → Prop} (v1 : Int) (v2 : Int) (M : Mm) (h : wX12_quarrel v1 v2 M Q) : Wa Γ 3 (Kf Γ (QI Q) 0 0) 0 0 0 [(0, aR 102), (1, aI v1), (2, aI v2)] [] (NC, RF, M) := by
  unfold wX12_quarrel at h
  refine a_aload_n hΓ 0 dX12_quarrel_0 rfl rfl ?_
  refine a_iload_n hΓ 1 dX12_quarrel_1 rfl rfl ?_
  obtain ⟨P1, q2, h⟩ := h
  refine n_callV (c := 102) (av := [aI v1]) (st := []) hΓ (ct_wX12_isLog _ _ v1 M P1 q2) my_X12_isLog ml_RX12_154 ni_X12_isLog kd_102 rfl lz_102 rfl (Nat.le_trans (by decide) hh) (by decide) (Nat.le_of_ble_eq_true rfl) rfl dX12_quarrel_2 (fun v Z' hq => ?_)
  obtain ⟨r3, M4, rfl, rfl, hq⟩ := hq
  have h := h r3 M4 hq
  dsimp only at h
  obtain ⟨g5, h⟩ := h
  refine a_if_eq (tgt := 36) hΓ g5 dX12_quarrel_5 (by decide) (fun c6 => ?_) (fun c6 => ?_)
  · rw [if_pos c6] at h
    refine a_iconst hΓ dX12_quarrel_36 ?_
    exact a_iret hΓ hr dX12_quarrel_37 ⟨_, _, rfl, rfl, h⟩
  · rw [if_neg c6] at h
    refine a_aload_n hΓ 0 dX12_quarrel_8 rfl rfl ?_
    refine a_iload_n hΓ 2 dX12_quarrel_9 rfl rfl ?_
    obtain ⟨P7, q8, h⟩ := h
    refine n_callV (c := 102) (av := [aI v2]) (st := []) hΓ (ct_wX12_isLog _ _ v2 M4 P7 q8) my_X12_isLog ml_RX12_154 ni_X12_isLog kd_102 rfl lz_102 rfl (Nat.le_trans (by decide) hh) (by decide) (Nat.le_of_ble_eq_true rfl) rfl dX12_quarrel_10 (fun v Z' hq => ?_)
    obtain ⟨r9, M10, rfl, rfl, hq⟩ := hq
    have h := h r9 M10 hq
    dsimp only at h
    obtain ⟨g11, h⟩ := h
    refine a_if_eq (tgt := 36) hΓ g11 dX12_quarrel_13 (by decide) (fun c12 => ?_) (fun c12 => ?_)
    · rw [if_pos c12] at h
      refine a_iconst hΓ dX12_quarrel_36 ?_
      exact a_iret hΓ hr dX12_quarrel_37 ⟨_, _, rfl, rfl, h⟩
    · rw [if_neg c12] at h
      refine a_aload_n hΓ 0 dX12_quarrel_16 rfl rfl ?_
      refine a_iload_n hΓ 1 dX12_quarrel_17 rfl rfl ?_
      refine a_iconst hΓ dX12_quarrel_18 ?_
      obtain ⟨P13, q14, h⟩ := h
      refine n_callV (c := 102) (av := [aI v1, aI 0]) (st := []) hΓ (ct_wX12_readAs _ _ v1 0 M10 P13 q14) my_X12_readAs ml_RX12_157 ni_X12_readAs kd_102 rfl lz_102 rfl (Nat.le_trans (by decide) hh) (by decide) (Nat.le_of_ble_eq_true rfl) rfl dX12_quarrel_19 (fun v Z' hq => ?_)
      obtain ⟨r15, M16, rfl, rfl, hq⟩ := hq
      have h := h r15 M16 hq
      dsimp only at h
      refine a_iconst hΓ dX12_quarrel_22 ?_
      obtain ⟨g17, h⟩ := h
      refine a_icmp_eq (tgt := 36) hΓ g17 (inRl (by decide)) dX12_quarrel_23 (by decide) (fun c18 => ?_) (fun c18 => ?_)
      · rw [if_pos c18] at h
        refine a_iconst hΓ dX12_quarrel_36 ?_
        exact a_iret hΓ hr dX12_quarrel_37 ⟨_, _, rfl, rfl, h⟩
      · rw [if_neg c18] at h
        refine a_aload_n hΓ 0 dX12_quarrel_26 rfl rfl ?_
        refine a_iload_n hΓ 2 dX12_quarrel_27 rfl rfl ?_
        refine a_iconst hΓ dX12_quarrel_28 ?_
        obtain ⟨P19, q20, h⟩ := h
        refine n_callV (c := 102) (av := [aI v2, aI 0]) (st := []) hΓ (ct_wX12_readAs _ _ v2 0 M16 P19 q20) my_X12_readAs ml_RX12_157 ni_X12_readAs kd_102 rfl lz_102 rfl (Nat.le_trans (by decide) hh) (by decide) (Nat.le_of_ble_eq_true rfl) rfl dX12_quarrel_29 (fun v Z' hq => ?_)
        obtain ⟨r21, M22, rfl, rfl, hq⟩ := hq
        have h := h r21 M22 hq
        dsimp only at h
        refine a_iconst hΓ dX12_quarrel_32 ?_
        obtain ⟨g23, h⟩ := h
        refine a_icmp_ne (tgt := 38) hΓ g23 (inRl (by decide)) dX12_quarrel_33 (by decide) (fun c24 => ?_) (fun c24 => ?_)
        · rw [if_pos c24] at h
          refine a_iconst hΓ dX12_quarrel_36 ?_
          exact a_iret hΓ hr dX12_quarrel_37 ⟨_, _, rfl, rfl, h⟩
        · rw [if_neg c24] at h
          refine a_aload_n hΓ 0 dX12_quarrel_38 rfl rfl ?_
          refine a_iload_n hΓ 1 dX12_quarrel_39 rfl rfl ?_
          refine a_iload_n hΓ 2 dX12_quarrel_40 rfl rfl ?_
          obtain ⟨P25, q26, h⟩ := h
          refine n_callV (c := 102) (av := [aI v1, aI v2]) (st := []) hΓ (ct_wX12_quarrel0 _ _ v1 v2 M22 P25 q26) my_X12_quarrel0 ml_RX12_192 ni_X12_quarrel0 kd_102 rfl lz_102 rfl (Nat.le_trans (by decide) hh) (by decide) (Nat.le_of_ble_eq_true rfl) rfl dX12_quarrel_41 (fun v Z' hq => ?_)
          obtain ⟨r27, M28, rfl, rfl, hq⟩ := hq
          have h := h r27 M28 hq
          dsimp only at h
          obtain ⟨g29, h⟩ := h
          refine a_if_eq (tgt := 51) hΓ g29 dX12_quarrel_44 (by decide) (fun c30 => ?_) (fun c30 => ?_)
          · rw [if_pos c30] at h
            refine a_iconst hΓ dX12_quarrel_51 ?_
            exact a_iret hΓ hr dX12_quarrel_52 ⟨_, _, rfl, rfl, h⟩
          · rw [if_neg c30] at h
            refine a_iconst hΓ dX12_quarrel_47 ?_
            refine a_goto (tgt := 52) hΓ dX12_quarrel_48 (by decide) ?_
            exact a_iret hΓ hr dX12_quarrel_52 ⟨_, _, rfl, rfl, h⟩
theorem ct_wX12_quarrel (l : Launch) (g : Gp) (v1 : Int) (v2 : Int) (M : Mm) (Q : Int → Mm → Prop) (h : wX12_quarrel v1 v2 M Q) : Ct l g yX12_quarrel cX12_quarrel 3 (some .int) 11 0 0 [aR 102, aI v1, aI v2] (NC, RF, M) (QI Q) :=
  ct_of (by decide) (Nat.le_of_ble_eq_true rfl) (fun Γ hg hl hr _ hΓ => by subst hg; subst hl; exact s_wX12_quarrel hΓ (by decide) hr v1 v2 M h)
def wX12_quarrels_114 (Q : Int → Mm → Prop) (v3 : Int) (v5 : Int) (M : Mm) : Prop :=
    (inR v3) ∧
    (if v3 = (-1) then
      Q v5 M
    else
      Q (-1) M)
set_option maxHeartbeats 4000000 in
theorem s_wX12_quarrels_114 {Γ : Cx} {h : Nat} (hΓ : Ok Γ cX12_quarrels RX12 8 h 0 0) (hh : 11 ≤ h) (hr : (cxm Γ).sig.returnType = (some .int)) {Q : Int → Mm → Prop} {v3 v5 : Int}   (M : Mm) (h : wX12_quarrels_114 Q v3 v5 M) : Wa Γ 8 (Kf Γ (QI Q) 0 0) 0 0 114 [(3, aI v3), (5, aI v5)] [] (NC, RF, M) := by
  unfold wX12_quarrels_114 at h
  refine a_iload_n hΓ 0 dX12_quarrels_114 rfl rfl ?_
  refine a_iconst hΓ dX12_quarrels_115 ?_
  obtain ⟨g1, h⟩ := h
  refine a_icmp_ne (tgt := 124) hΓ g1 (inRl (by decide)) dX12_quarrels_116 (by decide) (fun c2 => ?_) (fun c2 => ?_)
  · rw [if_pos c2] at h
    refine a_iload hΓ 1 dX12_quarrels_119 rfl ?_
    refine a_goto (tgt := 125) hΓ dX12_quarrels_121 (by decide) ?_
    exact a_iret hΓ hr dX12_quarrels_125 ⟨_, _, rfl, rfl, h⟩
  · rw [if_neg c2] at h
    refine a_iconst hΓ dX12_quarrels_124 ?_
    exact a_iret hΓ hr dX12_quarrels_125 ⟨_, _, rfl, rfl, h⟩
def wX12_quarrels_90 (Q : Int → Mm → Prop) (v6 : Int) (v7 : Int) (M : Mm) : Prop :=
    Q ((24 * v6) + v7) M
set_option maxHeartbeats 4000000 in
theorem s_wX12_quarrels_90 {Γ : Cx} {h : Nat} (hΓ : Ok Γ cX12_quarrels RX12 8 h 0 0) (hh : 11 ≤ h) (hr : (cxm Γ).sig.returnType = (some .int)) {Q : Int → Mm → Prop} {v6 v7 : Int}   (M : Mm) (h : wX12_quarrels_90 Q v6 v7 M) : Wa Γ 8 (Kf Γ (QI Q) 0 0) 0 0 90 [(6, aI v6), (7, aI v7)] [] (NC, RF, M) := by
  unfold wX12_quarrels_90 at h
  refine a_bipush hΓ dX12_quarrels_90 (by decide) ?_
  refine a_iload hΓ 0 dX12_quarrels_92 rfl ?_
  refine a_imul hΓ dX12_quarrels_94 ?_
  refine a_iload hΓ 1 dX12_quarrels_95 rfl ?_
  refine a_iadd hΓ dX12_quarrels_97 ?_
  exact a_iret hΓ hr dX12_quarrels_98 ⟨_, _, rfl, rfl, h⟩
def wX12_quarrels_47 (Q : Int → Mm → Prop) (k36 : Int → Int → Mm → Prop) (v3 : Int) (v4 : Int) (v6 : Int) : Nat → Int → Int → Mm → Prop
  | 0, _, _, _ => False
  | f + 1, v5, v7, M => (inR v7) ∧
    (if v7 < 24 then
      (if (landI (landI (shrI v4 v6) (shrI v4 v7)) 1) = 0 then
        (wX12_quarrels_47 Q k36 v3 v4 v6 f) v5 (v7 + 1) M
      else
        Bd (wX12_quarrel0 v6 v7 M) (fun r6 M7 =>
        (inR r6) ∧
        (if r6 = 0 then
          (wX12_quarrels_47 Q k36 v3 v4 v6 f) v5 (v7 + 1) M7
        else
          (inR v5) ∧
          (inR v3) ∧
          (if v5 = v3 then
            wX12_quarrels_90 Q v6 v7 M7
          else
            (wX12_quarrels_47 Q k36 v3 v4 v6 f) (v5 + 1) (v7 + 1) M7))))
    else
      k36 v5 (v6 + 1) M)
set_option maxHeartbeats 4000000 in
theorem s_wX12_quarrels_47 {Γ : Cx} {h : Nat} (hΓ : Ok Γ cX12_quarrels RX12 8 h 0 0) (hh : 11 ≤ h) (hr : (cxm Γ).sig.returnType = (some .int)) {Q : Int → Mm → Prop} {v3 v4 v6 : Int}  {k36 : Int → Int → Mm → Prop} (hk36 : ∀ (v5 : Int) (v6 : Int) (M : Mm), k36 v5 v6 M → Wa Γ 8 (Kf Γ (QI Q) 0 0) 0 0 36 [(0, aR 102), (3, aI v3), (4, aI v4), (5, aI v5), (6, aI v6)] [] (NC, RF, M)) : ∀ (f : Nat) (v5 : Int) (v7 : Int) (M : Mm), wX12_quarrels_47 Q k36 v3 v4 v6 f v5 v7 M → Wa Γ 8 (Kf Γ (QI Q) 0 0) 0 0 47 [(0, aR 102), (3, aI v3), (4, aI v4), (5, aI v5), (6, aI v6), (7, aI v7)] [] (NC, RF, M) := by
  intro f
  induction f with
  | zero => intro v5 v7 M h; exact h.elim
  | succ f ih =>
    intro v5 v7 M h
    unfold wX12_quarrels_47 at h
    refine a_iload hΓ 5 dX12_quarrels_47 rfl ?_
    refine a_bipush hΓ dX12_quarrels_49 (by decide) ?_
    obtain ⟨g1, h⟩ := h
    refine a_icmp_ge (tgt := 108) hΓ g1 (inRl (by decide)) dX12_quarrels_51 (by decide) (fun c2 => ?_) (fun c2 => ?_)
    · rw [if_pos c2] at h
      refine a_iload hΓ 2 dX12_quarrels_54 rfl ?_
      refine a_iload hΓ 4 dX12_quarrels_56 rfl ?_
      refine a_ishr hΓ dX12_quarrels_58 ?_
      refine a_iload hΓ 2 dX12_quarrels_59 rfl ?_
      refine a_iload hΓ 5 dX12_quarrels_61 rfl ?_
      refine a_ishr hΓ dX12_quarrels_63 ?_
      refine a_iand hΓ dX12_quarrels_64 ?_
      refine a_iconst hΓ dX12_quarrels_65 ?_
      refine a_iand hΓ dX12_quarrels_66 ?_
      refine a_if_eq (tgt := 102) hΓ (inR_land _ _) dX12_quarrels_67 (by decide) (fun c3 => ?_) (fun c3 => ?_)
      · rw [if_pos c3] at h
        refine a_iinc (ls' := [(7, aI (v7 + 1)), (0, aR 102), (3, aI v3), (4, aI v4), (5, aI v5), (6, aI v6)]) hΓ 5 dX12_quarrels_102 rfl (by decide) rfl ?_
        refine a_goto (tgt := 47) hΓ dX12_quarrels_105 (by decide) ?_
        refine a_sub (ls' := [(0, aR 102), (3, aI v3), (4, aI v4), (5, aI v5), (6, aI v6), (7, aI (v7 + 1))]) [1, 2, 3, 4, 5, 0] rfl ?_
        exact ih v5 (v7 + 1) M h
      · rw [if_neg c3] at h
        refine a_aload_n hΓ 0 dX12_quarrels_70 rfl rfl ?_
        refine a_iload hΓ 4 dX12_quarrels_71 rfl ?_
        refine a_iload hΓ 5 dX12_quarrels_73 rfl ?_
        obtain ⟨P4, q5, h⟩ := h
        refine n_callV (c := 102) (av := [aI v6, aI v7]) (st := []) hΓ (ct_wX12_quarrel0 _ _ v6 v7 M P4 q5) my_X12_quarrel0 ml_RX12_192 ni_X12_quarrel0 kd_102 rfl lz_102 rfl (Nat.le_trans (by decide) hh) (by decide) (Nat.le_of_ble_eq_true rfl) rfl dX12_quarrels_75 (fun v Z' hq => ?_)
        obtain ⟨r6, M7, rfl, rfl, hq⟩ := hq
        have h := h r6 M7 hq
        dsimp only at h
        obtain ⟨g8, h⟩ := h
        refine a_if_ne (tgt := 84) hΓ g8 dX12_quarrels_78 (by decide) (fun c9 => ?_) (fun c9 => ?_)
        · rw [if_pos c9] at h
          refine a_goto (tgt := 102) hΓ dX12_quarrels_81 (by decide) ?_
          refine a_iinc (ls' := [(7, aI (v7 + 1)), (0, aR 102), (3, aI v3), (4, aI v4), (5, aI v5), (6, aI v6)]) hΓ 5 dX12_quarrels_102 rfl (by decide) rfl ?_
          refine a_goto (tgt := 47) hΓ dX12_quarrels_105 (by decide) ?_
          refine a_sub (ls' := [(0, aR 102), (3, aI v3), (4, aI v4), (5, aI v5), (6, aI v6), (7, aI (v7 + 1))]) [1, 2, 3, 4, 5, 0] rfl ?_
          exact ih v5 (v7 + 1) M7 h
        · rw [if_neg c9] at h
          refine a_iload hΓ 3 dX12_quarrels_84 rfl ?_
          refine a_iload_n hΓ 1 dX12_quarrels_86 rfl rfl ?_
          obtain ⟨g10, h⟩ := h
          obtain ⟨g11, h⟩ := h
          refine a_icmp_ne (tgt := 99) hΓ g10 g11 dX12_quarrels_87 (by decide) (fun c12 => ?_) (fun c12 => ?_)
          · rw [if_pos c12] at h
            refine a_sub (ls' := [(6, aI v6), (7, aI v7)]) [4, 5] rfl ?_
            exact s_wX12_quarrels_90 hΓ (Nat.le_trans (by decide) hh) hr  M7 h
          · rw [if_neg c12] at h
            refine a_iinc (ls' := [(5, aI (v5 + 1)), (0, aR 102), (3, aI v3), (4, aI v4), (6, aI v6), (7, aI v7)]) hΓ 3 dX12_quarrels_99 rfl (by decide) rfl ?_
            refine a_iinc (ls' := [(7, aI (v7 + 1)), (5, aI (v5 + 1)), (0, aR 102), (3, aI v3), (4, aI v4), (6, aI v6)]) hΓ 5 dX12_quarrels_102 rfl (by decide) rfl ?_
            refine a_goto (tgt := 47) hΓ dX12_quarrels_105 (by decide) ?_
            refine a_sub (ls' := [(0, aR 102), (3, aI v3), (4, aI v4), (5, aI (v5 + 1)), (6, aI v6), (7, aI (v7 + 1))]) [2, 3, 4, 1, 5, 0] rfl ?_
            exact ih (v5 + 1) (v7 + 1) M7 h
    · rw [if_neg c2] at h
      refine a_iinc (ls' := [(6, aI (v6 + 1)), (0, aR 102), (3, aI v3), (4, aI v4), (5, aI v5), (7, aI v7)]) hΓ 4 dX12_quarrels_108 rfl (by decide) rfl ?_
      refine a_goto (tgt := 36) hΓ dX12_quarrels_111 (by decide) ?_
      refine a_sub (ls' := [(0, aR 102), (3, aI v3), (4, aI v4), (5, aI v5), (6, aI (v6 + 1))]) [1, 2, 3, 4, 0] rfl ?_
      exact hk36 v5 (v6 + 1) M h
def wX12_quarrels_36 (Q : Int → Mm → Prop) (v3 : Int) (v4 : Int) : Nat → Int → Int → Mm → Prop
  | 0, _, _, _ => False
  | f + 1, v5, v6, M => (inR v6) ∧
    (if v6 < 24 then
      ∃ n, wX12_quarrels_47 Q (wX12_quarrels_36 Q v3 v4 f) v3 v4 v6 n v5 v6 M
    else
      wX12_quarrels_114 Q v3 v5 M)
set_option maxHeartbeats 4000000 in
theorem s_wX12_quarrels_36 {Γ : Cx} {h : Nat} (hΓ : Ok Γ cX12_quarrels RX12 8 h 0 0) (hh : 11 ≤ h) (hr : (cxm Γ).sig.returnType = (some .int)) {Q : Int → Mm → Prop} {v3 v4 : Int}   : ∀ (f : Nat) (v5 : Int) (v6 : Int) (M : Mm), wX12_quarrels_36 Q v3 v4 f v5 v6 M → Wa Γ 8 (Kf Γ (QI Q) 0 0) 0 0 36 [(0, aR 102), (3, aI v3), (4, aI v4), (5, aI v5), (6, aI v6)] [] (NC, RF, M) := by
  intro f
  induction f with
  | zero => intro v5 v6 M h; exact h.elim
  | succ f ih =>
    intro v5 v6 M h
    unfold wX12_quarrels_36 at h
    refine a_iload hΓ 4 dX12_quarrels_36 rfl ?_
    refine a_bipush hΓ dX12_quarrels_38 (by decide) ?_
    obtain ⟨g1, h⟩ := h
    refine a_icmp_ge (tgt := 114) hΓ g1 (inRl (by decide)) dX12_quarrels_40 (by decide) (fun c2 => ?_) (fun c2 => ?_)
    · rw [if_pos c2] at h
      refine a_iload hΓ 4 dX12_quarrels_43 rfl ?_
      refine a_istore (ls' := [(7, aI v6), (0, aR 102), (3, aI v3), (4, aI v4), (5, aI v5), (6, aI v6)]) hΓ dX12_quarrels_45 (by decide) rfl ?_
      refine a_sub (ls' := [(0, aR 102), (3, aI v3), (4, aI v4), (5, aI v5), (6, aI v6), (7, aI v6)]) [1, 2, 3, 4, 5, 0] rfl ?_
      obtain ⟨f3, h⟩ := h
      exact s_wX12_quarrels_47 hΓ (Nat.le_trans (by decide) hh) hr ih f3 v5 v6 M h
    · rw [if_neg c2] at h
      refine a_sub (ls' := [(3, aI v3), (5, aI v5)]) [1, 3] rfl ?_
      exact s_wX12_quarrels_114 hΓ (Nat.le_trans (by decide) hh) hr  M h
def wX12_quarrels (v1 : Int) (v2 : Int) (v3 : Int) (M : Mm) (Q : Int → Mm → Prop) : Prop :=
    Bd (wX12_isShip v1 M) (fun r3 M4 =>
    (inR r3) ∧
    (if r3 = 0 then
      Q (-1) M4
    else
      Bd (wX12_isDay v2 M4) (fun r9 M10 =>
      (inR r9) ∧
      (if r9 = 0 then
        Q (-1) M10
      else
        (inR v3) ∧
        (if v3 < (-1) then
          Q (-1) M10
        else
          Bd (wX12_counting v1 v2 M10) (fun r17 M18 =>
          ∃ n, wX12_quarrels_36 Q v3 r17 n 0 0 M18))))))
set_option maxHeartbeats 4000000 in
theorem s_wX12_quarrels {Γ : Cx} {h : Nat} (hΓ : Ok Γ cX12_quarrels RX12 8 h 0 0) (hh : 11 ≤ h) (hr : (cxm Γ).sig.returnType = (some .int)) {Q : Int → Mm → Prop} (v1 : Int) (v2 : Int) (v3 : Int) (M : Mm) (h : wX12_quarrels v1 v2 v3 M Q) : Wa Γ 8 (Kf Γ (QI Q) 0 0) 0 0 0 [(0, aR 102), (1, aI v1), (2, aI v2), (3, aI v3)] [] (NC, RF, M) := by
  unfold wX12_quarrels at h
  refine a_aload_n hΓ 0 dX12_quarrels_0 rfl rfl ?_
  refine a_iload_n hΓ 1 dX12_quarrels_1 rfl rfl ?_
  obtain ⟨P1, q2, h⟩ := h
  refine n_callV (c := 102) (av := [aI v1]) (st := []) hΓ (ct_wX12_isShip _ _ v1 M P1 q2) my_X12_isShip ml_RX12_113 ni_X12_isShip kd_102 rfl lz_102 rfl (Nat.le_trans (by decide) hh) (by decide) (Nat.le_of_ble_eq_true rfl) rfl dX12_quarrels_2 (fun v Z' hq => ?_)
  obtain ⟨r3, M4, rfl, rfl, hq⟩ := hq
  have h := h r3 M4 hq
  dsimp only at h
  obtain ⟨g5, h⟩ := h
  refine a_if_eq (tgt := 20) hΓ g5 dX12_quarrels_5 (by decide) (fun c6 => ?_) (fun c6 => ?_)
  · rw [if_pos c6] at h
    refine a_iconst hΓ dX12_quarrels_20 ?_
    exact a_iret hΓ hr dX12_quarrels_21 ⟨_, _, rfl, rfl, h⟩
  · rw [if_neg c6] at h
    refine a_iload_n hΓ 2 dX12_quarrels_8 rfl rfl ?_
    obtain ⟨P7, q8, h⟩ := h
    refine n_callS (av := [aI v2]) (st := []) hΓ (ct_wX12_isDay _ _ v2 M4 P7 q8) my_X12_isDay ml_RX12_109 rfl (Nat.le_trans (by decide) hh) (by decide) (Nat.le_of_ble_eq_true rfl) rfl dX12_quarrels_9 (fun v Z' hq => ?_)
    obtain ⟨r9, M10, rfl, rfl, hq⟩ := hq
    have h := h r9 M10 hq
    dsimp only at h
    obtain ⟨g11, h⟩ := h
    refine a_if_eq (tgt := 20) hΓ g11 dX12_quarrels_12 (by decide) (fun c12 => ?_) (fun c12 => ?_)
    · rw [if_pos c12] at h
      refine a_iconst hΓ dX12_quarrels_20 ?_
      exact a_iret hΓ hr dX12_quarrels_21 ⟨_, _, rfl, rfl, h⟩
    · rw [if_neg c12] at h
      refine a_iload_n hΓ 3 dX12_quarrels_15 rfl rfl ?_
      refine a_iconst hΓ dX12_quarrels_16 ?_
      obtain ⟨g13, h⟩ := h
      refine a_icmp_ge (tgt := 22) hΓ g13 (inRl (by decide)) dX12_quarrels_17 (by decide) (fun c14 => ?_) (fun c14 => ?_)
      · rw [if_pos c14] at h
        refine a_iconst hΓ dX12_quarrels_20 ?_
        exact a_iret hΓ hr dX12_quarrels_21 ⟨_, _, rfl, rfl, h⟩
      · rw [if_neg c14] at h
        refine a_aload_n hΓ 0 dX12_quarrels_22 rfl rfl ?_
        refine a_iload_n hΓ 1 dX12_quarrels_23 rfl rfl ?_
        refine a_iload_n hΓ 2 dX12_quarrels_24 rfl rfl ?_
        obtain ⟨P15, q16, h⟩ := h
        refine n_callV (c := 102) (av := [aI v1, aI v2]) (st := []) hΓ (ct_wX12_counting _ _ v1 v2 M10 P15 q16) my_X12_counting ml_RX12_177 ni_X12_counting kd_102 rfl lz_102 rfl (Nat.le_trans (by decide) hh) (by decide) (Nat.le_of_ble_eq_true rfl) rfl dX12_quarrels_25 (fun v Z' hq => ?_)
        obtain ⟨r17, M18, rfl, rfl, hq⟩ := hq
        have h := h r17 M18 hq
        dsimp only at h
        refine a_istore (ls' := [(4, aI r17), (0, aR 102), (1, aI v1), (2, aI v2), (3, aI v3)]) hΓ dX12_quarrels_28 (by decide) rfl ?_
        refine a_iconst hΓ dX12_quarrels_30 ?_
        refine a_istore (ls' := [(5, aI 0), (4, aI r17), (0, aR 102), (1, aI v1), (2, aI v2), (3, aI v3)]) hΓ dX12_quarrels_31 (by decide) rfl ?_
        refine a_iconst hΓ dX12_quarrels_33 ?_
        refine a_istore (ls' := [(6, aI 0), (5, aI 0), (4, aI r17), (0, aR 102), (1, aI v1), (2, aI v2), (3, aI v3)]) hΓ dX12_quarrels_34 (by decide) rfl ?_
        refine a_sub (ls' := [(0, aR 102), (3, aI v3), (4, aI r17), (5, aI 0), (6, aI 0)]) [3, 6, 2, 1, 0] rfl ?_
        obtain ⟨f19, h⟩ := h
        exact s_wX12_quarrels_36 hΓ (Nat.le_trans (by decide) hh) hr  f19 0 0 M18 h
theorem ct_wX12_quarrels (l : Launch) (g : Gp) (v1 : Int) (v2 : Int) (v3 : Int) (M : Mm) (Q : Int → Mm → Prop) (h : wX12_quarrels v1 v2 v3 M Q) : Ct l g yX12_quarrels cX12_quarrels 8 (some .int) 11 0 0 [aR 102, aI v1, aI v2, aI v3] (NC, RF, M) (QI Q) :=
  ct_of (by decide) (Nat.le_of_ble_eq_true rfl) (fun Γ hg hl hr _ hΓ => by subst hg; subst hl; exact s_wX12_quarrels hΓ (by decide) hr v1 v2 v3 M h)
def wX12_opening_77 (Q : Int → Mm → Prop) (k59 : Int → Mm → Prop) (v4 : Int) (v5 : Int) : Nat → Int → Mm → Prop
  | 0, _, _ => False
  | f + 1, v6, M => (inR v6) ∧
    (if v6 < 24 then
      (inR v5) ∧
      (if v5 = v6 then
        (wX12_opening_77 Q k59 v4 v5 f) (v6 + 1) M
      else
        (if (landI (landI (shrI v4 v5) (shrI v4 v6)) 1) = 1 then
          Bd (wX12_quarrel0 v5 v6 M) (fun r8 M9 =>
          (inR r8) ∧
          (if r8 = 0 then
            (wX12_opening_77 Q k59 v4 v5 f) (v6 + 1) M9
          else
            (0 ≤ v5 ∧ v5 < 24) ∧
            (wX12_opening_77 Q k59 v4 v5 f) (v6 + 1) (up M9 110 v5 (lorI (M9 110 v5) (shlI 1 v6)))))
        else
          (wX12_opening_77 Q k59 v4 v5 f) (v6 + 1) M))
    else
      k59 (v5 + 1) M)
set_option maxHeartbeats 4000000 in
theorem s_wX12_opening_77 {Γ : Cx} {h : Nat} (hΓ : Ok Γ cX12_opening RX12 7 h 0 0) (hh : 11 ≤ h) (hr : (cxm Γ).sig.returnType = (some .int)) {Q : Int → Mm → Prop} {v4 v5 : Int}  {k59 : Int → Mm → Prop} (hk59 : ∀ (v5 : Int) (M : Mm), k59 v5 M → Wa Γ 7 (Kf Γ (QI Q) 0 0) 0 0 59 [(0, aR 102), (4, aI v4), (5, aI v5)] [] (NC, RF, M)) : ∀ (f : Nat) (v6 : Int) (M : Mm), wX12_opening_77 Q k59 v4 v5 f v6 M → Wa Γ 7 (Kf Γ (QI Q) 0 0) 0 0 77 [(0, aR 102), (4, aI v4), (5, aI v5), (6, aI v6)] [] (NC, RF, M) := by
  intro f
  induction f with
  | zero => intro v6 M h; exact h.elim
  | succ f ih =>
    intro v6 M h
    unfold wX12_opening_77 at h
    refine a_iload hΓ 3 dX12_opening_77 rfl ?_
    refine a_bipush hΓ dX12_opening_79 (by decide) ?_
    obtain ⟨g1, h⟩ := h
    refine a_icmp_ge (tgt := 139) hΓ g1 (inRl (by decide)) dX12_opening_81 (by decide) (fun c2 => ?_) (fun c2 => ?_)
    · rw [if_pos c2] at h
      refine a_iload hΓ 2 dX12_opening_84 rfl ?_
      refine a_iload hΓ 3 dX12_opening_86 rfl ?_
      obtain ⟨g3, h⟩ := h
      refine a_icmp_eq (tgt := 133) hΓ g3 g1 dX12_opening_88 (by decide) (fun c4 => ?_) (fun c4 => ?_)
      · rw [if_pos c4] at h
        refine a_iinc (ls' := [(6, aI (v6 + 1)), (0, aR 102), (4, aI v4), (5, aI v5)]) hΓ 3 dX12_opening_133 rfl (by decide) rfl ?_
        refine a_goto (tgt := 77) hΓ dX12_opening_136 (by decide) ?_
        refine a_sub (ls' := [(0, aR 102), (4, aI v4), (5, aI v5), (6, aI (v6 + 1))]) [1, 2, 3, 0] rfl ?_
        exact ih (v6 + 1) M h
      · rw [if_neg c4] at h
        refine a_iload hΓ 1 dX12_opening_91 rfl ?_
        refine a_iload hΓ 2 dX12_opening_93 rfl ?_
        refine a_ishr hΓ dX12_opening_95 ?_
        refine a_iload hΓ 1 dX12_opening_96 rfl ?_
        refine a_iload hΓ 3 dX12_opening_98 rfl ?_
        refine a_ishr hΓ dX12_opening_100 ?_
        refine a_iand hΓ dX12_opening_101 ?_
        refine a_iconst hΓ dX12_opening_102 ?_
        refine a_iand hΓ dX12_opening_103 ?_
        refine a_iconst hΓ dX12_opening_104 ?_
        refine a_icmp_ne (tgt := 133) hΓ (inR_land _ _) (inRl (by decide)) dX12_opening_105 (by decide) (fun c5 => ?_) (fun c5 => ?_)
        · rw [if_pos c5] at h
          refine a_aload_n hΓ 0 dX12_opening_108 rfl rfl ?_
          refine a_iload hΓ 2 dX12_opening_109 rfl ?_
          refine a_iload hΓ 3 dX12_opening_111 rfl ?_
          obtain ⟨P6, q7, h⟩ := h
          refine n_callV (c := 102) (av := [aI v5, aI v6]) (st := []) hΓ (ct_wX12_quarrel0 _ _ v5 v6 M P6 q7) my_X12_quarrel0 ml_RX12_192 ni_X12_quarrel0 kd_102 rfl lz_102 rfl (Nat.le_trans (by decide) hh) (by decide) (Nat.le_of_ble_eq_true rfl) rfl dX12_opening_113 (fun v Z' hq => ?_)
          obtain ⟨r8, M9, rfl, rfl, hq⟩ := hq
          have h := h r8 M9 hq
          dsimp only at h
          obtain ⟨g10, h⟩ := h
          refine a_if_eq (tgt := 133) hΓ g10 dX12_opening_116 (by decide) (fun c11 => ?_) (fun c11 => ?_)
          · rw [if_pos c11] at h
            refine a_iinc (ls' := [(6, aI (v6 + 1)), (0, aR 102), (4, aI v4), (5, aI v5)]) hΓ 3 dX12_opening_133 rfl (by decide) rfl ?_
            refine a_goto (tgt := 77) hΓ dX12_opening_136 (by decide) ?_
            refine a_sub (ls' := [(0, aR 102), (4, aI v4), (5, aI v5), (6, aI (v6 + 1))]) [1, 2, 3, 0] rfl ?_
            exact ih (v6 + 1) M9 h
          · rw [if_neg c11] at h
            refine a_aload_n hΓ 0 dX12_opening_119 rfl rfl ?_
            refine n_getR hΓ fl_RX12_40 cl_12 kd_102 lz_102 dX12_opening_120 ft_12_10 rf_102_10 ?_
            refine a_iload hΓ 2 dX12_opening_123 rfl ?_
            refine a_dup2 hΓ dX12_opening_125 ?_
            obtain ⟨g12, h⟩ := h
            refine n_iald (x := (M9 110 v5)) hΓ dX12_opening_126 kd_110 lz_110 g12 rfl ?_
            refine a_iconst hΓ dX12_opening_127 ?_
            refine a_iload hΓ 3 dX12_opening_128 rfl ?_
            refine a_ishl hΓ dX12_opening_130 ?_
            refine a_ior hΓ dX12_opening_131 ?_
            refine a_iast hΓ dX12_opening_132 kd_110 lz_110 g12 ?_
            refine a_iinc (ls' := [(6, aI (v6 + 1)), (0, aR 102), (4, aI v4), (5, aI v5)]) hΓ 3 dX12_opening_133 rfl (by decide) rfl ?_
            refine a_goto (tgt := 77) hΓ dX12_opening_136 (by decide) ?_
            refine a_sub (ls' := [(0, aR 102), (4, aI v4), (5, aI v5), (6, aI (v6 + 1))]) [1, 2, 3, 0] rfl ?_
            exact ih (v6 + 1) (up M9 110 v5 (lorI (M9 110 v5) (shlI 1 v6))) h
        · rw [if_neg c5] at h
          refine a_iinc (ls' := [(6, aI (v6 + 1)), (0, aR 102), (4, aI v4), (5, aI v5)]) hΓ 3 dX12_opening_133 rfl (by decide) rfl ?_
          refine a_goto (tgt := 77) hΓ dX12_opening_136 (by decide) ?_
          refine a_sub (ls' := [(0, aR 102), (4, aI v4), (5, aI v5), (6, aI (v6 + 1))]) [1, 2, 3, 0] rfl ?_
          exact ih (v6 + 1) M h
    · rw [if_neg c2] at h
      refine a_iinc (ls' := [(5, aI (v5 + 1)), (0, aR 102), (4, aI v4), (6, aI v6)]) hΓ 2 dX12_opening_139 rfl (by decide) rfl ?_
      refine a_goto (tgt := 59) hΓ dX12_opening_142 (by decide) ?_
      refine a_sub (ls' := [(0, aR 102), (4, aI v4), (5, aI (v5 + 1))]) [1, 2, 0] rfl ?_
      exact hk59 (v5 + 1) M h
def wX12_opening_59 (Q : Int → Mm → Prop) (v4 : Int) : Nat → Int → Mm → Prop
  | 0, _, _ => False
  | f + 1, v5, M => (inR v5) ∧
    (if v5 < 24 then
      (0 ≤ v5 ∧ v5 < 24) ∧
      ∃ n, wX12_opening_77 Q (wX12_opening_59 Q v4 f) v4 v5 n 0 (up M 110 v5 0)
    else
      Q v4 M)
set_option maxHeartbeats 4000000 in
theorem s_wX12_opening_59 {Γ : Cx} {h : Nat} (hΓ : Ok Γ cX12_opening RX12 7 h 0 0) (hh : 11 ≤ h) (hr : (cxm Γ).sig.returnType = (some .int)) {Q : Int → Mm → Prop} {v4 : Int}   : ∀ (f : Nat) (v5 : Int) (M : Mm), wX12_opening_59 Q v4 f v5 M → Wa Γ 7 (Kf Γ (QI Q) 0 0) 0 0 59 [(0, aR 102), (4, aI v4), (5, aI v5)] [] (NC, RF, M) := by
  intro f
  induction f with
  | zero => intro v5 M h; exact h.elim
  | succ f ih =>
    intro v5 M h
    unfold wX12_opening_59 at h
    refine a_iload hΓ 2 dX12_opening_59 rfl ?_
    refine a_bipush hΓ dX12_opening_61 (by decide) ?_
    obtain ⟨g1, h⟩ := h
    refine a_icmp_ge (tgt := 145) hΓ g1 (inRl (by decide)) dX12_opening_63 (by decide) (fun c2 => ?_) (fun c2 => ?_)
    · rw [if_pos c2] at h
      refine a_aload_n hΓ 0 dX12_opening_66 rfl rfl ?_
      refine n_getR hΓ fl_RX12_40 cl_12 kd_102 lz_102 dX12_opening_67 ft_12_10 rf_102_10 ?_
      refine a_iload hΓ 2 dX12_opening_70 rfl ?_
      refine a_iconst hΓ dX12_opening_72 ?_
      obtain ⟨g3, h⟩ := h
      refine a_iast hΓ dX12_opening_73 kd_110 lz_110 g3 ?_
      refine a_iconst hΓ dX12_opening_74 ?_
      refine a_istore (ls' := [(6, aI 0), (0, aR 102), (4, aI v4), (5, aI v5)]) hΓ dX12_opening_75 (by decide) rfl ?_
      refine a_sub (ls' := [(0, aR 102), (4, aI v4), (5, aI v5), (6, aI 0)]) [1, 2, 3, 0] rfl ?_
      obtain ⟨f4, h⟩ := h
      exact s_wX12_opening_77 hΓ (Nat.le_trans (by decide) hh) hr ih f4 0 (up M 110 v5 0) h
    · rw [if_neg c2] at h
      refine a_iload hΓ 1 dX12_opening_145 rfl ?_
      exact a_iret hΓ hr dX12_opening_147 ⟨_, _, rfl, rfl, h⟩
def wX12_opening_13 (Q : Int → Mm → Prop) (v3 : Int) : Nat → Int → Int → Mm → Prop
  | 0, _, _, _ => False
  | f + 1, v4, v5, M => (inR v5) ∧
    (if v5 < 24 then
      (if (landI (shrI v3 v5) 1) = 1 then
        Bd (wX12_quarrel0 v5 v5 M) (fun r6 M7 =>
        (inR r6) ∧
        (if r6 = 0 then
          (wX12_opening_13 Q v3 f) (lorI v4 (shlI 1 v5)) (v5 + 1) M7
        else
          (wX12_opening_13 Q v3 f) v4 (v5 + 1) M7))
      else
        (wX12_opening_13 Q v3 f) v4 (v5 + 1) M)
    else
      ∃ n, wX12_opening_59 Q v4 n 0 M)
set_option maxHeartbeats 4000000 in
theorem s_wX12_opening_13 {Γ : Cx} {h : Nat} (hΓ : Ok Γ cX12_opening RX12 7 h 0 0) (hh : 11 ≤ h) (hr : (cxm Γ).sig.returnType = (some .int)) {Q : Int → Mm → Prop} {v3 : Int}   : ∀ (f : Nat) (v4 : Int) (v5 : Int) (M : Mm), wX12_opening_13 Q v3 f v4 v5 M → Wa Γ 7 (Kf Γ (QI Q) 0 0) 0 0 13 [(0, aR 102), (3, aI v3), (4, aI v4), (5, aI v5)] [] (NC, RF, M) := by
  intro f
  induction f with
  | zero => intro v4 v5 M h; exact h.elim
  | succ f ih =>
    intro v4 v5 M h
    unfold wX12_opening_13 at h
    refine a_iload hΓ 3 dX12_opening_13 rfl ?_
    refine a_bipush hΓ dX12_opening_15 (by decide) ?_
    obtain ⟨g1, h⟩ := h
    refine a_icmp_ge (tgt := 56) hΓ g1 (inRl (by decide)) dX12_opening_17 (by decide) (fun c2 => ?_) (fun c2 => ?_)
    · rw [if_pos c2] at h
      refine a_iload_n hΓ 1 dX12_opening_20 rfl rfl ?_
      refine a_iload hΓ 3 dX12_opening_21 rfl ?_
      refine a_ishr hΓ dX12_opening_23 ?_
      refine a_iconst hΓ dX12_opening_24 ?_
      refine a_iand hΓ dX12_opening_25 ?_
      refine a_iconst hΓ dX12_opening_26 ?_
      refine a_icmp_ne (tgt := 50) hΓ (inR_land _ _) (inRl (by decide)) dX12_opening_27 (by decide) (fun c3 => ?_) (fun c3 => ?_)
      · rw [if_pos c3] at h
        refine a_aload_n hΓ 0 dX12_opening_30 rfl rfl ?_
        refine a_iload hΓ 3 dX12_opening_31 rfl ?_
        refine a_iload hΓ 3 dX12_opening_33 rfl ?_
        obtain ⟨P4, q5, h⟩ := h
        refine n_callV (c := 102) (av := [aI v5, aI v5]) (st := []) hΓ (ct_wX12_quarrel0 _ _ v5 v5 M P4 q5) my_X12_quarrel0 ml_RX12_192 ni_X12_quarrel0 kd_102 rfl lz_102 rfl (Nat.le_trans (by decide) hh) (by decide) (Nat.le_of_ble_eq_true rfl) rfl dX12_opening_35 (fun v Z' hq => ?_)
        obtain ⟨r6, M7, rfl, rfl, hq⟩ := hq
        have h := h r6 M7 hq
        dsimp only at h
        obtain ⟨g8, h⟩ := h
        refine a_if_ne (tgt := 50) hΓ g8 dX12_opening_38 (by decide) (fun c9 => ?_) (fun c9 => ?_)
        · rw [if_pos c9] at h
          refine a_iload hΓ 2 dX12_opening_41 rfl ?_
          refine a_iconst hΓ dX12_opening_43 ?_
          refine a_iload hΓ 3 dX12_opening_44 rfl ?_
          refine a_ishl hΓ dX12_opening_46 ?_
          refine a_ior hΓ dX12_opening_47 ?_
          refine a_istore (ls' := [(4, aI (lorI v4 (shlI 1 v5))), (0, aR 102), (3, aI v3), (5, aI v5)]) hΓ dX12_opening_48 (by decide) rfl ?_
          refine a_iinc (ls' := [(5, aI (v5 + 1)), (4, aI (lorI v4 (shlI 1 v5))), (0, aR 102), (3, aI v3)]) hΓ 3 dX12_opening_50 rfl (by decide) rfl ?_
          refine a_goto (tgt := 13) hΓ dX12_opening_53 (by decide) ?_
          refine a_sub (ls' := [(0, aR 102), (3, aI v3), (4, aI (lorI v4 (shlI 1 v5))), (5, aI (v5 + 1))]) [2, 3, 1, 0] rfl ?_
          exact ih (lorI v4 (shlI 1 v5)) (v5 + 1) M7 h
        · rw [if_neg c9] at h
          refine a_iinc (ls' := [(5, aI (v5 + 1)), (0, aR 102), (3, aI v3), (4, aI v4)]) hΓ 3 dX12_opening_50 rfl (by decide) rfl ?_
          refine a_goto (tgt := 13) hΓ dX12_opening_53 (by decide) ?_
          refine a_sub (ls' := [(0, aR 102), (3, aI v3), (4, aI v4), (5, aI (v5 + 1))]) [1, 2, 3, 0] rfl ?_
          exact ih v4 (v5 + 1) M7 h
      · rw [if_neg c3] at h
        refine a_iinc (ls' := [(5, aI (v5 + 1)), (0, aR 102), (3, aI v3), (4, aI v4)]) hΓ 3 dX12_opening_50 rfl (by decide) rfl ?_
        refine a_goto (tgt := 13) hΓ dX12_opening_53 (by decide) ?_
        refine a_sub (ls' := [(0, aR 102), (3, aI v3), (4, aI v4), (5, aI (v5 + 1))]) [1, 2, 3, 0] rfl ?_
        exact ih v4 (v5 + 1) M h
    · rw [if_neg c2] at h
      refine a_iconst hΓ dX12_opening_56 ?_
      refine a_istore (ls' := [(5, aI 0), (0, aR 102), (3, aI v3), (4, aI v4)]) hΓ dX12_opening_57 (by decide) rfl ?_
      refine a_sub (ls' := [(0, aR 102), (4, aI v4), (5, aI 0)]) [1, 3, 0] rfl ?_
      obtain ⟨f10, h⟩ := h
      exact s_wX12_opening_59 hΓ (Nat.le_trans (by decide) hh) hr  f10 0 M h
def wX12_opening (v1 : Int) (v2 : Int) (M : Mm) (Q : Int → Mm → Prop) : Prop :=
    Bd (wX12_counting v1 v2 M) (fun r3 M4 =>
    ∃ n, wX12_opening_13 Q r3 n 0 0 M4)
set_option maxHeartbeats 4000000 in
theorem s_wX12_opening {Γ : Cx} {h : Nat} (hΓ : Ok Γ cX12_opening RX12 7 h 0 0) (hh : 11 ≤ h) (hr : (cxm Γ).sig.returnType = (some .int)) {Q : Int → Mm → Prop} (v1 : Int) (v2 : Int) (M : Mm) (h : wX12_opening v1 v2 M Q) : Wa Γ 7 (Kf Γ (QI Q) 0 0) 0 0 0 [(0, aR 102), (1, aI v1), (2, aI v2)] [] (NC, RF, M) := by
  unfold wX12_opening at h
  refine a_aload_n hΓ 0 dX12_opening_0 rfl rfl ?_
  refine a_iload_n hΓ 1 dX12_opening_1 rfl rfl ?_
  refine a_iload_n hΓ 2 dX12_opening_2 rfl rfl ?_
  obtain ⟨P1, q2, h⟩ := h
  refine n_callV (c := 102) (av := [aI v1, aI v2]) (st := []) hΓ (ct_wX12_counting _ _ v1 v2 M P1 q2) my_X12_counting ml_RX12_177 ni_X12_counting kd_102 rfl lz_102 rfl (Nat.le_trans (by decide) hh) (by decide) (Nat.le_of_ble_eq_true rfl) rfl dX12_opening_3 (fun v Z' hq => ?_)
  obtain ⟨r3, M4, rfl, rfl, hq⟩ := hq
  have h := h r3 M4 hq
  dsimp only at h
  refine a_istore_n (ls' := [(3, aI r3), (0, aR 102), (1, aI v1), (2, aI v2)]) hΓ dX12_opening_6 rfl (by decide) rfl ?_
  refine a_iconst hΓ dX12_opening_7 ?_
  refine a_istore (ls' := [(4, aI 0), (3, aI r3), (0, aR 102), (1, aI v1), (2, aI v2)]) hΓ dX12_opening_8 (by decide) rfl ?_
  refine a_iconst hΓ dX12_opening_10 ?_
  refine a_istore (ls' := [(5, aI 0), (4, aI 0), (3, aI r3), (0, aR 102), (1, aI v1), (2, aI v2)]) hΓ dX12_opening_11 (by decide) rfl ?_
  refine a_sub (ls' := [(0, aR 102), (3, aI r3), (4, aI 0), (5, aI 0)]) [3, 2, 1, 0] rfl ?_
  obtain ⟨f5, h⟩ := h
  exact s_wX12_opening_13 hΓ (Nat.le_trans (by decide) hh) hr  f5 0 0 M4 h
theorem ct_wX12_opening (l : Launch) (g : Gp) (v1 : Int) (v2 : Int) (M : Mm) (Q : Int → Mm → Prop) (h : wX12_opening v1 v2 M Q) : Ct l g yX12_opening cX12_opening 7 (some .int) 11 0 0 [aR 102, aI v1, aI v2] (NC, RF, M) (QI Q) :=
  ct_of (by decide) (Nat.le_of_ble_eq_true rfl) (fun Γ hg hl hr _ hΓ => by subst hg; subst hl; exact s_wX12_opening hΓ (by decide) hr v1 v2 M h)
def wX12_ones_4 (Q : Int → Mm → Prop) (v0 : Int) : Nat → Int → Int → Mm → Prop
  | 0, _, _, _ => False
  | f + 1, v1, v2, M => (inR v2) ∧
    (if v2 < 24 then
      (wX12_ones_4 Q v0 f) (v1 + (landI (shrI v0 v2) 1)) (v2 + 1) M
    else
      Q v1 M)
set_option maxHeartbeats 4000000 in
theorem s_wX12_ones_4 {Γ : Cx} {h : Nat} (hΓ : Ok Γ cX12_ones RX12 3 h 0 0) (hh : 1 ≤ h) (hr : (cxm Γ).sig.returnType = (some .int)) {Q : Int → Mm → Prop} {v0 : Int}   : ∀ (f : Nat) (v1 : Int) (v2 : Int) (M : Mm), wX12_ones_4 Q v0 f v1 v2 M → Wa Γ 3 (Kf Γ (QI Q) 0 0) 0 0 4 [(0, aI v0), (1, aI v1), (2, aI v2)] [] (NC, RF, M) := by
  intro f
  induction f with
  | zero => intro v1 v2 M h; exact h.elim
  | succ f ih =>
    intro v1 v2 M h
    unfold wX12_ones_4 at h
    refine a_iload_n hΓ 2 dX12_ones_4 rfl rfl ?_
    refine a_bipush hΓ dX12_ones_5 (by decide) ?_
    obtain ⟨g1, h⟩ := h
    refine a_icmp_ge (tgt := 24) hΓ g1 (inRl (by decide)) dX12_ones_7 (by decide) (fun c2 => ?_) (fun c2 => ?_)
    · rw [if_pos c2] at h
      refine a_iload_n hΓ 1 dX12_ones_10 rfl rfl ?_
      refine a_iload_n hΓ 0 dX12_ones_11 rfl rfl ?_
      refine a_iload_n hΓ 2 dX12_ones_12 rfl rfl ?_
      refine a_ishr hΓ dX12_ones_13 ?_
      refine a_iconst hΓ dX12_ones_14 ?_
      refine a_iand hΓ dX12_ones_15 ?_
      refine a_iadd hΓ dX12_ones_16 ?_
      refine a_istore_n (ls' := [(1, aI (v1 + (landI (shrI v0 v2) 1))), (0, aI v0), (2, aI v2)]) hΓ dX12_ones_17 rfl (by decide) rfl ?_
      refine a_iinc (ls' := [(2, aI (v2 + 1)), (1, aI (v1 + (landI (shrI v0 v2) 1))), (0, aI v0)]) hΓ 2 dX12_ones_18 rfl (by decide) rfl ?_
      refine a_goto (tgt := 4) hΓ dX12_ones_21 (by decide) ?_
      refine a_sub (ls' := [(0, aI v0), (1, aI (v1 + (landI (shrI v0 v2) 1))), (2, aI (v2 + 1))]) [2, 1, 0] rfl ?_
      exact ih (v1 + (landI (shrI v0 v2) 1)) (v2 + 1) M h
    · rw [if_neg c2] at h
      refine a_iload_n hΓ 1 dX12_ones_24 rfl rfl ?_
      exact a_iret hΓ hr dX12_ones_25 ⟨_, _, rfl, rfl, h⟩
def wX12_ones (v0 : Int) (M : Mm) (Q : Int → Mm → Prop) : Prop :=
    ∃ n, wX12_ones_4 Q v0 n 0 0 M
set_option maxHeartbeats 4000000 in
theorem s_wX12_ones {Γ : Cx} {h : Nat} (hΓ : Ok Γ cX12_ones RX12 3 h 0 0) (hh : 1 ≤ h) (hr : (cxm Γ).sig.returnType = (some .int)) {Q : Int → Mm → Prop} (v0 : Int) (M : Mm) (h : wX12_ones v0 M Q) : Wa Γ 3 (Kf Γ (QI Q) 0 0) 0 0 0 [(0, aI v0)] [] (NC, RF, M) := by
  unfold wX12_ones at h
  refine a_iconst hΓ dX12_ones_0 ?_
  refine a_istore_n (ls' := [(1, aI 0), (0, aI v0)]) hΓ dX12_ones_1 rfl (by decide) rfl ?_
  refine a_iconst hΓ dX12_ones_2 ?_
  refine a_istore_n (ls' := [(2, aI 0), (1, aI 0), (0, aI v0)]) hΓ dX12_ones_3 rfl (by decide) rfl ?_
  refine a_sub (ls' := [(0, aI v0), (1, aI 0), (2, aI 0)]) [2, 1, 0] rfl ?_
  obtain ⟨f1, h⟩ := h
  exact s_wX12_ones_4 hΓ (Nat.le_trans (by decide) hh) hr  f1 0 0 M h
theorem ct_wX12_ones (l : Launch) (g : Gp) (v0 : Int) (M : Mm) (Q : Int → Mm → Prop) (h : wX12_ones v0 M Q) : Ct l g yX12_ones cX12_ones 3 (some .int) 1 0 0 [aI v0] (NC, RF, M) (QI Q) :=
  ct_of (by decide) (Nat.le_of_ble_eq_true rfl) (fun Γ hg hl hr _ hΓ => by subst hg; subst hl; exact s_wX12_ones hΓ (by decide) hr v0 M h)
def wX12_worth_4 (Q : Int → Mm → Prop) (v1 : Int) : Nat → Int → Int → Mm → Prop
  | 0, _, _, _ => False
  | f + 1, v2, v3, M => (inR v3) ∧
    (if v3 < 24 then
      (if (landI (shrI v1 v3) 1) = 1 then
        Bd (wX12_logAt v3 4 M) (fun r6 M7 =>
        (wX12_worth_4 Q v1 f) (v2 + r6) (v3 + 1) M7)
      else
        (wX12_worth_4 Q v1 f) (v2 + 0) (v3 + 1) M)
    else
      Q v2 M)
set_option maxHeartbeats 4000000 in
theorem s_wX12_worth_4 {Γ : Cx} {h : Nat} (hΓ : Ok Γ cX12_worth RX12 4 h 0 0) (hh : 2 ≤ h) (hr : (cxm Γ).sig.returnType = (some .int)) {Q : Int → Mm → Prop} {v1 : Int}   : ∀ (f : Nat) (v2 : Int) (v3 : Int) (M : Mm), wX12_worth_4 Q v1 f v2 v3 M → Wa Γ 4 (Kf Γ (QI Q) 0 0) 0 0 4 [(0, aR 102), (1, aI v1), (2, aI v2), (3, aI v3)] [] (NC, RF, M) := by
  intro f
  induction f with
  | zero => intro v2 v3 M h; exact h.elim
  | succ f ih =>
    intro v2 v3 M h
    unfold wX12_worth_4 at h
    refine a_iload_n hΓ 3 dX12_worth_4 rfl rfl ?_
    refine a_bipush hΓ dX12_worth_5 (by decide) ?_
    obtain ⟨g1, h⟩ := h
    refine a_icmp_ge (tgt := 38) hΓ g1 (inRl (by decide)) dX12_worth_7 (by decide) (fun c2 => ?_) (fun c2 => ?_)
    · rw [if_pos c2] at h
      refine a_iload_n hΓ 2 dX12_worth_10 rfl rfl ?_
      refine a_iload_n hΓ 1 dX12_worth_11 rfl rfl ?_
      refine a_iload_n hΓ 3 dX12_worth_12 rfl rfl ?_
      refine a_ishr hΓ dX12_worth_13 ?_
      refine a_iconst hΓ dX12_worth_14 ?_
      refine a_iand hΓ dX12_worth_15 ?_
      refine a_iconst hΓ dX12_worth_16 ?_
      refine a_icmp_ne (tgt := 29) hΓ (inR_land _ _) (inRl (by decide)) dX12_worth_17 (by decide) (fun c3 => ?_) (fun c3 => ?_)
      · rw [if_pos c3] at h
        refine a_aload_n hΓ 0 dX12_worth_20 rfl rfl ?_
        refine a_iload_n hΓ 3 dX12_worth_21 rfl rfl ?_
        refine a_iconst hΓ dX12_worth_22 ?_
        obtain ⟨P4, q5, h⟩ := h
        refine n_callV (c := 102) (av := [aI v3, aI 4]) (st := [aI v2]) hΓ (ct_wX12_logAt _ _ v3 4 M P4 q5) my_X12_logAt ml_RX12_151 ni_X12_logAt kd_102 rfl lz_102 rfl (Nat.le_trans (by decide) hh) (by decide) (Nat.le_of_ble_eq_true rfl) rfl dX12_worth_23 (fun v Z' hq => ?_)
        obtain ⟨r6, M7, rfl, rfl, hq⟩ := hq
        have h := h r6 M7 hq
        dsimp only at h
        refine a_goto (tgt := 30) hΓ dX12_worth_26 (by decide) ?_
        refine a_iadd hΓ dX12_worth_30 ?_
        refine a_istore_n (ls' := [(2, aI (v2 + r6)), (0, aR 102), (1, aI v1), (3, aI v3)]) hΓ dX12_worth_31 rfl (by decide) rfl ?_
        refine a_iinc (ls' := [(3, aI (v3 + 1)), (2, aI (v2 + r6)), (0, aR 102), (1, aI v1)]) hΓ 3 dX12_worth_32 rfl (by decide) rfl ?_
        refine a_goto (tgt := 4) hΓ dX12_worth_35 (by decide) ?_
        refine a_sub (ls' := [(0, aR 102), (1, aI v1), (2, aI (v2 + r6)), (3, aI (v3 + 1))]) [2, 3, 1, 0] rfl ?_
        exact ih (v2 + r6) (v3 + 1) M7 h
      · rw [if_neg c3] at h
        refine a_iconst hΓ dX12_worth_29 ?_
        refine a_iadd hΓ dX12_worth_30 ?_
        refine a_istore_n (ls' := [(2, aI (v2 + 0)), (0, aR 102), (1, aI v1), (3, aI v3)]) hΓ dX12_worth_31 rfl (by decide) rfl ?_
        refine a_iinc (ls' := [(3, aI (v3 + 1)), (2, aI (v2 + 0)), (0, aR 102), (1, aI v1)]) hΓ 3 dX12_worth_32 rfl (by decide) rfl ?_
        refine a_goto (tgt := 4) hΓ dX12_worth_35 (by decide) ?_
        refine a_sub (ls' := [(0, aR 102), (1, aI v1), (2, aI (v2 + 0)), (3, aI (v3 + 1))]) [2, 3, 1, 0] rfl ?_
        exact ih (v2 + 0) (v3 + 1) M h
    · rw [if_neg c2] at h
      refine a_iload_n hΓ 2 dX12_worth_38 rfl rfl ?_
      exact a_iret hΓ hr dX12_worth_39 ⟨_, _, rfl, rfl, h⟩
def wX12_worth (v1 : Int) (M : Mm) (Q : Int → Mm → Prop) : Prop :=
    ∃ n, wX12_worth_4 Q v1 n 0 0 M
set_option maxHeartbeats 4000000 in
theorem s_wX12_worth {Γ : Cx} {h : Nat} (hΓ : Ok Γ cX12_worth RX12 4 h 0 0) (hh : 2 ≤ h) (hr : (cxm Γ).sig.returnType = (some .int)) {Q : Int → Mm → Prop} (v1 : Int) (M : Mm) (h : wX12_worth v1 M Q) : Wa Γ 4 (Kf Γ (QI Q) 0 0) 0 0 0 [(0, aR 102), (1, aI v1)] [] (NC, RF, M) := by
  unfold wX12_worth at h
  refine a_iconst hΓ dX12_worth_0 ?_
  refine a_istore_n (ls' := [(2, aI 0), (0, aR 102), (1, aI v1)]) hΓ dX12_worth_1 rfl (by decide) rfl ?_
  refine a_iconst hΓ dX12_worth_2 ?_
  refine a_istore_n (ls' := [(3, aI 0), (2, aI 0), (0, aR 102), (1, aI v1)]) hΓ dX12_worth_3 rfl (by decide) rfl ?_
  refine a_sub (ls' := [(0, aR 102), (1, aI v1), (2, aI 0), (3, aI 0)]) [2, 3, 1, 0] rfl ?_
  obtain ⟨f1, h⟩ := h
  exact s_wX12_worth_4 hΓ (Nat.le_trans (by decide) hh) hr  f1 0 0 M h
theorem ct_wX12_worth (l : Launch) (g : Gp) (v1 : Int) (M : Mm) (Q : Int → Mm → Prop) (h : wX12_worth v1 M Q) : Ct l g yX12_worth cX12_worth 4 (some .int) 2 0 0 [aR 102, aI v1] (NC, RF, M) (QI Q) :=
  ct_of (by decide) (Nat.le_of_ble_eq_true rfl) (fun Γ hg hl hr _ hΓ => by subst hg; subst hl; exact s_wX12_worth hΓ (by decide) hr v1 M h)
def wX12_chooses_81 (Q : Mm → Prop) (rc : Int → Int → Int → Int → Mm → (Mm → Prop) → Prop) (v1 : Int) (v2 : Int) (v3 : Int) (v4 : Int) (v6 : Int) (M : Mm) : Prop :=
    (0 ≤ v6 ∧ v6 < 24) ∧
    Bd (wX12_logAt v6 4 M) (fun r4 M5 =>
    Bv (rc (landI (landI v1 (lxorI (shlI 1 v6) (-1))) (lxorI (M 110 v6) (-1))) (lorI v2 (shlI 1 v6)) (v3 + r4) (v4 + 1) M5) (fun M9 =>
    Bv (rc (landI v1 (lxorI (shlI 1 v6) (-1))) v2 v3 v4 M9) (fun M13 =>
    Q M13)))
set_option maxHeartbeats 4000000 in
theorem s_wX12_chooses_81 {Γ : Cx} {h : Nat} (hΓ : Ok Γ cX12_chooses RX12 8 h 0 0) (hh : 3 ≤ h) (hr : (cxm Γ).sig.returnType = none) {Q : Mm → Prop} {v1 v2 v3 v4 v6 : Int} {rc : Int → Int → Int → Int → Mm → (Mm → Prop) → Prop} {h0 : Nat} (hrc : ∀ (a0 : Int) (a1 : Int) (a2 : Int) (a3 : Int) (M : Mm) (Q : Mm → Prop), rc a0 a1 a2 a3 M Q → Ct (cxl Γ) (cxg Γ) yX12_chooses cX12_chooses 8 none h0 0 0 [aR 102, aI a0, aI a1, aI a2, aI a3] (NC, RF, M) (QV Q)) (hh0 : h0 + 1 ≤ h)  (M : Mm) (h : wX12_chooses_81 Q rc v1 v2 v3 v4 v6 M) : Wa Γ 8 (Kf Γ (QV Q) 0 0) 0 0 81 [(0, aR 102), (1, aI v1), (2, aI v2), (3, aI v3), (4, aI v4), (6, aI v6)] [] (NC, RF, M) := by
  unfold wX12_chooses_81 at h
  refine a_iload_n hΓ 1 dX12_chooses_81 rfl rfl ?_
  refine a_iconst hΓ dX12_chooses_82 ?_
  refine a_iload hΓ 5 dX12_chooses_83 rfl ?_
  refine a_ishl hΓ dX12_chooses_85 ?_
  refine a_iconst hΓ dX12_chooses_86 ?_
  refine a_ixor hΓ dX12_chooses_87 ?_
  refine a_iand hΓ dX12_chooses_88 ?_
  refine a_istore (ls' := [(7, aI (landI v1 (lxorI (shlI 1 v6) (-1)))), (0, aR 102), (1, aI v1), (2, aI v2), (3, aI v3), (4, aI v4), (6, aI v6)]) hΓ dX12_chooses_89 (by decide) rfl ?_
  refine a_aload_n hΓ 1 dX12_chooses_91 rfl rfl ?_
  refine a_iload hΓ 0 dX12_chooses_92 rfl ?_
  refine a_aload_n hΓ 1 dX12_chooses_94 rfl rfl ?_
  refine n_getR hΓ fl_RX12_40 cl_12 kd_102 lz_102 dX12_chooses_95 ft_12_10 rf_102_10 ?_
  refine a_iload hΓ 6 dX12_chooses_98 rfl ?_
  obtain ⟨g1, h⟩ := h
  refine n_iald (x := (M 110 v6)) hΓ dX12_chooses_100 kd_110 lz_110 g1 rfl ?_
  refine a_iconst hΓ dX12_chooses_101 ?_
  refine a_ixor hΓ dX12_chooses_102 ?_
  refine a_iand hΓ dX12_chooses_103 ?_
  refine a_iload_n hΓ 3 dX12_chooses_104 rfl rfl ?_
  refine a_iconst hΓ dX12_chooses_105 ?_
  refine a_iload hΓ 6 dX12_chooses_106 rfl ?_
  refine a_ishl hΓ dX12_chooses_108 ?_
  refine a_ior hΓ dX12_chooses_109 ?_
  refine a_iload_n hΓ 4 dX12_chooses_110 rfl rfl ?_
  refine a_aload_n hΓ 1 dX12_chooses_111 rfl rfl ?_
  refine a_iload hΓ 6 dX12_chooses_112 rfl ?_
  refine a_iconst hΓ dX12_chooses_114 ?_
  obtain ⟨P2, q3, h⟩ := h
  refine n_callV (c := 102) (av := [aI v6, aI 4]) (st := [aI v3, aI (lorI v2 (shlI 1 v6)), aI (landI (landI v1 (lxorI (shlI 1 v6) (-1))) (lxorI (M 110 v6) (-1))), aR 102]) hΓ (ct_wX12_logAt _ _ v6 4 M P2 q3) my_X12_logAt ml_RX12_151 ni_X12_logAt kd_102 rfl lz_102 rfl (Nat.le_trans (by decide) hh) (by decide) (Nat.le_of_ble_eq_true rfl) rfl dX12_chooses_115 (fun v Z' hq => ?_)
  obtain ⟨r4, M5, rfl, rfl, hq⟩ := hq
  have h := h r4 M5 hq
  dsimp only at h
  refine a_iadd hΓ dX12_chooses_118 ?_
  refine a_iload hΓ 5 dX12_chooses_119 rfl ?_
  refine a_iconst hΓ dX12_chooses_121 ?_
  refine a_iadd hΓ dX12_chooses_122 ?_
  obtain ⟨P6, q7, h⟩ := h
  refine n_callV (c := 102) (av := [aI (landI (landI v1 (lxorI (shlI 1 v6) (-1))) (lxorI (M 110 v6) (-1))), aI (lorI v2 (shlI 1 v6)), aI (v3 + r4), aI (v4 + 1)]) (st := []) hΓ (hrc (landI (landI v1 (lxorI (shlI 1 v6) (-1))) (lxorI (M 110 v6) (-1))) (lorI v2 (shlI 1 v6)) (v3 + r4) (v4 + 1) M5 P6 q7) my_X12_chooses ml_RX12_210 ni_X12_chooses kd_102 rfl lz_102 rfl hh0 (by decide) (Nat.le_of_ble_eq_true rfl) rfl dX12_chooses_123 (fun v Z' hq => ?_)
  obtain ⟨M9, rfl, rfl, hq⟩ := hq
  have h := h M9 hq
  dsimp only at h
  refine a_aload_n hΓ 1 dX12_chooses_126 rfl rfl ?_
  refine a_iload hΓ 0 dX12_chooses_127 rfl ?_
  refine a_iload_n hΓ 3 dX12_chooses_129 rfl rfl ?_
  refine a_iload_n hΓ 4 dX12_chooses_130 rfl rfl ?_
  refine a_iload hΓ 5 dX12_chooses_131 rfl ?_
  obtain ⟨P10, q11, h⟩ := h
  refine n_callV (c := 102) (av := [aI (landI v1 (lxorI (shlI 1 v6) (-1))), aI v2, aI v3, aI v4]) (st := []) hΓ (hrc (landI v1 (lxorI (shlI 1 v6) (-1))) v2 v3 v4 M9 P10 q11) my_X12_chooses ml_RX12_210 ni_X12_chooses kd_102 rfl lz_102 rfl hh0 (by decide) (Nat.le_of_ble_eq_true rfl) rfl dX12_chooses_133 (fun v Z' hq => ?_)
  obtain ⟨M13, rfl, rfl, hq⟩ := hq
  have h := h M13 hq
  dsimp only at h
  exact a_vret hΓ hr dX12_chooses_136 ⟨_, rfl, rfl, h⟩
def wX12_chooses_66 (Q : Mm → Prop) (rc : Int → Int → Int → Int → Mm → (Mm → Prop) → Prop) (v1 : Int) (v2 : Int) (v3 : Int) (v4 : Int) : Nat → Int → Mm → Prop
  | 0, _, _ => False
  | f + 1, v6, M => (if (landI (shrI v1 v6) 1) = 0 then
      (wX12_chooses_66 Q rc v1 v2 v3 v4 f) (v6 + 1) M
    else
      wX12_chooses_81 Q rc v1 v2 v3 v4 v6 M)
set_option maxHeartbeats 4000000 in
theorem s_wX12_chooses_66 {Γ : Cx} {h : Nat} (hΓ : Ok Γ cX12_chooses RX12 8 h 0 0) (hh : 3 ≤ h) (hr : (cxm Γ).sig.returnType = none) {Q : Mm → Prop} {v1 v2 v3 v4 : Int} {rc : Int → Int → Int → Int → Mm → (Mm → Prop) → Prop} {h0 : Nat} (hrc : ∀ (a0 : Int) (a1 : Int) (a2 : Int) (a3 : Int) (M : Mm) (Q : Mm → Prop), rc a0 a1 a2 a3 M Q → Ct (cxl Γ) (cxg Γ) yX12_chooses cX12_chooses 8 none h0 0 0 [aR 102, aI a0, aI a1, aI a2, aI a3] (NC, RF, M) (QV Q)) (hh0 : h0 + 1 ≤ h)  : ∀ (f : Nat) (v6 : Int) (M : Mm), wX12_chooses_66 Q rc v1 v2 v3 v4 f v6 M → Wa Γ 8 (Kf Γ (QV Q) 0 0) 0 0 66 [(0, aR 102), (1, aI v1), (2, aI v2), (3, aI v3), (4, aI v4), (6, aI v6)] [] (NC, RF, M) := by
  intro f
  induction f with
  | zero => intro v6 M h; exact h.elim
  | succ f ih =>
    intro v6 M h
    unfold wX12_chooses_66 at h
    refine a_iload_n hΓ 1 dX12_chooses_66 rfl rfl ?_
    refine a_iload hΓ 5 dX12_chooses_67 rfl ?_
    refine a_ishr hΓ dX12_chooses_69 ?_
    refine a_iconst hΓ dX12_chooses_70 ?_
    refine a_iand hΓ dX12_chooses_71 ?_
    refine a_if_ne (tgt := 81) hΓ (inR_land _ _) dX12_chooses_72 (by decide) (fun c1 => ?_) (fun c1 => ?_)
    · rw [if_pos c1] at h
      refine a_iinc (ls' := [(6, aI (v6 + 1)), (0, aR 102), (1, aI v1), (2, aI v2), (3, aI v3), (4, aI v4)]) hΓ 5 dX12_chooses_75 rfl (by decide) rfl ?_
      refine a_goto (tgt := 66) hΓ dX12_chooses_78 (by decide) ?_
      refine a_sub (ls' := [(0, aR 102), (1, aI v1), (2, aI v2), (3, aI v3), (4, aI v4), (6, aI (v6 + 1))]) [1, 2, 3, 4, 5, 0] rfl ?_
      exact ih (v6 + 1) M h
    · rw [if_neg c1] at h
      exact s_wX12_chooses_81 hΓ (Nat.le_trans (by decide) hh) hr hrc hh0  M h
def wX12_chooses_42 (Q : Mm → Prop) (rc : Int → Int → Int → Int → Mm → (Mm → Prop) → Prop) (v1 : Int) (v2 : Int) (v3 : Int) (v4 : Int) (M : Mm) : Prop :=
    (inR v1) ∧
    (if v1 = 0 then
      Q (up (up (up M 102 11 v2) 102 12 v3) 102 13 v4)
    else
      ∃ n, wX12_chooses_66 Q rc v1 v2 v3 v4 n 0 M)
set_option maxHeartbeats 4000000 in
theorem s_wX12_chooses_42 {Γ : Cx} {h : Nat} (hΓ : Ok Γ cX12_chooses RX12 8 h 0 0) (hh : 3 ≤ h) (hr : (cxm Γ).sig.returnType = none) {Q : Mm → Prop} {v1 v2 v3 v4 : Int} {rc : Int → Int → Int → Int → Mm → (Mm → Prop) → Prop} {h0 : Nat} (hrc : ∀ (a0 : Int) (a1 : Int) (a2 : Int) (a3 : Int) (M : Mm) (Q : Mm → Prop), rc a0 a1 a2 a3 M Q → Ct (cxl Γ) (cxg Γ) yX12_chooses cX12_chooses 8 none h0 0 0 [aR 102, aI a0, aI a1, aI a2, aI a3] (NC, RF, M) (QV Q)) (hh0 : h0 + 1 ≤ h)  (M : Mm) (h : wX12_chooses_42 Q rc v1 v2 v3 v4 M) : Wa Γ 8 (Kf Γ (QV Q) 0 0) 0 0 42 [(0, aR 102), (1, aI v1), (2, aI v2), (3, aI v3), (4, aI v4)] [] (NC, RF, M) := by
  unfold wX12_chooses_42 at h
  refine a_iload_n hΓ 1 dX12_chooses_42 rfl rfl ?_
  obtain ⟨g1, h⟩ := h
  refine a_if_ne (tgt := 63) hΓ g1 dX12_chooses_43 (by decide) (fun c2 => ?_) (fun c2 => ?_)
  · rw [if_pos c2] at h
    refine a_aload_n hΓ 0 dX12_chooses_46 rfl rfl ?_
    refine a_iload_n hΓ 2 dX12_chooses_47 rfl rfl ?_
    refine n_putI (j := 11) hΓ fl_RX12_207 cl_12 nf_12_11 kd_102 lz_102 dX12_chooses_48 (Or.inl ft_12_11) rfl ?_
    refine a_aload_n hΓ 0 dX12_chooses_51 rfl rfl ?_
    refine a_iload_n hΓ 3 dX12_chooses_52 rfl rfl ?_
    refine n_putI (j := 12) hΓ fl_RX12_198 cl_12 nf_12_12 kd_102 lz_102 dX12_chooses_53 (Or.inl ft_12_12) rfl ?_
    refine a_aload_n hΓ 0 dX12_chooses_56 rfl rfl ?_
    refine a_iload hΓ 4 dX12_chooses_57 rfl ?_
    refine n_putI (j := 13) hΓ fl_RX12_204 cl_12 nf_12_13 kd_102 lz_102 dX12_chooses_59 (Or.inl ft_12_13) rfl ?_
    exact a_vret hΓ hr dX12_chooses_62 ⟨_, rfl, rfl, h⟩
  · rw [if_neg c2] at h
    refine a_iconst hΓ dX12_chooses_63 ?_
    refine a_istore (ls' := [(6, aI 0), (0, aR 102), (1, aI v1), (2, aI v2), (3, aI v3), (4, aI v4)]) hΓ dX12_chooses_64 (by decide) rfl ?_
    refine a_sub (ls' := [(0, aR 102), (1, aI v1), (2, aI v2), (3, aI v3), (4, aI v4), (6, aI 0)]) [1, 2, 3, 4, 5, 0] rfl ?_
    obtain ⟨f3, h⟩ := h
    exact s_wX12_chooses_66 hΓ (Nat.le_trans (by decide) hh) hr hrc hh0  f3 0 M h
def wX12_chooses : Nat → Int → Int → Int → Int → Mm → (Mm → Prop) → Prop
  | 0, _, _, _, _, _, _ => False
  | f + 1, v1, v2, v3, v4, M, Q => Bd (wX12_worth v1 M) (fun r3 M4 =>
    (inR (v3 + r3)) ∧
    (inR (M4 102 12)) ∧
    (if (v3 + r3) < (M4 102 12) then
      Q M4
    else
      (if (v3 + r3) = (M4 102 12) then
        Bd (wX12_ones v1 M4) (fun r11 M12 =>
        (inR (v4 + r11)) ∧
        (inR (M12 102 13)) ∧
        (if (v4 + r11) ≤ (M12 102 13) then
          Q M12
        else
          wX12_chooses_42 Q (wX12_chooses f) v1 v2 v3 v4 M12))
      else
        wX12_chooses_42 Q (wX12_chooses f) v1 v2 v3 v4 M4)))
set_option maxHeartbeats 4000000 in
theorem s_wX12_chooses {Γ : Cx} {h : Nat} (hΓ : Ok Γ cX12_chooses RX12 8 h 0 0) (hh : 3 ≤ h) (hr : (cxm Γ).sig.returnType = none) {Q : Mm → Prop} {f : Nat}  {h0 : Nat} (hrc : ∀ (a0 : Int) (a1 : Int) (a2 : Int) (a3 : Int) (M : Mm) (Q : Mm → Prop), wX12_chooses f a0 a1 a2 a3 M Q → Ct (cxl Γ) (cxg Γ) yX12_chooses cX12_chooses 8 none h0 0 0 [aR 102, aI a0, aI a1, aI a2, aI a3] (NC, RF, M) (QV Q)) (hh0 : h0 + 1 ≤ h) (v1 : Int) (v2 : Int) (v3 : Int) (v4 : Int) (M : Mm) (h1 : wX12_chooses (f + 1) v1 v2 v3 v4 M Q) : Wa Γ 8 (Kf Γ (QV Q) 0 0) 0 0 0 [(0, aR 102), (1, aI v1), (2, aI v2), (3, aI v3), (4, aI v4)] [] (NC, RF, M) := by
  have h := h1
  unfold wX12_chooses at h
  refine a_iload_n hΓ 3 dX12_chooses_0 rfl rfl ?_
  refine a_aload_n hΓ 0 dX12_chooses_1 rfl rfl ?_
  refine a_iload_n hΓ 1 dX12_chooses_2 rfl rfl ?_
  obtain ⟨P1, q2, h⟩ := h
  refine n_callV (c := 102) (av := [aI v1]) (st := [aI v3]) hΓ (ct_wX12_worth _ _ v1 M P1 q2) my_X12_worth ml_RX12_195 ni_X12_worth kd_102 rfl lz_102 rfl (Nat.le_trans (by decide) hh) (by decide) (Nat.le_of_ble_eq_true rfl) rfl dX12_chooses_3 (fun v Z' hq => ?_)
  obtain ⟨r3, M4, rfl, rfl, hq⟩ := hq
  have h := h r3 M4 hq
  dsimp only at h
  refine a_iadd hΓ dX12_chooses_6 ?_
  refine a_istore (ls' := [(5, aI (v3 + r3)), (0, aR 102), (1, aI v1), (2, aI v2), (3, aI v3), (4, aI v4)]) hΓ dX12_chooses_7 (by decide) rfl ?_
  refine a_iload hΓ 0 dX12_chooses_9 rfl ?_
  refine a_aload_n hΓ 1 dX12_chooses_11 rfl rfl ?_
  refine n_getI (x := (M4 102 12)) hΓ fl_RX12_198 cl_12 kd_102 lz_102 dX12_chooses_12 (Or.inl ft_12_12) rfl ?_
  obtain ⟨g5, h⟩ := h
  obtain ⟨g6, h⟩ := h
  refine a_icmp_lt (tgt := 41) hΓ g5 g6 dX12_chooses_15 (by decide) (fun c7 => ?_) (fun c7 => ?_)
  · rw [if_pos c7] at h
    exact a_vret hΓ hr dX12_chooses_41 ⟨_, rfl, rfl, h⟩
  · rw [if_neg c7] at h
    refine a_iload hΓ 0 dX12_chooses_18 rfl ?_
    refine a_aload_n hΓ 1 dX12_chooses_20 rfl rfl ?_
    refine n_getI (x := (M4 102 12)) hΓ fl_RX12_198 cl_12 kd_102 lz_102 dX12_chooses_21 (Or.inl ft_12_12) rfl ?_
    refine a_icmp_ne (tgt := 42) hΓ g5 g6 dX12_chooses_24 (by decide) (fun c8 => ?_) (fun c8 => ?_)
    · rw [if_pos c8] at h
      refine a_iload hΓ 5 dX12_chooses_27 rfl ?_
      refine a_iload_n hΓ 2 dX12_chooses_29 rfl rfl ?_
      obtain ⟨P9, q10, h⟩ := h
      refine n_callS (av := [aI v1]) (st := [aI v4]) hΓ (ct_wX12_ones _ _ v1 M4 P9 q10) my_X12_ones ml_RX12_201 rfl (Nat.le_trans (by decide) hh) (by decide) (Nat.le_of_ble_eq_true rfl) rfl dX12_chooses_30 (fun v Z' hq => ?_)
      obtain ⟨r11, M12, rfl, rfl, hq⟩ := hq
      have h := h r11 M12 hq
      dsimp only at h
      refine a_iadd hΓ dX12_chooses_33 ?_
      refine a_aload_n hΓ 1 dX12_chooses_34 rfl rfl ?_
      refine n_getI (x := (M12 102 13)) hΓ fl_RX12_204 cl_12 kd_102 lz_102 dX12_chooses_35 (Or.inl ft_12_13) rfl ?_
      obtain ⟨g13, h⟩ := h
      obtain ⟨g14, h⟩ := h
      refine a_icmp_gt (tgt := 42) hΓ g13 g14 dX12_chooses_38 (by decide) (fun c15 => ?_) (fun c15 => ?_)
      · rw [if_pos c15] at h
        exact a_vret hΓ hr dX12_chooses_41 ⟨_, rfl, rfl, h⟩
      · rw [if_neg c15] at h
        refine a_sub (ls' := [(0, aR 102), (1, aI v1), (2, aI v2), (3, aI v3), (4, aI v4)]) [1, 2, 3, 4, 5] rfl ?_
        exact s_wX12_chooses_42 hΓ (Nat.le_trans (by decide) hh) hr hrc hh0  M12 h
    · rw [if_neg c8] at h
      refine a_sub (ls' := [(0, aR 102), (1, aI v1), (2, aI v2), (3, aI v3), (4, aI v4)]) [1, 2, 3, 4, 5] rfl ?_
      exact s_wX12_chooses_42 hΓ (Nat.le_trans (by decide) hh) hr hrc hh0  M4 h
theorem ct_wX12_chooses (l : Launch) (g : Gp) : ∀ (f : Nat) (v1 : Int) (v2 : Int) (v3 : Int) (v4 : Int) (M : Mm) (Q : Mm → Prop), wX12_chooses f v1 v2 v3 v4 M Q → Ct l g yX12_chooses cX12_chooses 8 none (3 + f) 0 0 [aR 102, aI v1, aI v2, aI v3, aI v4] (NC, RF, M) (QV Q)
  | 0, _, _, _, _, _, _, h => absurd h (by unfold wX12_chooses; exact fun q => q)
  | f + 1, v1, v2, v3, v4, M, Q, h => ct_of (by decide) (Nat.le_of_ble_eq_true rfl) (fun Γ hg hl hr _ hΓ => by subst hg; subst hl; exact s_wX12_chooses (f := f) hΓ (by omega) hr (h0 := 3 + f) (fun a0 a1 a2 a3 M Q q => ct_wX12_chooses _ _ f a0 a1 a2 a3 M Q q) (by omega) v1 v2 v3 v4 M h)
def wX12_best (v1 : Int) (M : Mm) (Q : Int → Mm → Prop) : Prop :=
    Bv (wX12_chooses 30 v1 0 0 0 (up (up (up M 102 11 0) 102 12 0) 102 13 (-1))) (fun M4 =>
    Q (M4 102 12) M4)
set_option maxHeartbeats 4000000 in
theorem s_wX12_best {Γ : Cx} {h : Nat} (hΓ : Ok Γ cX12_best RX12 2 h 0 0) (hh : 34 ≤ h) (hr : (cxm Γ).sig.returnType = (some .int)) {Q : Int → Mm → Prop} (v1 : Int) (M : Mm) (h : wX12_best v1 M Q) : Wa Γ 2 (Kf Γ (QI Q) 0 0) 0 0 0 [(0, aR 102), (1, aI v1)] [] (NC, RF, M) := by
  unfold wX12_best at h
  refine a_aload_n hΓ 0 dX12_best_0 rfl rfl ?_
  refine a_iconst hΓ dX12_best_1 ?_
  refine n_putI (j := 11) hΓ fl_RX12_207 cl_12 nf_12_11 kd_102 lz_102 dX12_best_2 (Or.inl ft_12_11) rfl ?_
  refine a_aload_n hΓ 0 dX12_best_5 rfl rfl ?_
  refine a_iconst hΓ dX12_best_6 ?_
  refine n_putI (j := 12) hΓ fl_RX12_198 cl_12 nf_12_12 kd_102 lz_102 dX12_best_7 (Or.inl ft_12_12) rfl ?_
  refine a_aload_n hΓ 0 dX12_best_10 rfl rfl ?_
  refine a_iconst hΓ dX12_best_11 ?_
  refine n_putI (j := 13) hΓ fl_RX12_204 cl_12 nf_12_13 kd_102 lz_102 dX12_best_12 (Or.inl ft_12_13) rfl ?_
  refine a_aload_n hΓ 0 dX12_best_15 rfl rfl ?_
  refine a_iload_n hΓ 1 dX12_best_16 rfl rfl ?_
  refine a_iconst hΓ dX12_best_17 ?_
  refine a_iconst hΓ dX12_best_18 ?_
  refine a_iconst hΓ dX12_best_19 ?_
  obtain ⟨P1, q2, h⟩ := h
  refine n_callV (c := 102) (av := [aI v1, aI 0, aI 0, aI 0]) (st := []) hΓ (ct_wX12_chooses _ _ 30 v1 0 0 0 (up (up (up M 102 11 0) 102 12 0) 102 13 (-1)) P1 q2) my_X12_chooses ml_RX12_210 ni_X12_chooses kd_102 rfl lz_102 rfl (Nat.le_trans (by decide) hh) (by decide) (Nat.le_of_ble_eq_true rfl) rfl dX12_best_20 (fun v Z' hq => ?_)
  obtain ⟨M4, rfl, rfl, hq⟩ := hq
  have h := h M4 hq
  dsimp only at h
  refine a_aload_n hΓ 0 dX12_best_23 rfl rfl ?_
  refine n_getI (x := (M4 102 12)) hΓ fl_RX12_198 cl_12 kd_102 lz_102 dX12_best_24 (Or.inl ft_12_12) rfl ?_
  exact a_iret hΓ hr dX12_best_27 ⟨_, _, rfl, rfl, h⟩
theorem ct_wX12_best (l : Launch) (g : Gp) (v1 : Int) (M : Mm) (Q : Int → Mm → Prop) (h : wX12_best v1 M Q) : Ct l g yX12_best cX12_best 2 (some .int) 34 0 0 [aR 102, aI v1] (NC, RF, M) (QI Q) :=
  ct_of (by decide) (Nat.le_of_ble_eq_true rfl) (fun Γ hg hl hr _ hΓ => by subst hg; subst hl; exact s_wX12_best hΓ (by decide) hr v1 M h)
def wX12_right (v1 : Int) (v2 : Int) (M : Mm) (Q : Int → Mm → Prop) : Prop :=
    Bd (wX12_isShip v1 M) (fun r3 M4 =>
    (inR r3) ∧
    (if r3 = 0 then
      Q (-1) M4
    else
      Bd (wX12_isDay v2 M4) (fun r9 M10 =>
      (inR r9) ∧
      (if r9 = 0 then
        Q (-1) M10
      else
        Bd (wX12_opening v1 v2 M10) (fun r15 M16 =>
        Bd (wX12_best r15 M16) (fun r19 M20 =>
        Q r19 (up M20 102 14 (M20 102 11))))))))
set_option maxHeartbeats 4000000 in
theorem s_wX12_right {Γ : Cx} {h : Nat} (hΓ : Ok Γ cX12_right RX12 4 h 0 0) (hh : 35 ≤ h) (hr : (cxm Γ).sig.returnType = (some .int)) {Q : Int → Mm → Prop} (v1 : Int) (v2 : Int) (M : Mm) (h : wX12_right v1 v2 M Q) : Wa Γ 4 (Kf Γ (QI Q) 0 0) 0 0 0 [(0, aR 102), (1, aI v1), (2, aI v2)] [] (NC, RF, M) := by
  unfold wX12_right at h
  refine a_aload_n hΓ 0 dX12_right_0 rfl rfl ?_
  refine a_iload_n hΓ 1 dX12_right_1 rfl rfl ?_
  obtain ⟨P1, q2, h⟩ := h
  refine n_callV (c := 102) (av := [aI v1]) (st := []) hΓ (ct_wX12_isShip _ _ v1 M P1 q2) my_X12_isShip ml_RX12_113 ni_X12_isShip kd_102 rfl lz_102 rfl (Nat.le_trans (by decide) hh) (by decide) (Nat.le_of_ble_eq_true rfl) rfl dX12_right_2 (fun v Z' hq => ?_)
  obtain ⟨r3, M4, rfl, rfl, hq⟩ := hq
  have h := h r3 M4 hq
  dsimp only at h
  obtain ⟨g5, h⟩ := h
  refine a_if_eq (tgt := 15) hΓ g5 dX12_right_5 (by decide) (fun c6 => ?_) (fun c6 => ?_)
  · rw [if_pos c6] at h
    refine a_iconst hΓ dX12_right_15 ?_
    exact a_iret hΓ hr dX12_right_16 ⟨_, _, rfl, rfl, h⟩
  · rw [if_neg c6] at h
    refine a_iload_n hΓ 2 dX12_right_8 rfl rfl ?_
    obtain ⟨P7, q8, h⟩ := h
    refine n_callS (av := [aI v2]) (st := []) hΓ (ct_wX12_isDay _ _ v2 M4 P7 q8) my_X12_isDay ml_RX12_109 rfl (Nat.le_trans (by decide) hh) (by decide) (Nat.le_of_ble_eq_true rfl) rfl dX12_right_9 (fun v Z' hq => ?_)
    obtain ⟨r9, M10, rfl, rfl, hq⟩ := hq
    have h := h r9 M10 hq
    dsimp only at h
    obtain ⟨g11, h⟩ := h
    refine a_if_ne (tgt := 17) hΓ g11 dX12_right_12 (by decide) (fun c12 => ?_) (fun c12 => ?_)
    · rw [if_pos c12] at h
      refine a_iconst hΓ dX12_right_15 ?_
      exact a_iret hΓ hr dX12_right_16 ⟨_, _, rfl, rfl, h⟩
    · rw [if_neg c12] at h
      refine a_aload_n hΓ 0 dX12_right_17 rfl rfl ?_
      refine a_aload_n hΓ 0 dX12_right_18 rfl rfl ?_
      refine a_iload_n hΓ 1 dX12_right_19 rfl rfl ?_
      refine a_iload_n hΓ 2 dX12_right_20 rfl rfl ?_
      obtain ⟨P13, q14, h⟩ := h
      refine n_callV (c := 102) (av := [aI v1, aI v2]) (st := [aR 102]) hΓ (ct_wX12_opening _ _ v1 v2 M10 P13 q14) my_X12_opening ml_RX12_214 ni_X12_opening kd_102 rfl lz_102 rfl (Nat.le_trans (by decide) hh) (by decide) (Nat.le_of_ble_eq_true rfl) rfl dX12_right_21 (fun v Z' hq => ?_)
      obtain ⟨r15, M16, rfl, rfl, hq⟩ := hq
      have h := h r15 M16 hq
      dsimp only at h
      obtain ⟨P17, q18, h⟩ := h
      refine n_callV (c := 102) (av := [aI r15]) (st := []) hΓ (ct_wX12_best _ _ r15 M16 P17 q18) my_X12_best ml_RX12_217 ni_X12_best kd_102 rfl lz_102 rfl (Nat.le_trans (by decide) hh) (by decide) (Nat.le_of_ble_eq_true rfl) rfl dX12_right_24 (fun v Z' hq => ?_)
      obtain ⟨r19, M20, rfl, rfl, hq⟩ := hq
      have h := h r19 M20 hq
      dsimp only at h
      refine a_istore_n (ls' := [(3, aI r19), (0, aR 102), (1, aI v1), (2, aI v2)]) hΓ dX12_right_27 rfl (by decide) rfl ?_
      refine a_aload_n hΓ 1 dX12_right_28 rfl rfl ?_
      refine a_aload_n hΓ 1 dX12_right_29 rfl rfl ?_
      refine n_getI (x := (M20 102 11)) hΓ fl_RX12_207 cl_12 kd_102 lz_102 dX12_right_30 (Or.inl ft_12_11) rfl ?_
      refine n_putI (j := 14) hΓ fl_RX12_43 cl_12 nf_12_14 kd_102 lz_102 dX12_right_33 (Or.inl ft_12_14) rfl ?_
      refine a_iload_n hΓ 0 dX12_right_36 rfl rfl ?_
      exact a_iret hΓ hr dX12_right_37 ⟨_, _, rfl, rfl, h⟩
theorem ct_wX12_right (l : Launch) (g : Gp) (v1 : Int) (v2 : Int) (M : Mm) (Q : Int → Mm → Prop) (h : wX12_right v1 v2 M Q) : Ct l g yX12_right cX12_right 4 (some .int) 35 0 0 [aR 102, aI v1, aI v2] (NC, RF, M) (QI Q) :=
  ct_of (by decide) (Nat.le_of_ble_eq_true rfl) (fun Γ hg hl hr _ hΓ => by subst hg; subst hl; exact s_wX12_right hΓ (by decide) hr v1 v2 M h)
def wX12_isRight (v1 : Int) (M : Mm) (Q : Int → Mm → Prop) : Prop :=
    (inR (M 102 14)) ∧
    (if (M 102 14) = (-1) then
      Q (-1) M
    else
      Bd (wX12_isLog v1 M) (fun r5 M6 =>
      (inR r5) ∧
      (if r5 = 0 then
        Q (-1) M6
      else
        Q (landI (shrI (M6 102 14) v1) 1) M6)))
set_option maxHeartbeats 4000000 in
theorem s_wX12_isRight {Γ : Cx} {h : Nat} (hΓ : Ok Γ cX12_isRight RX12 2 h 0 0) (hh : 3 ≤ h) (hr : (cxm Γ).sig.returnType = (some .int)) {Q : Int → Mm → Prop} (v1 : Int) (M : Mm) (h : wX12_isRight v1 M Q) : Wa Γ 2 (Kf Γ (QI Q) 0 0) 0 0 0 [(0, aR 102), (1, aI v1)] [] (NC, RF, M) := by
  unfold wX12_isRight at h
  refine a_aload_n hΓ 0 dX12_isRight_0 rfl rfl ?_
  refine n_getI (x := (M 102 14)) hΓ fl_RX12_43 cl_12 kd_102 lz_102 dX12_isRight_1 (Or.inl ft_12_14) rfl ?_
  refine a_iconst hΓ dX12_isRight_4 ?_
  obtain ⟨g1, h⟩ := h
  refine a_icmp_eq (tgt := 16) hΓ g1 (inRl (by decide)) dX12_isRight_5 (by decide) (fun c2 => ?_) (fun c2 => ?_)
  · rw [if_pos c2] at h
    refine a_iconst hΓ dX12_isRight_16 ?_
    refine a_goto (tgt := 28) hΓ dX12_isRight_17 (by decide) ?_
    exact a_iret hΓ hr dX12_isRight_28 ⟨_, _, rfl, rfl, h⟩
  · rw [if_neg c2] at h
    refine a_aload_n hΓ 0 dX12_isRight_8 rfl rfl ?_
    refine a_iload_n hΓ 1 dX12_isRight_9 rfl rfl ?_
    obtain ⟨P3, q4, h⟩ := h
    refine n_callV (c := 102) (av := [aI v1]) (st := []) hΓ (ct_wX12_isLog _ _ v1 M P3 q4) my_X12_isLog ml_RX12_154 ni_X12_isLog kd_102 rfl lz_102 rfl (Nat.le_trans (by decide) hh) (by decide) (Nat.le_of_ble_eq_true rfl) rfl dX12_isRight_10 (fun v Z' hq => ?_)
    obtain ⟨r5, M6, rfl, rfl, hq⟩ := hq
    have h := h r5 M6 hq
    dsimp only at h
    obtain ⟨g7, h⟩ := h
    refine a_if_ne (tgt := 20) hΓ g7 dX12_isRight_13 (by decide) (fun c8 => ?_) (fun c8 => ?_)
    · rw [if_pos c8] at h
      refine a_iconst hΓ dX12_isRight_16 ?_
      refine a_goto (tgt := 28) hΓ dX12_isRight_17 (by decide) ?_
      exact a_iret hΓ hr dX12_isRight_28 ⟨_, _, rfl, rfl, h⟩
    · rw [if_neg c8] at h
      refine a_aload_n hΓ 0 dX12_isRight_20 rfl rfl ?_
      refine n_getI (x := (M6 102 14)) hΓ fl_RX12_43 cl_12 kd_102 lz_102 dX12_isRight_21 (Or.inl ft_12_14) rfl ?_
      refine a_iload_n hΓ 1 dX12_isRight_24 rfl rfl ?_
      refine a_ishr hΓ dX12_isRight_25 ?_
      refine a_iconst hΓ dX12_isRight_26 ?_
      refine a_iand hΓ dX12_isRight_27 ?_
      exact a_iret hΓ hr dX12_isRight_28 ⟨_, _, rfl, rfl, h⟩
theorem ct_wX12_isRight (l : Launch) (g : Gp) (v1 : Int) (M : Mm) (Q : Int → Mm → Prop) (h : wX12_isRight v1 M Q) : Ct l g yX12_isRight cX12_isRight 2 (some .int) 3 0 0 [aR 102, aI v1] (NC, RF, M) (QI Q) :=
  ct_of (by decide) (Nat.le_of_ble_eq_true rfl) (fun Γ hg hl hr _ hΓ => by subst hg; subst hl; exact s_wX12_isRight hΓ (by decide) hr v1 M h)
def wX12_puts (v1 : Int) (M : Mm) (Q : Mm → Prop) : Prop :=
    (inR (M 102 18)) ∧
    (if (M 102 18) < 2000 then
      (0 ≤ (M 102 18) ∧ (M 102 18) < 2000) ∧
      Q (up (up M 112 (M 102 18) (i2bI (i2bI v1))) 102 18 ((M 102 18) + 1))
    else
      Q (up M 102 18 ((M 102 18) + 1)))
set_option maxHeartbeats 4000000 in
theorem s_wX12_puts {Γ : Cx} {h : Nat} (hΓ : Ok Γ cX12_puts RX12 2 h 0 0) (hh : 1 ≤ h) (hr : (cxm Γ).sig.returnType = none) {Q : Mm → Prop} (v1 : Int) (M : Mm) (h : wX12_puts v1 M Q) : Wa Γ 2 (Kf Γ (QV Q) 0 0) 0 0 0 [(0, aR 102), (1, aI v1)] [] (NC, RF, M) := by
  unfold wX12_puts at h
  refine a_aload_n hΓ 0 dX12_puts_0 rfl rfl ?_
  refine n_getI (x := (M 102 18)) hΓ fl_RX12_220 cl_12 kd_102 lz_102 dX12_puts_1 (Or.inl ft_12_18) rfl ?_
  refine a_sipush hΓ dX12_puts_4 (by decide) ?_
  obtain ⟨g1, h⟩ := h
  refine a_icmp_ge (tgt := 21) hΓ g1 (inRl (by decide)) dX12_puts_7 (by decide) (fun c2 => ?_) (fun c2 => ?_)
  · rw [if_pos c2] at h
    refine a_aload_n hΓ 0 dX12_puts_10 rfl rfl ?_
    refine n_getR hΓ fl_RX12_50 cl_12 kd_102 lz_102 dX12_puts_11 ft_12_16 rf_102_16 ?_
    refine a_aload_n hΓ 0 dX12_puts_14 rfl rfl ?_
    refine n_getI (x := (M 102 18)) hΓ fl_RX12_220 cl_12 kd_102 lz_102 dX12_puts_15 (Or.inl ft_12_18) rfl ?_
    refine a_iload_n hΓ 1 dX12_puts_18 rfl rfl ?_
    refine a_i2b hΓ dX12_puts_19 ?_
    obtain ⟨g3, h⟩ := h
    refine a_bast hΓ rfl dX12_puts_20 kd_112 lz_112 g3 ?_
    refine a_aload_n hΓ 0 dX12_puts_21 rfl rfl ?_
    refine a_dupR hΓ dX12_puts_22 ?_
    refine n_getI (x := (M 102 18)) hΓ fl_RX12_220 cl_12 kd_102 lz_102 dX12_puts_23 (Or.inl ft_12_18) rfl ?_
    refine a_iconst hΓ dX12_puts_26 ?_
    refine a_iadd hΓ dX12_puts_27 ?_
    refine n_putI (j := 18) hΓ fl_RX12_220 cl_12 nf_12_18 kd_102 lz_102 dX12_puts_28 (Or.inl ft_12_18) rfl ?_
    exact a_vret hΓ hr dX12_puts_31 ⟨_, rfl, rfl, h⟩
  · rw [if_neg c2] at h
    refine a_aload_n hΓ 0 dX12_puts_21 rfl rfl ?_
    refine a_dupR hΓ dX12_puts_22 ?_
    refine n_getI (x := (M 102 18)) hΓ fl_RX12_220 cl_12 kd_102 lz_102 dX12_puts_23 (Or.inl ft_12_18) rfl ?_
    refine a_iconst hΓ dX12_puts_26 ?_
    refine a_iadd hΓ dX12_puts_27 ?_
    refine n_putI (j := 18) hΓ fl_RX12_220 cl_12 nf_12_18 kd_102 lz_102 dX12_puts_28 (Or.inl ft_12_18) rfl ?_
    exact a_vret hΓ hr dX12_puts_31 ⟨_, rfl, rfl, h⟩
theorem ct_wX12_puts (l : Launch) (g : Gp) (v1 : Int) (M : Mm) (Q : Mm → Prop) (h : wX12_puts v1 M Q) : Ct l g yX12_puts cX12_puts 2 none 1 0 0 [aR 102, aI v1] (NC, RF, M) (QV Q) :=
  ct_of (by decide) (Nat.le_of_ble_eq_true rfl) (fun Γ hg hl hr _ hΓ => by subst hg; subst hl; exact s_wX12_puts hΓ (by decide) hr v1 M h)
def wX12_putsLog (v1 : Int) (M : Mm) (Q : Mm → Prop) : Prop :=
    (inR v1) ∧
    (if v1 ≤ 9 then
      Bv (wX12_puts (48 + (Int.tmod v1 10)) M) (fun M6 =>
      Q M6)
    else
      Bv (wX12_puts (48 + (Int.tdiv v1 10)) M) (fun M10 =>
      Bv (wX12_puts (48 + (Int.tmod v1 10)) M10) (fun M14 =>
      Q M14)))
set_option maxHeartbeats 4000000 in
theorem s_wX12_putsLog {Γ : Cx} {h : Nat} (hΓ : Ok Γ cX12_putsLog RX12 2 h 0 0) (hh : 2 ≤ h) (hr : (cxm Γ).sig.returnType = none) {Q : Mm → Prop} (v1 : Int) (M : Mm) (h : wX12_putsLog v1 M Q) : Wa Γ 2 (Kf Γ (QV Q) 0 0) 0 0 0 [(0, aR 102), (1, aI v1)] [] (NC, RF, M) := by
  unfold wX12_putsLog at h
  refine a_iload_n hΓ 1 dX12_putsLog_0 rfl rfl ?_
  refine a_bipush hΓ dX12_putsLog_1 (by decide) ?_
  obtain ⟨g1, h⟩ := h
  refine a_icmp_le (tgt := 17) hΓ g1 (inRl (by decide)) dX12_putsLog_3 (by decide) (fun c2 => ?_) (fun c2 => ?_)
  · rw [if_pos c2] at h
    refine a_aload_n hΓ 0 dX12_putsLog_17 rfl rfl ?_
    refine a_bipush hΓ dX12_putsLog_18 (by decide) ?_
    refine a_iload_n hΓ 1 dX12_putsLog_20 rfl rfl ?_
    refine a_bipush hΓ dX12_putsLog_21 (by decide) ?_
    refine a_irem hΓ g1 (inRl (by decide)) (by decide) dX12_putsLog_23 ?_
    refine a_iadd hΓ dX12_putsLog_24 ?_
    obtain ⟨P3, q4, h⟩ := h
    refine n_callV (c := 102) (av := [aI (48 + (Int.tmod v1 10))]) (st := []) hΓ (ct_wX12_puts _ _ (48 + (Int.tmod v1 10)) M P3 q4) my_X12_puts ml_RX12_223 ni_X12_puts kd_102 rfl lz_102 rfl (Nat.le_trans (by decide) hh) (by decide) (Nat.le_of_ble_eq_true rfl) rfl dX12_putsLog_25 (fun v Z' hq => ?_)
    obtain ⟨M6, rfl, rfl, hq⟩ := hq
    have h := h M6 hq
    dsimp only at h
    exact a_vret hΓ hr dX12_putsLog_28 ⟨_, rfl, rfl, h⟩
  · rw [if_neg c2] at h
    refine a_aload_n hΓ 0 dX12_putsLog_6 rfl rfl ?_
    refine a_bipush hΓ dX12_putsLog_7 (by decide) ?_
    refine a_iload_n hΓ 1 dX12_putsLog_9 rfl rfl ?_
    refine a_bipush hΓ dX12_putsLog_10 (by decide) ?_
    refine a_idiv hΓ g1 (inRl (by decide)) (by decide) dX12_putsLog_12 ?_
    refine a_iadd hΓ dX12_putsLog_13 ?_
    obtain ⟨P7, q8, h⟩ := h
    refine n_callV (c := 102) (av := [aI (48 + (Int.tdiv v1 10))]) (st := []) hΓ (ct_wX12_puts _ _ (48 + (Int.tdiv v1 10)) M P7 q8) my_X12_puts ml_RX12_223 ni_X12_puts kd_102 rfl lz_102 rfl (Nat.le_trans (by decide) hh) (by decide) (Nat.le_of_ble_eq_true rfl) rfl dX12_putsLog_14 (fun v Z' hq => ?_)
    obtain ⟨M10, rfl, rfl, hq⟩ := hq
    have h := h M10 hq
    dsimp only at h
    refine a_aload_n hΓ 0 dX12_putsLog_17 rfl rfl ?_
    refine a_bipush hΓ dX12_putsLog_18 (by decide) ?_
    refine a_iload_n hΓ 1 dX12_putsLog_20 rfl rfl ?_
    refine a_bipush hΓ dX12_putsLog_21 (by decide) ?_
    refine a_irem hΓ g1 (inRl (by decide)) (by decide) dX12_putsLog_23 ?_
    refine a_iadd hΓ dX12_putsLog_24 ?_
    obtain ⟨P11, q12, h⟩ := h
    refine n_callV (c := 102) (av := [aI (48 + (Int.tmod v1 10))]) (st := []) hΓ (ct_wX12_puts _ _ (48 + (Int.tmod v1 10)) M10 P11 q12) my_X12_puts ml_RX12_223 ni_X12_puts kd_102 rfl lz_102 rfl (Nat.le_trans (by decide) hh) (by decide) (Nat.le_of_ble_eq_true rfl) rfl dX12_putsLog_25 (fun v Z' hq => ?_)
    obtain ⟨M14, rfl, rfl, hq⟩ := hq
    have h := h M14 hq
    dsimp only at h
    exact a_vret hΓ hr dX12_putsLog_28 ⟨_, rfl, rfl, h⟩
theorem ct_wX12_putsLog (l : Launch) (g : Gp) (v1 : Int) (M : Mm) (Q : Mm → Prop) (h : wX12_putsLog v1 M Q) : Ct l g yX12_putsLog cX12_putsLog 2 none 2 0 0 [aR 102, aI v1] (NC, RF, M) (QV Q) :=
  ct_of (by decide) (Nat.le_of_ble_eq_true rfl) (fun Γ hg hl hr _ hΓ => by subst hg; subst hl; exact s_wX12_putsLog hΓ (by decide) hr v1 M h)
def wX12_joins_2 (Q : Int → Mm → Prop) (v1 : Int) (v2 : Int) : Nat → Int → Mm → Prop
  | 0, _, _ => False
  | f + 1, v3, M => (inR v3) ∧
    (inR v1) ∧
    (if v3 < v1 then
      (0 ≤ v3 ∧ v3 < 24) ∧
      (inR (M 113 v3)) ∧
      (inR v2) ∧
      (if (M 113 v3) = v2 then
        (0 ≤ v1 ∧ v1 < 24) ∧
        (if (landI (shrI (M 110 v1) v3) 1) = 0 then
          Q 0 M
        else
          (wX12_joins_2 Q v1 v2 f) (v3 + 1) M)
      else
        (wX12_joins_2 Q v1 v2 f) (v3 + 1) M)
    else
      Q 1 M)
set_option maxHeartbeats 4000000 in
theorem s_wX12_joins_2 {Γ : Cx} {h : Nat} (hΓ : Ok Γ cX12_joins RX12 4 h 0 0) (hh : 1 ≤ h) (hr : (cxm Γ).sig.returnType = (some .boolean)) {Q : Int → Mm → Prop} {v1 v2 : Int}   : ∀ (f : Nat) (v3 : Int) (M : Mm), wX12_joins_2 Q v1 v2 f v3 M → Wa Γ 4 (Kf Γ (QI Q) 0 0) 0 0 2 [(0, aR 102), (1, aI v1), (2, aI v2), (3, aI v3)] [] (NC, RF, M) := by
  intro f
  induction f with
  | zero => intro v3 M h; exact h.elim
  | succ f ih =>
    intro v3 M h
    unfold wX12_joins_2 at h
    refine a_iload_n hΓ 3 dX12_joins_2 rfl rfl ?_
    refine a_iload_n hΓ 1 dX12_joins_3 rfl rfl ?_
    obtain ⟨g1, h⟩ := h
    obtain ⟨g2, h⟩ := h
    refine a_icmp_ge (tgt := 38) hΓ g1 g2 dX12_joins_4 (by decide) (fun c3 => ?_) (fun c3 => ?_)
    · rw [if_pos c3] at h
      refine a_aload_n hΓ 0 dX12_joins_7 rfl rfl ?_
      refine n_getR hΓ fl_RX12_56 cl_12 kd_102 lz_102 dX12_joins_8 ft_12_20 rf_102_20 ?_
      refine a_iload_n hΓ 3 dX12_joins_11 rfl rfl ?_
      obtain ⟨g4, h⟩ := h
      refine n_iald (x := (M 113 v3)) hΓ dX12_joins_12 kd_113 lz_113 g4 rfl ?_
      refine a_iload_n hΓ 2 dX12_joins_13 rfl rfl ?_
      obtain ⟨g5, h⟩ := h
      obtain ⟨g6, h⟩ := h
      refine a_icmp_ne (tgt := 32) hΓ g5 g6 dX12_joins_14 (by decide) (fun c7 => ?_) (fun c7 => ?_)
      · rw [if_pos c7] at h
        refine a_aload_n hΓ 0 dX12_joins_17 rfl rfl ?_
        refine n_getR hΓ fl_RX12_40 cl_12 kd_102 lz_102 dX12_joins_18 ft_12_10 rf_102_10 ?_
        refine a_iload_n hΓ 1 dX12_joins_21 rfl rfl ?_
        obtain ⟨g8, h⟩ := h
        refine n_iald (x := (M 110 v1)) hΓ dX12_joins_22 kd_110 lz_110 g8 rfl ?_
        refine a_iload_n hΓ 3 dX12_joins_23 rfl rfl ?_
        refine a_ishr hΓ dX12_joins_24 ?_
        refine a_iconst hΓ dX12_joins_25 ?_
        refine a_iand hΓ dX12_joins_26 ?_
        refine a_if_ne (tgt := 32) hΓ (inR_land _ _) dX12_joins_27 (by decide) (fun c9 => ?_) (fun c9 => ?_)
        · rw [if_pos c9] at h
          refine a_iconst hΓ dX12_joins_30 ?_
          exact a_zret hΓ hr (Or.inl rfl) dX12_joins_31 ⟨_, _, rfl, rfl, h⟩
        · rw [if_neg c9] at h
          refine a_iinc (ls' := [(3, aI (v3 + 1)), (0, aR 102), (1, aI v1), (2, aI v2)]) hΓ 3 dX12_joins_32 rfl (by decide) rfl ?_
          refine a_goto (tgt := 2) hΓ dX12_joins_35 (by decide) ?_
          refine a_sub (ls' := [(0, aR 102), (1, aI v1), (2, aI v2), (3, aI (v3 + 1))]) [1, 2, 3, 0] rfl ?_
          exact ih (v3 + 1) M h
      · rw [if_neg c7] at h
        refine a_iinc (ls' := [(3, aI (v3 + 1)), (0, aR 102), (1, aI v1), (2, aI v2)]) hΓ 3 dX12_joins_32 rfl (by decide) rfl ?_
        refine a_goto (tgt := 2) hΓ dX12_joins_35 (by decide) ?_
        refine a_sub (ls' := [(0, aR 102), (1, aI v1), (2, aI v2), (3, aI (v3 + 1))]) [1, 2, 3, 0] rfl ?_
        exact ih (v3 + 1) M h
    · rw [if_neg c3] at h
      refine a_iconst hΓ dX12_joins_38 ?_
      exact a_zret hΓ hr (Or.inr rfl) dX12_joins_39 ⟨_, _, rfl, rfl, h⟩
def wX12_joins (v1 : Int) (v2 : Int) (M : Mm) (Q : Int → Mm → Prop) : Prop :=
    ∃ n, wX12_joins_2 Q v1 v2 n 0 M
set_option maxHeartbeats 4000000 in
theorem s_wX12_joins {Γ : Cx} {h : Nat} (hΓ : Ok Γ cX12_joins RX12 4 h 0 0) (hh : 1 ≤ h) (hr : (cxm Γ).sig.returnType = (some .boolean)) {Q : Int → Mm → Prop} (v1 : Int) (v2 : Int) (M : Mm) (h : wX12_joins v1 v2 M Q) : Wa Γ 4 (Kf Γ (QI Q) 0 0) 0 0 0 [(0, aR 102), (1, aI v1), (2, aI v2)] [] (NC, RF, M) := by
  unfold wX12_joins at h
  refine a_iconst hΓ dX12_joins_0 ?_
  refine a_istore_n (ls' := [(3, aI 0), (0, aR 102), (1, aI v1), (2, aI v2)]) hΓ dX12_joins_1 rfl (by decide) rfl ?_
  refine a_sub (ls' := [(0, aR 102), (1, aI v1), (2, aI v2), (3, aI 0)]) [1, 2, 3, 0] rfl ?_
  obtain ⟨f1, h⟩ := h
  exact s_wX12_joins_2 hΓ (Nat.le_trans (by decide) hh) hr  f1 0 M h
theorem ct_wX12_joins (l : Launch) (g : Gp) (v1 : Int) (v2 : Int) (M : Mm) (Q : Int → Mm → Prop) (h : wX12_joins v1 v2 M Q) : Ct l g yX12_joins cX12_joins 4 (some .boolean) 1 0 0 [aR 102, aI v1, aI v2] (NC, RF, M) (QI Q) :=
  ct_of (by decide) (Nat.le_of_ble_eq_true rfl) (fun Γ hg hl hr _ hΓ => by subst hg; subst hl; exact s_wX12_joins hΓ (by decide) hr v1 v2 M h)
def wX12_bound_173 (Q : Int → Mm → Prop) (k31 : Int → Int → Mm → Prop) (v1 : Int) (v3 : Int) (v4 : Int) (v5 : Int) (M : Mm) : Prop :=
    k31 (v3 + v5) (v4 + 1) (up M 102 21 ((M 102 21) + 1))
set_option maxHeartbeats 4000000 in
theorem s_wX12_bound_173 {Γ : Cx} {h : Nat} (hΓ : Ok Γ cX12_bound RX12 7 h 0 0) (hh : 2 ≤ h) (hr : (cxm Γ).sig.returnType = (some .int)) {Q : Int → Mm → Prop} {v1 v3 v4 v5 : Int}  {k31 : Int → Int → Mm → Prop} (hk31 : ∀ (v3 : Int) (v4 : Int) (M : Mm), k31 v3 v4 M → Wa Γ 7 (Kf Γ (QI Q) 0 0) 0 0 31 [(0, aR 102), (1, aI v1), (3, aI v3), (4, aI v4)] [] (NC, RF, M)) (M : Mm) (h : wX12_bound_173 Q k31 v1 v3 v4 v5 M) : Wa Γ 7 (Kf Γ (QI Q) 0 0) 0 0 173 [(0, aR 102), (1, aI v1), (3, aI v3), (4, aI v4), (5, aI v5)] [] (NC, RF, M) := by
  unfold wX12_bound_173 at h
  refine a_iload_n hΓ 2 dX12_bound_173 rfl rfl ?_
  refine a_iload hΓ 4 dX12_bound_174 rfl ?_
  refine a_iadd hΓ dX12_bound_176 ?_
  refine a_istore_n (ls' := [(3, aI (v3 + v5)), (0, aR 102), (1, aI v1), (4, aI v4), (5, aI v5)]) hΓ dX12_bound_177 rfl (by decide) rfl ?_
  refine a_aload_n hΓ 1 dX12_bound_178 rfl rfl ?_
  refine a_dupR hΓ dX12_bound_179 ?_
  refine n_getI (x := (M 102 21)) hΓ fl_RX12_227 cl_12 kd_102 lz_102 dX12_bound_180 (Or.inl ft_12_21) rfl ?_
  refine a_iconst hΓ dX12_bound_183 ?_
  refine a_iadd hΓ dX12_bound_184 ?_
  refine n_putI (j := 21) hΓ fl_RX12_227 cl_12 nf_12_21 kd_102 lz_102 dX12_bound_185 (Or.inl ft_12_21) rfl ?_
  refine a_iinc (ls' := [(4, aI (v4 + 1)), (3, aI (v3 + v5)), (0, aR 102), (1, aI v1), (5, aI v5)]) hΓ 3 dX12_bound_188 rfl (by decide) rfl ?_
  refine a_goto (tgt := 31) hΓ dX12_bound_191 (by decide) ?_
  refine a_sub (ls' := [(0, aR 102), (1, aI v1), (3, aI (v3 + v5)), (4, aI (v4 + 1))]) [2, 3, 1, 0] rfl ?_
  exact hk31 (v3 + v5) (v4 + 1) (up M 102 21 ((M 102 21) + 1)) h
def wX12_bound_87 (Q : Int → Mm → Prop) (k31 : Int → Int → Mm → Prop) (v1 : Int) (v3 : Int) (v4 : Int) : Nat → Int → Int → Mm → Prop
  | 0, _, _, _ => False
  | f + 1, v5, v6, M => (inR v6) ∧
    (if v6 < 24 then
      (if (landI (shrI v1 v6) 1) = 0 then
        (wX12_bound_87 Q k31 v1 v3 v4 f) v5 (v6 + 1) M
      else
        (0 ≤ v6 ∧ v6 < 24) ∧
        (inR (M 113 v6)) ∧
        (if (M 113 v6) = (-1) then
          Bd (wX12_joins v6 (M 102 21) M) (fun r9 M10 =>
          (inR r9) ∧
          (if r9 = 0 then
            (wX12_bound_87 Q k31 v1 v3 v4 f) v5 (v6 + 1) M10
          else
            Bd (wX12_logAt v6 4 (up M10 113 v6 (M10 102 21))) (fun r15 M16 =>
            (inR r15) ∧
            (inR v5) ∧
            (if r15 ≤ v5 then
              (wX12_bound_87 Q k31 v1 v3 v4 f) v5 (v6 + 1) M16
            else
              Bd (wX12_logAt v6 4 M16) (fun r22 M23 =>
              (wX12_bound_87 Q k31 v1 v3 v4 f) r22 (v6 + 1) M23)))))
        else
          (wX12_bound_87 Q k31 v1 v3 v4 f) v5 (v6 + 1) M))
    else
      wX12_bound_173 Q k31 v1 v3 v4 v5 M)
set_option maxHeartbeats 4000000 in
theorem s_wX12_bound_87 {Γ : Cx} {h : Nat} (hΓ : Ok Γ cX12_bound RX12 7 h 0 0) (hh : 2 ≤ h) (hr : (cxm Γ).sig.returnType = (some .int)) {Q : Int → Mm → Prop} {v1 v3 v4 : Int}  {k31 : Int → Int → Mm → Prop} (hk31 : ∀ (v3 : Int) (v4 : Int) (M : Mm), k31 v3 v4 M → Wa Γ 7 (Kf Γ (QI Q) 0 0) 0 0 31 [(0, aR 102), (1, aI v1), (3, aI v3), (4, aI v4)] [] (NC, RF, M)) : ∀ (f : Nat) (v5 : Int) (v6 : Int) (M : Mm), wX12_bound_87 Q k31 v1 v3 v4 f v5 v6 M → Wa Γ 7 (Kf Γ (QI Q) 0 0) 0 0 87 [(0, aR 102), (1, aI v1), (3, aI v3), (4, aI v4), (5, aI v5), (6, aI v6)] [] (NC, RF, M) := by
  intro f
  induction f with
  | zero => intro v5 v6 M h; exact h.elim
  | succ f ih =>
    intro v5 v6 M h
    unfold wX12_bound_87 at h
    refine a_iload hΓ 5 dX12_bound_87 rfl ?_
    refine a_bipush hΓ dX12_bound_89 (by decide) ?_
    obtain ⟨g1, h⟩ := h
    refine a_icmp_ge (tgt := 173) hΓ g1 (inRl (by decide)) dX12_bound_91 (by decide) (fun c2 => ?_) (fun c2 => ?_)
    · rw [if_pos c2] at h
      refine a_iload_n hΓ 1 dX12_bound_94 rfl rfl ?_
      refine a_iload hΓ 5 dX12_bound_95 rfl ?_
      refine a_ishr hΓ dX12_bound_97 ?_
      refine a_iconst hΓ dX12_bound_98 ?_
      refine a_iand hΓ dX12_bound_99 ?_
      refine a_if_eq (tgt := 167) hΓ (inR_land _ _) dX12_bound_100 (by decide) (fun c3 => ?_) (fun c3 => ?_)
      · rw [if_pos c3] at h
        refine a_iinc (ls' := [(6, aI (v6 + 1)), (0, aR 102), (1, aI v1), (3, aI v3), (4, aI v4), (5, aI v5)]) hΓ 5 dX12_bound_167 rfl (by decide) rfl ?_
        refine a_goto (tgt := 87) hΓ dX12_bound_170 (by decide) ?_
        refine a_sub (ls' := [(0, aR 102), (1, aI v1), (3, aI v3), (4, aI v4), (5, aI v5), (6, aI (v6 + 1))]) [1, 2, 3, 4, 5, 0] rfl ?_
        exact ih v5 (v6 + 1) M h
      · rw [if_neg c3] at h
        refine a_aload_n hΓ 0 dX12_bound_103 rfl rfl ?_
        refine n_getR hΓ fl_RX12_56 cl_12 kd_102 lz_102 dX12_bound_104 ft_12_20 rf_102_20 ?_
        refine a_iload hΓ 5 dX12_bound_107 rfl ?_
        obtain ⟨g4, h⟩ := h
        refine n_iald (x := (M 113 v6)) hΓ dX12_bound_109 kd_113 lz_113 g4 rfl ?_
        refine a_iconst hΓ dX12_bound_110 ?_
        obtain ⟨g5, h⟩ := h
        refine a_icmp_ne (tgt := 167) hΓ g5 (inRl (by decide)) dX12_bound_111 (by decide) (fun c6 => ?_) (fun c6 => ?_)
        · rw [if_pos c6] at h
          refine a_aload_n hΓ 0 dX12_bound_114 rfl rfl ?_
          refine a_iload hΓ 5 dX12_bound_115 rfl ?_
          refine a_aload_n hΓ 0 dX12_bound_117 rfl rfl ?_
          refine n_getI (x := (M 102 21)) hΓ fl_RX12_227 cl_12 kd_102 lz_102 dX12_bound_118 (Or.inl ft_12_21) rfl ?_
          obtain ⟨P7, q8, h⟩ := h
          refine n_callV (c := 102) (av := [aI v6, aI (M 102 21)]) (st := []) hΓ (ct_wX12_joins _ _ v6 (M 102 21) M P7 q8) my_X12_joins ml_RX12_230 ni_X12_joins kd_102 rfl lz_102 rfl (Nat.le_trans (by decide) hh) (by decide) (Nat.le_of_ble_eq_true rfl) rfl dX12_bound_121 (fun v Z' hq => ?_)
          obtain ⟨r9, M10, rfl, rfl, hq⟩ := hq
          have h := h r9 M10 hq
          dsimp only at h
          obtain ⟨g11, h⟩ := h
          refine a_if_ne (tgt := 130) hΓ g11 dX12_bound_124 (by decide) (fun c12 => ?_) (fun c12 => ?_)
          · rw [if_pos c12] at h
            refine a_goto (tgt := 167) hΓ dX12_bound_127 (by decide) ?_
            refine a_iinc (ls' := [(6, aI (v6 + 1)), (0, aR 102), (1, aI v1), (3, aI v3), (4, aI v4), (5, aI v5)]) hΓ 5 dX12_bound_167 rfl (by decide) rfl ?_
            refine a_goto (tgt := 87) hΓ dX12_bound_170 (by decide) ?_
            refine a_sub (ls' := [(0, aR 102), (1, aI v1), (3, aI v3), (4, aI v4), (5, aI v5), (6, aI (v6 + 1))]) [1, 2, 3, 4, 5, 0] rfl ?_
            exact ih v5 (v6 + 1) M10 h
          · rw [if_neg c12] at h
            refine a_aload_n hΓ 0 dX12_bound_130 rfl rfl ?_
            refine n_getR hΓ fl_RX12_56 cl_12 kd_102 lz_102 dX12_bound_131 ft_12_20 rf_102_20 ?_
            refine a_iload hΓ 5 dX12_bound_134 rfl ?_
            refine a_aload_n hΓ 0 dX12_bound_136 rfl rfl ?_
            refine n_getI (x := (M10 102 21)) hΓ fl_RX12_227 cl_12 kd_102 lz_102 dX12_bound_137 (Or.inl ft_12_21) rfl ?_
            refine a_iast hΓ dX12_bound_140 kd_113 lz_113 g4 ?_
            refine a_aload_n hΓ 0 dX12_bound_141 rfl rfl ?_
            refine a_iload hΓ 5 dX12_bound_142 rfl ?_
            refine a_iconst hΓ dX12_bound_144 ?_
            obtain ⟨P13, q14, h⟩ := h
            refine n_callV (c := 102) (av := [aI v6, aI 4]) (st := []) hΓ (ct_wX12_logAt _ _ v6 4 (up M10 113 v6 (M10 102 21)) P13 q14) my_X12_logAt ml_RX12_151 ni_X12_logAt kd_102 rfl lz_102 rfl (Nat.le_trans (by decide) hh) (by decide) (Nat.le_of_ble_eq_true rfl) rfl dX12_bound_145 (fun v Z' hq => ?_)
            obtain ⟨r15, M16, rfl, rfl, hq⟩ := hq
            have h := h r15 M16 hq
            dsimp only at h
            refine a_iload hΓ 4 dX12_bound_148 rfl ?_
            obtain ⟨g17, h⟩ := h
            obtain ⟨g18, h⟩ := h
            refine a_icmp_le (tgt := 163) hΓ g17 g18 dX12_bound_150 (by decide) (fun c19 => ?_) (fun c19 => ?_)
            · rw [if_pos c19] at h
              refine a_iload hΓ 4 dX12_bound_163 rfl ?_
              refine a_istore (ls' := [(5, aI v5), (0, aR 102), (1, aI v1), (3, aI v3), (4, aI v4), (6, aI v6)]) hΓ dX12_bound_165 (by decide) rfl ?_
              refine a_iinc (ls' := [(6, aI (v6 + 1)), (5, aI v5), (0, aR 102), (1, aI v1), (3, aI v3), (4, aI v4)]) hΓ 5 dX12_bound_167 rfl (by decide) rfl ?_
              refine a_goto (tgt := 87) hΓ dX12_bound_170 (by decide) ?_
              refine a_sub (ls' := [(0, aR 102), (1, aI v1), (3, aI v3), (4, aI v4), (5, aI v5), (6, aI (v6 + 1))]) [2, 3, 4, 5, 1, 0] rfl ?_
              exact ih v5 (v6 + 1) M16 h
            · rw [if_neg c19] at h
              refine a_aload_n hΓ 0 dX12_bound_153 rfl rfl ?_
              refine a_iload hΓ 5 dX12_bound_154 rfl ?_
              refine a_iconst hΓ dX12_bound_156 ?_
              obtain ⟨P20, q21, h⟩ := h
              refine n_callV (c := 102) (av := [aI v6, aI 4]) (st := []) hΓ (ct_wX12_logAt _ _ v6 4 M16 P20 q21) my_X12_logAt ml_RX12_151 ni_X12_logAt kd_102 rfl lz_102 rfl (Nat.le_trans (by decide) hh) (by decide) (Nat.le_of_ble_eq_true rfl) rfl dX12_bound_157 (fun v Z' hq => ?_)
              obtain ⟨r22, M23, rfl, rfl, hq⟩ := hq
              have h := h r22 M23 hq
              dsimp only at h
              refine a_goto (tgt := 165) hΓ dX12_bound_160 (by decide) ?_
              refine a_istore (ls' := [(5, aI r22), (0, aR 102), (1, aI v1), (3, aI v3), (4, aI v4), (6, aI v6)]) hΓ dX12_bound_165 (by decide) rfl ?_
              refine a_iinc (ls' := [(6, aI (v6 + 1)), (5, aI r22), (0, aR 102), (1, aI v1), (3, aI v3), (4, aI v4)]) hΓ 5 dX12_bound_167 rfl (by decide) rfl ?_
              refine a_goto (tgt := 87) hΓ dX12_bound_170 (by decide) ?_
              refine a_sub (ls' := [(0, aR 102), (1, aI v1), (3, aI v3), (4, aI v4), (5, aI r22), (6, aI (v6 + 1))]) [2, 3, 4, 5, 1, 0] rfl ?_
              exact ih r22 (v6 + 1) M23 h
        · rw [if_neg c6] at h
          refine a_iinc (ls' := [(6, aI (v6 + 1)), (0, aR 102), (1, aI v1), (3, aI v3), (4, aI v4), (5, aI v5)]) hΓ 5 dX12_bound_167 rfl (by decide) rfl ?_
          refine a_goto (tgt := 87) hΓ dX12_bound_170 (by decide) ?_
          refine a_sub (ls' := [(0, aR 102), (1, aI v1), (3, aI v3), (4, aI v4), (5, aI v5), (6, aI (v6 + 1))]) [1, 2, 3, 4, 5, 0] rfl ?_
          exact ih v5 (v6 + 1) M h
    · rw [if_neg c2] at h
      refine a_sub (ls' := [(0, aR 102), (1, aI v1), (3, aI v3), (4, aI v4), (5, aI v5)]) [0, 1, 2, 3, 4] rfl ?_
      exact s_wX12_bound_173 hΓ (Nat.le_trans (by decide) hh) hr hk31 M h
def wX12_bound_31 (Q : Int → Mm → Prop) (v1 : Int) : Nat → Int → Int → Mm → Prop
  | 0, _, _, _ => False
  | f + 1, v3, v4, M => (inR v4) ∧
    (if v4 < 24 then
      (if (landI (shrI v1 v4) 1) = 0 then
        (wX12_bound_31 Q v1 f) v3 (v4 + 1) M
      else
        (0 ≤ v4 ∧ v4 < 24) ∧
        (inR (M 113 v4)) ∧
        (if (M 113 v4) = (-1) then
          Bd (wX12_logAt v4 4 (up M 113 v4 (M 102 21))) (fun r9 M10 =>
          ∃ n, wX12_bound_87 Q (wX12_bound_31 Q v1 f) v1 v3 v4 n r9 (v4 + 1) M10)
        else
          (wX12_bound_31 Q v1 f) v3 (v4 + 1) M))
    else
      Q v3 M)
set_option maxHeartbeats 4000000 in
theorem s_wX12_bound_31 {Γ : Cx} {h : Nat} (hΓ : Ok Γ cX12_bound RX12 7 h 0 0) (hh : 2 ≤ h) (hr : (cxm Γ).sig.returnType = (some .int)) {Q : Int → Mm → Prop} {v1 : Int}   : ∀ (f : Nat) (v3 : Int) (v4 : Int) (M : Mm), wX12_bound_31 Q v1 f v3 v4 M → Wa Γ 7 (Kf Γ (QI Q) 0 0) 0 0 31 [(0, aR 102), (1, aI v1), (3, aI v3), (4, aI v4)] [] (NC, RF, M) := by
  intro f
  induction f with
  | zero => intro v3 v4 M h; exact h.elim
  | succ f ih =>
    intro v3 v4 M h
    unfold wX12_bound_31 at h
    refine a_iload hΓ 3 dX12_bound_31 rfl ?_
    refine a_bipush hΓ dX12_bound_33 (by decide) ?_
    obtain ⟨g1, h⟩ := h
    refine a_icmp_ge (tgt := 194) hΓ g1 (inRl (by decide)) dX12_bound_35 (by decide) (fun c2 => ?_) (fun c2 => ?_)
    · rw [if_pos c2] at h
      refine a_iload_n hΓ 1 dX12_bound_38 rfl rfl ?_
      refine a_iload hΓ 3 dX12_bound_39 rfl ?_
      refine a_ishr hΓ dX12_bound_41 ?_
      refine a_iconst hΓ dX12_bound_42 ?_
      refine a_iand hΓ dX12_bound_43 ?_
      refine a_if_eq (tgt := 188) hΓ (inR_land _ _) dX12_bound_44 (by decide) (fun c3 => ?_) (fun c3 => ?_)
      · rw [if_pos c3] at h
        refine a_iinc (ls' := [(4, aI (v4 + 1)), (0, aR 102), (1, aI v1), (3, aI v3)]) hΓ 3 dX12_bound_188 rfl (by decide) rfl ?_
        refine a_goto (tgt := 31) hΓ dX12_bound_191 (by decide) ?_
        refine a_sub (ls' := [(0, aR 102), (1, aI v1), (3, aI v3), (4, aI (v4 + 1))]) [1, 2, 3, 0] rfl ?_
        exact ih v3 (v4 + 1) M h
      · rw [if_neg c3] at h
        refine a_aload_n hΓ 0 dX12_bound_47 rfl rfl ?_
        refine n_getR hΓ fl_RX12_56 cl_12 kd_102 lz_102 dX12_bound_48 ft_12_20 rf_102_20 ?_
        refine a_iload hΓ 3 dX12_bound_51 rfl ?_
        obtain ⟨g4, h⟩ := h
        refine n_iald (x := (M 113 v4)) hΓ dX12_bound_53 kd_113 lz_113 g4 rfl ?_
        refine a_iconst hΓ dX12_bound_54 ?_
        obtain ⟨g5, h⟩ := h
        refine a_icmp_eq (tgt := 61) hΓ g5 (inRl (by decide)) dX12_bound_55 (by decide) (fun c6 => ?_) (fun c6 => ?_)
        · rw [if_pos c6] at h
          refine a_aload_n hΓ 0 dX12_bound_61 rfl rfl ?_
          refine n_getR hΓ fl_RX12_56 cl_12 kd_102 lz_102 dX12_bound_62 ft_12_20 rf_102_20 ?_
          refine a_iload hΓ 3 dX12_bound_65 rfl ?_
          refine a_aload_n hΓ 0 dX12_bound_67 rfl rfl ?_
          refine n_getI (x := (M 102 21)) hΓ fl_RX12_227 cl_12 kd_102 lz_102 dX12_bound_68 (Or.inl ft_12_21) rfl ?_
          refine a_iast hΓ dX12_bound_71 kd_113 lz_113 g4 ?_
          refine a_aload_n hΓ 0 dX12_bound_72 rfl rfl ?_
          refine a_iload hΓ 3 dX12_bound_73 rfl ?_
          refine a_iconst hΓ dX12_bound_75 ?_
          obtain ⟨P7, q8, h⟩ := h
          refine n_callV (c := 102) (av := [aI v4, aI 4]) (st := []) hΓ (ct_wX12_logAt _ _ v4 4 (up M 113 v4 (M 102 21)) P7 q8) my_X12_logAt ml_RX12_151 ni_X12_logAt kd_102 rfl lz_102 rfl (Nat.le_trans (by decide) hh) (by decide) (Nat.le_of_ble_eq_true rfl) rfl dX12_bound_76 (fun v Z' hq => ?_)
          obtain ⟨r9, M10, rfl, rfl, hq⟩ := hq
          have h := h r9 M10 hq
          dsimp only at h
          refine a_istore (ls' := [(5, aI r9), (0, aR 102), (1, aI v1), (3, aI v3), (4, aI v4)]) hΓ dX12_bound_79 (by decide) rfl ?_
          refine a_iload hΓ 4 dX12_bound_81 rfl ?_
          refine a_iconst hΓ dX12_bound_83 ?_
          refine a_iadd hΓ dX12_bound_84 ?_
          refine a_istore (ls' := [(6, aI (v4 + 1)), (5, aI r9), (0, aR 102), (1, aI v1), (3, aI v3), (4, aI v4)]) hΓ dX12_bound_85 (by decide) rfl ?_
          refine a_sub (ls' := [(0, aR 102), (1, aI v1), (3, aI v3), (4, aI v4), (5, aI r9), (6, aI (v4 + 1))]) [2, 3, 4, 5, 1, 0] rfl ?_
          obtain ⟨f11, h⟩ := h
          exact s_wX12_bound_87 hΓ (Nat.le_trans (by decide) hh) hr ih f11 r9 (v4 + 1) M10 h
        · rw [if_neg c6] at h
          refine a_goto (tgt := 188) hΓ dX12_bound_58 (by decide) ?_
          refine a_iinc (ls' := [(4, aI (v4 + 1)), (0, aR 102), (1, aI v1), (3, aI v3)]) hΓ 3 dX12_bound_188 rfl (by decide) rfl ?_
          refine a_goto (tgt := 31) hΓ dX12_bound_191 (by decide) ?_
          refine a_sub (ls' := [(0, aR 102), (1, aI v1), (3, aI v3), (4, aI (v4 + 1))]) [1, 2, 3, 0] rfl ?_
          exact ih v3 (v4 + 1) M h
    · rw [if_neg c2] at h
      refine a_iload_n hΓ 2 dX12_bound_194 rfl rfl ?_
      exact a_iret hΓ hr dX12_bound_195 ⟨_, _, rfl, rfl, h⟩
def wX12_bound_21 (Q : Int → Mm → Prop) (v1 : Int) (v2 : Int) (M : Mm) : Prop :=
    ∃ n, wX12_bound_31 Q v1 n v2 0 (up M 102 21 0)
set_option maxHeartbeats 4000000 in
theorem s_wX12_bound_21 {Γ : Cx} {h : Nat} (hΓ : Ok Γ cX12_bound RX12 7 h 0 0) (hh : 2 ≤ h) (hr : (cxm Γ).sig.returnType = (some .int)) {Q : Int → Mm → Prop} {v1 v2 : Int}   (M : Mm) (h : wX12_bound_21 Q v1 v2 M) : Wa Γ 7 (Kf Γ (QI Q) 0 0) 0 0 21 [(0, aR 102), (1, aI v1), (2, aI v2)] [] (NC, RF, M) := by
  unfold wX12_bound_21 at h
  refine a_aload_n hΓ 0 dX12_bound_21 rfl rfl ?_
  refine a_iconst hΓ dX12_bound_22 ?_
  refine n_putI (j := 21) hΓ fl_RX12_227 cl_12 nf_12_21 kd_102 lz_102 dX12_bound_23 (Or.inl ft_12_21) rfl ?_
  refine a_iload_n hΓ 2 dX12_bound_26 rfl rfl ?_
  refine a_istore_n (ls' := [(3, aI v2), (0, aR 102), (1, aI v1), (2, aI v2)]) hΓ dX12_bound_27 rfl (by decide) rfl ?_
  refine a_iconst hΓ dX12_bound_28 ?_
  refine a_istore (ls' := [(4, aI 0), (3, aI v2), (0, aR 102), (1, aI v1), (2, aI v2)]) hΓ dX12_bound_29 (by decide) rfl ?_
  refine a_sub (ls' := [(0, aR 102), (1, aI v1), (3, aI v2), (4, aI 0)]) [2, 3, 1, 0] rfl ?_
  obtain ⟨f1, h⟩ := h
  exact s_wX12_bound_31 hΓ (Nat.le_trans (by decide) hh) hr  f1 v2 0 (up M 102 21 0) h
def wX12_bound_2 (Q : Int → Mm → Prop) (v1 : Int) (v2 : Int) : Nat → Int → Mm → Prop
  | 0, _, _ => False
  | f + 1, v3, M => (inR v3) ∧
    (if v3 < 24 then
      (0 ≤ v3 ∧ v3 < 24) ∧
      (wX12_bound_2 Q v1 v2 f) (v3 + 1) (up M 113 v3 (-1))
    else
      wX12_bound_21 Q v1 v2 M)
set_option maxHeartbeats 4000000 in
theorem s_wX12_bound_2 {Γ : Cx} {h : Nat} (hΓ : Ok Γ cX12_bound RX12 7 h 0 0) (hh : 2 ≤ h) (hr : (cxm Γ).sig.returnType = (some .int)) {Q : Int → Mm → Prop} {v1 v2 : Int}   : ∀ (f : Nat) (v3 : Int) (M : Mm), wX12_bound_2 Q v1 v2 f v3 M → Wa Γ 7 (Kf Γ (QI Q) 0 0) 0 0 2 [(0, aR 102), (1, aI v1), (2, aI v2), (3, aI v3)] [] (NC, RF, M) := by
  intro f
  induction f with
  | zero => intro v3 M h; exact h.elim
  | succ f ih =>
    intro v3 M h
    unfold wX12_bound_2 at h
    refine a_iload_n hΓ 3 dX12_bound_2 rfl rfl ?_
    refine a_bipush hΓ dX12_bound_3 (by decide) ?_
    obtain ⟨g1, h⟩ := h
    refine a_icmp_ge (tgt := 21) hΓ g1 (inRl (by decide)) dX12_bound_5 (by decide) (fun c2 => ?_) (fun c2 => ?_)
    · rw [if_pos c2] at h
      refine a_aload_n hΓ 0 dX12_bound_8 rfl rfl ?_
      refine n_getR hΓ fl_RX12_56 cl_12 kd_102 lz_102 dX12_bound_9 ft_12_20 rf_102_20 ?_
      refine a_iload_n hΓ 3 dX12_bound_12 rfl rfl ?_
      refine a_iconst hΓ dX12_bound_13 ?_
      obtain ⟨g3, h⟩ := h
      refine a_iast hΓ dX12_bound_14 kd_113 lz_113 g3 ?_
      refine a_iinc (ls' := [(3, aI (v3 + 1)), (0, aR 102), (1, aI v1), (2, aI v2)]) hΓ 3 dX12_bound_15 rfl (by decide) rfl ?_
      refine a_goto (tgt := 2) hΓ dX12_bound_18 (by decide) ?_
      refine a_sub (ls' := [(0, aR 102), (1, aI v1), (2, aI v2), (3, aI (v3 + 1))]) [1, 2, 3, 0] rfl ?_
      exact ih (v3 + 1) (up M 113 v3 (-1)) h
    · rw [if_neg c2] at h
      refine a_sub (ls' := [(0, aR 102), (1, aI v1), (2, aI v2)]) [0, 1, 2] rfl ?_
      exact s_wX12_bound_21 hΓ (Nat.le_trans (by decide) hh) hr  M h
def wX12_bound (v1 : Int) (v2 : Int) (M : Mm) (Q : Int → Mm → Prop) : Prop :=
    ∃ n, wX12_bound_2 Q v1 v2 n 0 M
set_option maxHeartbeats 4000000 in
theorem s_wX12_bound {Γ : Cx} {h : Nat} (hΓ : Ok Γ cX12_bound RX12 7 h 0 0) (hh : 2 ≤ h) (hr : (cxm Γ).sig.returnType = (some .int)) {Q : Int → Mm → Prop} (v1 : Int) (v2 : Int) (M : Mm) (h : wX12_bound v1 v2 M Q) : Wa Γ 7 (Kf Γ (QI Q) 0 0) 0 0 0 [(0, aR 102), (1, aI v1), (2, aI v2)] [] (NC, RF, M) := by
  unfold wX12_bound at h
  refine a_iconst hΓ dX12_bound_0 ?_
  refine a_istore_n (ls' := [(3, aI 0), (0, aR 102), (1, aI v1), (2, aI v2)]) hΓ dX12_bound_1 rfl (by decide) rfl ?_
  refine a_sub (ls' := [(0, aR 102), (1, aI v1), (2, aI v2), (3, aI 0)]) [1, 2, 3, 0] rfl ?_
  obtain ⟨f1, h⟩ := h
  exact s_wX12_bound_2 hΓ (Nat.le_trans (by decide) hh) hr  f1 0 M h
theorem ct_wX12_bound (l : Launch) (g : Gp) (v1 : Int) (v2 : Int) (M : Mm) (Q : Int → Mm → Prop) (h : wX12_bound v1 v2 M Q) : Ct l g yX12_bound cX12_bound 7 (some .int) 2 0 0 [aR 102, aI v1, aI v2] (NC, RF, M) (QI Q) :=
  ct_of (by decide) (Nat.le_of_ble_eq_true rfl) (fun Γ hg hl hr _ hΓ => by subst hg; subst hl; exact s_wX12_bound hΓ (by decide) hr v1 v2 M h)
def wX12_sizeOf_4 (Q : Int → Mm → Prop) (v1 : Int) : Nat → Int → Int → Mm → Prop
  | 0, _, _, _ => False
  | f + 1, v2, v3, M => (inR v3) ∧
    (if v3 < 24 then
      (0 ≤ v3 ∧ v3 < 24) ∧
      (inR (M 113 v3)) ∧
      (inR v1) ∧
      (if (M 113 v3) = v1 then
        (wX12_sizeOf_4 Q v1 f) (v2 + 1) (v3 + 1) M
      else
        (wX12_sizeOf_4 Q v1 f) (v2 + 0) (v3 + 1) M)
    else
      Q v2 M)
set_option maxHeartbeats 4000000 in
theorem s_wX12_sizeOf_4 {Γ : Cx} {h : Nat} (hΓ : Ok Γ cX12_sizeOf RX12 4 h 0 0) (hh : 1 ≤ h) (hr : (cxm Γ).sig.returnType = (some .int)) {Q : Int → Mm → Prop} {v1 : Int}   : ∀ (f : Nat) (v2 : Int) (v3 : Int) (M : Mm), wX12_sizeOf_4 Q v1 f v2 v3 M → Wa Γ 4 (Kf Γ (QI Q) 0 0) 0 0 4 [(0, aR 102), (1, aI v1), (2, aI v2), (3, aI v3)] [] (NC, RF, M) := by
  intro f
  induction f with
  | zero => intro v2 v3 M h; exact h.elim
  | succ f ih =>
    intro v2 v3 M h
    unfold wX12_sizeOf_4 at h
    refine a_iload_n hΓ 3 dX12_sizeOf_4 rfl rfl ?_
    refine a_bipush hΓ dX12_sizeOf_5 (by decide) ?_
    obtain ⟨g1, h⟩ := h
    refine a_icmp_ge (tgt := 34) hΓ g1 (inRl (by decide)) dX12_sizeOf_7 (by decide) (fun c2 => ?_) (fun c2 => ?_)
    · rw [if_pos c2] at h
      refine a_iload_n hΓ 2 dX12_sizeOf_10 rfl rfl ?_
      refine a_aload_n hΓ 0 dX12_sizeOf_11 rfl rfl ?_
      refine n_getR hΓ fl_RX12_56 cl_12 kd_102 lz_102 dX12_sizeOf_12 ft_12_20 rf_102_20 ?_
      refine a_iload_n hΓ 3 dX12_sizeOf_15 rfl rfl ?_
      obtain ⟨g3, h⟩ := h
      refine n_iald (x := (M 113 v3)) hΓ dX12_sizeOf_16 kd_113 lz_113 g3 rfl ?_
      refine a_iload_n hΓ 1 dX12_sizeOf_17 rfl rfl ?_
      obtain ⟨g4, h⟩ := h
      obtain ⟨g5, h⟩ := h
      refine a_icmp_ne (tgt := 25) hΓ g4 g5 dX12_sizeOf_18 (by decide) (fun c6 => ?_) (fun c6 => ?_)
      · rw [if_pos c6] at h
        refine a_iconst hΓ dX12_sizeOf_21 ?_
        refine a_goto (tgt := 26) hΓ dX12_sizeOf_22 (by decide) ?_
        refine a_iadd hΓ dX12_sizeOf_26 ?_
        refine a_istore_n (ls' := [(2, aI (v2 + 1)), (0, aR 102), (1, aI v1), (3, aI v3)]) hΓ dX12_sizeOf_27 rfl (by decide) rfl ?_
        refine a_iinc (ls' := [(3, aI (v3 + 1)), (2, aI (v2 + 1)), (0, aR 102), (1, aI v1)]) hΓ 3 dX12_sizeOf_28 rfl (by decide) rfl ?_
        refine a_goto (tgt := 4) hΓ dX12_sizeOf_31 (by decide) ?_
        refine a_sub (ls' := [(0, aR 102), (1, aI v1), (2, aI (v2 + 1)), (3, aI (v3 + 1))]) [2, 3, 1, 0] rfl ?_
        exact ih (v2 + 1) (v3 + 1) M h
      · rw [if_neg c6] at h
        refine a_iconst hΓ dX12_sizeOf_25 ?_
        refine a_iadd hΓ dX12_sizeOf_26 ?_
        refine a_istore_n (ls' := [(2, aI (v2 + 0)), (0, aR 102), (1, aI v1), (3, aI v3)]) hΓ dX12_sizeOf_27 rfl (by decide) rfl ?_
        refine a_iinc (ls' := [(3, aI (v3 + 1)), (2, aI (v2 + 0)), (0, aR 102), (1, aI v1)]) hΓ 3 dX12_sizeOf_28 rfl (by decide) rfl ?_
        refine a_goto (tgt := 4) hΓ dX12_sizeOf_31 (by decide) ?_
        refine a_sub (ls' := [(0, aR 102), (1, aI v1), (2, aI (v2 + 0)), (3, aI (v3 + 1))]) [2, 3, 1, 0] rfl ?_
        exact ih (v2 + 0) (v3 + 1) M h
    · rw [if_neg c2] at h
      refine a_iload_n hΓ 2 dX12_sizeOf_34 rfl rfl ?_
      exact a_iret hΓ hr dX12_sizeOf_35 ⟨_, _, rfl, rfl, h⟩
def wX12_sizeOf (v1 : Int) (M : Mm) (Q : Int → Mm → Prop) : Prop :=
    ∃ n, wX12_sizeOf_4 Q v1 n 0 0 M
set_option maxHeartbeats 4000000 in
theorem s_wX12_sizeOf {Γ : Cx} {h : Nat} (hΓ : Ok Γ cX12_sizeOf RX12 4 h 0 0) (hh : 1 ≤ h) (hr : (cxm Γ).sig.returnType = (some .int)) {Q : Int → Mm → Prop} (v1 : Int) (M : Mm) (h : wX12_sizeOf v1 M Q) : Wa Γ 4 (Kf Γ (QI Q) 0 0) 0 0 0 [(0, aR 102), (1, aI v1)] [] (NC, RF, M) := by
  unfold wX12_sizeOf at h
  refine a_iconst hΓ dX12_sizeOf_0 ?_
  refine a_istore_n (ls' := [(2, aI 0), (0, aR 102), (1, aI v1)]) hΓ dX12_sizeOf_1 rfl (by decide) rfl ?_
  refine a_iconst hΓ dX12_sizeOf_2 ?_
  refine a_istore_n (ls' := [(3, aI 0), (2, aI 0), (0, aR 102), (1, aI v1)]) hΓ dX12_sizeOf_3 rfl (by decide) rfl ?_
  refine a_sub (ls' := [(0, aR 102), (1, aI v1), (2, aI 0), (3, aI 0)]) [2, 3, 1, 0] rfl ?_
  obtain ⟨f1, h⟩ := h
  exact s_wX12_sizeOf_4 hΓ (Nat.le_trans (by decide) hh) hr  f1 0 0 M h
theorem ct_wX12_sizeOf (l : Launch) (g : Gp) (v1 : Int) (M : Mm) (Q : Int → Mm → Prop) (h : wX12_sizeOf v1 M Q) : Ct l g yX12_sizeOf cX12_sizeOf 4 (some .int) 1 0 0 [aR 102, aI v1] (NC, RF, M) (QI Q) :=
  ct_of (by decide) (Nat.le_of_ble_eq_true rfl) (fun Γ hg hl hr _ hΓ => by subst hg; subst hl; exact s_wX12_sizeOf hΓ (by decide) hr v1 M h)
def wX12_putsGroup_4 (Q : Mm → Prop) (v1 : Int) : Nat → Int → Int → Mm → Prop
  | 0, _, _, _ => False
  | f + 1, v2, v3, M => (inR v3) ∧
    (if v3 < 24 then
      (0 ≤ v3 ∧ v3 < 24) ∧
      (inR (M 113 v3)) ∧
      (inR v1) ∧
      (if (M 113 v3) = v1 then
        (inR v2) ∧
        (if v2 = 0 then
          Bv (wX12_putsLog v3 M) (fun M12 =>
          (wX12_putsGroup_4 Q v1 f) 1 (v3 + 1) M12)
        else
          Bv (wX12_puts 44 M) (fun M16 =>
          Bv (wX12_putsLog v3 M16) (fun M20 =>
          (wX12_putsGroup_4 Q v1 f) 1 (v3 + 1) M20)))
      else
        (wX12_putsGroup_4 Q v1 f) v2 (v3 + 1) M)
    else
      Bv (wX12_puts 59 M) (fun M24 =>
      Q M24))
set_option maxHeartbeats 4000000 in
theorem s_wX12_putsGroup_4 {Γ : Cx} {h : Nat} (hΓ : Ok Γ cX12_putsGroup RX12 4 h 0 0) (hh : 3 ≤ h) (hr : (cxm Γ).sig.returnType = none) {Q : Mm → Prop} {v1 : Int}   : ∀ (f : Nat) (v2 : Int) (v3 : Int) (M : Mm), wX12_putsGroup_4 Q v1 f v2 v3 M → Wa Γ 4 (Kf Γ (QV Q) 0 0) 0 0 4 [(0, aR 102), (1, aI v1), (2, aI v2), (3, aI v3)] [] (NC, RF, M) := by
  intro f
  induction f with
  | zero => intro v2 v3 M h; exact h.elim
  | succ f ih =>
    intro v2 v3 M h
    unfold wX12_putsGroup_4 at h
    refine a_iload_n hΓ 3 dX12_putsGroup_4 rfl rfl ?_
    refine a_bipush hΓ dX12_putsGroup_5 (by decide) ?_
    obtain ⟨g1, h⟩ := h
    refine a_icmp_ge (tgt := 46) hΓ g1 (inRl (by decide)) dX12_putsGroup_7 (by decide) (fun c2 => ?_) (fun c2 => ?_)
    · rw [if_pos c2] at h
      refine a_aload_n hΓ 0 dX12_putsGroup_10 rfl rfl ?_
      refine n_getR hΓ fl_RX12_56 cl_12 kd_102 lz_102 dX12_putsGroup_11 ft_12_20 rf_102_20 ?_
      refine a_iload_n hΓ 3 dX12_putsGroup_14 rfl rfl ?_
      obtain ⟨g3, h⟩ := h
      refine n_iald (x := (M 113 v3)) hΓ dX12_putsGroup_15 kd_113 lz_113 g3 rfl ?_
      refine a_iload_n hΓ 1 dX12_putsGroup_16 rfl rfl ?_
      obtain ⟨g4, h⟩ := h
      obtain ⟨g5, h⟩ := h
      refine a_icmp_eq (tgt := 23) hΓ g4 g5 dX12_putsGroup_17 (by decide) (fun c6 => ?_) (fun c6 => ?_)
      · rw [if_pos c6] at h
        refine a_iload_n hΓ 2 dX12_putsGroup_23 rfl rfl ?_
        obtain ⟨g7, h⟩ := h
        refine a_if_eq (tgt := 33) hΓ g7 dX12_putsGroup_24 (by decide) (fun c8 => ?_) (fun c8 => ?_)
        · rw [if_pos c8] at h
          refine a_aload_n hΓ 0 dX12_putsGroup_33 rfl rfl ?_
          refine a_iload_n hΓ 3 dX12_putsGroup_34 rfl rfl ?_
          obtain ⟨P9, q10, h⟩ := h
          refine n_callV (c := 102) (av := [aI v3]) (st := []) hΓ (ct_wX12_putsLog _ _ v3 M P9 q10) my_X12_putsLog ml_RX12_245 ni_X12_putsLog kd_102 rfl lz_102 rfl (Nat.le_trans (by decide) hh) (by decide) (Nat.le_of_ble_eq_true rfl) rfl dX12_putsGroup_35 (fun v Z' hq => ?_)
          obtain ⟨M12, rfl, rfl, hq⟩ := hq
          have h := h M12 hq
          dsimp only at h
          refine a_iconst hΓ dX12_putsGroup_38 ?_
          refine a_istore_n (ls' := [(2, aI 1), (0, aR 102), (1, aI v1), (3, aI v3)]) hΓ dX12_putsGroup_39 rfl (by decide) rfl ?_
          refine a_iinc (ls' := [(3, aI (v3 + 1)), (2, aI 1), (0, aR 102), (1, aI v1)]) hΓ 3 dX12_putsGroup_40 rfl (by decide) rfl ?_
          refine a_goto (tgt := 4) hΓ dX12_putsGroup_43 (by decide) ?_
          refine a_sub (ls' := [(0, aR 102), (1, aI v1), (2, aI 1), (3, aI (v3 + 1))]) [2, 3, 1, 0] rfl ?_
          exact ih 1 (v3 + 1) M12 h
        · rw [if_neg c8] at h
          refine a_aload_n hΓ 0 dX12_putsGroup_27 rfl rfl ?_
          refine a_bipush hΓ dX12_putsGroup_28 (by decide) ?_
          obtain ⟨P13, q14, h⟩ := h
          refine n_callV (c := 102) (av := [aI 44]) (st := []) hΓ (ct_wX12_puts _ _ 44 M P13 q14) my_X12_puts ml_RX12_223 ni_X12_puts kd_102 rfl lz_102 rfl (Nat.le_trans (by decide) hh) (by decide) (Nat.le_of_ble_eq_true rfl) rfl dX12_putsGroup_30 (fun v Z' hq => ?_)
          obtain ⟨M16, rfl, rfl, hq⟩ := hq
          have h := h M16 hq
          dsimp only at h
          refine a_aload_n hΓ 0 dX12_putsGroup_33 rfl rfl ?_
          refine a_iload_n hΓ 3 dX12_putsGroup_34 rfl rfl ?_
          obtain ⟨P17, q18, h⟩ := h
          refine n_callV (c := 102) (av := [aI v3]) (st := []) hΓ (ct_wX12_putsLog _ _ v3 M16 P17 q18) my_X12_putsLog ml_RX12_245 ni_X12_putsLog kd_102 rfl lz_102 rfl (Nat.le_trans (by decide) hh) (by decide) (Nat.le_of_ble_eq_true rfl) rfl dX12_putsGroup_35 (fun v Z' hq => ?_)
          obtain ⟨M20, rfl, rfl, hq⟩ := hq
          have h := h M20 hq
          dsimp only at h
          refine a_iconst hΓ dX12_putsGroup_38 ?_
          refine a_istore_n (ls' := [(2, aI 1), (0, aR 102), (1, aI v1), (3, aI v3)]) hΓ dX12_putsGroup_39 rfl (by decide) rfl ?_
          refine a_iinc (ls' := [(3, aI (v3 + 1)), (2, aI 1), (0, aR 102), (1, aI v1)]) hΓ 3 dX12_putsGroup_40 rfl (by decide) rfl ?_
          refine a_goto (tgt := 4) hΓ dX12_putsGroup_43 (by decide) ?_
          refine a_sub (ls' := [(0, aR 102), (1, aI v1), (2, aI 1), (3, aI (v3 + 1))]) [2, 3, 1, 0] rfl ?_
          exact ih 1 (v3 + 1) M20 h
      · rw [if_neg c6] at h
        refine a_goto (tgt := 40) hΓ dX12_putsGroup_20 (by decide) ?_
        refine a_iinc (ls' := [(3, aI (v3 + 1)), (0, aR 102), (1, aI v1), (2, aI v2)]) hΓ 3 dX12_putsGroup_40 rfl (by decide) rfl ?_
        refine a_goto (tgt := 4) hΓ dX12_putsGroup_43 (by decide) ?_
        refine a_sub (ls' := [(0, aR 102), (1, aI v1), (2, aI v2), (3, aI (v3 + 1))]) [1, 2, 3, 0] rfl ?_
        exact ih v2 (v3 + 1) M h
    · rw [if_neg c2] at h
      refine a_aload_n hΓ 0 dX12_putsGroup_46 rfl rfl ?_
      refine a_bipush hΓ dX12_putsGroup_47 (by decide) ?_
      obtain ⟨P21, q22, h⟩ := h
      refine n_callV (c := 102) (av := [aI 59]) (st := []) hΓ (ct_wX12_puts _ _ 59 M P21 q22) my_X12_puts ml_RX12_223 ni_X12_puts kd_102 rfl lz_102 rfl (Nat.le_trans (by decide) hh) (by decide) (Nat.le_of_ble_eq_true rfl) rfl dX12_putsGroup_49 (fun v Z' hq => ?_)
      obtain ⟨M24, rfl, rfl, hq⟩ := hq
      have h := h M24 hq
      dsimp only at h
      exact a_vret hΓ hr dX12_putsGroup_52 ⟨_, rfl, rfl, h⟩
def wX12_putsGroup (v1 : Int) (M : Mm) (Q : Mm → Prop) : Prop :=
    ∃ n, wX12_putsGroup_4 Q v1 n 0 0 M
set_option maxHeartbeats 4000000 in
theorem s_wX12_putsGroup {Γ : Cx} {h : Nat} (hΓ : Ok Γ cX12_putsGroup RX12 4 h 0 0) (hh : 3 ≤ h) (hr : (cxm Γ).sig.returnType = none) {Q : Mm → Prop} (v1 : Int) (M : Mm) (h : wX12_putsGroup v1 M Q) : Wa Γ 4 (Kf Γ (QV Q) 0 0) 0 0 0 [(0, aR 102), (1, aI v1)] [] (NC, RF, M) := by
  unfold wX12_putsGroup at h
  refine a_iconst hΓ dX12_putsGroup_0 ?_
  refine a_istore_n (ls' := [(2, aI 0), (0, aR 102), (1, aI v1)]) hΓ dX12_putsGroup_1 rfl (by decide) rfl ?_
  refine a_iconst hΓ dX12_putsGroup_2 ?_
  refine a_istore_n (ls' := [(3, aI 0), (2, aI 0), (0, aR 102), (1, aI v1)]) hΓ dX12_putsGroup_3 rfl (by decide) rfl ?_
  refine a_sub (ls' := [(0, aR 102), (1, aI v1), (2, aI 0), (3, aI 0)]) [2, 3, 1, 0] rfl ?_
  obtain ⟨f1, h⟩ := h
  exact s_wX12_putsGroup_4 hΓ (Nat.le_trans (by decide) hh) hr  f1 0 0 M h
theorem ct_wX12_putsGroup (l : Launch) (g : Gp) (v1 : Int) (M : Mm) (Q : Mm → Prop) (h : wX12_putsGroup v1 M Q) : Ct l g yX12_putsGroup cX12_putsGroup 4 none 3 0 0 [aR 102, aI v1] (NC, RF, M) (QV Q) :=
  ct_of (by decide) (Nat.le_of_ble_eq_true rfl) (fun Γ hg hl hr _ hΓ => by subst hg; subst hl; exact s_wX12_putsGroup hΓ (by decide) hr v1 M h)
def wX12_proves_129 (Q : Mm → Prop) (rc : Int → Int → Mm → (Mm → Prop) → Prop) (v1 : Int) (v2 : Int) (v3 : Int) (M : Mm) : Prop :=
    Bv (wX12_puts 40 M) (fun M4 =>
    Bv (wX12_putsLog v3 M4) (fun M8 =>
    (0 ≤ v3 ∧ v3 < 24) ∧
    Bd (wX12_logAt v3 4 M8) (fun r12 M13 =>
    Bv (rc (landI v1 (lxorI (lorI (shlI 1 v3) (M8 110 v3)) (-1))) (v2 + r12) M13) (fun M17 =>
    Bv (rc (landI v1 (lxorI (shlI 1 v3) (-1))) v2 M17) (fun M21 =>
    Bv (wX12_puts 41 M21) (fun M25 =>
    Q M25))))))
set_option maxHeartbeats 4000000 in
theorem s_wX12_proves_129 {Γ : Cx} {h : Nat} (hΓ : Ok Γ cX12_proves RX12 5 h 0 0) (hh : 4 ≤ h) (hr : (cxm Γ).sig.returnType = none) {Q : Mm → Prop} {v1 v2 v3 : Int} {rc : Int → Int → Mm → (Mm → Prop) → Prop} {h0 : Nat} (hrc : ∀ (a0 : Int) (a1 : Int) (M : Mm) (Q : Mm → Prop), rc a0 a1 M Q → Ct (cxl Γ) (cxg Γ) yX12_proves cX12_proves 5 none h0 0 0 [aR 102, aI a0, aI a1] (NC, RF, M) (QV Q)) (hh0 : h0 + 1 ≤ h)  (M : Mm) (h : wX12_proves_129 Q rc v1 v2 v3 M) : Wa Γ 5 (Kf Γ (QV Q) 0 0) 0 0 129 [(0, aR 102), (1, aI v1), (2, aI v2), (3, aI v3)] [] (NC, RF, M) := by
  unfold wX12_proves_129 at h
  refine a_aload_n hΓ 0 dX12_proves_129 rfl rfl ?_
  refine a_bipush hΓ dX12_proves_130 (by decide) ?_
  obtain ⟨P1, q2, h⟩ := h
  refine n_callV (c := 102) (av := [aI 40]) (st := []) hΓ (ct_wX12_puts _ _ 40 M P1 q2) my_X12_puts ml_RX12_223 ni_X12_puts kd_102 rfl lz_102 rfl (Nat.le_trans (by decide) hh) (by decide) (Nat.le_of_ble_eq_true rfl) rfl dX12_proves_132 (fun v Z' hq => ?_)
  obtain ⟨M4, rfl, rfl, hq⟩ := hq
  have h := h M4 hq
  dsimp only at h
  refine a_aload_n hΓ 0 dX12_proves_135 rfl rfl ?_
  refine a_iload_n hΓ 3 dX12_proves_136 rfl rfl ?_
  obtain ⟨P5, q6, h⟩ := h
  refine n_callV (c := 102) (av := [aI v3]) (st := []) hΓ (ct_wX12_putsLog _ _ v3 M4 P5 q6) my_X12_putsLog ml_RX12_245 ni_X12_putsLog kd_102 rfl lz_102 rfl (Nat.le_trans (by decide) hh) (by decide) (Nat.le_of_ble_eq_true rfl) rfl dX12_proves_137 (fun v Z' hq => ?_)
  obtain ⟨M8, rfl, rfl, hq⟩ := hq
  have h := h M8 hq
  dsimp only at h
  refine a_aload_n hΓ 0 dX12_proves_140 rfl rfl ?_
  refine a_iload_n hΓ 1 dX12_proves_141 rfl rfl ?_
  refine a_iconst hΓ dX12_proves_142 ?_
  refine a_iload_n hΓ 3 dX12_proves_143 rfl rfl ?_
  refine a_ishl hΓ dX12_proves_144 ?_
  refine a_aload_n hΓ 0 dX12_proves_145 rfl rfl ?_
  refine n_getR hΓ fl_RX12_40 cl_12 kd_102 lz_102 dX12_proves_146 ft_12_10 rf_102_10 ?_
  refine a_iload_n hΓ 3 dX12_proves_149 rfl rfl ?_
  obtain ⟨g9, h⟩ := h
  refine n_iald (x := (M8 110 v3)) hΓ dX12_proves_150 kd_110 lz_110 g9 rfl ?_
  refine a_ior hΓ dX12_proves_151 ?_
  refine a_iconst hΓ dX12_proves_152 ?_
  refine a_ixor hΓ dX12_proves_153 ?_
  refine a_iand hΓ dX12_proves_154 ?_
  refine a_iload_n hΓ 2 dX12_proves_155 rfl rfl ?_
  refine a_aload_n hΓ 0 dX12_proves_156 rfl rfl ?_
  refine a_iload_n hΓ 3 dX12_proves_157 rfl rfl ?_
  refine a_iconst hΓ dX12_proves_158 ?_
  obtain ⟨P10, q11, h⟩ := h
  refine n_callV (c := 102) (av := [aI v3, aI 4]) (st := [aI v2, aI (landI v1 (lxorI (lorI (shlI 1 v3) (M8 110 v3)) (-1))), aR 102]) hΓ (ct_wX12_logAt _ _ v3 4 M8 P10 q11) my_X12_logAt ml_RX12_151 ni_X12_logAt kd_102 rfl lz_102 rfl (Nat.le_trans (by decide) hh) (by decide) (Nat.le_of_ble_eq_true rfl) rfl dX12_proves_159 (fun v Z' hq => ?_)
  obtain ⟨r12, M13, rfl, rfl, hq⟩ := hq
  have h := h r12 M13 hq
  dsimp only at h
  refine a_iadd hΓ dX12_proves_162 ?_
  obtain ⟨P14, q15, h⟩ := h
  refine n_callV (c := 102) (av := [aI (landI v1 (lxorI (lorI (shlI 1 v3) (M8 110 v3)) (-1))), aI (v2 + r12)]) (st := []) hΓ (hrc (landI v1 (lxorI (lorI (shlI 1 v3) (M8 110 v3)) (-1))) (v2 + r12) M13 P14 q15) my_X12_proves ml_RX12_248 ni_X12_proves kd_102 rfl lz_102 rfl hh0 (by decide) (Nat.le_of_ble_eq_true rfl) rfl dX12_proves_163 (fun v Z' hq => ?_)
  obtain ⟨M17, rfl, rfl, hq⟩ := hq
  have h := h M17 hq
  dsimp only at h
  refine a_aload_n hΓ 0 dX12_proves_166 rfl rfl ?_
  refine a_iload_n hΓ 1 dX12_proves_167 rfl rfl ?_
  refine a_iconst hΓ dX12_proves_168 ?_
  refine a_iload_n hΓ 3 dX12_proves_169 rfl rfl ?_
  refine a_ishl hΓ dX12_proves_170 ?_
  refine a_iconst hΓ dX12_proves_171 ?_
  refine a_ixor hΓ dX12_proves_172 ?_
  refine a_iand hΓ dX12_proves_173 ?_
  refine a_iload_n hΓ 2 dX12_proves_174 rfl rfl ?_
  obtain ⟨P18, q19, h⟩ := h
  refine n_callV (c := 102) (av := [aI (landI v1 (lxorI (shlI 1 v3) (-1))), aI v2]) (st := []) hΓ (hrc (landI v1 (lxorI (shlI 1 v3) (-1))) v2 M17 P18 q19) my_X12_proves ml_RX12_248 ni_X12_proves kd_102 rfl lz_102 rfl hh0 (by decide) (Nat.le_of_ble_eq_true rfl) rfl dX12_proves_175 (fun v Z' hq => ?_)
  obtain ⟨M21, rfl, rfl, hq⟩ := hq
  have h := h M21 hq
  dsimp only at h
  refine a_aload_n hΓ 0 dX12_proves_178 rfl rfl ?_
  refine a_bipush hΓ dX12_proves_179 (by decide) ?_
  obtain ⟨P22, q23, h⟩ := h
  refine n_callV (c := 102) (av := [aI 41]) (st := []) hΓ (ct_wX12_puts _ _ 41 M21 P22 q23) my_X12_puts ml_RX12_223 ni_X12_puts kd_102 rfl lz_102 rfl (Nat.le_trans (by decide) hh) (by decide) (Nat.le_of_ble_eq_true rfl) rfl dX12_proves_181 (fun v Z' hq => ?_)
  obtain ⟨M25, rfl, rfl, hq⟩ := hq
  have h := h M25 hq
  dsimp only at h
  exact a_vret hΓ hr dX12_proves_184 ⟨_, rfl, rfl, h⟩
def wX12_proves_72 (Q : Mm → Prop) (rc : Int → Int → Mm → (Mm → Prop) → Prop) (v1 : Int) (v2 : Int) : Nat → Int → Int → Mm → Prop
  | 0, _, _, _ => False
  | f + 1, v3, v4, M => (inR v4) ∧
    (if v4 < 24 then
      (if (landI (shrI v1 v4) 1) = 1 then
        (inR v3) ∧
        (if v3 = (-1) then
          (wX12_proves_72 Q rc v1 v2 f) v4 (v4 + 1) M
        else
          (0 ≤ v4 ∧ v4 < 24) ∧
          Bd (wX12_ones (landI (M 110 v4) v1) M) (fun r9 M10 =>
          (0 ≤ v3 ∧ v3 < 24) ∧
          Bd (wX12_ones (landI (M10 110 v3) v1) M10) (fun r14 M15 =>
          (inR r9) ∧
          (inR r14) ∧
          (if r9 ≤ r14 then
            (wX12_proves_72 Q rc v1 v2 f) v3 (v4 + 1) M15
          else
            (wX12_proves_72 Q rc v1 v2 f) v4 (v4 + 1) M15))))
      else
        (wX12_proves_72 Q rc v1 v2 f) v3 (v4 + 1) M)
    else
      wX12_proves_129 Q rc v1 v2 v3 M)
set_option maxHeartbeats 4000000 in
theorem s_wX12_proves_72 {Γ : Cx} {h : Nat} (hΓ : Ok Γ cX12_proves RX12 5 h 0 0) (hh : 4 ≤ h) (hr : (cxm Γ).sig.returnType = none) {Q : Mm → Prop} {v1 v2 : Int} {rc : Int → Int → Mm → (Mm → Prop) → Prop} {h0 : Nat} (hrc : ∀ (a0 : Int) (a1 : Int) (M : Mm) (Q : Mm → Prop), rc a0 a1 M Q → Ct (cxl Γ) (cxg Γ) yX12_proves cX12_proves 5 none h0 0 0 [aR 102, aI a0, aI a1] (NC, RF, M) (QV Q)) (hh0 : h0 + 1 ≤ h)  : ∀ (f : Nat) (v3 : Int) (v4 : Int) (M : Mm), wX12_proves_72 Q rc v1 v2 f v3 v4 M → Wa Γ 5 (Kf Γ (QV Q) 0 0) 0 0 72 [(0, aR 102), (1, aI v1), (2, aI v2), (3, aI v3), (4, aI v4)] [] (NC, RF, M) := by
  intro f
  induction f with
  | zero => intro v3 v4 M h; exact h.elim
  | succ f ih =>
    intro v3 v4 M h
    unfold wX12_proves_72 at h
    refine a_iload hΓ 4 dX12_proves_72 rfl ?_
    refine a_bipush hΓ dX12_proves_74 (by decide) ?_
    obtain ⟨g1, h⟩ := h
    refine a_icmp_ge (tgt := 129) hΓ g1 (inRl (by decide)) dX12_proves_76 (by decide) (fun c2 => ?_) (fun c2 => ?_)
    · rw [if_pos c2] at h
      refine a_iload_n hΓ 1 dX12_proves_79 rfl rfl ?_
      refine a_iload hΓ 4 dX12_proves_80 rfl ?_
      refine a_ishr hΓ dX12_proves_82 ?_
      refine a_iconst hΓ dX12_proves_83 ?_
      refine a_iand hΓ dX12_proves_84 ?_
      refine a_iconst hΓ dX12_proves_85 ?_
      refine a_icmp_ne (tgt := 123) hΓ (inR_land _ _) (inRl (by decide)) dX12_proves_86 (by decide) (fun c3 => ?_) (fun c3 => ?_)
      · rw [if_pos c3] at h
        refine a_iload_n hΓ 3 dX12_proves_89 rfl rfl ?_
        refine a_iconst hΓ dX12_proves_90 ?_
        obtain ⟨g4, h⟩ := h
        refine a_icmp_eq (tgt := 120) hΓ g4 (inRl (by decide)) dX12_proves_91 (by decide) (fun c5 => ?_) (fun c5 => ?_)
        · rw [if_pos c5] at h
          refine a_iload hΓ 4 dX12_proves_120 rfl ?_
          refine a_istore_n (ls' := [(3, aI v4), (0, aR 102), (1, aI v1), (2, aI v2), (4, aI v4)]) hΓ dX12_proves_122 rfl (by decide) rfl ?_
          refine a_iinc (ls' := [(4, aI (v4 + 1)), (3, aI v4), (0, aR 102), (1, aI v1), (2, aI v2)]) hΓ 4 dX12_proves_123 rfl (by decide) rfl ?_
          refine a_goto (tgt := 72) hΓ dX12_proves_126 (by decide) ?_
          refine a_sub (ls' := [(0, aR 102), (1, aI v1), (2, aI v2), (3, aI v4), (4, aI (v4 + 1))]) [2, 3, 4, 1, 0] rfl ?_
          exact ih v4 (v4 + 1) M h
        · rw [if_neg c5] at h
          refine a_aload_n hΓ 0 dX12_proves_94 rfl rfl ?_
          refine n_getR hΓ fl_RX12_40 cl_12 kd_102 lz_102 dX12_proves_95 ft_12_10 rf_102_10 ?_
          refine a_iload hΓ 4 dX12_proves_98 rfl ?_
          obtain ⟨g6, h⟩ := h
          refine n_iald (x := (M 110 v4)) hΓ dX12_proves_100 kd_110 lz_110 g6 rfl ?_
          refine a_iload_n hΓ 1 dX12_proves_101 rfl rfl ?_
          refine a_iand hΓ dX12_proves_102 ?_
          obtain ⟨P7, q8, h⟩ := h
          refine n_callS (av := [aI (landI (M 110 v4) v1)]) (st := []) hΓ (ct_wX12_ones _ _ (landI (M 110 v4) v1) M P7 q8) my_X12_ones ml_RX12_201 rfl (Nat.le_trans (by decide) hh) (by decide) (Nat.le_of_ble_eq_true rfl) rfl dX12_proves_103 (fun v Z' hq => ?_)
          obtain ⟨r9, M10, rfl, rfl, hq⟩ := hq
          have h := h r9 M10 hq
          dsimp only at h
          refine a_aload_n hΓ 0 dX12_proves_106 rfl rfl ?_
          refine n_getR hΓ fl_RX12_40 cl_12 kd_102 lz_102 dX12_proves_107 ft_12_10 rf_102_10 ?_
          refine a_iload_n hΓ 3 dX12_proves_110 rfl rfl ?_
          obtain ⟨g11, h⟩ := h
          refine n_iald (x := (M10 110 v3)) hΓ dX12_proves_111 kd_110 lz_110 g11 rfl ?_
          refine a_iload_n hΓ 1 dX12_proves_112 rfl rfl ?_
          refine a_iand hΓ dX12_proves_113 ?_
          obtain ⟨P12, q13, h⟩ := h
          refine n_callS (av := [aI (landI (M10 110 v3) v1)]) (st := [aI r9]) hΓ (ct_wX12_ones _ _ (landI (M10 110 v3) v1) M10 P12 q13) my_X12_ones ml_RX12_201 rfl (Nat.le_trans (by decide) hh) (by decide) (Nat.le_of_ble_eq_true rfl) rfl dX12_proves_114 (fun v Z' hq => ?_)
          obtain ⟨r14, M15, rfl, rfl, hq⟩ := hq
          have h := h r14 M15 hq
          dsimp only at h
          obtain ⟨g16, h⟩ := h
          obtain ⟨g17, h⟩ := h
          refine a_icmp_le (tgt := 123) hΓ g16 g17 dX12_proves_117 (by decide) (fun c18 => ?_) (fun c18 => ?_)
          · rw [if_pos c18] at h
            refine a_iinc (ls' := [(4, aI (v4 + 1)), (0, aR 102), (1, aI v1), (2, aI v2), (3, aI v3)]) hΓ 4 dX12_proves_123 rfl (by decide) rfl ?_
            refine a_goto (tgt := 72) hΓ dX12_proves_126 (by decide) ?_
            refine a_sub (ls' := [(0, aR 102), (1, aI v1), (2, aI v2), (3, aI v3), (4, aI (v4 + 1))]) [1, 2, 3, 4, 0] rfl ?_
            exact ih v3 (v4 + 1) M15 h
          · rw [if_neg c18] at h
            refine a_iload hΓ 4 dX12_proves_120 rfl ?_
            refine a_istore_n (ls' := [(3, aI v4), (0, aR 102), (1, aI v1), (2, aI v2), (4, aI v4)]) hΓ dX12_proves_122 rfl (by decide) rfl ?_
            refine a_iinc (ls' := [(4, aI (v4 + 1)), (3, aI v4), (0, aR 102), (1, aI v1), (2, aI v2)]) hΓ 4 dX12_proves_123 rfl (by decide) rfl ?_
            refine a_goto (tgt := 72) hΓ dX12_proves_126 (by decide) ?_
            refine a_sub (ls' := [(0, aR 102), (1, aI v1), (2, aI v2), (3, aI v4), (4, aI (v4 + 1))]) [2, 3, 4, 1, 0] rfl ?_
            exact ih v4 (v4 + 1) M15 h
      · rw [if_neg c3] at h
        refine a_iinc (ls' := [(4, aI (v4 + 1)), (0, aR 102), (1, aI v1), (2, aI v2), (3, aI v3)]) hΓ 4 dX12_proves_123 rfl (by decide) rfl ?_
        refine a_goto (tgt := 72) hΓ dX12_proves_126 (by decide) ?_
        refine a_sub (ls' := [(0, aR 102), (1, aI v1), (2, aI v2), (3, aI v3), (4, aI (v4 + 1))]) [1, 2, 3, 4, 0] rfl ?_
        exact ih v3 (v4 + 1) M h
    · rw [if_neg c2] at h
      refine a_sub (ls' := [(0, aR 102), (1, aI v1), (2, aI v2), (3, aI v3)]) [0, 1, 2, 3] rfl ?_
      exact s_wX12_proves_129 hΓ (Nat.le_trans (by decide) hh) hr hrc hh0  M h
def wX12_proves_32 (Q : Mm → Prop) (rc : Int → Int → Mm → (Mm → Prop) → Prop) : Nat → Int → Mm → Prop
  | 0, _, _ => False
  | f + 1, v3, M => (inR v3) ∧
    (inR (M 102 21)) ∧
    (if v3 < (M 102 21) then
      Bd (wX12_sizeOf v3 M) (fun r6 M7 =>
      (inR r6) ∧
      (if r6 ≤ 1 then
        (wX12_proves_32 Q rc f) (v3 + 1) M7
      else
        Bv (wX12_putsGroup v3 M7) (fun M13 =>
        (wX12_proves_32 Q rc f) (v3 + 1) M13)))
    else
      Bv (wX12_puts 93 M) (fun M17 =>
      Q M17))
set_option maxHeartbeats 4000000 in
theorem s_wX12_proves_32 {Γ : Cx} {h : Nat} (hΓ : Ok Γ cX12_proves RX12 5 h 0 0) (hh : 4 ≤ h) (hr : (cxm Γ).sig.returnType = none) {Q : Mm → Prop} {rc : Int → Int → Mm → (Mm → Prop) → Prop} {h0 : Nat} (hrc : ∀ (a0 : Int) (a1 : Int) (M : Mm) (Q : Mm → Prop), rc a0 a1 M Q → Ct (cxl Γ) (cxg Γ) yX12_proves cX12_proves 5 none h0 0 0 [aR 102, aI a0, aI a1] (NC, RF, M) (QV Q)) (hh0 : h0 + 1 ≤ h)  : ∀ (f : Nat) (v3 : Int) (M : Mm), wX12_proves_32 Q rc f v3 M → Wa Γ 5 (Kf Γ (QV Q) 0 0) 0 0 32 [(0, aR 102), (3, aI v3)] [] (NC, RF, M) := by
  intro f
  induction f with
  | zero => intro v3 M h; exact h.elim
  | succ f ih =>
    intro v3 M h
    unfold wX12_proves_32 at h
    refine a_iload_n hΓ 1 dX12_proves_32 rfl rfl ?_
    refine a_aload_n hΓ 0 dX12_proves_33 rfl rfl ?_
    refine n_getI (x := (M 102 21)) hΓ fl_RX12_227 cl_12 kd_102 lz_102 dX12_proves_34 (Or.inl ft_12_21) rfl ?_
    obtain ⟨g1, h⟩ := h
    obtain ⟨g2, h⟩ := h
    refine a_icmp_ge (tgt := 60) hΓ g1 g2 dX12_proves_37 (by decide) (fun c3 => ?_) (fun c3 => ?_)
    · rw [if_pos c3] at h
      refine a_aload_n hΓ 0 dX12_proves_40 rfl rfl ?_
      refine a_iload_n hΓ 1 dX12_proves_41 rfl rfl ?_
      obtain ⟨P4, q5, h⟩ := h
      refine n_callV (c := 102) (av := [aI v3]) (st := []) hΓ (ct_wX12_sizeOf _ _ v3 M P4 q5) my_X12_sizeOf ml_RX12_239 ni_X12_sizeOf kd_102 rfl lz_102 rfl (Nat.le_trans (by decide) hh) (by decide) (Nat.le_of_ble_eq_true rfl) rfl dX12_proves_42 (fun v Z' hq => ?_)
      obtain ⟨r6, M7, rfl, rfl, hq⟩ := hq
      have h := h r6 M7 hq
      dsimp only at h
      refine a_iconst hΓ dX12_proves_45 ?_
      obtain ⟨g8, h⟩ := h
      refine a_icmp_le (tgt := 54) hΓ g8 (inRl (by decide)) dX12_proves_46 (by decide) (fun c9 => ?_) (fun c9 => ?_)
      · rw [if_pos c9] at h
        refine a_iinc (ls' := [(3, aI (v3 + 1)), (0, aR 102)]) hΓ 1 dX12_proves_54 rfl (by decide) rfl ?_
        refine a_goto (tgt := 32) hΓ dX12_proves_57 (by decide) ?_
        refine a_sub (ls' := [(0, aR 102), (3, aI (v3 + 1))]) [1, 0] rfl ?_
        exact ih (v3 + 1) M7 h
      · rw [if_neg c9] at h
        refine a_aload_n hΓ 0 dX12_proves_49 rfl rfl ?_
        refine a_iload_n hΓ 1 dX12_proves_50 rfl rfl ?_
        obtain ⟨P10, q11, h⟩ := h
        refine n_callV (c := 102) (av := [aI v3]) (st := []) hΓ (ct_wX12_putsGroup _ _ v3 M7 P10 q11) my_X12_putsGroup ml_RX12_242 ni_X12_putsGroup kd_102 rfl lz_102 rfl (Nat.le_trans (by decide) hh) (by decide) (Nat.le_of_ble_eq_true rfl) rfl dX12_proves_51 (fun v Z' hq => ?_)
        obtain ⟨M13, rfl, rfl, hq⟩ := hq
        have h := h M13 hq
        dsimp only at h
        refine a_iinc (ls' := [(3, aI (v3 + 1)), (0, aR 102)]) hΓ 1 dX12_proves_54 rfl (by decide) rfl ?_
        refine a_goto (tgt := 32) hΓ dX12_proves_57 (by decide) ?_
        refine a_sub (ls' := [(0, aR 102), (3, aI (v3 + 1))]) [1, 0] rfl ?_
        exact ih (v3 + 1) M13 h
    · rw [if_neg c3] at h
      refine a_aload_n hΓ 0 dX12_proves_60 rfl rfl ?_
      refine a_bipush hΓ dX12_proves_61 (by decide) ?_
      obtain ⟨P14, q15, h⟩ := h
      refine n_callV (c := 102) (av := [aI 93]) (st := []) hΓ (ct_wX12_puts _ _ 93 M P14 q15) my_X12_puts ml_RX12_223 ni_X12_puts kd_102 rfl lz_102 rfl (Nat.le_trans (by decide) hh) (by decide) (Nat.le_of_ble_eq_true rfl) rfl dX12_proves_63 (fun v Z' hq => ?_)
      obtain ⟨M17, rfl, rfl, hq⟩ := hq
      have h := h M17 hq
      dsimp only at h
      exact a_vret hΓ hr dX12_proves_66 ⟨_, rfl, rfl, h⟩
def wX12_proves : Nat → Int → Int → Mm → (Mm → Prop) → Prop
  | 0, _, _, _, _ => False
  | f + 1, v1, v2, M, Q => (inR (M 102 18)) ∧
    (if (M 102 18) ≤ 2000 then
      Bd (wX12_bound v1 v2 M) (fun r5 M6 =>
      (inR r5) ∧
      (inR (M6 102 19)) ∧
      (if r5 ≤ (M6 102 19) then
        Bv (wX12_puts 91 M6) (fun M13 =>
        ∃ n, wX12_proves_32 Q (wX12_proves f) n 0 M13)
      else
        ∃ n, wX12_proves_72 Q (wX12_proves f) v1 v2 n (-1) 0 M6))
    else
      Q M)
set_option maxHeartbeats 4000000 in
theorem s_wX12_proves {Γ : Cx} {h : Nat} (hΓ : Ok Γ cX12_proves RX12 5 h 0 0) (hh : 4 ≤ h) (hr : (cxm Γ).sig.returnType = none) {Q : Mm → Prop} {f : Nat}  {h0 : Nat} (hrc : ∀ (a0 : Int) (a1 : Int) (M : Mm) (Q : Mm → Prop), wX12_proves f a0 a1 M Q → Ct (cxl Γ) (cxg Γ) yX12_proves cX12_proves 5 none h0 0 0 [aR 102, aI a0, aI a1] (NC, RF, M) (QV Q)) (hh0 : h0 + 1 ≤ h) (v1 : Int) (v2 : Int) (M : Mm) (h1 : wX12_proves (f + 1) v1 v2 M Q) : Wa Γ 5 (Kf Γ (QV Q) 0 0) 0 0 0 [(0, aR 102), (1, aI v1), (2, aI v2)] [] (NC, RF, M) := by
  have h := h1
  unfold wX12_proves at h
  refine a_aload_n hΓ 0 dX12_proves_0 rfl rfl ?_
  refine n_getI (x := (M 102 18)) hΓ fl_RX12_220 cl_12 kd_102 lz_102 dX12_proves_1 (Or.inl ft_12_18) rfl ?_
  refine a_sipush hΓ dX12_proves_4 (by decide) ?_
  obtain ⟨g1, h⟩ := h
  refine a_icmp_le (tgt := 11) hΓ g1 (inRl (by decide)) dX12_proves_7 (by decide) (fun c2 => ?_) (fun c2 => ?_)
  · rw [if_pos c2] at h
    refine a_aload_n hΓ 0 dX12_proves_11 rfl rfl ?_
    refine a_iload_n hΓ 1 dX12_proves_12 rfl rfl ?_
    refine a_iload_n hΓ 2 dX12_proves_13 rfl rfl ?_
    obtain ⟨P3, q4, h⟩ := h
    refine n_callV (c := 102) (av := [aI v1, aI v2]) (st := []) hΓ (ct_wX12_bound _ _ v1 v2 M P3 q4) my_X12_bound ml_RX12_233 ni_X12_bound kd_102 rfl lz_102 rfl (Nat.le_trans (by decide) hh) (by decide) (Nat.le_of_ble_eq_true rfl) rfl dX12_proves_14 (fun v Z' hq => ?_)
    obtain ⟨r5, M6, rfl, rfl, hq⟩ := hq
    have h := h r5 M6 hq
    dsimp only at h
    refine a_aload_n hΓ 0 dX12_proves_17 rfl rfl ?_
    refine n_getI (x := (M6 102 19)) hΓ fl_RX12_236 cl_12 kd_102 lz_102 dX12_proves_18 (Or.inl ft_12_19) rfl ?_
    obtain ⟨g7, h⟩ := h
    obtain ⟨g8, h⟩ := h
    refine a_icmp_gt (tgt := 67) hΓ g7 g8 dX12_proves_21 (by decide) (fun c9 => ?_) (fun c9 => ?_)
    · rw [if_pos c9] at h
      refine a_aload_n hΓ 0 dX12_proves_24 rfl rfl ?_
      refine a_bipush hΓ dX12_proves_25 (by decide) ?_
      obtain ⟨P10, q11, h⟩ := h
      refine n_callV (c := 102) (av := [aI 91]) (st := []) hΓ (ct_wX12_puts _ _ 91 M6 P10 q11) my_X12_puts ml_RX12_223 ni_X12_puts kd_102 rfl lz_102 rfl (Nat.le_trans (by decide) hh) (by decide) (Nat.le_of_ble_eq_true rfl) rfl dX12_proves_27 (fun v Z' hq => ?_)
      obtain ⟨M13, rfl, rfl, hq⟩ := hq
      have h := h M13 hq
      dsimp only at h
      refine a_iconst hΓ dX12_proves_30 ?_
      refine a_istore_n (ls' := [(3, aI 0), (0, aR 102), (1, aI v1), (2, aI v2)]) hΓ dX12_proves_31 rfl (by decide) rfl ?_
      refine a_sub (ls' := [(0, aR 102), (3, aI 0)]) [1, 0] rfl ?_
      obtain ⟨f14, h⟩ := h
      exact s_wX12_proves_32 hΓ (Nat.le_trans (by decide) hh) hr hrc hh0  f14 0 M13 h
    · rw [if_neg c9] at h
      refine a_iconst hΓ dX12_proves_67 ?_
      refine a_istore_n (ls' := [(3, aI (-1)), (0, aR 102), (1, aI v1), (2, aI v2)]) hΓ dX12_proves_68 rfl (by decide) rfl ?_
      refine a_iconst hΓ dX12_proves_69 ?_
      refine a_istore (ls' := [(4, aI 0), (3, aI (-1)), (0, aR 102), (1, aI v1), (2, aI v2)]) hΓ dX12_proves_70 (by decide) rfl ?_
      refine a_sub (ls' := [(0, aR 102), (1, aI v1), (2, aI v2), (3, aI (-1)), (4, aI 0)]) [2, 3, 4, 1, 0] rfl ?_
      obtain ⟨f15, h⟩ := h
      exact s_wX12_proves_72 hΓ (Nat.le_trans (by decide) hh) hr hrc hh0  f15 (-1) 0 M6 h
  · rw [if_neg c2] at h
    exact a_vret hΓ hr dX12_proves_10 ⟨_, rfl, rfl, h⟩
theorem ct_wX12_proves (l : Launch) (g : Gp) : ∀ (f : Nat) (v1 : Int) (v2 : Int) (M : Mm) (Q : Mm → Prop), wX12_proves f v1 v2 M Q → Ct l g yX12_proves cX12_proves 5 none (4 + f) 0 0 [aR 102, aI v1, aI v2] (NC, RF, M) (QV Q)
  | 0, _, _, _, _, h => absurd h (by unfold wX12_proves; exact fun q => q)
  | f + 1, v1, v2, M, Q, h => ct_of (by decide) (Nat.le_of_ble_eq_true rfl) (fun Γ hg hl hr _ hΓ => by subst hg; subst hl; exact s_wX12_proves (f := f) hΓ (by omega) hr (h0 := 4 + f) (fun a0 a1 M Q q => ct_wX12_proves _ _ f a0 a1 M Q q) (by omega) v1 v2 M h)
