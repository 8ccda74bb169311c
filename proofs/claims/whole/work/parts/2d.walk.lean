/-! ===== printed by tools/gen.py ===== -/
def wX12_call_46 (Q : Int → Mm → Prop) (v1 : Int) (M : Mm) : Prop :=
    (inR (M 102 47)) ∧
    (if (M 102 47) = 7 then
      Bd (wX12_ends (-5) M) (fun r5 M6 =>
      Q r5 M6)
    else
      (0 ≤ (M 102 47) ∧ (M 102 47) < 7) ∧
      Bd (wX12_ends ((M 102 47) + 1) (up (up M 125 (M 102 47) v1) 102 47 ((M 102 47) + 1))) (fun r10 M11 =>
      Q r10 M11))
set_option maxHeartbeats 4000000 in
theorem s_wX12_call_46 {Γ : Cx} {h : Nat} (hΓ : Ok Γ cX12_call RX12 3 h 0 0) (hh : 3 ≤ h) (hr : (cxm Γ).sig.returnType = (some .int)) {Q : Int → Mm → Prop} {v1 : Int}   (M : Mm) (h : wX12_call_46 Q v1 M) : Wa Γ 3 (Kf Γ (QI Q) 0 0) 0 0 46 [(0, aR 102), (1, aI v1)] [] (NC, RF, M) := by
  unfold wX12_call_46 at h
  refine a_aload_n hΓ 0 dX12_call_46 rfl rfl ?_
  refine n_getI (x := (M 102 47)) hΓ fl_RX12_336 cl_12 kd_102 lz_102 dX12_call_47 (Or.inl ft_12_47) rfl ?_
  refine a_bipush hΓ dX12_call_50 (by decide) ?_
  obtain ⟨g1, h⟩ := h
  refine a_icmp_ne (tgt := 62) hΓ g1 (inRl (by decide)) dX12_call_52 (by decide) (fun c2 => ?_) (fun c2 => ?_)
  · rw [if_pos c2] at h
    refine a_aload_n hΓ 0 dX12_call_55 rfl rfl ?_
    refine a_bipush hΓ dX12_call_56 (by decide) ?_
    obtain ⟨P3, q4, h⟩ := h
    refine n_callV (c := 102) (av := [aI (-5)]) (st := []) hΓ (ct_wX12_ends _ _ (-5) M P3 q4) my_X12_ends ml_RX12_106 ni_X12_ends kd_102 rfl lz_102 rfl (Nat.le_trans (by decide) hh) (by decide) (Nat.le_of_ble_eq_true rfl) rfl dX12_call_58 (fun v Z' hq => ?_)
    obtain ⟨r5, M6, rfl, rfl, hq⟩ := hq
    have h := h r5 M6 hq
    dsimp only at h
    exact a_iret hΓ hr dX12_call_61 ⟨_, _, rfl, rfl, h⟩
  · rw [if_neg c2] at h
    refine a_aload_n hΓ 0 dX12_call_62 rfl rfl ?_
    refine n_getR hΓ fl_RX12_99 cl_12 kd_102 lz_102 dX12_call_63 ft_12_46 rf_102_46 ?_
    refine a_aload_n hΓ 0 dX12_call_66 rfl rfl ?_
    refine n_getI (x := (M 102 47)) hΓ fl_RX12_336 cl_12 kd_102 lz_102 dX12_call_67 (Or.inl ft_12_47) rfl ?_
    refine a_iload_n hΓ 1 dX12_call_70 rfl rfl ?_
    obtain ⟨g7, h⟩ := h
    refine a_iast hΓ dX12_call_71 kd_125 lz_125 g7 ?_
    refine a_aload_n hΓ 0 dX12_call_72 rfl rfl ?_
    refine a_dupR hΓ dX12_call_73 ?_
    refine n_getI (x := (M 102 47)) hΓ fl_RX12_336 cl_12 kd_102 lz_102 dX12_call_74 (Or.inl ft_12_47) rfl ?_
    refine a_iconst hΓ dX12_call_77 ?_
    refine a_iadd hΓ dX12_call_78 ?_
    refine n_putI (j := 47) hΓ fl_RX12_336 cl_12 nf_12_47 kd_102 lz_102 dX12_call_79 (Or.inl ft_12_47) rfl ?_
    refine a_aload_n hΓ 0 dX12_call_82 rfl rfl ?_
    refine a_aload_n hΓ 0 dX12_call_83 rfl rfl ?_
    refine n_getI (x := ((M 102 47) + 1)) hΓ fl_RX12_336 cl_12 kd_102 lz_102 dX12_call_84 (Or.inl ft_12_47) rfl ?_
    obtain ⟨P8, q9, h⟩ := h
    refine n_callV (c := 102) (av := [aI ((M 102 47) + 1)]) (st := []) hΓ (ct_wX12_ends _ _ ((M 102 47) + 1) (up (up M 125 (M 102 47) v1) 102 47 ((M 102 47) + 1)) P8 q9) my_X12_ends ml_RX12_106 ni_X12_ends kd_102 rfl lz_102 rfl (Nat.le_trans (by decide) hh) (by decide) (Nat.le_of_ble_eq_true rfl) rfl dX12_call_87 (fun v Z' hq => ?_)
    obtain ⟨r10, M11, rfl, rfl, hq⟩ := hq
    have h := h r10 M11 hq
    dsimp only at h
    exact a_iret hΓ hr dX12_call_90 ⟨_, _, rfl, rfl, h⟩
def wX12_call_15 (Q : Int → Mm → Prop) (v1 : Int) : Nat → Int → Mm → Prop
  | 0, _, _ => False
  | f + 1, v2, M => (inR v2) ∧
    (inR (M 102 47)) ∧
    (if v2 < (M 102 47) then
      (0 ≤ v2 ∧ v2 < 7) ∧
      (inR (M 125 v2)) ∧
      (inR v1) ∧
      (if (M 125 v2) = v1 then
        Bd (wX12_ends (-4) M) (fun r10 M11 =>
        Q r10 M11)
      else
        (wX12_call_15 Q v1 f) (v2 + 1) M)
    else
      wX12_call_46 Q v1 M)
set_option maxHeartbeats 4000000 in
theorem s_wX12_call_15 {Γ : Cx} {h : Nat} (hΓ : Ok Γ cX12_call RX12 3 h 0 0) (hh : 3 ≤ h) (hr : (cxm Γ).sig.returnType = (some .int)) {Q : Int → Mm → Prop} {v1 : Int}   : ∀ (f : Nat) (v2 : Int) (M : Mm), wX12_call_15 Q v1 f v2 M → Wa Γ 3 (Kf Γ (QI Q) 0 0) 0 0 15 [(0, aR 102), (1, aI v1), (2, aI v2)] [] (NC, RF, M) := by
  intro f
  induction f with
  | zero => intro v2 M h; exact h.elim
  | succ f ih =>
    intro v2 M h
    unfold wX12_call_15 at h
    refine a_iload_n hΓ 2 dX12_call_15 rfl rfl ?_
    refine a_aload_n hΓ 0 dX12_call_16 rfl rfl ?_
    refine n_getI (x := (M 102 47)) hΓ fl_RX12_336 cl_12 kd_102 lz_102 dX12_call_17 (Or.inl ft_12_47) rfl ?_
    obtain ⟨g1, h⟩ := h
    obtain ⟨g2, h⟩ := h
    refine a_icmp_ge (tgt := 46) hΓ g1 g2 dX12_call_20 (by decide) (fun c3 => ?_) (fun c3 => ?_)
    · rw [if_pos c3] at h
      refine a_aload_n hΓ 0 dX12_call_23 rfl rfl ?_
      refine n_getR hΓ fl_RX12_99 cl_12 kd_102 lz_102 dX12_call_24 ft_12_46 rf_102_46 ?_
      refine a_iload_n hΓ 2 dX12_call_27 rfl rfl ?_
      obtain ⟨g4, h⟩ := h
      refine n_iald (x := (M 125 v2)) hΓ dX12_call_28 kd_125 lz_125 g4 rfl ?_
      refine a_iload_n hΓ 1 dX12_call_29 rfl rfl ?_
      obtain ⟨g5, h⟩ := h
      obtain ⟨g6, h⟩ := h
      refine a_icmp_ne (tgt := 40) hΓ g5 g6 dX12_call_30 (by decide) (fun c7 => ?_) (fun c7 => ?_)
      · rw [if_pos c7] at h
        refine a_aload_n hΓ 0 dX12_call_33 rfl rfl ?_
        refine a_bipush hΓ dX12_call_34 (by decide) ?_
        obtain ⟨P8, q9, h⟩ := h
        refine n_callV (c := 102) (av := [aI (-4)]) (st := []) hΓ (ct_wX12_ends _ _ (-4) M P8 q9) my_X12_ends ml_RX12_106 ni_X12_ends kd_102 rfl lz_102 rfl (Nat.le_trans (by decide) hh) (by decide) (Nat.le_of_ble_eq_true rfl) rfl dX12_call_36 (fun v Z' hq => ?_)
        obtain ⟨r10, M11, rfl, rfl, hq⟩ := hq
        have h := h r10 M11 hq
        dsimp only at h
        exact a_iret hΓ hr dX12_call_39 ⟨_, _, rfl, rfl, h⟩
      · rw [if_neg c7] at h
        refine a_iinc (ls' := [(2, aI (v2 + 1)), (0, aR 102), (1, aI v1)]) hΓ 2 dX12_call_40 rfl (by decide) rfl ?_
        refine a_goto (tgt := 15) hΓ dX12_call_43 (by decide) ?_
        refine a_sub (ls' := [(0, aR 102), (1, aI v1), (2, aI (v2 + 1))]) [1, 2, 0] rfl ?_
        exact ih (v2 + 1) M h
    · rw [if_neg c3] at h
      refine a_sub (ls' := [(0, aR 102), (1, aI v1)]) [0, 1] rfl ?_
      exact s_wX12_call_46 hΓ (Nat.le_trans (by decide) hh) hr  M h
def wX12_call (v1 : Int) (M : Mm) (Q : Int → Mm → Prop) : Prop :=
    Bd (wX12_isDay v1 M) (fun r3 M4 =>
    (inR r3) ∧
    (if r3 = 0 then
      Bd (wX12_ends (-1) M4) (fun r9 M10 =>
      Q r9 M10)
    else
      ∃ n, wX12_call_15 Q v1 n 0 M4))
set_option maxHeartbeats 4000000 in
theorem s_wX12_call {Γ : Cx} {h : Nat} (hΓ : Ok Γ cX12_call RX12 3 h 0 0) (hh : 3 ≤ h) (hr : (cxm Γ).sig.returnType = (some .int)) {Q : Int → Mm → Prop} (v1 : Int) (M : Mm) (h : wX12_call v1 M Q) : Wa Γ 3 (Kf Γ (QI Q) 0 0) 0 0 0 [(0, aR 102), (1, aI v1)] [] (NC, RF, M) := by
  unfold wX12_call at h
  refine a_iload_n hΓ 1 dX12_call_0 rfl rfl ?_
  obtain ⟨P1, q2, h⟩ := h
  refine n_callS (av := [aI v1]) (st := []) hΓ (ct_wX12_isDay _ _ v1 M P1 q2) my_X12_isDay ml_RX12_109 rfl (Nat.le_trans (by decide) hh) (by decide) (Nat.le_of_ble_eq_true rfl) rfl dX12_call_1 (fun v Z' hq => ?_)
  obtain ⟨r3, M4, rfl, rfl, hq⟩ := hq
  have h := h r3 M4 hq
  dsimp only at h
  obtain ⟨g5, h⟩ := h
  refine a_if_ne (tgt := 13) hΓ g5 dX12_call_4 (by decide) (fun c6 => ?_) (fun c6 => ?_)
  · rw [if_pos c6] at h
    refine a_aload_n hΓ 0 dX12_call_7 rfl rfl ?_
    refine a_iconst hΓ dX12_call_8 ?_
    obtain ⟨P7, q8, h⟩ := h
    refine n_callV (c := 102) (av := [aI (-1)]) (st := []) hΓ (ct_wX12_ends _ _ (-1) M4 P7 q8) my_X12_ends ml_RX12_106 ni_X12_ends kd_102 rfl lz_102 rfl (Nat.le_trans (by decide) hh) (by decide) (Nat.le_of_ble_eq_true rfl) rfl dX12_call_9 (fun v Z' hq => ?_)
    obtain ⟨r9, M10, rfl, rfl, hq⟩ := hq
    have h := h r9 M10 hq
    dsimp only at h
    exact a_iret hΓ hr dX12_call_12 ⟨_, _, rfl, rfl, h⟩
  · rw [if_neg c6] at h
    refine a_iconst hΓ dX12_call_13 ?_
    refine a_istore_n (ls' := [(2, aI 0), (0, aR 102), (1, aI v1)]) hΓ dX12_call_14 rfl (by decide) rfl ?_
    refine a_sub (ls' := [(0, aR 102), (1, aI v1), (2, aI 0)]) [1, 2, 0] rfl ?_
    obtain ⟨f11, h⟩ := h
    exact s_wX12_call_15 hΓ (Nat.le_trans (by decide) hh) hr  f11 0 M4 h
theorem ct_wX12_call (l : Launch) (g : Gp) (v1 : Int) (M : Mm) (Q : Int → Mm → Prop) (h : wX12_call v1 M Q) : Ct l g yX12_call cX12_call 3 (some .int) 3 0 0 [aR 102, aI v1] (NC, RF, M) (QI Q) :=
  ct_of (by decide) (Nat.le_of_ble_eq_true rfl) (fun Γ hg hl hr _ hΓ => by subst hg; subst hl; exact s_wX12_call hΓ (by decide) hr v1 M h)
def wX12_clear  (M : Mm) (Q : Int → Mm → Prop) : Prop :=
    Q (M 102 47) (up M 102 47 0)
set_option maxHeartbeats 4000000 in
theorem s_wX12_clear {Γ : Cx} {h : Nat} (hΓ : Ok Γ cX12_clear RX12 2 h 0 0) (hh : 1 ≤ h) (hr : (cxm Γ).sig.returnType = (some .int)) {Q : Int → Mm → Prop}  (M : Mm) (h : wX12_clear  M Q) : Wa Γ 2 (Kf Γ (QI Q) 0 0) 0 0 0 [(0, aR 102)] [] (NC, RF, M) := by
  unfold wX12_clear at h
  refine a_aload_n hΓ 0 dX12_clear_0 rfl rfl ?_
  refine n_getI (x := (M 102 47)) hΓ fl_RX12_336 cl_12 kd_102 lz_102 dX12_clear_1 (Or.inl ft_12_47) rfl ?_
  refine a_istore_n (ls' := [(1, aI (M 102 47)), (0, aR 102)]) hΓ dX12_clear_4 rfl (by decide) rfl ?_
  refine a_aload_n hΓ 1 dX12_clear_5 rfl rfl ?_
  refine a_iconst hΓ dX12_clear_6 ?_
  refine n_putI (j := 47) hΓ fl_RX12_336 cl_12 nf_12_47 kd_102 lz_102 dX12_clear_7 (Or.inl ft_12_47) rfl ?_
  refine a_iload_n hΓ 0 dX12_clear_10 rfl rfl ?_
  exact a_iret hΓ hr dX12_clear_11 ⟨_, _, rfl, rfl, h⟩
theorem ct_wX12_clear (l : Launch) (g : Gp)  (M : Mm) (Q : Int → Mm → Prop) (h : wX12_clear  M Q) : Ct l g yX12_clear cX12_clear 2 (some .int) 1 0 0 [aR 102] (NC, RF, M) (QI Q) :=
  ct_of (by decide) (Nat.le_of_ble_eq_true rfl) (fun Γ hg hl hr _ hΓ => by subst hg; subst hl; exact s_wX12_clear hΓ (by decide) hr  M h)
def wX12_isCall_2 (Q : Int → Mm → Prop) (v1 : Int) (v2 : Int) : Nat → Int → Mm → Prop
  | 0, _, _ => False
  | f + 1, v3, M => (inR v3) ∧
    (inR (M 102 47)) ∧
    (if v3 < (M 102 47) then
      (if (landI (shrI v1 v3) 1) = 1 then
        (0 ≤ v3 ∧ v3 < 7) ∧
        (inR (M 125 v3)) ∧
        (inR v2) ∧
        (if (M 125 v3) = v2 then
          Q 1 M
        else
          (wX12_isCall_2 Q v1 v2 f) (v3 + 1) M)
      else
        (wX12_isCall_2 Q v1 v2 f) (v3 + 1) M)
    else
      Q 0 M)
set_option maxHeartbeats 4000000 in
theorem s_wX12_isCall_2 {Γ : Cx} {h : Nat} (hΓ : Ok Γ cX12_isCall RX12 4 h 0 0) (hh : 1 ≤ h) (hr : (cxm Γ).sig.returnType = (some .boolean)) {Q : Int → Mm → Prop} {v1 v2 : Int}   : ∀ (f : Nat) (v3 : Int) (M : Mm), wX12_isCall_2 Q v1 v2 f v3 M → Wa Γ 4 (Kf Γ (QI Q) 0 0) 0 0 2 [(0, aR 102), (1, aI v1), (2, aI v2), (3, aI v3)] [] (NC, RF, M) := by
  intro f
  induction f with
  | zero => intro v3 M h; exact h.elim
  | succ f ih =>
    intro v3 M h
    unfold wX12_isCall_2 at h
    refine a_iload_n hΓ 3 dX12_isCall_2 rfl rfl ?_
    refine a_aload_n hΓ 0 dX12_isCall_3 rfl rfl ?_
    refine n_getI (x := (M 102 47)) hΓ fl_RX12_336 cl_12 kd_102 lz_102 dX12_isCall_4 (Or.inl ft_12_47) rfl ?_
    obtain ⟨g1, h⟩ := h
    obtain ⟨g2, h⟩ := h
    refine a_icmp_ge (tgt := 37) hΓ g1 g2 dX12_isCall_7 (by decide) (fun c3 => ?_) (fun c3 => ?_)
    · rw [if_pos c3] at h
      refine a_iload_n hΓ 1 dX12_isCall_10 rfl rfl ?_
      refine a_iload_n hΓ 3 dX12_isCall_11 rfl rfl ?_
      refine a_ishr hΓ dX12_isCall_12 ?_
      refine a_iconst hΓ dX12_isCall_13 ?_
      refine a_iand hΓ dX12_isCall_14 ?_
      refine a_iconst hΓ dX12_isCall_15 ?_
      refine a_icmp_ne (tgt := 31) hΓ (inR_land _ _) (inRl (by decide)) dX12_isCall_16 (by decide) (fun c4 => ?_) (fun c4 => ?_)
      · rw [if_pos c4] at h
        refine a_aload_n hΓ 0 dX12_isCall_19 rfl rfl ?_
        refine n_getR hΓ fl_RX12_99 cl_12 kd_102 lz_102 dX12_isCall_20 ft_12_46 rf_102_46 ?_
        refine a_iload_n hΓ 3 dX12_isCall_23 rfl rfl ?_
        obtain ⟨g5, h⟩ := h
        refine n_iald (x := (M 125 v3)) hΓ dX12_isCall_24 kd_125 lz_125 g5 rfl ?_
        refine a_iload_n hΓ 2 dX12_isCall_25 rfl rfl ?_
        obtain ⟨g6, h⟩ := h
        obtain ⟨g7, h⟩ := h
        refine a_icmp_ne (tgt := 31) hΓ g6 g7 dX12_isCall_26 (by decide) (fun c8 => ?_) (fun c8 => ?_)
        · rw [if_pos c8] at h
          refine a_iconst hΓ dX12_isCall_29 ?_
          exact a_zret hΓ hr (Or.inr rfl) dX12_isCall_30 ⟨_, _, rfl, rfl, h⟩
        · rw [if_neg c8] at h
          refine a_iinc (ls' := [(3, aI (v3 + 1)), (0, aR 102), (1, aI v1), (2, aI v2)]) hΓ 3 dX12_isCall_31 rfl (by decide) rfl ?_
          refine a_goto (tgt := 2) hΓ dX12_isCall_34 (by decide) ?_
          refine a_sub (ls' := [(0, aR 102), (1, aI v1), (2, aI v2), (3, aI (v3 + 1))]) [1, 2, 3, 0] rfl ?_
          exact ih (v3 + 1) M h
      · rw [if_neg c4] at h
        refine a_iinc (ls' := [(3, aI (v3 + 1)), (0, aR 102), (1, aI v1), (2, aI v2)]) hΓ 3 dX12_isCall_31 rfl (by decide) rfl ?_
        refine a_goto (tgt := 2) hΓ dX12_isCall_34 (by decide) ?_
        refine a_sub (ls' := [(0, aR 102), (1, aI v1), (2, aI v2), (3, aI (v3 + 1))]) [1, 2, 3, 0] rfl ?_
        exact ih (v3 + 1) M h
    · rw [if_neg c3] at h
      refine a_iconst hΓ dX12_isCall_37 ?_
      exact a_zret hΓ hr (Or.inl rfl) dX12_isCall_38 ⟨_, _, rfl, rfl, h⟩
def wX12_isCall (v1 : Int) (v2 : Int) (M : Mm) (Q : Int → Mm → Prop) : Prop :=
    ∃ n, wX12_isCall_2 Q v1 v2 n 0 M
set_option maxHeartbeats 4000000 in
theorem s_wX12_isCall {Γ : Cx} {h : Nat} (hΓ : Ok Γ cX12_isCall RX12 4 h 0 0) (hh : 1 ≤ h) (hr : (cxm Γ).sig.returnType = (some .boolean)) {Q : Int → Mm → Prop} (v1 : Int) (v2 : Int) (M : Mm) (h : wX12_isCall v1 v2 M Q) : Wa Γ 4 (Kf Γ (QI Q) 0 0) 0 0 0 [(0, aR 102), (1, aI v1), (2, aI v2)] [] (NC, RF, M) := by
  unfold wX12_isCall at h
  refine a_iconst hΓ dX12_isCall_0 ?_
  refine a_istore_n (ls' := [(3, aI 0), (0, aR 102), (1, aI v1), (2, aI v2)]) hΓ dX12_isCall_1 rfl (by decide) rfl ?_
  refine a_sub (ls' := [(0, aR 102), (1, aI v1), (2, aI v2), (3, aI 0)]) [1, 2, 3, 0] rfl ?_
  obtain ⟨f1, h⟩ := h
  exact s_wX12_isCall_2 hΓ (Nat.le_trans (by decide) hh) hr  f1 0 M h
theorem ct_wX12_isCall (l : Launch) (g : Gp) (v1 : Int) (v2 : Int) (M : Mm) (Q : Int → Mm → Prop) (h : wX12_isCall v1 v2 M Q) : Ct l g yX12_isCall cX12_isCall 4 (some .boolean) 1 0 0 [aR 102, aI v1, aI v2] (NC, RF, M) (QI Q) :=
  ct_of (by decide) (Nat.le_of_ble_eq_true rfl) (fun Γ hg hl hr _ hΓ => by subst hg; subst hl; exact s_wX12_isCall hΓ (by decide) hr v1 v2 M h)
def wX12_costOf_112 (Q : Int → Mm → Prop) (k10 : Int → Int → Int → Mm → Prop) (v1 : Int) (v2 : Int) (v3 : Int) (v4 : Int) (v6 : Int) (v8 : Int) (v9 : Int) (M : Mm) : Prop :=
    Bd (wX12_skin v1 v9 v8 M) (fun r3 M4 =>
    (inR r3) ∧
    (inR (M4 103 719)) ∧
    k10 (v6 + (r3 * (M4 103 719))) v8 (v9 + 1) M4)
set_option maxHeartbeats 4000000 in
theorem s_wX12_costOf_112 {Γ : Cx} {h : Nat} (hΓ : Ok Γ cX12_costOf RX12 11 h 0 0) (hh : 7 ≤ h) (hr : (cxm Γ).sig.returnType = (some .long)) {Q : Int → Mm → Prop} {v1 v2 v3 v4 v6 v8 v9 : Int}  {k10 : Int → Int → Int → Mm → Prop} (hk10 : ∀ (v6 : Int) (v8 : Int) (v9 : Int) (M : Mm), k10 v6 v8 v9 M → Wa Γ 11 (Kf Γ (QL Q) 0 0) 0 0 10 [(0, aR 102), (1, aI v1), (2, aI v2), (3, aI v3), (4, aI v4), (6, aL v6), (8, aI v8), (9, aI v9)] [] (NC, RF, M)) (M : Mm) (h : wX12_costOf_112 Q k10 v1 v2 v3 v4 v6 v8 v9 M) : Wa Γ 11 (Kf Γ (QL Q) 0 0) 0 0 112 [(0, aR 102), (1, aI v1), (2, aI v2), (3, aI v3), (4, aI v4), (6, aL v6), (8, aI v8), (9, aI v9)] [] (NC, RF, M) := by
  unfold wX12_costOf_112 at h
  refine a_lload hΓ 5 dX12_costOf_112 rfl ?_
  refine a_aload_n hΓ 0 dX12_costOf_114 rfl rfl ?_
  refine a_iload_n hΓ 1 dX12_costOf_115 rfl rfl ?_
  refine a_iload hΓ 7 dX12_costOf_116 rfl ?_
  refine a_iload hΓ 6 dX12_costOf_118 rfl ?_
  obtain ⟨P1, q2, h⟩ := h
  refine n_callV (c := 102) (av := [aI v1, aI v9, aI v8]) (st := [aL v6]) hΓ (ct_wX12_skin _ _ v1 v9 v8 M P1 q2) my_X12_skin ml_RX12_189 ni_X12_skin kd_102 rfl lz_102 rfl (Nat.le_trans (by decide) hh) (by decide) (Nat.le_of_ble_eq_true rfl) rfl dX12_costOf_120 (fun v Z' hq => ?_)
  obtain ⟨r3, M4, rfl, rfl, hq⟩ := hq
  have h := h r3 M4 hq
  dsimp only at h
  obtain ⟨g5, h⟩ := h
  refine a_i2l hΓ g5 dX12_costOf_123 ?_
  refine a_aload_n hΓ 0 dX12_costOf_124 rfl rfl ?_
  refine n_getR hΓ fl_RX12_17 cl_12 kd_102 lz_102 dX12_costOf_125 ft_12_1 rf_102_1 ?_
  refine a_sipush hΓ dX12_costOf_128 (by decide) ?_
  refine n_iald (x := (M4 103 719)) hΓ dX12_costOf_131 kd_103 lz_103 ⟨by decide, by decide⟩ rfl ?_
  obtain ⟨g6, h⟩ := h
  refine a_i2l hΓ g6 dX12_costOf_132 ?_
  refine a_lmul hΓ dX12_costOf_133 ?_
  refine a_ladd hΓ dX12_costOf_134 ?_
  refine a_lstore (ls' := [(6, aL (v6 + (r3 * (M4 103 719)))), (0, aR 102), (1, aI v1), (2, aI v2), (3, aI v3), (4, aI v4), (8, aI v8), (9, aI v9)]) hΓ dX12_costOf_135 (by decide) rfl ?_
  refine a_iinc (ls' := [(9, aI (v9 + 1)), (6, aL (v6 + (r3 * (M4 103 719)))), (0, aR 102), (1, aI v1), (2, aI v2), (3, aI v3), (4, aI v4), (8, aI v8)]) hΓ 7 dX12_costOf_137 rfl (by decide) rfl ?_
  refine a_goto (tgt := 10) hΓ dX12_costOf_140 (by decide) ?_
  refine a_sub (ls' := [(0, aR 102), (1, aI v1), (2, aI v2), (3, aI v3), (4, aI v4), (6, aL (v6 + (r3 * (M4 103 719)))), (8, aI v8), (9, aI (v9 + 1))]) [2, 3, 4, 5, 6, 1, 7, 0] rfl ?_
  exact hk10 (v6 + (r3 * (M4 103 719))) v8 (v9 + 1) M4 h
def wX12_costOf_85 (Q : Int → Mm → Prop) (k10 : Int → Int → Int → Mm → Prop) (v1 : Int) (v2 : Int) (v3 : Int) (v4 : Int) (v6 : Int) (v8 : Int) (v9 : Int) (M : Mm) : Prop :=
    Bd (wX12_isCall v2 v9 M) (fun r3 M4 =>
    (inR r3) ∧
    (if r3 = 0 then
      wX12_costOf_112 Q k10 v1 v2 v3 v4 v6 v8 v9 M4
    else
      (inR (M4 103 720)) ∧
      wX12_costOf_112 Q k10 v1 v2 v3 v4 (v6 + (M4 103 720)) 0 v9 M4))
set_option maxHeartbeats 4000000 in
theorem s_wX12_costOf_85 {Γ : Cx} {h : Nat} (hΓ : Ok Γ cX12_costOf RX12 11 h 0 0) (hh : 7 ≤ h) (hr : (cxm Γ).sig.returnType = (some .long)) {Q : Int → Mm → Prop} {v1 v2 v3 v4 v6 v8 v9 : Int}  {k10 : Int → Int → Int → Mm → Prop} (hk10 : ∀ (v6 : Int) (v8 : Int) (v9 : Int) (M : Mm), k10 v6 v8 v9 M → Wa Γ 11 (Kf Γ (QL Q) 0 0) 0 0 10 [(0, aR 102), (1, aI v1), (2, aI v2), (3, aI v3), (4, aI v4), (6, aL v6), (8, aI v8), (9, aI v9)] [] (NC, RF, M)) (M : Mm) (h : wX12_costOf_85 Q k10 v1 v2 v3 v4 v6 v8 v9 M) : Wa Γ 11 (Kf Γ (QL Q) 0 0) 0 0 85 [(0, aR 102), (1, aI v1), (2, aI v2), (3, aI v3), (4, aI v4), (6, aL v6), (8, aI v8), (9, aI v9)] [] (NC, RF, M) := by
  unfold wX12_costOf_85 at h
  refine a_aload_n hΓ 0 dX12_costOf_85 rfl rfl ?_
  refine a_iload_n hΓ 2 dX12_costOf_86 rfl rfl ?_
  refine a_iload hΓ 7 dX12_costOf_87 rfl ?_
  obtain ⟨P1, q2, h⟩ := h
  refine n_callV (c := 102) (av := [aI v2, aI v9]) (st := []) hΓ (ct_wX12_isCall _ _ v2 v9 M P1 q2) my_X12_isCall ml_RX12_339 ni_X12_isCall kd_102 rfl lz_102 rfl (Nat.le_trans (by decide) hh) (by decide) (Nat.le_of_ble_eq_true rfl) rfl dX12_costOf_89 (fun v Z' hq => ?_)
  obtain ⟨r3, M4, rfl, rfl, hq⟩ := hq
  have h := h r3 M4 hq
  dsimp only at h
  obtain ⟨g5, h⟩ := h
  refine a_if_eq (tgt := 112) hΓ g5 dX12_costOf_92 (by decide) (fun c6 => ?_) (fun c6 => ?_)
  · rw [if_pos c6] at h
    exact s_wX12_costOf_112 hΓ (Nat.le_trans (by decide) hh) hr hk10 M4 h
  · rw [if_neg c6] at h
    refine a_iconst hΓ dX12_costOf_95 ?_
    refine a_istore (ls' := [(8, aI 0), (0, aR 102), (1, aI v1), (2, aI v2), (3, aI v3), (4, aI v4), (6, aL v6), (9, aI v9)]) hΓ dX12_costOf_96 (by decide) rfl ?_
    refine a_lload hΓ 6 dX12_costOf_98 rfl ?_
    refine a_aload_n hΓ 1 dX12_costOf_100 rfl rfl ?_
    refine n_getR hΓ fl_RX12_17 cl_12 kd_102 lz_102 dX12_costOf_101 ft_12_1 rf_102_1 ?_
    refine a_sipush hΓ dX12_costOf_104 (by decide) ?_
    refine n_iald (x := (M4 103 720)) hΓ dX12_costOf_107 kd_103 lz_103 ⟨by decide, by decide⟩ rfl ?_
    obtain ⟨g7, h⟩ := h
    refine a_i2l hΓ g7 dX12_costOf_108 ?_
    refine a_ladd hΓ dX12_costOf_109 ?_
    refine a_lstore (ls' := [(6, aL (v6 + (M4 103 720))), (8, aI 0), (0, aR 102), (1, aI v1), (2, aI v2), (3, aI v3), (4, aI v4), (9, aI v9)]) hΓ dX12_costOf_110 (by decide) rfl ?_
    refine a_sub (ls' := [(0, aR 102), (1, aI v1), (2, aI v2), (3, aI v3), (4, aI v4), (6, aL (v6 + (M4 103 720))), (8, aI 0), (9, aI v9)]) [2, 3, 4, 5, 6, 0, 1, 7] rfl ?_
    exact s_wX12_costOf_112 hΓ (Nat.le_trans (by decide) hh) hr hk10 M4 h
def wX12_costOf_56 (Q : Int → Mm → Prop) (k10 : Int → Int → Int → Mm → Prop) (v1 : Int) (v2 : Int) (v3 : Int) (v4 : Int) (v6 : Int) (v9 : Int) (s0 : Int) (M : Mm) : Prop :=
    (inR s0) ∧
    (if s0 < 0 then
      wX12_costOf_85 Q k10 v1 v2 v3 v4 v6 0 v9 M
    else
      (if s0 ≤ 1000 then
        wX12_costOf_85 Q k10 v1 v2 v3 v4 v6 s0 v9 M
      else
        wX12_costOf_85 Q k10 v1 v2 v3 v4 v6 1000 v9 M))
set_option maxHeartbeats 4000000 in
theorem s_wX12_costOf_56 {Γ : Cx} {h : Nat} (hΓ : Ok Γ cX12_costOf RX12 11 h 0 0) (hh : 7 ≤ h) (hr : (cxm Γ).sig.returnType = (some .long)) {Q : Int → Mm → Prop} {v1 v2 v3 v4 v6 v9 s0 : Int}  {k10 : Int → Int → Int → Mm → Prop} (hk10 : ∀ (v6 : Int) (v8 : Int) (v9 : Int) (M : Mm), k10 v6 v8 v9 M → Wa Γ 11 (Kf Γ (QL Q) 0 0) 0 0 10 [(0, aR 102), (1, aI v1), (2, aI v2), (3, aI v3), (4, aI v4), (6, aL v6), (8, aI v8), (9, aI v9)] [] (NC, RF, M)) (M : Mm) (h : wX12_costOf_56 Q k10 v1 v2 v3 v4 v6 v9 s0 M) : Wa Γ 11 (Kf Γ (QL Q) 0 0) 0 0 56 [(0, aR 102), (1, aI v1), (2, aI v2), (3, aI v3), (4, aI v4), (6, aL v6), (9, aI v9)] [aI s0] (NC, RF, M) := by
  unfold wX12_costOf_56 at h
  refine a_istore (ls' := [(8, aI s0), (0, aR 102), (1, aI v1), (2, aI v2), (3, aI v3), (4, aI v4), (6, aL v6), (9, aI v9)]) hΓ dX12_costOf_56 (by decide) rfl ?_
  refine a_iload hΓ 0 dX12_costOf_58 rfl ?_
  obtain ⟨g1, h⟩ := h
  refine a_if_ge (tgt := 67) hΓ g1 dX12_costOf_60 (by decide) (fun c2 => ?_) (fun c2 => ?_)
  · rw [if_pos c2] at h
    refine a_iconst hΓ dX12_costOf_63 ?_
    refine a_goto (tgt := 83) hΓ dX12_costOf_64 (by decide) ?_
    refine a_istore (ls' := [(8, aI 0), (0, aR 102), (1, aI v1), (2, aI v2), (3, aI v3), (4, aI v4), (6, aL v6), (9, aI v9)]) hΓ dX12_costOf_83 (by decide) rfl ?_
    refine a_sub (ls' := [(0, aR 102), (1, aI v1), (2, aI v2), (3, aI v3), (4, aI v4), (6, aL v6), (8, aI 0), (9, aI v9)]) [1, 2, 3, 4, 5, 6, 0, 7] rfl ?_
    exact s_wX12_costOf_85 hΓ (Nat.le_trans (by decide) hh) hr hk10 M h
  · rw [if_neg c2] at h
    refine a_iload hΓ 0 dX12_costOf_67 rfl ?_
    refine a_sipush hΓ dX12_costOf_69 (by decide) ?_
    refine a_icmp_le (tgt := 81) hΓ g1 (inRl (by decide)) dX12_costOf_72 (by decide) (fun c3 => ?_) (fun c3 => ?_)
    · rw [if_pos c3] at h
      refine a_iload hΓ 0 dX12_costOf_81 rfl ?_
      refine a_istore (ls' := [(8, aI s0), (0, aR 102), (1, aI v1), (2, aI v2), (3, aI v3), (4, aI v4), (6, aL v6), (9, aI v9)]) hΓ dX12_costOf_83 (by decide) rfl ?_
      refine a_sub (ls' := [(0, aR 102), (1, aI v1), (2, aI v2), (3, aI v3), (4, aI v4), (6, aL v6), (8, aI s0), (9, aI v9)]) [1, 2, 3, 4, 5, 6, 0, 7] rfl ?_
      exact s_wX12_costOf_85 hΓ (Nat.le_trans (by decide) hh) hr hk10 M h
    · rw [if_neg c3] at h
      refine a_sipush hΓ dX12_costOf_75 (by decide) ?_
      refine a_goto (tgt := 83) hΓ dX12_costOf_78 (by decide) ?_
      refine a_istore (ls' := [(8, aI 1000), (0, aR 102), (1, aI v1), (2, aI v2), (3, aI v3), (4, aI v4), (6, aL v6), (9, aI v9)]) hΓ dX12_costOf_83 (by decide) rfl ?_
      refine a_sub (ls' := [(0, aR 102), (1, aI v1), (2, aI v2), (3, aI v3), (4, aI v4), (6, aL v6), (8, aI 1000), (9, aI v9)]) [1, 2, 3, 4, 5, 6, 0, 7] rfl ?_
      exact s_wX12_costOf_85 hΓ (Nat.le_trans (by decide) hh) hr hk10 M h
def wX12_costOf_10 (Q : Int → Mm → Prop) (v1 : Int) (v2 : Int) (v3 : Int) (v4 : Int) : Nat → Int → Int → Int → Mm → Prop
  | 0, _, _, _, _ => False
  | f + 1, v6, v8, v9, M => (inR v9) ∧
    (inR v4) ∧
    (if v9 ≤ v4 then
      Bd (wX12_leftOn v1 v9 M) (fun r6 M7 =>
      (inR v3) ∧
      (if v9 ≤ v3 then
        wX12_costOf_85 Q (wX12_costOf_10 Q v1 v2 v3 v4 f) v1 v2 v3 v4 v6 v8 v9 M7
      else
        (inR r6) ∧
        (if r6 = (-1) then
          Bd (wX12_byTable v1 (v9 - 1) 1 M7) (fun r14 M15 =>
          wX12_costOf_56 Q (wX12_costOf_10 Q v1 v2 v3 v4 f) v1 v2 v3 v4 v6 v9 (v8 + r14) M15)
        else
          wX12_costOf_56 Q (wX12_costOf_10 Q v1 v2 v3 v4 f) v1 v2 v3 v4 v6 v9 r6 M7)))
    else
      Q v6 M)
set_option maxHeartbeats 4000000 in
theorem s_wX12_costOf_10 {Γ : Cx} {h : Nat} (hΓ : Ok Γ cX12_costOf RX12 11 h 0 0) (hh : 7 ≤ h) (hr : (cxm Γ).sig.returnType = (some .long)) {Q : Int → Mm → Prop} {v1 v2 v3 v4 : Int}   : ∀ (f : Nat) (v6 : Int) (v8 : Int) (v9 : Int) (M : Mm), wX12_costOf_10 Q v1 v2 v3 v4 f v6 v8 v9 M → Wa Γ 11 (Kf Γ (QL Q) 0 0) 0 0 10 [(0, aR 102), (1, aI v1), (2, aI v2), (3, aI v3), (4, aI v4), (6, aL v6), (8, aI v8), (9, aI v9)] [] (NC, RF, M) := by
  intro f
  induction f with
  | zero => intro v6 v8 v9 M h; exact h.elim
  | succ f ih =>
    intro v6 v8 v9 M h
    unfold wX12_costOf_10 at h
    refine a_iload hΓ 7 dX12_costOf_10 rfl ?_
    refine a_iload hΓ 4 dX12_costOf_12 rfl ?_
    obtain ⟨g1, h⟩ := h
    obtain ⟨g2, h⟩ := h
    refine a_icmp_gt (tgt := 143) hΓ g1 g2 dX12_costOf_14 (by decide) (fun c3 => ?_) (fun c3 => ?_)
    · rw [if_pos c3] at h
      refine a_aload_n hΓ 0 dX12_costOf_17 rfl rfl ?_
      refine a_iload_n hΓ 1 dX12_costOf_18 rfl rfl ?_
      refine a_iload hΓ 7 dX12_costOf_19 rfl ?_
      obtain ⟨P4, q5, h⟩ := h
      refine n_callV (c := 102) (av := [aI v1, aI v9]) (st := []) hΓ (ct_wX12_leftOn _ _ v1 v9 M P4 q5) my_X12_leftOn ml_RX12_116 ni_X12_leftOn kd_102 rfl lz_102 rfl (Nat.le_trans (by decide) hh) (by decide) (Nat.le_of_ble_eq_true rfl) rfl dX12_costOf_21 (fun v Z' hq => ?_)
      obtain ⟨r6, M7, rfl, rfl, hq⟩ := hq
      have h := h r6 M7 hq
      dsimp only at h
      refine a_istore (ls' := [(10, aI r6), (0, aR 102), (1, aI v1), (2, aI v2), (3, aI v3), (4, aI v4), (6, aL v6), (8, aI v8), (9, aI v9)]) hΓ dX12_costOf_24 (by decide) rfl ?_
      refine a_iload hΓ 8 dX12_costOf_26 rfl ?_
      refine a_iload_n hΓ 4 dX12_costOf_28 rfl rfl ?_
      obtain ⟨g8, h⟩ := h
      refine a_icmp_le (tgt := 85) hΓ g1 g8 dX12_costOf_29 (by decide) (fun c9 => ?_) (fun c9 => ?_)
      · rw [if_pos c9] at h
        refine a_sub (ls' := [(0, aR 102), (1, aI v1), (2, aI v2), (3, aI v3), (4, aI v4), (6, aL v6), (8, aI v8), (9, aI v9)]) [1, 2, 3, 4, 5, 6, 7, 8] rfl ?_
        exact s_wX12_costOf_85 hΓ (Nat.le_trans (by decide) hh) hr ih M7 h
      · rw [if_neg c9] at h
        refine a_iload hΓ 0 dX12_costOf_32 rfl ?_
        refine a_iconst hΓ dX12_costOf_34 ?_
        obtain ⟨g10, h⟩ := h
        refine a_icmp_eq (tgt := 43) hΓ g10 (inRl (by decide)) dX12_costOf_35 (by decide) (fun c11 => ?_) (fun c11 => ?_)
        · rw [if_pos c11] at h
          refine a_iload hΓ 7 dX12_costOf_43 rfl ?_
          refine a_aload_n hΓ 1 dX12_costOf_45 rfl rfl ?_
          refine a_iload_n hΓ 2 dX12_costOf_46 rfl rfl ?_
          refine a_iload hΓ 8 dX12_costOf_47 rfl ?_
          refine a_iconst hΓ dX12_costOf_49 ?_
          refine a_isub hΓ dX12_costOf_50 ?_
          refine a_iconst hΓ dX12_costOf_51 ?_
          obtain ⟨P12, q13, h⟩ := h
          refine n_callV (c := 102) (av := [aI v1, aI (v9 - 1), aI 1]) (st := [aI v8]) hΓ (ct_wX12_byTable _ _ v1 (v9 - 1) 1 M7 P12 q13) my_X12_byTable ml_RX12_137 ni_X12_byTable kd_102 rfl lz_102 rfl (Nat.le_trans (by decide) hh) (by decide) (Nat.le_of_ble_eq_true rfl) rfl dX12_costOf_52 (fun v Z' hq => ?_)
          obtain ⟨r14, M15, rfl, rfl, hq⟩ := hq
          have h := h r14 M15 hq
          dsimp only at h
          refine a_iadd hΓ dX12_costOf_55 ?_
          refine a_sub (ls' := [(0, aR 102), (1, aI v1), (2, aI v2), (3, aI v3), (4, aI v4), (6, aL v6), (9, aI v9)]) [1, 2, 3, 4, 5, 6, 8] rfl ?_
          exact s_wX12_costOf_56 hΓ (Nat.le_trans (by decide) hh) hr ih M15 h
        · rw [if_neg c11] at h
          refine a_iload hΓ 0 dX12_costOf_38 rfl ?_
          refine a_goto (tgt := 56) hΓ dX12_costOf_40 (by decide) ?_
          refine a_sub (ls' := [(0, aR 102), (1, aI v1), (2, aI v2), (3, aI v3), (4, aI v4), (6, aL v6), (9, aI v9)]) [1, 2, 3, 4, 5, 6, 8] rfl ?_
          exact s_wX12_costOf_56 hΓ (Nat.le_trans (by decide) hh) hr ih M7 h
    · rw [if_neg c3] at h
      refine a_lload hΓ 5 dX12_costOf_143 rfl ?_
      exact a_lret hΓ hr dX12_costOf_145 ⟨_, _, rfl, rfl, h⟩
def wX12_costOf (v1 : Int) (v2 : Int) (v3 : Int) (v4 : Int) (v5 : Int) (M : Mm) (Q : Int → Mm → Prop) : Prop :=
    ∃ n, wX12_costOf_10 Q v1 v2 v3 v4 n 0 v5 v3 M
set_option maxHeartbeats 4000000 in
theorem s_wX12_costOf {Γ : Cx} {h : Nat} (hΓ : Ok Γ cX12_costOf RX12 11 h 0 0) (hh : 7 ≤ h) (hr : (cxm Γ).sig.returnType = (some .long)) {Q : Int → Mm → Prop} (v1 : Int) (v2 : Int) (v3 : Int) (v4 : Int) (v5 : Int) (M : Mm) (h : wX12_costOf v1 v2 v3 v4 v5 M Q) : Wa Γ 11 (Kf Γ (QL Q) 0 0) 0 0 0 [(0, aR 102), (1, aI v1), (2, aI v2), (3, aI v3), (4, aI v4), (5, aI v5)] [] (NC, RF, M) := by
  unfold wX12_costOf at h
  refine a_lconst (x := 0) hΓ dX12_costOf_0 rfl ?_
  refine a_lstore (ls' := [(6, aL 0), (0, aR 102), (1, aI v1), (2, aI v2), (3, aI v3), (4, aI v4), (5, aI v5)]) hΓ dX12_costOf_1 (by decide) rfl ?_
  refine a_iload hΓ 6 dX12_costOf_3 rfl ?_
  refine a_istore (ls' := [(8, aI v5), (6, aL 0), (0, aR 102), (1, aI v1), (2, aI v2), (3, aI v3), (4, aI v4), (5, aI v5)]) hΓ dX12_costOf_5 (by decide) rfl ?_
  refine a_iload_n hΓ 5 dX12_costOf_7 rfl rfl ?_
  refine a_istore (ls' := [(9, aI v3), (8, aI v5), (6, aL 0), (0, aR 102), (1, aI v1), (2, aI v2), (3, aI v3), (4, aI v4), (5, aI v5)]) hΓ dX12_costOf_8 (by decide) rfl ?_
  refine a_sub (ls' := [(0, aR 102), (1, aI v1), (2, aI v2), (3, aI v3), (4, aI v4), (6, aL 0), (8, aI v5), (9, aI v3)]) [3, 4, 5, 6, 7, 2, 1, 0] rfl ?_
  obtain ⟨f1, h⟩ := h
  exact s_wX12_costOf_10 hΓ (Nat.le_trans (by decide) hh) hr  f1 0 v5 v3 M h
theorem ct_wX12_costOf (l : Launch) (g : Gp) (v1 : Int) (v2 : Int) (v3 : Int) (v4 : Int) (v5 : Int) (M : Mm) (Q : Int → Mm → Prop) (h : wX12_costOf v1 v2 v3 v4 v5 M Q) : Ct l g yX12_costOf cX12_costOf 11 (some .long) 7 0 0 [aR 102, aI v1, aI v2, aI v3, aI v4, aI v5] (NC, RF, M) (QL Q) :=
  ct_of (by decide) (Nat.le_of_ble_eq_true rfl) (fun Γ hg hl hr _ hΓ => by subst hg; subst hl; exact s_wX12_costOf hΓ (by decide) hr v1 v2 v3 v4 v5 M h)
def wX12_plan_64 (Q : Int → Mm → Prop) (v1 : Int) (v2 : Int) (v3 : Int) (v5 : Int) : Nat → Int → Int → Int → Mm → Prop
  | 0, _, _, _, _ => False
  | f + 1, v6, v7, v9, M => (inR v9) ∧
    (if v9 < (shlI 1 (M 102 47)) then
      Bd (wX12_costOf v1 v9 v2 v3 v5 M) (fun r5 M6 =>
      (inR64 r5) ∧
      (inR64 v7) ∧
      (if (cmpI r5 v7) ≤ 0 then
        (if (cmpI r5 v7) = 0 then
          Bd (wX12_ones v9 M6) (fun r13 M14 =>
          Bd (wX12_ones v6 M14) (fun r17 M18 =>
          (inR r13) ∧
          (inR r17) ∧
          (if r13 < r17 then
            (wX12_plan_64 Q v1 v2 v3 v5 f) v9 r5 (v9 + 1) M18
          else
            (wX12_plan_64 Q v1 v2 v3 v5 f) v6 v7 (v9 + 1) M18)))
        else
          (wX12_plan_64 Q v1 v2 v3 v5 f) v9 r5 (v9 + 1) M6)
      else
        (wX12_plan_64 Q v1 v2 v3 v5 f) v6 v7 (v9 + 1) M6))
    else
      Q v6 M)
set_option maxHeartbeats 4000000 in
theorem s_wX12_plan_64 {Γ : Cx} {h : Nat} (hΓ : Ok Γ cX12_plan RX12 12 h 0 0) (hh : 10 ≤ h) (hr : (cxm Γ).sig.returnType = (some .int)) {Q : Int → Mm → Prop} {v1 v2 v3 v5 : Int}   : ∀ (f : Nat) (v6 : Int) (v7 : Int) (v9 : Int) (M : Mm), wX12_plan_64 Q v1 v2 v3 v5 f v6 v7 v9 M → Wa Γ 12 (Kf Γ (QI Q) 0 0) 0 0 64 [(0, aR 102), (1, aI v1), (2, aI v2), (3, aI v3), (5, aI v5), (6, aI v6), (7, aL v7), (9, aI v9)] [] (NC, RF, M) := by
  intro f
  induction f with
  | zero => intro v6 v7 v9 M h; exact h.elim
  | succ f ih =>
    intro v6 v7 v9 M h
    unfold wX12_plan_64 at h
    refine a_iload hΓ 7 dX12_plan_64 rfl ?_
    refine a_iconst hΓ dX12_plan_66 ?_
    refine a_aload_n hΓ 0 dX12_plan_67 rfl rfl ?_
    refine n_getI (x := (M 102 47)) hΓ fl_RX12_336 cl_12 kd_102 lz_102 dX12_plan_68 (Or.inl ft_12_47) rfl ?_
    refine a_ishl hΓ dX12_plan_71 ?_
    obtain ⟨g1, h⟩ := h
    refine a_icmp_ge (tgt := 134) hΓ g1 (inR_shl _ _) dX12_plan_72 (by decide) (fun c2 => ?_) (fun c2 => ?_)
    · rw [if_pos c2] at h
      refine a_aload_n hΓ 0 dX12_plan_75 rfl rfl ?_
      refine a_iload_n hΓ 1 dX12_plan_76 rfl rfl ?_
      refine a_iload hΓ 7 dX12_plan_77 rfl ?_
      refine a_iload_n hΓ 2 dX12_plan_79 rfl rfl ?_
      refine a_iload_n hΓ 3 dX12_plan_80 rfl rfl ?_
      refine a_iload hΓ 4 dX12_plan_81 rfl ?_
      obtain ⟨P3, q4, h⟩ := h
      refine n_callV (c := 102) (av := [aI v1, aI v9, aI v2, aI v3, aI v5]) (st := []) hΓ (ct_wX12_costOf _ _ v1 v9 v2 v3 v5 M P3 q4) my_X12_costOf ml_RX12_342 ni_X12_costOf kd_102 rfl lz_102 rfl (Nat.le_trans (by decide) hh) (by decide) (Nat.le_of_ble_eq_true rfl) rfl dX12_plan_83 (fun v Z' hq => ?_)
      obtain ⟨r5, M6, rfl, rfl, hq⟩ := hq
      have h := h r5 M6 hq
      dsimp only at h
      refine a_lstore (ls' := [(10, aL r5), (0, aR 102), (1, aI v1), (2, aI v2), (3, aI v3), (5, aI v5), (6, aI v6), (7, aL v7), (9, aI v9)]) hΓ dX12_plan_86 (by decide) rfl ?_
      refine a_lload hΓ 0 dX12_plan_88 rfl ?_
      refine a_lload hΓ 7 dX12_plan_90 rfl ?_
      obtain ⟨g7, h⟩ := h
      obtain ⟨g8, h⟩ := h
      refine a_lcmp hΓ g7 g8 dX12_plan_92 ?_
      refine a_if_gt (tgt := 128) hΓ (inR_cmp _ _) dX12_plan_93 (by decide) (fun c9 => ?_) (fun c9 => ?_)
      · rw [if_pos c9] at h
        refine a_lload hΓ 0 dX12_plan_96 rfl ?_
        refine a_lload hΓ 7 dX12_plan_98 rfl ?_
        refine a_lcmp hΓ g7 g8 dX12_plan_100 ?_
        refine a_if_ne (tgt := 120) hΓ (inR_cmp _ _) dX12_plan_101 (by decide) (fun c10 => ?_) (fun c10 => ?_)
        · rw [if_pos c10] at h
          refine a_iload hΓ 8 dX12_plan_104 rfl ?_
          obtain ⟨P11, q12, h⟩ := h
          refine n_callS (av := [aI v9]) (st := []) hΓ (ct_wX12_ones _ _ v9 M6 P11 q12) my_X12_ones ml_RX12_201 rfl (Nat.le_trans (by decide) hh) (by decide) (Nat.le_of_ble_eq_true rfl) rfl dX12_plan_106 (fun v Z' hq => ?_)
          obtain ⟨r13, M14, rfl, rfl, hq⟩ := hq
          have h := h r13 M14 hq
          dsimp only at h
          refine a_iload hΓ 6 dX12_plan_109 rfl ?_
          obtain ⟨P15, q16, h⟩ := h
          refine n_callS (av := [aI v6]) (st := [aI r13]) hΓ (ct_wX12_ones _ _ v6 M14 P15 q16) my_X12_ones ml_RX12_201 rfl (Nat.le_trans (by decide) hh) (by decide) (Nat.le_of_ble_eq_true rfl) rfl dX12_plan_111 (fun v Z' hq => ?_)
          obtain ⟨r17, M18, rfl, rfl, hq⟩ := hq
          have h := h r17 M18 hq
          dsimp only at h
          obtain ⟨g19, h⟩ := h
          obtain ⟨g20, h⟩ := h
          refine a_icmp_lt (tgt := 120) hΓ g19 g20 dX12_plan_114 (by decide) (fun c21 => ?_) (fun c21 => ?_)
          · rw [if_pos c21] at h
            refine a_iload hΓ 8 dX12_plan_120 rfl ?_
            refine a_istore (ls' := [(6, aI v9), (10, aL r5), (0, aR 102), (1, aI v1), (2, aI v2), (3, aI v3), (5, aI v5), (7, aL v7), (9, aI v9)]) hΓ dX12_plan_122 (by decide) rfl ?_
            refine a_lload hΓ 1 dX12_plan_124 rfl ?_
            refine a_lstore (ls' := [(7, aL r5), (6, aI v9), (10, aL r5), (0, aR 102), (1, aI v1), (2, aI v2), (3, aI v3), (5, aI v5), (9, aI v9)]) hΓ dX12_plan_126 (by decide) rfl ?_
            refine a_iinc (ls' := [(9, aI (v9 + 1)), (7, aL r5), (6, aI v9), (10, aL r5), (0, aR 102), (1, aI v1), (2, aI v2), (3, aI v3), (5, aI v5)]) hΓ 8 dX12_plan_128 rfl (by decide) rfl ?_
            refine a_goto (tgt := 64) hΓ dX12_plan_131 (by decide) ?_
            refine a_sub (ls' := [(0, aR 102), (1, aI v1), (2, aI v2), (3, aI v3), (5, aI v5), (6, aI v9), (7, aL r5), (9, aI (v9 + 1))]) [4, 5, 6, 7, 8, 2, 1, 0] rfl ?_
            exact ih v9 r5 (v9 + 1) M18 h
          · rw [if_neg c21] at h
            refine a_goto (tgt := 128) hΓ dX12_plan_117 (by decide) ?_
            refine a_iinc (ls' := [(9, aI (v9 + 1)), (10, aL r5), (0, aR 102), (1, aI v1), (2, aI v2), (3, aI v3), (5, aI v5), (6, aI v6), (7, aL v7)]) hΓ 8 dX12_plan_128 rfl (by decide) rfl ?_
            refine a_goto (tgt := 64) hΓ dX12_plan_131 (by decide) ?_
            refine a_sub (ls' := [(0, aR 102), (1, aI v1), (2, aI v2), (3, aI v3), (5, aI v5), (6, aI v6), (7, aL v7), (9, aI (v9 + 1))]) [2, 3, 4, 5, 6, 7, 8, 0] rfl ?_
            exact ih v6 v7 (v9 + 1) M18 h
        · rw [if_neg c10] at h
          refine a_iload hΓ 8 dX12_plan_120 rfl ?_
          refine a_istore (ls' := [(6, aI v9), (10, aL r5), (0, aR 102), (1, aI v1), (2, aI v2), (3, aI v3), (5, aI v5), (7, aL v7), (9, aI v9)]) hΓ dX12_plan_122 (by decide) rfl ?_
          refine a_lload hΓ 1 dX12_plan_124 rfl ?_
          refine a_lstore (ls' := [(7, aL r5), (6, aI v9), (10, aL r5), (0, aR 102), (1, aI v1), (2, aI v2), (3, aI v3), (5, aI v5), (9, aI v9)]) hΓ dX12_plan_126 (by decide) rfl ?_
          refine a_iinc (ls' := [(9, aI (v9 + 1)), (7, aL r5), (6, aI v9), (10, aL r5), (0, aR 102), (1, aI v1), (2, aI v2), (3, aI v3), (5, aI v5)]) hΓ 8 dX12_plan_128 rfl (by decide) rfl ?_
          refine a_goto (tgt := 64) hΓ dX12_plan_131 (by decide) ?_
          refine a_sub (ls' := [(0, aR 102), (1, aI v1), (2, aI v2), (3, aI v3), (5, aI v5), (6, aI v9), (7, aL r5), (9, aI (v9 + 1))]) [4, 5, 6, 7, 8, 2, 1, 0] rfl ?_
          exact ih v9 r5 (v9 + 1) M6 h
      · rw [if_neg c9] at h
        refine a_iinc (ls' := [(9, aI (v9 + 1)), (10, aL r5), (0, aR 102), (1, aI v1), (2, aI v2), (3, aI v3), (5, aI v5), (6, aI v6), (7, aL v7)]) hΓ 8 dX12_plan_128 rfl (by decide) rfl ?_
        refine a_goto (tgt := 64) hΓ dX12_plan_131 (by decide) ?_
        refine a_sub (ls' := [(0, aR 102), (1, aI v1), (2, aI v2), (3, aI v3), (5, aI v5), (6, aI v6), (7, aL v7), (9, aI (v9 + 1))]) [2, 3, 4, 5, 6, 7, 8, 0] rfl ?_
        exact ih v6 v7 (v9 + 1) M6 h
    · rw [if_neg c2] at h
      refine a_iload hΓ 5 dX12_plan_134 rfl ?_
      exact a_iret hΓ hr dX12_plan_136 ⟨_, _, rfl, rfl, h⟩
def wX12_plan (v1 : Int) (v2 : Int) (v3 : Int) (v4 : Int) (M : Mm) (Q : Int → Mm → Prop) : Prop :=
    Bd (wX12_isAsked v1 v2 v4 M) (fun r3 M4 =>
    (inR r3) ∧
    (if r3 = 0 then
      Q (-1) M4
    else
      Bd (wX12_in v3 v2 119 M4) (fun r9 M10 =>
      (inR r9) ∧
      (if r9 = 0 then
        Q (-1) M10
      else
        Bd (wX12_counting v1 v4 M10) (fun r15 M16 =>
        Bd (wX12_spans v1 r15 M16) (fun r19 M20 =>
        (inR r19) ∧
        (if r19 = 0 then
          Q (-1) M20
        else
          (0 ≤ v2 ∧ v2 < 120) ∧
          Bd (wX12_costOf v1 0 v2 v3 (M20 107 v2) M20) (fun r26 M27 =>
          ∃ n, wX12_plan_64 Q v1 v2 v3 (M20 107 v2) n 0 r26 1 M27))))))))
set_option maxHeartbeats 4000000 in
theorem s_wX12_plan {Γ : Cx} {h : Nat} (hΓ : Ok Γ cX12_plan RX12 12 h 0 0) (hh : 10 ≤ h) (hr : (cxm Γ).sig.returnType = (some .int)) {Q : Int → Mm → Prop} (v1 : Int) (v2 : Int) (v3 : Int) (v4 : Int) (M : Mm) (h : wX12_plan v1 v2 v3 v4 M Q) : Wa Γ 12 (Kf Γ (QI Q) 0 0) 0 0 0 [(0, aR 102), (1, aI v1), (2, aI v2), (3, aI v3), (4, aI v4)] [] (NC, RF, M) := by
  unfold wX12_plan at h
  refine a_aload_n hΓ 0 dX12_plan_0 rfl rfl ?_
  refine a_iload_n hΓ 1 dX12_plan_1 rfl rfl ?_
  refine a_iload_n hΓ 2 dX12_plan_2 rfl rfl ?_
  refine a_iload hΓ 4 dX12_plan_3 rfl ?_
  obtain ⟨P1, q2, h⟩ := h
  refine n_callV (c := 102) (av := [aI v1, aI v2, aI v4]) (st := []) hΓ (ct_wX12_isAsked _ _ v1 v2 v4 M P1 q2) my_X12_isAsked ml_RX12_174 ni_X12_isAsked kd_102 rfl lz_102 rfl (Nat.le_trans (by decide) hh) (by decide) (Nat.le_of_ble_eq_true rfl) rfl dX12_plan_5 (fun v Z' hq => ?_)
  obtain ⟨r3, M4, rfl, rfl, hq⟩ := hq
  have h := h r3 M4 hq
  dsimp only at h
  obtain ⟨g5, h⟩ := h
  refine a_if_eq (tgt := 36) hΓ g5 dX12_plan_8 (by decide) (fun c6 => ?_) (fun c6 => ?_)
  · rw [if_pos c6] at h
    refine a_iconst hΓ dX12_plan_36 ?_
    exact a_iret hΓ hr dX12_plan_37 ⟨_, _, rfl, rfl, h⟩
  · rw [if_neg c6] at h
    refine a_iload_n hΓ 3 dX12_plan_11 rfl rfl ?_
    refine a_iload_n hΓ 2 dX12_plan_12 rfl rfl ?_
    refine a_bipush hΓ dX12_plan_13 (by decide) ?_
    obtain ⟨P7, q8, h⟩ := h
    refine n_callS (av := [aI v3, aI v2, aI 119]) (st := []) hΓ (ct_wX12_in _ _ v3 v2 119 M4 P7 q8) my_X12_in ml_RX12_3 rfl (Nat.le_trans (by decide) hh) (by decide) (Nat.le_of_ble_eq_true rfl) rfl dX12_plan_15 (fun v Z' hq => ?_)
    obtain ⟨r9, M10, rfl, rfl, hq⟩ := hq
    have h := h r9 M10 hq
    dsimp only at h
    obtain ⟨g11, h⟩ := h
    refine a_if_eq (tgt := 36) hΓ g11 dX12_plan_18 (by decide) (fun c12 => ?_) (fun c12 => ?_)
    · rw [if_pos c12] at h
      refine a_iconst hΓ dX12_plan_36 ?_
      exact a_iret hΓ hr dX12_plan_37 ⟨_, _, rfl, rfl, h⟩
    · rw [if_neg c12] at h
      refine a_aload_n hΓ 0 dX12_plan_21 rfl rfl ?_
      refine a_iload_n hΓ 1 dX12_plan_22 rfl rfl ?_
      refine a_aload_n hΓ 0 dX12_plan_23 rfl rfl ?_
      refine a_iload_n hΓ 1 dX12_plan_24 rfl rfl ?_
      refine a_iload hΓ 4 dX12_plan_25 rfl ?_
      obtain ⟨P13, q14, h⟩ := h
      refine n_callV (c := 102) (av := [aI v1, aI v4]) (st := [aI v1, aR 102]) hΓ (ct_wX12_counting _ _ v1 v4 M10 P13 q14) my_X12_counting ml_RX12_177 ni_X12_counting kd_102 rfl lz_102 rfl (Nat.le_trans (by decide) hh) (by decide) (Nat.le_of_ble_eq_true rfl) rfl dX12_plan_27 (fun v Z' hq => ?_)
      obtain ⟨r15, M16, rfl, rfl, hq⟩ := hq
      have h := h r15 M16 hq
      dsimp only at h
      obtain ⟨P17, q18, h⟩ := h
      refine n_callV (c := 102) (av := [aI v1, aI r15]) (st := []) hΓ (ct_wX12_spans _ _ v1 r15 M16 P17 q18) my_X12_spans ml_RX12_180 ni_X12_spans kd_102 rfl lz_102 rfl (Nat.le_trans (by decide) hh) (by decide) (Nat.le_of_ble_eq_true rfl) rfl dX12_plan_30 (fun v Z' hq => ?_)
      obtain ⟨r19, M20, rfl, rfl, hq⟩ := hq
      have h := h r19 M20 hq
      dsimp only at h
      obtain ⟨g21, h⟩ := h
      refine a_if_ne (tgt := 38) hΓ g21 dX12_plan_33 (by decide) (fun c22 => ?_) (fun c22 => ?_)
      · rw [if_pos c22] at h
        refine a_iconst hΓ dX12_plan_36 ?_
        exact a_iret hΓ hr dX12_plan_37 ⟨_, _, rfl, rfl, h⟩
      · rw [if_neg c22] at h
        refine a_aload_n hΓ 0 dX12_plan_38 rfl rfl ?_
        refine n_getR hΓ fl_RX12_31 cl_12 kd_102 lz_102 dX12_plan_39 ft_12_5 rf_102_5 ?_
        refine a_iload_n hΓ 2 dX12_plan_42 rfl rfl ?_
        obtain ⟨g23, h⟩ := h
        refine n_iald (x := (M20 107 v2)) hΓ dX12_plan_43 kd_107 lz_107 g23 rfl ?_
        refine a_istore (ls' := [(5, aI (M20 107 v2)), (0, aR 102), (1, aI v1), (2, aI v2), (3, aI v3), (4, aI v4)]) hΓ dX12_plan_44 (by decide) rfl ?_
        refine a_iconst hΓ dX12_plan_46 ?_
        refine a_istore (ls' := [(6, aI 0), (5, aI (M20 107 v2)), (0, aR 102), (1, aI v1), (2, aI v2), (3, aI v3), (4, aI v4)]) hΓ dX12_plan_47 (by decide) rfl ?_
        refine a_aload_n hΓ 2 dX12_plan_49 rfl rfl ?_
        refine a_iload_n hΓ 3 dX12_plan_50 rfl rfl ?_
        refine a_iconst hΓ dX12_plan_51 ?_
        refine a_iload_n hΓ 4 dX12_plan_52 rfl rfl ?_
        refine a_iload_n hΓ 5 dX12_plan_53 rfl rfl ?_
        refine a_iload hΓ 1 dX12_plan_54 rfl ?_
        obtain ⟨P24, q25, h⟩ := h
        refine n_callV (c := 102) (av := [aI v1, aI 0, aI v2, aI v3, aI (M20 107 v2)]) (st := []) hΓ (ct_wX12_costOf _ _ v1 0 v2 v3 (M20 107 v2) M20 P24 q25) my_X12_costOf ml_RX12_342 ni_X12_costOf kd_102 rfl lz_102 rfl (Nat.le_trans (by decide) hh) (by decide) (Nat.le_of_ble_eq_true rfl) rfl dX12_plan_56 (fun v Z' hq => ?_)
        obtain ⟨r26, M27, rfl, rfl, hq⟩ := hq
        have h := h r26 M27 hq
        dsimp only at h
        refine a_lstore (ls' := [(7, aL r26), (6, aI 0), (5, aI (M20 107 v2)), (0, aR 102), (1, aI v1), (2, aI v2), (3, aI v3), (4, aI v4)]) hΓ dX12_plan_59 (by decide) rfl ?_
        refine a_iconst hΓ dX12_plan_61 ?_
        refine a_istore (ls' := [(9, aI 1), (7, aL r26), (6, aI 0), (5, aI (M20 107 v2)), (0, aR 102), (1, aI v1), (2, aI v2), (3, aI v3), (4, aI v4)]) hΓ dX12_plan_62 (by decide) rfl ?_
        refine a_sub (ls' := [(0, aR 102), (1, aI v1), (2, aI v2), (3, aI v3), (5, aI (M20 107 v2)), (6, aI 0), (7, aL r26), (9, aI 1)]) [4, 5, 6, 7, 3, 2, 1, 0] rfl ?_
        obtain ⟨f28, h⟩ := h
        exact s_wX12_plan_64 hΓ (Nat.le_trans (by decide) hh) hr  f28 0 r26 1 M27 h
theorem ct_wX12_plan (l : Launch) (g : Gp) (v1 : Int) (v2 : Int) (v3 : Int) (v4 : Int) (M : Mm) (Q : Int → Mm → Prop) (h : wX12_plan v1 v2 v3 v4 M Q) : Ct l g yX12_plan cX12_plan 12 (some .int) 10 0 0 [aR 102, aI v1, aI v2, aI v3, aI v4] (NC, RF, M) (QI Q) :=
  ct_of (by decide) (Nat.le_of_ble_eq_true rfl) (fun Γ hg hl hr _ hΓ => by subst hg; subst hl; exact s_wX12_plan hΓ (by decide) hr v1 v2 v3 v4 M h)
def wX12_judge (v1 : Int) (v2 : Int) (v3 : Int) (v4 : Int) (v5 : Int) (M : Mm) (Q : Int → Mm → Prop) : Prop :=
    Bd (wX12_isAsked v1 v3 v5 M) (fun r3 M4 =>
    (inR r3) ∧
    (if r3 = 0 then
      Q (-1) M4
    else
      Bd (wX12_in v4 v3 119 M4) (fun r9 M10 =>
      (inR r9) ∧
      (if r9 = 0 then
        Q (-1) M10
      else
        (inR v2) ∧
        (if v2 < 0 then
          Q (-1) M10
        else
          (if (shrI v2 (M10 102 47)) = 0 then
            Bd (wX12_counting v1 v5 M10) (fun r18 M19 =>
            Bd (wX12_spans v1 r18 M19) (fun r22 M23 =>
            (inR r22) ∧
            (if r22 = 0 then
              Q (-1) M23
            else
              (0 ≤ v3 ∧ v3 < 120) ∧
              Bd (wX12_costOf v1 v2 v3 v4 (M23 107 v3) M23) (fun r29 M30 =>
              Q r29 M30))))
          else
            Q (-1) M10))))))
set_option maxHeartbeats 4000000 in
theorem s_wX12_judge {Γ : Cx} {h : Nat} (hΓ : Ok Γ cX12_judge RX12 6 h 0 0) (hh : 10 ≤ h) (hr : (cxm Γ).sig.returnType = (some .long)) {Q : Int → Mm → Prop} (v1 : Int) (v2 : Int) (v3 : Int) (v4 : Int) (v5 : Int) (M : Mm) (h : wX12_judge v1 v2 v3 v4 v5 M Q) : Wa Γ 6 (Kf Γ (QL Q) 0 0) 0 0 0 [(0, aR 102), (1, aI v1), (2, aI v2), (3, aI v3), (4, aI v4), (5, aI v5)] [] (NC, RF, M) := by
  unfold wX12_judge at h
  refine a_aload_n hΓ 0 dX12_judge_0 rfl rfl ?_
  refine a_iload_n hΓ 1 dX12_judge_1 rfl rfl ?_
  refine a_iload_n hΓ 3 dX12_judge_2 rfl rfl ?_
  refine a_iload hΓ 5 dX12_judge_3 rfl ?_
  obtain ⟨P1, q2, h⟩ := h
  refine n_callV (c := 102) (av := [aI v1, aI v3, aI v5]) (st := []) hΓ (ct_wX12_isAsked _ _ v1 v3 v5 M P1 q2) my_X12_isAsked ml_RX12_174 ni_X12_isAsked kd_102 rfl lz_102 rfl (Nat.le_trans (by decide) hh) (by decide) (Nat.le_of_ble_eq_true rfl) rfl dX12_judge_5 (fun v Z' hq => ?_)
  obtain ⟨r3, M4, rfl, rfl, hq⟩ := hq
  have h := h r3 M4 hq
  dsimp only at h
  obtain ⟨g5, h⟩ := h
  refine a_if_eq (tgt := 50) hΓ g5 dX12_judge_8 (by decide) (fun c6 => ?_) (fun c6 => ?_)
  · rw [if_pos c6] at h
    refine a_ldc2_w hΓ gc_RX12_187 dX12_judge_50 ?_
    exact a_lret hΓ hr dX12_judge_53 ⟨_, _, rfl, rfl, h⟩
  · rw [if_neg c6] at h
    refine a_iload hΓ 4 dX12_judge_11 rfl ?_
    refine a_iload_n hΓ 3 dX12_judge_13 rfl rfl ?_
    refine a_bipush hΓ dX12_judge_14 (by decide) ?_
    obtain ⟨P7, q8, h⟩ := h
    refine n_callS (av := [aI v4, aI v3, aI 119]) (st := []) hΓ (ct_wX12_in _ _ v4 v3 119 M4 P7 q8) my_X12_in ml_RX12_3 rfl (Nat.le_trans (by decide) hh) (by decide) (Nat.le_of_ble_eq_true rfl) rfl dX12_judge_16 (fun v Z' hq => ?_)
    obtain ⟨r9, M10, rfl, rfl, hq⟩ := hq
    have h := h r9 M10 hq
    dsimp only at h
    obtain ⟨g11, h⟩ := h
    refine a_if_eq (tgt := 50) hΓ g11 dX12_judge_19 (by decide) (fun c12 => ?_) (fun c12 => ?_)
    · rw [if_pos c12] at h
      refine a_ldc2_w hΓ gc_RX12_187 dX12_judge_50 ?_
      exact a_lret hΓ hr dX12_judge_53 ⟨_, _, rfl, rfl, h⟩
    · rw [if_neg c12] at h
      refine a_iload_n hΓ 2 dX12_judge_22 rfl rfl ?_
      obtain ⟨g13, h⟩ := h
      refine a_if_lt (tgt := 50) hΓ g13 dX12_judge_23 (by decide) (fun c14 => ?_) (fun c14 => ?_)
      · rw [if_pos c14] at h
        refine a_ldc2_w hΓ gc_RX12_187 dX12_judge_50 ?_
        exact a_lret hΓ hr dX12_judge_53 ⟨_, _, rfl, rfl, h⟩
      · rw [if_neg c14] at h
        refine a_iload_n hΓ 2 dX12_judge_26 rfl rfl ?_
        refine a_aload_n hΓ 0 dX12_judge_27 rfl rfl ?_
        refine n_getI (x := (M10 102 47)) hΓ fl_RX12_336 cl_12 kd_102 lz_102 dX12_judge_28 (Or.inl ft_12_47) rfl ?_
        refine a_ishr hΓ dX12_judge_31 ?_
        refine a_if_ne (tgt := 50) hΓ (inR_shr _ _) dX12_judge_32 (by decide) (fun c15 => ?_) (fun c15 => ?_)
        · rw [if_pos c15] at h
          refine a_aload_n hΓ 0 dX12_judge_35 rfl rfl ?_
          refine a_iload_n hΓ 1 dX12_judge_36 rfl rfl ?_
          refine a_aload_n hΓ 0 dX12_judge_37 rfl rfl ?_
          refine a_iload_n hΓ 1 dX12_judge_38 rfl rfl ?_
          refine a_iload hΓ 5 dX12_judge_39 rfl ?_
          obtain ⟨P16, q17, h⟩ := h
          refine n_callV (c := 102) (av := [aI v1, aI v5]) (st := [aI v1, aR 102]) hΓ (ct_wX12_counting _ _ v1 v5 M10 P16 q17) my_X12_counting ml_RX12_177 ni_X12_counting kd_102 rfl lz_102 rfl (Nat.le_trans (by decide) hh) (by decide) (Nat.le_of_ble_eq_true rfl) rfl dX12_judge_41 (fun v Z' hq => ?_)
          obtain ⟨r18, M19, rfl, rfl, hq⟩ := hq
          have h := h r18 M19 hq
          dsimp only at h
          obtain ⟨P20, q21, h⟩ := h
          refine n_callV (c := 102) (av := [aI v1, aI r18]) (st := []) hΓ (ct_wX12_spans _ _ v1 r18 M19 P20 q21) my_X12_spans ml_RX12_180 ni_X12_spans kd_102 rfl lz_102 rfl (Nat.le_trans (by decide) hh) (by decide) (Nat.le_of_ble_eq_true rfl) rfl dX12_judge_44 (fun v Z' hq => ?_)
          obtain ⟨r22, M23, rfl, rfl, hq⟩ := hq
          have h := h r22 M23 hq
          dsimp only at h
          obtain ⟨g24, h⟩ := h
          refine a_if_ne (tgt := 54) hΓ g24 dX12_judge_47 (by decide) (fun c25 => ?_) (fun c25 => ?_)
          · rw [if_pos c25] at h
            refine a_ldc2_w hΓ gc_RX12_187 dX12_judge_50 ?_
            exact a_lret hΓ hr dX12_judge_53 ⟨_, _, rfl, rfl, h⟩
          · rw [if_neg c25] at h
            refine a_aload_n hΓ 0 dX12_judge_54 rfl rfl ?_
            refine a_iload_n hΓ 1 dX12_judge_55 rfl rfl ?_
            refine a_iload_n hΓ 2 dX12_judge_56 rfl rfl ?_
            refine a_iload_n hΓ 3 dX12_judge_57 rfl rfl ?_
            refine a_iload hΓ 4 dX12_judge_58 rfl ?_
            refine a_aload_n hΓ 0 dX12_judge_60 rfl rfl ?_
            refine n_getR hΓ fl_RX12_31 cl_12 kd_102 lz_102 dX12_judge_61 ft_12_5 rf_102_5 ?_
            refine a_iload_n hΓ 3 dX12_judge_64 rfl rfl ?_
            obtain ⟨g26, h⟩ := h
            refine n_iald (x := (M23 107 v3)) hΓ dX12_judge_65 kd_107 lz_107 g26 rfl ?_
            obtain ⟨P27, q28, h⟩ := h
            refine n_callV (c := 102) (av := [aI v1, aI v2, aI v3, aI v4, aI (M23 107 v3)]) (st := []) hΓ (ct_wX12_costOf _ _ v1 v2 v3 v4 (M23 107 v3) M23 P27 q28) my_X12_costOf ml_RX12_342 ni_X12_costOf kd_102 rfl lz_102 rfl (Nat.le_trans (by decide) hh) (by decide) (Nat.le_of_ble_eq_true rfl) rfl dX12_judge_66 (fun v Z' hq => ?_)
            obtain ⟨r29, M30, rfl, rfl, hq⟩ := hq
            have h := h r29 M30 hq
            dsimp only at h
            exact a_lret hΓ hr dX12_judge_69 ⟨_, _, rfl, rfl, h⟩
        · rw [if_neg c15] at h
          refine a_ldc2_w hΓ gc_RX12_187 dX12_judge_50 ?_
          exact a_lret hΓ hr dX12_judge_53 ⟨_, _, rfl, rfl, h⟩
theorem ct_wX12_judge (l : Launch) (g : Gp) (v1 : Int) (v2 : Int) (v3 : Int) (v4 : Int) (v5 : Int) (M : Mm) (Q : Int → Mm → Prop) (h : wX12_judge v1 v2 v3 v4 v5 M Q) : Ct l g yX12_judge cX12_judge 6 (some .long) 10 0 0 [aR 102, aI v1, aI v2, aI v3, aI v4, aI v5] (NC, RF, M) (QL Q) :=
  ct_of (by decide) (Nat.le_of_ble_eq_true rfl) (fun Γ hg hl hr _ hΓ => by subst hg; subst hl; exact s_wX12_judge hΓ (by decide) hr v1 v2 v3 v4 v5 M h)
def wX12_sumOf_4 (Q : Int → Mm → Prop) : Nat → Int → Int → Mm → Prop
  | 0, _, _, _ => False
  | f + 1, v1, v2, M => Bd (wX12_many 3 M) (fun r3 M4 =>
    (inR v2) ∧
    (inR r3) ∧
    (if v2 < r3 then
      Bd (wX12_logAt v2 2 M4) (fun r10 M11 =>
      (wX12_sumOf_4 Q f) (v1 + r10) (v2 + 1) M11)
    else
      Q v1 M4))
set_option maxHeartbeats 4000000 in
theorem s_wX12_sumOf_4 {Γ : Cx} {h : Nat} (hΓ : Ok Γ cX12_sumOf RX12 3 h 0 0) (hh : 2 ≤ h) (hr : (cxm Γ).sig.returnType = (some .int)) {Q : Int → Mm → Prop}   : ∀ (f : Nat) (v1 : Int) (v2 : Int) (M : Mm), wX12_sumOf_4 Q  f v1 v2 M → Wa Γ 3 (Kf Γ (QI Q) 0 0) 0 0 4 [(0, aR 102), (1, aI v1), (2, aI v2)] [] (NC, RF, M) := by
  intro f
  induction f with
  | zero => intro v1 v2 M h; exact h.elim
  | succ f ih =>
    intro v1 v2 M h
    unfold wX12_sumOf_4 at h
    refine a_iload_n hΓ 2 dX12_sumOf_4 rfl rfl ?_
    refine a_aload_n hΓ 0 dX12_sumOf_5 rfl rfl ?_
    refine a_iconst hΓ dX12_sumOf_6 ?_
    obtain ⟨P1, q2, h⟩ := h
    refine n_callV (c := 102) (av := [aI 3]) (st := [aI v2]) hΓ (ct_wX12_many _ _ 3 M P1 q2) my_X12_many ml_RX12_102 ni_X12_many kd_102 rfl lz_102 rfl (Nat.le_trans (by decide) hh) (by decide) (Nat.le_of_ble_eq_true rfl) rfl dX12_sumOf_7 (fun v Z' hq => ?_)
    obtain ⟨r3, M4, rfl, rfl, hq⟩ := hq
    have h := h r3 M4 hq
    dsimp only at h
    obtain ⟨g5, h⟩ := h
    obtain ⟨g6, h⟩ := h
    refine a_icmp_ge (tgt := 28) hΓ g5 g6 dX12_sumOf_10 (by decide) (fun c7 => ?_) (fun c7 => ?_)
    · rw [if_pos c7] at h
      refine a_iload_n hΓ 1 dX12_sumOf_13 rfl rfl ?_
      refine a_aload_n hΓ 0 dX12_sumOf_14 rfl rfl ?_
      refine a_iload_n hΓ 2 dX12_sumOf_15 rfl rfl ?_
      refine a_iconst hΓ dX12_sumOf_16 ?_
      obtain ⟨P8, q9, h⟩ := h
      refine n_callV (c := 102) (av := [aI v2, aI 2]) (st := [aI v1]) hΓ (ct_wX12_logAt _ _ v2 2 M4 P8 q9) my_X12_logAt ml_RX12_151 ni_X12_logAt kd_102 rfl lz_102 rfl (Nat.le_trans (by decide) hh) (by decide) (Nat.le_of_ble_eq_true rfl) rfl dX12_sumOf_17 (fun v Z' hq => ?_)
      obtain ⟨r10, M11, rfl, rfl, hq⟩ := hq
      have h := h r10 M11 hq
      dsimp only at h
      refine a_iadd hΓ dX12_sumOf_20 ?_
      refine a_istore_n (ls' := [(1, aI (v1 + r10)), (0, aR 102), (2, aI v2)]) hΓ dX12_sumOf_21 rfl (by decide) rfl ?_
      refine a_iinc (ls' := [(2, aI (v2 + 1)), (1, aI (v1 + r10)), (0, aR 102)]) hΓ 2 dX12_sumOf_22 rfl (by decide) rfl ?_
      refine a_goto (tgt := 4) hΓ dX12_sumOf_25 (by decide) ?_
      refine a_sub (ls' := [(0, aR 102), (1, aI (v1 + r10)), (2, aI (v2 + 1))]) [2, 1, 0] rfl ?_
      exact ih (v1 + r10) (v2 + 1) M11 h
    · rw [if_neg c7] at h
      refine a_iload_n hΓ 1 dX12_sumOf_28 rfl rfl ?_
      exact a_iret hΓ hr dX12_sumOf_29 ⟨_, _, rfl, rfl, h⟩
def wX12_sumOf  (M : Mm) (Q : Int → Mm → Prop) : Prop :=
    ∃ n, wX12_sumOf_4 Q n 0 0 M
set_option maxHeartbeats 4000000 in
theorem s_wX12_sumOf {Γ : Cx} {h : Nat} (hΓ : Ok Γ cX12_sumOf RX12 3 h 0 0) (hh : 2 ≤ h) (hr : (cxm Γ).sig.returnType = (some .int)) {Q : Int → Mm → Prop}  (M : Mm) (h : wX12_sumOf  M Q) : Wa Γ 3 (Kf Γ (QI Q) 0 0) 0 0 0 [(0, aR 102)] [] (NC, RF, M) := by
  unfold wX12_sumOf at h
  refine a_iconst hΓ dX12_sumOf_0 ?_
  refine a_istore_n (ls' := [(1, aI 0), (0, aR 102)]) hΓ dX12_sumOf_1 rfl (by decide) rfl ?_
  refine a_iconst hΓ dX12_sumOf_2 ?_
  refine a_istore_n (ls' := [(2, aI 0), (1, aI 0), (0, aR 102)]) hΓ dX12_sumOf_3 rfl (by decide) rfl ?_
  refine a_sub (ls' := [(0, aR 102), (1, aI 0), (2, aI 0)]) [2, 1, 0] rfl ?_
  obtain ⟨f1, h⟩ := h
  exact s_wX12_sumOf_4 hΓ (Nat.le_trans (by decide) hh) hr  f1 0 0 M h
theorem ct_wX12_sumOf (l : Launch) (g : Gp)  (M : Mm) (Q : Int → Mm → Prop) (h : wX12_sumOf  M Q) : Ct l g yX12_sumOf cX12_sumOf 3 (some .int) 2 0 0 [aR 102] (NC, RF, M) (QI Q) :=
  ct_of (by decide) (Nat.le_of_ble_eq_true rfl) (fun Γ hg hl hr _ hΓ => by subst hg; subst hl; exact s_wX12_sumOf hΓ (by decide) hr  M h)
def wX12_weightOf_4 (Q : Int → Mm → Prop) : Nat → Int → Int → Mm → Prop
  | 0, _, _, _ => False
  | f + 1, v1, v2, M => Bd (wX12_many 3 M) (fun r3 M4 =>
    (inR v2) ∧
    (inR r3) ∧
    (if v2 < r3 then
      Bd (wX12_logAt v2 2 M4) (fun r10 M11 =>
      (wX12_weightOf_4 Q f) (v1 + ((v2 + 1) * r10)) (v2 + 1) M11)
    else
      Q v1 M4))
set_option maxHeartbeats 4000000 in
theorem s_wX12_weightOf_4 {Γ : Cx} {h : Nat} (hΓ : Ok Γ cX12_weightOf RX12 3 h 0 0) (hh : 2 ≤ h) (hr : (cxm Γ).sig.returnType = (some .int)) {Q : Int → Mm → Prop}   : ∀ (f : Nat) (v1 : Int) (v2 : Int) (M : Mm), wX12_weightOf_4 Q  f v1 v2 M → Wa Γ 3 (Kf Γ (QI Q) 0 0) 0 0 4 [(0, aR 102), (1, aI v1), (2, aI v2)] [] (NC, RF, M) := by
  intro f
  induction f with
  | zero => intro v1 v2 M h; exact h.elim
  | succ f ih =>
    intro v1 v2 M h
    unfold wX12_weightOf_4 at h
    refine a_iload_n hΓ 2 dX12_weightOf_4 rfl rfl ?_
    refine a_aload_n hΓ 0 dX12_weightOf_5 rfl rfl ?_
    refine a_iconst hΓ dX12_weightOf_6 ?_
    obtain ⟨P1, q2, h⟩ := h
    refine n_callV (c := 102) (av := [aI 3]) (st := [aI v2]) hΓ (ct_wX12_many _ _ 3 M P1 q2) my_X12_many ml_RX12_102 ni_X12_many kd_102 rfl lz_102 rfl (Nat.le_trans (by decide) hh) (by decide) (Nat.le_of_ble_eq_true rfl) rfl dX12_weightOf_7 (fun v Z' hq => ?_)
    obtain ⟨r3, M4, rfl, rfl, hq⟩ := hq
    have h := h r3 M4 hq
    dsimp only at h
    obtain ⟨g5, h⟩ := h
    obtain ⟨g6, h⟩ := h
    refine a_icmp_ge (tgt := 32) hΓ g5 g6 dX12_weightOf_10 (by decide) (fun c7 => ?_) (fun c7 => ?_)
    · rw [if_pos c7] at h
      refine a_iload_n hΓ 1 dX12_weightOf_13 rfl rfl ?_
      refine a_iload_n hΓ 2 dX12_weightOf_14 rfl rfl ?_
      refine a_iconst hΓ dX12_weightOf_15 ?_
      refine a_iadd hΓ dX12_weightOf_16 ?_
      refine a_aload_n hΓ 0 dX12_weightOf_17 rfl rfl ?_
      refine a_iload_n hΓ 2 dX12_weightOf_18 rfl rfl ?_
      refine a_iconst hΓ dX12_weightOf_19 ?_
      obtain ⟨P8, q9, h⟩ := h
      refine n_callV (c := 102) (av := [aI v2, aI 2]) (st := [aI (v2 + 1), aI v1]) hΓ (ct_wX12_logAt _ _ v2 2 M4 P8 q9) my_X12_logAt ml_RX12_151 ni_X12_logAt kd_102 rfl lz_102 rfl (Nat.le_trans (by decide) hh) (by decide) (Nat.le_of_ble_eq_true rfl) rfl dX12_weightOf_20 (fun v Z' hq => ?_)
      obtain ⟨r10, M11, rfl, rfl, hq⟩ := hq
      have h := h r10 M11 hq
      dsimp only at h
      refine a_imul hΓ dX12_weightOf_23 ?_
      refine a_iadd hΓ dX12_weightOf_24 ?_
      refine a_istore_n (ls' := [(1, aI (v1 + ((v2 + 1) * r10))), (0, aR 102), (2, aI v2)]) hΓ dX12_weightOf_25 rfl (by decide) rfl ?_
      refine a_iinc (ls' := [(2, aI (v2 + 1)), (1, aI (v1 + ((v2 + 1) * r10))), (0, aR 102)]) hΓ 2 dX12_weightOf_26 rfl (by decide) rfl ?_
      refine a_goto (tgt := 4) hΓ dX12_weightOf_29 (by decide) ?_
      refine a_sub (ls' := [(0, aR 102), (1, aI (v1 + ((v2 + 1) * r10))), (2, aI (v2 + 1))]) [2, 1, 0] rfl ?_
      exact ih (v1 + ((v2 + 1) * r10)) (v2 + 1) M11 h
    · rw [if_neg c7] at h
      refine a_iload_n hΓ 1 dX12_weightOf_32 rfl rfl ?_
      exact a_iret hΓ hr dX12_weightOf_33 ⟨_, _, rfl, rfl, h⟩
def wX12_weightOf  (M : Mm) (Q : Int → Mm → Prop) : Prop :=
    ∃ n, wX12_weightOf_4 Q n 0 0 M
set_option maxHeartbeats 4000000 in
theorem s_wX12_weightOf {Γ : Cx} {h : Nat} (hΓ : Ok Γ cX12_weightOf RX12 3 h 0 0) (hh : 2 ≤ h) (hr : (cxm Γ).sig.returnType = (some .int)) {Q : Int → Mm → Prop}  (M : Mm) (h : wX12_weightOf  M Q) : Wa Γ 3 (Kf Γ (QI Q) 0 0) 0 0 0 [(0, aR 102)] [] (NC, RF, M) := by
  unfold wX12_weightOf at h
  refine a_iconst hΓ dX12_weightOf_0 ?_
  refine a_istore_n (ls' := [(1, aI 0), (0, aR 102)]) hΓ dX12_weightOf_1 rfl (by decide) rfl ?_
  refine a_iconst hΓ dX12_weightOf_2 ?_
  refine a_istore_n (ls' := [(2, aI 0), (1, aI 0), (0, aR 102)]) hΓ dX12_weightOf_3 rfl (by decide) rfl ?_
  refine a_sub (ls' := [(0, aR 102), (1, aI 0), (2, aI 0)]) [2, 1, 0] rfl ?_
  obtain ⟨f1, h⟩ := h
  exact s_wX12_weightOf_4 hΓ (Nat.le_trans (by decide) hh) hr  f1 0 0 M h
theorem ct_wX12_weightOf (l : Launch) (g : Gp)  (M : Mm) (Q : Int → Mm → Prop) (h : wX12_weightOf  M Q) : Ct l g yX12_weightOf cX12_weightOf 3 (some .int) 2 0 0 [aR 102] (NC, RF, M) (QI Q) :=
  ct_of (by decide) (Nat.le_of_ble_eq_true rfl) (fun Γ hg hl hr _ hΓ => by subst hg; subst hl; exact s_wX12_weightOf hΓ (by decide) hr  M h)
def wX12_seal  (M : Mm) (Q : Int → Mm → Prop) : Prop :=
    Bd (wX12_many 3 M) (fun r3 M4 =>
    Bd (wX12_sumOf (up M4 103 725 r3)) (fun r7 M8 =>
    Bd (wX12_weightOf (up M8 103 726 r7)) (fun r11 M12 =>
    Bd (wX12_many 3 (up M12 103 727 r11)) (fun r15 M16 =>
    Q r15 M16))))
set_option maxHeartbeats 4000000 in
theorem s_wX12_seal {Γ : Cx} {h : Nat} (hΓ : Ok Γ cX12_seal RX12 1 h 0 0) (hh : 3 ≤ h) (hr : (cxm Γ).sig.returnType = (some .int)) {Q : Int → Mm → Prop}  (M : Mm) (h : wX12_seal  M Q) : Wa Γ 1 (Kf Γ (QI Q) 0 0) 0 0 0 [(0, aR 102)] [] (NC, RF, M) := by
  unfold wX12_seal at h
  refine a_aload_n hΓ 0 dX12_seal_0 rfl rfl ?_
  refine n_getR hΓ fl_RX12_17 cl_12 kd_102 lz_102 dX12_seal_1 ft_12_1 rf_102_1 ?_
  refine a_sipush hΓ dX12_seal_4 (by decide) ?_
  refine a_aload_n hΓ 0 dX12_seal_7 rfl rfl ?_
  refine a_iconst hΓ dX12_seal_8 ?_
  obtain ⟨P1, q2, h⟩ := h
  refine n_callV (c := 102) (av := [aI 3]) (st := [aI 725, aR 103]) hΓ (ct_wX12_many _ _ 3 M P1 q2) my_X12_many ml_RX12_102 ni_X12_many kd_102 rfl lz_102 rfl (Nat.le_trans (by decide) hh) (by decide) (Nat.le_of_ble_eq_true rfl) rfl dX12_seal_9 (fun v Z' hq => ?_)
  obtain ⟨r3, M4, rfl, rfl, hq⟩ := hq
  have h := h r3 M4 hq
  dsimp only at h
  refine a_iast hΓ dX12_seal_12 kd_103 lz_103 ⟨by decide, by decide⟩ ?_
  refine a_aload_n hΓ 0 dX12_seal_13 rfl rfl ?_
  refine n_getR hΓ fl_RX12_17 cl_12 kd_102 lz_102 dX12_seal_14 ft_12_1 rf_102_1 ?_
  refine a_sipush hΓ dX12_seal_17 (by decide) ?_
  refine a_aload_n hΓ 0 dX12_seal_20 rfl rfl ?_
  obtain ⟨P5, q6, h⟩ := h
  refine n_callV (c := 102) (av := []) (st := [aI 726, aR 103]) hΓ (ct_wX12_sumOf _ _  (up M4 103 725 r3) P5 q6) my_X12_sumOf ml_RX12_346 ni_X12_sumOf kd_102 rfl lz_102 rfl (Nat.le_trans (by decide) hh) (by decide) (Nat.le_of_ble_eq_true rfl) rfl dX12_seal_21 (fun v Z' hq => ?_)
  obtain ⟨r7, M8, rfl, rfl, hq⟩ := hq
  have h := h r7 M8 hq
  dsimp only at h
  refine a_iast hΓ dX12_seal_24 kd_103 lz_103 ⟨by decide, by decide⟩ ?_
  refine a_aload_n hΓ 0 dX12_seal_25 rfl rfl ?_
  refine n_getR hΓ fl_RX12_17 cl_12 kd_102 lz_102 dX12_seal_26 ft_12_1 rf_102_1 ?_
  refine a_sipush hΓ dX12_seal_29 (by decide) ?_
  refine a_aload_n hΓ 0 dX12_seal_32 rfl rfl ?_
  obtain ⟨P9, q10, h⟩ := h
  refine n_callV (c := 102) (av := []) (st := [aI 727, aR 103]) hΓ (ct_wX12_weightOf _ _  (up M8 103 726 r7) P9 q10) my_X12_weightOf ml_RX12_350 ni_X12_weightOf kd_102 rfl lz_102 rfl (Nat.le_trans (by decide) hh) (by decide) (Nat.le_of_ble_eq_true rfl) rfl dX12_seal_33 (fun v Z' hq => ?_)
  obtain ⟨r11, M12, rfl, rfl, hq⟩ := hq
  have h := h r11 M12 hq
  dsimp only at h
  refine a_iast hΓ dX12_seal_36 kd_103 lz_103 ⟨by decide, by decide⟩ ?_
  refine a_aload_n hΓ 0 dX12_seal_37 rfl rfl ?_
  refine a_iconst hΓ dX12_seal_38 ?_
  obtain ⟨P13, q14, h⟩ := h
  refine n_callV (c := 102) (av := [aI 3]) (st := []) hΓ (ct_wX12_many _ _ 3 (up M12 103 727 r11) P13 q14) my_X12_many ml_RX12_102 ni_X12_many kd_102 rfl lz_102 rfl (Nat.le_trans (by decide) hh) (by decide) (Nat.le_of_ble_eq_true rfl) rfl dX12_seal_39 (fun v Z' hq => ?_)
  obtain ⟨r15, M16, rfl, rfl, hq⟩ := hq
  have h := h r15 M16 hq
  dsimp only at h
  exact a_iret hΓ hr dX12_seal_42 ⟨_, _, rfl, rfl, h⟩
theorem ct_wX12_seal (l : Launch) (g : Gp)  (M : Mm) (Q : Int → Mm → Prop) (h : wX12_seal  M Q) : Ct l g yX12_seal cX12_seal 1 (some .int) 3 0 0 [aR 102] (NC, RF, M) (QI Q) :=
  ct_of (by decide) (Nat.le_of_ble_eq_true rfl) (fun Γ hg hl hr _ hΓ => by subst hg; subst hl; exact s_wX12_seal hΓ (by decide) hr  M h)
def wX12_alter (v1 : Int) (v2 : Int) (M : Mm) (Q : Int → Mm → Prop) : Prop :=
    Bd (wX12_in v2 1 255 M) (fun r3 M4 =>
    (inR r3) ∧
    (if r3 = 0 then
      Bd (wX12_ends (-1) M4) (fun r9 M10 =>
      Q r9 M10)
    else
      Bd (wX12_isLog v1 M4) (fun r13 M14 =>
      (inR r13) ∧
      (if r13 = 0 then
        Bd (wX12_ends (-2) M14) (fun r19 M20 =>
        Q r19 M20)
      else
        (0 ≤ ((503 + (9 * v1)) + 2) ∧ ((503 + (9 * v1)) + 2) < 730) ∧
        Bd (wX12_logAt v1 2 (up (up M14 103 ((503 + (9 * v1)) + 2) (lxorI (M14 103 ((503 + (9 * v1)) + 2)) v2)) 102 0 0)) (fun r24 M25 =>
        Q r24 M25)))))
set_option maxHeartbeats 4000000 in
theorem s_wX12_alter {Γ : Cx} {h : Nat} (hΓ : Ok Γ cX12_alter RX12 3 h 0 0) (hh : 3 ≤ h) (hr : (cxm Γ).sig.returnType = (some .int)) {Q : Int → Mm → Prop} (v1 : Int) (v2 : Int) (M : Mm) (h : wX12_alter v1 v2 M Q) : Wa Γ 3 (Kf Γ (QI Q) 0 0) 0 0 0 [(0, aR 102), (1, aI v1), (2, aI v2)] [] (NC, RF, M) := by
  unfold wX12_alter at h
  refine a_iload_n hΓ 2 dX12_alter_0 rfl rfl ?_
  refine a_iconst hΓ dX12_alter_1 ?_
  refine a_sipush hΓ dX12_alter_2 (by decide) ?_
  obtain ⟨P1, q2, h⟩ := h
  refine n_callS (av := [aI v2, aI 1, aI 255]) (st := []) hΓ (ct_wX12_in _ _ v2 1 255 M P1 q2) my_X12_in ml_RX12_3 rfl (Nat.le_trans (by decide) hh) (by decide) (Nat.le_of_ble_eq_true rfl) rfl dX12_alter_5 (fun v Z' hq => ?_)
  obtain ⟨r3, M4, rfl, rfl, hq⟩ := hq
  have h := h r3 M4 hq
  dsimp only at h
  obtain ⟨g5, h⟩ := h
  refine a_if_ne (tgt := 17) hΓ g5 dX12_alter_8 (by decide) (fun c6 => ?_) (fun c6 => ?_)
  · rw [if_pos c6] at h
    refine a_aload_n hΓ 0 dX12_alter_11 rfl rfl ?_
    refine a_iconst hΓ dX12_alter_12 ?_
    obtain ⟨P7, q8, h⟩ := h
    refine n_callV (c := 102) (av := [aI (-1)]) (st := []) hΓ (ct_wX12_ends _ _ (-1) M4 P7 q8) my_X12_ends ml_RX12_106 ni_X12_ends kd_102 rfl lz_102 rfl (Nat.le_trans (by decide) hh) (by decide) (Nat.le_of_ble_eq_true rfl) rfl dX12_alter_13 (fun v Z' hq => ?_)
    obtain ⟨r9, M10, rfl, rfl, hq⟩ := hq
    have h := h r9 M10 hq
    dsimp only at h
    exact a_iret hΓ hr dX12_alter_16 ⟨_, _, rfl, rfl, h⟩
  · rw [if_neg c6] at h
    refine a_aload_n hΓ 0 dX12_alter_17 rfl rfl ?_
    refine a_iload_n hΓ 1 dX12_alter_18 rfl rfl ?_
    obtain ⟨P11, q12, h⟩ := h
    refine n_callV (c := 102) (av := [aI v1]) (st := []) hΓ (ct_wX12_isLog _ _ v1 M4 P11 q12) my_X12_isLog ml_RX12_154 ni_X12_isLog kd_102 rfl lz_102 rfl (Nat.le_trans (by decide) hh) (by decide) (Nat.le_of_ble_eq_true rfl) rfl dX12_alter_19 (fun v Z' hq => ?_)
    obtain ⟨r13, M14, rfl, rfl, hq⟩ := hq
    have h := h r13 M14 hq
    dsimp only at h
    obtain ⟨g15, h⟩ := h
    refine a_if_ne (tgt := 32) hΓ g15 dX12_alter_22 (by decide) (fun c16 => ?_) (fun c16 => ?_)
    · rw [if_pos c16] at h
      refine a_aload_n hΓ 0 dX12_alter_25 rfl rfl ?_
      refine a_bipush hΓ dX12_alter_26 (by decide) ?_
      obtain ⟨P17, q18, h⟩ := h
      refine n_callV (c := 102) (av := [aI (-2)]) (st := []) hΓ (ct_wX12_ends _ _ (-2) M14 P17 q18) my_X12_ends ml_RX12_106 ni_X12_ends kd_102 rfl lz_102 rfl (Nat.le_trans (by decide) hh) (by decide) (Nat.le_of_ble_eq_true rfl) rfl dX12_alter_28 (fun v Z' hq => ?_)
      obtain ⟨r19, M20, rfl, rfl, hq⟩ := hq
      have h := h r19 M20 hq
      dsimp only at h
      exact a_iret hΓ hr dX12_alter_31 ⟨_, _, rfl, rfl, h⟩
    · rw [if_neg c16] at h
      refine a_aload_n hΓ 0 dX12_alter_32 rfl rfl ?_
      refine n_getR hΓ fl_RX12_17 cl_12 kd_102 lz_102 dX12_alter_33 ft_12_1 rf_102_1 ?_
      refine a_sipush hΓ dX12_alter_36 (by decide) ?_
      refine a_bipush hΓ dX12_alter_39 (by decide) ?_
      refine a_iload_n hΓ 1 dX12_alter_41 rfl rfl ?_
      refine a_imul hΓ dX12_alter_42 ?_
      refine a_iadd hΓ dX12_alter_43 ?_
      refine a_iconst hΓ dX12_alter_44 ?_
      refine a_iadd hΓ dX12_alter_45 ?_
      refine a_dup2 hΓ dX12_alter_46 ?_
      obtain ⟨g21, h⟩ := h
      refine n_iald (x := (M14 103 ((503 + (9 * v1)) + 2))) hΓ dX12_alter_47 kd_103 lz_103 g21 rfl ?_
      refine a_iload_n hΓ 2 dX12_alter_48 rfl rfl ?_
      refine a_ixor hΓ dX12_alter_49 ?_
      refine a_iast hΓ dX12_alter_50 kd_103 lz_103 g21 ?_
      refine a_aload_n hΓ 0 dX12_alter_51 rfl rfl ?_
      refine a_iconst hΓ dX12_alter_52 ?_
      refine n_putI (j := 0) hΓ fl_RX12_7 cl_12 nf_12_0 kd_102 lz_102 dX12_alter_53 (Or.inl ft_12_0) rfl ?_
      refine a_aload_n hΓ 0 dX12_alter_56 rfl rfl ?_
      refine a_iload_n hΓ 1 dX12_alter_57 rfl rfl ?_
      refine a_iconst hΓ dX12_alter_58 ?_
      obtain ⟨P22, q23, h⟩ := h
      refine n_callV (c := 102) (av := [aI v1, aI 2]) (st := []) hΓ (ct_wX12_logAt _ _ v1 2 (up (up M14 103 ((503 + (9 * v1)) + 2) (lxorI (M14 103 ((503 + (9 * v1)) + 2)) v2)) 102 0 0) P22 q23) my_X12_logAt ml_RX12_151 ni_X12_logAt kd_102 rfl lz_102 rfl (Nat.le_trans (by decide) hh) (by decide) (Nat.le_of_ble_eq_true rfl) rfl dX12_alter_59 (fun v Z' hq => ?_)
      obtain ⟨r24, M25, rfl, rfl, hq⟩ := hq
      have h := h r24 M25 hq
      dsimp only at h
      exact a_iret hΓ hr dX12_alter_62 ⟨_, _, rfl, rfl, h⟩
theorem ct_wX12_alter (l : Launch) (g : Gp) (v1 : Int) (v2 : Int) (M : Mm) (Q : Int → Mm → Prop) (h : wX12_alter v1 v2 M Q) : Ct l g yX12_alter cX12_alter 3 (some .int) 3 0 0 [aR 102, aI v1, aI v2] (NC, RF, M) (QI Q) :=
  ct_of (by decide) (Nat.le_of_ble_eq_true rfl) (fun Γ hg hl hr _ hΓ => by subst hg; subst hl; exact s_wX12_alter hΓ (by decide) hr v1 v2 M h)
def wX12_found_74 (Q : Int → Mm → Prop) (v1 : Int) (v2 : Int) : Nat → Int → Mm → Prop
  | 0, _, _ => False
  | f + 1, v3, M => Bd (wX12_many 3 M) (fun r3 M4 =>
    (inR v3) ∧
    (inR r3) ∧
    (if v3 < r3 then
      (inR v1) ∧
      (if v1 = 0 then
        Q (-2) M4
      else
        (inR ((v3 + 1) * v1)) ∧
        (inR v2) ∧
        (if ((v3 + 1) * v1) = v2 then
          Q v3 M4
        else
          (wX12_found_74 Q v1 v2 f) (v3 + 1) M4))
    else
      Q (-2) M4))
set_option maxHeartbeats 4000000 in
theorem s_wX12_found_74 {Γ : Cx} {h : Nat} (hΓ : Ok Γ cX12_found RX12 4 h 0 0) (hh : 3 ≤ h) (hr : (cxm Γ).sig.returnType = (some .int)) {Q : Int → Mm → Prop} {v1 v2 : Int}   : ∀ (f : Nat) (v3 : Int) (M : Mm), wX12_found_74 Q v1 v2 f v3 M → Wa Γ 4 (Kf Γ (QI Q) 0 0) 0 0 74 [(0, aR 102), (1, aI v1), (2, aI v2), (3, aI v3)] [] (NC, RF, M) := by
  intro f
  induction f with
  | zero => intro v3 M h; exact h.elim
  | succ f ih =>
    intro v3 M h
    unfold wX12_found_74 at h
    refine a_iload_n hΓ 3 dX12_found_74 rfl rfl ?_
    refine a_aload_n hΓ 0 dX12_found_75 rfl rfl ?_
    refine a_iconst hΓ dX12_found_76 ?_
    obtain ⟨P1, q2, h⟩ := h
    refine n_callV (c := 102) (av := [aI 3]) (st := [aI v3]) hΓ (ct_wX12_many _ _ 3 M P1 q2) my_X12_many ml_RX12_102 ni_X12_many kd_102 rfl lz_102 rfl (Nat.le_trans (by decide) hh) (by decide) (Nat.le_of_ble_eq_true rfl) rfl dX12_found_77 (fun v Z' hq => ?_)
    obtain ⟨r3, M4, rfl, rfl, hq⟩ := hq
    have h := h r3 M4 hq
    dsimp only at h
    obtain ⟨g5, h⟩ := h
    obtain ⟨g6, h⟩ := h
    refine a_icmp_ge (tgt := 104) hΓ g5 g6 dX12_found_80 (by decide) (fun c7 => ?_) (fun c7 => ?_)
    · rw [if_pos c7] at h
      refine a_iload_n hΓ 1 dX12_found_83 rfl rfl ?_
      obtain ⟨g8, h⟩ := h
      refine a_if_eq (tgt := 104) hΓ g8 dX12_found_84 (by decide) (fun c9 => ?_) (fun c9 => ?_)
      · rw [if_pos c9] at h
        refine a_bipush hΓ dX12_found_104 (by decide) ?_
        exact a_iret hΓ hr dX12_found_106 ⟨_, _, rfl, rfl, h⟩
      · rw [if_neg c9] at h
        refine a_iload_n hΓ 3 dX12_found_87 rfl rfl ?_
        refine a_iconst hΓ dX12_found_88 ?_
        refine a_iadd hΓ dX12_found_89 ?_
        refine a_iload_n hΓ 1 dX12_found_90 rfl rfl ?_
        refine a_imul hΓ dX12_found_91 ?_
        refine a_iload_n hΓ 2 dX12_found_92 rfl rfl ?_
        obtain ⟨g10, h⟩ := h
        obtain ⟨g11, h⟩ := h
        refine a_icmp_ne (tgt := 98) hΓ g10 g11 dX12_found_93 (by decide) (fun c12 => ?_) (fun c12 => ?_)
        · rw [if_pos c12] at h
          refine a_iload_n hΓ 3 dX12_found_96 rfl rfl ?_
          exact a_iret hΓ hr dX12_found_97 ⟨_, _, rfl, rfl, h⟩
        · rw [if_neg c12] at h
          refine a_iinc (ls' := [(3, aI (v3 + 1)), (0, aR 102), (1, aI v1), (2, aI v2)]) hΓ 3 dX12_found_98 rfl (by decide) rfl ?_
          refine a_goto (tgt := 74) hΓ dX12_found_101 (by decide) ?_
          refine a_sub (ls' := [(0, aR 102), (1, aI v1), (2, aI v2), (3, aI (v3 + 1))]) [1, 2, 3, 0] rfl ?_
          exact ih (v3 + 1) M4 h
    · rw [if_neg c7] at h
      refine a_bipush hΓ dX12_found_104 (by decide) ?_
      exact a_iret hΓ hr dX12_found_106 ⟨_, _, rfl, rfl, h⟩
def wX12_found  (M : Mm) (Q : Int → Mm → Prop) : Prop :=
    (inR (M 103 725)) ∧
    (if (M 103 725) = (-1) then
      Q (-3) M
    else
      Bd (wX12_many 3 M) (fun r5 M6 =>
      (inR r5) ∧
      (if (M 103 725) = r5 then
        Bd (wX12_sumOf M6) (fun r11 M12 =>
        Bd (wX12_weightOf M12) (fun r15 M16 =>
        (inR (r11 - (M12 103 726))) ∧
        (if (r11 - (M12 103 726)) = 0 then
          (inR (r15 - (M16 103 727))) ∧
          (if (r15 - (M16 103 727)) = 0 then
            Q (-1) M16
          else
            ∃ n, wX12_found_74 Q (r11 - (M12 103 726)) (r15 - (M16 103 727)) n 0 M16)
        else
          ∃ n, wX12_found_74 Q (r11 - (M12 103 726)) (r15 - (M16 103 727)) n 0 M16)))
      else
        Q (-2) M6)))
set_option maxHeartbeats 4000000 in
theorem s_wX12_found {Γ : Cx} {h : Nat} (hΓ : Ok Γ cX12_found RX12 4 h 0 0) (hh : 3 ≤ h) (hr : (cxm Γ).sig.returnType = (some .int)) {Q : Int → Mm → Prop}  (M : Mm) (h : wX12_found  M Q) : Wa Γ 4 (Kf Γ (QI Q) 0 0) 0 0 0 [(0, aR 102)] [] (NC, RF, M) := by
  unfold wX12_found at h
  refine a_aload_n hΓ 0 dX12_found_0 rfl rfl ?_
  refine n_getR hΓ fl_RX12_17 cl_12 kd_102 lz_102 dX12_found_1 ft_12_1 rf_102_1 ?_
  refine a_sipush hΓ dX12_found_4 (by decide) ?_
  refine n_iald (x := (M 103 725)) hΓ dX12_found_7 kd_103 lz_103 ⟨by decide, by decide⟩ rfl ?_
  refine a_iconst hΓ dX12_found_8 ?_
  obtain ⟨g1, h⟩ := h
  refine a_icmp_ne (tgt := 15) hΓ g1 (inRl (by decide)) dX12_found_9 (by decide) (fun c2 => ?_) (fun c2 => ?_)
  · rw [if_pos c2] at h
    refine a_bipush hΓ dX12_found_12 (by decide) ?_
    exact a_iret hΓ hr dX12_found_14 ⟨_, _, rfl, rfl, h⟩
  · rw [if_neg c2] at h
    refine a_aload_n hΓ 0 dX12_found_15 rfl rfl ?_
    refine n_getR hΓ fl_RX12_17 cl_12 kd_102 lz_102 dX12_found_16 ft_12_1 rf_102_1 ?_
    refine a_sipush hΓ dX12_found_19 (by decide) ?_
    refine n_iald (x := (M 103 725)) hΓ dX12_found_22 kd_103 lz_103 ⟨by decide, by decide⟩ rfl ?_
    refine a_aload_n hΓ 0 dX12_found_23 rfl rfl ?_
    refine a_iconst hΓ dX12_found_24 ?_
    obtain ⟨P3, q4, h⟩ := h
    refine n_callV (c := 102) (av := [aI 3]) (st := [aI (M 103 725)]) hΓ (ct_wX12_many _ _ 3 M P3 q4) my_X12_many ml_RX12_102 ni_X12_many kd_102 rfl lz_102 rfl (Nat.le_trans (by decide) hh) (by decide) (Nat.le_of_ble_eq_true rfl) rfl dX12_found_25 (fun v Z' hq => ?_)
    obtain ⟨r5, M6, rfl, rfl, hq⟩ := hq
    have h := h r5 M6 hq
    dsimp only at h
    obtain ⟨g7, h⟩ := h
    refine a_icmp_eq (tgt := 34) hΓ g1 g7 dX12_found_28 (by decide) (fun c8 => ?_) (fun c8 => ?_)
    · rw [if_pos c8] at h
      refine a_aload_n hΓ 0 dX12_found_34 rfl rfl ?_
      obtain ⟨P9, q10, h⟩ := h
      refine n_callV (c := 102) (av := []) (st := []) hΓ (ct_wX12_sumOf _ _  M6 P9 q10) my_X12_sumOf ml_RX12_346 ni_X12_sumOf kd_102 rfl lz_102 rfl (Nat.le_trans (by decide) hh) (by decide) (Nat.le_of_ble_eq_true rfl) rfl dX12_found_35 (fun v Z' hq => ?_)
      obtain ⟨r11, M12, rfl, rfl, hq⟩ := hq
      have h := h r11 M12 hq
      dsimp only at h
      refine a_aload_n hΓ 0 dX12_found_38 rfl rfl ?_
      refine n_getR hΓ fl_RX12_17 cl_12 kd_102 lz_102 dX12_found_39 ft_12_1 rf_102_1 ?_
      refine a_sipush hΓ dX12_found_42 (by decide) ?_
      refine n_iald (x := (M12 103 726)) hΓ dX12_found_45 kd_103 lz_103 ⟨by decide, by decide⟩ rfl ?_
      refine a_isub hΓ dX12_found_46 ?_
      refine a_istore_n (ls' := [(1, aI (r11 - (M12 103 726))), (0, aR 102)]) hΓ dX12_found_47 rfl (by decide) rfl ?_
      refine a_aload_n hΓ 1 dX12_found_48 rfl rfl ?_
      obtain ⟨P13, q14, h⟩ := h
      refine n_callV (c := 102) (av := []) (st := []) hΓ (ct_wX12_weightOf _ _  M12 P13 q14) my_X12_weightOf ml_RX12_350 ni_X12_weightOf kd_102 rfl lz_102 rfl (Nat.le_trans (by decide) hh) (by decide) (Nat.le_of_ble_eq_true rfl) rfl dX12_found_49 (fun v Z' hq => ?_)
      obtain ⟨r15, M16, rfl, rfl, hq⟩ := hq
      have h := h r15 M16 hq
      dsimp only at h
      refine a_aload_n hΓ 1 dX12_found_52 rfl rfl ?_
      refine n_getR hΓ fl_RX12_17 cl_12 kd_102 lz_102 dX12_found_53 ft_12_1 rf_102_1 ?_
      refine a_sipush hΓ dX12_found_56 (by decide) ?_
      refine n_iald (x := (M16 103 727)) hΓ dX12_found_59 kd_103 lz_103 ⟨by decide, by decide⟩ rfl ?_
      refine a_isub hΓ dX12_found_60 ?_
      refine a_istore_n (ls' := [(2, aI (r15 - (M16 103 727))), (1, aI (r11 - (M12 103 726))), (0, aR 102)]) hΓ dX12_found_61 rfl (by decide) rfl ?_
      refine a_iload_n hΓ 1 dX12_found_62 rfl rfl ?_
      obtain ⟨g17, h⟩ := h
      refine a_if_ne (tgt := 72) hΓ g17 dX12_found_63 (by decide) (fun c18 => ?_) (fun c18 => ?_)
      · rw [if_pos c18] at h
        refine a_iload_n hΓ 0 dX12_found_66 rfl rfl ?_
        obtain ⟨g19, h⟩ := h
        refine a_if_ne (tgt := 72) hΓ g19 dX12_found_67 (by decide) (fun c20 => ?_) (fun c20 => ?_)
        · rw [if_pos c20] at h
          refine a_iconst hΓ dX12_found_70 ?_
          exact a_iret hΓ hr dX12_found_71 ⟨_, _, rfl, rfl, h⟩
        · rw [if_neg c20] at h
          refine a_iconst hΓ dX12_found_72 ?_
          refine a_istore_n (ls' := [(3, aI 0), (2, aI (r15 - (M16 103 727))), (1, aI (r11 - (M12 103 726))), (0, aR 102)]) hΓ dX12_found_73 rfl (by decide) rfl ?_
          refine a_sub (ls' := [(0, aR 102), (1, aI (r11 - (M12 103 726))), (2, aI (r15 - (M16 103 727))), (3, aI 0)]) [3, 2, 1, 0] rfl ?_
          obtain ⟨f21, h⟩ := h
          exact s_wX12_found_74 hΓ (Nat.le_trans (by decide) hh) hr  f21 0 M16 h
      · rw [if_neg c18] at h
        refine a_iconst hΓ dX12_found_72 ?_
        refine a_istore_n (ls' := [(3, aI 0), (2, aI (r15 - (M16 103 727))), (1, aI (r11 - (M12 103 726))), (0, aR 102)]) hΓ dX12_found_73 rfl (by decide) rfl ?_
        refine a_sub (ls' := [(0, aR 102), (1, aI (r11 - (M12 103 726))), (2, aI (r15 - (M16 103 727))), (3, aI 0)]) [3, 2, 1, 0] rfl ?_
        obtain ⟨f22, h⟩ := h
        exact s_wX12_found_74 hΓ (Nat.le_trans (by decide) hh) hr  f22 0 M16 h
    · rw [if_neg c8] at h
      refine a_bipush hΓ dX12_found_31 (by decide) ?_
      exact a_iret hΓ hr dX12_found_33 ⟨_, _, rfl, rfl, h⟩
theorem ct_wX12_found (l : Launch) (g : Gp)  (M : Mm) (Q : Int → Mm → Prop) (h : wX12_found  M Q) : Ct l g yX12_found cX12_found 4 (some .int) 3 0 0 [aR 102] (NC, RF, M) (QI Q) :=
  ct_of (by decide) (Nat.le_of_ble_eq_true rfl) (fun Γ hg hl hr _ hΓ => by subst hg; subst hl; exact s_wX12_found hΓ (by decide) hr  M h)
def wX12_count (v1 : Int) (M : Mm) (Q : Int → Mm → Prop) : Prop :=
    (inR v1) ∧
    (if v1 = 4 then
      Q (M 102 47) M
    else
      (if v1 = 5 then
        Q (M 102 25) M
      else
        (if v1 = 6 then
          (inR (M 102 17)) ∧
          (if (M 102 17) = (-1) then
            Q 0 M
          else
            Q (M 102 17) M)
        else
          Bd (wX12_in v1 0 3 M) (fun r9 M10 =>
          (inR r9) ∧
          (if r9 = 0 then
            Q (-1) M10
          else
            Bd (wX12_many v1 M10) (fun r15 M16 =>
            Q r15 M16))))))
set_option maxHeartbeats 4000000 in
theorem s_wX12_count {Γ : Cx} {h : Nat} (hΓ : Ok Γ cX12_count RX12 2 h 0 0) (hh : 2 ≤ h) (hr : (cxm Γ).sig.returnType = (some .int)) {Q : Int → Mm → Prop} (v1 : Int) (M : Mm) (h : wX12_count v1 M Q) : Wa Γ 2 (Kf Γ (QI Q) 0 0) 0 0 0 [(0, aR 102), (1, aI v1)] [] (NC, RF, M) := by
  unfold wX12_count at h
  refine a_iload_n hΓ 1 dX12_count_0 rfl rfl ?_
  refine a_iconst hΓ dX12_count_1 ?_
  obtain ⟨g1, h⟩ := h
  refine a_icmp_ne (tgt := 10) hΓ g1 (inRl (by decide)) dX12_count_2 (by decide) (fun c2 => ?_) (fun c2 => ?_)
  · rw [if_pos c2] at h
    refine a_aload_n hΓ 0 dX12_count_5 rfl rfl ?_
    refine n_getI (x := (M 102 47)) hΓ fl_RX12_336 cl_12 kd_102 lz_102 dX12_count_6 (Or.inl ft_12_47) rfl ?_
    exact a_iret hΓ hr dX12_count_9 ⟨_, _, rfl, rfl, h⟩
  · rw [if_neg c2] at h
    refine a_iload_n hΓ 1 dX12_count_10 rfl rfl ?_
    refine a_iconst hΓ dX12_count_11 ?_
    refine a_icmp_ne (tgt := 20) hΓ g1 (inRl (by decide)) dX12_count_12 (by decide) (fun c3 => ?_) (fun c3 => ?_)
    · rw [if_pos c3] at h
      refine a_aload_n hΓ 0 dX12_count_15 rfl rfl ?_
      refine n_getI (x := (M 102 25)) hΓ fl_RX12_251 cl_12 kd_102 lz_102 dX12_count_16 (Or.inl ft_12_25) rfl ?_
      exact a_iret hΓ hr dX12_count_19 ⟨_, _, rfl, rfl, h⟩
    · rw [if_neg c3] at h
      refine a_iload_n hΓ 1 dX12_count_20 rfl rfl ?_
      refine a_bipush hΓ dX12_count_21 (by decide) ?_
      refine a_icmp_ne (tgt := 43) hΓ g1 (inRl (by decide)) dX12_count_23 (by decide) (fun c4 => ?_) (fun c4 => ?_)
      · rw [if_pos c4] at h
        refine a_aload_n hΓ 0 dX12_count_26 rfl rfl ?_
        refine n_getI (x := (M 102 17)) hΓ fl_RX12_53 cl_12 kd_102 lz_102 dX12_count_27 (Or.inl ft_12_17) rfl ?_
        refine a_iconst hΓ dX12_count_30 ?_
        obtain ⟨g5, h⟩ := h
        refine a_icmp_ne (tgt := 38) hΓ g5 (inRl (by decide)) dX12_count_31 (by decide) (fun c6 => ?_) (fun c6 => ?_)
        · rw [if_pos c6] at h
          refine a_iconst hΓ dX12_count_34 ?_
          refine a_goto (tgt := 42) hΓ dX12_count_35 (by decide) ?_
          exact a_iret hΓ hr dX12_count_42 ⟨_, _, rfl, rfl, h⟩
        · rw [if_neg c6] at h
          refine a_aload_n hΓ 0 dX12_count_38 rfl rfl ?_
          refine n_getI (x := (M 102 17)) hΓ fl_RX12_53 cl_12 kd_102 lz_102 dX12_count_39 (Or.inl ft_12_17) rfl ?_
          exact a_iret hΓ hr dX12_count_42 ⟨_, _, rfl, rfl, h⟩
      · rw [if_neg c4] at h
        refine a_iload_n hΓ 1 dX12_count_43 rfl rfl ?_
        refine a_iconst hΓ dX12_count_44 ?_
        refine a_iconst hΓ dX12_count_45 ?_
        obtain ⟨P7, q8, h⟩ := h
        refine n_callS (av := [aI v1, aI 0, aI 3]) (st := []) hΓ (ct_wX12_in _ _ v1 0 3 M P7 q8) my_X12_in ml_RX12_3 rfl (Nat.le_trans (by decide) hh) (by decide) (Nat.le_of_ble_eq_true rfl) rfl dX12_count_46 (fun v Z' hq => ?_)
        obtain ⟨r9, M10, rfl, rfl, hq⟩ := hq
        have h := h r9 M10 hq
        dsimp only at h
        obtain ⟨g11, h⟩ := h
        refine a_if_eq (tgt := 60) hΓ g11 dX12_count_49 (by decide) (fun c12 => ?_) (fun c12 => ?_)
        · rw [if_pos c12] at h
          refine a_iconst hΓ dX12_count_60 ?_
          exact a_iret hΓ hr dX12_count_61 ⟨_, _, rfl, rfl, h⟩
        · rw [if_neg c12] at h
          refine a_aload_n hΓ 0 dX12_count_52 rfl rfl ?_
          refine a_iload_n hΓ 1 dX12_count_53 rfl rfl ?_
          obtain ⟨P13, q14, h⟩ := h
          refine n_callV (c := 102) (av := [aI v1]) (st := []) hΓ (ct_wX12_many _ _ v1 M10 P13 q14) my_X12_many ml_RX12_102 ni_X12_many kd_102 rfl lz_102 rfl (Nat.le_trans (by decide) hh) (by decide) (Nat.le_of_ble_eq_true rfl) rfl dX12_count_54 (fun v Z' hq => ?_)
          obtain ⟨r15, M16, rfl, rfl, hq⟩ := hq
          have h := h r15 M16 hq
          dsimp only at h
          refine a_goto (tgt := 61) hΓ dX12_count_57 (by decide) ?_
          exact a_iret hΓ hr dX12_count_61 ⟨_, _, rfl, rfl, h⟩
theorem ct_wX12_count (l : Launch) (g : Gp) (v1 : Int) (M : Mm) (Q : Int → Mm → Prop) (h : wX12_count v1 M Q) : Ct l g yX12_count cX12_count 2 (some .int) 2 0 0 [aR 102, aI v1] (NC, RF, M) (QI Q) :=
  ct_of (by decide) (Nat.le_of_ble_eq_true rfl) (fun Γ hg hl hr _ hΓ => by subst hg; subst hl; exact s_wX12_count hΓ (by decide) hr v1 M h)
def wX12_status  (M : Mm) (Q : Int → Mm → Prop) : Prop :=
    Q (M 102 0) M
set_option maxHeartbeats 4000000 in
theorem s_wX12_status {Γ : Cx} {h : Nat} (hΓ : Ok Γ cX12_status RX12 1 h 0 0) (hh : 1 ≤ h) (hr : (cxm Γ).sig.returnType = (some .int)) {Q : Int → Mm → Prop}  (M : Mm) (h : wX12_status  M Q) : Wa Γ 1 (Kf Γ (QI Q) 0 0) 0 0 0 [(0, aR 102)] [] (NC, RF, M) := by
  unfold wX12_status at h
  refine a_aload_n hΓ 0 dX12_status_0 rfl rfl ?_
  refine n_getI (x := (M 102 0)) hΓ fl_RX12_7 cl_12 kd_102 lz_102 dX12_status_1 (Or.inl ft_12_0) rfl ?_
  exact a_iret hΓ hr dX12_status_4 ⟨_, _, rfl, rfl, h⟩
theorem ct_wX12_status (l : Launch) (g : Gp)  (M : Mm) (Q : Int → Mm → Prop) (h : wX12_status  M Q) : Ct l g yX12_status cX12_status 1 (some .int) 1 0 0 [aR 102] (NC, RF, M) (QI Q) :=
  ct_of (by decide) (Nat.le_of_ble_eq_true rfl) (fun Γ hg hl hr _ hΓ => by subst hg; subst hl; exact s_wX12_status hΓ (by decide) hr  M h)
