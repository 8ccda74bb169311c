/-! ===== printed by tools/gen.py ===== -/
def wX11_within (v0 : Int) (v1 : Int) (v2 : Int) (M : Mm) (Q : Int → Mm → Prop) : Prop :=
    (inR v0) ∧
    (inR v1) ∧
    (if v0 < v1 then
      Q 0 M
    else
      (inR v2) ∧
      (if v0 ≤ v2 then
        Q 1 M
      else
        Q 0 M))
set_option maxHeartbeats 4000000 in
theorem s_wX11_within {Γ : Cx} {h : Nat} (hΓ : Ok Γ cX11_within RX11 3 h 0 0) (hh : 1 ≤ h) (hr : (cxm Γ).sig.returnType = (some .boolean)) {Q : Int → Mm → Prop} (v0 : Int) (v1 : Int) (v2 : Int) (M : Mm) (h : wX11_within v0 v1 v2 M Q) : Wa Γ 3 (Kf Γ (QI Q) 0 0) 0 0 0 [(0, aI v0), (1, aI v1), (2, aI v2)] [] (NC, RF, M) := by
  unfold wX11_within at h
  refine a_iload_n hΓ 0 dX11_within_0 rfl rfl ?_
  refine a_iload_n hΓ 1 dX11_within_1 rfl rfl ?_
  obtain ⟨g1, h⟩ := h
  obtain ⟨g2, h⟩ := h
  refine a_icmp_lt (tgt := 14) hΓ g1 g2 dX11_within_2 (by decide) (fun c3 => ?_) (fun c3 => ?_)
  · rw [if_pos c3] at h
    refine a_iconst hΓ dX11_within_14 ?_
    exact a_zret hΓ hr (Or.inl rfl) dX11_within_15 ⟨_, _, rfl, rfl, h⟩
  · rw [if_neg c3] at h
    refine a_iload_n hΓ 0 dX11_within_5 rfl rfl ?_
    refine a_iload_n hΓ 2 dX11_within_6 rfl rfl ?_
    obtain ⟨g4, h⟩ := h
    refine a_icmp_gt (tgt := 14) hΓ g1 g4 dX11_within_7 (by decide) (fun c5 => ?_) (fun c5 => ?_)
    · rw [if_pos c5] at h
      refine a_iconst hΓ dX11_within_10 ?_
      refine a_goto (tgt := 15) hΓ dX11_within_11 (by decide) ?_
      exact a_zret hΓ hr (Or.inr rfl) dX11_within_15 ⟨_, _, rfl, rfl, h⟩
    · rw [if_neg c5] at h
      refine a_iconst hΓ dX11_within_14 ?_
      exact a_zret hΓ hr (Or.inl rfl) dX11_within_15 ⟨_, _, rfl, rfl, h⟩
theorem ct_wX11_within (l : Launch) (g : Gp) (v0 : Int) (v1 : Int) (v2 : Int) (M : Mm) (Q : Int → Mm → Prop) (h : wX11_within v0 v1 v2 M Q) : Ct l g yX11_within cX11_within 3 (some .boolean) 1 0 0 [aI v0, aI v1, aI v2] (NC, RF, M) (QI Q) :=
  ct_of (by decide) (Nat.le_of_ble_eq_true rfl) (fun Γ hg hl hr _ hΓ => by subst hg; subst hl; exact s_wX11_within hΓ (by decide) hr v0 v1 v2 M h)
def wX11_refuse (v1 : Int) (M : Mm) (Q : Int → Mm → Prop) : Prop :=
    Q v1 (up M 0 10 v1)
set_option maxHeartbeats 4000000 in
theorem s_wX11_refuse {Γ : Cx} {h : Nat} (hΓ : Ok Γ cX11_refuse RX11 2 h 0 0) (hh : 1 ≤ h) (hr : (cxm Γ).sig.returnType = (some .int)) {Q : Int → Mm → Prop} (v1 : Int) (M : Mm) (h : wX11_refuse v1 M Q) : Wa Γ 2 (Kf Γ (QI Q) 0 0) 0 0 0 [(0, aR 0), (1, aI v1)] [] (NC, RF, M) := by
  unfold wX11_refuse at h
  refine a_aload_n hΓ 0 dX11_refuse_0 rfl rfl ?_
  refine a_iload_n hΓ 1 dX11_refuse_1 rfl rfl ?_
  refine n_putI (j := 10) hΓ fl_RX11_330 cl_11 nf_11_10 kd_0 lz_0 dX11_refuse_2 (Or.inl ft_11_10) rfl ?_
  refine a_iload_n hΓ 1 dX11_refuse_5 rfl rfl ?_
  exact a_iret hΓ hr dX11_refuse_6 ⟨_, _, rfl, rfl, h⟩
theorem ct_wX11_refuse (l : Launch) (g : Gp) (v1 : Int) (M : Mm) (Q : Int → Mm → Prop) (h : wX11_refuse v1 M Q) : Ct l g yX11_refuse cX11_refuse 2 (some .int) 1 0 0 [aR 0, aI v1] (NC, RF, M) (QI Q) :=
  ct_of (by decide) (Nat.le_of_ble_eq_true rfl) (fun Γ hg hl hr _ hΓ => by subst hg; subst hl; exact s_wX11_refuse hΓ (by decide) hr v1 M h)
def wX0_setLaw (v1 : Int) (v2 : Int) (v3 : Int) (M : Mm) (Q : Mm → Prop) : Prop :=
    (0 ≤ v1 ∧ v1 < 10) ∧
    Q (up (up M 3 v1 v2) 4 v1 v3)
set_option maxHeartbeats 4000000 in
theorem s_wX0_setLaw {Γ : Cx} {h : Nat} (hΓ : Ok Γ cX0_setLaw RX0 4 h 0 0) (hh : 1 ≤ h) (hr : (cxm Γ).sig.returnType = none) {Q : Mm → Prop} (v1 : Int) (v2 : Int) (v3 : Int) (M : Mm) (h : wX0_setLaw v1 v2 v3 M Q) : Wa Γ 4 (Kf Γ (QV Q) 0 0) 0 0 0 [(0, aR 1), (1, aI v1), (2, aI v2), (3, aI v3)] [] (NC, RF, M) := by
  unfold wX0_setLaw at h
  refine a_aload_n hΓ 0 dX0_setLaw_0 rfl rfl ?_
  refine n_getR hΓ fl_RX0_25 cl_0 kd_1 lz_1 dX0_setLaw_1 ft_0_8 rf_1_8 ?_
  refine a_iload_n hΓ 1 dX0_setLaw_4 rfl rfl ?_
  refine a_iload_n hΓ 2 dX0_setLaw_5 rfl rfl ?_
  obtain ⟨g1, h⟩ := h
  refine a_iast hΓ dX0_setLaw_6 kd_3 lz_3 g1 ?_
  refine a_aload_n hΓ 0 dX0_setLaw_7 rfl rfl ?_
  refine n_getR hΓ fl_RX0_28 cl_0 kd_1 lz_1 dX0_setLaw_8 ft_0_9 rf_1_9 ?_
  refine a_iload_n hΓ 1 dX0_setLaw_11 rfl rfl ?_
  refine a_iload_n hΓ 3 dX0_setLaw_12 rfl rfl ?_
  refine a_iast hΓ dX0_setLaw_13 kd_4 lz_4 g1 ?_
  exact a_vret hΓ hr dX0_setLaw_14 ⟨_, rfl, rfl, h⟩
theorem ct_wX0_setLaw (l : Launch) (g : Gp) (v1 : Int) (v2 : Int) (v3 : Int) (M : Mm) (Q : Mm → Prop) (h : wX0_setLaw v1 v2 v3 M Q) : Ct l g yX0_setLaw cX0_setLaw 4 none 1 0 0 [aR 1, aI v1, aI v2, aI v3] (NC, RF, M) (QV Q) :=
  ct_of (by decide) (Nat.le_of_ble_eq_true rfl) (fun Γ hg hl hr _ hΓ => by subst hg; subst hl; exact s_wX0_setLaw hΓ (by decide) hr v1 v2 v3 M h)
def wX11_accept (v1 : Int) (M : Mm) (Q : Int → Mm → Prop) : Prop :=
    Q v1 (up M 0 10 0)
set_option maxHeartbeats 4000000 in
theorem s_wX11_accept {Γ : Cx} {h : Nat} (hΓ : Ok Γ cX11_accept RX11 2 h 0 0) (hh : 1 ≤ h) (hr : (cxm Γ).sig.returnType = (some .int)) {Q : Int → Mm → Prop} (v1 : Int) (M : Mm) (h : wX11_accept v1 M Q) : Wa Γ 2 (Kf Γ (QI Q) 0 0) 0 0 0 [(0, aR 0), (1, aI v1)] [] (NC, RF, M) := by
  unfold wX11_accept at h
  refine a_aload_n hΓ 0 dX11_accept_0 rfl rfl ?_
  refine a_iconst hΓ dX11_accept_1 ?_
  refine n_putI (j := 10) hΓ fl_RX11_330 cl_11 nf_11_10 kd_0 lz_0 dX11_accept_2 (Or.inl ft_11_10) rfl ?_
  refine a_iload_n hΓ 1 dX11_accept_5 rfl rfl ?_
  exact a_iret hΓ hr dX11_accept_6 ⟨_, _, rfl, rfl, h⟩
theorem ct_wX11_accept (l : Launch) (g : Gp) (v1 : Int) (M : Mm) (Q : Int → Mm → Prop) (h : wX11_accept v1 M Q) : Ct l g yX11_accept cX11_accept 2 (some .int) 1 0 0 [aR 0, aI v1] (NC, RF, M) (QI Q) :=
  ct_of (by decide) (Nat.le_of_ble_eq_true rfl) (fun Γ hg hl hr _ hΓ => by subst hg; subst hl; exact s_wX11_accept hΓ (by decide) hr v1 M h)
def wX11_table_20 (Q : Int → Mm → Prop) (v1 : Int) (v2 : Int) (v3 : Int) (v4 : Int) (s0 : Int) (s1 : Int) (s2 : Int) (M : Mm) : Prop :=
    Bd (wX11_within s2 s1 s0 M) (fun r3 M4 =>
    (inR r3) ∧
    (if r3 = 0 then
      Bd (wX11_refuse (-1) M4) (fun r9 M10 =>
      Q r9 M10)
    else
      Bd (wX11_within v3 (-100) 100 M4) (fun r13 M14 =>
      (inR r13) ∧
      (if r13 = 0 then
        Bd (wX11_refuse (-1) M14) (fun r19 M20 =>
        Q r19 M20)
      else
        Bd (wX11_within v4 (-100) 100 M14) (fun r23 M24 =>
        (inR r23) ∧
        (if r23 = 0 then
          Bd (wX11_refuse (-1) M24) (fun r29 M30 =>
          Q r29 M30)
        else
          (inR v3) ∧
          (inR v4) ∧
          (if v3 ≤ v4 then
            (inR v1) ∧
            (if v1 = 0 then
              Bv (wX0_setLaw v2 v3 v4 M24) (fun M39 =>
              Bd (wX11_accept 0 M39) (fun r42 M43 =>
              Q r42 M43))
            else
              Bv (wX0_setLaw (6 + v2) v3 v4 M24) (fun M47 =>
              Bd (wX11_accept 0 M47) (fun r50 M51 =>
              Q r50 M51)))
          else
            Bd (wX11_refuse (-1) M24) (fun r54 M55 =>
            Q r54 M55))))))))
set_option maxHeartbeats 4000000 in
theorem s_wX11_table_20 {Γ : Cx} {h : Nat} (hΓ : Ok Γ cX11_table RX11 5 h 0 0) (hh : 2 ≤ h) (hr : (cxm Γ).sig.returnType = (some .int)) {Q : Int → Mm → Prop} {v1 v2 v3 v4 s0 s1 s2 : Int}   (M : Mm) (h : wX11_table_20 Q v1 v2 v3 v4 s0 s1 s2 M) : Wa Γ 5 (Kf Γ (QI Q) 0 0) 0 0 20 [(0, aR 0), (1, aI v1), (2, aI v2), (3, aI v3), (4, aI v4)] [aI s0, aI s1, aI s2] (NC, RF, M) := by
  unfold wX11_table_20 at h
  obtain ⟨P1, q2, h⟩ := h
  refine n_callS (av := [aI s2, aI s1, aI s0]) (st := []) hΓ (ct_wX11_within _ _ s2 s1 s0 M P1 q2) my_X11_within ml_RX11_79 rfl (Nat.le_trans (by decide) hh) (by decide) (Nat.le_of_ble_eq_true rfl) rfl dX11_table_20 (fun v Z' hq => ?_)
  obtain ⟨r3, M4, rfl, rfl, hq⟩ := hq
  have h := h r3 M4 hq
  dsimp only at h
  obtain ⟨g5, h⟩ := h
  refine a_if_ne (tgt := 32) hΓ g5 dX11_table_23 (by decide) (fun c6 => ?_) (fun c6 => ?_)
  · rw [if_pos c6] at h
    refine a_aload_n hΓ 0 dX11_table_26 rfl rfl ?_
    refine a_iconst hΓ dX11_table_27 ?_
    obtain ⟨P7, q8, h⟩ := h
    refine n_callV (c := 0) (av := [aI (-1)]) (st := []) hΓ (ct_wX11_refuse _ _ (-1) M4 P7 q8) my_X11_refuse ml_RX11_83 ni_X11_refuse kd_0 rfl lz_0 rfl (Nat.le_trans (by decide) hh) (by decide) (Nat.le_of_ble_eq_true rfl) rfl dX11_table_28 (fun v Z' hq => ?_)
    obtain ⟨r9, M10, rfl, rfl, hq⟩ := hq
    have h := h r9 M10 hq
    dsimp only at h
    exact a_iret hΓ hr dX11_table_31 ⟨_, _, rfl, rfl, h⟩
  · rw [if_neg c6] at h
    refine a_iload_n hΓ 3 dX11_table_32 rfl rfl ?_
    refine a_bipush hΓ dX11_table_33 (by decide) ?_
    refine a_bipush hΓ dX11_table_35 (by decide) ?_
    obtain ⟨P11, q12, h⟩ := h
    refine n_callS (av := [aI v3, aI (-100), aI 100]) (st := []) hΓ (ct_wX11_within _ _ v3 (-100) 100 M4 P11 q12) my_X11_within ml_RX11_79 rfl (Nat.le_trans (by decide) hh) (by decide) (Nat.le_of_ble_eq_true rfl) rfl dX11_table_37 (fun v Z' hq => ?_)
    obtain ⟨r13, M14, rfl, rfl, hq⟩ := hq
    have h := h r13 M14 hq
    dsimp only at h
    obtain ⟨g15, h⟩ := h
    refine a_if_eq (tgt := 61) hΓ g15 dX11_table_40 (by decide) (fun c16 => ?_) (fun c16 => ?_)
    · rw [if_pos c16] at h
      refine a_aload_n hΓ 0 dX11_table_61 rfl rfl ?_
      refine a_iconst hΓ dX11_table_62 ?_
      obtain ⟨P17, q18, h⟩ := h
      refine n_callV (c := 0) (av := [aI (-1)]) (st := []) hΓ (ct_wX11_refuse _ _ (-1) M14 P17 q18) my_X11_refuse ml_RX11_83 ni_X11_refuse kd_0 rfl lz_0 rfl (Nat.le_trans (by decide) hh) (by decide) (Nat.le_of_ble_eq_true rfl) rfl dX11_table_63 (fun v Z' hq => ?_)
      obtain ⟨r19, M20, rfl, rfl, hq⟩ := hq
      have h := h r19 M20 hq
      dsimp only at h
      exact a_iret hΓ hr dX11_table_66 ⟨_, _, rfl, rfl, h⟩
    · rw [if_neg c16] at h
      refine a_iload hΓ 4 dX11_table_43 rfl ?_
      refine a_bipush hΓ dX11_table_45 (by decide) ?_
      refine a_bipush hΓ dX11_table_47 (by decide) ?_
      obtain ⟨P21, q22, h⟩ := h
      refine n_callS (av := [aI v4, aI (-100), aI 100]) (st := []) hΓ (ct_wX11_within _ _ v4 (-100) 100 M14 P21 q22) my_X11_within ml_RX11_79 rfl (Nat.le_trans (by decide) hh) (by decide) (Nat.le_of_ble_eq_true rfl) rfl dX11_table_49 (fun v Z' hq => ?_)
      obtain ⟨r23, M24, rfl, rfl, hq⟩ := hq
      have h := h r23 M24 hq
      dsimp only at h
      obtain ⟨g25, h⟩ := h
      refine a_if_eq (tgt := 61) hΓ g25 dX11_table_52 (by decide) (fun c26 => ?_) (fun c26 => ?_)
      · rw [if_pos c26] at h
        refine a_aload_n hΓ 0 dX11_table_61 rfl rfl ?_
        refine a_iconst hΓ dX11_table_62 ?_
        obtain ⟨P27, q28, h⟩ := h
        refine n_callV (c := 0) (av := [aI (-1)]) (st := []) hΓ (ct_wX11_refuse _ _ (-1) M24 P27 q28) my_X11_refuse ml_RX11_83 ni_X11_refuse kd_0 rfl lz_0 rfl (Nat.le_trans (by decide) hh) (by decide) (Nat.le_of_ble_eq_true rfl) rfl dX11_table_63 (fun v Z' hq => ?_)
        obtain ⟨r29, M30, rfl, rfl, hq⟩ := hq
        have h := h r29 M30 hq
        dsimp only at h
        exact a_iret hΓ hr dX11_table_66 ⟨_, _, rfl, rfl, h⟩
      · rw [if_neg c26] at h
        refine a_iload_n hΓ 3 dX11_table_55 rfl rfl ?_
        refine a_iload hΓ 4 dX11_table_56 rfl ?_
        obtain ⟨g31, h⟩ := h
        obtain ⟨g32, h⟩ := h
        refine a_icmp_le (tgt := 67) hΓ g31 g32 dX11_table_58 (by decide) (fun c33 => ?_) (fun c33 => ?_)
        · rw [if_pos c33] at h
          refine a_aload_n hΓ 0 dX11_table_67 rfl rfl ?_
          refine n_getR hΓ fl_RX11_10 cl_11 kd_0 lz_0 dX11_table_68 ft_11_0 rf_0_0 ?_
          refine a_iload_n hΓ 1 dX11_table_71 rfl rfl ?_
          obtain ⟨g34, h⟩ := h
          refine a_if_ne (tgt := 79) hΓ g34 dX11_table_72 (by decide) (fun c35 => ?_) (fun c35 => ?_)
          · rw [if_pos c35] at h
            refine a_iload_n hΓ 2 dX11_table_75 rfl rfl ?_
            refine a_goto (tgt := 83) hΓ dX11_table_76 (by decide) ?_
            refine a_iload_n hΓ 3 dX11_table_83 rfl rfl ?_
            refine a_iload hΓ 4 dX11_table_84 rfl ?_
            obtain ⟨P36, q37, h⟩ := h
            refine n_callV (c := 1) (av := [aI v2, aI v3, aI v4]) (st := []) hΓ (ct_wX0_setLaw _ _ v2 v3 v4 M24 P36 q37) my_X0_setLaw ml_RX11_87 ni_X0_setLaw kd_1 rfl lz_1 rfl (Nat.le_trans (by decide) hh) (by decide) (Nat.le_of_ble_eq_true rfl) rfl dX11_table_86 (fun v Z' hq => ?_)
            obtain ⟨M39, rfl, rfl, hq⟩ := hq
            have h := h M39 hq
            dsimp only at h
            refine a_aload_n hΓ 0 dX11_table_89 rfl rfl ?_
            refine a_iconst hΓ dX11_table_90 ?_
            obtain ⟨P40, q41, h⟩ := h
            refine n_callV (c := 0) (av := [aI 0]) (st := []) hΓ (ct_wX11_accept _ _ 0 M39 P40 q41) my_X11_accept ml_RX11_91 ni_X11_accept kd_0 rfl lz_0 rfl (Nat.le_trans (by decide) hh) (by decide) (Nat.le_of_ble_eq_true rfl) rfl dX11_table_91 (fun v Z' hq => ?_)
            obtain ⟨r42, M43, rfl, rfl, hq⟩ := hq
            have h := h r42 M43 hq
            dsimp only at h
            exact a_iret hΓ hr dX11_table_94 ⟨_, _, rfl, rfl, h⟩
          · rw [if_neg c35] at h
            refine a_bipush hΓ dX11_table_79 (by decide) ?_
            refine a_iload_n hΓ 2 dX11_table_81 rfl rfl ?_
            refine a_iadd hΓ dX11_table_82 ?_
            refine a_iload_n hΓ 3 dX11_table_83 rfl rfl ?_
            refine a_iload hΓ 4 dX11_table_84 rfl ?_
            obtain ⟨P44, q45, h⟩ := h
            refine n_callV (c := 1) (av := [aI (6 + v2), aI v3, aI v4]) (st := []) hΓ (ct_wX0_setLaw _ _ (6 + v2) v3 v4 M24 P44 q45) my_X0_setLaw ml_RX11_87 ni_X0_setLaw kd_1 rfl lz_1 rfl (Nat.le_trans (by decide) hh) (by decide) (Nat.le_of_ble_eq_true rfl) rfl dX11_table_86 (fun v Z' hq => ?_)
            obtain ⟨M47, rfl, rfl, hq⟩ := hq
            have h := h M47 hq
            dsimp only at h
            refine a_aload_n hΓ 0 dX11_table_89 rfl rfl ?_
            refine a_iconst hΓ dX11_table_90 ?_
            obtain ⟨P48, q49, h⟩ := h
            refine n_callV (c := 0) (av := [aI 0]) (st := []) hΓ (ct_wX11_accept _ _ 0 M47 P48 q49) my_X11_accept ml_RX11_91 ni_X11_accept kd_0 rfl lz_0 rfl (Nat.le_trans (by decide) hh) (by decide) (Nat.le_of_ble_eq_true rfl) rfl dX11_table_91 (fun v Z' hq => ?_)
            obtain ⟨r50, M51, rfl, rfl, hq⟩ := hq
            have h := h r50 M51 hq
            dsimp only at h
            exact a_iret hΓ hr dX11_table_94 ⟨_, _, rfl, rfl, h⟩
        · rw [if_neg c33] at h
          refine a_aload_n hΓ 0 dX11_table_61 rfl rfl ?_
          refine a_iconst hΓ dX11_table_62 ?_
          obtain ⟨P52, q53, h⟩ := h
          refine n_callV (c := 0) (av := [aI (-1)]) (st := []) hΓ (ct_wX11_refuse _ _ (-1) M24 P52 q53) my_X11_refuse ml_RX11_83 ni_X11_refuse kd_0 rfl lz_0 rfl (Nat.le_trans (by decide) hh) (by decide) (Nat.le_of_ble_eq_true rfl) rfl dX11_table_63 (fun v Z' hq => ?_)
          obtain ⟨r54, M55, rfl, rfl, hq⟩ := hq
          have h := h r54 M55 hq
          dsimp only at h
          exact a_iret hΓ hr dX11_table_66 ⟨_, _, rfl, rfl, h⟩
def wX11_table (v1 : Int) (v2 : Int) (v3 : Int) (v4 : Int) (M : Mm) (Q : Int → Mm → Prop) : Prop :=
    Bd (wX11_within v1 0 1 M) (fun r3 M4 =>
    (inR r3) ∧
    (if r3 = 0 then
      Bd (wX11_refuse (-1) M4) (fun r9 M10 =>
      Q r9 M10)
    else
      (inR v1) ∧
      (if v1 = 0 then
        wX11_table_20 Q v1 v2 v3 v4 5 0 v2 M4
      else
        wX11_table_20 Q v1 v2 v3 v4 3 0 v2 M4)))
set_option maxHeartbeats 4000000 in
theorem s_wX11_table {Γ : Cx} {h : Nat} (hΓ : Ok Γ cX11_table RX11 5 h 0 0) (hh : 2 ≤ h) (hr : (cxm Γ).sig.returnType = (some .int)) {Q : Int → Mm → Prop} (v1 : Int) (v2 : Int) (v3 : Int) (v4 : Int) (M : Mm) (h : wX11_table v1 v2 v3 v4 M Q) : Wa Γ 5 (Kf Γ (QI Q) 0 0) 0 0 0 [(0, aR 0), (1, aI v1), (2, aI v2), (3, aI v3), (4, aI v4)] [] (NC, RF, M) := by
  unfold wX11_table at h
  refine a_iload_n hΓ 1 dX11_table_0 rfl rfl ?_
  refine a_iconst hΓ dX11_table_1 ?_
  refine a_iconst hΓ dX11_table_2 ?_
  obtain ⟨P1, q2, h⟩ := h
  refine n_callS (av := [aI v1, aI 0, aI 1]) (st := []) hΓ (ct_wX11_within _ _ v1 0 1 M P1 q2) my_X11_within ml_RX11_79 rfl (Nat.le_trans (by decide) hh) (by decide) (Nat.le_of_ble_eq_true rfl) rfl dX11_table_3 (fun v Z' hq => ?_)
  obtain ⟨r3, M4, rfl, rfl, hq⟩ := hq
  have h := h r3 M4 hq
  dsimp only at h
  obtain ⟨g5, h⟩ := h
  refine a_if_eq (tgt := 26) hΓ g5 dX11_table_6 (by decide) (fun c6 => ?_) (fun c6 => ?_)
  · rw [if_pos c6] at h
    refine a_aload_n hΓ 0 dX11_table_26 rfl rfl ?_
    refine a_iconst hΓ dX11_table_27 ?_
    obtain ⟨P7, q8, h⟩ := h
    refine n_callV (c := 0) (av := [aI (-1)]) (st := []) hΓ (ct_wX11_refuse _ _ (-1) M4 P7 q8) my_X11_refuse ml_RX11_83 ni_X11_refuse kd_0 rfl lz_0 rfl (Nat.le_trans (by decide) hh) (by decide) (Nat.le_of_ble_eq_true rfl) rfl dX11_table_28 (fun v Z' hq => ?_)
    obtain ⟨r9, M10, rfl, rfl, hq⟩ := hq
    have h := h r9 M10 hq
    dsimp only at h
    exact a_iret hΓ hr dX11_table_31 ⟨_, _, rfl, rfl, h⟩
  · rw [if_neg c6] at h
    refine a_iload_n hΓ 2 dX11_table_9 rfl rfl ?_
    refine a_iconst hΓ dX11_table_10 ?_
    refine a_iload_n hΓ 1 dX11_table_11 rfl rfl ?_
    obtain ⟨g11, h⟩ := h
    refine a_if_ne (tgt := 19) hΓ g11 dX11_table_12 (by decide) (fun c12 => ?_) (fun c12 => ?_)
    · rw [if_pos c12] at h
      refine a_iconst hΓ dX11_table_15 ?_
      refine a_goto (tgt := 20) hΓ dX11_table_16 (by decide) ?_
      exact s_wX11_table_20 hΓ (Nat.le_trans (by decide) hh) hr  M4 h
    · rw [if_neg c12] at h
      refine a_iconst hΓ dX11_table_19 ?_
      exact s_wX11_table_20 hΓ (Nat.le_trans (by decide) hh) hr  M4 h
theorem ct_wX11_table (l : Launch) (g : Gp) (v1 : Int) (v2 : Int) (v3 : Int) (v4 : Int) (M : Mm) (Q : Int → Mm → Prop) (h : wX11_table v1 v2 v3 v4 M Q) : Ct l g yX11_table cX11_table 5 (some .int) 2 0 0 [aR 0, aI v1, aI v2, aI v3, aI v4] (NC, RF, M) (QI Q) :=
  ct_of (by decide) (Nat.le_of_ble_eq_true rfl) (fun Γ hg hl hr _ hΓ => by subst hg; subst hl; exact s_wX11_table hΓ (by decide) hr v1 v2 v3 v4 M h)
def wX11_ship (v1 : Int) (M : Mm) (Q : Int → Mm → Prop) : Prop :=
    Bd (wX11_within v1 0 1000 M) (fun r3 M4 =>
    (inR r3) ∧
    (if r3 = 0 then
      Bd (wX11_refuse (-1) M4) (fun r9 M10 =>
      Q r9 M10)
    else
      (inR (M4 1 0)) ∧
      (if (M4 1 0) < 3 then
        (0 ≤ (M4 1 0) ∧ (M4 1 0) < 3) ∧
        Bd (wX11_accept (((M4 1 0) + 1) - 1) (up (up M4 2 (M4 1 0) v1) 1 0 ((M4 1 0) + 1))) (fun r16 M17 =>
        Q r16 M17)
      else
        Bd (wX11_refuse (-5) M4) (fun r20 M21 =>
        Q r20 M21))))
set_option maxHeartbeats 4000000 in
theorem s_wX11_ship {Γ : Cx} {h : Nat} (hΓ : Ok Γ cX11_ship RX11 2 h 0 0) (hh : 2 ≤ h) (hr : (cxm Γ).sig.returnType = (some .int)) {Q : Int → Mm → Prop} (v1 : Int) (M : Mm) (h : wX11_ship v1 M Q) : Wa Γ 2 (Kf Γ (QI Q) 0 0) 0 0 0 [(0, aR 0), (1, aI v1)] [] (NC, RF, M) := by
  unfold wX11_ship at h
  refine a_iload_n hΓ 1 dX11_ship_0 rfl rfl ?_
  refine a_iconst hΓ dX11_ship_1 ?_
  refine a_sipush hΓ dX11_ship_2 (by decide) ?_
  obtain ⟨P1, q2, h⟩ := h
  refine n_callS (av := [aI v1, aI 0, aI 1000]) (st := []) hΓ (ct_wX11_within _ _ v1 0 1000 M P1 q2) my_X11_within ml_RX11_79 rfl (Nat.le_trans (by decide) hh) (by decide) (Nat.le_of_ble_eq_true rfl) rfl dX11_ship_5 (fun v Z' hq => ?_)
  obtain ⟨r3, M4, rfl, rfl, hq⟩ := hq
  have h := h r3 M4 hq
  dsimp only at h
  obtain ⟨g5, h⟩ := h
  refine a_if_ne (tgt := 17) hΓ g5 dX11_ship_8 (by decide) (fun c6 => ?_) (fun c6 => ?_)
  · rw [if_pos c6] at h
    refine a_aload_n hΓ 0 dX11_ship_11 rfl rfl ?_
    refine a_iconst hΓ dX11_ship_12 ?_
    obtain ⟨P7, q8, h⟩ := h
    refine n_callV (c := 0) (av := [aI (-1)]) (st := []) hΓ (ct_wX11_refuse _ _ (-1) M4 P7 q8) my_X11_refuse ml_RX11_83 ni_X11_refuse kd_0 rfl lz_0 rfl (Nat.le_trans (by decide) hh) (by decide) (Nat.le_of_ble_eq_true rfl) rfl dX11_ship_13 (fun v Z' hq => ?_)
    obtain ⟨r9, M10, rfl, rfl, hq⟩ := hq
    have h := h r9 M10 hq
    dsimp only at h
    exact a_iret hΓ hr dX11_ship_16 ⟨_, _, rfl, rfl, h⟩
  · rw [if_neg c6] at h
    refine a_aload_n hΓ 0 dX11_ship_17 rfl rfl ?_
    refine n_getR hΓ fl_RX11_10 cl_11 kd_0 lz_0 dX11_ship_18 ft_11_0 rf_0_0 ?_
    refine n_getI (x := (M4 1 0)) hΓ fl_RX11_94 cl_0 kd_1 lz_1 dX11_ship_21 (Or.inl ft_0_0) rfl ?_
    refine a_iconst hΓ dX11_ship_24 ?_
    obtain ⟨g11, h⟩ := h
    refine a_icmp_lt (tgt := 35) hΓ g11 (inRl (by decide)) dX11_ship_25 (by decide) (fun c12 => ?_) (fun c12 => ?_)
    · rw [if_pos c12] at h
      refine a_aload_n hΓ 0 dX11_ship_35 rfl rfl ?_
      refine n_getR hΓ fl_RX11_10 cl_11 kd_0 lz_0 dX11_ship_36 ft_11_0 rf_0_0 ?_
      refine n_getR hΓ fl_RX11_98 cl_0 kd_1 lz_1 dX11_ship_39 ft_0_7 rf_1_7 ?_
      refine a_aload_n hΓ 0 dX11_ship_42 rfl rfl ?_
      refine n_getR hΓ fl_RX11_10 cl_11 kd_0 lz_0 dX11_ship_43 ft_11_0 rf_0_0 ?_
      refine n_getI (x := (M4 1 0)) hΓ fl_RX11_94 cl_0 kd_1 lz_1 dX11_ship_46 (Or.inl ft_0_0) rfl ?_
      refine a_iload_n hΓ 1 dX11_ship_49 rfl rfl ?_
      obtain ⟨g13, h⟩ := h
      refine a_iast hΓ dX11_ship_50 kd_2 lz_2 g13 ?_
      refine a_aload_n hΓ 0 dX11_ship_51 rfl rfl ?_
      refine n_getR hΓ fl_RX11_10 cl_11 kd_0 lz_0 dX11_ship_52 ft_11_0 rf_0_0 ?_
      refine a_dupR hΓ dX11_ship_55 ?_
      refine n_getI (x := (M4 1 0)) hΓ fl_RX11_94 cl_0 kd_1 lz_1 dX11_ship_56 (Or.inl ft_0_0) rfl ?_
      refine a_iconst hΓ dX11_ship_59 ?_
      refine a_iadd hΓ dX11_ship_60 ?_
      refine n_putI (j := 0) hΓ fl_RX11_94 cl_0 nf_0_0 kd_1 lz_1 dX11_ship_61 (Or.inl ft_0_0) rfl ?_
      refine a_aload_n hΓ 0 dX11_ship_64 rfl rfl ?_
      refine a_aload_n hΓ 0 dX11_ship_65 rfl rfl ?_
      refine n_getR hΓ fl_RX11_10 cl_11 kd_0 lz_0 dX11_ship_66 ft_11_0 rf_0_0 ?_
      refine n_getI (x := ((M4 1 0) + 1)) hΓ fl_RX11_94 cl_0 kd_1 lz_1 dX11_ship_69 (Or.inl ft_0_0) rfl ?_
      refine a_iconst hΓ dX11_ship_72 ?_
      refine a_isub hΓ dX11_ship_73 ?_
      obtain ⟨P14, q15, h⟩ := h
      refine n_callV (c := 0) (av := [aI (((M4 1 0) + 1) - 1)]) (st := []) hΓ (ct_wX11_accept _ _ (((M4 1 0) + 1) - 1) (up (up M4 2 (M4 1 0) v1) 1 0 ((M4 1 0) + 1)) P14 q15) my_X11_accept ml_RX11_91 ni_X11_accept kd_0 rfl lz_0 rfl (Nat.le_trans (by decide) hh) (by decide) (Nat.le_of_ble_eq_true rfl) rfl dX11_ship_74 (fun v Z' hq => ?_)
      obtain ⟨r16, M17, rfl, rfl, hq⟩ := hq
      have h := h r16 M17 hq
      dsimp only at h
      exact a_iret hΓ hr dX11_ship_77 ⟨_, _, rfl, rfl, h⟩
    · rw [if_neg c12] at h
      refine a_aload_n hΓ 0 dX11_ship_28 rfl rfl ?_
      refine a_bipush hΓ dX11_ship_29 (by decide) ?_
      obtain ⟨P18, q19, h⟩ := h
      refine n_callV (c := 0) (av := [aI (-5)]) (st := []) hΓ (ct_wX11_refuse _ _ (-5) M4 P18 q19) my_X11_refuse ml_RX11_83 ni_X11_refuse kd_0 rfl lz_0 rfl (Nat.le_trans (by decide) hh) (by decide) (Nat.le_of_ble_eq_true rfl) rfl dX11_ship_31 (fun v Z' hq => ?_)
      obtain ⟨r20, M21, rfl, rfl, hq⟩ := hq
      have h := h r20 M21 hq
      dsimp only at h
      exact a_iret hΓ hr dX11_ship_34 ⟨_, _, rfl, rfl, h⟩
theorem ct_wX11_ship (l : Launch) (g : Gp) (v1 : Int) (M : Mm) (Q : Int → Mm → Prop) (h : wX11_ship v1 M Q) : Ct l g yX11_ship cX11_ship 2 (some .int) 2 0 0 [aR 0, aI v1] (NC, RF, M) (QI Q) :=
  ct_of (by decide) (Nat.le_of_ble_eq_true rfl) (fun Γ hg hl hr _ hΓ => by subst hg; subst hl; exact s_wX11_ship hΓ (by decide) hr v1 M h)
def wX11_isDay (v0 : Int) (M : Mm) (Q : Int → Mm → Prop) : Prop :=
    Bd (wX11_within v0 0 119 M) (fun r3 M4 =>
    (r3 = 0 ∨ r3 = 1) ∧
    Q r3 M4)
set_option maxHeartbeats 4000000 in
theorem s_wX11_isDay {Γ : Cx} {h : Nat} (hΓ : Ok Γ cX11_isDay RX11 1 h 0 0) (hh : 2 ≤ h) (hr : (cxm Γ).sig.returnType = (some .boolean)) {Q : Int → Mm → Prop} (v0 : Int) (M : Mm) (h : wX11_isDay v0 M Q) : Wa Γ 1 (Kf Γ (QI Q) 0 0) 0 0 0 [(0, aI v0)] [] (NC, RF, M) := by
  unfold wX11_isDay at h
  refine a_iload_n hΓ 0 dX11_isDay_0 rfl rfl ?_
  refine a_iconst hΓ dX11_isDay_1 ?_
  refine a_bipush hΓ dX11_isDay_2 (by decide) ?_
  obtain ⟨P1, q2, h⟩ := h
  refine n_callS (av := [aI v0, aI 0, aI 119]) (st := []) hΓ (ct_wX11_within _ _ v0 0 119 M P1 q2) my_X11_within ml_RX11_79 rfl (Nat.le_trans (by decide) hh) (by decide) (Nat.le_of_ble_eq_true rfl) rfl dX11_isDay_4 (fun v Z' hq => ?_)
  obtain ⟨r3, M4, rfl, rfl, hq⟩ := hq
  have h := h r3 M4 hq
  dsimp only at h
  obtain ⟨g5, h⟩ := h
  exact a_zret hΓ hr g5 dX11_isDay_7 ⟨_, _, rfl, rfl, h⟩
theorem ct_wX11_isDay (l : Launch) (g : Gp) (v0 : Int) (M : Mm) (Q : Int → Mm → Prop) (h : wX11_isDay v0 M Q) : Ct l g yX11_isDay cX11_isDay 1 (some .boolean) 2 0 0 [aI v0] (NC, RF, M) (QI Q) :=
  ct_of (by decide) (Nat.le_of_ble_eq_true rfl) (fun Γ hg hl hr _ hΓ => by subst hg; subst hl; exact s_wX11_isDay hΓ (by decide) hr v0 M h)
def wX11_isShip (v1 : Int) (M : Mm) (Q : Int → Mm → Prop) : Prop :=
    Bd (wX11_within v1 0 ((M 1 0) - 1) M) (fun r3 M4 =>
    (r3 = 0 ∨ r3 = 1) ∧
    Q r3 M4)
set_option maxHeartbeats 4000000 in
theorem s_wX11_isShip {Γ : Cx} {h : Nat} (hΓ : Ok Γ cX11_isShip RX11 2 h 0 0) (hh : 2 ≤ h) (hr : (cxm Γ).sig.returnType = (some .boolean)) {Q : Int → Mm → Prop} (v1 : Int) (M : Mm) (h : wX11_isShip v1 M Q) : Wa Γ 2 (Kf Γ (QI Q) 0 0) 0 0 0 [(0, aR 0), (1, aI v1)] [] (NC, RF, M) := by
  unfold wX11_isShip at h
  refine a_iload_n hΓ 1 dX11_isShip_0 rfl rfl ?_
  refine a_iconst hΓ dX11_isShip_1 ?_
  refine a_aload_n hΓ 0 dX11_isShip_2 rfl rfl ?_
  refine n_getR hΓ fl_RX11_10 cl_11 kd_0 lz_0 dX11_isShip_3 ft_11_0 rf_0_0 ?_
  refine n_getI (x := (M 1 0)) hΓ fl_RX11_94 cl_0 kd_1 lz_1 dX11_isShip_6 (Or.inl ft_0_0) rfl ?_
  refine a_iconst hΓ dX11_isShip_9 ?_
  refine a_isub hΓ dX11_isShip_10 ?_
  obtain ⟨P1, q2, h⟩ := h
  refine n_callS (av := [aI v1, aI 0, aI ((M 1 0) - 1)]) (st := []) hΓ (ct_wX11_within _ _ v1 0 ((M 1 0) - 1) M P1 q2) my_X11_within ml_RX11_79 rfl (Nat.le_trans (by decide) hh) (by decide) (Nat.le_of_ble_eq_true rfl) rfl dX11_isShip_11 (fun v Z' hq => ?_)
  obtain ⟨r3, M4, rfl, rfl, hq⟩ := hq
  have h := h r3 M4 hq
  dsimp only at h
  obtain ⟨g5, h⟩ := h
  exact a_zret hΓ hr g5 dX11_isShip_14 ⟨_, _, rfl, rfl, h⟩
theorem ct_wX11_isShip (l : Launch) (g : Gp) (v1 : Int) (M : Mm) (Q : Int → Mm → Prop) (h : wX11_isShip v1 M Q) : Ct l g yX11_isShip cX11_isShip 2 (some .boolean) 2 0 0 [aR 0, aI v1] (NC, RF, M) (QI Q) :=
  ct_of (by decide) (Nat.le_of_ble_eq_true rfl) (fun Γ hg hl hr _ hΓ => by subst hg; subst hl; exact s_wX11_isShip hΓ (by decide) hr v1 M h)
def wX3_append (v1 : Int) (v2 : Int) (v3 : Int) (v4 : Int) (v5 : Int) (v6 : Int) (M : Mm) (Q : Mm → Prop) : Prop :=
    (0 ≤ (M 8 0) ∧ (M 8 0) < 60) ∧
    Q (up (up (up (up (up (up (up M 9 (M 8 0) v1) 10 (M 8 0) v2) 11 (M 8 0) v3) 12 (M 8 0) v4) 13 (M 8 0) v5) 14 (M 8 0) v6) 8 0 ((M 8 0) + 1))
set_option maxHeartbeats 4000000 in
theorem s_wX3_append {Γ : Cx} {h : Nat} (hΓ : Ok Γ cX3_append RX3 7 h 0 0) (hh : 1 ≤ h) (hr : (cxm Γ).sig.returnType = none) {Q : Mm → Prop} (v1 : Int) (v2 : Int) (v3 : Int) (v4 : Int) (v5 : Int) (v6 : Int) (M : Mm) (h : wX3_append v1 v2 v3 v4 v5 v6 M Q) : Wa Γ 7 (Kf Γ (QV Q) 0 0) 0 0 0 [(0, aR 8), (1, aI v1), (2, aI v2), (3, aI v3), (4, aI v4), (5, aI v5), (6, aI v6)] [] (NC, RF, M) := by
  unfold wX3_append at h
  refine a_aload_n hΓ 0 dX3_append_0 rfl rfl ?_
  refine n_getR hΓ fl_RX3_9 cl_3 kd_8 lz_8 dX3_append_1 ft_3_1 rf_8_1 ?_
  refine a_aload_n hΓ 0 dX3_append_4 rfl rfl ?_
  refine n_getI (x := (M 8 0)) hΓ fl_RX3_30 cl_3 kd_8 lz_8 dX3_append_5 (Or.inl ft_3_0) rfl ?_
  refine a_iload_n hΓ 1 dX3_append_8 rfl rfl ?_
  obtain ⟨g1, h⟩ := h
  refine a_iast hΓ dX3_append_9 kd_9 lz_9 g1 ?_
  refine a_aload_n hΓ 0 dX3_append_10 rfl rfl ?_
  refine n_getR hΓ fl_RX3_15 cl_3 kd_8 lz_8 dX3_append_11 ft_3_2 rf_8_2 ?_
  refine a_aload_n hΓ 0 dX3_append_14 rfl rfl ?_
  refine n_getI (x := (M 8 0)) hΓ fl_RX3_30 cl_3 kd_8 lz_8 dX3_append_15 (Or.inl ft_3_0) rfl ?_
  refine a_iload_n hΓ 2 dX3_append_18 rfl rfl ?_
  refine a_iast hΓ dX3_append_19 kd_10 lz_10 g1 ?_
  refine a_aload_n hΓ 0 dX3_append_20 rfl rfl ?_
  refine n_getR hΓ fl_RX3_18 cl_3 kd_8 lz_8 dX3_append_21 ft_3_3 rf_8_3 ?_
  refine a_aload_n hΓ 0 dX3_append_24 rfl rfl ?_
  refine n_getI (x := (M 8 0)) hΓ fl_RX3_30 cl_3 kd_8 lz_8 dX3_append_25 (Or.inl ft_3_0) rfl ?_
  refine a_iload_n hΓ 3 dX3_append_28 rfl rfl ?_
  refine a_iast hΓ dX3_append_29 kd_11 lz_11 g1 ?_
  refine a_aload_n hΓ 0 dX3_append_30 rfl rfl ?_
  refine n_getR hΓ fl_RX3_21 cl_3 kd_8 lz_8 dX3_append_31 ft_3_4 rf_8_4 ?_
  refine a_aload_n hΓ 0 dX3_append_34 rfl rfl ?_
  refine n_getI (x := (M 8 0)) hΓ fl_RX3_30 cl_3 kd_8 lz_8 dX3_append_35 (Or.inl ft_3_0) rfl ?_
  refine a_iload hΓ 4 dX3_append_38 rfl ?_
  refine a_iast hΓ dX3_append_40 kd_12 lz_12 g1 ?_
  refine a_aload_n hΓ 0 dX3_append_41 rfl rfl ?_
  refine n_getR hΓ fl_RX3_24 cl_3 kd_8 lz_8 dX3_append_42 ft_3_5 rf_8_5 ?_
  refine a_aload_n hΓ 0 dX3_append_45 rfl rfl ?_
  refine n_getI (x := (M 8 0)) hΓ fl_RX3_30 cl_3 kd_8 lz_8 dX3_append_46 (Or.inl ft_3_0) rfl ?_
  refine a_iload hΓ 5 dX3_append_49 rfl ?_
  refine a_iast hΓ dX3_append_51 kd_13 lz_13 g1 ?_
  refine a_aload_n hΓ 0 dX3_append_52 rfl rfl ?_
  refine n_getR hΓ fl_RX3_27 cl_3 kd_8 lz_8 dX3_append_53 ft_3_6 rf_8_6 ?_
  refine a_aload_n hΓ 0 dX3_append_56 rfl rfl ?_
  refine n_getI (x := (M 8 0)) hΓ fl_RX3_30 cl_3 kd_8 lz_8 dX3_append_57 (Or.inl ft_3_0) rfl ?_
  refine a_iload hΓ 6 dX3_append_60 rfl ?_
  refine a_iast hΓ dX3_append_62 kd_14 lz_14 g1 ?_
  refine a_aload_n hΓ 0 dX3_append_63 rfl rfl ?_
  refine a_dupR hΓ dX3_append_64 ?_
  refine n_getI (x := (M 8 0)) hΓ fl_RX3_30 cl_3 kd_8 lz_8 dX3_append_65 (Or.inl ft_3_0) rfl ?_
  refine a_iconst hΓ dX3_append_68 ?_
  refine a_iadd hΓ dX3_append_69 ?_
  refine n_putI (j := 0) hΓ fl_RX3_30 cl_3 nf_3_0 kd_8 lz_8 dX3_append_70 (Or.inl ft_3_0) rfl ?_
  exact a_vret hΓ hr dX3_append_73 ⟨_, rfl, rfl, h⟩
theorem ct_wX3_append (l : Launch) (g : Gp) (v1 : Int) (v2 : Int) (v3 : Int) (v4 : Int) (v5 : Int) (v6 : Int) (M : Mm) (Q : Mm → Prop) (h : wX3_append v1 v2 v3 v4 v5 v6 M Q) : Ct l g yX3_append cX3_append 7 none 1 0 0 [aR 8, aI v1, aI v2, aI v3, aI v4, aI v5, aI v6] (NC, RF, M) (QV Q) :=
  ct_of (by decide) (Nat.le_of_ble_eq_true rfl) (fun Γ hg hl hr _ hΓ => by subst hg; subst hl; exact s_wX3_append hΓ (by decide) hr v1 v2 v3 v4 v5 v6 M h)
def wX11_leg (v1 : Int) (v2 : Int) (v3 : Int) (v4 : Int) (v5 : Int) (v6 : Int) (M : Mm) (Q : Int → Mm → Prop) : Prop :=
    Bd (wX11_isDay v2 M) (fun r3 M4 =>
    (inR r3) ∧
    (if r3 = 0 then
      Bd (wX11_refuse (-1) M4) (fun r9 M10 =>
      Q r9 M10)
    else
      Bd (wX11_within v3 0 5 M4) (fun r13 M14 =>
      (inR r13) ∧
      (if r13 = 0 then
        Bd (wX11_refuse (-1) M14) (fun r19 M20 =>
        Q r19 M20)
      else
        Bd (wX11_within v4 0 30 M14) (fun r23 M24 =>
        (inR r23) ∧
        (if r23 = 0 then
          Bd (wX11_refuse (-1) M24) (fun r29 M30 =>
          Q r29 M30)
        else
          Bd (wX11_within v5 0 20 M24) (fun r33 M34 =>
          (inR r33) ∧
          (if r33 = 0 then
            Bd (wX11_refuse (-1) M34) (fun r39 M40 =>
            Q r39 M40)
          else
            Bd (wX11_within v6 0 100 M34) (fun r43 M44 =>
            (inR r43) ∧
            (if r43 = 0 then
              Bd (wX11_refuse (-1) M44) (fun r49 M50 =>
              Q r49 M50)
            else
              Bd (wX11_isShip v1 M44) (fun r53 M54 =>
              (inR r53) ∧
              (if r53 = 0 then
                Bd (wX11_refuse (-2) M54) (fun r59 M60 =>
                Q r59 M60)
              else
                (inR (M54 8 0)) ∧
                (if (M54 8 0) < 60 then
                  Bv (wX3_append v1 v2 v3 v4 v5 v6 M54) (fun M66 =>
                  Bd (wX11_accept (M66 8 0) M66) (fun r69 M70 =>
                  Q r69 M70))
                else
                  Bd (wX11_refuse (-5) M54) (fun r73 M74 =>
                  Q r73 M74))))))))))))))
set_option maxHeartbeats 4000000 in
theorem s_wX11_leg {Γ : Cx} {h : Nat} (hΓ : Ok Γ cX11_leg RX11 7 h 0 0) (hh : 3 ≤ h) (hr : (cxm Γ).sig.returnType = (some .int)) {Q : Int → Mm → Prop} (v1 : Int) (v2 : Int) (v3 : Int) (v4 : Int) (v5 : Int) (v6 : Int) (M : Mm) (h : wX11_leg v1 v2 v3 v4 v5 v6 M Q) : Wa Γ 7 (Kf Γ (QI Q) 0 0) 0 0 0 [(0, aR 0), (1, aI v1), (2, aI v2), (3, aI v3), (4, aI v4), (5, aI v5), (6, aI v6)] [] (NC, RF, M) := by
  unfold wX11_leg at h
  refine a_iload_n hΓ 2 dX11_leg_0 rfl rfl ?_
  obtain ⟨P1, q2, h⟩ := h
  refine n_callS (av := [aI v2]) (st := []) hΓ (ct_wX11_isDay _ _ v2 M P1 q2) my_X11_isDay ml_RX11_102 rfl (Nat.le_trans (by decide) hh) (by decide) (Nat.le_of_ble_eq_true rfl) rfl dX11_leg_1 (fun v Z' hq => ?_)
  obtain ⟨r3, M4, rfl, rfl, hq⟩ := hq
  have h := h r3 M4 hq
  dsimp only at h
  obtain ⟨g5, h⟩ := h
  refine a_if_eq (tgt := 27) hΓ g5 dX11_leg_4 (by decide) (fun c6 => ?_) (fun c6 => ?_)
  · rw [if_pos c6] at h
    refine a_aload_n hΓ 0 dX11_leg_27 rfl rfl ?_
    refine a_iconst hΓ dX11_leg_28 ?_
    obtain ⟨P7, q8, h⟩ := h
    refine n_callV (c := 0) (av := [aI (-1)]) (st := []) hΓ (ct_wX11_refuse _ _ (-1) M4 P7 q8) my_X11_refuse ml_RX11_83 ni_X11_refuse kd_0 rfl lz_0 rfl (Nat.le_trans (by decide) hh) (by decide) (Nat.le_of_ble_eq_true rfl) rfl dX11_leg_29 (fun v Z' hq => ?_)
    obtain ⟨r9, M10, rfl, rfl, hq⟩ := hq
    have h := h r9 M10 hq
    dsimp only at h
    exact a_iret hΓ hr dX11_leg_32 ⟨_, _, rfl, rfl, h⟩
  · rw [if_neg c6] at h
    refine a_iload_n hΓ 3 dX11_leg_7 rfl rfl ?_
    refine a_iconst hΓ dX11_leg_8 ?_
    refine a_iconst hΓ dX11_leg_9 ?_
    obtain ⟨P11, q12, h⟩ := h
    refine n_callS (av := [aI v3, aI 0, aI 5]) (st := []) hΓ (ct_wX11_within _ _ v3 0 5 M4 P11 q12) my_X11_within ml_RX11_79 rfl (Nat.le_trans (by decide) hh) (by decide) (Nat.le_of_ble_eq_true rfl) rfl dX11_leg_10 (fun v Z' hq => ?_)
    obtain ⟨r13, M14, rfl, rfl, hq⟩ := hq
    have h := h r13 M14 hq
    dsimp only at h
    obtain ⟨g15, h⟩ := h
    refine a_if_eq (tgt := 27) hΓ g15 dX11_leg_13 (by decide) (fun c16 => ?_) (fun c16 => ?_)
    · rw [if_pos c16] at h
      refine a_aload_n hΓ 0 dX11_leg_27 rfl rfl ?_
      refine a_iconst hΓ dX11_leg_28 ?_
      obtain ⟨P17, q18, h⟩ := h
      refine n_callV (c := 0) (av := [aI (-1)]) (st := []) hΓ (ct_wX11_refuse _ _ (-1) M14 P17 q18) my_X11_refuse ml_RX11_83 ni_X11_refuse kd_0 rfl lz_0 rfl (Nat.le_trans (by decide) hh) (by decide) (Nat.le_of_ble_eq_true rfl) rfl dX11_leg_29 (fun v Z' hq => ?_)
      obtain ⟨r19, M20, rfl, rfl, hq⟩ := hq
      have h := h r19 M20 hq
      dsimp only at h
      exact a_iret hΓ hr dX11_leg_32 ⟨_, _, rfl, rfl, h⟩
    · rw [if_neg c16] at h
      refine a_iload hΓ 4 dX11_leg_16 rfl ?_
      refine a_iconst hΓ dX11_leg_18 ?_
      refine a_bipush hΓ dX11_leg_19 (by decide) ?_
      obtain ⟨P21, q22, h⟩ := h
      refine n_callS (av := [aI v4, aI 0, aI 30]) (st := []) hΓ (ct_wX11_within _ _ v4 0 30 M14 P21 q22) my_X11_within ml_RX11_79 rfl (Nat.le_trans (by decide) hh) (by decide) (Nat.le_of_ble_eq_true rfl) rfl dX11_leg_21 (fun v Z' hq => ?_)
      obtain ⟨r23, M24, rfl, rfl, hq⟩ := hq
      have h := h r23 M24 hq
      dsimp only at h
      obtain ⟨g25, h⟩ := h
      refine a_if_ne (tgt := 33) hΓ g25 dX11_leg_24 (by decide) (fun c26 => ?_) (fun c26 => ?_)
      · rw [if_pos c26] at h
        refine a_aload_n hΓ 0 dX11_leg_27 rfl rfl ?_
        refine a_iconst hΓ dX11_leg_28 ?_
        obtain ⟨P27, q28, h⟩ := h
        refine n_callV (c := 0) (av := [aI (-1)]) (st := []) hΓ (ct_wX11_refuse _ _ (-1) M24 P27 q28) my_X11_refuse ml_RX11_83 ni_X11_refuse kd_0 rfl lz_0 rfl (Nat.le_trans (by decide) hh) (by decide) (Nat.le_of_ble_eq_true rfl) rfl dX11_leg_29 (fun v Z' hq => ?_)
        obtain ⟨r29, M30, rfl, rfl, hq⟩ := hq
        have h := h r29 M30 hq
        dsimp only at h
        exact a_iret hΓ hr dX11_leg_32 ⟨_, _, rfl, rfl, h⟩
      · rw [if_neg c26] at h
        refine a_iload hΓ 5 dX11_leg_33 rfl ?_
        refine a_iconst hΓ dX11_leg_35 ?_
        refine a_bipush hΓ dX11_leg_36 (by decide) ?_
        obtain ⟨P31, q32, h⟩ := h
        refine n_callS (av := [aI v5, aI 0, aI 20]) (st := []) hΓ (ct_wX11_within _ _ v5 0 20 M24 P31 q32) my_X11_within ml_RX11_79 rfl (Nat.le_trans (by decide) hh) (by decide) (Nat.le_of_ble_eq_true rfl) rfl dX11_leg_38 (fun v Z' hq => ?_)
        obtain ⟨r33, M34, rfl, rfl, hq⟩ := hq
        have h := h r33 M34 hq
        dsimp only at h
        obtain ⟨g35, h⟩ := h
        refine a_if_eq (tgt := 55) hΓ g35 dX11_leg_41 (by decide) (fun c36 => ?_) (fun c36 => ?_)
        · rw [if_pos c36] at h
          refine a_aload_n hΓ 0 dX11_leg_55 rfl rfl ?_
          refine a_iconst hΓ dX11_leg_56 ?_
          obtain ⟨P37, q38, h⟩ := h
          refine n_callV (c := 0) (av := [aI (-1)]) (st := []) hΓ (ct_wX11_refuse _ _ (-1) M34 P37 q38) my_X11_refuse ml_RX11_83 ni_X11_refuse kd_0 rfl lz_0 rfl (Nat.le_trans (by decide) hh) (by decide) (Nat.le_of_ble_eq_true rfl) rfl dX11_leg_57 (fun v Z' hq => ?_)
          obtain ⟨r39, M40, rfl, rfl, hq⟩ := hq
          have h := h r39 M40 hq
          dsimp only at h
          exact a_iret hΓ hr dX11_leg_60 ⟨_, _, rfl, rfl, h⟩
        · rw [if_neg c36] at h
          refine a_iload hΓ 6 dX11_leg_44 rfl ?_
          refine a_iconst hΓ dX11_leg_46 ?_
          refine a_bipush hΓ dX11_leg_47 (by decide) ?_
          obtain ⟨P41, q42, h⟩ := h
          refine n_callS (av := [aI v6, aI 0, aI 100]) (st := []) hΓ (ct_wX11_within _ _ v6 0 100 M34 P41 q42) my_X11_within ml_RX11_79 rfl (Nat.le_trans (by decide) hh) (by decide) (Nat.le_of_ble_eq_true rfl) rfl dX11_leg_49 (fun v Z' hq => ?_)
          obtain ⟨r43, M44, rfl, rfl, hq⟩ := hq
          have h := h r43 M44 hq
          dsimp only at h
          obtain ⟨g45, h⟩ := h
          refine a_if_ne (tgt := 61) hΓ g45 dX11_leg_52 (by decide) (fun c46 => ?_) (fun c46 => ?_)
          · rw [if_pos c46] at h
            refine a_aload_n hΓ 0 dX11_leg_55 rfl rfl ?_
            refine a_iconst hΓ dX11_leg_56 ?_
            obtain ⟨P47, q48, h⟩ := h
            refine n_callV (c := 0) (av := [aI (-1)]) (st := []) hΓ (ct_wX11_refuse _ _ (-1) M44 P47 q48) my_X11_refuse ml_RX11_83 ni_X11_refuse kd_0 rfl lz_0 rfl (Nat.le_trans (by decide) hh) (by decide) (Nat.le_of_ble_eq_true rfl) rfl dX11_leg_57 (fun v Z' hq => ?_)
            obtain ⟨r49, M50, rfl, rfl, hq⟩ := hq
            have h := h r49 M50 hq
            dsimp only at h
            exact a_iret hΓ hr dX11_leg_60 ⟨_, _, rfl, rfl, h⟩
          · rw [if_neg c46] at h
            refine a_aload_n hΓ 0 dX11_leg_61 rfl rfl ?_
            refine a_iload_n hΓ 1 dX11_leg_62 rfl rfl ?_
            obtain ⟨P51, q52, h⟩ := h
            refine n_callV (c := 0) (av := [aI v1]) (st := []) hΓ (ct_wX11_isShip _ _ v1 M44 P51 q52) my_X11_isShip ml_RX11_106 ni_X11_isShip kd_0 rfl lz_0 rfl (Nat.le_trans (by decide) hh) (by decide) (Nat.le_of_ble_eq_true rfl) rfl dX11_leg_63 (fun v Z' hq => ?_)
            obtain ⟨r53, M54, rfl, rfl, hq⟩ := hq
            have h := h r53 M54 hq
            dsimp only at h
            obtain ⟨g55, h⟩ := h
            refine a_if_ne (tgt := 76) hΓ g55 dX11_leg_66 (by decide) (fun c56 => ?_) (fun c56 => ?_)
            · rw [if_pos c56] at h
              refine a_aload_n hΓ 0 dX11_leg_69 rfl rfl ?_
              refine a_bipush hΓ dX11_leg_70 (by decide) ?_
              obtain ⟨P57, q58, h⟩ := h
              refine n_callV (c := 0) (av := [aI (-2)]) (st := []) hΓ (ct_wX11_refuse _ _ (-2) M54 P57 q58) my_X11_refuse ml_RX11_83 ni_X11_refuse kd_0 rfl lz_0 rfl (Nat.le_trans (by decide) hh) (by decide) (Nat.le_of_ble_eq_true rfl) rfl dX11_leg_72 (fun v Z' hq => ?_)
              obtain ⟨r59, M60, rfl, rfl, hq⟩ := hq
              have h := h r59 M60 hq
              dsimp only at h
              exact a_iret hΓ hr dX11_leg_75 ⟨_, _, rfl, rfl, h⟩
            · rw [if_neg c56] at h
              refine a_aload_n hΓ 0 dX11_leg_76 rfl rfl ?_
              refine n_getR hΓ fl_RX11_10 cl_11 kd_0 lz_0 dX11_leg_77 ft_11_0 rf_0_0 ?_
              refine n_getR hΓ fl_RX11_109 cl_0 kd_1 lz_1 dX11_leg_80 ft_0_13 rf_1_13 ?_
              refine n_getI (x := (M54 8 0)) hΓ fl_RX11_113 cl_3 kd_8 lz_8 dX11_leg_83 (Or.inl ft_3_0) rfl ?_
              refine a_bipush hΓ dX11_leg_86 (by decide) ?_
              obtain ⟨g61, h⟩ := h
              refine a_icmp_lt (tgt := 98) hΓ g61 (inRl (by decide)) dX11_leg_88 (by decide) (fun c62 => ?_) (fun c62 => ?_)
              · rw [if_pos c62] at h
                refine a_aload_n hΓ 0 dX11_leg_98 rfl rfl ?_
                refine n_getR hΓ fl_RX11_10 cl_11 kd_0 lz_0 dX11_leg_99 ft_11_0 rf_0_0 ?_
                refine n_getR hΓ fl_RX11_109 cl_0 kd_1 lz_1 dX11_leg_102 ft_0_13 rf_1_13 ?_
                refine a_iload_n hΓ 1 dX11_leg_105 rfl rfl ?_
                refine a_iload_n hΓ 2 dX11_leg_106 rfl rfl ?_
                refine a_iload_n hΓ 3 dX11_leg_107 rfl rfl ?_
                refine a_iload hΓ 4 dX11_leg_108 rfl ?_
                refine a_iload hΓ 5 dX11_leg_110 rfl ?_
                refine a_iload hΓ 6 dX11_leg_112 rfl ?_
                obtain ⟨P63, q64, h⟩ := h
                refine n_callV (c := 8) (av := [aI v1, aI v2, aI v3, aI v4, aI v5, aI v6]) (st := []) hΓ (ct_wX3_append _ _ v1 v2 v3 v4 v5 v6 M54 P63 q64) my_X3_append ml_RX11_118 ni_X3_append kd_8 rfl lz_8 rfl (Nat.le_trans (by decide) hh) (by decide) (Nat.le_of_ble_eq_true rfl) rfl dX11_leg_114 (fun v Z' hq => ?_)
                obtain ⟨M66, rfl, rfl, hq⟩ := hq
                have h := h M66 hq
                dsimp only at h
                refine a_aload_n hΓ 0 dX11_leg_117 rfl rfl ?_
                refine a_aload_n hΓ 0 dX11_leg_118 rfl rfl ?_
                refine n_getR hΓ fl_RX11_10 cl_11 kd_0 lz_0 dX11_leg_119 ft_11_0 rf_0_0 ?_
                refine n_getR hΓ fl_RX11_109 cl_0 kd_1 lz_1 dX11_leg_122 ft_0_13 rf_1_13 ?_
                refine n_getI (x := (M66 8 0)) hΓ fl_RX11_113 cl_3 kd_8 lz_8 dX11_leg_125 (Or.inl ft_3_0) rfl ?_
                obtain ⟨P67, q68, h⟩ := h
                refine n_callV (c := 0) (av := [aI (M66 8 0)]) (st := []) hΓ (ct_wX11_accept _ _ (M66 8 0) M66 P67 q68) my_X11_accept ml_RX11_91 ni_X11_accept kd_0 rfl lz_0 rfl (Nat.le_trans (by decide) hh) (by decide) (Nat.le_of_ble_eq_true rfl) rfl dX11_leg_128 (fun v Z' hq => ?_)
                obtain ⟨r69, M70, rfl, rfl, hq⟩ := hq
                have h := h r69 M70 hq
                dsimp only at h
                exact a_iret hΓ hr dX11_leg_131 ⟨_, _, rfl, rfl, h⟩
              · rw [if_neg c62] at h
                refine a_aload_n hΓ 0 dX11_leg_91 rfl rfl ?_
                refine a_bipush hΓ dX11_leg_92 (by decide) ?_
                obtain ⟨P71, q72, h⟩ := h
                refine n_callV (c := 0) (av := [aI (-5)]) (st := []) hΓ (ct_wX11_refuse _ _ (-5) M54 P71 q72) my_X11_refuse ml_RX11_83 ni_X11_refuse kd_0 rfl lz_0 rfl (Nat.le_trans (by decide) hh) (by decide) (Nat.le_of_ble_eq_true rfl) rfl dX11_leg_94 (fun v Z' hq => ?_)
                obtain ⟨r73, M74, rfl, rfl, hq⟩ := hq
                have h := h r73 M74 hq
                dsimp only at h
                exact a_iret hΓ hr dX11_leg_97 ⟨_, _, rfl, rfl, h⟩
theorem ct_wX11_leg (l : Launch) (g : Gp) (v1 : Int) (v2 : Int) (v3 : Int) (v4 : Int) (v5 : Int) (v6 : Int) (M : Mm) (Q : Int → Mm → Prop) (h : wX11_leg v1 v2 v3 v4 v5 v6 M Q) : Ct l g yX11_leg cX11_leg 7 (some .int) 3 0 0 [aR 0, aI v1, aI v2, aI v3, aI v4, aI v5, aI v6] (NC, RF, M) (QI Q) :=
  ct_of (by decide) (Nat.le_of_ble_eq_true rfl) (fun Γ hg hl hr _ hΓ => by subst hg; subst hl; exact s_wX11_leg hΓ (by decide) hr v1 v2 v3 v4 v5 v6 M h)
def wX0_isCleaned_2 (Q : Int → Mm → Prop) (v1 : Int) (v2 : Int) : Nat → Int → Mm → Prop
  | 0, _, _ => False
  | f + 1, v3, M => (inR v3) ∧
    (inR (M 1 1)) ∧
    (if v3 < (M 1 1) then
      (0 ≤ v3 ∧ v3 < 40) ∧
      (inR (M 5 v3)) ∧
      (inR v1) ∧
      (if (M 5 v3) = v1 then
        (inR (M 6 v3)) ∧
        (inR v2) ∧
        (if (M 6 v3) = v2 then
          Q 1 M
        else
          (wX0_isCleaned_2 Q v1 v2 f) (v3 + 1) M)
      else
        (wX0_isCleaned_2 Q v1 v2 f) (v3 + 1) M)
    else
      Q 0 M)
set_option maxHeartbeats 4000000 in
theorem s_wX0_isCleaned_2 {Γ : Cx} {h : Nat} (hΓ : Ok Γ cX0_isCleaned RX0 4 h 0 0) (hh : 1 ≤ h) (hr : (cxm Γ).sig.returnType = (some .boolean)) {Q : Int → Mm → Prop} {v1 v2 : Int}   : ∀ (f : Nat) (v3 : Int) (M : Mm), wX0_isCleaned_2 Q v1 v2 f v3 M → Wa Γ 4 (Kf Γ (QI Q) 0 0) 0 0 2 [(0, aR 1), (1, aI v1), (2, aI v2), (3, aI v3)] [] (NC, RF, M) := by
  intro f
  induction f with
  | zero => intro v3 M h; exact h.elim
  | succ f ih =>
    intro v3 M h
    unfold wX0_isCleaned_2 at h
    refine a_iload_n hΓ 3 dX0_isCleaned_2 rfl rfl ?_
    refine a_aload_n hΓ 0 dX0_isCleaned_3 rfl rfl ?_
    refine n_getI (x := (M 1 1)) hΓ fl_RX0_54 cl_0 kd_1 lz_1 dX0_isCleaned_4 (Or.inl ft_0_1) rfl ?_
    obtain ⟨g1, h⟩ := h
    obtain ⟨g2, h⟩ := h
    refine a_icmp_ge (tgt := 38) hΓ g1 g2 dX0_isCleaned_7 (by decide) (fun c3 => ?_) (fun c3 => ?_)
    · rw [if_pos c3] at h
      refine a_aload_n hΓ 0 dX0_isCleaned_10 rfl rfl ?_
      refine n_getR hΓ fl_RX0_31 cl_0 kd_1 lz_1 dX0_isCleaned_11 ft_0_10 rf_1_10 ?_
      refine a_iload_n hΓ 3 dX0_isCleaned_14 rfl rfl ?_
      obtain ⟨g4, h⟩ := h
      refine n_iald (x := (M 5 v3)) hΓ dX0_isCleaned_15 kd_5 lz_5 g4 rfl ?_
      refine a_iload_n hΓ 1 dX0_isCleaned_16 rfl rfl ?_
      obtain ⟨g5, h⟩ := h
      obtain ⟨g6, h⟩ := h
      refine a_icmp_ne (tgt := 32) hΓ g5 g6 dX0_isCleaned_17 (by decide) (fun c7 => ?_) (fun c7 => ?_)
      · rw [if_pos c7] at h
        refine a_aload_n hΓ 0 dX0_isCleaned_20 rfl rfl ?_
        refine n_getR hΓ fl_RX0_34 cl_0 kd_1 lz_1 dX0_isCleaned_21 ft_0_11 rf_1_11 ?_
        refine a_iload_n hΓ 3 dX0_isCleaned_24 rfl rfl ?_
        refine n_iald (x := (M 6 v3)) hΓ dX0_isCleaned_25 kd_6 lz_6 g4 rfl ?_
        refine a_iload_n hΓ 2 dX0_isCleaned_26 rfl rfl ?_
        obtain ⟨g8, h⟩ := h
        obtain ⟨g9, h⟩ := h
        refine a_icmp_ne (tgt := 32) hΓ g8 g9 dX0_isCleaned_27 (by decide) (fun c10 => ?_) (fun c10 => ?_)
        · rw [if_pos c10] at h
          refine a_iconst hΓ dX0_isCleaned_30 ?_
          exact a_zret hΓ hr (Or.inr rfl) dX0_isCleaned_31 ⟨_, _, rfl, rfl, h⟩
        · rw [if_neg c10] at h
          refine a_iinc (ls' := [(3, aI (v3 + 1)), (0, aR 1), (1, aI v1), (2, aI v2)]) hΓ 3 dX0_isCleaned_32 rfl (by decide) rfl ?_
          refine a_goto (tgt := 2) hΓ dX0_isCleaned_35 (by decide) ?_
          refine a_sub (ls' := [(0, aR 1), (1, aI v1), (2, aI v2), (3, aI (v3 + 1))]) [1, 2, 3, 0] rfl ?_
          exact ih (v3 + 1) M h
      · rw [if_neg c7] at h
        refine a_iinc (ls' := [(3, aI (v3 + 1)), (0, aR 1), (1, aI v1), (2, aI v2)]) hΓ 3 dX0_isCleaned_32 rfl (by decide) rfl ?_
        refine a_goto (tgt := 2) hΓ dX0_isCleaned_35 (by decide) ?_
        refine a_sub (ls' := [(0, aR 1), (1, aI v1), (2, aI v2), (3, aI (v3 + 1))]) [1, 2, 3, 0] rfl ?_
        exact ih (v3 + 1) M h
    · rw [if_neg c3] at h
      refine a_iconst hΓ dX0_isCleaned_38 ?_
      exact a_zret hΓ hr (Or.inl rfl) dX0_isCleaned_39 ⟨_, _, rfl, rfl, h⟩
def wX0_isCleaned (v1 : Int) (v2 : Int) (M : Mm) (Q : Int → Mm → Prop) : Prop :=
    ∃ n, wX0_isCleaned_2 Q v1 v2 n 0 M
set_option maxHeartbeats 4000000 in
theorem s_wX0_isCleaned {Γ : Cx} {h : Nat} (hΓ : Ok Γ cX0_isCleaned RX0 4 h 0 0) (hh : 1 ≤ h) (hr : (cxm Γ).sig.returnType = (some .boolean)) {Q : Int → Mm → Prop} (v1 : Int) (v2 : Int) (M : Mm) (h : wX0_isCleaned v1 v2 M Q) : Wa Γ 4 (Kf Γ (QI Q) 0 0) 0 0 0 [(0, aR 1), (1, aI v1), (2, aI v2)] [] (NC, RF, M) := by
  unfold wX0_isCleaned at h
  refine a_iconst hΓ dX0_isCleaned_0 ?_
  refine a_istore_n (ls' := [(3, aI 0), (0, aR 1), (1, aI v1), (2, aI v2)]) hΓ dX0_isCleaned_1 rfl (by decide) rfl ?_
  refine a_sub (ls' := [(0, aR 1), (1, aI v1), (2, aI v2), (3, aI 0)]) [1, 2, 3, 0] rfl ?_
  obtain ⟨f1, h⟩ := h
  exact s_wX0_isCleaned_2 hΓ (Nat.le_trans (by decide) hh) hr  f1 0 M h
theorem ct_wX0_isCleaned (l : Launch) (g : Gp) (v1 : Int) (v2 : Int) (M : Mm) (Q : Int → Mm → Prop) (h : wX0_isCleaned v1 v2 M Q) : Ct l g yX0_isCleaned cX0_isCleaned 4 (some .boolean) 1 0 0 [aR 1, aI v1, aI v2] (NC, RF, M) (QI Q) :=
  ct_of (by decide) (Nat.le_of_ble_eq_true rfl) (fun Γ hg hl hr _ hΓ => by subst hg; subst hl; exact s_wX0_isCleaned hΓ (by decide) hr v1 v2 M h)
def wX0_addCleaning (v1 : Int) (v2 : Int) (v3 : Int) (M : Mm) (Q : Mm → Prop) : Prop :=
    (0 ≤ (M 1 1) ∧ (M 1 1) < 40) ∧
    Q (up (up (up (up M 5 (M 1 1) v1) 6 (M 1 1) v2) 7 (M 1 1) v3) 1 1 ((M 1 1) + 1))
set_option maxHeartbeats 4000000 in
theorem s_wX0_addCleaning {Γ : Cx} {h : Nat} (hΓ : Ok Γ cX0_addCleaning RX0 4 h 0 0) (hh : 1 ≤ h) (hr : (cxm Γ).sig.returnType = none) {Q : Mm → Prop} (v1 : Int) (v2 : Int) (v3 : Int) (M : Mm) (h : wX0_addCleaning v1 v2 v3 M Q) : Wa Γ 4 (Kf Γ (QV Q) 0 0) 0 0 0 [(0, aR 1), (1, aI v1), (2, aI v2), (3, aI v3)] [] (NC, RF, M) := by
  unfold wX0_addCleaning at h
  refine a_aload_n hΓ 0 dX0_addCleaning_0 rfl rfl ?_
  refine n_getR hΓ fl_RX0_31 cl_0 kd_1 lz_1 dX0_addCleaning_1 ft_0_10 rf_1_10 ?_
  refine a_aload_n hΓ 0 dX0_addCleaning_4 rfl rfl ?_
  refine n_getI (x := (M 1 1)) hΓ fl_RX0_54 cl_0 kd_1 lz_1 dX0_addCleaning_5 (Or.inl ft_0_1) rfl ?_
  refine a_iload_n hΓ 1 dX0_addCleaning_8 rfl rfl ?_
  obtain ⟨g1, h⟩ := h
  refine a_iast hΓ dX0_addCleaning_9 kd_5 lz_5 g1 ?_
  refine a_aload_n hΓ 0 dX0_addCleaning_10 rfl rfl ?_
  refine n_getR hΓ fl_RX0_34 cl_0 kd_1 lz_1 dX0_addCleaning_11 ft_0_11 rf_1_11 ?_
  refine a_aload_n hΓ 0 dX0_addCleaning_14 rfl rfl ?_
  refine n_getI (x := (M 1 1)) hΓ fl_RX0_54 cl_0 kd_1 lz_1 dX0_addCleaning_15 (Or.inl ft_0_1) rfl ?_
  refine a_iload_n hΓ 2 dX0_addCleaning_18 rfl rfl ?_
  refine a_iast hΓ dX0_addCleaning_19 kd_6 lz_6 g1 ?_
  refine a_aload_n hΓ 0 dX0_addCleaning_20 rfl rfl ?_
  refine n_getR hΓ fl_RX0_37 cl_0 kd_1 lz_1 dX0_addCleaning_21 ft_0_12 rf_1_12 ?_
  refine a_aload_n hΓ 0 dX0_addCleaning_24 rfl rfl ?_
  refine n_getI (x := (M 1 1)) hΓ fl_RX0_54 cl_0 kd_1 lz_1 dX0_addCleaning_25 (Or.inl ft_0_1) rfl ?_
  refine a_iload_n hΓ 3 dX0_addCleaning_28 rfl rfl ?_
  refine a_iast hΓ dX0_addCleaning_29 kd_7 lz_7 g1 ?_
  refine a_aload_n hΓ 0 dX0_addCleaning_30 rfl rfl ?_
  refine a_dupR hΓ dX0_addCleaning_31 ?_
  refine n_getI (x := (M 1 1)) hΓ fl_RX0_54 cl_0 kd_1 lz_1 dX0_addCleaning_32 (Or.inl ft_0_1) rfl ?_
  refine a_iconst hΓ dX0_addCleaning_35 ?_
  refine a_iadd hΓ dX0_addCleaning_36 ?_
  refine n_putI (j := 1) hΓ fl_RX0_54 cl_0 nf_0_1 kd_1 lz_1 dX0_addCleaning_37 (Or.inl ft_0_1) rfl ?_
  exact a_vret hΓ hr dX0_addCleaning_40 ⟨_, rfl, rfl, h⟩
theorem ct_wX0_addCleaning (l : Launch) (g : Gp) (v1 : Int) (v2 : Int) (v3 : Int) (M : Mm) (Q : Mm → Prop) (h : wX0_addCleaning v1 v2 v3 M Q) : Ct l g yX0_addCleaning cX0_addCleaning 4 none 1 0 0 [aR 1, aI v1, aI v2, aI v3] (NC, RF, M) (QV Q) :=
  ct_of (by decide) (Nat.le_of_ble_eq_true rfl) (fun Γ hg hl hr _ hΓ => by subst hg; subst hl; exact s_wX0_addCleaning hΓ (by decide) hr v1 v2 v3 M h)
def wX11_cleaned (v1 : Int) (v2 : Int) (v3 : Int) (M : Mm) (Q : Int → Mm → Prop) : Prop :=
    Bd (wX11_isDay v2 M) (fun r3 M4 =>
    (inR r3) ∧
    (if r3 = 0 then
      Bd (wX11_refuse (-1) M4) (fun r9 M10 =>
      Q r9 M10)
    else
      Bd (wX11_within v3 0 1000 M4) (fun r13 M14 =>
      (inR r13) ∧
      (if r13 = 0 then
        Bd (wX11_refuse (-1) M14) (fun r19 M20 =>
        Q r19 M20)
      else
        Bd (wX11_isShip v1 M14) (fun r23 M24 =>
        (inR r23) ∧
        (if r23 = 0 then
          Bd (wX11_refuse (-2) M24) (fun r29 M30 =>
          Q r29 M30)
        else
          Bd (wX0_isCleaned v1 v2 M24) (fun r33 M34 =>
          (inR r33) ∧
          (if r33 = 0 then
            (inR (M34 1 1)) ∧
            (if (M34 1 1) < 40 then
              Bv (wX0_addCleaning v1 v2 v3 M34) (fun M42 =>
              Bd (wX11_accept (M42 1 1) M42) (fun r45 M46 =>
              Q r45 M46))
            else
              Bd (wX11_refuse (-5) M34) (fun r49 M50 =>
              Q r49 M50))
          else
            Bd (wX11_refuse (-4) M34) (fun r53 M54 =>
            Q r53 M54)))))))))
set_option maxHeartbeats 4000000 in
theorem s_wX11_cleaned {Γ : Cx} {h : Nat} (hΓ : Ok Γ cX11_cleaned RX11 4 h 0 0) (hh : 3 ≤ h) (hr : (cxm Γ).sig.returnType = (some .int)) {Q : Int → Mm → Prop} (v1 : Int) (v2 : Int) (v3 : Int) (M : Mm) (h : wX11_cleaned v1 v2 v3 M Q) : Wa Γ 4 (Kf Γ (QI Q) 0 0) 0 0 0 [(0, aR 0), (1, aI v1), (2, aI v2), (3, aI v3)] [] (NC, RF, M) := by
  unfold wX11_cleaned at h
  refine a_iload_n hΓ 2 dX11_cleaned_0 rfl rfl ?_
  obtain ⟨P1, q2, h⟩ := h
  refine n_callS (av := [aI v2]) (st := []) hΓ (ct_wX11_isDay _ _ v2 M P1 q2) my_X11_isDay ml_RX11_102 rfl (Nat.le_trans (by decide) hh) (by decide) (Nat.le_of_ble_eq_true rfl) rfl dX11_cleaned_1 (fun v Z' hq => ?_)
  obtain ⟨r3, M4, rfl, rfl, hq⟩ := hq
  have h := h r3 M4 hq
  dsimp only at h
  obtain ⟨g5, h⟩ := h
  refine a_if_eq (tgt := 18) hΓ g5 dX11_cleaned_4 (by decide) (fun c6 => ?_) (fun c6 => ?_)
  · rw [if_pos c6] at h
    refine a_aload_n hΓ 0 dX11_cleaned_18 rfl rfl ?_
    refine a_iconst hΓ dX11_cleaned_19 ?_
    obtain ⟨P7, q8, h⟩ := h
    refine n_callV (c := 0) (av := [aI (-1)]) (st := []) hΓ (ct_wX11_refuse _ _ (-1) M4 P7 q8) my_X11_refuse ml_RX11_83 ni_X11_refuse kd_0 rfl lz_0 rfl (Nat.le_trans (by decide) hh) (by decide) (Nat.le_of_ble_eq_true rfl) rfl dX11_cleaned_20 (fun v Z' hq => ?_)
    obtain ⟨r9, M10, rfl, rfl, hq⟩ := hq
    have h := h r9 M10 hq
    dsimp only at h
    exact a_iret hΓ hr dX11_cleaned_23 ⟨_, _, rfl, rfl, h⟩
  · rw [if_neg c6] at h
    refine a_iload_n hΓ 3 dX11_cleaned_7 rfl rfl ?_
    refine a_iconst hΓ dX11_cleaned_8 ?_
    refine a_sipush hΓ dX11_cleaned_9 (by decide) ?_
    obtain ⟨P11, q12, h⟩ := h
    refine n_callS (av := [aI v3, aI 0, aI 1000]) (st := []) hΓ (ct_wX11_within _ _ v3 0 1000 M4 P11 q12) my_X11_within ml_RX11_79 rfl (Nat.le_trans (by decide) hh) (by decide) (Nat.le_of_ble_eq_true rfl) rfl dX11_cleaned_12 (fun v Z' hq => ?_)
    obtain ⟨r13, M14, rfl, rfl, hq⟩ := hq
    have h := h r13 M14 hq
    dsimp only at h
    obtain ⟨g15, h⟩ := h
    refine a_if_ne (tgt := 24) hΓ g15 dX11_cleaned_15 (by decide) (fun c16 => ?_) (fun c16 => ?_)
    · rw [if_pos c16] at h
      refine a_aload_n hΓ 0 dX11_cleaned_18 rfl rfl ?_
      refine a_iconst hΓ dX11_cleaned_19 ?_
      obtain ⟨P17, q18, h⟩ := h
      refine n_callV (c := 0) (av := [aI (-1)]) (st := []) hΓ (ct_wX11_refuse _ _ (-1) M14 P17 q18) my_X11_refuse ml_RX11_83 ni_X11_refuse kd_0 rfl lz_0 rfl (Nat.le_trans (by decide) hh) (by decide) (Nat.le_of_ble_eq_true rfl) rfl dX11_cleaned_20 (fun v Z' hq => ?_)
      obtain ⟨r19, M20, rfl, rfl, hq⟩ := hq
      have h := h r19 M20 hq
      dsimp only at h
      exact a_iret hΓ hr dX11_cleaned_23 ⟨_, _, rfl, rfl, h⟩
    · rw [if_neg c16] at h
      refine a_aload_n hΓ 0 dX11_cleaned_24 rfl rfl ?_
      refine a_iload_n hΓ 1 dX11_cleaned_25 rfl rfl ?_
      obtain ⟨P21, q22, h⟩ := h
      refine n_callV (c := 0) (av := [aI v1]) (st := []) hΓ (ct_wX11_isShip _ _ v1 M14 P21 q22) my_X11_isShip ml_RX11_106 ni_X11_isShip kd_0 rfl lz_0 rfl (Nat.le_trans (by decide) hh) (by decide) (Nat.le_of_ble_eq_true rfl) rfl dX11_cleaned_26 (fun v Z' hq => ?_)
      obtain ⟨r23, M24, rfl, rfl, hq⟩ := hq
      have h := h r23 M24 hq
      dsimp only at h
      obtain ⟨g25, h⟩ := h
      refine a_if_ne (tgt := 39) hΓ g25 dX11_cleaned_29 (by decide) (fun c26 => ?_) (fun c26 => ?_)
      · rw [if_pos c26] at h
        refine a_aload_n hΓ 0 dX11_cleaned_32 rfl rfl ?_
        refine a_bipush hΓ dX11_cleaned_33 (by decide) ?_
        obtain ⟨P27, q28, h⟩ := h
        refine n_callV (c := 0) (av := [aI (-2)]) (st := []) hΓ (ct_wX11_refuse _ _ (-2) M24 P27 q28) my_X11_refuse ml_RX11_83 ni_X11_refuse kd_0 rfl lz_0 rfl (Nat.le_trans (by decide) hh) (by decide) (Nat.le_of_ble_eq_true rfl) rfl dX11_cleaned_35 (fun v Z' hq => ?_)
        obtain ⟨r29, M30, rfl, rfl, hq⟩ := hq
        have h := h r29 M30 hq
        dsimp only at h
        exact a_iret hΓ hr dX11_cleaned_38 ⟨_, _, rfl, rfl, h⟩
      · rw [if_neg c26] at h
        refine a_aload_n hΓ 0 dX11_cleaned_39 rfl rfl ?_
        refine n_getR hΓ fl_RX11_10 cl_11 kd_0 lz_0 dX11_cleaned_40 ft_11_0 rf_0_0 ?_
        refine a_iload_n hΓ 1 dX11_cleaned_43 rfl rfl ?_
        refine a_iload_n hΓ 2 dX11_cleaned_44 rfl rfl ?_
        obtain ⟨P31, q32, h⟩ := h
        refine n_callV (c := 1) (av := [aI v1, aI v2]) (st := []) hΓ (ct_wX0_isCleaned _ _ v1 v2 M24 P31 q32) my_X0_isCleaned ml_RX11_122 ni_X0_isCleaned kd_1 rfl lz_1 rfl (Nat.le_trans (by decide) hh) (by decide) (Nat.le_of_ble_eq_true rfl) rfl dX11_cleaned_45 (fun v Z' hq => ?_)
        obtain ⟨r33, M34, rfl, rfl, hq⟩ := hq
        have h := h r33 M34 hq
        dsimp only at h
        obtain ⟨g35, h⟩ := h
        refine a_if_eq (tgt := 58) hΓ g35 dX11_cleaned_48 (by decide) (fun c36 => ?_) (fun c36 => ?_)
        · rw [if_pos c36] at h
          refine a_aload_n hΓ 0 dX11_cleaned_58 rfl rfl ?_
          refine n_getR hΓ fl_RX11_10 cl_11 kd_0 lz_0 dX11_cleaned_59 ft_11_0 rf_0_0 ?_
          refine n_getI (x := (M34 1 1)) hΓ fl_RX11_126 cl_0 kd_1 lz_1 dX11_cleaned_62 (Or.inl ft_0_1) rfl ?_
          refine a_bipush hΓ dX11_cleaned_65 (by decide) ?_
          obtain ⟨g37, h⟩ := h
          refine a_icmp_lt (tgt := 77) hΓ g37 (inRl (by decide)) dX11_cleaned_67 (by decide) (fun c38 => ?_) (fun c38 => ?_)
          · rw [if_pos c38] at h
            refine a_aload_n hΓ 0 dX11_cleaned_77 rfl rfl ?_
            refine n_getR hΓ fl_RX11_10 cl_11 kd_0 lz_0 dX11_cleaned_78 ft_11_0 rf_0_0 ?_
            refine a_iload_n hΓ 1 dX11_cleaned_81 rfl rfl ?_
            refine a_iload_n hΓ 2 dX11_cleaned_82 rfl rfl ?_
            refine a_iload_n hΓ 3 dX11_cleaned_83 rfl rfl ?_
            obtain ⟨P39, q40, h⟩ := h
            refine n_callV (c := 1) (av := [aI v1, aI v2, aI v3]) (st := []) hΓ (ct_wX0_addCleaning _ _ v1 v2 v3 M34 P39 q40) my_X0_addCleaning ml_RX11_129 ni_X0_addCleaning kd_1 rfl lz_1 rfl (Nat.le_trans (by decide) hh) (by decide) (Nat.le_of_ble_eq_true rfl) rfl dX11_cleaned_84 (fun v Z' hq => ?_)
            obtain ⟨M42, rfl, rfl, hq⟩ := hq
            have h := h M42 hq
            dsimp only at h
            refine a_aload_n hΓ 0 dX11_cleaned_87 rfl rfl ?_
            refine a_aload_n hΓ 0 dX11_cleaned_88 rfl rfl ?_
            refine n_getR hΓ fl_RX11_10 cl_11 kd_0 lz_0 dX11_cleaned_89 ft_11_0 rf_0_0 ?_
            refine n_getI (x := (M42 1 1)) hΓ fl_RX11_126 cl_0 kd_1 lz_1 dX11_cleaned_92 (Or.inl ft_0_1) rfl ?_
            obtain ⟨P43, q44, h⟩ := h
            refine n_callV (c := 0) (av := [aI (M42 1 1)]) (st := []) hΓ (ct_wX11_accept _ _ (M42 1 1) M42 P43 q44) my_X11_accept ml_RX11_91 ni_X11_accept kd_0 rfl lz_0 rfl (Nat.le_trans (by decide) hh) (by decide) (Nat.le_of_ble_eq_true rfl) rfl dX11_cleaned_95 (fun v Z' hq => ?_)
            obtain ⟨r45, M46, rfl, rfl, hq⟩ := hq
            have h := h r45 M46 hq
            dsimp only at h
            exact a_iret hΓ hr dX11_cleaned_98 ⟨_, _, rfl, rfl, h⟩
          · rw [if_neg c38] at h
            refine a_aload_n hΓ 0 dX11_cleaned_70 rfl rfl ?_
            refine a_bipush hΓ dX11_cleaned_71 (by decide) ?_
            obtain ⟨P47, q48, h⟩ := h
            refine n_callV (c := 0) (av := [aI (-5)]) (st := []) hΓ (ct_wX11_refuse _ _ (-5) M34 P47 q48) my_X11_refuse ml_RX11_83 ni_X11_refuse kd_0 rfl lz_0 rfl (Nat.le_trans (by decide) hh) (by decide) (Nat.le_of_ble_eq_true rfl) rfl dX11_cleaned_73 (fun v Z' hq => ?_)
            obtain ⟨r49, M50, rfl, rfl, hq⟩ := hq
            have h := h r49 M50 hq
            dsimp only at h
            exact a_iret hΓ hr dX11_cleaned_76 ⟨_, _, rfl, rfl, h⟩
        · rw [if_neg c36] at h
          refine a_aload_n hΓ 0 dX11_cleaned_51 rfl rfl ?_
          refine a_bipush hΓ dX11_cleaned_52 (by decide) ?_
          obtain ⟨P51, q52, h⟩ := h
          refine n_callV (c := 0) (av := [aI (-4)]) (st := []) hΓ (ct_wX11_refuse _ _ (-4) M34 P51 q52) my_X11_refuse ml_RX11_83 ni_X11_refuse kd_0 rfl lz_0 rfl (Nat.le_trans (by decide) hh) (by decide) (Nat.le_of_ble_eq_true rfl) rfl dX11_cleaned_54 (fun v Z' hq => ?_)
          obtain ⟨r53, M54, rfl, rfl, hq⟩ := hq
          have h := h r53 M54 hq
          dsimp only at h
          exact a_iret hΓ hr dX11_cleaned_57 ⟨_, _, rfl, rfl, h⟩
theorem ct_wX11_cleaned (l : Launch) (g : Gp) (v1 : Int) (v2 : Int) (v3 : Int) (M : Mm) (Q : Int → Mm → Prop) (h : wX11_cleaned v1 v2 v3 M Q) : Ct l g yX11_cleaned cX11_cleaned 4 (some .int) 3 0 0 [aR 0, aI v1, aI v2, aI v3] (NC, RF, M) (QI Q) :=
  ct_of (by decide) (Nat.le_of_ble_eq_true rfl) (fun Γ hg hl hr _ hΓ => by subst hg; subst hl; exact s_wX11_cleaned hΓ (by decide) hr v1 v2 v3 M h)
def wX11_terms (v1 : Int) (v2 : Int) (M : Mm) (Q : Int → Mm → Prop) : Prop :=
    Bd (wX11_within v1 0 1000 M) (fun r3 M4 =>
    (inR r3) ∧
    (if r3 = 0 then
      Bd (wX11_refuse (-1) M4) (fun r9 M10 =>
      Q r9 M10)
    else
      Bd (wX11_within v2 0 100000 M4) (fun r13 M14 =>
      (inR r13) ∧
      (if r13 = 0 then
        Bd (wX11_refuse (-1) M14) (fun r19 M20 =>
        Q r19 M20)
      else
        Bd (wX11_accept 0 (up (up M14 1 2 v1) 1 3 v2)) (fun r23 M24 =>
        Q r23 M24)))))
set_option maxHeartbeats 4000000 in
theorem s_wX11_terms {Γ : Cx} {h : Nat} (hΓ : Ok Γ cX11_terms RX11 3 h 0 0) (hh : 2 ≤ h) (hr : (cxm Γ).sig.returnType = (some .int)) {Q : Int → Mm → Prop} (v1 : Int) (v2 : Int) (M : Mm) (h : wX11_terms v1 v2 M Q) : Wa Γ 3 (Kf Γ (QI Q) 0 0) 0 0 0 [(0, aR 0), (1, aI v1), (2, aI v2)] [] (NC, RF, M) := by
  unfold wX11_terms at h
  refine a_iload_n hΓ 1 dX11_terms_0 rfl rfl ?_
  refine a_iconst hΓ dX11_terms_1 ?_
  refine a_sipush hΓ dX11_terms_2 (by decide) ?_
  obtain ⟨P1, q2, h⟩ := h
  refine n_callS (av := [aI v1, aI 0, aI 1000]) (st := []) hΓ (ct_wX11_within _ _ v1 0 1000 M P1 q2) my_X11_within ml_RX11_79 rfl (Nat.le_trans (by decide) hh) (by decide) (Nat.le_of_ble_eq_true rfl) rfl dX11_terms_5 (fun v Z' hq => ?_)
  obtain ⟨r3, M4, rfl, rfl, hq⟩ := hq
  have h := h r3 M4 hq
  dsimp only at h
  obtain ⟨g5, h⟩ := h
  refine a_if_eq (tgt := 21) hΓ g5 dX11_terms_8 (by decide) (fun c6 => ?_) (fun c6 => ?_)
  · rw [if_pos c6] at h
    refine a_aload_n hΓ 0 dX11_terms_21 rfl rfl ?_
    refine a_iconst hΓ dX11_terms_22 ?_
    obtain ⟨P7, q8, h⟩ := h
    refine n_callV (c := 0) (av := [aI (-1)]) (st := []) hΓ (ct_wX11_refuse _ _ (-1) M4 P7 q8) my_X11_refuse ml_RX11_83 ni_X11_refuse kd_0 rfl lz_0 rfl (Nat.le_trans (by decide) hh) (by decide) (Nat.le_of_ble_eq_true rfl) rfl dX11_terms_23 (fun v Z' hq => ?_)
    obtain ⟨r9, M10, rfl, rfl, hq⟩ := hq
    have h := h r9 M10 hq
    dsimp only at h
    exact a_iret hΓ hr dX11_terms_26 ⟨_, _, rfl, rfl, h⟩
  · rw [if_neg c6] at h
    refine a_iload_n hΓ 2 dX11_terms_11 rfl rfl ?_
    refine a_iconst hΓ dX11_terms_12 ?_
    refine a_ldc hΓ gc_RX11_132 dX11_terms_13 ?_
    obtain ⟨P11, q12, h⟩ := h
    refine n_callS (av := [aI v2, aI 0, aI 100000]) (st := []) hΓ (ct_wX11_within _ _ v2 0 100000 M4 P11 q12) my_X11_within ml_RX11_79 rfl (Nat.le_trans (by decide) hh) (by decide) (Nat.le_of_ble_eq_true rfl) rfl dX11_terms_15 (fun v Z' hq => ?_)
    obtain ⟨r13, M14, rfl, rfl, hq⟩ := hq
    have h := h r13 M14 hq
    dsimp only at h
    obtain ⟨g15, h⟩ := h
    refine a_if_ne (tgt := 27) hΓ g15 dX11_terms_18 (by decide) (fun c16 => ?_) (fun c16 => ?_)
    · rw [if_pos c16] at h
      refine a_aload_n hΓ 0 dX11_terms_21 rfl rfl ?_
      refine a_iconst hΓ dX11_terms_22 ?_
      obtain ⟨P17, q18, h⟩ := h
      refine n_callV (c := 0) (av := [aI (-1)]) (st := []) hΓ (ct_wX11_refuse _ _ (-1) M14 P17 q18) my_X11_refuse ml_RX11_83 ni_X11_refuse kd_0 rfl lz_0 rfl (Nat.le_trans (by decide) hh) (by decide) (Nat.le_of_ble_eq_true rfl) rfl dX11_terms_23 (fun v Z' hq => ?_)
      obtain ⟨r19, M20, rfl, rfl, hq⟩ := hq
      have h := h r19 M20 hq
      dsimp only at h
      exact a_iret hΓ hr dX11_terms_26 ⟨_, _, rfl, rfl, h⟩
    · rw [if_neg c16] at h
      refine a_aload_n hΓ 0 dX11_terms_27 rfl rfl ?_
      refine n_getR hΓ fl_RX11_10 cl_11 kd_0 lz_0 dX11_terms_28 ft_11_0 rf_0_0 ?_
      refine a_iload_n hΓ 1 dX11_terms_31 rfl rfl ?_
      refine n_putI (j := 2) hΓ fl_RX11_133 cl_0 nf_0_2 kd_1 lz_1 dX11_terms_32 (Or.inl ft_0_2) rfl ?_
      refine a_aload_n hΓ 0 dX11_terms_35 rfl rfl ?_
      refine n_getR hΓ fl_RX11_10 cl_11 kd_0 lz_0 dX11_terms_36 ft_11_0 rf_0_0 ?_
      refine a_iload_n hΓ 2 dX11_terms_39 rfl rfl ?_
      refine n_putI (j := 3) hΓ fl_RX11_136 cl_0 nf_0_3 kd_1 lz_1 dX11_terms_40 (Or.inl ft_0_3) rfl ?_
      refine a_aload_n hΓ 0 dX11_terms_43 rfl rfl ?_
      refine a_iconst hΓ dX11_terms_44 ?_
      obtain ⟨P21, q22, h⟩ := h
      refine n_callV (c := 0) (av := [aI 0]) (st := []) hΓ (ct_wX11_accept _ _ 0 (up (up M14 1 2 v1) 1 3 v2) P21 q22) my_X11_accept ml_RX11_91 ni_X11_accept kd_0 rfl lz_0 rfl (Nat.le_trans (by decide) hh) (by decide) (Nat.le_of_ble_eq_true rfl) rfl dX11_terms_45 (fun v Z' hq => ?_)
      obtain ⟨r23, M24, rfl, rfl, hq⟩ := hq
      have h := h r23 M24 hq
      dsimp only at h
      exact a_iret hΓ hr dX11_terms_48 ⟨_, _, rfl, rfl, h⟩
theorem ct_wX11_terms (l : Launch) (g : Gp) (v1 : Int) (v2 : Int) (M : Mm) (Q : Int → Mm → Prop) (h : wX11_terms v1 v2 M Q) : Ct l g yX11_terms cX11_terms 3 (some .int) 2 0 0 [aR 0, aI v1, aI v2] (NC, RF, M) (QI Q) :=
  ct_of (by decide) (Nat.le_of_ble_eq_true rfl) (fun Γ hg hl hr _ hΓ => by subst hg; subst hl; exact s_wX11_terms hΓ (by decide) hr v1 v2 M h)
def wX6_findLegs_72 (Q : Mm → Prop) : Nat → Int → Mm → Prop
  | 0, _, _ => False
  | f + 1, v2, M => (inR v2) ∧
    (if v2 < 120 then
      (0 ≤ v2 ∧ v2 < 120) ∧
      (inR (M 73 v2)) ∧
      (if (M 73 v2) = (-1) then
        (0 ≤ (v2 - 1) ∧ (v2 - 1) < 120) ∧
        (wX6_findLegs_72 Q f) (v2 + 1) (up M 73 v2 (M 73 (v2 - 1)))
      else
        (wX6_findLegs_72 Q f) (v2 + 1) M)
    else
      Q M)
set_option maxHeartbeats 4000000 in
theorem s_wX6_findLegs_72 {Γ : Cx} {h : Nat} (hΓ : Ok Γ cX6_findLegs RX6 3 h 0 0) (hh : 1 ≤ h) (hr : (cxm Γ).sig.returnType = none) {Q : Mm → Prop}   : ∀ (f : Nat) (v2 : Int) (M : Mm), wX6_findLegs_72 Q  f v2 M → Wa Γ 3 (Kf Γ (QV Q) 0 0) 0 0 72 [(0, aR 72), (2, aI v2)] [] (NC, RF, M) := by
  intro f
  induction f with
  | zero => intro v2 M h; exact h.elim
  | succ f ih =>
    intro v2 M h
    unfold wX6_findLegs_72 at h
    refine a_iload_n hΓ 1 dX6_findLegs_72 rfl rfl ?_
    refine a_bipush hΓ dX6_findLegs_73 (by decide) ?_
    obtain ⟨g1, h⟩ := h
    refine a_icmp_ge (tgt := 108) hΓ g1 (inRl (by decide)) dX6_findLegs_75 (by decide) (fun c2 => ?_) (fun c2 => ?_)
    · rw [if_pos c2] at h
      refine a_aload_n hΓ 0 dX6_findLegs_78 rfl rfl ?_
      refine n_getR hΓ fl_RX6_9 cl_6 kd_72 lz_72 dX6_findLegs_79 ft_6_2 rf_72_2 ?_
      refine a_iload_n hΓ 1 dX6_findLegs_82 rfl rfl ?_
      obtain ⟨g3, h⟩ := h
      refine n_iald (x := (M 73 v2)) hΓ dX6_findLegs_83 kd_73 lz_73 g3 rfl ?_
      refine a_iconst hΓ dX6_findLegs_84 ?_
      obtain ⟨g4, h⟩ := h
      refine a_icmp_ne (tgt := 102) hΓ g4 (inRl (by decide)) dX6_findLegs_85 (by decide) (fun c5 => ?_) (fun c5 => ?_)
      · rw [if_pos c5] at h
        refine a_aload_n hΓ 0 dX6_findLegs_88 rfl rfl ?_
        refine n_getR hΓ fl_RX6_9 cl_6 kd_72 lz_72 dX6_findLegs_89 ft_6_2 rf_72_2 ?_
        refine a_iload_n hΓ 1 dX6_findLegs_92 rfl rfl ?_
        refine a_aload_n hΓ 0 dX6_findLegs_93 rfl rfl ?_
        refine n_getR hΓ fl_RX6_9 cl_6 kd_72 lz_72 dX6_findLegs_94 ft_6_2 rf_72_2 ?_
        refine a_iload_n hΓ 1 dX6_findLegs_97 rfl rfl ?_
        refine a_iconst hΓ dX6_findLegs_98 ?_
        refine a_isub hΓ dX6_findLegs_99 ?_
        obtain ⟨g6, h⟩ := h
        refine n_iald (x := (M 73 (v2 - 1))) hΓ dX6_findLegs_100 kd_73 lz_73 g6 rfl ?_
        refine a_iast hΓ dX6_findLegs_101 kd_73 lz_73 g3 ?_
        refine a_iinc (ls' := [(2, aI (v2 + 1)), (0, aR 72)]) hΓ 1 dX6_findLegs_102 rfl (by decide) rfl ?_
        refine a_goto (tgt := 72) hΓ dX6_findLegs_105 (by decide) ?_
        refine a_sub (ls' := [(0, aR 72), (2, aI (v2 + 1))]) [1, 0] rfl ?_
        exact ih (v2 + 1) (up M 73 v2 (M 73 (v2 - 1))) h
      · rw [if_neg c5] at h
        refine a_iinc (ls' := [(2, aI (v2 + 1)), (0, aR 72)]) hΓ 1 dX6_findLegs_102 rfl (by decide) rfl ?_
        refine a_goto (tgt := 72) hΓ dX6_findLegs_105 (by decide) ?_
        refine a_sub (ls' := [(0, aR 72), (2, aI (v2 + 1))]) [1, 0] rfl ?_
        exact ih (v2 + 1) M h
    · rw [if_neg c2] at h
      exact a_vret hΓ hr dX6_findLegs_108 ⟨_, rfl, rfl, h⟩
def wX6_findLegs_31 (Q : Mm → Prop) : Nat → Int → Mm → Prop
  | 0, _, _ => False
  | f + 1, v2, M => (inR v2) ∧
    (inR (M 8 0)) ∧
    (if v2 < (M 8 0) then
      (0 ≤ v2 ∧ v2 < 60) ∧
      (inR (M 9 v2)) ∧
      (inR (M 72 1)) ∧
      (if (M 9 v2) = (M 72 1) then
        (0 ≤ (M 10 v2) ∧ (M 10 v2) < 120) ∧
        (wX6_findLegs_31 Q f) (v2 + 1) (up M 73 (M 10 v2) v2)
      else
        (wX6_findLegs_31 Q f) (v2 + 1) M)
    else
      ∃ n, wX6_findLegs_72 Q n 1 M)
set_option maxHeartbeats 4000000 in
theorem s_wX6_findLegs_31 {Γ : Cx} {h : Nat} (hΓ : Ok Γ cX6_findLegs RX6 3 h 0 0) (hh : 1 ≤ h) (hr : (cxm Γ).sig.returnType = none) {Q : Mm → Prop}   : ∀ (f : Nat) (v2 : Int) (M : Mm), wX6_findLegs_31 Q  f v2 M → Wa Γ 3 (Kf Γ (QV Q) 0 0) 0 0 31 [(0, aR 72), (1, aR 8), (2, aI v2)] [] (NC, RF, M) := by
  intro f
  induction f with
  | zero => intro v2 M h; exact h.elim
  | succ f ih =>
    intro v2 M h
    unfold wX6_findLegs_31 at h
    refine a_iload_n hΓ 2 dX6_findLegs_31 rfl rfl ?_
    refine a_aload_n hΓ 1 dX6_findLegs_32 rfl rfl ?_
    refine n_getI (x := (M 8 0)) hΓ fl_RX6_69 cl_3 kd_8 lz_8 dX6_findLegs_33 (Or.inl ft_3_0) rfl ?_
    obtain ⟨g1, h⟩ := h
    obtain ⟨g2, h⟩ := h
    refine a_icmp_ge (tgt := 70) hΓ g1 g2 dX6_findLegs_36 (by decide) (fun c3 => ?_) (fun c3 => ?_)
    · rw [if_pos c3] at h
      refine a_aload_n hΓ 1 dX6_findLegs_39 rfl rfl ?_
      refine n_getR hΓ fl_RX6_74 cl_3 kd_8 lz_8 dX6_findLegs_40 ft_3_1 rf_8_1 ?_
      refine a_iload_n hΓ 2 dX6_findLegs_43 rfl rfl ?_
      obtain ⟨g4, h⟩ := h
      refine n_iald (x := (M 9 v2)) hΓ dX6_findLegs_44 kd_9 lz_9 g4 rfl ?_
      refine a_aload_n hΓ 0 dX6_findLegs_45 rfl rfl ?_
      refine n_getI (x := (M 72 1)) hΓ fl_RX6_47 cl_6 kd_72 lz_72 dX6_findLegs_46 (Or.inl ft_6_1) rfl ?_
      obtain ⟨g5, h⟩ := h
      obtain ⟨g6, h⟩ := h
      refine a_icmp_ne (tgt := 64) hΓ g5 g6 dX6_findLegs_49 (by decide) (fun c7 => ?_) (fun c7 => ?_)
      · rw [if_pos c7] at h
        refine a_aload_n hΓ 0 dX6_findLegs_52 rfl rfl ?_
        refine n_getR hΓ fl_RX6_9 cl_6 kd_72 lz_72 dX6_findLegs_53 ft_6_2 rf_72_2 ?_
        refine a_aload_n hΓ 1 dX6_findLegs_56 rfl rfl ?_
        refine n_getR hΓ fl_RX6_76 cl_3 kd_8 lz_8 dX6_findLegs_57 ft_3_2 rf_8_2 ?_
        refine a_iload_n hΓ 2 dX6_findLegs_60 rfl rfl ?_
        refine n_iald (x := (M 10 v2)) hΓ dX6_findLegs_61 kd_10 lz_10 g4 rfl ?_
        refine a_iload_n hΓ 2 dX6_findLegs_62 rfl rfl ?_
        obtain ⟨g8, h⟩ := h
        refine a_iast hΓ dX6_findLegs_63 kd_73 lz_73 g8 ?_
        refine a_iinc (ls' := [(2, aI (v2 + 1)), (0, aR 72), (1, aR 8)]) hΓ 2 dX6_findLegs_64 rfl (by decide) rfl ?_
        refine a_goto (tgt := 31) hΓ dX6_findLegs_67 (by decide) ?_
        refine a_sub (ls' := [(0, aR 72), (1, aR 8), (2, aI (v2 + 1))]) [1, 2, 0] rfl ?_
        exact ih (v2 + 1) (up M 73 (M 10 v2) v2) h
      · rw [if_neg c7] at h
        refine a_iinc (ls' := [(2, aI (v2 + 1)), (0, aR 72), (1, aR 8)]) hΓ 2 dX6_findLegs_64 rfl (by decide) rfl ?_
        refine a_goto (tgt := 31) hΓ dX6_findLegs_67 (by decide) ?_
        refine a_sub (ls' := [(0, aR 72), (1, aR 8), (2, aI (v2 + 1))]) [1, 2, 0] rfl ?_
        exact ih (v2 + 1) M h
    · rw [if_neg c3] at h
      refine a_iconst hΓ dX6_findLegs_70 ?_
      refine a_istore_n (ls' := [(2, aI 1), (0, aR 72), (1, aR 8)]) hΓ dX6_findLegs_71 rfl (by decide) rfl ?_
      refine a_sub (ls' := [(0, aR 72), (2, aI 1)]) [1, 0] rfl ?_
      obtain ⟨f9, h⟩ := h
      exact s_wX6_findLegs_72 hΓ (Nat.le_trans (by decide) hh) hr  f9 1 M h
def wX6_findLegs_21 (Q : Mm → Prop) (M : Mm) : Prop :=
    ∃ n, wX6_findLegs_31 Q n 0 M
set_option maxHeartbeats 4000000 in
theorem s_wX6_findLegs_21 {Γ : Cx} {h : Nat} (hΓ : Ok Γ cX6_findLegs RX6 3 h 0 0) (hh : 1 ≤ h) (hr : (cxm Γ).sig.returnType = none) {Q : Mm → Prop}   (M : Mm) (h : wX6_findLegs_21 Q  M) : Wa Γ 3 (Kf Γ (QV Q) 0 0) 0 0 21 [(0, aR 72)] [] (NC, RF, M) := by
  unfold wX6_findLegs_21 at h
  refine a_aload_n hΓ 0 dX6_findLegs_21 rfl rfl ?_
  refine n_getR hΓ fl_RX6_43 cl_6 kd_72 lz_72 dX6_findLegs_22 ft_6_0 rf_72_0 ?_
  refine n_getR hΓ fl_RX6_63 cl_0 kd_1 lz_1 dX6_findLegs_25 ft_0_13 rf_1_13 ?_
  refine a_astore_n (ls' := [(1, aR 8), (0, aR 72)]) hΓ dX6_findLegs_28 rfl (by decide) rfl ?_
  refine a_iconst hΓ dX6_findLegs_29 ?_
  refine a_istore_n (ls' := [(2, aI 0), (1, aR 8), (0, aR 72)]) hΓ dX6_findLegs_30 rfl (by decide) rfl ?_
  refine a_sub (ls' := [(0, aR 72), (1, aR 8), (2, aI 0)]) [2, 1, 0] rfl ?_
  obtain ⟨f1, h⟩ := h
  exact s_wX6_findLegs_31 hΓ (Nat.le_trans (by decide) hh) hr  f1 0 M h
def wX6_findLegs_2 (Q : Mm → Prop) : Nat → Int → Mm → Prop
  | 0, _, _ => False
  | f + 1, v1, M => (inR v1) ∧
    (if v1 < 120 then
      (0 ≤ v1 ∧ v1 < 120) ∧
      (wX6_findLegs_2 Q f) (v1 + 1) (up M 73 v1 (-1))
    else
      wX6_findLegs_21 Q M)
set_option maxHeartbeats 4000000 in
theorem s_wX6_findLegs_2 {Γ : Cx} {h : Nat} (hΓ : Ok Γ cX6_findLegs RX6 3 h 0 0) (hh : 1 ≤ h) (hr : (cxm Γ).sig.returnType = none) {Q : Mm → Prop}   : ∀ (f : Nat) (v1 : Int) (M : Mm), wX6_findLegs_2 Q  f v1 M → Wa Γ 3 (Kf Γ (QV Q) 0 0) 0 0 2 [(0, aR 72), (1, aI v1)] [] (NC, RF, M) := by
  intro f
  induction f with
  | zero => intro v1 M h; exact h.elim
  | succ f ih =>
    intro v1 M h
    unfold wX6_findLegs_2 at h
    refine a_iload_n hΓ 1 dX6_findLegs_2 rfl rfl ?_
    refine a_bipush hΓ dX6_findLegs_3 (by decide) ?_
    obtain ⟨g1, h⟩ := h
    refine a_icmp_ge (tgt := 21) hΓ g1 (inRl (by decide)) dX6_findLegs_5 (by decide) (fun c2 => ?_) (fun c2 => ?_)
    · rw [if_pos c2] at h
      refine a_aload_n hΓ 0 dX6_findLegs_8 rfl rfl ?_
      refine n_getR hΓ fl_RX6_9 cl_6 kd_72 lz_72 dX6_findLegs_9 ft_6_2 rf_72_2 ?_
      refine a_iload_n hΓ 1 dX6_findLegs_12 rfl rfl ?_
      refine a_iconst hΓ dX6_findLegs_13 ?_
      obtain ⟨g3, h⟩ := h
      refine a_iast hΓ dX6_findLegs_14 kd_73 lz_73 g3 ?_
      refine a_iinc (ls' := [(1, aI (v1 + 1)), (0, aR 72)]) hΓ 1 dX6_findLegs_15 rfl (by decide) rfl ?_
      refine a_goto (tgt := 2) hΓ dX6_findLegs_18 (by decide) ?_
      refine a_sub (ls' := [(0, aR 72), (1, aI (v1 + 1))]) [1, 0] rfl ?_
      exact ih (v1 + 1) (up M 73 v1 (-1)) h
    · rw [if_neg c2] at h
      refine a_sub (ls' := [(0, aR 72)]) [0] rfl ?_
      exact s_wX6_findLegs_21 hΓ (Nat.le_trans (by decide) hh) hr  M h
def wX6_findLegs  (M : Mm) (Q : Mm → Prop) : Prop :=
    ∃ n, wX6_findLegs_2 Q n 0 M
set_option maxHeartbeats 4000000 in
theorem s_wX6_findLegs {Γ : Cx} {h : Nat} (hΓ : Ok Γ cX6_findLegs RX6 3 h 0 0) (hh : 1 ≤ h) (hr : (cxm Γ).sig.returnType = none) {Q : Mm → Prop}  (M : Mm) (h : wX6_findLegs  M Q) : Wa Γ 3 (Kf Γ (QV Q) 0 0) 0 0 0 [(0, aR 72)] [] (NC, RF, M) := by
  unfold wX6_findLegs at h
  refine a_iconst hΓ dX6_findLegs_0 ?_
  refine a_istore_n (ls' := [(1, aI 0), (0, aR 72)]) hΓ dX6_findLegs_1 rfl (by decide) rfl ?_
  refine a_sub (ls' := [(0, aR 72), (1, aI 0)]) [1, 0] rfl ?_
  obtain ⟨f1, h⟩ := h
  exact s_wX6_findLegs_2 hΓ (Nat.le_trans (by decide) hh) hr  f1 0 M h
theorem ct_wX6_findLegs (l : Launch) (g : Gp)  (M : Mm) (Q : Mm → Prop) (h : wX6_findLegs  M Q) : Ct l g yX6_findLegs cX6_findLegs 3 none 1 0 0 [aR 72] (NC, RF, M) (QV Q) :=
  ct_of (by decide) (Nat.le_of_ble_eq_true rfl) (fun Γ hg hl hr _ hΓ => by subst hg; subst hl; exact s_wX6_findLegs hΓ (by decide) hr  M h)
def wX6_findLaws_89 (Q : Mm → Prop) (k2 : Int → Mm → Prop) (v1 : Int) (s0 : Int) (M : Mm) : Prop :=
    (0 ≤ s0 ∧ s0 < 10) ∧
    (0 ≤ v1 ∧ v1 < 120) ∧
    k2 (v1 + 1) (up (up M 75 v1 (M 3 s0)) 76 v1 (M 4 s0))
set_option maxHeartbeats 4000000 in
theorem s_wX6_findLaws_89 {Γ : Cx} {h : Nat} (hΓ : Ok Γ cX6_findLaws RX6 5 h 0 0) (hh : 1 ≤ h) (hr : (cxm Γ).sig.returnType = none) {Q : Mm → Prop} {v1 s0 : Int}  {k2 : Int → Mm → Prop} (hk2 : ∀ (v1 : Int) (M : Mm), k2 v1 M → Wa Γ 5 (Kf Γ (QV Q) 0 0) 0 0 2 [(0, aR 72), (1, aI v1)] [] (NC, RF, M)) (M : Mm) (h : wX6_findLaws_89 Q k2 v1 s0 M) : Wa Γ 5 (Kf Γ (QV Q) 0 0) 0 0 89 [(0, aR 72), (1, aI v1)] [aI s0] (NC, RF, M) := by
  unfold wX6_findLaws_89 at h
  refine a_istore (ls' := [(4, aI s0), (0, aR 72), (1, aI v1)]) hΓ dX6_findLaws_89 (by decide) rfl ?_
  refine a_aload_n hΓ 1 dX6_findLaws_91 rfl rfl ?_
  refine n_getR hΓ fl_RX6_18 cl_6 kd_72 lz_72 dX6_findLaws_92 ft_6_4 rf_72_4 ?_
  refine a_iload_n hΓ 2 dX6_findLaws_95 rfl rfl ?_
  refine a_aload_n hΓ 1 dX6_findLaws_96 rfl rfl ?_
  refine n_getR hΓ fl_RX6_43 cl_6 kd_72 lz_72 dX6_findLaws_97 ft_6_0 rf_72_0 ?_
  refine n_getR hΓ fl_RX6_83 cl_0 kd_1 lz_1 dX6_findLaws_100 ft_0_8 rf_1_8 ?_
  refine a_iload hΓ 0 dX6_findLaws_103 rfl ?_
  obtain ⟨g1, h⟩ := h
  refine n_iald (x := (M 3 s0)) hΓ dX6_findLaws_105 kd_3 lz_3 g1 rfl ?_
  obtain ⟨g2, h⟩ := h
  refine a_iast hΓ dX6_findLaws_106 kd_75 lz_75 g2 ?_
  refine a_aload_n hΓ 1 dX6_findLaws_107 rfl rfl ?_
  refine n_getR hΓ fl_RX6_21 cl_6 kd_72 lz_72 dX6_findLaws_108 ft_6_5 rf_72_5 ?_
  refine a_iload_n hΓ 2 dX6_findLaws_111 rfl rfl ?_
  refine a_aload_n hΓ 1 dX6_findLaws_112 rfl rfl ?_
  refine n_getR hΓ fl_RX6_43 cl_6 kd_72 lz_72 dX6_findLaws_113 ft_6_0 rf_72_0 ?_
  refine n_getR hΓ fl_RX6_86 cl_0 kd_1 lz_1 dX6_findLaws_116 ft_0_9 rf_1_9 ?_
  refine a_iload hΓ 0 dX6_findLaws_119 rfl ?_
  refine n_iald (x := (M 4 s0)) hΓ dX6_findLaws_121 kd_4 lz_4 g1 rfl ?_
  refine a_iast hΓ dX6_findLaws_122 kd_76 lz_76 g2 ?_
  refine a_iinc (ls' := [(1, aI (v1 + 1)), (4, aI s0), (0, aR 72)]) hΓ 2 dX6_findLaws_123 rfl (by decide) rfl ?_
  refine a_goto (tgt := 2) hΓ dX6_findLaws_126 (by decide) ?_
  refine a_sub (ls' := [(0, aR 72), (1, aI (v1 + 1))]) [2, 0] rfl ?_
  exact hk2 (v1 + 1) (up (up M 75 v1 (M 3 s0)) 76 v1 (M 4 s0)) h
def wX6_findLaws_63 (Q : Mm → Prop) (k2 : Int → Mm → Prop) (v1 : Int) (s0 : Int) (M : Mm) : Prop :=
    (0 ≤ v1 ∧ v1 < 120) ∧
    (inR (M 74 v1)) ∧
    (if (M 74 v1) = 0 then
      wX6_findLaws_89 Q k2 v1 s0 M
    else
      wX6_findLaws_89 Q k2 v1 (6 + (Int.tdiv (M 74 v1) 8)) M)
set_option maxHeartbeats 4000000 in
theorem s_wX6_findLaws_63 {Γ : Cx} {h : Nat} (hΓ : Ok Γ cX6_findLaws RX6 5 h 0 0) (hh : 1 ≤ h) (hr : (cxm Γ).sig.returnType = none) {Q : Mm → Prop} {v1 s0 : Int}  {k2 : Int → Mm → Prop} (hk2 : ∀ (v1 : Int) (M : Mm), k2 v1 M → Wa Γ 5 (Kf Γ (QV Q) 0 0) 0 0 2 [(0, aR 72), (1, aI v1)] [] (NC, RF, M)) (M : Mm) (h : wX6_findLaws_63 Q k2 v1 s0 M) : Wa Γ 5 (Kf Γ (QV Q) 0 0) 0 0 63 [(0, aR 72), (1, aI v1)] [aI s0] (NC, RF, M) := by
  unfold wX6_findLaws_63 at h
  refine a_istore_n (ls' := [(3, aI s0), (0, aR 72), (1, aI v1)]) hΓ dX6_findLaws_63 rfl (by decide) rfl ?_
  refine a_aload_n hΓ 1 dX6_findLaws_64 rfl rfl ?_
  refine n_getR hΓ fl_RX6_15 cl_6 kd_72 lz_72 dX6_findLaws_65 ft_6_3 rf_72_3 ?_
  refine a_iload_n hΓ 2 dX6_findLaws_68 rfl rfl ?_
  obtain ⟨g1, h⟩ := h
  refine n_iald (x := (M 74 v1)) hΓ dX6_findLaws_69 kd_74 lz_74 g1 rfl ?_
  obtain ⟨g2, h⟩ := h
  refine a_if_ne (tgt := 77) hΓ g2 dX6_findLaws_70 (by decide) (fun c3 => ?_) (fun c3 => ?_)
  · rw [if_pos c3] at h
    refine a_iload_n hΓ 0 dX6_findLaws_73 rfl rfl ?_
    refine a_goto (tgt := 89) hΓ dX6_findLaws_74 (by decide) ?_
    refine a_sub (ls' := [(0, aR 72), (1, aI v1)]) [1, 2] rfl ?_
    exact s_wX6_findLaws_89 hΓ (Nat.le_trans (by decide) hh) hr hk2 M h
  · rw [if_neg c3] at h
    refine a_bipush hΓ dX6_findLaws_77 (by decide) ?_
    refine a_aload_n hΓ 1 dX6_findLaws_79 rfl rfl ?_
    refine n_getR hΓ fl_RX6_15 cl_6 kd_72 lz_72 dX6_findLaws_80 ft_6_3 rf_72_3 ?_
    refine a_iload_n hΓ 2 dX6_findLaws_83 rfl rfl ?_
    refine n_iald (x := (M 74 v1)) hΓ dX6_findLaws_84 kd_74 lz_74 g1 rfl ?_
    refine a_bipush hΓ dX6_findLaws_85 (by decide) ?_
    refine a_idiv hΓ g2 (inRl (by decide)) (by decide) dX6_findLaws_87 ?_
    refine a_iadd hΓ dX6_findLaws_88 ?_
    refine a_sub (ls' := [(0, aR 72), (1, aI v1)]) [1, 2] rfl ?_
    exact s_wX6_findLaws_89 hΓ (Nat.le_trans (by decide) hh) hr hk2 M h
def wX6_findLaws_41 (Q : Mm → Prop) (k2 : Int → Mm → Prop) (v1 : Int) (v2 : Int) (s0 : Int) (s1 : Int) (M : Mm) : Prop :=
    (0 ≤ s1 ∧ s1 < 120) ∧
    (inR v2) ∧
    (if v2 = (-1) then
      wX6_findLaws_63 Q k2 v1 0 (up M 74 s1 s0)
    else
      (0 ≤ v2 ∧ v2 < 60) ∧
      wX6_findLaws_63 Q k2 v1 (M 11 v2) (up M 74 s1 s0))
set_option maxHeartbeats 4000000 in
theorem s_wX6_findLaws_41 {Γ : Cx} {h : Nat} (hΓ : Ok Γ cX6_findLaws RX6 5 h 0 0) (hh : 1 ≤ h) (hr : (cxm Γ).sig.returnType = none) {Q : Mm → Prop} {v1 v2 s0 s1 : Int}  {k2 : Int → Mm → Prop} (hk2 : ∀ (v1 : Int) (M : Mm), k2 v1 M → Wa Γ 5 (Kf Γ (QV Q) 0 0) 0 0 2 [(0, aR 72), (1, aI v1)] [] (NC, RF, M)) (M : Mm) (h : wX6_findLaws_41 Q k2 v1 v2 s0 s1 M) : Wa Γ 5 (Kf Γ (QV Q) 0 0) 0 0 41 [(0, aR 72), (1, aI v1), (2, aI v2)] [aI s0, aI s1, aR 74] (NC, RF, M) := by
  unfold wX6_findLaws_41 at h
  obtain ⟨g1, h⟩ := h
  refine a_iast hΓ dX6_findLaws_41 kd_74 lz_74 g1 ?_
  refine a_iload_n hΓ 2 dX6_findLaws_42 rfl rfl ?_
  refine a_iconst hΓ dX6_findLaws_43 ?_
  obtain ⟨g2, h⟩ := h
  refine a_icmp_ne (tgt := 51) hΓ g2 (inRl (by decide)) dX6_findLaws_44 (by decide) (fun c3 => ?_) (fun c3 => ?_)
  · rw [if_pos c3] at h
    refine a_iconst hΓ dX6_findLaws_47 ?_
    refine a_goto (tgt := 63) hΓ dX6_findLaws_48 (by decide) ?_
    refine a_sub (ls' := [(0, aR 72), (1, aI v1)]) [0, 1] rfl ?_
    exact s_wX6_findLaws_63 hΓ (Nat.le_trans (by decide) hh) hr hk2 (up M 74 s1 s0) h
  · rw [if_neg c3] at h
    refine a_aload_n hΓ 0 dX6_findLaws_51 rfl rfl ?_
    refine n_getR hΓ fl_RX6_43 cl_6 kd_72 lz_72 dX6_findLaws_52 ft_6_0 rf_72_0 ?_
    refine n_getR hΓ fl_RX6_63 cl_0 kd_1 lz_1 dX6_findLaws_55 ft_0_13 rf_1_13 ?_
    refine n_getR hΓ fl_RX6_80 cl_3 kd_8 lz_8 dX6_findLaws_58 ft_3_3 rf_8_3 ?_
    refine a_iload_n hΓ 2 dX6_findLaws_61 rfl rfl ?_
    obtain ⟨g4, h⟩ := h
    refine n_iald (x := (M 11 v2)) hΓ dX6_findLaws_62 kd_11 lz_11 g4 rfl ?_
    refine a_sub (ls' := [(0, aR 72), (1, aI v1)]) [0, 1] rfl ?_
    exact s_wX6_findLaws_63 hΓ (Nat.le_trans (by decide) hh) hr hk2 (up M 74 s1 s0) h
def wX6_findLaws_2 (Q : Mm → Prop) : Nat → Int → Mm → Prop
  | 0, _, _ => False
  | f + 1, v1, M => (inR v1) ∧
    (if v1 < 120 then
      (0 ≤ v1 ∧ v1 < 120) ∧
      (inR (M 73 v1)) ∧
      (if (M 73 v1) = (-1) then
        wX6_findLaws_41 Q (wX6_findLaws_2 Q f) v1 (M 73 v1) 0 v1 M
      else
        (0 ≤ (M 73 v1) ∧ (M 73 v1) < 60) ∧
        wX6_findLaws_41 Q (wX6_findLaws_2 Q f) v1 (M 73 v1) (M 12 (M 73 v1)) v1 M)
    else
      Q M)
set_option maxHeartbeats 4000000 in
theorem s_wX6_findLaws_2 {Γ : Cx} {h : Nat} (hΓ : Ok Γ cX6_findLaws RX6 5 h 0 0) (hh : 1 ≤ h) (hr : (cxm Γ).sig.returnType = none) {Q : Mm → Prop}   : ∀ (f : Nat) (v1 : Int) (M : Mm), wX6_findLaws_2 Q  f v1 M → Wa Γ 5 (Kf Γ (QV Q) 0 0) 0 0 2 [(0, aR 72), (1, aI v1)] [] (NC, RF, M) := by
  intro f
  induction f with
  | zero => intro v1 M h; exact h.elim
  | succ f ih =>
    intro v1 M h
    unfold wX6_findLaws_2 at h
    refine a_iload_n hΓ 1 dX6_findLaws_2 rfl rfl ?_
    refine a_bipush hΓ dX6_findLaws_3 (by decide) ?_
    obtain ⟨g1, h⟩ := h
    refine a_icmp_ge (tgt := 129) hΓ g1 (inRl (by decide)) dX6_findLaws_5 (by decide) (fun c2 => ?_) (fun c2 => ?_)
    · rw [if_pos c2] at h
      refine a_aload_n hΓ 0 dX6_findLaws_8 rfl rfl ?_
      refine n_getR hΓ fl_RX6_9 cl_6 kd_72 lz_72 dX6_findLaws_9 ft_6_2 rf_72_2 ?_
      refine a_iload_n hΓ 1 dX6_findLaws_12 rfl rfl ?_
      obtain ⟨g3, h⟩ := h
      refine n_iald (x := (M 73 v1)) hΓ dX6_findLaws_13 kd_73 lz_73 g3 rfl ?_
      refine a_istore_n (ls' := [(2, aI (M 73 v1)), (0, aR 72), (1, aI v1)]) hΓ dX6_findLaws_14 rfl (by decide) rfl ?_
      refine a_aload_n hΓ 1 dX6_findLaws_15 rfl rfl ?_
      refine n_getR hΓ fl_RX6_15 cl_6 kd_72 lz_72 dX6_findLaws_16 ft_6_3 rf_72_3 ?_
      refine a_iload_n hΓ 2 dX6_findLaws_19 rfl rfl ?_
      refine a_iload_n hΓ 0 dX6_findLaws_20 rfl rfl ?_
      refine a_iconst hΓ dX6_findLaws_21 ?_
      obtain ⟨g4, h⟩ := h
      refine a_icmp_ne (tgt := 29) hΓ g4 (inRl (by decide)) dX6_findLaws_22 (by decide) (fun c5 => ?_) (fun c5 => ?_)
      · rw [if_pos c5] at h
        refine a_iconst hΓ dX6_findLaws_25 ?_
        refine a_goto (tgt := 41) hΓ dX6_findLaws_26 (by decide) ?_
        refine a_sub (ls' := [(0, aR 72), (1, aI v1), (2, aI (M 73 v1))]) [1, 2, 0] rfl ?_
        exact s_wX6_findLaws_41 hΓ (Nat.le_trans (by decide) hh) hr ih M h
      · rw [if_neg c5] at h
        refine a_aload_n hΓ 1 dX6_findLaws_29 rfl rfl ?_
        refine n_getR hΓ fl_RX6_43 cl_6 kd_72 lz_72 dX6_findLaws_30 ft_6_0 rf_72_0 ?_
        refine n_getR hΓ fl_RX6_63 cl_0 kd_1 lz_1 dX6_findLaws_33 ft_0_13 rf_1_13 ?_
        refine n_getR hΓ fl_RX6_79 cl_3 kd_8 lz_8 dX6_findLaws_36 ft_3_4 rf_8_4 ?_
        refine a_iload_n hΓ 0 dX6_findLaws_39 rfl rfl ?_
        obtain ⟨g6, h⟩ := h
        refine n_iald (x := (M 12 (M 73 v1))) hΓ dX6_findLaws_40 kd_12 lz_12 g6 rfl ?_
        refine a_sub (ls' := [(0, aR 72), (1, aI v1), (2, aI (M 73 v1))]) [1, 2, 0] rfl ?_
        exact s_wX6_findLaws_41 hΓ (Nat.le_trans (by decide) hh) hr ih M h
    · rw [if_neg c2] at h
      exact a_vret hΓ hr dX6_findLaws_129 ⟨_, rfl, rfl, h⟩
def wX6_findLaws  (M : Mm) (Q : Mm → Prop) : Prop :=
    ∃ n, wX6_findLaws_2 Q n 0 M
set_option maxHeartbeats 4000000 in
theorem s_wX6_findLaws {Γ : Cx} {h : Nat} (hΓ : Ok Γ cX6_findLaws RX6 5 h 0 0) (hh : 1 ≤ h) (hr : (cxm Γ).sig.returnType = none) {Q : Mm → Prop}  (M : Mm) (h : wX6_findLaws  M Q) : Wa Γ 5 (Kf Γ (QV Q) 0 0) 0 0 0 [(0, aR 72)] [] (NC, RF, M) := by
  unfold wX6_findLaws at h
  refine a_iconst hΓ dX6_findLaws_0 ?_
  refine a_istore_n (ls' := [(1, aI 0), (0, aR 72)]) hΓ dX6_findLaws_1 rfl (by decide) rfl ?_
  refine a_sub (ls' := [(0, aR 72), (1, aI 0)]) [1, 0] rfl ?_
  obtain ⟨f1, h⟩ := h
  exact s_wX6_findLaws_2 hΓ (Nat.le_trans (by decide) hh) hr  f1 0 M h
theorem ct_wX6_findLaws (l : Launch) (g : Gp)  (M : Mm) (Q : Mm → Prop) (h : wX6_findLaws  M Q) : Ct l g yX6_findLaws cX6_findLaws 5 none 1 0 0 [aR 72] (NC, RF, M) (QV Q) :=
  ct_of (by decide) (Nat.le_of_ble_eq_true rfl) (fun Γ hg hl hr _ hΓ => by subst hg; subst hl; exact s_wX6_findLaws hΓ (by decide) hr  M h)
def wX6_findCleanings_32 (Q : Mm → Prop) : Nat → Int → Mm → Prop
  | 0, _, _ => False
  | f + 1, v1, M => (inR v1) ∧
    (inR (M 1 1)) ∧
    (if v1 < (M 1 1) then
      (0 ≤ v1 ∧ v1 < 40) ∧
      (inR (M 5 v1)) ∧
      (inR (M 72 1)) ∧
      (if (M 5 v1) = (M 72 1) then
        (0 ≤ (M 6 v1) ∧ (M 6 v1) < 120) ∧
        (wX6_findCleanings_32 Q f) (v1 + 1) (up (up M 78 (M 6 v1) 1) 77 (M 6 v1) (M 7 v1))
      else
        (wX6_findCleanings_32 Q f) (v1 + 1) M)
    else
      Q M)
set_option maxHeartbeats 4000000 in
theorem s_wX6_findCleanings_32 {Γ : Cx} {h : Nat} (hΓ : Ok Γ cX6_findCleanings RX6 2 h 0 0) (hh : 1 ≤ h) (hr : (cxm Γ).sig.returnType = none) {Q : Mm → Prop}   : ∀ (f : Nat) (v1 : Int) (M : Mm), wX6_findCleanings_32 Q  f v1 M → Wa Γ 2 (Kf Γ (QV Q) 0 0) 0 0 32 [(0, aR 72), (1, aI v1)] [] (NC, RF, M) := by
  intro f
  induction f with
  | zero => intro v1 M h; exact h.elim
  | succ f ih =>
    intro v1 M h
    unfold wX6_findCleanings_32 at h
    refine a_iload_n hΓ 1 dX6_findCleanings_32 rfl rfl ?_
    refine a_aload_n hΓ 0 dX6_findCleanings_33 rfl rfl ?_
    refine n_getR hΓ fl_RX6_43 cl_6 kd_72 lz_72 dX6_findCleanings_34 ft_6_0 rf_72_0 ?_
    refine n_getI (x := (M 1 1)) hΓ fl_RX6_89 cl_0 kd_1 lz_1 dX6_findCleanings_37 (Or.inl ft_0_1) rfl ?_
    obtain ⟨g1, h⟩ := h
    obtain ⟨g2, h⟩ := h
    refine a_icmp_ge (tgt := 103) hΓ g1 g2 dX6_findCleanings_40 (by decide) (fun c3 => ?_) (fun c3 => ?_)
    · rw [if_pos c3] at h
      refine a_aload_n hΓ 0 dX6_findCleanings_43 rfl rfl ?_
      refine n_getR hΓ fl_RX6_43 cl_6 kd_72 lz_72 dX6_findCleanings_44 ft_6_0 rf_72_0 ?_
      refine n_getR hΓ fl_RX6_92 cl_0 kd_1 lz_1 dX6_findCleanings_47 ft_0_10 rf_1_10 ?_
      refine a_iload_n hΓ 1 dX6_findCleanings_50 rfl rfl ?_
      obtain ⟨g4, h⟩ := h
      refine n_iald (x := (M 5 v1)) hΓ dX6_findCleanings_51 kd_5 lz_5 g4 rfl ?_
      refine a_aload_n hΓ 0 dX6_findCleanings_52 rfl rfl ?_
      refine n_getI (x := (M 72 1)) hΓ fl_RX6_47 cl_6 kd_72 lz_72 dX6_findCleanings_53 (Or.inl ft_6_1) rfl ?_
      obtain ⟨g5, h⟩ := h
      obtain ⟨g6, h⟩ := h
      refine a_icmp_ne (tgt := 97) hΓ g5 g6 dX6_findCleanings_56 (by decide) (fun c7 => ?_) (fun c7 => ?_)
      · rw [if_pos c7] at h
        refine a_aload_n hΓ 0 dX6_findCleanings_59 rfl rfl ?_
        refine n_getR hΓ fl_RX6_27 cl_6 kd_72 lz_72 dX6_findCleanings_60 ft_6_7 rf_72_7 ?_
        refine a_aload_n hΓ 0 dX6_findCleanings_63 rfl rfl ?_
        refine n_getR hΓ fl_RX6_43 cl_6 kd_72 lz_72 dX6_findCleanings_64 ft_6_0 rf_72_0 ?_
        refine n_getR hΓ fl_RX6_95 cl_0 kd_1 lz_1 dX6_findCleanings_67 ft_0_11 rf_1_11 ?_
        refine a_iload_n hΓ 1 dX6_findCleanings_70 rfl rfl ?_
        refine n_iald (x := (M 6 v1)) hΓ dX6_findCleanings_71 kd_6 lz_6 g4 rfl ?_
        refine a_iconst hΓ dX6_findCleanings_72 ?_
        obtain ⟨g8, h⟩ := h
        refine a_zast hΓ rfl (Or.inr rfl) dX6_findCleanings_73 kd_78 lz_78 g8 ?_
        refine a_aload_n hΓ 0 dX6_findCleanings_74 rfl rfl ?_
        refine n_getR hΓ fl_RX6_24 cl_6 kd_72 lz_72 dX6_findCleanings_75 ft_6_6 rf_72_6 ?_
        refine a_aload_n hΓ 0 dX6_findCleanings_78 rfl rfl ?_
        refine n_getR hΓ fl_RX6_43 cl_6 kd_72 lz_72 dX6_findCleanings_79 ft_6_0 rf_72_0 ?_
        refine n_getR hΓ fl_RX6_95 cl_0 kd_1 lz_1 dX6_findCleanings_82 ft_0_11 rf_1_11 ?_
        refine a_iload_n hΓ 1 dX6_findCleanings_85 rfl rfl ?_
        refine n_iald (x := (M 6 v1)) hΓ dX6_findCleanings_86 kd_6 lz_6 g4 rfl ?_
        refine a_aload_n hΓ 0 dX6_findCleanings_87 rfl rfl ?_
        refine n_getR hΓ fl_RX6_43 cl_6 kd_72 lz_72 dX6_findCleanings_88 ft_6_0 rf_72_0 ?_
        refine n_getR hΓ fl_RX6_98 cl_0 kd_1 lz_1 dX6_findCleanings_91 ft_0_12 rf_1_12 ?_
        refine a_iload_n hΓ 1 dX6_findCleanings_94 rfl rfl ?_
        refine n_iald (x := (M 7 v1)) hΓ dX6_findCleanings_95 kd_7 lz_7 g4 rfl ?_
        refine a_iast hΓ dX6_findCleanings_96 kd_77 lz_77 g8 ?_
        refine a_iinc (ls' := [(1, aI (v1 + 1)), (0, aR 72)]) hΓ 1 dX6_findCleanings_97 rfl (by decide) rfl ?_
        refine a_goto (tgt := 32) hΓ dX6_findCleanings_100 (by decide) ?_
        refine a_sub (ls' := [(0, aR 72), (1, aI (v1 + 1))]) [1, 0] rfl ?_
        exact ih (v1 + 1) (up (up M 78 (M 6 v1) 1) 77 (M 6 v1) (M 7 v1)) h
      · rw [if_neg c7] at h
        refine a_iinc (ls' := [(1, aI (v1 + 1)), (0, aR 72)]) hΓ 1 dX6_findCleanings_97 rfl (by decide) rfl ?_
        refine a_goto (tgt := 32) hΓ dX6_findCleanings_100 (by decide) ?_
        refine a_sub (ls' := [(0, aR 72), (1, aI (v1 + 1))]) [1, 0] rfl ?_
        exact ih (v1 + 1) M h
    · rw [if_neg c3] at h
      exact a_vret hΓ hr dX6_findCleanings_103 ⟨_, rfl, rfl, h⟩
def wX6_findCleanings_2 (Q : Mm → Prop) : Nat → Int → Mm → Prop
  | 0, _, _ => False
  | f + 1, v1, M => (inR v1) ∧
    (if v1 < 120 then
      (0 ≤ v1 ∧ v1 < 120) ∧
      (wX6_findCleanings_2 Q f) (v1 + 1) (up (up M 78 v1 0) 77 v1 1000)
    else
      ∃ n, wX6_findCleanings_32 Q n 0 M)
set_option maxHeartbeats 4000000 in
theorem s_wX6_findCleanings_2 {Γ : Cx} {h : Nat} (hΓ : Ok Γ cX6_findCleanings RX6 2 h 0 0) (hh : 1 ≤ h) (hr : (cxm Γ).sig.returnType = none) {Q : Mm → Prop}   : ∀ (f : Nat) (v1 : Int) (M : Mm), wX6_findCleanings_2 Q  f v1 M → Wa Γ 2 (Kf Γ (QV Q) 0 0) 0 0 2 [(0, aR 72), (1, aI v1)] [] (NC, RF, M) := by
  intro f
  induction f with
  | zero => intro v1 M h; exact h.elim
  | succ f ih =>
    intro v1 M h
    unfold wX6_findCleanings_2 at h
    refine a_iload_n hΓ 1 dX6_findCleanings_2 rfl rfl ?_
    refine a_bipush hΓ dX6_findCleanings_3 (by decide) ?_
    obtain ⟨g1, h⟩ := h
    refine a_icmp_ge (tgt := 30) hΓ g1 (inRl (by decide)) dX6_findCleanings_5 (by decide) (fun c2 => ?_) (fun c2 => ?_)
    · rw [if_pos c2] at h
      refine a_aload_n hΓ 0 dX6_findCleanings_8 rfl rfl ?_
      refine n_getR hΓ fl_RX6_27 cl_6 kd_72 lz_72 dX6_findCleanings_9 ft_6_7 rf_72_7 ?_
      refine a_iload_n hΓ 1 dX6_findCleanings_12 rfl rfl ?_
      refine a_iconst hΓ dX6_findCleanings_13 ?_
      obtain ⟨g3, h⟩ := h
      refine a_zast hΓ rfl (Or.inl rfl) dX6_findCleanings_14 kd_78 lz_78 g3 ?_
      refine a_aload_n hΓ 0 dX6_findCleanings_15 rfl rfl ?_
      refine n_getR hΓ fl_RX6_24 cl_6 kd_72 lz_72 dX6_findCleanings_16 ft_6_6 rf_72_6 ?_
      refine a_iload_n hΓ 1 dX6_findCleanings_19 rfl rfl ?_
      refine a_sipush hΓ dX6_findCleanings_20 (by decide) ?_
      refine a_iast hΓ dX6_findCleanings_23 kd_77 lz_77 g3 ?_
      refine a_iinc (ls' := [(1, aI (v1 + 1)), (0, aR 72)]) hΓ 1 dX6_findCleanings_24 rfl (by decide) rfl ?_
      refine a_goto (tgt := 2) hΓ dX6_findCleanings_27 (by decide) ?_
      refine a_sub (ls' := [(0, aR 72), (1, aI (v1 + 1))]) [1, 0] rfl ?_
      exact ih (v1 + 1) (up (up M 78 v1 0) 77 v1 1000) h
    · rw [if_neg c2] at h
      refine a_iconst hΓ dX6_findCleanings_30 ?_
      refine a_istore_n (ls' := [(1, aI 0), (0, aR 72)]) hΓ dX6_findCleanings_31 rfl (by decide) rfl ?_
      refine a_sub (ls' := [(0, aR 72), (1, aI 0)]) [1, 0] rfl ?_
      obtain ⟨f4, h⟩ := h
      exact s_wX6_findCleanings_32 hΓ (Nat.le_trans (by decide) hh) hr  f4 0 M h
def wX6_findCleanings  (M : Mm) (Q : Mm → Prop) : Prop :=
    ∃ n, wX6_findCleanings_2 Q n 0 M
set_option maxHeartbeats 4000000 in
theorem s_wX6_findCleanings {Γ : Cx} {h : Nat} (hΓ : Ok Γ cX6_findCleanings RX6 2 h 0 0) (hh : 1 ≤ h) (hr : (cxm Γ).sig.returnType = none) {Q : Mm → Prop}  (M : Mm) (h : wX6_findCleanings  M Q) : Wa Γ 2 (Kf Γ (QV Q) 0 0) 0 0 0 [(0, aR 72)] [] (NC, RF, M) := by
  unfold wX6_findCleanings at h
  refine a_iconst hΓ dX6_findCleanings_0 ?_
  refine a_istore_n (ls' := [(1, aI 0), (0, aR 72)]) hΓ dX6_findCleanings_1 rfl (by decide) rfl ?_
  refine a_sub (ls' := [(0, aR 72), (1, aI 0)]) [1, 0] rfl ?_
  obtain ⟨f1, h⟩ := h
  exact s_wX6_findCleanings_2 hΓ (Nat.le_trans (by decide) hh) hr  f1 0 M h
theorem ct_wX6_findCleanings (l : Launch) (g : Gp)  (M : Mm) (Q : Mm → Prop) (h : wX6_findCleanings  M Q) : Ct l g yX6_findCleanings cX6_findCleanings 2 none 1 0 0 [aR 72] (NC, RF, M) (QV Q) :=
  ct_of (by decide) (Nat.le_of_ble_eq_true rfl) (fun Γ hg hl hr _ hΓ => by subst hg; subst hl; exact s_wX6_findCleanings hΓ (by decide) hr  M h)
def wX6_keepReading_43 (Q : Mm → Prop) (v1 : Int) (v4 : Int) (s0 : Int) (s1 : Int) (M : Mm) : Prop :=
    (0 ≤ s1 ∧ s1 < 24) ∧
    (inR v4) ∧
    (if v4 = 0 then
      Q (up M 80 s1 s0)
    else
      Q (up (up M 80 s1 s0) 72 8 (lorI (M 72 8) (shlI 1 v1))))
set_option maxHeartbeats 4000000 in
theorem s_wX6_keepReading_43 {Γ : Cx} {h : Nat} (hΓ : Ok Γ cX6_keepReading RX6 5 h 0 0) (hh : 1 ≤ h) (hr : (cxm Γ).sig.returnType = none) {Q : Mm → Prop} {v1 v4 s0 s1 : Int}   (M : Mm) (h : wX6_keepReading_43 Q v1 v4 s0 s1 M) : Wa Γ 5 (Kf Γ (QV Q) 0 0) 0 0 43 [(0, aR 72), (1, aI v1), (4, aI v4)] [aI s0, aI s1, aR 80] (NC, RF, M) := by
  unfold wX6_keepReading_43 at h
  obtain ⟨g1, h⟩ := h
  refine a_iast hΓ dX6_keepReading_43 kd_80 lz_80 g1 ?_
  refine a_iload hΓ 2 dX6_keepReading_44 rfl ?_
  obtain ⟨g2, h⟩ := h
  refine a_if_eq (tgt := 61) hΓ g2 dX6_keepReading_46 (by decide) (fun c3 => ?_) (fun c3 => ?_)
  · rw [if_pos c3] at h
    exact a_vret hΓ hr dX6_keepReading_61 ⟨_, rfl, rfl, h⟩
  · rw [if_neg c3] at h
    refine a_aload_n hΓ 0 dX6_keepReading_49 rfl rfl ?_
    refine a_dupR hΓ dX6_keepReading_50 ?_
    refine n_getI (x := (M 72 8)) hΓ fl_RX6_105 cl_6 kd_72 lz_72 dX6_keepReading_51 (Or.inl ft_6_8) rfl ?_
    refine a_iconst hΓ dX6_keepReading_54 ?_
    refine a_iload_n hΓ 1 dX6_keepReading_55 rfl rfl ?_
    refine a_ishl hΓ dX6_keepReading_56 ?_
    refine a_ior hΓ dX6_keepReading_57 ?_
    refine n_putI (j := 8) hΓ fl_RX6_105 cl_6 nf_6_8 kd_72 lz_72 dX6_keepReading_58 (Or.inl ft_6_8) rfl ?_
    exact a_vret hΓ hr dX6_keepReading_61 ⟨_, rfl, rfl, h⟩
def wX6_keepReading_27 (Q : Mm → Prop) (v1 : Int) (v3 : Int) (v4 : Int) (s0 : Int) (s1 : Int) (M : Mm) : Prop :=
    (0 ≤ s1 ∧ s1 < 24) ∧
    (inR v4) ∧
    (if v4 = 0 then
      wX6_keepReading_43 Q v1 v4 (-1) v1 (up M 79 s1 s0)
    else
      wX6_keepReading_43 Q v1 v4 v3 v1 (up M 79 s1 s0))
set_option maxHeartbeats 4000000 in
theorem s_wX6_keepReading_27 {Γ : Cx} {h : Nat} (hΓ : Ok Γ cX6_keepReading RX6 5 h 0 0) (hh : 1 ≤ h) (hr : (cxm Γ).sig.returnType = none) {Q : Mm → Prop} {v1 v3 v4 s0 s1 : Int}   (M : Mm) (h : wX6_keepReading_27 Q v1 v3 v4 s0 s1 M) : Wa Γ 5 (Kf Γ (QV Q) 0 0) 0 0 27 [(0, aR 72), (1, aI v1), (3, aI v3), (4, aI v4)] [aI s0, aI s1, aR 79] (NC, RF, M) := by
  unfold wX6_keepReading_27 at h
  obtain ⟨g1, h⟩ := h
  refine a_iast hΓ dX6_keepReading_27 kd_79 lz_79 g1 ?_
  refine a_aload_n hΓ 0 dX6_keepReading_28 rfl rfl ?_
  refine n_getR hΓ fl_RX6_34 cl_6 kd_72 lz_72 dX6_keepReading_29 ft_6_10 rf_72_10 ?_
  refine a_iload_n hΓ 1 dX6_keepReading_32 rfl rfl ?_
  refine a_iload hΓ 3 dX6_keepReading_33 rfl ?_
  obtain ⟨g2, h⟩ := h
  refine a_if_eq (tgt := 42) hΓ g2 dX6_keepReading_35 (by decide) (fun c3 => ?_) (fun c3 => ?_)
  · rw [if_pos c3] at h
    refine a_iconst hΓ dX6_keepReading_42 ?_
    refine a_sub (ls' := [(0, aR 72), (1, aI v1), (4, aI v4)]) [0, 1, 3] rfl ?_
    exact s_wX6_keepReading_43 hΓ (Nat.le_trans (by decide) hh) hr  (up M 79 s1 s0) h
  · rw [if_neg c3] at h
    refine a_iload_n hΓ 2 dX6_keepReading_38 rfl rfl ?_
    refine a_goto (tgt := 43) hΓ dX6_keepReading_39 (by decide) ?_
    refine a_sub (ls' := [(0, aR 72), (1, aI v1), (4, aI v4)]) [0, 1, 3] rfl ?_
    exact s_wX6_keepReading_43 hΓ (Nat.le_trans (by decide) hh) hr  (up M 79 s1 s0) h
def wX6_keepReading_10 (Q : Mm → Prop) (v1 : Int) (v2 : Int) (v3 : Int) (s0 : Int) (M : Mm) : Prop :=
    (inR s0) ∧
    (if s0 = 0 then
      wX6_keepReading_27 Q v1 v3 s0 (-1) v1 M
    else
      wX6_keepReading_27 Q v1 v3 s0 v2 v1 M)
set_option maxHeartbeats 4000000 in
theorem s_wX6_keepReading_10 {Γ : Cx} {h : Nat} (hΓ : Ok Γ cX6_keepReading RX6 5 h 0 0) (hh : 1 ≤ h) (hr : (cxm Γ).sig.returnType = none) {Q : Mm → Prop} {v1 v2 v3 s0 : Int}   (M : Mm) (h : wX6_keepReading_10 Q v1 v2 v3 s0 M) : Wa Γ 5 (Kf Γ (QV Q) 0 0) 0 0 10 [(0, aR 72), (1, aI v1), (2, aI v2), (3, aI v3)] [aI s0] (NC, RF, M) := by
  unfold wX6_keepReading_10 at h
  refine a_istore (ls' := [(4, aI s0), (0, aR 72), (1, aI v1), (2, aI v2), (3, aI v3)]) hΓ dX6_keepReading_10 (by decide) rfl ?_
  refine a_aload_n hΓ 1 dX6_keepReading_12 rfl rfl ?_
  refine n_getR hΓ fl_RX6_31 cl_6 kd_72 lz_72 dX6_keepReading_13 ft_6_9 rf_72_9 ?_
  refine a_iload_n hΓ 2 dX6_keepReading_16 rfl rfl ?_
  refine a_iload hΓ 0 dX6_keepReading_17 rfl ?_
  obtain ⟨g1, h⟩ := h
  refine a_if_eq (tgt := 26) hΓ g1 dX6_keepReading_19 (by decide) (fun c2 => ?_) (fun c2 => ?_)
  · rw [if_pos c2] at h
    refine a_iconst hΓ dX6_keepReading_26 ?_
    refine a_sub (ls' := [(0, aR 72), (1, aI v1), (3, aI v3), (4, aI s0)]) [1, 2, 4, 0] rfl ?_
    exact s_wX6_keepReading_27 hΓ (Nat.le_trans (by decide) hh) hr  M h
  · rw [if_neg c2] at h
    refine a_iload_n hΓ 3 dX6_keepReading_22 rfl rfl ?_
    refine a_goto (tgt := 27) hΓ dX6_keepReading_23 (by decide) ?_
    refine a_sub (ls' := [(0, aR 72), (1, aI v1), (3, aI v3), (4, aI s0)]) [1, 2, 4, 0] rfl ?_
    exact s_wX6_keepReading_27 hΓ (Nat.le_trans (by decide) hh) hr  M h
def wX6_keepReading (v1 : Int) (v2 : Int) (v3 : Int) (M : Mm) (Q : Mm → Prop) : Prop :=
    (inR v2) ∧
    (inR v3) ∧
    (if v2 ≤ v3 then
      wX6_keepReading_10 Q v1 v2 v3 1 M
    else
      wX6_keepReading_10 Q v1 v2 v3 0 M)
set_option maxHeartbeats 4000000 in
theorem s_wX6_keepReading {Γ : Cx} {h : Nat} (hΓ : Ok Γ cX6_keepReading RX6 5 h 0 0) (hh : 1 ≤ h) (hr : (cxm Γ).sig.returnType = none) {Q : Mm → Prop} (v1 : Int) (v2 : Int) (v3 : Int) (M : Mm) (h : wX6_keepReading v1 v2 v3 M Q) : Wa Γ 5 (Kf Γ (QV Q) 0 0) 0 0 0 [(0, aR 72), (1, aI v1), (2, aI v2), (3, aI v3)] [] (NC, RF, M) := by
  unfold wX6_keepReading at h
  refine a_iload_n hΓ 2 dX6_keepReading_0 rfl rfl ?_
  refine a_iload_n hΓ 3 dX6_keepReading_1 rfl rfl ?_
  obtain ⟨g1, h⟩ := h
  obtain ⟨g2, h⟩ := h
  refine a_icmp_gt (tgt := 9) hΓ g1 g2 dX6_keepReading_2 (by decide) (fun c3 => ?_) (fun c3 => ?_)
  · rw [if_pos c3] at h
    refine a_iconst hΓ dX6_keepReading_5 ?_
    refine a_goto (tgt := 10) hΓ dX6_keepReading_6 (by decide) ?_
    exact s_wX6_keepReading_10 hΓ (Nat.le_trans (by decide) hh) hr  M h
  · rw [if_neg c3] at h
    refine a_iconst hΓ dX6_keepReading_9 ?_
    exact s_wX6_keepReading_10 hΓ (Nat.le_trans (by decide) hh) hr  M h
theorem ct_wX6_keepReading (l : Launch) (g : Gp) (v1 : Int) (v2 : Int) (v3 : Int) (M : Mm) (Q : Mm → Prop) (h : wX6_keepReading v1 v2 v3 M Q) : Ct l g yX6_keepReading cX6_keepReading 5 none 1 0 0 [aR 72, aI v1, aI v2, aI v3] (NC, RF, M) (QV Q) :=
  ct_of (by decide) (Nat.le_of_ble_eq_true rfl) (fun Γ hg hl hr _ hΓ => by subst hg; subst hl; exact s_wX6_keepReading hΓ (by decide) hr v1 v2 v3 M h)
def wX6_portion (v1 : Int) (v2 : Int) (v3 : Int) (M : Mm) (Q : Int → Mm → Prop) : Prop :=
    (0 ≤ v2 ∧ v2 < 120) ∧
    (inR (M 74 v2)) ∧
    (if (M 74 v2) = 0 then
      Q 0 M
    else
      (inR (M 73 v2)) ∧
      (if (M 73 v2) = (-1) then
        Q 0 M
      else
        (inR v1) ∧
        (if v1 = 0 then
          (0 ≤ (M 72 1) ∧ (M 72 1) < 3) ∧
          Q (((M 74 v2) * (M 74 v2)) * (M 2 (M 72 1))) M
        else
          (if v1 = 1 then
            (0 ≤ (M 73 v2) ∧ (M 73 v2) < 60) ∧
            Q (((M 13 (M 73 v2)) * (M 13 (M 73 v2))) * (M 74 v2)) M
          else
            (if v1 = 2 then
              (0 ≤ (M 73 v2) ∧ (M 73 v2) < 60) ∧
              Q ((M 14 (M 73 v2)) * (M 74 v2)) M
            else
              Q (((M 74 v2) * (M 74 v2)) * v3) M)))))
set_option maxHeartbeats 4000000 in
theorem s_wX6_portion {Γ : Cx} {h : Nat} (hΓ : Ok Γ cX6_portion RX6 6 h 0 0) (hh : 1 ≤ h) (hr : (cxm Γ).sig.returnType = (some .int)) {Q : Int → Mm → Prop} (v1 : Int) (v2 : Int) (v3 : Int) (M : Mm) (h : wX6_portion v1 v2 v3 M Q) : Wa Γ 6 (Kf Γ (QI Q) 0 0) 0 0 0 [(0, aR 72), (1, aI v1), (2, aI v2), (3, aI v3)] [] (NC, RF, M) := by
  unfold wX6_portion at h
  refine a_aload_n hΓ 0 dX6_portion_0 rfl rfl ?_
  refine n_getR hΓ fl_RX6_15 cl_6 kd_72 lz_72 dX6_portion_1 ft_6_3 rf_72_3 ?_
  refine a_iload_n hΓ 2 dX6_portion_4 rfl rfl ?_
  obtain ⟨g1, h⟩ := h
  refine n_iald (x := (M 74 v2)) hΓ dX6_portion_5 kd_74 lz_74 g1 rfl ?_
  refine a_istore (ls' := [(4, aI (M 74 v2)), (0, aR 72), (1, aI v1), (2, aI v2), (3, aI v3)]) hΓ dX6_portion_6 (by decide) rfl ?_
  refine a_aload_n hΓ 1 dX6_portion_8 rfl rfl ?_
  refine n_getR hΓ fl_RX6_9 cl_6 kd_72 lz_72 dX6_portion_9 ft_6_2 rf_72_2 ?_
  refine a_iload_n hΓ 3 dX6_portion_12 rfl rfl ?_
  refine n_iald (x := (M 73 v2)) hΓ dX6_portion_13 kd_73 lz_73 g1 rfl ?_
  refine a_istore (ls' := [(5, aI (M 73 v2)), (4, aI (M 74 v2)), (0, aR 72), (1, aI v1), (2, aI v2), (3, aI v3)]) hΓ dX6_portion_14 (by decide) rfl ?_
  refine a_iload hΓ 1 dX6_portion_16 rfl ?_
  obtain ⟨g2, h⟩ := h
  refine a_if_eq (tgt := 27) hΓ g2 dX6_portion_18 (by decide) (fun c3 => ?_) (fun c3 => ?_)
  · rw [if_pos c3] at h
    refine a_iconst hΓ dX6_portion_27 ?_
    exact a_iret hΓ hr dX6_portion_28 ⟨_, _, rfl, rfl, h⟩
  · rw [if_neg c3] at h
    refine a_iload hΓ 0 dX6_portion_21 rfl ?_
    refine a_iconst hΓ dX6_portion_23 ?_
    obtain ⟨g4, h⟩ := h
    refine a_icmp_ne (tgt := 29) hΓ g4 (inRl (by decide)) dX6_portion_24 (by decide) (fun c5 => ?_) (fun c5 => ?_)
    · rw [if_pos c5] at h
      refine a_iconst hΓ dX6_portion_27 ?_
      exact a_iret hΓ hr dX6_portion_28 ⟨_, _, rfl, rfl, h⟩
    · rw [if_neg c5] at h
      refine a_iload_n hΓ 3 dX6_portion_29 rfl rfl ?_
      obtain ⟨g6, h⟩ := h
      by_cases c7 : v1 = 0
      · rw [if_pos c7] at h
        refine a_tswIn (tgt := 56) hΓ g6 dX6_portion_30 (by rw [c7]; decide) (by rw [c7]; decide) (by rw [c7]; rfl) (by decide) ?_
        refine a_iload hΓ 1 dX6_portion_56 rfl ?_
        refine a_iload hΓ 1 dX6_portion_58 rfl ?_
        refine a_imul hΓ dX6_portion_60 ?_
        refine a_aload_n hΓ 2 dX6_portion_61 rfl rfl ?_
        refine n_getR hΓ fl_RX6_43 cl_6 kd_72 lz_72 dX6_portion_62 ft_6_0 rf_72_0 ?_
        refine n_getR hΓ fl_RX6_152 cl_0 kd_1 lz_1 dX6_portion_65 ft_0_7 rf_1_7 ?_
        refine a_aload_n hΓ 2 dX6_portion_68 rfl rfl ?_
        refine n_getI (x := (M 72 1)) hΓ fl_RX6_47 cl_6 kd_72 lz_72 dX6_portion_69 (Or.inl ft_6_1) rfl ?_
        obtain ⟨g8, h⟩ := h
        refine n_iald (x := (M 2 (M 72 1))) hΓ dX6_portion_72 kd_2 lz_2 g8 rfl ?_
        refine a_imul hΓ dX6_portion_73 ?_
        exact a_iret hΓ hr dX6_portion_74 ⟨_, _, rfl, rfl, h⟩
      · rw [if_neg c7] at h
        by_cases c9 : v1 = 1
        · rw [if_pos c9] at h
          refine a_tswIn (tgt := 75) hΓ g6 dX6_portion_30 (by rw [c9]; decide) (by rw [c9]; decide) (by rw [c9]; rfl) (by decide) ?_
          refine a_aload_n hΓ 2 dX6_portion_75 rfl rfl ?_
          refine n_getR hΓ fl_RX6_43 cl_6 kd_72 lz_72 dX6_portion_76 ft_6_0 rf_72_0 ?_
          refine n_getR hΓ fl_RX6_63 cl_0 kd_1 lz_1 dX6_portion_79 ft_0_13 rf_1_13 ?_
          refine n_getR hΓ fl_RX6_155 cl_3 kd_8 lz_8 dX6_portion_82 ft_3_5 rf_8_5 ?_
          refine a_iload hΓ 0 dX6_portion_85 rfl ?_
          obtain ⟨g10, h⟩ := h
          refine n_iald (x := (M 13 (M 73 v2))) hΓ dX6_portion_87 kd_13 lz_13 g10 rfl ?_
          refine a_aload_n hΓ 2 dX6_portion_88 rfl rfl ?_
          refine n_getR hΓ fl_RX6_43 cl_6 kd_72 lz_72 dX6_portion_89 ft_6_0 rf_72_0 ?_
          refine n_getR hΓ fl_RX6_63 cl_0 kd_1 lz_1 dX6_portion_92 ft_0_13 rf_1_13 ?_
          refine n_getR hΓ fl_RX6_155 cl_3 kd_8 lz_8 dX6_portion_95 ft_3_5 rf_8_5 ?_
          refine a_iload hΓ 0 dX6_portion_98 rfl ?_
          refine n_iald (x := (M 13 (M 73 v2))) hΓ dX6_portion_100 kd_13 lz_13 g10 rfl ?_
          refine a_imul hΓ dX6_portion_101 ?_
          refine a_iload hΓ 1 dX6_portion_102 rfl ?_
          refine a_imul hΓ dX6_portion_104 ?_
          exact a_iret hΓ hr dX6_portion_105 ⟨_, _, rfl, rfl, h⟩
        · rw [if_neg c9] at h
          by_cases c11 : v1 = 2
          · rw [if_pos c11] at h
            refine a_tswIn (tgt := 106) hΓ g6 dX6_portion_30 (by rw [c11]; decide) (by rw [c11]; decide) (by rw [c11]; rfl) (by decide) ?_
            refine a_aload_n hΓ 2 dX6_portion_106 rfl rfl ?_
            refine n_getR hΓ fl_RX6_43 cl_6 kd_72 lz_72 dX6_portion_107 ft_6_0 rf_72_0 ?_
            refine n_getR hΓ fl_RX6_63 cl_0 kd_1 lz_1 dX6_portion_110 ft_0_13 rf_1_13 ?_
            refine n_getR hΓ fl_RX6_158 cl_3 kd_8 lz_8 dX6_portion_113 ft_3_6 rf_8_6 ?_
            refine a_iload hΓ 0 dX6_portion_116 rfl ?_
            obtain ⟨g12, h⟩ := h
            refine n_iald (x := (M 14 (M 73 v2))) hΓ dX6_portion_118 kd_14 lz_14 g12 rfl ?_
            refine a_iload hΓ 1 dX6_portion_119 rfl ?_
            refine a_imul hΓ dX6_portion_121 ?_
            exact a_iret hΓ hr dX6_portion_122 ⟨_, _, rfl, rfl, h⟩
          · rw [if_neg c11] at h
            refine a_tswOut (tgt := 123) hΓ g6 dX6_portion_30 (by omega) (by decide) ?_
            refine a_iload hΓ 1 dX6_portion_123 rfl ?_
            refine a_iload hΓ 1 dX6_portion_125 rfl ?_
            refine a_imul hΓ dX6_portion_127 ?_
            refine a_iload_n hΓ 5 dX6_portion_128 rfl rfl ?_
            refine a_imul hΓ dX6_portion_129 ?_
            exact a_iret hΓ hr dX6_portion_130 ⟨_, _, rfl, rfl, h⟩
theorem ct_wX6_portion (l : Launch) (g : Gp) (v1 : Int) (v2 : Int) (v3 : Int) (M : Mm) (Q : Int → Mm → Prop) (h : wX6_portion v1 v2 v3 M Q) : Ct l g yX6_portion cX6_portion 6 (some .int) 1 0 0 [aR 72, aI v1, aI v2, aI v3] (NC, RF, M) (QI Q) :=
  ct_of (by decide) (Nat.le_of_ble_eq_true rfl) (fun Γ hg hl hr _ hΓ => by subst hg; subst hl; exact s_wX6_portion hΓ (by decide) hr v1 v2 v3 M h)
def wJ9_floorDiv_7cf53 (v0 : Int) (v1 : Int) (M : Mm) (Q : Int → Mm → Prop) : Prop :=
    (inR v0) ∧
    (inR v1) ∧
    (v1 ≠ 0) ∧
    (if (lxorI v0 v1) < 0 then
      (inR ((Int.tdiv v0 v1) * v1)) ∧
      (if ((Int.tdiv v0 v1) * v1) = v0 then
        Q (Int.tdiv v0 v1) M
      else
        Q ((Int.tdiv v0 v1) - 1) M)
    else
      Q (Int.tdiv v0 v1) M)
set_option maxHeartbeats 4000000 in
theorem s_wJ9_floorDiv_7cf53 {Γ : Cx} {h : Nat} (hΓ : Ok Γ cJ9_floorDiv_7cf53 RJ9 3 h 0 0) (hh : 1 ≤ h) (hr : (cxm Γ).sig.returnType = (some .int)) {Q : Int → Mm → Prop} (v0 : Int) (v1 : Int) (M : Mm) (h : wJ9_floorDiv_7cf53 v0 v1 M Q) : Wa Γ 3 (Kf Γ (QI Q) 0 0) 0 0 0 [(0, aI v0), (1, aI v1)] [] (NC, RF, M) := by
  unfold wJ9_floorDiv_7cf53 at h
  refine a_iload_n hΓ 0 dJ9_floorDiv_7cf53_0 rfl rfl ?_
  refine a_iload_n hΓ 1 dJ9_floorDiv_7cf53_1 rfl rfl ?_
  obtain ⟨g1, h⟩ := h
  obtain ⟨g2, h⟩ := h
  obtain ⟨g3, h⟩ := h
  refine a_idiv hΓ g1 g2 g3 dJ9_floorDiv_7cf53_2 ?_
  refine a_istore_n (ls' := [(2, aI (Int.tdiv v0 v1)), (0, aI v0), (1, aI v1)]) hΓ dJ9_floorDiv_7cf53_3 rfl (by decide) rfl ?_
  refine a_iload_n hΓ 1 dJ9_floorDiv_7cf53_4 rfl rfl ?_
  refine a_iload_n hΓ 2 dJ9_floorDiv_7cf53_5 rfl rfl ?_
  refine a_ixor hΓ dJ9_floorDiv_7cf53_6 ?_
  refine a_if_ge (tgt := 21) hΓ (inR_lxor _ _) dJ9_floorDiv_7cf53_7 (by decide) (fun c4 => ?_) (fun c4 => ?_)
  · rw [if_pos c4] at h
    refine a_iload_n hΓ 0 dJ9_floorDiv_7cf53_10 rfl rfl ?_
    refine a_iload_n hΓ 2 dJ9_floorDiv_7cf53_11 rfl rfl ?_
    refine a_imul hΓ dJ9_floorDiv_7cf53_12 ?_
    refine a_iload_n hΓ 1 dJ9_floorDiv_7cf53_13 rfl rfl ?_
    obtain ⟨g5, h⟩ := h
    refine a_icmp_eq (tgt := 21) hΓ g5 g1 dJ9_floorDiv_7cf53_14 (by decide) (fun c6 => ?_) (fun c6 => ?_)
    · rw [if_pos c6] at h
      refine a_iload_n hΓ 0 dJ9_floorDiv_7cf53_21 rfl rfl ?_
      exact a_iret hΓ hr dJ9_floorDiv_7cf53_22 ⟨_, _, rfl, rfl, h⟩
    · rw [if_neg c6] at h
      refine a_iload_n hΓ 0 dJ9_floorDiv_7cf53_17 rfl rfl ?_
      refine a_iconst hΓ dJ9_floorDiv_7cf53_18 ?_
      refine a_isub hΓ dJ9_floorDiv_7cf53_19 ?_
      exact a_iret hΓ hr dJ9_floorDiv_7cf53_20 ⟨_, _, rfl, rfl, h⟩
  · rw [if_neg c4] at h
    refine a_iload_n hΓ 0 dJ9_floorDiv_7cf53_21 rfl rfl ?_
    exact a_iret hΓ hr dJ9_floorDiv_7cf53_22 ⟨_, _, rfl, rfl, h⟩
theorem ct_wJ9_floorDiv_7cf53 (l : Launch) (g : Gp) (v0 : Int) (v1 : Int) (M : Mm) (Q : Int → Mm → Prop) (h : wJ9_floorDiv_7cf53 v0 v1 M Q) : Ct l g yJ9_floorDiv_7cf53 cJ9_floorDiv_7cf53 3 (some .int) 1 0 0 [aI v0, aI v1] (NC, RF, M) (QI Q) :=
  ct_ofF (by decide +kernel) (Nat.le_of_ble_eq_true rfl) (fun Γ hg hl hr _ hΓ => by subst hg; subst hl; exact s_wJ9_floorDiv_7cf53 hΓ (by decide) hr v0 v1 M h)
def wJ9_max_7cf53 (v0 : Int) (v1 : Int) (M : Mm) (Q : Int → Mm → Prop) : Prop :=
    (inR v0) ∧
    (inR v1) ∧
    (if v0 < v1 then
      Q v1 M
    else
      Q v0 M)
set_option maxHeartbeats 4000000 in
theorem s_wJ9_max_7cf53 {Γ : Cx} {h : Nat} (hΓ : Ok Γ cJ9_max_7cf53 RJ9 2 h 0 0) (hh : 1 ≤ h) (hr : (cxm Γ).sig.returnType = (some .int)) {Q : Int → Mm → Prop} (v0 : Int) (v1 : Int) (M : Mm) (h : wJ9_max_7cf53 v0 v1 M Q) : Wa Γ 2 (Kf Γ (QI Q) 0 0) 0 0 0 [(0, aI v0), (1, aI v1)] [] (NC, RF, M) := by
  unfold wJ9_max_7cf53 at h
  refine a_iload_n hΓ 0 dJ9_max_7cf53_0 rfl rfl ?_
  refine a_iload_n hΓ 1 dJ9_max_7cf53_1 rfl rfl ?_
  obtain ⟨g1, h⟩ := h
  obtain ⟨g2, h⟩ := h
  refine a_icmp_lt (tgt := 9) hΓ g1 g2 dJ9_max_7cf53_2 (by decide) (fun c3 => ?_) (fun c3 => ?_)
  · rw [if_pos c3] at h
    refine a_iload_n hΓ 1 dJ9_max_7cf53_9 rfl rfl ?_
    exact a_iret hΓ hr dJ9_max_7cf53_10 ⟨_, _, rfl, rfl, h⟩
  · rw [if_neg c3] at h
    refine a_iload_n hΓ 0 dJ9_max_7cf53_5 rfl rfl ?_
    refine a_goto (tgt := 10) hΓ dJ9_max_7cf53_6 (by decide) ?_
    exact a_iret hΓ hr dJ9_max_7cf53_10 ⟨_, _, rfl, rfl, h⟩
theorem ct_wJ9_max_7cf53 (l : Launch) (g : Gp) (v0 : Int) (v1 : Int) (M : Mm) (Q : Int → Mm → Prop) (h : wJ9_max_7cf53 v0 v1 M Q) : Ct l g yJ9_max_7cf53 cJ9_max_7cf53 2 (some .int) 1 0 0 [aI v0, aI v1] (NC, RF, M) (QI Q) :=
  ct_ofF (by decide +kernel) (Nat.le_of_ble_eq_true rfl) (fun Γ hg hl hr _ hΓ => by subst hg; subst hl; exact s_wJ9_max_7cf53 hΓ (by decide) hr v0 v1 M h)
def wJ9_min_7cf53 (v0 : Int) (v1 : Int) (M : Mm) (Q : Int → Mm → Prop) : Prop :=
    (inR v0) ∧
    (inR v1) ∧
    (if v0 ≤ v1 then
      Q v0 M
    else
      Q v1 M)
set_option maxHeartbeats 4000000 in
theorem s_wJ9_min_7cf53 {Γ : Cx} {h : Nat} (hΓ : Ok Γ cJ9_min_7cf53 RJ9 2 h 0 0) (hh : 1 ≤ h) (hr : (cxm Γ).sig.returnType = (some .int)) {Q : Int → Mm → Prop} (v0 : Int) (v1 : Int) (M : Mm) (h : wJ9_min_7cf53 v0 v1 M Q) : Wa Γ 2 (Kf Γ (QI Q) 0 0) 0 0 0 [(0, aI v0), (1, aI v1)] [] (NC, RF, M) := by
  unfold wJ9_min_7cf53 at h
  refine a_iload_n hΓ 0 dJ9_min_7cf53_0 rfl rfl ?_
  refine a_iload_n hΓ 1 dJ9_min_7cf53_1 rfl rfl ?_
  obtain ⟨g1, h⟩ := h
  obtain ⟨g2, h⟩ := h
  refine a_icmp_gt (tgt := 9) hΓ g1 g2 dJ9_min_7cf53_2 (by decide) (fun c3 => ?_) (fun c3 => ?_)
  · rw [if_pos c3] at h
    refine a_iload_n hΓ 0 dJ9_min_7cf53_5 rfl rfl ?_
    refine a_goto (tgt := 10) hΓ dJ9_min_7cf53_6 (by decide) ?_
    exact a_iret hΓ hr dJ9_min_7cf53_10 ⟨_, _, rfl, rfl, h⟩
  · rw [if_neg c3] at h
    refine a_iload_n hΓ 1 dJ9_min_7cf53_9 rfl rfl ?_
    exact a_iret hΓ hr dJ9_min_7cf53_10 ⟨_, _, rfl, rfl, h⟩
theorem ct_wJ9_min_7cf53 (l : Launch) (g : Gp) (v0 : Int) (v1 : Int) (M : Mm) (Q : Int → Mm → Prop) (h : wJ9_min_7cf53 v0 v1 M Q) : Ct l g yJ9_min_7cf53 cJ9_min_7cf53 2 (some .int) 1 0 0 [aI v0, aI v1] (NC, RF, M) (QI Q) :=
  ct_ofF (by decide +kernel) (Nat.le_of_ble_eq_true rfl) (fun Γ hg hl hr _ hΓ => by subst hg; subst hl; exact s_wJ9_min_7cf53 hΓ (by decide) hr v0 v1 M h)
def wX6_readFuel (v1 : Int) (v2 : Int) (v3 : Int) (v4 : Int) (M : Mm) (Q : Mm → Prop) : Prop :=
    (0 ≤ v2 ∧ v2 < 120) ∧
    (inR ((M 74 v2) * (M 74 v2))) ∧
    (if ((M 74 v2) * (M 74 v2)) = 0 then
      Bv (wX6_keepReading v1 1 0 M) (fun M7 =>
      Q M7)
    else
      Bd (wX6_portion 0 v2 0 M) (fun r10 M11 =>
      Bd (wX6_portion 1 v2 0 M11) (fun r14 M15 =>
      Bd (wX6_portion 2 v2 0 M15) (fun r18 M19 =>
      Bd (wJ9_floorDiv_7cf53 (((r10 + r14) + r18) - (100 * (v3 - v4))) ((M 74 v2) * (M 74 v2)) M19) (fun r22 M23 =>
      Bd (wJ9_floorDiv_7cf53 (((100 * (v3 + v4)) + 99) - ((r10 + r14) + r18)) ((M 74 v2) * (M 74 v2)) M23) (fun r26 M27 =>
      Bd (wJ9_max_7cf53 (-r22) 0 M27) (fun r30 M31 =>
      Bd (wJ9_min_7cf53 r26 1000 M31) (fun r34 M35 =>
      Bv (wX6_keepReading v1 r30 r34 M35) (fun M39 =>
      Q M39)))))))))
set_option maxHeartbeats 4000000 in
theorem s_wX6_readFuel {Γ : Cx} {h : Nat} (hΓ : Ok Γ cX6_readFuel RX6 9 h 0 0) (hh : 2 ≤ h) (hr : (cxm Γ).sig.returnType = none) {Q : Mm → Prop} (v1 : Int) (v2 : Int) (v3 : Int) (v4 : Int) (M : Mm) (h : wX6_readFuel v1 v2 v3 v4 M Q) : Wa Γ 9 (Kf Γ (QV Q) 0 0) 0 0 0 [(0, aR 72), (1, aI v1), (2, aI v2), (3, aI v3), (4, aI v4)] [] (NC, RF, M) := by
  unfold wX6_readFuel at h
  refine a_aload_n hΓ 0 dX6_readFuel_0 rfl rfl ?_
  refine n_getR hΓ fl_RX6_15 cl_6 kd_72 lz_72 dX6_readFuel_1 ft_6_3 rf_72_3 ?_
  refine a_iload_n hΓ 2 dX6_readFuel_4 rfl rfl ?_
  obtain ⟨g1, h⟩ := h
  refine n_iald (x := (M 74 v2)) hΓ dX6_readFuel_5 kd_74 lz_74 g1 rfl ?_
  refine a_aload_n hΓ 0 dX6_readFuel_6 rfl rfl ?_
  refine n_getR hΓ fl_RX6_15 cl_6 kd_72 lz_72 dX6_readFuel_7 ft_6_3 rf_72_3 ?_
  refine a_iload_n hΓ 2 dX6_readFuel_10 rfl rfl ?_
  refine n_iald (x := (M 74 v2)) hΓ dX6_readFuel_11 kd_74 lz_74 g1 rfl ?_
  refine a_imul hΓ dX6_readFuel_12 ?_
  refine a_istore (ls' := [(5, aI ((M 74 v2) * (M 74 v2))), (0, aR 72), (1, aI v1), (2, aI v2), (3, aI v3), (4, aI v4)]) hΓ dX6_readFuel_13 (by decide) rfl ?_
  refine a_iload hΓ 0 dX6_readFuel_15 rfl ?_
  obtain ⟨g2, h⟩ := h
  refine a_if_ne (tgt := 28) hΓ g2 dX6_readFuel_17 (by decide) (fun c3 => ?_) (fun c3 => ?_)
  · rw [if_pos c3] at h
    refine a_aload_n hΓ 1 dX6_readFuel_20 rfl rfl ?_
    refine a_iload_n hΓ 2 dX6_readFuel_21 rfl rfl ?_
    refine a_iconst hΓ dX6_readFuel_22 ?_
    refine a_iconst hΓ dX6_readFuel_23 ?_
    obtain ⟨P4, q5, h⟩ := h
    refine n_callV (c := 72) (av := [aI v1, aI 1, aI 0]) (st := []) hΓ (ct_wX6_keepReading _ _ v1 1 0 M P4 q5) my_X6_keepReading ml_RX6_121 ni_X6_keepReading kd_72 rfl lz_72 rfl (Nat.le_trans (by decide) hh) (by decide) (Nat.le_of_ble_eq_true rfl) rfl dX6_readFuel_24 (fun v Z' hq => ?_)
    obtain ⟨M7, rfl, rfl, hq⟩ := hq
    have h := h M7 hq
    dsimp only at h
    exact a_vret hΓ hr dX6_readFuel_27 ⟨_, rfl, rfl, h⟩
  · rw [if_neg c3] at h
    refine a_aload_n hΓ 1 dX6_readFuel_28 rfl rfl ?_
    refine a_iconst hΓ dX6_readFuel_29 ?_
    refine a_iload_n hΓ 3 dX6_readFuel_30 rfl rfl ?_
    refine a_iconst hΓ dX6_readFuel_31 ?_
    obtain ⟨P8, q9, h⟩ := h
    refine n_callV (c := 72) (av := [aI 0, aI v2, aI 0]) (st := []) hΓ (ct_wX6_portion _ _ 0 v2 0 M P8 q9) my_X6_portion ml_RX6_130 ni_X6_portion kd_72 rfl lz_72 rfl (Nat.le_trans (by decide) hh) (by decide) (Nat.le_of_ble_eq_true rfl) rfl dX6_readFuel_32 (fun v Z' hq => ?_)
    obtain ⟨r10, M11, rfl, rfl, hq⟩ := hq
    have h := h r10 M11 hq
    dsimp only at h
    refine a_aload_n hΓ 1 dX6_readFuel_35 rfl rfl ?_
    refine a_iconst hΓ dX6_readFuel_36 ?_
    refine a_iload_n hΓ 3 dX6_readFuel_37 rfl rfl ?_
    refine a_iconst hΓ dX6_readFuel_38 ?_
    obtain ⟨P12, q13, h⟩ := h
    refine n_callV (c := 72) (av := [aI 1, aI v2, aI 0]) (st := [aI r10]) hΓ (ct_wX6_portion _ _ 1 v2 0 M11 P12 q13) my_X6_portion ml_RX6_130 ni_X6_portion kd_72 rfl lz_72 rfl (Nat.le_trans (by decide) hh) (by decide) (Nat.le_of_ble_eq_true rfl) rfl dX6_readFuel_39 (fun v Z' hq => ?_)
    obtain ⟨r14, M15, rfl, rfl, hq⟩ := hq
    have h := h r14 M15 hq
    dsimp only at h
    refine a_iadd hΓ dX6_readFuel_42 ?_
    refine a_aload_n hΓ 1 dX6_readFuel_43 rfl rfl ?_
    refine a_iconst hΓ dX6_readFuel_44 ?_
    refine a_iload_n hΓ 3 dX6_readFuel_45 rfl rfl ?_
    refine a_iconst hΓ dX6_readFuel_46 ?_
    obtain ⟨P16, q17, h⟩ := h
    refine n_callV (c := 72) (av := [aI 2, aI v2, aI 0]) (st := [aI (r10 + r14)]) hΓ (ct_wX6_portion _ _ 2 v2 0 M15 P16 q17) my_X6_portion ml_RX6_130 ni_X6_portion kd_72 rfl lz_72 rfl (Nat.le_trans (by decide) hh) (by decide) (Nat.le_of_ble_eq_true rfl) rfl dX6_readFuel_47 (fun v Z' hq => ?_)
    obtain ⟨r18, M19, rfl, rfl, hq⟩ := hq
    have h := h r18 M19 hq
    dsimp only at h
    refine a_iadd hΓ dX6_readFuel_50 ?_
    refine a_istore (ls' := [(6, aI ((r10 + r14) + r18)), (5, aI ((M 74 v2) * (M 74 v2))), (0, aR 72), (1, aI v1), (2, aI v2), (3, aI v3), (4, aI v4)]) hΓ dX6_readFuel_51 (by decide) rfl ?_
    refine a_iload hΓ 0 dX6_readFuel_53 rfl ?_
    refine a_bipush hΓ dX6_readFuel_55 (by decide) ?_
    refine a_iload_n hΓ 5 dX6_readFuel_57 rfl rfl ?_
    refine a_iload hΓ 6 dX6_readFuel_58 rfl ?_
    refine a_isub hΓ dX6_readFuel_60 ?_
    refine a_imul hΓ dX6_readFuel_61 ?_
    refine a_isub hΓ dX6_readFuel_62 ?_
    refine a_iload hΓ 1 dX6_readFuel_63 rfl ?_
    obtain ⟨P20, q21, h⟩ := h
    refine n_callS (av := [aI (((r10 + r14) + r18) - (100 * (v3 - v4))), aI ((M 74 v2) * (M 74 v2))]) (st := []) hΓ (ct_wJ9_floorDiv_7cf53 _ _ (((r10 + r14) + r18) - (100 * (v3 - v4))) ((M 74 v2) * (M 74 v2)) M19 P20 q21) my_J9_floorDiv_7cf53 ml_RX6_134 rfl (Nat.le_trans (by decide) hh) (by decide) (Nat.le_of_ble_eq_true rfl) rfl dX6_readFuel_65 (fun v Z' hq => ?_)
    obtain ⟨r22, M23, rfl, rfl, hq⟩ := hq
    have h := h r22 M23 hq
    dsimp only at h
    refine a_ineg hΓ dX6_readFuel_68 ?_
    refine a_istore (ls' := [(7, aI (-r22)), (6, aI ((r10 + r14) + r18)), (5, aI ((M 74 v2) * (M 74 v2))), (0, aR 72), (1, aI v1), (2, aI v2), (3, aI v3), (4, aI v4)]) hΓ dX6_readFuel_69 (by decide) rfl ?_
    refine a_bipush hΓ dX6_readFuel_71 (by decide) ?_
    refine a_iload_n hΓ 6 dX6_readFuel_73 rfl rfl ?_
    refine a_iload hΓ 7 dX6_readFuel_74 rfl ?_
    refine a_iadd hΓ dX6_readFuel_76 ?_
    refine a_imul hΓ dX6_readFuel_77 ?_
    refine a_bipush hΓ dX6_readFuel_78 (by decide) ?_
    refine a_iadd hΓ dX6_readFuel_80 ?_
    refine a_iload hΓ 1 dX6_readFuel_81 rfl ?_
    refine a_isub hΓ dX6_readFuel_83 ?_
    refine a_iload hΓ 2 dX6_readFuel_84 rfl ?_
    obtain ⟨P24, q25, h⟩ := h
    refine n_callS (av := [aI (((100 * (v3 + v4)) + 99) - ((r10 + r14) + r18)), aI ((M 74 v2) * (M 74 v2))]) (st := []) hΓ (ct_wJ9_floorDiv_7cf53 _ _ (((100 * (v3 + v4)) + 99) - ((r10 + r14) + r18)) ((M 74 v2) * (M 74 v2)) M23 P24 q25) my_J9_floorDiv_7cf53 ml_RX6_134 rfl (Nat.le_trans (by decide) hh) (by decide) (Nat.le_of_ble_eq_true rfl) rfl dX6_readFuel_86 (fun v Z' hq => ?_)
    obtain ⟨r26, M27, rfl, rfl, hq⟩ := hq
    have h := h r26 M27 hq
    dsimp only at h
    refine a_istore (ls' := [(8, aI r26), (7, aI (-r22)), (6, aI ((r10 + r14) + r18)), (5, aI ((M 74 v2) * (M 74 v2))), (0, aR 72), (1, aI v1), (2, aI v2), (3, aI v3), (4, aI v4)]) hΓ dX6_readFuel_89 (by decide) rfl ?_
    refine a_aload_n hΓ 4 dX6_readFuel_91 rfl rfl ?_
    refine a_iload_n hΓ 5 dX6_readFuel_92 rfl rfl ?_
    refine a_iload hΓ 1 dX6_readFuel_93 rfl ?_
    refine a_iconst hΓ dX6_readFuel_95 ?_
    obtain ⟨P28, q29, h⟩ := h
    refine n_callS (av := [aI (-r22), aI 0]) (st := [aI v1, aR 72]) hΓ (ct_wJ9_max_7cf53 _ _ (-r22) 0 M27 P28 q29) my_J9_max_7cf53 ml_RX6_140 rfl (Nat.le_trans (by decide) hh) (by decide) (Nat.le_of_ble_eq_true rfl) rfl dX6_readFuel_96 (fun v Z' hq => ?_)
    obtain ⟨r30, M31, rfl, rfl, hq⟩ := hq
    have h := h r30 M31 hq
    dsimp only at h
    refine a_iload hΓ 0 dX6_readFuel_99 rfl ?_
    refine a_sipush hΓ dX6_readFuel_101 (by decide) ?_
    obtain ⟨P32, q33, h⟩ := h
    refine n_callS (av := [aI r26, aI 1000]) (st := [aI r30, aI v1, aR 72]) hΓ (ct_wJ9_min_7cf53 _ _ r26 1000 M31 P32 q33) my_J9_min_7cf53 ml_RX6_143 rfl (Nat.le_trans (by decide) hh) (by decide) (Nat.le_of_ble_eq_true rfl) rfl dX6_readFuel_104 (fun v Z' hq => ?_)
    obtain ⟨r34, M35, rfl, rfl, hq⟩ := hq
    have h := h r34 M35 hq
    dsimp only at h
    obtain ⟨P36, q37, h⟩ := h
    refine n_callV (c := 72) (av := [aI v1, aI r30, aI r34]) (st := []) hΓ (ct_wX6_keepReading _ _ v1 r30 r34 M35 P36 q37) my_X6_keepReading ml_RX6_121 ni_X6_keepReading kd_72 rfl lz_72 rfl (Nat.le_trans (by decide) hh) (by decide) (Nat.le_of_ble_eq_true rfl) rfl dX6_readFuel_107 (fun v Z' hq => ?_)
    obtain ⟨M39, rfl, rfl, hq⟩ := hq
    have h := h M39 hq
    dsimp only at h
    exact a_vret hΓ hr dX6_readFuel_110 ⟨_, rfl, rfl, h⟩
theorem ct_wX6_readFuel (l : Launch) (g : Gp) (v1 : Int) (v2 : Int) (v3 : Int) (v4 : Int) (M : Mm) (Q : Mm → Prop) (h : wX6_readFuel v1 v2 v3 v4 M Q) : Ct l g yX6_readFuel cX6_readFuel 9 none 2 0 0 [aR 72, aI v1, aI v2, aI v3, aI v4] (NC, RF, M) (QV Q) :=
  ct_of (by decide) (Nat.le_of_ble_eq_true rfl) (fun Γ hg hl hr _ hΓ => by subst hg; subst hl; exact s_wX6_readFuel hΓ (by decide) hr v1 v2 v3 v4 M h)
