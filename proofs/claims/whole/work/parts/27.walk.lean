/-! ===== printed by tools/gen.py ===== -/
def wX0_copyFrom_2  (M : Mm) (Q : Mm → Prop) : Prop :=
    Bv (wX3_copyFrom_2 (cpy (cpy (cpy (cpy (cpy (cpy (up (up (up (up (up (up (up M 48 0 (M 1 0)) 48 1 (M 1 1)) 48 2 (M 1 2)) 48 3 (M 1 3)) 48 4 (M 1 4)) 48 5 (M 1 5)) 48 6 (M 1 6)) 2 49 3) 3 50 10) 4 51 10) 5 52 40) 6 53 40) 7 54 40)) (fun M4 =>
    Bv (wX4_copyFrom_2 M4) (fun M8 =>
    Q M8))
set_option maxHeartbeats 4000000 in
theorem s_wX0_copyFrom_2 {Γ : Cx} {h : Nat} (hΓ : Ok Γ cX0_copyFrom RX0 2 h 0 0) (hh : 2 ≤ h) (hr : (cxm Γ).sig.returnType = none) {Q : Mm → Prop}  (M : Mm) (h : wX0_copyFrom_2  M Q) : Wa Γ 2 (Kf Γ (QV Q) 0 0) 0 0 0 [(0, aR 48), (1, aR 1)] [] (NC, RF, M) := by
  unfold wX0_copyFrom_2 at h
  refine a_aload_n hΓ 0 dX0_copyFrom_0 rfl rfl ?_
  refine a_aload_n hΓ 1 dX0_copyFrom_1 rfl rfl ?_
  refine n_getI (x := (M 1 0)) hΓ fl_RX0_57 cl_0 kd_1 lz_1 dX0_copyFrom_2 (Or.inl ft_0_0) rfl ?_
  refine n_putI (j := 0) hΓ fl_RX0_57 cl_0 nf_0_0 kd_48 lz_48 dX0_copyFrom_5 (Or.inl ft_0_0) rfl ?_
  refine a_aload_n hΓ 0 dX0_copyFrom_8 rfl rfl ?_
  refine a_aload_n hΓ 1 dX0_copyFrom_9 rfl rfl ?_
  refine n_getI (x := (M 1 1)) hΓ fl_RX0_54 cl_0 kd_1 lz_1 dX0_copyFrom_10 (Or.inl ft_0_1) rfl ?_
  refine n_putI (j := 1) hΓ fl_RX0_54 cl_0 nf_0_1 kd_48 lz_48 dX0_copyFrom_13 (Or.inl ft_0_1) rfl ?_
  refine a_aload_n hΓ 0 dX0_copyFrom_16 rfl rfl ?_
  refine a_aload_n hΓ 1 dX0_copyFrom_17 rfl rfl ?_
  refine n_getI (x := (M 1 2)) hΓ fl_RX0_9 cl_0 kd_1 lz_1 dX0_copyFrom_18 (Or.inl ft_0_2) rfl ?_
  refine n_putI (j := 2) hΓ fl_RX0_9 cl_0 nf_0_2 kd_48 lz_48 dX0_copyFrom_21 (Or.inl ft_0_2) rfl ?_
  refine a_aload_n hΓ 0 dX0_copyFrom_24 rfl rfl ?_
  refine a_aload_n hΓ 1 dX0_copyFrom_25 rfl rfl ?_
  refine n_getI (x := (M 1 3)) hΓ fl_RX0_15 cl_0 kd_1 lz_1 dX0_copyFrom_26 (Or.inl ft_0_3) rfl ?_
  refine n_putI (j := 3) hΓ fl_RX0_15 cl_0 nf_0_3 kd_48 lz_48 dX0_copyFrom_29 (Or.inl ft_0_3) rfl ?_
  refine a_aload_n hΓ 0 dX0_copyFrom_32 rfl rfl ?_
  refine a_aload_n hΓ 1 dX0_copyFrom_33 rfl rfl ?_
  refine n_getI (x := (M 1 4)) hΓ fl_RX0_18 cl_0 kd_1 lz_1 dX0_copyFrom_34 (Or.inl ft_0_4) rfl ?_
  refine n_putI (j := 4) hΓ fl_RX0_18 cl_0 nf_0_4 kd_48 lz_48 dX0_copyFrom_37 (Or.inl ft_0_4) rfl ?_
  refine a_aload_n hΓ 0 dX0_copyFrom_40 rfl rfl ?_
  refine a_aload_n hΓ 1 dX0_copyFrom_41 rfl rfl ?_
  refine n_getL (x := (M 1 5)) hΓ fl_RX0_60 cl_0 kd_1 lz_1 dX0_copyFrom_42 ft_0_5 rfl ?_
  refine n_putL (j := 5) hΓ fl_RX0_60 cl_0 nf_0_5 kd_48 lz_48 dX0_copyFrom_45 ft_0_5 rfl ?_
  refine a_aload_n hΓ 0 dX0_copyFrom_48 rfl rfl ?_
  refine a_aload_n hΓ 1 dX0_copyFrom_49 rfl rfl ?_
  refine n_getL (x := (M 1 6)) hΓ fl_RX0_64 cl_0 kd_1 lz_1 dX0_copyFrom_50 ft_0_6 rfl ?_
  refine n_putL (j := 6) hΓ fl_RX0_64 cl_0 nf_0_6 kd_48 lz_48 dX0_copyFrom_53 ft_0_6 rfl ?_
  refine a_aload_n hΓ 1 dX0_copyFrom_56 rfl rfl ?_
  refine n_getR hΓ fl_RX0_21 cl_0 kd_1 lz_1 dX0_copyFrom_57 ft_0_7 rf_1_7 ?_
  refine a_iconst hΓ dX0_copyFrom_60 ?_
  refine a_aload_n hΓ 0 dX0_copyFrom_61 rfl rfl ?_
  refine n_getR hΓ fl_RX0_21 cl_0 kd_48 lz_48 dX0_copyFrom_62 ft_0_7 rf_48_7 ?_
  refine a_iconst hΓ dX0_copyFrom_65 ?_
  refine a_iconst hΓ dX0_copyFrom_66 ?_
  refine n_copy hΓ (Nat.le_trans (by decide) hh) ml_RX0_67 kd_2 kd_49 lz_2 lz_49 rfl (Nat.le_of_ble_eq_true rfl) dX0_copyFrom_67 ?_
  refine a_aload_n hΓ 1 dX0_copyFrom_70 rfl rfl ?_
  refine n_getR hΓ fl_RX0_25 cl_0 kd_1 lz_1 dX0_copyFrom_71 ft_0_8 rf_1_8 ?_
  refine a_iconst hΓ dX0_copyFrom_74 ?_
  refine a_aload_n hΓ 0 dX0_copyFrom_75 rfl rfl ?_
  refine n_getR hΓ fl_RX0_25 cl_0 kd_48 lz_48 dX0_copyFrom_76 ft_0_8 rf_48_8 ?_
  refine a_iconst hΓ dX0_copyFrom_79 ?_
  refine a_bipush hΓ dX0_copyFrom_80 (by decide) ?_
  refine n_copy hΓ (Nat.le_trans (by decide) hh) ml_RX0_67 kd_3 kd_50 lz_3 lz_50 rfl (Nat.le_of_ble_eq_true rfl) dX0_copyFrom_82 ?_
  refine a_aload_n hΓ 1 dX0_copyFrom_85 rfl rfl ?_
  refine n_getR hΓ fl_RX0_28 cl_0 kd_1 lz_1 dX0_copyFrom_86 ft_0_9 rf_1_9 ?_
  refine a_iconst hΓ dX0_copyFrom_89 ?_
  refine a_aload_n hΓ 0 dX0_copyFrom_90 rfl rfl ?_
  refine n_getR hΓ fl_RX0_28 cl_0 kd_48 lz_48 dX0_copyFrom_91 ft_0_9 rf_48_9 ?_
  refine a_iconst hΓ dX0_copyFrom_94 ?_
  refine a_bipush hΓ dX0_copyFrom_95 (by decide) ?_
  refine n_copy hΓ (Nat.le_trans (by decide) hh) ml_RX0_67 kd_4 kd_51 lz_4 lz_51 rfl (Nat.le_of_ble_eq_true rfl) dX0_copyFrom_97 ?_
  refine a_aload_n hΓ 1 dX0_copyFrom_100 rfl rfl ?_
  refine n_getR hΓ fl_RX0_31 cl_0 kd_1 lz_1 dX0_copyFrom_101 ft_0_10 rf_1_10 ?_
  refine a_iconst hΓ dX0_copyFrom_104 ?_
  refine a_aload_n hΓ 0 dX0_copyFrom_105 rfl rfl ?_
  refine n_getR hΓ fl_RX0_31 cl_0 kd_48 lz_48 dX0_copyFrom_106 ft_0_10 rf_48_10 ?_
  refine a_iconst hΓ dX0_copyFrom_109 ?_
  refine a_bipush hΓ dX0_copyFrom_110 (by decide) ?_
  refine n_copy hΓ (Nat.le_trans (by decide) hh) ml_RX0_67 kd_5 kd_52 lz_5 lz_52 rfl (Nat.le_of_ble_eq_true rfl) dX0_copyFrom_112 ?_
  refine a_aload_n hΓ 1 dX0_copyFrom_115 rfl rfl ?_
  refine n_getR hΓ fl_RX0_34 cl_0 kd_1 lz_1 dX0_copyFrom_116 ft_0_11 rf_1_11 ?_
  refine a_iconst hΓ dX0_copyFrom_119 ?_
  refine a_aload_n hΓ 0 dX0_copyFrom_120 rfl rfl ?_
  refine n_getR hΓ fl_RX0_34 cl_0 kd_48 lz_48 dX0_copyFrom_121 ft_0_11 rf_48_11 ?_
  refine a_iconst hΓ dX0_copyFrom_124 ?_
  refine a_bipush hΓ dX0_copyFrom_125 (by decide) ?_
  refine n_copy hΓ (Nat.le_trans (by decide) hh) ml_RX0_67 kd_6 kd_53 lz_6 lz_53 rfl (Nat.le_of_ble_eq_true rfl) dX0_copyFrom_127 ?_
  refine a_aload_n hΓ 1 dX0_copyFrom_130 rfl rfl ?_
  refine n_getR hΓ fl_RX0_37 cl_0 kd_1 lz_1 dX0_copyFrom_131 ft_0_12 rf_1_12 ?_
  refine a_iconst hΓ dX0_copyFrom_134 ?_
  refine a_aload_n hΓ 0 dX0_copyFrom_135 rfl rfl ?_
  refine n_getR hΓ fl_RX0_37 cl_0 kd_48 lz_48 dX0_copyFrom_136 ft_0_12 rf_48_12 ?_
  refine a_iconst hΓ dX0_copyFrom_139 ?_
  refine a_bipush hΓ dX0_copyFrom_140 (by decide) ?_
  refine n_copy hΓ (Nat.le_trans (by decide) hh) ml_RX0_67 kd_7 kd_54 lz_7 lz_54 rfl (Nat.le_of_ble_eq_true rfl) dX0_copyFrom_142 ?_
  refine a_aload_n hΓ 0 dX0_copyFrom_145 rfl rfl ?_
  refine n_getR hΓ fl_RX0_43 cl_0 kd_48 lz_48 dX0_copyFrom_146 ft_0_13 rf_48_13 ?_
  refine a_aload_n hΓ 1 dX0_copyFrom_149 rfl rfl ?_
  refine n_getR hΓ fl_RX0_43 cl_0 kd_1 lz_1 dX0_copyFrom_150 ft_0_13 rf_1_13 ?_
  obtain ⟨P1, q2, h⟩ := h
  refine n_callV (c := 55) (av := [aR 8]) (st := []) hΓ (ct_wX3_copyFrom_2 _ _  (cpy (cpy (cpy (cpy (cpy (cpy (up (up (up (up (up (up (up M 48 0 (M 1 0)) 48 1 (M 1 1)) 48 2 (M 1 2)) 48 3 (M 1 3)) 48 4 (M 1 4)) 48 5 (M 1 5)) 48 6 (M 1 6)) 2 49 3) 3 50 10) 4 51 10) 5 52 40) 6 53 40) 7 54 40) P1 q2) my_X3_copyFrom ml_RX0_73 ni_X3_copyFrom kd_55 rfl lz_55 rfl (Nat.le_trans (by decide) hh) (by decide) (Nat.le_of_ble_eq_true rfl) rfl dX0_copyFrom_153 (fun v Z' hq => ?_)
  obtain ⟨M4, rfl, rfl, hq⟩ := hq
  have h := h M4 hq
  dsimp only at h
  refine a_aload_n hΓ 0 dX0_copyFrom_156 rfl rfl ?_
  refine n_getR hΓ fl_RX0_50 cl_0 kd_48 lz_48 dX0_copyFrom_157 ft_0_14 rf_48_14 ?_
  refine a_aload_n hΓ 1 dX0_copyFrom_160 rfl rfl ?_
  refine n_getR hΓ fl_RX0_50 cl_0 kd_1 lz_1 dX0_copyFrom_161 ft_0_14 rf_1_14 ?_
  obtain ⟨P5, q6, h⟩ := h
  refine n_callV (c := 62) (av := [aR 15]) (st := []) hΓ (ct_wX4_copyFrom_2 _ _  M4 P5 q6) my_X4_copyFrom ml_RX0_77 ni_X4_copyFrom kd_62 rfl lz_62 rfl (Nat.le_trans (by decide) hh) (by decide) (Nat.le_of_ble_eq_true rfl) rfl dX0_copyFrom_164 (fun v Z' hq => ?_)
  obtain ⟨M8, rfl, rfl, hq⟩ := hq
  have h := h M8 hq
  dsimp only at h
  exact a_vret hΓ hr dX0_copyFrom_167 ⟨_, rfl, rfl, h⟩
theorem ct_wX0_copyFrom_2 (l : Launch) (g : Gp)  (M : Mm) (Q : Mm → Prop) (h : wX0_copyFrom_2  M Q) : Ct l g yX0_copyFrom cX0_copyFrom 2 none 2 0 0 [aR 48, aR 1] (NC, RF, M) (QV Q) :=
  ct_of (by decide) (Nat.le_of_ble_eq_true rfl) (fun Γ hg hl hr _ hΓ => by subst hg; subst hl; exact s_wX0_copyFrom_2 hΓ (by decide) hr  M h)
def wX11_image (v1 : Int) (M : Mm) (Q : Int → Mm → Prop) : Prop :=
    Bd (wX11_within v1 0 1 M) (fun r3 M4 =>
    (inR r3) ∧
    (if r3 = 0 then
      Bd (wX11_refuse (-1) M4) (fun r9 M10 =>
      Q r9 M10)
    else
      (0 ≤ v1 ∧ v1 < 2) ∧
      (if v1 = 0 then
        Bv (wX0_copyFrom M4) (fun M16 =>
        Bd (wX11_accept 0 (up M16 71 v1 1)) (fun r19 M20 =>
        Q r19 M20))
      else
        Bv (wX0_copyFrom_2 M4) (fun M24 =>
        Bd (wX11_accept 0 (up M24 71 v1 1)) (fun r27 M28 =>
        Q r27 M28)))))
set_option maxHeartbeats 4000000 in
theorem s_wX11_image {Γ : Cx} {h : Nat} (hΓ : Ok Γ cX11_image RX11 2 h 0 0) (hh : 3 ≤ h) (hr : (cxm Γ).sig.returnType = (some .int)) {Q : Int → Mm → Prop} (v1 : Int) (M : Mm) (h : wX11_image v1 M Q) : Wa Γ 2 (Kf Γ (QI Q) 0 0) 0 0 0 [(0, aR 0), (1, aI v1)] [] (NC, RF, M) := by
  unfold wX11_image at h
  refine a_iload_n hΓ 1 dX11_image_0 rfl rfl ?_
  refine a_iconst hΓ dX11_image_1 ?_
  refine a_iconst hΓ dX11_image_2 ?_
  obtain ⟨P1, q2, h⟩ := h
  refine n_callS (av := [aI v1, aI 0, aI 1]) (st := []) hΓ (ct_wX11_within _ _ v1 0 1 M P1 q2) my_X11_within ml_RX11_79 rfl (Nat.le_trans (by decide) hh) (by decide) (Nat.le_of_ble_eq_true rfl) rfl dX11_image_3 (fun v Z' hq => ?_)
  obtain ⟨r3, M4, rfl, rfl, hq⟩ := hq
  have h := h r3 M4 hq
  dsimp only at h
  obtain ⟨g5, h⟩ := h
  refine a_if_ne (tgt := 15) hΓ g5 dX11_image_6 (by decide) (fun c6 => ?_) (fun c6 => ?_)
  · rw [if_pos c6] at h
    refine a_aload_n hΓ 0 dX11_image_9 rfl rfl ?_
    refine a_iconst hΓ dX11_image_10 ?_
    obtain ⟨P7, q8, h⟩ := h
    refine n_callV (c := 0) (av := [aI (-1)]) (st := []) hΓ (ct_wX11_refuse _ _ (-1) M4 P7 q8) my_X11_refuse ml_RX11_83 ni_X11_refuse kd_0 rfl lz_0 rfl (Nat.le_trans (by decide) hh) (by decide) (Nat.le_of_ble_eq_true rfl) rfl dX11_image_11 (fun v Z' hq => ?_)
    obtain ⟨r9, M10, rfl, rfl, hq⟩ := hq
    have h := h r9 M10 hq
    dsimp only at h
    exact a_iret hΓ hr dX11_image_14 ⟨_, _, rfl, rfl, h⟩
  · rw [if_neg c6] at h
    refine a_aload_n hΓ 0 dX11_image_15 rfl rfl ?_
    refine n_getR hΓ fl_RX11_16 cl_11 kd_0 lz_0 dX11_image_16 ft_11_1 rf_0_1 ?_
    refine a_iload_n hΓ 1 dX11_image_19 rfl rfl ?_
    obtain ⟨g11, h⟩ := h
    refine n_aald hΓ dX11_image_20 kd_24 lz_24 g11 rf_24_0 rf_24_1 (fun c12 => ?_) (fun c12 => ?_)
    · rw [if_pos c12] at h
      refine a_aload_n hΓ 0 dX11_image_21 rfl rfl ?_
      refine n_getR hΓ fl_RX11_10 cl_11 kd_0 lz_0 dX11_image_22 ft_11_0 rf_0_0 ?_
      obtain ⟨P13, q14, h⟩ := h
      refine n_callV (c := 25) (av := [aR 1]) (st := []) hΓ (ct_wX0_copyFrom _ _  M4 P13 q14) my_X0_copyFrom ml_RX11_327 ni_X0_copyFrom kd_25 rfl lz_25 rfl (Nat.le_trans (by decide) hh) (by decide) (Nat.le_of_ble_eq_true rfl) rfl dX11_image_25 (fun v Z' hq => ?_)
      obtain ⟨M16, rfl, rfl, hq⟩ := hq
      have h := h M16 hq
      dsimp only at h
      refine a_aload_n hΓ 0 dX11_image_28 rfl rfl ?_
      refine n_getR hΓ fl_RX11_20 cl_11 kd_0 lz_0 dX11_image_29 ft_11_2 rf_0_2 ?_
      refine a_iload_n hΓ 1 dX11_image_32 rfl rfl ?_
      refine a_iconst hΓ dX11_image_33 ?_
      refine a_zast hΓ rfl (Or.inr rfl) dX11_image_34 kd_71 lz_71 g11 ?_
      refine a_aload_n hΓ 0 dX11_image_35 rfl rfl ?_
      refine a_iconst hΓ dX11_image_36 ?_
      obtain ⟨P17, q18, h⟩ := h
      refine n_callV (c := 0) (av := [aI 0]) (st := []) hΓ (ct_wX11_accept _ _ 0 (up M16 71 v1 1) P17 q18) my_X11_accept ml_RX11_91 ni_X11_accept kd_0 rfl lz_0 rfl (Nat.le_trans (by decide) hh) (by decide) (Nat.le_of_ble_eq_true rfl) rfl dX11_image_37 (fun v Z' hq => ?_)
      obtain ⟨r19, M20, rfl, rfl, hq⟩ := hq
      have h := h r19 M20 hq
      dsimp only at h
      exact a_iret hΓ hr dX11_image_40 ⟨_, _, rfl, rfl, h⟩
    · rw [if_neg c12] at h
      refine a_aload_n hΓ 0 dX11_image_21 rfl rfl ?_
      refine n_getR hΓ fl_RX11_10 cl_11 kd_0 lz_0 dX11_image_22 ft_11_0 rf_0_0 ?_
      obtain ⟨P21, q22, h⟩ := h
      refine n_callV (c := 48) (av := [aR 1]) (st := []) hΓ (ct_wX0_copyFrom_2 _ _  M4 P21 q22) my_X0_copyFrom ml_RX11_327 ni_X0_copyFrom kd_48 rfl lz_48 rfl (Nat.le_trans (by decide) hh) (by decide) (Nat.le_of_ble_eq_true rfl) rfl dX11_image_25 (fun v Z' hq => ?_)
      obtain ⟨M24, rfl, rfl, hq⟩ := hq
      have h := h M24 hq
      dsimp only at h
      refine a_aload_n hΓ 0 dX11_image_28 rfl rfl ?_
      refine n_getR hΓ fl_RX11_20 cl_11 kd_0 lz_0 dX11_image_29 ft_11_2 rf_0_2 ?_
      refine a_iload_n hΓ 1 dX11_image_32 rfl rfl ?_
      refine a_iconst hΓ dX11_image_33 ?_
      refine a_zast hΓ rfl (Or.inr rfl) dX11_image_34 kd_71 lz_71 g11 ?_
      refine a_aload_n hΓ 0 dX11_image_35 rfl rfl ?_
      refine a_iconst hΓ dX11_image_36 ?_
      obtain ⟨P25, q26, h⟩ := h
      refine n_callV (c := 0) (av := [aI 0]) (st := []) hΓ (ct_wX11_accept _ _ 0 (up M24 71 v1 1) P25 q26) my_X11_accept ml_RX11_91 ni_X11_accept kd_0 rfl lz_0 rfl (Nat.le_trans (by decide) hh) (by decide) (Nat.le_of_ble_eq_true rfl) rfl dX11_image_37 (fun v Z' hq => ?_)
      obtain ⟨r27, M28, rfl, rfl, hq⟩ := hq
      have h := h r27 M28 hq
      dsimp only at h
      exact a_iret hΓ hr dX11_image_40 ⟨_, _, rfl, rfl, h⟩
theorem ct_wX11_image (l : Launch) (g : Gp) (v1 : Int) (M : Mm) (Q : Int → Mm → Prop) (h : wX11_image v1 M Q) : Ct l g yX11_image cX11_image 2 (some .int) 3 0 0 [aR 0, aI v1] (NC, RF, M) (QI Q) :=
  ct_of (by decide) (Nat.le_of_ble_eq_true rfl) (fun Γ hg hl hr _ hΓ => by subst hg; subst hl; exact s_wX11_image hΓ (by decide) hr v1 M h)
def wX3_copyFrom_3  (M : Mm) (Q : Mm → Prop) : Prop :=
    Q (cpy (cpy (cpy (cpy (cpy (cpy (up M 8 0 (M 32 0)) 33 9 60) 34 10 60) 35 11 60) 36 12 60) 37 13 60) 38 14 60)
set_option maxHeartbeats 4000000 in
theorem s_wX3_copyFrom_3 {Γ : Cx} {h : Nat} (hΓ : Ok Γ cX3_copyFrom RX3 2 h 0 0) (hh : 1 ≤ h) (hr : (cxm Γ).sig.returnType = none) {Q : Mm → Prop}  (M : Mm) (h : wX3_copyFrom_3  M Q) : Wa Γ 2 (Kf Γ (QV Q) 0 0) 0 0 0 [(0, aR 8), (1, aR 32)] [] (NC, RF, M) := by
  unfold wX3_copyFrom_3 at h
  refine a_aload_n hΓ 0 dX3_copyFrom_0 rfl rfl ?_
  refine a_aload_n hΓ 1 dX3_copyFrom_1 rfl rfl ?_
  refine n_getI (x := (M 32 0)) hΓ fl_RX3_30 cl_3 kd_32 lz_32 dX3_copyFrom_2 (Or.inl ft_3_0) rfl ?_
  refine n_putI (j := 0) hΓ fl_RX3_30 cl_3 nf_3_0 kd_8 lz_8 dX3_copyFrom_5 (Or.inl ft_3_0) rfl ?_
  refine a_aload_n hΓ 1 dX3_copyFrom_8 rfl rfl ?_
  refine n_getR hΓ fl_RX3_9 cl_3 kd_32 lz_32 dX3_copyFrom_9 ft_3_1 rf_32_1 ?_
  refine a_iconst hΓ dX3_copyFrom_12 ?_
  refine a_aload_n hΓ 0 dX3_copyFrom_13 rfl rfl ?_
  refine n_getR hΓ fl_RX3_9 cl_3 kd_8 lz_8 dX3_copyFrom_14 ft_3_1 rf_8_1 ?_
  refine a_iconst hΓ dX3_copyFrom_17 ?_
  refine a_bipush hΓ dX3_copyFrom_18 (by decide) ?_
  refine n_copy hΓ (Nat.le_trans (by decide) hh) ml_RX3_34 kd_33 kd_9 lz_33 lz_9 rfl (Nat.le_of_ble_eq_true rfl) dX3_copyFrom_20 ?_
  refine a_aload_n hΓ 1 dX3_copyFrom_23 rfl rfl ?_
  refine n_getR hΓ fl_RX3_15 cl_3 kd_32 lz_32 dX3_copyFrom_24 ft_3_2 rf_32_2 ?_
  refine a_iconst hΓ dX3_copyFrom_27 ?_
  refine a_aload_n hΓ 0 dX3_copyFrom_28 rfl rfl ?_
  refine n_getR hΓ fl_RX3_15 cl_3 kd_8 lz_8 dX3_copyFrom_29 ft_3_2 rf_8_2 ?_
  refine a_iconst hΓ dX3_copyFrom_32 ?_
  refine a_bipush hΓ dX3_copyFrom_33 (by decide) ?_
  refine n_copy hΓ (Nat.le_trans (by decide) hh) ml_RX3_34 kd_34 kd_10 lz_34 lz_10 rfl (Nat.le_of_ble_eq_true rfl) dX3_copyFrom_35 ?_
  refine a_aload_n hΓ 1 dX3_copyFrom_38 rfl rfl ?_
  refine n_getR hΓ fl_RX3_18 cl_3 kd_32 lz_32 dX3_copyFrom_39 ft_3_3 rf_32_3 ?_
  refine a_iconst hΓ dX3_copyFrom_42 ?_
  refine a_aload_n hΓ 0 dX3_copyFrom_43 rfl rfl ?_
  refine n_getR hΓ fl_RX3_18 cl_3 kd_8 lz_8 dX3_copyFrom_44 ft_3_3 rf_8_3 ?_
  refine a_iconst hΓ dX3_copyFrom_47 ?_
  refine a_bipush hΓ dX3_copyFrom_48 (by decide) ?_
  refine n_copy hΓ (Nat.le_trans (by decide) hh) ml_RX3_34 kd_35 kd_11 lz_35 lz_11 rfl (Nat.le_of_ble_eq_true rfl) dX3_copyFrom_50 ?_
  refine a_aload_n hΓ 1 dX3_copyFrom_53 rfl rfl ?_
  refine n_getR hΓ fl_RX3_21 cl_3 kd_32 lz_32 dX3_copyFrom_54 ft_3_4 rf_32_4 ?_
  refine a_iconst hΓ dX3_copyFrom_57 ?_
  refine a_aload_n hΓ 0 dX3_copyFrom_58 rfl rfl ?_
  refine n_getR hΓ fl_RX3_21 cl_3 kd_8 lz_8 dX3_copyFrom_59 ft_3_4 rf_8_4 ?_
  refine a_iconst hΓ dX3_copyFrom_62 ?_
  refine a_bipush hΓ dX3_copyFrom_63 (by decide) ?_
  refine n_copy hΓ (Nat.le_trans (by decide) hh) ml_RX3_34 kd_36 kd_12 lz_36 lz_12 rfl (Nat.le_of_ble_eq_true rfl) dX3_copyFrom_65 ?_
  refine a_aload_n hΓ 1 dX3_copyFrom_68 rfl rfl ?_
  refine n_getR hΓ fl_RX3_24 cl_3 kd_32 lz_32 dX3_copyFrom_69 ft_3_5 rf_32_5 ?_
  refine a_iconst hΓ dX3_copyFrom_72 ?_
  refine a_aload_n hΓ 0 dX3_copyFrom_73 rfl rfl ?_
  refine n_getR hΓ fl_RX3_24 cl_3 kd_8 lz_8 dX3_copyFrom_74 ft_3_5 rf_8_5 ?_
  refine a_iconst hΓ dX3_copyFrom_77 ?_
  refine a_bipush hΓ dX3_copyFrom_78 (by decide) ?_
  refine n_copy hΓ (Nat.le_trans (by decide) hh) ml_RX3_34 kd_37 kd_13 lz_37 lz_13 rfl (Nat.le_of_ble_eq_true rfl) dX3_copyFrom_80 ?_
  refine a_aload_n hΓ 1 dX3_copyFrom_83 rfl rfl ?_
  refine n_getR hΓ fl_RX3_27 cl_3 kd_32 lz_32 dX3_copyFrom_84 ft_3_6 rf_32_6 ?_
  refine a_iconst hΓ dX3_copyFrom_87 ?_
  refine a_aload_n hΓ 0 dX3_copyFrom_88 rfl rfl ?_
  refine n_getR hΓ fl_RX3_27 cl_3 kd_8 lz_8 dX3_copyFrom_89 ft_3_6 rf_8_6 ?_
  refine a_iconst hΓ dX3_copyFrom_92 ?_
  refine a_bipush hΓ dX3_copyFrom_93 (by decide) ?_
  refine n_copy hΓ (Nat.le_trans (by decide) hh) ml_RX3_34 kd_38 kd_14 lz_38 lz_14 rfl (Nat.le_of_ble_eq_true rfl) dX3_copyFrom_95 ?_
  exact a_vret hΓ hr dX3_copyFrom_98 ⟨_, rfl, rfl, h⟩
theorem ct_wX3_copyFrom_3 (l : Launch) (g : Gp)  (M : Mm) (Q : Mm → Prop) (h : wX3_copyFrom_3  M Q) : Ct l g yX3_copyFrom cX3_copyFrom 2 none 1 0 0 [aR 8, aR 32] (NC, RF, M) (QV Q) :=
  ct_of (by decide) (Nat.le_of_ble_eq_true rfl) (fun Γ hg hl hr _ hΓ => by subst hg; subst hl; exact s_wX3_copyFrom_3 hΓ (by decide) hr  M h)
def wX4_copyFrom_3_100 (Q : Mm → Prop) : Nat → Int → Mm → Prop
  | 0, _, _ => False
  | f + 1, v2, M => (inR v2) ∧
    (if v2 < 24 then
      (0 ≤ v2 ∧ v2 < 24) ∧
      ((M 46 v2) = 0 ∨ (M 46 v2) = 1) ∧
      ((M 47 v2) = 0 ∨ (M 47 v2) = 1) ∧
      (wX4_copyFrom_3_100 Q f) (v2 + 1) (up (up M 22 v2 (M 46 v2)) 23 v2 (M 47 v2))
    else
      Q M)
set_option maxHeartbeats 4000000 in
theorem s_wX4_copyFrom_3_100 {Γ : Cx} {h : Nat} (hΓ : Ok Γ cX4_copyFrom RX4 3 h 0 0) (hh : 1 ≤ h) (hr : (cxm Γ).sig.returnType = none) {Q : Mm → Prop}   : ∀ (f : Nat) (v2 : Int) (M : Mm), wX4_copyFrom_3_100 Q  f v2 M → Wa Γ 3 (Kf Γ (QV Q) 0 0) 0 0 100 [(0, aR 15), (1, aR 39), (2, aI v2)] [] (NC, RF, M) := by
  intro f
  induction f with
  | zero => intro v2 M h; exact h.elim
  | succ f ih =>
    intro v2 M h
    unfold wX4_copyFrom_3_100 at h
    refine a_iload_n hΓ 2 dX4_copyFrom_100 rfl rfl ?_
    refine a_bipush hΓ dX4_copyFrom_101 (by decide) ?_
    obtain ⟨g1, h⟩ := h
    refine a_icmp_ge (tgt := 136) hΓ g1 (inRl (by decide)) dX4_copyFrom_103 (by decide) (fun c2 => ?_) (fun c2 => ?_)
    · rw [if_pos c2] at h
      refine a_aload_n hΓ 0 dX4_copyFrom_106 rfl rfl ?_
      refine n_getR hΓ fl_RX4_30 cl_4 kd_15 lz_15 dX4_copyFrom_107 ft_4_7 rf_15_7 ?_
      refine a_iload_n hΓ 2 dX4_copyFrom_110 rfl rfl ?_
      refine a_aload_n hΓ 1 dX4_copyFrom_111 rfl rfl ?_
      refine n_getR hΓ fl_RX4_30 cl_4 kd_39 lz_39 dX4_copyFrom_112 ft_4_7 rf_39_7 ?_
      refine a_iload_n hΓ 2 dX4_copyFrom_115 rfl rfl ?_
      obtain ⟨g3, h⟩ := h
      refine n_bald (x := (M 46 v2)) hΓ dX4_copyFrom_116 kd_46 (Or.inl rfl) lz_46 g3 rfl ?_
      obtain ⟨g4, h⟩ := h
      refine a_zast hΓ rfl g4 dX4_copyFrom_117 kd_22 lz_22 g3 ?_
      refine a_aload_n hΓ 0 dX4_copyFrom_118 rfl rfl ?_
      refine n_getR hΓ fl_RX4_34 cl_4 kd_15 lz_15 dX4_copyFrom_119 ft_4_8 rf_15_8 ?_
      refine a_iload_n hΓ 2 dX4_copyFrom_122 rfl rfl ?_
      refine a_aload_n hΓ 1 dX4_copyFrom_123 rfl rfl ?_
      refine n_getR hΓ fl_RX4_34 cl_4 kd_39 lz_39 dX4_copyFrom_124 ft_4_8 rf_39_8 ?_
      refine a_iload_n hΓ 2 dX4_copyFrom_127 rfl rfl ?_
      refine n_bald (x := (M 47 v2)) hΓ dX4_copyFrom_128 kd_47 (Or.inl rfl) lz_47 g3 rfl ?_
      obtain ⟨g5, h⟩ := h
      refine a_zast hΓ rfl g5 dX4_copyFrom_129 kd_23 lz_23 g3 ?_
      refine a_iinc (ls' := [(2, aI (v2 + 1)), (0, aR 15), (1, aR 39)]) hΓ 2 dX4_copyFrom_130 rfl (by decide) rfl ?_
      refine a_goto (tgt := 100) hΓ dX4_copyFrom_133 (by decide) ?_
      refine a_sub (ls' := [(0, aR 15), (1, aR 39), (2, aI (v2 + 1))]) [1, 2, 0] rfl ?_
      exact ih (v2 + 1) (up (up M 22 v2 (M 46 v2)) 23 v2 (M 47 v2)) h
    · rw [if_neg c2] at h
      exact a_vret hΓ hr dX4_copyFrom_136 ⟨_, rfl, rfl, h⟩
def wX4_copyFrom_3  (M : Mm) (Q : Mm → Prop) : Prop :=
    ∃ n, wX4_copyFrom_3_100 Q n 0 (cpy (cpy (cpy (cpy (cpy (cpy (up M 15 0 (M 39 0)) 40 16 24) 41 17 24) 42 18 24) 43 19 24) 44 20 24) 45 21 24)
set_option maxHeartbeats 4000000 in
theorem s_wX4_copyFrom_3 {Γ : Cx} {h : Nat} (hΓ : Ok Γ cX4_copyFrom RX4 3 h 0 0) (hh : 1 ≤ h) (hr : (cxm Γ).sig.returnType = none) {Q : Mm → Prop}  (M : Mm) (h : wX4_copyFrom_3  M Q) : Wa Γ 3 (Kf Γ (QV Q) 0 0) 0 0 0 [(0, aR 15), (1, aR 39)] [] (NC, RF, M) := by
  unfold wX4_copyFrom_3 at h
  refine a_aload_n hΓ 0 dX4_copyFrom_0 rfl rfl ?_
  refine a_aload_n hΓ 1 dX4_copyFrom_1 rfl rfl ?_
  refine n_getI (x := (M 39 0)) hΓ fl_RX4_37 cl_4 kd_39 lz_39 dX4_copyFrom_2 (Or.inl ft_4_0) rfl ?_
  refine n_putI (j := 0) hΓ fl_RX4_37 cl_4 nf_4_0 kd_15 lz_15 dX4_copyFrom_5 (Or.inl ft_4_0) rfl ?_
  refine a_aload_n hΓ 1 dX4_copyFrom_8 rfl rfl ?_
  refine n_getR hΓ fl_RX4_9 cl_4 kd_39 lz_39 dX4_copyFrom_9 ft_4_1 rf_39_1 ?_
  refine a_iconst hΓ dX4_copyFrom_12 ?_
  refine a_aload_n hΓ 0 dX4_copyFrom_13 rfl rfl ?_
  refine n_getR hΓ fl_RX4_9 cl_4 kd_15 lz_15 dX4_copyFrom_14 ft_4_1 rf_15_1 ?_
  refine a_iconst hΓ dX4_copyFrom_17 ?_
  refine a_bipush hΓ dX4_copyFrom_18 (by decide) ?_
  refine n_copy hΓ (Nat.le_trans (by decide) hh) ml_RX4_41 kd_40 kd_16 lz_40 lz_16 rfl (Nat.le_of_ble_eq_true rfl) dX4_copyFrom_20 ?_
  refine a_aload_n hΓ 1 dX4_copyFrom_23 rfl rfl ?_
  refine n_getR hΓ fl_RX4_15 cl_4 kd_39 lz_39 dX4_copyFrom_24 ft_4_2 rf_39_2 ?_
  refine a_iconst hΓ dX4_copyFrom_27 ?_
  refine a_aload_n hΓ 0 dX4_copyFrom_28 rfl rfl ?_
  refine n_getR hΓ fl_RX4_15 cl_4 kd_15 lz_15 dX4_copyFrom_29 ft_4_2 rf_15_2 ?_
  refine a_iconst hΓ dX4_copyFrom_32 ?_
  refine a_bipush hΓ dX4_copyFrom_33 (by decide) ?_
  refine n_copy hΓ (Nat.le_trans (by decide) hh) ml_RX4_41 kd_41 kd_17 lz_41 lz_17 rfl (Nat.le_of_ble_eq_true rfl) dX4_copyFrom_35 ?_
  refine a_aload_n hΓ 1 dX4_copyFrom_38 rfl rfl ?_
  refine n_getR hΓ fl_RX4_18 cl_4 kd_39 lz_39 dX4_copyFrom_39 ft_4_3 rf_39_3 ?_
  refine a_iconst hΓ dX4_copyFrom_42 ?_
  refine a_aload_n hΓ 0 dX4_copyFrom_43 rfl rfl ?_
  refine n_getR hΓ fl_RX4_18 cl_4 kd_15 lz_15 dX4_copyFrom_44 ft_4_3 rf_15_3 ?_
  refine a_iconst hΓ dX4_copyFrom_47 ?_
  refine a_bipush hΓ dX4_copyFrom_48 (by decide) ?_
  refine n_copy hΓ (Nat.le_trans (by decide) hh) ml_RX4_41 kd_42 kd_18 lz_42 lz_18 rfl (Nat.le_of_ble_eq_true rfl) dX4_copyFrom_50 ?_
  refine a_aload_n hΓ 1 dX4_copyFrom_53 rfl rfl ?_
  refine n_getR hΓ fl_RX4_21 cl_4 kd_39 lz_39 dX4_copyFrom_54 ft_4_4 rf_39_4 ?_
  refine a_iconst hΓ dX4_copyFrom_57 ?_
  refine a_aload_n hΓ 0 dX4_copyFrom_58 rfl rfl ?_
  refine n_getR hΓ fl_RX4_21 cl_4 kd_15 lz_15 dX4_copyFrom_59 ft_4_4 rf_15_4 ?_
  refine a_iconst hΓ dX4_copyFrom_62 ?_
  refine a_bipush hΓ dX4_copyFrom_63 (by decide) ?_
  refine n_copy hΓ (Nat.le_trans (by decide) hh) ml_RX4_41 kd_43 kd_19 lz_43 lz_19 rfl (Nat.le_of_ble_eq_true rfl) dX4_copyFrom_65 ?_
  refine a_aload_n hΓ 1 dX4_copyFrom_68 rfl rfl ?_
  refine n_getR hΓ fl_RX4_24 cl_4 kd_39 lz_39 dX4_copyFrom_69 ft_4_5 rf_39_5 ?_
  refine a_iconst hΓ dX4_copyFrom_72 ?_
  refine a_aload_n hΓ 0 dX4_copyFrom_73 rfl rfl ?_
  refine n_getR hΓ fl_RX4_24 cl_4 kd_15 lz_15 dX4_copyFrom_74 ft_4_5 rf_15_5 ?_
  refine a_iconst hΓ dX4_copyFrom_77 ?_
  refine a_bipush hΓ dX4_copyFrom_78 (by decide) ?_
  refine n_copy hΓ (Nat.le_trans (by decide) hh) ml_RX4_41 kd_44 kd_20 lz_44 lz_20 rfl (Nat.le_of_ble_eq_true rfl) dX4_copyFrom_80 ?_
  refine a_aload_n hΓ 1 dX4_copyFrom_83 rfl rfl ?_
  refine n_getR hΓ fl_RX4_27 cl_4 kd_39 lz_39 dX4_copyFrom_84 ft_4_6 rf_39_6 ?_
  refine a_iconst hΓ dX4_copyFrom_87 ?_
  refine a_aload_n hΓ 0 dX4_copyFrom_88 rfl rfl ?_
  refine n_getR hΓ fl_RX4_27 cl_4 kd_15 lz_15 dX4_copyFrom_89 ft_4_6 rf_15_6 ?_
  refine a_iconst hΓ dX4_copyFrom_92 ?_
  refine a_bipush hΓ dX4_copyFrom_93 (by decide) ?_
  refine n_copy hΓ (Nat.le_trans (by decide) hh) ml_RX4_41 kd_45 kd_21 lz_45 lz_21 rfl (Nat.le_of_ble_eq_true rfl) dX4_copyFrom_95 ?_
  refine a_iconst hΓ dX4_copyFrom_98 ?_
  refine a_istore_n (ls' := [(2, aI 0), (0, aR 15), (1, aR 39)]) hΓ dX4_copyFrom_99 rfl (by decide) rfl ?_
  refine a_sub (ls' := [(0, aR 15), (1, aR 39), (2, aI 0)]) [1, 2, 0] rfl ?_
  obtain ⟨f1, h⟩ := h
  exact s_wX4_copyFrom_3_100 hΓ (Nat.le_trans (by decide) hh) hr  f1 0 (cpy (cpy (cpy (cpy (cpy (cpy (up M 15 0 (M 39 0)) 40 16 24) 41 17 24) 42 18 24) 43 19 24) 44 20 24) 45 21 24) h
theorem ct_wX4_copyFrom_3 (l : Launch) (g : Gp)  (M : Mm) (Q : Mm → Prop) (h : wX4_copyFrom_3  M Q) : Ct l g yX4_copyFrom cX4_copyFrom 3 none 1 0 0 [aR 15, aR 39] (NC, RF, M) (QV Q) :=
  ct_of (by decide) (Nat.le_of_ble_eq_true rfl) (fun Γ hg hl hr _ hΓ => by subst hg; subst hl; exact s_wX4_copyFrom_3 hΓ (by decide) hr  M h)
def wX0_copyFrom_3  (M : Mm) (Q : Mm → Prop) : Prop :=
    Bv (wX3_copyFrom_3 (cpy (cpy (cpy (cpy (cpy (cpy (up (up (up (up (up (up (up M 1 0 (M 25 0)) 1 1 (M 25 1)) 1 2 (M 25 2)) 1 3 (M 25 3)) 1 4 (M 25 4)) 1 5 (M 25 5)) 1 6 (M 25 6)) 26 2 3) 27 3 10) 28 4 10) 29 5 40) 30 6 40) 31 7 40)) (fun M4 =>
    Bv (wX4_copyFrom_3 M4) (fun M8 =>
    Q M8))
set_option maxHeartbeats 4000000 in
theorem s_wX0_copyFrom_3 {Γ : Cx} {h : Nat} (hΓ : Ok Γ cX0_copyFrom RX0 2 h 0 0) (hh : 2 ≤ h) (hr : (cxm Γ).sig.returnType = none) {Q : Mm → Prop}  (M : Mm) (h : wX0_copyFrom_3  M Q) : Wa Γ 2 (Kf Γ (QV Q) 0 0) 0 0 0 [(0, aR 1), (1, aR 25)] [] (NC, RF, M) := by
  unfold wX0_copyFrom_3 at h
  refine a_aload_n hΓ 0 dX0_copyFrom_0 rfl rfl ?_
  refine a_aload_n hΓ 1 dX0_copyFrom_1 rfl rfl ?_
  refine n_getI (x := (M 25 0)) hΓ fl_RX0_57 cl_0 kd_25 lz_25 dX0_copyFrom_2 (Or.inl ft_0_0) rfl ?_
  refine n_putI (j := 0) hΓ fl_RX0_57 cl_0 nf_0_0 kd_1 lz_1 dX0_copyFrom_5 (Or.inl ft_0_0) rfl ?_
  refine a_aload_n hΓ 0 dX0_copyFrom_8 rfl rfl ?_
  refine a_aload_n hΓ 1 dX0_copyFrom_9 rfl rfl ?_
  refine n_getI (x := (M 25 1)) hΓ fl_RX0_54 cl_0 kd_25 lz_25 dX0_copyFrom_10 (Or.inl ft_0_1) rfl ?_
  refine n_putI (j := 1) hΓ fl_RX0_54 cl_0 nf_0_1 kd_1 lz_1 dX0_copyFrom_13 (Or.inl ft_0_1) rfl ?_
  refine a_aload_n hΓ 0 dX0_copyFrom_16 rfl rfl ?_
  refine a_aload_n hΓ 1 dX0_copyFrom_17 rfl rfl ?_
  refine n_getI (x := (M 25 2)) hΓ fl_RX0_9 cl_0 kd_25 lz_25 dX0_copyFrom_18 (Or.inl ft_0_2) rfl ?_
  refine n_putI (j := 2) hΓ fl_RX0_9 cl_0 nf_0_2 kd_1 lz_1 dX0_copyFrom_21 (Or.inl ft_0_2) rfl ?_
  refine a_aload_n hΓ 0 dX0_copyFrom_24 rfl rfl ?_
  refine a_aload_n hΓ 1 dX0_copyFrom_25 rfl rfl ?_
  refine n_getI (x := (M 25 3)) hΓ fl_RX0_15 cl_0 kd_25 lz_25 dX0_copyFrom_26 (Or.inl ft_0_3) rfl ?_
  refine n_putI (j := 3) hΓ fl_RX0_15 cl_0 nf_0_3 kd_1 lz_1 dX0_copyFrom_29 (Or.inl ft_0_3) rfl ?_
  refine a_aload_n hΓ 0 dX0_copyFrom_32 rfl rfl ?_
  refine a_aload_n hΓ 1 dX0_copyFrom_33 rfl rfl ?_
  refine n_getI (x := (M 25 4)) hΓ fl_RX0_18 cl_0 kd_25 lz_25 dX0_copyFrom_34 (Or.inl ft_0_4) rfl ?_
  refine n_putI (j := 4) hΓ fl_RX0_18 cl_0 nf_0_4 kd_1 lz_1 dX0_copyFrom_37 (Or.inl ft_0_4) rfl ?_
  refine a_aload_n hΓ 0 dX0_copyFrom_40 rfl rfl ?_
  refine a_aload_n hΓ 1 dX0_copyFrom_41 rfl rfl ?_
  refine n_getL (x := (M 25 5)) hΓ fl_RX0_60 cl_0 kd_25 lz_25 dX0_copyFrom_42 ft_0_5 rfl ?_
  refine n_putL (j := 5) hΓ fl_RX0_60 cl_0 nf_0_5 kd_1 lz_1 dX0_copyFrom_45 ft_0_5 rfl ?_
  refine a_aload_n hΓ 0 dX0_copyFrom_48 rfl rfl ?_
  refine a_aload_n hΓ 1 dX0_copyFrom_49 rfl rfl ?_
  refine n_getL (x := (M 25 6)) hΓ fl_RX0_64 cl_0 kd_25 lz_25 dX0_copyFrom_50 ft_0_6 rfl ?_
  refine n_putL (j := 6) hΓ fl_RX0_64 cl_0 nf_0_6 kd_1 lz_1 dX0_copyFrom_53 ft_0_6 rfl ?_
  refine a_aload_n hΓ 1 dX0_copyFrom_56 rfl rfl ?_
  refine n_getR hΓ fl_RX0_21 cl_0 kd_25 lz_25 dX0_copyFrom_57 ft_0_7 rf_25_7 ?_
  refine a_iconst hΓ dX0_copyFrom_60 ?_
  refine a_aload_n hΓ 0 dX0_copyFrom_61 rfl rfl ?_
  refine n_getR hΓ fl_RX0_21 cl_0 kd_1 lz_1 dX0_copyFrom_62 ft_0_7 rf_1_7 ?_
  refine a_iconst hΓ dX0_copyFrom_65 ?_
  refine a_iconst hΓ dX0_copyFrom_66 ?_
  refine n_copy hΓ (Nat.le_trans (by decide) hh) ml_RX0_67 kd_26 kd_2 lz_26 lz_2 rfl (Nat.le_of_ble_eq_true rfl) dX0_copyFrom_67 ?_
  refine a_aload_n hΓ 1 dX0_copyFrom_70 rfl rfl ?_
  refine n_getR hΓ fl_RX0_25 cl_0 kd_25 lz_25 dX0_copyFrom_71 ft_0_8 rf_25_8 ?_
  refine a_iconst hΓ dX0_copyFrom_74 ?_
  refine a_aload_n hΓ 0 dX0_copyFrom_75 rfl rfl ?_
  refine n_getR hΓ fl_RX0_25 cl_0 kd_1 lz_1 dX0_copyFrom_76 ft_0_8 rf_1_8 ?_
  refine a_iconst hΓ dX0_copyFrom_79 ?_
  refine a_bipush hΓ dX0_copyFrom_80 (by decide) ?_
  refine n_copy hΓ (Nat.le_trans (by decide) hh) ml_RX0_67 kd_27 kd_3 lz_27 lz_3 rfl (Nat.le_of_ble_eq_true rfl) dX0_copyFrom_82 ?_
  refine a_aload_n hΓ 1 dX0_copyFrom_85 rfl rfl ?_
  refine n_getR hΓ fl_RX0_28 cl_0 kd_25 lz_25 dX0_copyFrom_86 ft_0_9 rf_25_9 ?_
  refine a_iconst hΓ dX0_copyFrom_89 ?_
  refine a_aload_n hΓ 0 dX0_copyFrom_90 rfl rfl ?_
  refine n_getR hΓ fl_RX0_28 cl_0 kd_1 lz_1 dX0_copyFrom_91 ft_0_9 rf_1_9 ?_
  refine a_iconst hΓ dX0_copyFrom_94 ?_
  refine a_bipush hΓ dX0_copyFrom_95 (by decide) ?_
  refine n_copy hΓ (Nat.le_trans (by decide) hh) ml_RX0_67 kd_28 kd_4 lz_28 lz_4 rfl (Nat.le_of_ble_eq_true rfl) dX0_copyFrom_97 ?_
  refine a_aload_n hΓ 1 dX0_copyFrom_100 rfl rfl ?_
  refine n_getR hΓ fl_RX0_31 cl_0 kd_25 lz_25 dX0_copyFrom_101 ft_0_10 rf_25_10 ?_
  refine a_iconst hΓ dX0_copyFrom_104 ?_
  refine a_aload_n hΓ 0 dX0_copyFrom_105 rfl rfl ?_
  refine n_getR hΓ fl_RX0_31 cl_0 kd_1 lz_1 dX0_copyFrom_106 ft_0_10 rf_1_10 ?_
  refine a_iconst hΓ dX0_copyFrom_109 ?_
  refine a_bipush hΓ dX0_copyFrom_110 (by decide) ?_
  refine n_copy hΓ (Nat.le_trans (by decide) hh) ml_RX0_67 kd_29 kd_5 lz_29 lz_5 rfl (Nat.le_of_ble_eq_true rfl) dX0_copyFrom_112 ?_
  refine a_aload_n hΓ 1 dX0_copyFrom_115 rfl rfl ?_
  refine n_getR hΓ fl_RX0_34 cl_0 kd_25 lz_25 dX0_copyFrom_116 ft_0_11 rf_25_11 ?_
  refine a_iconst hΓ dX0_copyFrom_119 ?_
  refine a_aload_n hΓ 0 dX0_copyFrom_120 rfl rfl ?_
  refine n_getR hΓ fl_RX0_34 cl_0 kd_1 lz_1 dX0_copyFrom_121 ft_0_11 rf_1_11 ?_
  refine a_iconst hΓ dX0_copyFrom_124 ?_
  refine a_bipush hΓ dX0_copyFrom_125 (by decide) ?_
  refine n_copy hΓ (Nat.le_trans (by decide) hh) ml_RX0_67 kd_30 kd_6 lz_30 lz_6 rfl (Nat.le_of_ble_eq_true rfl) dX0_copyFrom_127 ?_
  refine a_aload_n hΓ 1 dX0_copyFrom_130 rfl rfl ?_
  refine n_getR hΓ fl_RX0_37 cl_0 kd_25 lz_25 dX0_copyFrom_131 ft_0_12 rf_25_12 ?_
  refine a_iconst hΓ dX0_copyFrom_134 ?_
  refine a_aload_n hΓ 0 dX0_copyFrom_135 rfl rfl ?_
  refine n_getR hΓ fl_RX0_37 cl_0 kd_1 lz_1 dX0_copyFrom_136 ft_0_12 rf_1_12 ?_
  refine a_iconst hΓ dX0_copyFrom_139 ?_
  refine a_bipush hΓ dX0_copyFrom_140 (by decide) ?_
  refine n_copy hΓ (Nat.le_trans (by decide) hh) ml_RX0_67 kd_31 kd_7 lz_31 lz_7 rfl (Nat.le_of_ble_eq_true rfl) dX0_copyFrom_142 ?_
  refine a_aload_n hΓ 0 dX0_copyFrom_145 rfl rfl ?_
  refine n_getR hΓ fl_RX0_43 cl_0 kd_1 lz_1 dX0_copyFrom_146 ft_0_13 rf_1_13 ?_
  refine a_aload_n hΓ 1 dX0_copyFrom_149 rfl rfl ?_
  refine n_getR hΓ fl_RX0_43 cl_0 kd_25 lz_25 dX0_copyFrom_150 ft_0_13 rf_25_13 ?_
  obtain ⟨P1, q2, h⟩ := h
  refine n_callV (c := 8) (av := [aR 32]) (st := []) hΓ (ct_wX3_copyFrom_3 _ _  (cpy (cpy (cpy (cpy (cpy (cpy (up (up (up (up (up (up (up M 1 0 (M 25 0)) 1 1 (M 25 1)) 1 2 (M 25 2)) 1 3 (M 25 3)) 1 4 (M 25 4)) 1 5 (M 25 5)) 1 6 (M 25 6)) 26 2 3) 27 3 10) 28 4 10) 29 5 40) 30 6 40) 31 7 40) P1 q2) my_X3_copyFrom ml_RX0_73 ni_X3_copyFrom kd_8 rfl lz_8 rfl (Nat.le_trans (by decide) hh) (by decide) (Nat.le_of_ble_eq_true rfl) rfl dX0_copyFrom_153 (fun v Z' hq => ?_)
  obtain ⟨M4, rfl, rfl, hq⟩ := hq
  have h := h M4 hq
  dsimp only at h
  refine a_aload_n hΓ 0 dX0_copyFrom_156 rfl rfl ?_
  refine n_getR hΓ fl_RX0_50 cl_0 kd_1 lz_1 dX0_copyFrom_157 ft_0_14 rf_1_14 ?_
  refine a_aload_n hΓ 1 dX0_copyFrom_160 rfl rfl ?_
  refine n_getR hΓ fl_RX0_50 cl_0 kd_25 lz_25 dX0_copyFrom_161 ft_0_14 rf_25_14 ?_
  obtain ⟨P5, q6, h⟩ := h
  refine n_callV (c := 15) (av := [aR 39]) (st := []) hΓ (ct_wX4_copyFrom_3 _ _  M4 P5 q6) my_X4_copyFrom ml_RX0_77 ni_X4_copyFrom kd_15 rfl lz_15 rfl (Nat.le_trans (by decide) hh) (by decide) (Nat.le_of_ble_eq_true rfl) rfl dX0_copyFrom_164 (fun v Z' hq => ?_)
  obtain ⟨M8, rfl, rfl, hq⟩ := hq
  have h := h M8 hq
  dsimp only at h
  exact a_vret hΓ hr dX0_copyFrom_167 ⟨_, rfl, rfl, h⟩
theorem ct_wX0_copyFrom_3 (l : Launch) (g : Gp)  (M : Mm) (Q : Mm → Prop) (h : wX0_copyFrom_3  M Q) : Ct l g yX0_copyFrom cX0_copyFrom 2 none 2 0 0 [aR 1, aR 25] (NC, RF, M) (QV Q) :=
  ct_of (by decide) (Nat.le_of_ble_eq_true rfl) (fun Γ hg hl hr _ hΓ => by subst hg; subst hl; exact s_wX0_copyFrom_3 hΓ (by decide) hr  M h)
def wX3_copyFrom_4  (M : Mm) (Q : Mm → Prop) : Prop :=
    Q (cpy (cpy (cpy (cpy (cpy (cpy (up M 8 0 (M 55 0)) 56 9 60) 57 10 60) 58 11 60) 59 12 60) 60 13 60) 61 14 60)
set_option maxHeartbeats 4000000 in
theorem s_wX3_copyFrom_4 {Γ : Cx} {h : Nat} (hΓ : Ok Γ cX3_copyFrom RX3 2 h 0 0) (hh : 1 ≤ h) (hr : (cxm Γ).sig.returnType = none) {Q : Mm → Prop}  (M : Mm) (h : wX3_copyFrom_4  M Q) : Wa Γ 2 (Kf Γ (QV Q) 0 0) 0 0 0 [(0, aR 8), (1, aR 55)] [] (NC, RF, M) := by
  unfold wX3_copyFrom_4 at h
  refine a_aload_n hΓ 0 dX3_copyFrom_0 rfl rfl ?_
  refine a_aload_n hΓ 1 dX3_copyFrom_1 rfl rfl ?_
  refine n_getI (x := (M 55 0)) hΓ fl_RX3_30 cl_3 kd_55 lz_55 dX3_copyFrom_2 (Or.inl ft_3_0) rfl ?_
  refine n_putI (j := 0) hΓ fl_RX3_30 cl_3 nf_3_0 kd_8 lz_8 dX3_copyFrom_5 (Or.inl ft_3_0) rfl ?_
  refine a_aload_n hΓ 1 dX3_copyFrom_8 rfl rfl ?_
  refine n_getR hΓ fl_RX3_9 cl_3 kd_55 lz_55 dX3_copyFrom_9 ft_3_1 rf_55_1 ?_
  refine a_iconst hΓ dX3_copyFrom_12 ?_
  refine a_aload_n hΓ 0 dX3_copyFrom_13 rfl rfl ?_
  refine n_getR hΓ fl_RX3_9 cl_3 kd_8 lz_8 dX3_copyFrom_14 ft_3_1 rf_8_1 ?_
  refine a_iconst hΓ dX3_copyFrom_17 ?_
  refine a_bipush hΓ dX3_copyFrom_18 (by decide) ?_
  refine n_copy hΓ (Nat.le_trans (by decide) hh) ml_RX3_34 kd_56 kd_9 lz_56 lz_9 rfl (Nat.le_of_ble_eq_true rfl) dX3_copyFrom_20 ?_
  refine a_aload_n hΓ 1 dX3_copyFrom_23 rfl rfl ?_
  refine n_getR hΓ fl_RX3_15 cl_3 kd_55 lz_55 dX3_copyFrom_24 ft_3_2 rf_55_2 ?_
  refine a_iconst hΓ dX3_copyFrom_27 ?_
  refine a_aload_n hΓ 0 dX3_copyFrom_28 rfl rfl ?_
  refine n_getR hΓ fl_RX3_15 cl_3 kd_8 lz_8 dX3_copyFrom_29 ft_3_2 rf_8_2 ?_
  refine a_iconst hΓ dX3_copyFrom_32 ?_
  refine a_bipush hΓ dX3_copyFrom_33 (by decide) ?_
  refine n_copy hΓ (Nat.le_trans (by decide) hh) ml_RX3_34 kd_57 kd_10 lz_57 lz_10 rfl (Nat.le_of_ble_eq_true rfl) dX3_copyFrom_35 ?_
  refine a_aload_n hΓ 1 dX3_copyFrom_38 rfl rfl ?_
  refine n_getR hΓ fl_RX3_18 cl_3 kd_55 lz_55 dX3_copyFrom_39 ft_3_3 rf_55_3 ?_
  refine a_iconst hΓ dX3_copyFrom_42 ?_
  refine a_aload_n hΓ 0 dX3_copyFrom_43 rfl rfl ?_
  refine n_getR hΓ fl_RX3_18 cl_3 kd_8 lz_8 dX3_copyFrom_44 ft_3_3 rf_8_3 ?_
  refine a_iconst hΓ dX3_copyFrom_47 ?_
  refine a_bipush hΓ dX3_copyFrom_48 (by decide) ?_
  refine n_copy hΓ (Nat.le_trans (by decide) hh) ml_RX3_34 kd_58 kd_11 lz_58 lz_11 rfl (Nat.le_of_ble_eq_true rfl) dX3_copyFrom_50 ?_
  refine a_aload_n hΓ 1 dX3_copyFrom_53 rfl rfl ?_
  refine n_getR hΓ fl_RX3_21 cl_3 kd_55 lz_55 dX3_copyFrom_54 ft_3_4 rf_55_4 ?_
  refine a_iconst hΓ dX3_copyFrom_57 ?_
  refine a_aload_n hΓ 0 dX3_copyFrom_58 rfl rfl ?_
  refine n_getR hΓ fl_RX3_21 cl_3 kd_8 lz_8 dX3_copyFrom_59 ft_3_4 rf_8_4 ?_
  refine a_iconst hΓ dX3_copyFrom_62 ?_
  refine a_bipush hΓ dX3_copyFrom_63 (by decide) ?_
  refine n_copy hΓ (Nat.le_trans (by decide) hh) ml_RX3_34 kd_59 kd_12 lz_59 lz_12 rfl (Nat.le_of_ble_eq_true rfl) dX3_copyFrom_65 ?_
  refine a_aload_n hΓ 1 dX3_copyFrom_68 rfl rfl ?_
  refine n_getR hΓ fl_RX3_24 cl_3 kd_55 lz_55 dX3_copyFrom_69 ft_3_5 rf_55_5 ?_
  refine a_iconst hΓ dX3_copyFrom_72 ?_
  refine a_aload_n hΓ 0 dX3_copyFrom_73 rfl rfl ?_
  refine n_getR hΓ fl_RX3_24 cl_3 kd_8 lz_8 dX3_copyFrom_74 ft_3_5 rf_8_5 ?_
  refine a_iconst hΓ dX3_copyFrom_77 ?_
  refine a_bipush hΓ dX3_copyFrom_78 (by decide) ?_
  refine n_copy hΓ (Nat.le_trans (by decide) hh) ml_RX3_34 kd_60 kd_13 lz_60 lz_13 rfl (Nat.le_of_ble_eq_true rfl) dX3_copyFrom_80 ?_
  refine a_aload_n hΓ 1 dX3_copyFrom_83 rfl rfl ?_
  refine n_getR hΓ fl_RX3_27 cl_3 kd_55 lz_55 dX3_copyFrom_84 ft_3_6 rf_55_6 ?_
  refine a_iconst hΓ dX3_copyFrom_87 ?_
  refine a_aload_n hΓ 0 dX3_copyFrom_88 rfl rfl ?_
  refine n_getR hΓ fl_RX3_27 cl_3 kd_8 lz_8 dX3_copyFrom_89 ft_3_6 rf_8_6 ?_
  refine a_iconst hΓ dX3_copyFrom_92 ?_
  refine a_bipush hΓ dX3_copyFrom_93 (by decide) ?_
  refine n_copy hΓ (Nat.le_trans (by decide) hh) ml_RX3_34 kd_61 kd_14 lz_61 lz_14 rfl (Nat.le_of_ble_eq_true rfl) dX3_copyFrom_95 ?_
  exact a_vret hΓ hr dX3_copyFrom_98 ⟨_, rfl, rfl, h⟩
theorem ct_wX3_copyFrom_4 (l : Launch) (g : Gp)  (M : Mm) (Q : Mm → Prop) (h : wX3_copyFrom_4  M Q) : Ct l g yX3_copyFrom cX3_copyFrom 2 none 1 0 0 [aR 8, aR 55] (NC, RF, M) (QV Q) :=
  ct_of (by decide) (Nat.le_of_ble_eq_true rfl) (fun Γ hg hl hr _ hΓ => by subst hg; subst hl; exact s_wX3_copyFrom_4 hΓ (by decide) hr  M h)
def wX4_copyFrom_4_100 (Q : Mm → Prop) : Nat → Int → Mm → Prop
  | 0, _, _ => False
  | f + 1, v2, M => (inR v2) ∧
    (if v2 < 24 then
      (0 ≤ v2 ∧ v2 < 24) ∧
      ((M 69 v2) = 0 ∨ (M 69 v2) = 1) ∧
      ((M 70 v2) = 0 ∨ (M 70 v2) = 1) ∧
      (wX4_copyFrom_4_100 Q f) (v2 + 1) (up (up M 22 v2 (M 69 v2)) 23 v2 (M 70 v2))
    else
      Q M)
set_option maxHeartbeats 4000000 in
theorem s_wX4_copyFrom_4_100 {Γ : Cx} {h : Nat} (hΓ : Ok Γ cX4_copyFrom RX4 3 h 0 0) (hh : 1 ≤ h) (hr : (cxm Γ).sig.returnType = none) {Q : Mm → Prop}   : ∀ (f : Nat) (v2 : Int) (M : Mm), wX4_copyFrom_4_100 Q  f v2 M → Wa Γ 3 (Kf Γ (QV Q) 0 0) 0 0 100 [(0, aR 15), (1, aR 62), (2, aI v2)] [] (NC, RF, M) := by
  intro f
  induction f with
  | zero => intro v2 M h; exact h.elim
  | succ f ih =>
    intro v2 M h
    unfold wX4_copyFrom_4_100 at h
    refine a_iload_n hΓ 2 dX4_copyFrom_100 rfl rfl ?_
    refine a_bipush hΓ dX4_copyFrom_101 (by decide) ?_
    obtain ⟨g1, h⟩ := h
    refine a_icmp_ge (tgt := 136) hΓ g1 (inRl (by decide)) dX4_copyFrom_103 (by decide) (fun c2 => ?_) (fun c2 => ?_)
    · rw [if_pos c2] at h
      refine a_aload_n hΓ 0 dX4_copyFrom_106 rfl rfl ?_
      refine n_getR hΓ fl_RX4_30 cl_4 kd_15 lz_15 dX4_copyFrom_107 ft_4_7 rf_15_7 ?_
      refine a_iload_n hΓ 2 dX4_copyFrom_110 rfl rfl ?_
      refine a_aload_n hΓ 1 dX4_copyFrom_111 rfl rfl ?_
      refine n_getR hΓ fl_RX4_30 cl_4 kd_62 lz_62 dX4_copyFrom_112 ft_4_7 rf_62_7 ?_
      refine a_iload_n hΓ 2 dX4_copyFrom_115 rfl rfl ?_
      obtain ⟨g3, h⟩ := h
      refine n_bald (x := (M 69 v2)) hΓ dX4_copyFrom_116 kd_69 (Or.inl rfl) lz_69 g3 rfl ?_
      obtain ⟨g4, h⟩ := h
      refine a_zast hΓ rfl g4 dX4_copyFrom_117 kd_22 lz_22 g3 ?_
      refine a_aload_n hΓ 0 dX4_copyFrom_118 rfl rfl ?_
      refine n_getR hΓ fl_RX4_34 cl_4 kd_15 lz_15 dX4_copyFrom_119 ft_4_8 rf_15_8 ?_
      refine a_iload_n hΓ 2 dX4_copyFrom_122 rfl rfl ?_
      refine a_aload_n hΓ 1 dX4_copyFrom_123 rfl rfl ?_
      refine n_getR hΓ fl_RX4_34 cl_4 kd_62 lz_62 dX4_copyFrom_124 ft_4_8 rf_62_8 ?_
      refine a_iload_n hΓ 2 dX4_copyFrom_127 rfl rfl ?_
      refine n_bald (x := (M 70 v2)) hΓ dX4_copyFrom_128 kd_70 (Or.inl rfl) lz_70 g3 rfl ?_
      obtain ⟨g5, h⟩ := h
      refine a_zast hΓ rfl g5 dX4_copyFrom_129 kd_23 lz_23 g3 ?_
      refine a_iinc (ls' := [(2, aI (v2 + 1)), (0, aR 15), (1, aR 62)]) hΓ 2 dX4_copyFrom_130 rfl (by decide) rfl ?_
      refine a_goto (tgt := 100) hΓ dX4_copyFrom_133 (by decide) ?_
      refine a_sub (ls' := [(0, aR 15), (1, aR 62), (2, aI (v2 + 1))]) [1, 2, 0] rfl ?_
      exact ih (v2 + 1) (up (up M 22 v2 (M 69 v2)) 23 v2 (M 70 v2)) h
    · rw [if_neg c2] at h
      exact a_vret hΓ hr dX4_copyFrom_136 ⟨_, rfl, rfl, h⟩
def wX4_copyFrom_4  (M : Mm) (Q : Mm → Prop) : Prop :=
    ∃ n, wX4_copyFrom_4_100 Q n 0 (cpy (cpy (cpy (cpy (cpy (cpy (up M 15 0 (M 62 0)) 63 16 24) 64 17 24) 65 18 24) 66 19 24) 67 20 24) 68 21 24)
set_option maxHeartbeats 4000000 in
theorem s_wX4_copyFrom_4 {Γ : Cx} {h : Nat} (hΓ : Ok Γ cX4_copyFrom RX4 3 h 0 0) (hh : 1 ≤ h) (hr : (cxm Γ).sig.returnType = none) {Q : Mm → Prop}  (M : Mm) (h : wX4_copyFrom_4  M Q) : Wa Γ 3 (Kf Γ (QV Q) 0 0) 0 0 0 [(0, aR 15), (1, aR 62)] [] (NC, RF, M) := by
  unfold wX4_copyFrom_4 at h
  refine a_aload_n hΓ 0 dX4_copyFrom_0 rfl rfl ?_
  refine a_aload_n hΓ 1 dX4_copyFrom_1 rfl rfl ?_
  refine n_getI (x := (M 62 0)) hΓ fl_RX4_37 cl_4 kd_62 lz_62 dX4_copyFrom_2 (Or.inl ft_4_0) rfl ?_
  refine n_putI (j := 0) hΓ fl_RX4_37 cl_4 nf_4_0 kd_15 lz_15 dX4_copyFrom_5 (Or.inl ft_4_0) rfl ?_
  refine a_aload_n hΓ 1 dX4_copyFrom_8 rfl rfl ?_
  refine n_getR hΓ fl_RX4_9 cl_4 kd_62 lz_62 dX4_copyFrom_9 ft_4_1 rf_62_1 ?_
  refine a_iconst hΓ dX4_copyFrom_12 ?_
  refine a_aload_n hΓ 0 dX4_copyFrom_13 rfl rfl ?_
  refine n_getR hΓ fl_RX4_9 cl_4 kd_15 lz_15 dX4_copyFrom_14 ft_4_1 rf_15_1 ?_
  refine a_iconst hΓ dX4_copyFrom_17 ?_
  refine a_bipush hΓ dX4_copyFrom_18 (by decide) ?_
  refine n_copy hΓ (Nat.le_trans (by decide) hh) ml_RX4_41 kd_63 kd_16 lz_63 lz_16 rfl (Nat.le_of_ble_eq_true rfl) dX4_copyFrom_20 ?_
  refine a_aload_n hΓ 1 dX4_copyFrom_23 rfl rfl ?_
  refine n_getR hΓ fl_RX4_15 cl_4 kd_62 lz_62 dX4_copyFrom_24 ft_4_2 rf_62_2 ?_
  refine a_iconst hΓ dX4_copyFrom_27 ?_
  refine a_aload_n hΓ 0 dX4_copyFrom_28 rfl rfl ?_
  refine n_getR hΓ fl_RX4_15 cl_4 kd_15 lz_15 dX4_copyFrom_29 ft_4_2 rf_15_2 ?_
  refine a_iconst hΓ dX4_copyFrom_32 ?_
  refine a_bipush hΓ dX4_copyFrom_33 (by decide) ?_
  refine n_copy hΓ (Nat.le_trans (by decide) hh) ml_RX4_41 kd_64 kd_17 lz_64 lz_17 rfl (Nat.le_of_ble_eq_true rfl) dX4_copyFrom_35 ?_
  refine a_aload_n hΓ 1 dX4_copyFrom_38 rfl rfl ?_
  refine n_getR hΓ fl_RX4_18 cl_4 kd_62 lz_62 dX4_copyFrom_39 ft_4_3 rf_62_3 ?_
  refine a_iconst hΓ dX4_copyFrom_42 ?_
  refine a_aload_n hΓ 0 dX4_copyFrom_43 rfl rfl ?_
  refine n_getR hΓ fl_RX4_18 cl_4 kd_15 lz_15 dX4_copyFrom_44 ft_4_3 rf_15_3 ?_
  refine a_iconst hΓ dX4_copyFrom_47 ?_
  refine a_bipush hΓ dX4_copyFrom_48 (by decide) ?_
  refine n_copy hΓ (Nat.le_trans (by decide) hh) ml_RX4_41 kd_65 kd_18 lz_65 lz_18 rfl (Nat.le_of_ble_eq_true rfl) dX4_copyFrom_50 ?_
  refine a_aload_n hΓ 1 dX4_copyFrom_53 rfl rfl ?_
  refine n_getR hΓ fl_RX4_21 cl_4 kd_62 lz_62 dX4_copyFrom_54 ft_4_4 rf_62_4 ?_
  refine a_iconst hΓ dX4_copyFrom_57 ?_
  refine a_aload_n hΓ 0 dX4_copyFrom_58 rfl rfl ?_
  refine n_getR hΓ fl_RX4_21 cl_4 kd_15 lz_15 dX4_copyFrom_59 ft_4_4 rf_15_4 ?_
  refine a_iconst hΓ dX4_copyFrom_62 ?_
  refine a_bipush hΓ dX4_copyFrom_63 (by decide) ?_
  refine n_copy hΓ (Nat.le_trans (by decide) hh) ml_RX4_41 kd_66 kd_19 lz_66 lz_19 rfl (Nat.le_of_ble_eq_true rfl) dX4_copyFrom_65 ?_
  refine a_aload_n hΓ 1 dX4_copyFrom_68 rfl rfl ?_
  refine n_getR hΓ fl_RX4_24 cl_4 kd_62 lz_62 dX4_copyFrom_69 ft_4_5 rf_62_5 ?_
  refine a_iconst hΓ dX4_copyFrom_72 ?_
  refine a_aload_n hΓ 0 dX4_copyFrom_73 rfl rfl ?_
  refine n_getR hΓ fl_RX4_24 cl_4 kd_15 lz_15 dX4_copyFrom_74 ft_4_5 rf_15_5 ?_
  refine a_iconst hΓ dX4_copyFrom_77 ?_
  refine a_bipush hΓ dX4_copyFrom_78 (by decide) ?_
  refine n_copy hΓ (Nat.le_trans (by decide) hh) ml_RX4_41 kd_67 kd_20 lz_67 lz_20 rfl (Nat.le_of_ble_eq_true rfl) dX4_copyFrom_80 ?_
  refine a_aload_n hΓ 1 dX4_copyFrom_83 rfl rfl ?_
  refine n_getR hΓ fl_RX4_27 cl_4 kd_62 lz_62 dX4_copyFrom_84 ft_4_6 rf_62_6 ?_
  refine a_iconst hΓ dX4_copyFrom_87 ?_
  refine a_aload_n hΓ 0 dX4_copyFrom_88 rfl rfl ?_
  refine n_getR hΓ fl_RX4_27 cl_4 kd_15 lz_15 dX4_copyFrom_89 ft_4_6 rf_15_6 ?_
  refine a_iconst hΓ dX4_copyFrom_92 ?_
  refine a_bipush hΓ dX4_copyFrom_93 (by decide) ?_
  refine n_copy hΓ (Nat.le_trans (by decide) hh) ml_RX4_41 kd_68 kd_21 lz_68 lz_21 rfl (Nat.le_of_ble_eq_true rfl) dX4_copyFrom_95 ?_
  refine a_iconst hΓ dX4_copyFrom_98 ?_
  refine a_istore_n (ls' := [(2, aI 0), (0, aR 15), (1, aR 62)]) hΓ dX4_copyFrom_99 rfl (by decide) rfl ?_
  refine a_sub (ls' := [(0, aR 15), (1, aR 62), (2, aI 0)]) [1, 2, 0] rfl ?_
  obtain ⟨f1, h⟩ := h
  exact s_wX4_copyFrom_4_100 hΓ (Nat.le_trans (by decide) hh) hr  f1 0 (cpy (cpy (cpy (cpy (cpy (cpy (up M 15 0 (M 62 0)) 63 16 24) 64 17 24) 65 18 24) 66 19 24) 67 20 24) 68 21 24) h
theorem ct_wX4_copyFrom_4 (l : Launch) (g : Gp)  (M : Mm) (Q : Mm → Prop) (h : wX4_copyFrom_4  M Q) : Ct l g yX4_copyFrom cX4_copyFrom 3 none 1 0 0 [aR 15, aR 62] (NC, RF, M) (QV Q) :=
  ct_of (by decide) (Nat.le_of_ble_eq_true rfl) (fun Γ hg hl hr _ hΓ => by subst hg; subst hl; exact s_wX4_copyFrom_4 hΓ (by decide) hr  M h)
def wX0_copyFrom_4  (M : Mm) (Q : Mm → Prop) : Prop :=
    Bv (wX3_copyFrom_4 (cpy (cpy (cpy (cpy (cpy (cpy (up (up (up (up (up (up (up M 1 0 (M 48 0)) 1 1 (M 48 1)) 1 2 (M 48 2)) 1 3 (M 48 3)) 1 4 (M 48 4)) 1 5 (M 48 5)) 1 6 (M 48 6)) 49 2 3) 50 3 10) 51 4 10) 52 5 40) 53 6 40) 54 7 40)) (fun M4 =>
    Bv (wX4_copyFrom_4 M4) (fun M8 =>
    Q M8))
set_option maxHeartbeats 4000000 in
theorem s_wX0_copyFrom_4 {Γ : Cx} {h : Nat} (hΓ : Ok Γ cX0_copyFrom RX0 2 h 0 0) (hh : 2 ≤ h) (hr : (cxm Γ).sig.returnType = none) {Q : Mm → Prop}  (M : Mm) (h : wX0_copyFrom_4  M Q) : Wa Γ 2 (Kf Γ (QV Q) 0 0) 0 0 0 [(0, aR 1), (1, aR 48)] [] (NC, RF, M) := by
  unfold wX0_copyFrom_4 at h
  refine a_aload_n hΓ 0 dX0_copyFrom_0 rfl rfl ?_
  refine a_aload_n hΓ 1 dX0_copyFrom_1 rfl rfl ?_
  refine n_getI (x := (M 48 0)) hΓ fl_RX0_57 cl_0 kd_48 lz_48 dX0_copyFrom_2 (Or.inl ft_0_0) rfl ?_
  refine n_putI (j := 0) hΓ fl_RX0_57 cl_0 nf_0_0 kd_1 lz_1 dX0_copyFrom_5 (Or.inl ft_0_0) rfl ?_
  refine a_aload_n hΓ 0 dX0_copyFrom_8 rfl rfl ?_
  refine a_aload_n hΓ 1 dX0_copyFrom_9 rfl rfl ?_
  refine n_getI (x := (M 48 1)) hΓ fl_RX0_54 cl_0 kd_48 lz_48 dX0_copyFrom_10 (Or.inl ft_0_1) rfl ?_
  refine n_putI (j := 1) hΓ fl_RX0_54 cl_0 nf_0_1 kd_1 lz_1 dX0_copyFrom_13 (Or.inl ft_0_1) rfl ?_
  refine a_aload_n hΓ 0 dX0_copyFrom_16 rfl rfl ?_
  refine a_aload_n hΓ 1 dX0_copyFrom_17 rfl rfl ?_
  refine n_getI (x := (M 48 2)) hΓ fl_RX0_9 cl_0 kd_48 lz_48 dX0_copyFrom_18 (Or.inl ft_0_2) rfl ?_
  refine n_putI (j := 2) hΓ fl_RX0_9 cl_0 nf_0_2 kd_1 lz_1 dX0_copyFrom_21 (Or.inl ft_0_2) rfl ?_
  refine a_aload_n hΓ 0 dX0_copyFrom_24 rfl rfl ?_
  refine a_aload_n hΓ 1 dX0_copyFrom_25 rfl rfl ?_
  refine n_getI (x := (M 48 3)) hΓ fl_RX0_15 cl_0 kd_48 lz_48 dX0_copyFrom_26 (Or.inl ft_0_3) rfl ?_
  refine n_putI (j := 3) hΓ fl_RX0_15 cl_0 nf_0_3 kd_1 lz_1 dX0_copyFrom_29 (Or.inl ft_0_3) rfl ?_
  refine a_aload_n hΓ 0 dX0_copyFrom_32 rfl rfl ?_
  refine a_aload_n hΓ 1 dX0_copyFrom_33 rfl rfl ?_
  refine n_getI (x := (M 48 4)) hΓ fl_RX0_18 cl_0 kd_48 lz_48 dX0_copyFrom_34 (Or.inl ft_0_4) rfl ?_
  refine n_putI (j := 4) hΓ fl_RX0_18 cl_0 nf_0_4 kd_1 lz_1 dX0_copyFrom_37 (Or.inl ft_0_4) rfl ?_
  refine a_aload_n hΓ 0 dX0_copyFrom_40 rfl rfl ?_
  refine a_aload_n hΓ 1 dX0_copyFrom_41 rfl rfl ?_
  refine n_getL (x := (M 48 5)) hΓ fl_RX0_60 cl_0 kd_48 lz_48 dX0_copyFrom_42 ft_0_5 rfl ?_
  refine n_putL (j := 5) hΓ fl_RX0_60 cl_0 nf_0_5 kd_1 lz_1 dX0_copyFrom_45 ft_0_5 rfl ?_
  refine a_aload_n hΓ 0 dX0_copyFrom_48 rfl rfl ?_
  refine a_aload_n hΓ 1 dX0_copyFrom_49 rfl rfl ?_
  refine n_getL (x := (M 48 6)) hΓ fl_RX0_64 cl_0 kd_48 lz_48 dX0_copyFrom_50 ft_0_6 rfl ?_
  refine n_putL (j := 6) hΓ fl_RX0_64 cl_0 nf_0_6 kd_1 lz_1 dX0_copyFrom_53 ft_0_6 rfl ?_
  refine a_aload_n hΓ 1 dX0_copyFrom_56 rfl rfl ?_
  refine n_getR hΓ fl_RX0_21 cl_0 kd_48 lz_48 dX0_copyFrom_57 ft_0_7 rf_48_7 ?_
  refine a_iconst hΓ dX0_copyFrom_60 ?_
  refine a_aload_n hΓ 0 dX0_copyFrom_61 rfl rfl ?_
  refine n_getR hΓ fl_RX0_21 cl_0 kd_1 lz_1 dX0_copyFrom_62 ft_0_7 rf_1_7 ?_
  refine a_iconst hΓ dX0_copyFrom_65 ?_
  refine a_iconst hΓ dX0_copyFrom_66 ?_
  refine n_copy hΓ (Nat.le_trans (by decide) hh) ml_RX0_67 kd_49 kd_2 lz_49 lz_2 rfl (Nat.le_of_ble_eq_true rfl) dX0_copyFrom_67 ?_
  refine a_aload_n hΓ 1 dX0_copyFrom_70 rfl rfl ?_
  refine n_getR hΓ fl_RX0_25 cl_0 kd_48 lz_48 dX0_copyFrom_71 ft_0_8 rf_48_8 ?_
  refine a_iconst hΓ dX0_copyFrom_74 ?_
  refine a_aload_n hΓ 0 dX0_copyFrom_75 rfl rfl ?_
  refine n_getR hΓ fl_RX0_25 cl_0 kd_1 lz_1 dX0_copyFrom_76 ft_0_8 rf_1_8 ?_
  refine a_iconst hΓ dX0_copyFrom_79 ?_
  refine a_bipush hΓ dX0_copyFrom_80 (by decide) ?_
  refine n_copy hΓ (Nat.le_trans (by decide) hh) ml_RX0_67 kd_50 kd_3 lz_50 lz_3 rfl (Nat.le_of_ble_eq_true rfl) dX0_copyFrom_82 ?_
  refine a_aload_n hΓ 1 dX0_copyFrom_85 rfl rfl ?_
  refine n_getR hΓ fl_RX0_28 cl_0 kd_48 lz_48 dX0_copyFrom_86 ft_0_9 rf_48_9 ?_
  refine a_iconst hΓ dX0_copyFrom_89 ?_
  refine a_aload_n hΓ 0 dX0_copyFrom_90 rfl rfl ?_
  refine n_getR hΓ fl_RX0_28 cl_0 kd_1 lz_1 dX0_copyFrom_91 ft_0_9 rf_1_9 ?_
  refine a_iconst hΓ dX0_copyFrom_94 ?_
  refine a_bipush hΓ dX0_copyFrom_95 (by decide) ?_
  refine n_copy hΓ (Nat.le_trans (by decide) hh) ml_RX0_67 kd_51 kd_4 lz_51 lz_4 rfl (Nat.le_of_ble_eq_true rfl) dX0_copyFrom_97 ?_
  refine a_aload_n hΓ 1 dX0_copyFrom_100 rfl rfl ?_
  refine n_getR hΓ fl_RX0_31 cl_0 kd_48 lz_48 dX0_copyFrom_101 ft_0_10 rf_48_10 ?_
  refine a_iconst hΓ dX0_copyFrom_104 ?_
  refine a_aload_n hΓ 0 dX0_copyFrom_105 rfl rfl ?_
  refine n_getR hΓ fl_RX0_31 cl_0 kd_1 lz_1 dX0_copyFrom_106 ft_0_10 rf_1_10 ?_
  refine a_iconst hΓ dX0_copyFrom_109 ?_
  refine a_bipush hΓ dX0_copyFrom_110 (by decide) ?_
  refine n_copy hΓ (Nat.le_trans (by decide) hh) ml_RX0_67 kd_52 kd_5 lz_52 lz_5 rfl (Nat.le_of_ble_eq_true rfl) dX0_copyFrom_112 ?_
  refine a_aload_n hΓ 1 dX0_copyFrom_115 rfl rfl ?_
  refine n_getR hΓ fl_RX0_34 cl_0 kd_48 lz_48 dX0_copyFrom_116 ft_0_11 rf_48_11 ?_
  refine a_iconst hΓ dX0_copyFrom_119 ?_
  refine a_aload_n hΓ 0 dX0_copyFrom_120 rfl rfl ?_
  refine n_getR hΓ fl_RX0_34 cl_0 kd_1 lz_1 dX0_copyFrom_121 ft_0_11 rf_1_11 ?_
  refine a_iconst hΓ dX0_copyFrom_124 ?_
  refine a_bipush hΓ dX0_copyFrom_125 (by decide) ?_
  refine n_copy hΓ (Nat.le_trans (by decide) hh) ml_RX0_67 kd_53 kd_6 lz_53 lz_6 rfl (Nat.le_of_ble_eq_true rfl) dX0_copyFrom_127 ?_
  refine a_aload_n hΓ 1 dX0_copyFrom_130 rfl rfl ?_
  refine n_getR hΓ fl_RX0_37 cl_0 kd_48 lz_48 dX0_copyFrom_131 ft_0_12 rf_48_12 ?_
  refine a_iconst hΓ dX0_copyFrom_134 ?_
  refine a_aload_n hΓ 0 dX0_copyFrom_135 rfl rfl ?_
  refine n_getR hΓ fl_RX0_37 cl_0 kd_1 lz_1 dX0_copyFrom_136 ft_0_12 rf_1_12 ?_
  refine a_iconst hΓ dX0_copyFrom_139 ?_
  refine a_bipush hΓ dX0_copyFrom_140 (by decide) ?_
  refine n_copy hΓ (Nat.le_trans (by decide) hh) ml_RX0_67 kd_54 kd_7 lz_54 lz_7 rfl (Nat.le_of_ble_eq_true rfl) dX0_copyFrom_142 ?_
  refine a_aload_n hΓ 0 dX0_copyFrom_145 rfl rfl ?_
  refine n_getR hΓ fl_RX0_43 cl_0 kd_1 lz_1 dX0_copyFrom_146 ft_0_13 rf_1_13 ?_
  refine a_aload_n hΓ 1 dX0_copyFrom_149 rfl rfl ?_
  refine n_getR hΓ fl_RX0_43 cl_0 kd_48 lz_48 dX0_copyFrom_150 ft_0_13 rf_48_13 ?_
  obtain ⟨P1, q2, h⟩ := h
  refine n_callV (c := 8) (av := [aR 55]) (st := []) hΓ (ct_wX3_copyFrom_4 _ _  (cpy (cpy (cpy (cpy (cpy (cpy (up (up (up (up (up (up (up M 1 0 (M 48 0)) 1 1 (M 48 1)) 1 2 (M 48 2)) 1 3 (M 48 3)) 1 4 (M 48 4)) 1 5 (M 48 5)) 1 6 (M 48 6)) 49 2 3) 50 3 10) 51 4 10) 52 5 40) 53 6 40) 54 7 40) P1 q2) my_X3_copyFrom ml_RX0_73 ni_X3_copyFrom kd_8 rfl lz_8 rfl (Nat.le_trans (by decide) hh) (by decide) (Nat.le_of_ble_eq_true rfl) rfl dX0_copyFrom_153 (fun v Z' hq => ?_)
  obtain ⟨M4, rfl, rfl, hq⟩ := hq
  have h := h M4 hq
  dsimp only at h
  refine a_aload_n hΓ 0 dX0_copyFrom_156 rfl rfl ?_
  refine n_getR hΓ fl_RX0_50 cl_0 kd_1 lz_1 dX0_copyFrom_157 ft_0_14 rf_1_14 ?_
  refine a_aload_n hΓ 1 dX0_copyFrom_160 rfl rfl ?_
  refine n_getR hΓ fl_RX0_50 cl_0 kd_48 lz_48 dX0_copyFrom_161 ft_0_14 rf_48_14 ?_
  obtain ⟨P5, q6, h⟩ := h
  refine n_callV (c := 15) (av := [aR 62]) (st := []) hΓ (ct_wX4_copyFrom_4 _ _  M4 P5 q6) my_X4_copyFrom ml_RX0_77 ni_X4_copyFrom kd_15 rfl lz_15 rfl (Nat.le_trans (by decide) hh) (by decide) (Nat.le_of_ble_eq_true rfl) rfl dX0_copyFrom_164 (fun v Z' hq => ?_)
  obtain ⟨M8, rfl, rfl, hq⟩ := hq
  have h := h M8 hq
  dsimp only at h
  exact a_vret hΓ hr dX0_copyFrom_167 ⟨_, rfl, rfl, h⟩
theorem ct_wX0_copyFrom_4 (l : Launch) (g : Gp)  (M : Mm) (Q : Mm → Prop) (h : wX0_copyFrom_4  M Q) : Ct l g yX0_copyFrom cX0_copyFrom 2 none 2 0 0 [aR 1, aR 48] (NC, RF, M) (QV Q) :=
  ct_of (by decide) (Nat.le_of_ble_eq_true rfl) (fun Γ hg hl hr _ hΓ => by subst hg; subst hl; exact s_wX0_copyFrom_4 hΓ (by decide) hr  M h)
def wX11_back (v1 : Int) (M : Mm) (Q : Int → Mm → Prop) : Prop :=
    Bd (wX11_within v1 0 1 M) (fun r3 M4 =>
    (inR r3) ∧
    (if r3 = 0 then
      Bd (wX11_refuse (-1) M4) (fun r9 M10 =>
      Q r9 M10)
    else
      (0 ≤ v1 ∧ v1 < 2) ∧
      (inR (M4 71 v1)) ∧
      (if (M4 71 v1) = 0 then
        Bd (wX11_refuse (-2) M4) (fun r16 M17 =>
        Q r16 M17)
      else
        (if v1 = 0 then
          Bv (wX0_copyFrom_3 M4) (fun M22 =>
          Bd (wX11_accept 0 M22) (fun r25 M26 =>
          Q r25 M26))
        else
          Bv (wX0_copyFrom_4 M4) (fun M30 =>
          Bd (wX11_accept 0 M30) (fun r33 M34 =>
          Q r33 M34))))))
set_option maxHeartbeats 4000000 in
theorem s_wX11_back {Γ : Cx} {h : Nat} (hΓ : Ok Γ cX11_back RX11 2 h 0 0) (hh : 3 ≤ h) (hr : (cxm Γ).sig.returnType = (some .int)) {Q : Int → Mm → Prop} (v1 : Int) (M : Mm) (h : wX11_back v1 M Q) : Wa Γ 2 (Kf Γ (QI Q) 0 0) 0 0 0 [(0, aR 0), (1, aI v1)] [] (NC, RF, M) := by
  unfold wX11_back at h
  refine a_iload_n hΓ 1 dX11_back_0 rfl rfl ?_
  refine a_iconst hΓ dX11_back_1 ?_
  refine a_iconst hΓ dX11_back_2 ?_
  obtain ⟨P1, q2, h⟩ := h
  refine n_callS (av := [aI v1, aI 0, aI 1]) (st := []) hΓ (ct_wX11_within _ _ v1 0 1 M P1 q2) my_X11_within ml_RX11_79 rfl (Nat.le_trans (by decide) hh) (by decide) (Nat.le_of_ble_eq_true rfl) rfl dX11_back_3 (fun v Z' hq => ?_)
  obtain ⟨r3, M4, rfl, rfl, hq⟩ := hq
  have h := h r3 M4 hq
  dsimp only at h
  obtain ⟨g5, h⟩ := h
  refine a_if_ne (tgt := 15) hΓ g5 dX11_back_6 (by decide) (fun c6 => ?_) (fun c6 => ?_)
  · rw [if_pos c6] at h
    refine a_aload_n hΓ 0 dX11_back_9 rfl rfl ?_
    refine a_iconst hΓ dX11_back_10 ?_
    obtain ⟨P7, q8, h⟩ := h
    refine n_callV (c := 0) (av := [aI (-1)]) (st := []) hΓ (ct_wX11_refuse _ _ (-1) M4 P7 q8) my_X11_refuse ml_RX11_83 ni_X11_refuse kd_0 rfl lz_0 rfl (Nat.le_trans (by decide) hh) (by decide) (Nat.le_of_ble_eq_true rfl) rfl dX11_back_11 (fun v Z' hq => ?_)
    obtain ⟨r9, M10, rfl, rfl, hq⟩ := hq
    have h := h r9 M10 hq
    dsimp only at h
    exact a_iret hΓ hr dX11_back_14 ⟨_, _, rfl, rfl, h⟩
  · rw [if_neg c6] at h
    refine a_aload_n hΓ 0 dX11_back_15 rfl rfl ?_
    refine n_getR hΓ fl_RX11_20 cl_11 kd_0 lz_0 dX11_back_16 ft_11_2 rf_0_2 ?_
    refine a_iload_n hΓ 1 dX11_back_19 rfl rfl ?_
    obtain ⟨g11, h⟩ := h
    refine n_bald (x := (M4 71 v1)) hΓ dX11_back_20 kd_71 (Or.inl rfl) lz_71 g11 rfl ?_
    obtain ⟨g12, h⟩ := h
    refine a_if_ne (tgt := 31) hΓ g12 dX11_back_21 (by decide) (fun c13 => ?_) (fun c13 => ?_)
    · rw [if_pos c13] at h
      refine a_aload_n hΓ 0 dX11_back_24 rfl rfl ?_
      refine a_bipush hΓ dX11_back_25 (by decide) ?_
      obtain ⟨P14, q15, h⟩ := h
      refine n_callV (c := 0) (av := [aI (-2)]) (st := []) hΓ (ct_wX11_refuse _ _ (-2) M4 P14 q15) my_X11_refuse ml_RX11_83 ni_X11_refuse kd_0 rfl lz_0 rfl (Nat.le_trans (by decide) hh) (by decide) (Nat.le_of_ble_eq_true rfl) rfl dX11_back_27 (fun v Z' hq => ?_)
      obtain ⟨r16, M17, rfl, rfl, hq⟩ := hq
      have h := h r16 M17 hq
      dsimp only at h
      exact a_iret hΓ hr dX11_back_30 ⟨_, _, rfl, rfl, h⟩
    · rw [if_neg c13] at h
      refine a_aload_n hΓ 0 dX11_back_31 rfl rfl ?_
      refine n_getR hΓ fl_RX11_10 cl_11 kd_0 lz_0 dX11_back_32 ft_11_0 rf_0_0 ?_
      refine a_aload_n hΓ 0 dX11_back_35 rfl rfl ?_
      refine n_getR hΓ fl_RX11_16 cl_11 kd_0 lz_0 dX11_back_36 ft_11_1 rf_0_1 ?_
      refine a_iload_n hΓ 1 dX11_back_39 rfl rfl ?_
      refine n_aald hΓ dX11_back_40 kd_24 lz_24 g11 rf_24_0 rf_24_1 (fun c18 => ?_) (fun c18 => ?_)
      · rw [if_pos c18] at h
        obtain ⟨P19, q20, h⟩ := h
        refine n_callV (c := 1) (av := [aR 25]) (st := []) hΓ (ct_wX0_copyFrom_3 _ _  M4 P19 q20) my_X0_copyFrom ml_RX11_327 ni_X0_copyFrom kd_1 rfl lz_1 rfl (Nat.le_trans (by decide) hh) (by decide) (Nat.le_of_ble_eq_true rfl) rfl dX11_back_41 (fun v Z' hq => ?_)
        obtain ⟨M22, rfl, rfl, hq⟩ := hq
        have h := h M22 hq
        dsimp only at h
        refine a_aload_n hΓ 0 dX11_back_44 rfl rfl ?_
        refine a_iconst hΓ dX11_back_45 ?_
        obtain ⟨P23, q24, h⟩ := h
        refine n_callV (c := 0) (av := [aI 0]) (st := []) hΓ (ct_wX11_accept _ _ 0 M22 P23 q24) my_X11_accept ml_RX11_91 ni_X11_accept kd_0 rfl lz_0 rfl (Nat.le_trans (by decide) hh) (by decide) (Nat.le_of_ble_eq_true rfl) rfl dX11_back_46 (fun v Z' hq => ?_)
        obtain ⟨r25, M26, rfl, rfl, hq⟩ := hq
        have h := h r25 M26 hq
        dsimp only at h
        exact a_iret hΓ hr dX11_back_49 ⟨_, _, rfl, rfl, h⟩
      · rw [if_neg c18] at h
        obtain ⟨P27, q28, h⟩ := h
        refine n_callV (c := 1) (av := [aR 48]) (st := []) hΓ (ct_wX0_copyFrom_4 _ _  M4 P27 q28) my_X0_copyFrom ml_RX11_327 ni_X0_copyFrom kd_1 rfl lz_1 rfl (Nat.le_trans (by decide) hh) (by decide) (Nat.le_of_ble_eq_true rfl) rfl dX11_back_41 (fun v Z' hq => ?_)
        obtain ⟨M30, rfl, rfl, hq⟩ := hq
        have h := h M30 hq
        dsimp only at h
        refine a_aload_n hΓ 0 dX11_back_44 rfl rfl ?_
        refine a_iconst hΓ dX11_back_45 ?_
        obtain ⟨P31, q32, h⟩ := h
        refine n_callV (c := 0) (av := [aI 0]) (st := []) hΓ (ct_wX11_accept _ _ 0 M30 P31 q32) my_X11_accept ml_RX11_91 ni_X11_accept kd_0 rfl lz_0 rfl (Nat.le_trans (by decide) hh) (by decide) (Nat.le_of_ble_eq_true rfl) rfl dX11_back_46 (fun v Z' hq => ?_)
        obtain ⟨r33, M34, rfl, rfl, hq⟩ := hq
        have h := h r33 M34 hq
        dsimp only at h
        exact a_iret hΓ hr dX11_back_49 ⟨_, _, rfl, rfl, h⟩
theorem ct_wX11_back (l : Launch) (g : Gp) (v1 : Int) (M : Mm) (Q : Int → Mm → Prop) (h : wX11_back v1 M Q) : Ct l g yX11_back cX11_back 2 (some .int) 3 0 0 [aR 0, aI v1] (NC, RF, M) (QI Q) :=
  ct_of (by decide) (Nat.le_of_ble_eq_true rfl) (fun Γ hg hl hr _ hΓ => by subst hg; subst hl; exact s_wX11_back hΓ (by decide) hr v1 M h)
def wX11_count (v1 : Int) (M : Mm) (Q : Int → Mm → Prop) : Prop :=
    (inR v1) ∧
    (if v1 = 0 then
      Q (M 1 0) M
    else
      (if v1 = 1 then
        Q (M 8 0) M
      else
        (if v1 = 2 then
          Q (M 1 1) M
        else
          (if v1 = 3 then
            Q (M 15 0) M
          else
            (if v1 = 4 then
              Q (M 100 1) M
            else
              (if v1 = 5 then
                Q (M 88 2) M
              else
                (if v1 = 6 then
                  Q (M 86 2) M
                else
                  Q (-1) M)))))))
set_option maxHeartbeats 4000000 in
theorem s_wX11_count {Γ : Cx} {h : Nat} (hΓ : Ok Γ cX11_count RX11 2 h 0 0) (hh : 1 ≤ h) (hr : (cxm Γ).sig.returnType = (some .int)) {Q : Int → Mm → Prop} (v1 : Int) (M : Mm) (h : wX11_count v1 M Q) : Wa Γ 2 (Kf Γ (QI Q) 0 0) 0 0 0 [(0, aR 0), (1, aI v1)] [] (NC, RF, M) := by
  unfold wX11_count at h
  refine a_iload_n hΓ 1 dX11_count_0 rfl rfl ?_
  obtain ⟨g1, h⟩ := h
  by_cases c2 : v1 = 0
  · rw [if_pos c2] at h
    refine a_tswIn (tgt := 44) hΓ g1 dX11_count_1 (by rw [c2]; decide) (by rw [c2]; decide) (by rw [c2]; rfl) (by decide) ?_
    refine a_aload_n hΓ 0 dX11_count_44 rfl rfl ?_
    refine n_getR hΓ fl_RX11_10 cl_11 kd_0 lz_0 dX11_count_45 ft_11_0 rf_0_0 ?_
    refine n_getI (x := (M 1 0)) hΓ fl_RX11_94 cl_0 kd_1 lz_1 dX11_count_48 (Or.inl ft_0_0) rfl ?_
    exact a_iret hΓ hr dX11_count_51 ⟨_, _, rfl, rfl, h⟩
  · rw [if_neg c2] at h
    by_cases c3 : v1 = 1
    · rw [if_pos c3] at h
      refine a_tswIn (tgt := 52) hΓ g1 dX11_count_1 (by rw [c3]; decide) (by rw [c3]; decide) (by rw [c3]; rfl) (by decide) ?_
      refine a_aload_n hΓ 0 dX11_count_52 rfl rfl ?_
      refine n_getR hΓ fl_RX11_10 cl_11 kd_0 lz_0 dX11_count_53 ft_11_0 rf_0_0 ?_
      refine n_getR hΓ fl_RX11_109 cl_0 kd_1 lz_1 dX11_count_56 ft_0_13 rf_1_13 ?_
      refine n_getI (x := (M 8 0)) hΓ fl_RX11_113 cl_3 kd_8 lz_8 dX11_count_59 (Or.inl ft_3_0) rfl ?_
      exact a_iret hΓ hr dX11_count_62 ⟨_, _, rfl, rfl, h⟩
    · rw [if_neg c3] at h
      by_cases c4 : v1 = 2
      · rw [if_pos c4] at h
        refine a_tswIn (tgt := 63) hΓ g1 dX11_count_1 (by rw [c4]; decide) (by rw [c4]; decide) (by rw [c4]; rfl) (by decide) ?_
        refine a_aload_n hΓ 0 dX11_count_63 rfl rfl ?_
        refine n_getR hΓ fl_RX11_10 cl_11 kd_0 lz_0 dX11_count_64 ft_11_0 rf_0_0 ?_
        refine n_getI (x := (M 1 1)) hΓ fl_RX11_126 cl_0 kd_1 lz_1 dX11_count_67 (Or.inl ft_0_1) rfl ?_
        exact a_iret hΓ hr dX11_count_70 ⟨_, _, rfl, rfl, h⟩
      · rw [if_neg c4] at h
        by_cases c5 : v1 = 3
        · rw [if_pos c5] at h
          refine a_tswIn (tgt := 71) hΓ g1 dX11_count_1 (by rw [c5]; decide) (by rw [c5]; decide) (by rw [c5]; rfl) (by decide) ?_
          refine a_aload_n hΓ 0 dX11_count_71 rfl rfl ?_
          refine n_getR hΓ fl_RX11_10 cl_11 kd_0 lz_0 dX11_count_72 ft_11_0 rf_0_0 ?_
          refine n_getR hΓ fl_RX11_153 cl_0 kd_1 lz_1 dX11_count_75 ft_0_14 rf_1_14 ?_
          refine n_getI (x := (M 15 0)) hΓ fl_RX11_306 cl_4 kd_15 lz_15 dX11_count_78 (Or.inl ft_4_0) rfl ?_
          exact a_iret hΓ hr dX11_count_81 ⟨_, _, rfl, rfl, h⟩
        · rw [if_neg c5] at h
          by_cases c6 : v1 = 4
          · rw [if_pos c6] at h
            refine a_tswIn (tgt := 82) hΓ g1 dX11_count_1 (by rw [c6]; decide) (by rw [c6]; decide) (by rw [c6]; rfl) (by decide) ?_
            refine a_aload_n hΓ 0 dX11_count_82 rfl rfl ?_
            refine n_getR hΓ fl_RX11_75 cl_11 kd_0 lz_0 dX11_count_83 ft_11_9 rf_0_9 ?_
            refine n_getI (x := (M 100 1)) hΓ fl_RX11_294 cl_7 kd_100 lz_100 dX11_count_86 (Or.inl ft_7_1) rfl ?_
            exact a_iret hΓ hr dX11_count_89 ⟨_, _, rfl, rfl, h⟩
          · rw [if_neg c6] at h
            by_cases c7 : v1 = 5
            · rw [if_pos c7] at h
              refine a_tswIn (tgt := 90) hΓ g1 dX11_count_1 (by rw [c7]; decide) (by rw [c7]; decide) (by rw [c7]; rfl) (by decide) ?_
              refine a_aload_n hΓ 0 dX11_count_90 rfl rfl ?_
              refine n_getR hΓ fl_RX11_61 cl_11 kd_0 lz_0 dX11_count_91 ft_11_7 rf_0_7 ?_
              refine n_getI (x := (M 88 2)) hΓ fl_RX11_266 cl_10 kd_88 lz_88 dX11_count_94 (Or.inl ft_10_2) rfl ?_
              exact a_iret hΓ hr dX11_count_97 ⟨_, _, rfl, rfl, h⟩
            · rw [if_neg c7] at h
              by_cases c8 : v1 = 6
              · rw [if_pos c8] at h
                refine a_tswIn (tgt := 98) hΓ g1 dX11_count_1 (by rw [c8]; decide) (by rw [c8]; decide) (by rw [c8]; rfl) (by decide) ?_
                refine a_aload_n hΓ 0 dX11_count_98 rfl rfl ?_
                refine n_getR hΓ fl_RX11_54 cl_11 kd_0 lz_0 dX11_count_99 ft_11_6 rf_0_6 ?_
                refine n_getI (x := (M 86 2)) hΓ fl_RX11_255 cl_8 kd_86 lz_86 dX11_count_102 (Or.inl ft_8_2) rfl ?_
                exact a_iret hΓ hr dX11_count_105 ⟨_, _, rfl, rfl, h⟩
              · rw [if_neg c8] at h
                refine a_tswOut (tgt := 106) hΓ g1 dX11_count_1 (by omega) (by decide) ?_
                refine a_iconst hΓ dX11_count_106 ?_
                exact a_iret hΓ hr dX11_count_107 ⟨_, _, rfl, rfl, h⟩
theorem ct_wX11_count (l : Launch) (g : Gp) (v1 : Int) (M : Mm) (Q : Int → Mm → Prop) (h : wX11_count v1 M Q) : Ct l g yX11_count cX11_count 2 (some .int) 1 0 0 [aR 0, aI v1] (NC, RF, M) (QI Q) :=
  ct_of (by decide) (Nat.le_of_ble_eq_true rfl) (fun Γ hg hl hr _ hΓ => by subst hg; subst hl; exact s_wX11_count hΓ (by decide) hr v1 M h)
def wX11_status  (M : Mm) (Q : Int → Mm → Prop) : Prop :=
    Q (M 0 10) M
set_option maxHeartbeats 4000000 in
theorem s_wX11_status {Γ : Cx} {h : Nat} (hΓ : Ok Γ cX11_status RX11 1 h 0 0) (hh : 1 ≤ h) (hr : (cxm Γ).sig.returnType = (some .int)) {Q : Int → Mm → Prop}  (M : Mm) (h : wX11_status  M Q) : Wa Γ 1 (Kf Γ (QI Q) 0 0) 0 0 0 [(0, aR 0)] [] (NC, RF, M) := by
  unfold wX11_status at h
  refine a_aload_n hΓ 0 dX11_status_0 rfl rfl ?_
  refine n_getI (x := (M 0 10)) hΓ fl_RX11_330 cl_11 kd_0 lz_0 dX11_status_1 (Or.inl ft_11_10) rfl ?_
  exact a_iret hΓ hr dX11_status_4 ⟨_, _, rfl, rfl, h⟩
theorem ct_wX11_status (l : Launch) (g : Gp)  (M : Mm) (Q : Int → Mm → Prop) (h : wX11_status  M Q) : Ct l g yX11_status cX11_status 1 (some .int) 1 0 0 [aR 0] (NC, RF, M) (QI Q) :=
  ct_of (by decide) (Nat.le_of_ble_eq_true rfl) (fun Γ hg hl hr _ hΓ => by subst hg; subst hl; exact s_wX11_status hΓ (by decide) hr  M h)
def wX12_in (v0 : Int) (v1 : Int) (v2 : Int) (M : Mm) (Q : Int → Mm → Prop) : Prop :=
    (inR v0) ∧
    (inR v1) ∧
    (if v0 < v1 then
      Q 0 M
    else
      (inR v2) ∧
      (if v0 ≤ v2 then
        Q 1 M
      else
        Q 0 M))
set_option maxHeartbeats 4000000 in
theorem s_wX12_in {Γ : Cx} {h : Nat} (hΓ : Ok Γ cX12_in RX12 3 h 0 0) (hh : 1 ≤ h) (hr : (cxm Γ).sig.returnType = (some .boolean)) {Q : Int → Mm → Prop} (v0 : Int) (v1 : Int) (v2 : Int) (M : Mm) (h : wX12_in v0 v1 v2 M Q) : Wa Γ 3 (Kf Γ (QI Q) 0 0) 0 0 0 [(0, aI v0), (1, aI v1), (2, aI v2)] [] (NC, RF, M) := by
  unfold wX12_in at h
  refine a_iload_n hΓ 0 dX12_in_0 rfl rfl ?_
  refine a_iload_n hΓ 1 dX12_in_1 rfl rfl ?_
  obtain ⟨g1, h⟩ := h
  obtain ⟨g2, h⟩ := h
  refine a_icmp_lt (tgt := 14) hΓ g1 g2 dX12_in_2 (by decide) (fun c3 => ?_) (fun c3 => ?_)
  · rw [if_pos c3] at h
    refine a_iconst hΓ dX12_in_14 ?_
    exact a_zret hΓ hr (Or.inl rfl) dX12_in_15 ⟨_, _, rfl, rfl, h⟩
  · rw [if_neg c3] at h
    refine a_iload_n hΓ 0 dX12_in_5 rfl rfl ?_
    refine a_iload_n hΓ 2 dX12_in_6 rfl rfl ?_
    obtain ⟨g4, h⟩ := h
    refine a_icmp_gt (tgt := 14) hΓ g1 g4 dX12_in_7 (by decide) (fun c5 => ?_) (fun c5 => ?_)
    · rw [if_pos c5] at h
      refine a_iconst hΓ dX12_in_10 ?_
      refine a_goto (tgt := 15) hΓ dX12_in_11 (by decide) ?_
      exact a_zret hΓ hr (Or.inr rfl) dX12_in_15 ⟨_, _, rfl, rfl, h⟩
    · rw [if_neg c5] at h
      refine a_iconst hΓ dX12_in_14 ?_
      exact a_zret hΓ hr (Or.inl rfl) dX12_in_15 ⟨_, _, rfl, rfl, h⟩
theorem ct_wX12_in (l : Launch) (g : Gp) (v0 : Int) (v1 : Int) (v2 : Int) (M : Mm) (Q : Int → Mm → Prop) (h : wX12_in v0 v1 v2 M Q) : Ct l g yX12_in cX12_in 3 (some .boolean) 1 0 0 [aI v0, aI v1, aI v2] (NC, RF, M) (QI Q) :=
  ct_of (by decide) (Nat.le_of_ble_eq_true rfl) (fun Γ hg hl hr _ hΓ => by subst hg; subst hl; exact s_wX12_in hΓ (by decide) hr v0 v1 v2 M h)
def wX12_isDay (v0 : Int) (M : Mm) (Q : Int → Mm → Prop) : Prop :=
    Bd (wX12_in v0 0 119 M) (fun r3 M4 =>
    (r3 = 0 ∨ r3 = 1) ∧
    Q r3 M4)
set_option maxHeartbeats 4000000 in
theorem s_wX12_isDay {Γ : Cx} {h : Nat} (hΓ : Ok Γ cX12_isDay RX12 1 h 0 0) (hh : 2 ≤ h) (hr : (cxm Γ).sig.returnType = (some .boolean)) {Q : Int → Mm → Prop} (v0 : Int) (M : Mm) (h : wX12_isDay v0 M Q) : Wa Γ 1 (Kf Γ (QI Q) 0 0) 0 0 0 [(0, aI v0)] [] (NC, RF, M) := by
  unfold wX12_isDay at h
  refine a_iload_n hΓ 0 dX12_isDay_0 rfl rfl ?_
  refine a_iconst hΓ dX12_isDay_1 ?_
  refine a_bipush hΓ dX12_isDay_2 (by decide) ?_
  obtain ⟨P1, q2, h⟩ := h
  refine n_callS (av := [aI v0, aI 0, aI 119]) (st := []) hΓ (ct_wX12_in _ _ v0 0 119 M P1 q2) my_X12_in ml_RX12_3 rfl (Nat.le_trans (by decide) hh) (by decide) (Nat.le_of_ble_eq_true rfl) rfl dX12_isDay_4 (fun v Z' hq => ?_)
  obtain ⟨r3, M4, rfl, rfl, hq⟩ := hq
  have h := h r3 M4 hq
  dsimp only at h
  obtain ⟨g5, h⟩ := h
  exact a_zret hΓ hr g5 dX12_isDay_7 ⟨_, _, rfl, rfl, h⟩
theorem ct_wX12_isDay (l : Launch) (g : Gp) (v0 : Int) (M : Mm) (Q : Int → Mm → Prop) (h : wX12_isDay v0 M Q) : Ct l g yX12_isDay cX12_isDay 1 (some .boolean) 2 0 0 [aI v0] (NC, RF, M) (QI Q) :=
  ct_of (by decide) (Nat.le_of_ble_eq_true rfl) (fun Γ hg hl hr _ hΓ => by subst hg; subst hl; exact s_wX12_isDay hΓ (by decide) hr v0 M h)
def wX12_ends (v1 : Int) (M : Mm) (Q : Int → Mm → Prop) : Prop :=
    (inR v1) ∧
    (if v1 < 0 then
      Q v1 (up M 102 0 v1)
    else
      Q v1 (up M 102 0 0))
set_option maxHeartbeats 4000000 in
theorem s_wX12_ends {Γ : Cx} {h : Nat} (hΓ : Ok Γ cX12_ends RX12 2 h 0 0) (hh : 1 ≤ h) (hr : (cxm Γ).sig.returnType = (some .int)) {Q : Int → Mm → Prop} (v1 : Int) (M : Mm) (h : wX12_ends v1 M Q) : Wa Γ 2 (Kf Γ (QI Q) 0 0) 0 0 0 [(0, aR 102), (1, aI v1)] [] (NC, RF, M) := by
  unfold wX12_ends at h
  refine a_aload_n hΓ 0 dX12_ends_0 rfl rfl ?_
  refine a_iload_n hΓ 1 dX12_ends_1 rfl rfl ?_
  obtain ⟨g1, h⟩ := h
  refine a_if_ge (tgt := 9) hΓ g1 dX12_ends_2 (by decide) (fun c2 => ?_) (fun c2 => ?_)
  · rw [if_pos c2] at h
    refine a_iload_n hΓ 1 dX12_ends_5 rfl rfl ?_
    refine a_goto (tgt := 10) hΓ dX12_ends_6 (by decide) ?_
    refine n_putI (j := 0) hΓ fl_RX12_7 cl_12 nf_12_0 kd_102 lz_102 dX12_ends_10 (Or.inl ft_12_0) rfl ?_
    refine a_iload_n hΓ 1 dX12_ends_13 rfl rfl ?_
    exact a_iret hΓ hr dX12_ends_14 ⟨_, _, rfl, rfl, h⟩
  · rw [if_neg c2] at h
    refine a_iconst hΓ dX12_ends_9 ?_
    refine n_putI (j := 0) hΓ fl_RX12_7 cl_12 nf_12_0 kd_102 lz_102 dX12_ends_10 (Or.inl ft_12_0) rfl ?_
    refine a_iload_n hΓ 1 dX12_ends_13 rfl rfl ?_
    exact a_iret hΓ hr dX12_ends_14 ⟨_, _, rfl, rfl, h⟩
theorem ct_wX12_ends (l : Launch) (g : Gp) (v1 : Int) (M : Mm) (Q : Int → Mm → Prop) (h : wX12_ends v1 M Q) : Ct l g yX12_ends cX12_ends 2 (some .int) 1 0 0 [aR 102, aI v1] (NC, RF, M) (QI Q) :=
  ct_of (by decide) (Nat.le_of_ble_eq_true rfl) (fun Γ hg hl hr _ hΓ => by subst hg; subst hl; exact s_wX12_ends hΓ (by decide) hr v1 M h)
def wX12_many (v1 : Int) (M : Mm) (Q : Int → Mm → Prop) : Prop :=
    (0 ≤ (721 + v1) ∧ (721 + v1) < 730) ∧
    Q (M 103 (721 + v1)) M
set_option maxHeartbeats 4000000 in
theorem s_wX12_many {Γ : Cx} {h : Nat} (hΓ : Ok Γ cX12_many RX12 2 h 0 0) (hh : 1 ≤ h) (hr : (cxm Γ).sig.returnType = (some .int)) {Q : Int → Mm → Prop} (v1 : Int) (M : Mm) (h : wX12_many v1 M Q) : Wa Γ 2 (Kf Γ (QI Q) 0 0) 0 0 0 [(0, aR 102), (1, aI v1)] [] (NC, RF, M) := by
  unfold wX12_many at h
  refine a_aload_n hΓ 0 dX12_many_0 rfl rfl ?_
  refine n_getR hΓ fl_RX12_17 cl_12 kd_102 lz_102 dX12_many_1 ft_12_1 rf_102_1 ?_
  refine a_sipush hΓ dX12_many_4 (by decide) ?_
  refine a_iload_n hΓ 1 dX12_many_7 rfl rfl ?_
  refine a_iadd hΓ dX12_many_8 ?_
  obtain ⟨g1, h⟩ := h
  refine n_iald (x := (M 103 (721 + v1))) hΓ dX12_many_9 kd_103 lz_103 g1 rfl ?_
  exact a_iret hΓ hr dX12_many_10 ⟨_, _, rfl, rfl, h⟩
theorem ct_wX12_many (l : Launch) (g : Gp) (v1 : Int) (M : Mm) (Q : Int → Mm → Prop) (h : wX12_many v1 M Q) : Ct l g yX12_many cX12_many 2 (some .int) 1 0 0 [aR 102, aI v1] (NC, RF, M) (QI Q) :=
  ct_of (by decide) (Nat.le_of_ble_eq_true rfl) (fun Γ hg hl hr _ hΓ => by subst hg; subst hl; exact s_wX12_many hΓ (by decide) hr v1 M h)
def wX12_isShip (v1 : Int) (M : Mm) (Q : Int → Mm → Prop) : Prop :=
    Bd (wX12_many 0 M) (fun r3 M4 =>
    Bd (wX12_in v1 0 (r3 - 1) M4) (fun r7 M8 =>
    (r7 = 0 ∨ r7 = 1) ∧
    Q r7 M8))
set_option maxHeartbeats 4000000 in
theorem s_wX12_isShip {Γ : Cx} {h : Nat} (hΓ : Ok Γ cX12_isShip RX12 2 h 0 0) (hh : 2 ≤ h) (hr : (cxm Γ).sig.returnType = (some .boolean)) {Q : Int → Mm → Prop} (v1 : Int) (M : Mm) (h : wX12_isShip v1 M Q) : Wa Γ 2 (Kf Γ (QI Q) 0 0) 0 0 0 [(0, aR 102), (1, aI v1)] [] (NC, RF, M) := by
  unfold wX12_isShip at h
  refine a_iload_n hΓ 1 dX12_isShip_0 rfl rfl ?_
  refine a_iconst hΓ dX12_isShip_1 ?_
  refine a_aload_n hΓ 0 dX12_isShip_2 rfl rfl ?_
  refine a_iconst hΓ dX12_isShip_3 ?_
  obtain ⟨P1, q2, h⟩ := h
  refine n_callV (c := 102) (av := [aI 0]) (st := [aI 0, aI v1]) hΓ (ct_wX12_many _ _ 0 M P1 q2) my_X12_many ml_RX12_102 ni_X12_many kd_102 rfl lz_102 rfl (Nat.le_trans (by decide) hh) (by decide) (Nat.le_of_ble_eq_true rfl) rfl dX12_isShip_4 (fun v Z' hq => ?_)
  obtain ⟨r3, M4, rfl, rfl, hq⟩ := hq
  have h := h r3 M4 hq
  dsimp only at h
  refine a_iconst hΓ dX12_isShip_7 ?_
  refine a_isub hΓ dX12_isShip_8 ?_
  obtain ⟨P5, q6, h⟩ := h
  refine n_callS (av := [aI v1, aI 0, aI (r3 - 1)]) (st := []) hΓ (ct_wX12_in _ _ v1 0 (r3 - 1) M4 P5 q6) my_X12_in ml_RX12_3 rfl (Nat.le_trans (by decide) hh) (by decide) (Nat.le_of_ble_eq_true rfl) rfl dX12_isShip_9 (fun v Z' hq => ?_)
  obtain ⟨r7, M8, rfl, rfl, hq⟩ := hq
  have h := h r7 M8 hq
  dsimp only at h
  obtain ⟨g9, h⟩ := h
  exact a_zret hΓ hr g9 dX12_isShip_12 ⟨_, _, rfl, rfl, h⟩
theorem ct_wX12_isShip (l : Launch) (g : Gp) (v1 : Int) (M : Mm) (Q : Int → Mm → Prop) (h : wX12_isShip v1 M Q) : Ct l g yX12_isShip cX12_isShip 2 (some .boolean) 2 0 0 [aR 102, aI v1] (NC, RF, M) (QI Q) :=
  ct_of (by decide) (Nat.le_of_ble_eq_true rfl) (fun Γ hg hl hr _ hΓ => by subst hg; subst hl; exact s_wX12_isShip hΓ (by decide) hr v1 M h)
def wX12_isLog (v1 : Int) (M : Mm) (Q : Int → Mm → Prop) : Prop :=
    Bd (wX12_many 3 M) (fun r3 M4 =>
    Bd (wX12_in v1 0 (r3 - 1) M4) (fun r7 M8 =>
    (r7 = 0 ∨ r7 = 1) ∧
    Q r7 M8))
set_option maxHeartbeats 4000000 in
theorem s_wX12_isLog {Γ : Cx} {h : Nat} (hΓ : Ok Γ cX12_isLog RX12 2 h 0 0) (hh : 2 ≤ h) (hr : (cxm Γ).sig.returnType = (some .boolean)) {Q : Int → Mm → Prop} (v1 : Int) (M : Mm) (h : wX12_isLog v1 M Q) : Wa Γ 2 (Kf Γ (QI Q) 0 0) 0 0 0 [(0, aR 102), (1, aI v1)] [] (NC, RF, M) := by
  unfold wX12_isLog at h
  refine a_iload_n hΓ 1 dX12_isLog_0 rfl rfl ?_
  refine a_iconst hΓ dX12_isLog_1 ?_
  refine a_aload_n hΓ 0 dX12_isLog_2 rfl rfl ?_
  refine a_iconst hΓ dX12_isLog_3 ?_
  obtain ⟨P1, q2, h⟩ := h
  refine n_callV (c := 102) (av := [aI 3]) (st := [aI 0, aI v1]) hΓ (ct_wX12_many _ _ 3 M P1 q2) my_X12_many ml_RX12_102 ni_X12_many kd_102 rfl lz_102 rfl (Nat.le_trans (by decide) hh) (by decide) (Nat.le_of_ble_eq_true rfl) rfl dX12_isLog_4 (fun v Z' hq => ?_)
  obtain ⟨r3, M4, rfl, rfl, hq⟩ := hq
  have h := h r3 M4 hq
  dsimp only at h
  refine a_iconst hΓ dX12_isLog_7 ?_
  refine a_isub hΓ dX12_isLog_8 ?_
  obtain ⟨P5, q6, h⟩ := h
  refine n_callS (av := [aI v1, aI 0, aI (r3 - 1)]) (st := []) hΓ (ct_wX12_in _ _ v1 0 (r3 - 1) M4 P5 q6) my_X12_in ml_RX12_3 rfl (Nat.le_trans (by decide) hh) (by decide) (Nat.le_of_ble_eq_true rfl) rfl dX12_isLog_9 (fun v Z' hq => ?_)
  obtain ⟨r7, M8, rfl, rfl, hq⟩ := hq
  have h := h r7 M8 hq
  dsimp only at h
  obtain ⟨g9, h⟩ := h
  exact a_zret hΓ hr g9 dX12_isLog_12 ⟨_, _, rfl, rfl, h⟩
theorem ct_wX12_isLog (l : Launch) (g : Gp) (v1 : Int) (M : Mm) (Q : Int → Mm → Prop) (h : wX12_isLog v1 M Q) : Ct l g yX12_isLog cX12_isLog 2 (some .boolean) 2 0 0 [aR 102, aI v1] (NC, RF, M) (QI Q) :=
  ct_of (by decide) (Nat.le_of_ble_eq_true rfl) (fun Γ hg hl hr _ hΓ => by subst hg; subst hl; exact s_wX12_isLog hΓ (by decide) hr v1 M h)
def wX12_legAt (v1 : Int) (v2 : Int) (M : Mm) (Q : Int → Mm → Prop) : Prop :=
    (0 ≤ ((23 + (6 * v1)) + v2) ∧ ((23 + (6 * v1)) + v2) < 730) ∧
    Q (M 103 ((23 + (6 * v1)) + v2)) M
set_option maxHeartbeats 4000000 in
theorem s_wX12_legAt {Γ : Cx} {h : Nat} (hΓ : Ok Γ cX12_legAt RX12 3 h 0 0) (hh : 1 ≤ h) (hr : (cxm Γ).sig.returnType = (some .int)) {Q : Int → Mm → Prop} (v1 : Int) (v2 : Int) (M : Mm) (h : wX12_legAt v1 v2 M Q) : Wa Γ 3 (Kf Γ (QI Q) 0 0) 0 0 0 [(0, aR 102), (1, aI v1), (2, aI v2)] [] (NC, RF, M) := by
  unfold wX12_legAt at h
  refine a_aload_n hΓ 0 dX12_legAt_0 rfl rfl ?_
  refine n_getR hΓ fl_RX12_17 cl_12 kd_102 lz_102 dX12_legAt_1 ft_12_1 rf_102_1 ?_
  refine a_bipush hΓ dX12_legAt_4 (by decide) ?_
  refine a_bipush hΓ dX12_legAt_6 (by decide) ?_
  refine a_iload_n hΓ 1 dX12_legAt_8 rfl rfl ?_
  refine a_imul hΓ dX12_legAt_9 ?_
  refine a_iadd hΓ dX12_legAt_10 ?_
  refine a_iload_n hΓ 2 dX12_legAt_11 rfl rfl ?_
  refine a_iadd hΓ dX12_legAt_12 ?_
  obtain ⟨g1, h⟩ := h
  refine n_iald (x := (M 103 ((23 + (6 * v1)) + v2))) hΓ dX12_legAt_13 kd_103 lz_103 g1 rfl ?_
  exact a_iret hΓ hr dX12_legAt_14 ⟨_, _, rfl, rfl, h⟩
theorem ct_wX12_legAt (l : Launch) (g : Gp) (v1 : Int) (v2 : Int) (M : Mm) (Q : Int → Mm → Prop) (h : wX12_legAt v1 v2 M Q) : Ct l g yX12_legAt cX12_legAt 3 (some .int) 1 0 0 [aR 102, aI v1, aI v2] (NC, RF, M) (QI Q) :=
  ct_of (by decide) (Nat.le_of_ble_eq_true rfl) (fun Γ hg hl hr _ hΓ => by subst hg; subst hl; exact s_wX12_legAt hΓ (by decide) hr v1 v2 M h)
def wX12_clean (v1 : Int) (v2 : Int) (M : Mm) (Q : Int → Mm → Prop) : Prop :=
    (0 ≤ ((383 + (3 * v1)) + v2) ∧ ((383 + (3 * v1)) + v2) < 730) ∧
    Q (M 103 ((383 + (3 * v1)) + v2)) M
set_option maxHeartbeats 4000000 in
theorem s_wX12_clean {Γ : Cx} {h : Nat} (hΓ : Ok Γ cX12_clean RX12 3 h 0 0) (hh : 1 ≤ h) (hr : (cxm Γ).sig.returnType = (some .int)) {Q : Int → Mm → Prop} (v1 : Int) (v2 : Int) (M : Mm) (h : wX12_clean v1 v2 M Q) : Wa Γ 3 (Kf Γ (QI Q) 0 0) 0 0 0 [(0, aR 102), (1, aI v1), (2, aI v2)] [] (NC, RF, M) := by
  unfold wX12_clean at h
  refine a_aload_n hΓ 0 dX12_clean_0 rfl rfl ?_
  refine n_getR hΓ fl_RX12_17 cl_12 kd_102 lz_102 dX12_clean_1 ft_12_1 rf_102_1 ?_
  refine a_sipush hΓ dX12_clean_4 (by decide) ?_
  refine a_iconst hΓ dX12_clean_7 ?_
  refine a_iload_n hΓ 1 dX12_clean_8 rfl rfl ?_
  refine a_imul hΓ dX12_clean_9 ?_
  refine a_iadd hΓ dX12_clean_10 ?_
  refine a_iload_n hΓ 2 dX12_clean_11 rfl rfl ?_
  refine a_iadd hΓ dX12_clean_12 ?_
  obtain ⟨g1, h⟩ := h
  refine n_iald (x := (M 103 ((383 + (3 * v1)) + v2))) hΓ dX12_clean_13 kd_103 lz_103 g1 rfl ?_
  exact a_iret hΓ hr dX12_clean_14 ⟨_, _, rfl, rfl, h⟩
theorem ct_wX12_clean (l : Launch) (g : Gp) (v1 : Int) (v2 : Int) (M : Mm) (Q : Int → Mm → Prop) (h : wX12_clean v1 v2 M Q) : Ct l g yX12_clean cX12_clean 3 (some .int) 1 0 0 [aR 102, aI v1, aI v2] (NC, RF, M) (QI Q) :=
  ct_of (by decide) (Nat.le_of_ble_eq_true rfl) (fun Γ hg hl hr _ hΓ => by subst hg; subst hl; exact s_wX12_clean hΓ (by decide) hr v1 v2 M h)
def wX12_logAt (v1 : Int) (v2 : Int) (M : Mm) (Q : Int → Mm → Prop) : Prop :=
    (0 ≤ ((503 + (9 * v1)) + v2) ∧ ((503 + (9 * v1)) + v2) < 730) ∧
    Q (M 103 ((503 + (9 * v1)) + v2)) M
set_option maxHeartbeats 4000000 in
theorem s_wX12_logAt {Γ : Cx} {h : Nat} (hΓ : Ok Γ cX12_logAt RX12 3 h 0 0) (hh : 1 ≤ h) (hr : (cxm Γ).sig.returnType = (some .int)) {Q : Int → Mm → Prop} (v1 : Int) (v2 : Int) (M : Mm) (h : wX12_logAt v1 v2 M Q) : Wa Γ 3 (Kf Γ (QI Q) 0 0) 0 0 0 [(0, aR 102), (1, aI v1), (2, aI v2)] [] (NC, RF, M) := by
  unfold wX12_logAt at h
  refine a_aload_n hΓ 0 dX12_logAt_0 rfl rfl ?_
  refine n_getR hΓ fl_RX12_17 cl_12 kd_102 lz_102 dX12_logAt_1 ft_12_1 rf_102_1 ?_
  refine a_sipush hΓ dX12_logAt_4 (by decide) ?_
  refine a_bipush hΓ dX12_logAt_7 (by decide) ?_
  refine a_iload_n hΓ 1 dX12_logAt_9 rfl rfl ?_
  refine a_imul hΓ dX12_logAt_10 ?_
  refine a_iadd hΓ dX12_logAt_11 ?_
  refine a_iload_n hΓ 2 dX12_logAt_12 rfl rfl ?_
  refine a_iadd hΓ dX12_logAt_13 ?_
  obtain ⟨g1, h⟩ := h
  refine n_iald (x := (M 103 ((503 + (9 * v1)) + v2))) hΓ dX12_logAt_14 kd_103 lz_103 g1 rfl ?_
  exact a_iret hΓ hr dX12_logAt_15 ⟨_, _, rfl, rfl, h⟩
theorem ct_wX12_logAt (l : Launch) (g : Gp) (v1 : Int) (v2 : Int) (M : Mm) (Q : Int → Mm → Prop) (h : wX12_logAt v1 v2 M Q) : Ct l g yX12_logAt cX12_logAt 3 (some .int) 1 0 0 [aR 102, aI v1, aI v2] (NC, RF, M) (QI Q) :=
  ct_of (by decide) (Nat.le_of_ble_eq_true rfl) (fun Γ hg hl hr _ hΓ => by subst hg; subst hl; exact s_wX12_logAt hΓ (by decide) hr v1 v2 M h)
def wX12_image_48 (Q : Int → Mm → Prop) (v1 : Int) (M : Mm) : Prop :=
    (0 ≤ v1 ∧ v1 < 2) ∧
    Bd (wX12_ends 0 (up M 105 v1 1)) (fun r4 M5 =>
    Q r4 M5)
set_option maxHeartbeats 4000000 in
theorem s_wX12_image_48 {Γ : Cx} {h : Nat} (hΓ : Ok Γ cX12_image RX12 3 h 0 0) (hh : 2 ≤ h) (hr : (cxm Γ).sig.returnType = (some .int)) {Q : Int → Mm → Prop} {v1 : Int}   (M : Mm) (h : wX12_image_48 Q v1 M) : Wa Γ 3 (Kf Γ (QI Q) 0 0) 0 0 48 [(0, aR 102), (1, aI v1)] [] (NC, RF, M) := by
  unfold wX12_image_48 at h
  refine a_aload_n hΓ 0 dX12_image_48 rfl rfl ?_
  refine n_getR hΓ fl_RX12_24 cl_12 kd_102 lz_102 dX12_image_49 ft_12_3 rf_102_3 ?_
  refine a_iload_n hΓ 1 dX12_image_52 rfl rfl ?_
  refine a_iconst hΓ dX12_image_53 ?_
  obtain ⟨g1, h⟩ := h
  refine a_zast hΓ rfl (Or.inr rfl) dX12_image_54 kd_105 lz_105 g1 ?_
  refine a_aload_n hΓ 0 dX12_image_55 rfl rfl ?_
  refine a_iconst hΓ dX12_image_56 ?_
  obtain ⟨P2, q3, h⟩ := h
  refine n_callV (c := 102) (av := [aI 0]) (st := []) hΓ (ct_wX12_ends _ _ 0 (up M 105 v1 1) P2 q3) my_X12_ends ml_RX12_106 ni_X12_ends kd_102 rfl lz_102 rfl (Nat.le_trans (by decide) hh) (by decide) (Nat.le_of_ble_eq_true rfl) rfl dX12_image_57 (fun v Z' hq => ?_)
  obtain ⟨r4, M5, rfl, rfl, hq⟩ := hq
  have h := h r4 M5 hq
  dsimp only at h
  exact a_iret hΓ hr dX12_image_60 ⟨_, _, rfl, rfl, h⟩
def wX12_image_17 (Q : Int → Mm → Prop) (v1 : Int) : Nat → Int → Mm → Prop
  | 0, _, _ => False
  | f + 1, v2, M => (inR v2) ∧
    (if v2 < 730 then
      (0 ≤ v2 ∧ v2 < 730) ∧
      (0 ≤ ((730 * v1) + v2) ∧ ((730 * v1) + v2) < 1460) ∧
      (wX12_image_17 Q v1 f) (v2 + 1) (up M 104 ((730 * v1) + v2) (M 103 v2))
    else
      wX12_image_48 Q v1 M)
set_option maxHeartbeats 4000000 in
theorem s_wX12_image_17 {Γ : Cx} {h : Nat} (hΓ : Ok Γ cX12_image RX12 3 h 0 0) (hh : 2 ≤ h) (hr : (cxm Γ).sig.returnType = (some .int)) {Q : Int → Mm → Prop} {v1 : Int}   : ∀ (f : Nat) (v2 : Int) (M : Mm), wX12_image_17 Q v1 f v2 M → Wa Γ 3 (Kf Γ (QI Q) 0 0) 0 0 17 [(0, aR 102), (1, aI v1), (2, aI v2)] [] (NC, RF, M) := by
  intro f
  induction f with
  | zero => intro v2 M h; exact h.elim
  | succ f ih =>
    intro v2 M h
    unfold wX12_image_17 at h
    refine a_iload_n hΓ 2 dX12_image_17 rfl rfl ?_
    refine a_sipush hΓ dX12_image_18 (by decide) ?_
    obtain ⟨g1, h⟩ := h
    refine a_icmp_ge (tgt := 48) hΓ g1 (inRl (by decide)) dX12_image_21 (by decide) (fun c2 => ?_) (fun c2 => ?_)
    · rw [if_pos c2] at h
      refine a_aload_n hΓ 0 dX12_image_24 rfl rfl ?_
      refine n_getR hΓ fl_RX12_21 cl_12 kd_102 lz_102 dX12_image_25 ft_12_2 rf_102_2 ?_
      refine a_sipush hΓ dX12_image_28 (by decide) ?_
      refine a_iload_n hΓ 1 dX12_image_31 rfl rfl ?_
      refine a_imul hΓ dX12_image_32 ?_
      refine a_iload_n hΓ 2 dX12_image_33 rfl rfl ?_
      refine a_iadd hΓ dX12_image_34 ?_
      refine a_aload_n hΓ 0 dX12_image_35 rfl rfl ?_
      refine n_getR hΓ fl_RX12_17 cl_12 kd_102 lz_102 dX12_image_36 ft_12_1 rf_102_1 ?_
      refine a_iload_n hΓ 2 dX12_image_39 rfl rfl ?_
      obtain ⟨g3, h⟩ := h
      refine n_iald (x := (M 103 v2)) hΓ dX12_image_40 kd_103 lz_103 g3 rfl ?_
      obtain ⟨g4, h⟩ := h
      refine a_iast hΓ dX12_image_41 kd_104 lz_104 g4 ?_
      refine a_iinc (ls' := [(2, aI (v2 + 1)), (0, aR 102), (1, aI v1)]) hΓ 2 dX12_image_42 rfl (by decide) rfl ?_
      refine a_goto (tgt := 17) hΓ dX12_image_45 (by decide) ?_
      refine a_sub (ls' := [(0, aR 102), (1, aI v1), (2, aI (v2 + 1))]) [1, 2, 0] rfl ?_
      exact ih (v2 + 1) (up M 104 ((730 * v1) + v2) (M 103 v2)) h
    · rw [if_neg c2] at h
      refine a_sub (ls' := [(0, aR 102), (1, aI v1)]) [0, 1] rfl ?_
      exact s_wX12_image_48 hΓ (Nat.le_trans (by decide) hh) hr  M h
def wX12_image (v1 : Int) (M : Mm) (Q : Int → Mm → Prop) : Prop :=
    Bd (wX12_in v1 0 1 M) (fun r3 M4 =>
    (inR r3) ∧
    (if r3 = 0 then
      Bd (wX12_ends (-1) M4) (fun r9 M10 =>
      Q r9 M10)
    else
      ∃ n, wX12_image_17 Q v1 n 0 M4))
set_option maxHeartbeats 4000000 in
theorem s_wX12_image {Γ : Cx} {h : Nat} (hΓ : Ok Γ cX12_image RX12 3 h 0 0) (hh : 2 ≤ h) (hr : (cxm Γ).sig.returnType = (some .int)) {Q : Int → Mm → Prop} (v1 : Int) (M : Mm) (h : wX12_image v1 M Q) : Wa Γ 3 (Kf Γ (QI Q) 0 0) 0 0 0 [(0, aR 102), (1, aI v1)] [] (NC, RF, M) := by
  unfold wX12_image at h
  refine a_iload_n hΓ 1 dX12_image_0 rfl rfl ?_
  refine a_iconst hΓ dX12_image_1 ?_
  refine a_iconst hΓ dX12_image_2 ?_
  obtain ⟨P1, q2, h⟩ := h
  refine n_callS (av := [aI v1, aI 0, aI 1]) (st := []) hΓ (ct_wX12_in _ _ v1 0 1 M P1 q2) my_X12_in ml_RX12_3 rfl (Nat.le_trans (by decide) hh) (by decide) (Nat.le_of_ble_eq_true rfl) rfl dX12_image_3 (fun v Z' hq => ?_)
  obtain ⟨r3, M4, rfl, rfl, hq⟩ := hq
  have h := h r3 M4 hq
  dsimp only at h
  obtain ⟨g5, h⟩ := h
  refine a_if_ne (tgt := 15) hΓ g5 dX12_image_6 (by decide) (fun c6 => ?_) (fun c6 => ?_)
  · rw [if_pos c6] at h
    refine a_aload_n hΓ 0 dX12_image_9 rfl rfl ?_
    refine a_iconst hΓ dX12_image_10 ?_
    obtain ⟨P7, q8, h⟩ := h
    refine n_callV (c := 102) (av := [aI (-1)]) (st := []) hΓ (ct_wX12_ends _ _ (-1) M4 P7 q8) my_X12_ends ml_RX12_106 ni_X12_ends kd_102 rfl lz_102 rfl (Nat.le_trans (by decide) hh) (by decide) (Nat.le_of_ble_eq_true rfl) rfl dX12_image_11 (fun v Z' hq => ?_)
    obtain ⟨r9, M10, rfl, rfl, hq⟩ := hq
    have h := h r9 M10 hq
    dsimp only at h
    exact a_iret hΓ hr dX12_image_14 ⟨_, _, rfl, rfl, h⟩
  · rw [if_neg c6] at h
    refine a_iconst hΓ dX12_image_15 ?_
    refine a_istore_n (ls' := [(2, aI 0), (0, aR 102), (1, aI v1)]) hΓ dX12_image_16 rfl (by decide) rfl ?_
    refine a_sub (ls' := [(0, aR 102), (1, aI v1), (2, aI 0)]) [1, 2, 0] rfl ?_
    obtain ⟨f11, h⟩ := h
    exact s_wX12_image_17 hΓ (Nat.le_trans (by decide) hh) hr  f11 0 M4 h
theorem ct_wX12_image (l : Launch) (g : Gp) (v1 : Int) (M : Mm) (Q : Int → Mm → Prop) (h : wX12_image v1 M Q) : Ct l g yX12_image cX12_image 3 (some .int) 2 0 0 [aR 102, aI v1] (NC, RF, M) (QI Q) :=
  ct_of (by decide) (Nat.le_of_ble_eq_true rfl) (fun Γ hg hl hr _ hΓ => by subst hg; subst hl; exact s_wX12_image hΓ (by decide) hr v1 M h)
