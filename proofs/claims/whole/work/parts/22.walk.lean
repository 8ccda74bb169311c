/-! ===== printed by tools/gen.py ===== -/
def wX11_bindAsKnown (v1 : Int) (v2 : Int) (M : Mm) (Q : Int → Mm → Prop) : Prop :=
    Bd (wX11_isShip v1 M) (fun r3 M4 =>
    (inR r3) ∧
    (if r3 = 0 then
      Q 0 M4
    else
      Bd (wX11_isDay v2 M4) (fun r9 M10 =>
      (inR r9) ∧
      (if r9 = 0 then
        Q 0 M10
      else
        Bv (wX6_load v1 M10) (fun M16 =>
        Bd (wX6_counting v2 M16) (fun r19 M20 =>
        Bd (wX6_bind r19 M20) (fun r23 M24 =>
        (r23 = 0 ∨ r23 = 1) ∧
        Q r23 M24)))))))
set_option maxHeartbeats 4000000 in
theorem s_wX11_bindAsKnown {Γ : Cx} {h : Nat} (hΓ : Ok Γ cX11_bindAsKnown RX11 3 h 0 0) (hh : 5 ≤ h) (hr : (cxm Γ).sig.returnType = (some .boolean)) {Q : Int → Mm → Prop} (v1 : Int) (v2 : Int) (M : Mm) (h : wX11_bindAsKnown v1 v2 M Q) : Wa Γ 3 (Kf Γ (QI Q) 0 0) 0 0 0 [(0, aR 0), (1, aI v1), (2, aI v2)] [] (NC, RF, M) := by
  unfold wX11_bindAsKnown at h
  refine a_aload_n hΓ 0 dX11_bindAsKnown_0 rfl rfl ?_
  refine a_iload_n hΓ 1 dX11_bindAsKnown_1 rfl rfl ?_
  obtain ⟨P1, q2, h⟩ := h
  refine n_callV (c := 0) (av := [aI v1]) (st := []) hΓ (ct_wX11_isShip _ _ v1 M P1 q2) my_X11_isShip ml_RX11_106 ni_X11_isShip kd_0 rfl lz_0 rfl (Nat.le_trans (by decide) hh) (by decide) (Nat.le_of_ble_eq_true rfl) rfl dX11_bindAsKnown_2 (fun v Z' hq => ?_)
  obtain ⟨r3, M4, rfl, rfl, hq⟩ := hq
  have h := h r3 M4 hq
  dsimp only at h
  obtain ⟨g5, h⟩ := h
  refine a_if_eq (tgt := 15) hΓ g5 dX11_bindAsKnown_5 (by decide) (fun c6 => ?_) (fun c6 => ?_)
  · rw [if_pos c6] at h
    refine a_iconst hΓ dX11_bindAsKnown_15 ?_
    exact a_zret hΓ hr (Or.inl rfl) dX11_bindAsKnown_16 ⟨_, _, rfl, rfl, h⟩
  · rw [if_neg c6] at h
    refine a_iload_n hΓ 2 dX11_bindAsKnown_8 rfl rfl ?_
    obtain ⟨P7, q8, h⟩ := h
    refine n_callS (av := [aI v2]) (st := []) hΓ (ct_wX11_isDay _ _ v2 M4 P7 q8) my_X11_isDay ml_RX11_102 rfl (Nat.le_trans (by decide) hh) (by decide) (Nat.le_of_ble_eq_true rfl) rfl dX11_bindAsKnown_9 (fun v Z' hq => ?_)
    obtain ⟨r9, M10, rfl, rfl, hq⟩ := hq
    have h := h r9 M10 hq
    dsimp only at h
    obtain ⟨g11, h⟩ := h
    refine a_if_ne (tgt := 17) hΓ g11 dX11_bindAsKnown_12 (by decide) (fun c12 => ?_) (fun c12 => ?_)
    · rw [if_pos c12] at h
      refine a_iconst hΓ dX11_bindAsKnown_15 ?_
      exact a_zret hΓ hr (Or.inl rfl) dX11_bindAsKnown_16 ⟨_, _, rfl, rfl, h⟩
    · rw [if_neg c12] at h
      refine a_aload_n hΓ 0 dX11_bindAsKnown_17 rfl rfl ?_
      refine n_getR hΓ fl_RX11_29 cl_11 kd_0 lz_0 dX11_bindAsKnown_18 ft_11_3 rf_0_3 ?_
      refine a_iload_n hΓ 1 dX11_bindAsKnown_21 rfl rfl ?_
      obtain ⟨P13, q14, h⟩ := h
      refine n_callV (c := 72) (av := [aI v1]) (st := []) hΓ (ct_wX6_load _ _ v1 M10 P13 q14) my_X6_load ml_RX11_139 ni_X6_load kd_72 rfl lz_72 rfl (Nat.le_trans (by decide) hh) (by decide) (Nat.le_of_ble_eq_true rfl) rfl dX11_bindAsKnown_22 (fun v Z' hq => ?_)
      obtain ⟨M16, rfl, rfl, hq⟩ := hq
      have h := h M16 hq
      dsimp only at h
      refine a_aload_n hΓ 0 dX11_bindAsKnown_25 rfl rfl ?_
      refine n_getR hΓ fl_RX11_29 cl_11 kd_0 lz_0 dX11_bindAsKnown_26 ft_11_3 rf_0_3 ?_
      refine a_aload_n hΓ 0 dX11_bindAsKnown_29 rfl rfl ?_
      refine n_getR hΓ fl_RX11_29 cl_11 kd_0 lz_0 dX11_bindAsKnown_30 ft_11_3 rf_0_3 ?_
      refine a_iload_n hΓ 2 dX11_bindAsKnown_33 rfl rfl ?_
      obtain ⟨P17, q18, h⟩ := h
      refine n_callV (c := 72) (av := [aI v2]) (st := [aR 72]) hΓ (ct_wX6_counting _ _ v2 M16 P17 q18) my_X6_counting ml_RX11_203 ni_X6_counting kd_72 rfl lz_72 rfl (Nat.le_trans (by decide) hh) (by decide) (Nat.le_of_ble_eq_true rfl) rfl dX11_bindAsKnown_34 (fun v Z' hq => ?_)
      obtain ⟨r19, M20, rfl, rfl, hq⟩ := hq
      have h := h r19 M20 hq
      dsimp only at h
      obtain ⟨P21, q22, h⟩ := h
      refine n_callV (c := 72) (av := [aI r19]) (st := []) hΓ (ct_wX6_bind _ _ r19 M20 P21 q22) my_X6_bind ml_RX11_233 ni_X6_bind kd_72 rfl lz_72 rfl (Nat.le_trans (by decide) hh) (by decide) (Nat.le_of_ble_eq_true rfl) rfl dX11_bindAsKnown_37 (fun v Z' hq => ?_)
      obtain ⟨r23, M24, rfl, rfl, hq⟩ := hq
      have h := h r23 M24 hq
      dsimp only at h
      obtain ⟨g25, h⟩ := h
      exact a_zret hΓ hr g25 dX11_bindAsKnown_40 ⟨_, _, rfl, rfl, h⟩
theorem ct_wX11_bindAsKnown (l : Launch) (g : Gp) (v1 : Int) (v2 : Int) (M : Mm) (Q : Int → Mm → Prop) (h : wX11_bindAsKnown v1 v2 M Q) : Ct l g yX11_bindAsKnown cX11_bindAsKnown 3 (some .boolean) 5 0 0 [aR 0, aI v1, aI v2] (NC, RF, M) (QI Q) :=
  ct_of (by decide) (Nat.le_of_ble_eq_true rfl) (fun Γ hg hl hr _ hΓ => by subst hg; subst hl; exact s_wX11_bindAsKnown hΓ (by decide) hr v1 v2 M h)
def wX6_endOf (v1 : Int) (v2 : Int) (M : Mm) (Q : Int → Mm → Prop) : Prop :=
    (inR v2) ∧
    (if v2 = 0 then
      (0 ≤ v1 ∧ v1 < 120) ∧
      Q (M 81 v1) M
    else
      (0 ≤ v1 ∧ v1 < 120) ∧
      Q (M 82 v1) M)
set_option maxHeartbeats 4000000 in
theorem s_wX6_endOf {Γ : Cx} {h : Nat} (hΓ : Ok Γ cX6_endOf RX6 3 h 0 0) (hh : 1 ≤ h) (hr : (cxm Γ).sig.returnType = (some .int)) {Q : Int → Mm → Prop} (v1 : Int) (v2 : Int) (M : Mm) (h : wX6_endOf v1 v2 M Q) : Wa Γ 3 (Kf Γ (QI Q) 0 0) 0 0 0 [(0, aR 72), (1, aI v1), (2, aI v2)] [] (NC, RF, M) := by
  unfold wX6_endOf at h
  refine a_iload_n hΓ 2 dX6_endOf_0 rfl rfl ?_
  obtain ⟨g1, h⟩ := h
  refine a_if_ne (tgt := 13) hΓ g1 dX6_endOf_1 (by decide) (fun c2 => ?_) (fun c2 => ?_)
  · rw [if_pos c2] at h
    refine a_aload_n hΓ 0 dX6_endOf_4 rfl rfl ?_
    refine n_getR hΓ fl_RX6_37 cl_6 kd_72 lz_72 dX6_endOf_5 ft_6_11 rf_72_11 ?_
    refine a_iload_n hΓ 1 dX6_endOf_8 rfl rfl ?_
    obtain ⟨g3, h⟩ := h
    refine n_iald (x := (M 81 v1)) hΓ dX6_endOf_9 kd_81 lz_81 g3 rfl ?_
    refine a_goto (tgt := 19) hΓ dX6_endOf_10 (by decide) ?_
    exact a_iret hΓ hr dX6_endOf_19 ⟨_, _, rfl, rfl, h⟩
  · rw [if_neg c2] at h
    refine a_aload_n hΓ 0 dX6_endOf_13 rfl rfl ?_
    refine n_getR hΓ fl_RX6_40 cl_6 kd_72 lz_72 dX6_endOf_14 ft_6_12 rf_72_12 ?_
    refine a_iload_n hΓ 1 dX6_endOf_17 rfl rfl ?_
    obtain ⟨g4, h⟩ := h
    refine n_iald (x := (M 82 v1)) hΓ dX6_endOf_18 kd_82 lz_82 g4 rfl ?_
    exact a_iret hΓ hr dX6_endOf_19 ⟨_, _, rfl, rfl, h⟩
theorem ct_wX6_endOf (l : Launch) (g : Gp) (v1 : Int) (v2 : Int) (M : Mm) (Q : Int → Mm → Prop) (h : wX6_endOf v1 v2 M Q) : Ct l g yX6_endOf cX6_endOf 3 (some .int) 1 0 0 [aR 72, aI v1, aI v2] (NC, RF, M) (QI Q) :=
  ct_of (by decide) (Nat.le_of_ble_eq_true rfl) (fun Γ hg hl hr _ hΓ => by subst hg; subst hl; exact s_wX6_endOf hΓ (by decide) hr v1 v2 M h)
def wX11_span (v1 : Int) (v2 : Int) (v3 : Int) (v4 : Int) (M : Mm) (Q : Int → Mm → Prop) : Prop :=
    Bd (wX11_isDay v2 M) (fun r3 M4 =>
    (inR r3) ∧
    (if r3 = 0 then
      Q (-1) M4
    else
      Bd (wX11_within v4 0 1 M4) (fun r9 M10 =>
      (inR r9) ∧
      (if r9 = 0 then
        Q (-1) M10
      else
        Bd (wX11_bindAsKnown v1 v3 M10) (fun r15 M16 =>
        (inR r15) ∧
        (if r15 = 0 then
          Q (-1) M16
        else
          Bd (wX6_endOf v2 v4 M16) (fun r21 M22 =>
          Q r21 M22)))))))
set_option maxHeartbeats 4000000 in
theorem s_wX11_span {Γ : Cx} {h : Nat} (hΓ : Ok Γ cX11_span RX11 5 h 0 0) (hh : 6 ≤ h) (hr : (cxm Γ).sig.returnType = (some .int)) {Q : Int → Mm → Prop} (v1 : Int) (v2 : Int) (v3 : Int) (v4 : Int) (M : Mm) (h : wX11_span v1 v2 v3 v4 M Q) : Wa Γ 5 (Kf Γ (QI Q) 0 0) 0 0 0 [(0, aR 0), (1, aI v1), (2, aI v2), (3, aI v3), (4, aI v4)] [] (NC, RF, M) := by
  unfold wX11_span at h
  refine a_iload_n hΓ 2 dX11_span_0 rfl rfl ?_
  obtain ⟨P1, q2, h⟩ := h
  refine n_callS (av := [aI v2]) (st := []) hΓ (ct_wX11_isDay _ _ v2 M P1 q2) my_X11_isDay ml_RX11_102 rfl (Nat.le_trans (by decide) hh) (by decide) (Nat.le_of_ble_eq_true rfl) rfl dX11_span_1 (fun v Z' hq => ?_)
  obtain ⟨r3, M4, rfl, rfl, hq⟩ := hq
  have h := h r3 M4 hq
  dsimp only at h
  obtain ⟨g5, h⟩ := h
  refine a_if_eq (tgt := 26) hΓ g5 dX11_span_4 (by decide) (fun c6 => ?_) (fun c6 => ?_)
  · rw [if_pos c6] at h
    refine a_iconst hΓ dX11_span_26 ?_
    exact a_iret hΓ hr dX11_span_27 ⟨_, _, rfl, rfl, h⟩
  · rw [if_neg c6] at h
    refine a_iload hΓ 4 dX11_span_7 rfl ?_
    refine a_iconst hΓ dX11_span_9 ?_
    refine a_iconst hΓ dX11_span_10 ?_
    obtain ⟨P7, q8, h⟩ := h
    refine n_callS (av := [aI v4, aI 0, aI 1]) (st := []) hΓ (ct_wX11_within _ _ v4 0 1 M4 P7 q8) my_X11_within ml_RX11_79 rfl (Nat.le_trans (by decide) hh) (by decide) (Nat.le_of_ble_eq_true rfl) rfl dX11_span_11 (fun v Z' hq => ?_)
    obtain ⟨r9, M10, rfl, rfl, hq⟩ := hq
    have h := h r9 M10 hq
    dsimp only at h
    obtain ⟨g11, h⟩ := h
    refine a_if_eq (tgt := 26) hΓ g11 dX11_span_14 (by decide) (fun c12 => ?_) (fun c12 => ?_)
    · rw [if_pos c12] at h
      refine a_iconst hΓ dX11_span_26 ?_
      exact a_iret hΓ hr dX11_span_27 ⟨_, _, rfl, rfl, h⟩
    · rw [if_neg c12] at h
      refine a_aload_n hΓ 0 dX11_span_17 rfl rfl ?_
      refine a_iload_n hΓ 1 dX11_span_18 rfl rfl ?_
      refine a_iload_n hΓ 3 dX11_span_19 rfl rfl ?_
      obtain ⟨P13, q14, h⟩ := h
      refine n_callV (c := 0) (av := [aI v1, aI v3]) (st := []) hΓ (ct_wX11_bindAsKnown _ _ v1 v3 M10 P13 q14) my_X11_bindAsKnown ml_RX11_197 ni_X11_bindAsKnown kd_0 rfl lz_0 rfl (Nat.le_trans (by decide) hh) (by decide) (Nat.le_of_ble_eq_true rfl) rfl dX11_span_20 (fun v Z' hq => ?_)
      obtain ⟨r15, M16, rfl, rfl, hq⟩ := hq
      have h := h r15 M16 hq
      dsimp only at h
      obtain ⟨g17, h⟩ := h
      refine a_if_ne (tgt := 28) hΓ g17 dX11_span_23 (by decide) (fun c18 => ?_) (fun c18 => ?_)
      · rw [if_pos c18] at h
        refine a_iconst hΓ dX11_span_26 ?_
        exact a_iret hΓ hr dX11_span_27 ⟨_, _, rfl, rfl, h⟩
      · rw [if_neg c18] at h
        refine a_aload_n hΓ 0 dX11_span_28 rfl rfl ?_
        refine n_getR hΓ fl_RX11_29 cl_11 kd_0 lz_0 dX11_span_29 ft_11_3 rf_0_3 ?_
        refine a_iload_n hΓ 2 dX11_span_32 rfl rfl ?_
        refine a_iload hΓ 4 dX11_span_33 rfl ?_
        obtain ⟨P19, q20, h⟩ := h
        refine n_callV (c := 72) (av := [aI v2, aI v4]) (st := []) hΓ (ct_wX6_endOf _ _ v2 v4 M16 P19 q20) my_X6_endOf ml_RX11_200 ni_X6_endOf kd_72 rfl lz_72 rfl (Nat.le_trans (by decide) hh) (by decide) (Nat.le_of_ble_eq_true rfl) rfl dX11_span_35 (fun v Z' hq => ?_)
        obtain ⟨r21, M22, rfl, rfl, hq⟩ := hq
        have h := h r21 M22 hq
        dsimp only at h
        exact a_iret hΓ hr dX11_span_38 ⟨_, _, rfl, rfl, h⟩
theorem ct_wX11_span (l : Launch) (g : Gp) (v1 : Int) (v2 : Int) (v3 : Int) (v4 : Int) (M : Mm) (Q : Int → Mm → Prop) (h : wX11_span v1 v2 v3 v4 M Q) : Ct l g yX11_span cX11_span 5 (some .int) 6 0 0 [aR 0, aI v1, aI v2, aI v3, aI v4] (NC, RF, M) (QI Q) :=
  ct_of (by decide) (Nat.le_of_ble_eq_true rfl) (fun Γ hg hl hr _ hΓ => by subst hg; subst hl; exact s_wX11_span hΓ (by decide) hr v1 v2 v3 v4 M h)
def wX6_makerOf_30 (Q : Int → Mm → Prop) (v1 : Int) (v2 : Int) (v3 : Int) (v4 : Int) : Nat → Int → Mm → Prop
  | 0, _, _ => False
  | f + 1, v5, M => (inR v5) ∧
    (if v5 < 24 then
      (if (landI (shrI v3 v5) 1) = 1 then
        Bd (wX6_bind (shlI 1 v5) M) (fun r6 M7 =>
        Bd (wX6_endOf v1 v2 M7) (fun r10 M11 =>
        (inR r10) ∧
        (inR v4) ∧
        (if r10 = v4 then
          Q v5 M11
        else
          (wX6_makerOf_30 Q v1 v2 v3 v4 f) (v5 + 1) M11)))
      else
        (wX6_makerOf_30 Q v1 v2 v3 v4 f) (v5 + 1) M)
    else
      Q (-1) M)
set_option maxHeartbeats 4000000 in
theorem s_wX6_makerOf_30 {Γ : Cx} {h : Nat} (hΓ : Ok Γ cX6_makerOf RX6 6 h 0 0) (hh : 4 ≤ h) (hr : (cxm Γ).sig.returnType = (some .int)) {Q : Int → Mm → Prop} {v1 v2 v3 v4 : Int}   : ∀ (f : Nat) (v5 : Int) (M : Mm), wX6_makerOf_30 Q v1 v2 v3 v4 f v5 M → Wa Γ 6 (Kf Γ (QI Q) 0 0) 0 0 30 [(0, aR 72), (1, aI v1), (2, aI v2), (3, aI v3), (4, aI v4), (5, aI v5)] [] (NC, RF, M) := by
  intro f
  induction f with
  | zero => intro v5 M h; exact h.elim
  | succ f ih =>
    intro v5 M h
    unfold wX6_makerOf_30 at h
    refine a_iload hΓ 5 dX6_makerOf_30 rfl ?_
    refine a_bipush hΓ dX6_makerOf_32 (by decide) ?_
    obtain ⟨g1, h⟩ := h
    refine a_icmp_ge (tgt := 76) hΓ g1 (inRl (by decide)) dX6_makerOf_34 (by decide) (fun c2 => ?_) (fun c2 => ?_)
    · rw [if_pos c2] at h
      refine a_iload_n hΓ 3 dX6_makerOf_37 rfl rfl ?_
      refine a_iload hΓ 5 dX6_makerOf_38 rfl ?_
      refine a_ishr hΓ dX6_makerOf_40 ?_
      refine a_iconst hΓ dX6_makerOf_41 ?_
      refine a_iand hΓ dX6_makerOf_42 ?_
      refine a_iconst hΓ dX6_makerOf_43 ?_
      refine a_icmp_ne (tgt := 70) hΓ (inR_land _ _) (inRl (by decide)) dX6_makerOf_44 (by decide) (fun c3 => ?_) (fun c3 => ?_)
      · rw [if_pos c3] at h
        refine a_aload_n hΓ 0 dX6_makerOf_47 rfl rfl ?_
        refine a_iconst hΓ dX6_makerOf_48 ?_
        refine a_iload hΓ 5 dX6_makerOf_49 rfl ?_
        refine a_ishl hΓ dX6_makerOf_51 ?_
        obtain ⟨P4, q5, h⟩ := h
        refine n_callV (c := 72) (av := [aI (shlI 1 v5)]) (st := []) hΓ (ct_wX6_bind _ _ (shlI 1 v5) M P4 q5) my_X6_bind ml_RX6_174 ni_X6_bind kd_72 rfl lz_72 rfl (Nat.le_trans (by decide) hh) (by decide) (Nat.le_of_ble_eq_true rfl) rfl dX6_makerOf_52 (fun v Z' hq => ?_)
        obtain ⟨r6, M7, rfl, rfl, hq⟩ := hq
        have h := h r6 M7 hq
        dsimp only at h
        refine a_popI hΓ dX6_makerOf_55 ?_
        refine a_aload_n hΓ 0 dX6_makerOf_56 rfl rfl ?_
        refine a_iload_n hΓ 1 dX6_makerOf_57 rfl rfl ?_
        refine a_iload_n hΓ 2 dX6_makerOf_58 rfl rfl ?_
        obtain ⟨P8, q9, h⟩ := h
        refine n_callV (c := 72) (av := [aI v1, aI v2]) (st := []) hΓ (ct_wX6_endOf _ _ v1 v2 M7 P8 q9) my_X6_endOf ml_RX6_171 ni_X6_endOf kd_72 rfl lz_72 rfl (Nat.le_trans (by decide) hh) (by decide) (Nat.le_of_ble_eq_true rfl) rfl dX6_makerOf_59 (fun v Z' hq => ?_)
        obtain ⟨r10, M11, rfl, rfl, hq⟩ := hq
        have h := h r10 M11 hq
        dsimp only at h
        refine a_iload hΓ 4 dX6_makerOf_62 rfl ?_
        obtain ⟨g12, h⟩ := h
        obtain ⟨g13, h⟩ := h
        refine a_icmp_ne (tgt := 70) hΓ g12 g13 dX6_makerOf_64 (by decide) (fun c14 => ?_) (fun c14 => ?_)
        · rw [if_pos c14] at h
          refine a_iload hΓ 5 dX6_makerOf_67 rfl ?_
          exact a_iret hΓ hr dX6_makerOf_69 ⟨_, _, rfl, rfl, h⟩
        · rw [if_neg c14] at h
          refine a_iinc (ls' := [(5, aI (v5 + 1)), (0, aR 72), (1, aI v1), (2, aI v2), (3, aI v3), (4, aI v4)]) hΓ 5 dX6_makerOf_70 rfl (by decide) rfl ?_
          refine a_goto (tgt := 30) hΓ dX6_makerOf_73 (by decide) ?_
          refine a_sub (ls' := [(0, aR 72), (1, aI v1), (2, aI v2), (3, aI v3), (4, aI v4), (5, aI (v5 + 1))]) [1, 2, 3, 4, 5, 0] rfl ?_
          exact ih (v5 + 1) M11 h
      · rw [if_neg c3] at h
        refine a_iinc (ls' := [(5, aI (v5 + 1)), (0, aR 72), (1, aI v1), (2, aI v2), (3, aI v3), (4, aI v4)]) hΓ 5 dX6_makerOf_70 rfl (by decide) rfl ?_
        refine a_goto (tgt := 30) hΓ dX6_makerOf_73 (by decide) ?_
        refine a_sub (ls' := [(0, aR 72), (1, aI v1), (2, aI v2), (3, aI v3), (4, aI v4), (5, aI (v5 + 1))]) [1, 2, 3, 4, 5, 0] rfl ?_
        exact ih (v5 + 1) M h
    · rw [if_neg c2] at h
      refine a_iconst hΓ dX6_makerOf_76 ?_
      exact a_iret hΓ hr dX6_makerOf_77 ⟨_, _, rfl, rfl, h⟩
def wX6_makerOf (v1 : Int) (v2 : Int) (v3 : Int) (M : Mm) (Q : Int → Mm → Prop) : Prop :=
    Bd (wX6_endOf v1 v2 M) (fun r3 M4 =>
    Bd (wX6_bind 0 M4) (fun r7 M8 =>
    Bd (wX6_endOf v1 v2 M8) (fun r11 M12 =>
    (inR r11) ∧
    (inR r3) ∧
    (if r11 = r3 then
      Q (-1) M12
    else
      ∃ n, wX6_makerOf_30 Q v1 v2 v3 r3 n 0 M12))))
set_option maxHeartbeats 4000000 in
theorem s_wX6_makerOf {Γ : Cx} {h : Nat} (hΓ : Ok Γ cX6_makerOf RX6 6 h 0 0) (hh : 4 ≤ h) (hr : (cxm Γ).sig.returnType = (some .int)) {Q : Int → Mm → Prop} (v1 : Int) (v2 : Int) (v3 : Int) (M : Mm) (h : wX6_makerOf v1 v2 v3 M Q) : Wa Γ 6 (Kf Γ (QI Q) 0 0) 0 0 0 [(0, aR 72), (1, aI v1), (2, aI v2), (3, aI v3)] [] (NC, RF, M) := by
  unfold wX6_makerOf at h
  refine a_aload_n hΓ 0 dX6_makerOf_0 rfl rfl ?_
  refine a_iload_n hΓ 1 dX6_makerOf_1 rfl rfl ?_
  refine a_iload_n hΓ 2 dX6_makerOf_2 rfl rfl ?_
  obtain ⟨P1, q2, h⟩ := h
  refine n_callV (c := 72) (av := [aI v1, aI v2]) (st := []) hΓ (ct_wX6_endOf _ _ v1 v2 M P1 q2) my_X6_endOf ml_RX6_171 ni_X6_endOf kd_72 rfl lz_72 rfl (Nat.le_trans (by decide) hh) (by decide) (Nat.le_of_ble_eq_true rfl) rfl dX6_makerOf_3 (fun v Z' hq => ?_)
  obtain ⟨r3, M4, rfl, rfl, hq⟩ := hq
  have h := h r3 M4 hq
  dsimp only at h
  refine a_istore (ls' := [(4, aI r3), (0, aR 72), (1, aI v1), (2, aI v2), (3, aI v3)]) hΓ dX6_makerOf_6 (by decide) rfl ?_
  refine a_aload_n hΓ 1 dX6_makerOf_8 rfl rfl ?_
  refine a_iconst hΓ dX6_makerOf_9 ?_
  obtain ⟨P5, q6, h⟩ := h
  refine n_callV (c := 72) (av := [aI 0]) (st := []) hΓ (ct_wX6_bind _ _ 0 M4 P5 q6) my_X6_bind ml_RX6_174 ni_X6_bind kd_72 rfl lz_72 rfl (Nat.le_trans (by decide) hh) (by decide) (Nat.le_of_ble_eq_true rfl) rfl dX6_makerOf_10 (fun v Z' hq => ?_)
  obtain ⟨r7, M8, rfl, rfl, hq⟩ := hq
  have h := h r7 M8 hq
  dsimp only at h
  refine a_popI hΓ dX6_makerOf_13 ?_
  refine a_aload_n hΓ 1 dX6_makerOf_14 rfl rfl ?_
  refine a_iload_n hΓ 2 dX6_makerOf_15 rfl rfl ?_
  refine a_iload_n hΓ 3 dX6_makerOf_16 rfl rfl ?_
  obtain ⟨P9, q10, h⟩ := h
  refine n_callV (c := 72) (av := [aI v1, aI v2]) (st := []) hΓ (ct_wX6_endOf _ _ v1 v2 M8 P9 q10) my_X6_endOf ml_RX6_171 ni_X6_endOf kd_72 rfl lz_72 rfl (Nat.le_trans (by decide) hh) (by decide) (Nat.le_of_ble_eq_true rfl) rfl dX6_makerOf_17 (fun v Z' hq => ?_)
  obtain ⟨r11, M12, rfl, rfl, hq⟩ := hq
  have h := h r11 M12 hq
  dsimp only at h
  refine a_iload hΓ 0 dX6_makerOf_20 rfl ?_
  obtain ⟨g13, h⟩ := h
  obtain ⟨g14, h⟩ := h
  refine a_icmp_ne (tgt := 27) hΓ g13 g14 dX6_makerOf_22 (by decide) (fun c15 => ?_) (fun c15 => ?_)
  · rw [if_pos c15] at h
    refine a_iconst hΓ dX6_makerOf_25 ?_
    exact a_iret hΓ hr dX6_makerOf_26 ⟨_, _, rfl, rfl, h⟩
  · rw [if_neg c15] at h
    refine a_iconst hΓ dX6_makerOf_27 ?_
    refine a_istore (ls' := [(5, aI 0), (4, aI r3), (0, aR 72), (1, aI v1), (2, aI v2), (3, aI v3)]) hΓ dX6_makerOf_28 (by decide) rfl ?_
    refine a_sub (ls' := [(0, aR 72), (1, aI v1), (2, aI v2), (3, aI v3), (4, aI r3), (5, aI 0)]) [2, 3, 4, 5, 1, 0] rfl ?_
    obtain ⟨f16, h⟩ := h
    exact s_wX6_makerOf_30 hΓ (Nat.le_trans (by decide) hh) hr  f16 0 M12 h
theorem ct_wX6_makerOf (l : Launch) (g : Gp) (v1 : Int) (v2 : Int) (v3 : Int) (M : Mm) (Q : Int → Mm → Prop) (h : wX6_makerOf v1 v2 v3 M Q) : Ct l g yX6_makerOf cX6_makerOf 6 (some .int) 4 0 0 [aR 72, aI v1, aI v2, aI v3] (NC, RF, M) (QI Q) :=
  ct_of (by decide) (Nat.le_of_ble_eq_true rfl) (fun Γ hg hl hr _ hΓ => by subst hg; subst hl; exact s_wX6_makerOf hΓ (by decide) hr v1 v2 v3 M h)
def wX11_why (v1 : Int) (v2 : Int) (v3 : Int) (v4 : Int) (M : Mm) (Q : Int → Mm → Prop) : Prop :=
    Bd (wX11_isDay v2 M) (fun r3 M4 =>
    (inR r3) ∧
    (if r3 = 0 then
      Q (-1) M4
    else
      Bd (wX11_within v4 0 1 M4) (fun r9 M10 =>
      (inR r9) ∧
      (if r9 = 0 then
        Q (-1) M10
      else
        Bd (wX11_bindAsKnown v1 v3 M10) (fun r15 M16 =>
        (inR r15) ∧
        (if r15 = 0 then
          Q (-1) M16
        else
          Bd (wX6_counting v3 M16) (fun r21 M22 =>
          Bd (wX6_makerOf v2 v4 r21 M22) (fun r25 M26 =>
          Q r25 M26))))))))
set_option maxHeartbeats 4000000 in
theorem s_wX11_why {Γ : Cx} {h : Nat} (hΓ : Ok Γ cX11_why RX11 5 h 0 0) (hh : 6 ≤ h) (hr : (cxm Γ).sig.returnType = (some .int)) {Q : Int → Mm → Prop} (v1 : Int) (v2 : Int) (v3 : Int) (v4 : Int) (M : Mm) (h : wX11_why v1 v2 v3 v4 M Q) : Wa Γ 5 (Kf Γ (QI Q) 0 0) 0 0 0 [(0, aR 0), (1, aI v1), (2, aI v2), (3, aI v3), (4, aI v4)] [] (NC, RF, M) := by
  unfold wX11_why at h
  refine a_iload_n hΓ 2 dX11_why_0 rfl rfl ?_
  obtain ⟨P1, q2, h⟩ := h
  refine n_callS (av := [aI v2]) (st := []) hΓ (ct_wX11_isDay _ _ v2 M P1 q2) my_X11_isDay ml_RX11_102 rfl (Nat.le_trans (by decide) hh) (by decide) (Nat.le_of_ble_eq_true rfl) rfl dX11_why_1 (fun v Z' hq => ?_)
  obtain ⟨r3, M4, rfl, rfl, hq⟩ := hq
  have h := h r3 M4 hq
  dsimp only at h
  obtain ⟨g5, h⟩ := h
  refine a_if_eq (tgt := 26) hΓ g5 dX11_why_4 (by decide) (fun c6 => ?_) (fun c6 => ?_)
  · rw [if_pos c6] at h
    refine a_iconst hΓ dX11_why_26 ?_
    exact a_iret hΓ hr dX11_why_27 ⟨_, _, rfl, rfl, h⟩
  · rw [if_neg c6] at h
    refine a_iload hΓ 4 dX11_why_7 rfl ?_
    refine a_iconst hΓ dX11_why_9 ?_
    refine a_iconst hΓ dX11_why_10 ?_
    obtain ⟨P7, q8, h⟩ := h
    refine n_callS (av := [aI v4, aI 0, aI 1]) (st := []) hΓ (ct_wX11_within _ _ v4 0 1 M4 P7 q8) my_X11_within ml_RX11_79 rfl (Nat.le_trans (by decide) hh) (by decide) (Nat.le_of_ble_eq_true rfl) rfl dX11_why_11 (fun v Z' hq => ?_)
    obtain ⟨r9, M10, rfl, rfl, hq⟩ := hq
    have h := h r9 M10 hq
    dsimp only at h
    obtain ⟨g11, h⟩ := h
    refine a_if_eq (tgt := 26) hΓ g11 dX11_why_14 (by decide) (fun c12 => ?_) (fun c12 => ?_)
    · rw [if_pos c12] at h
      refine a_iconst hΓ dX11_why_26 ?_
      exact a_iret hΓ hr dX11_why_27 ⟨_, _, rfl, rfl, h⟩
    · rw [if_neg c12] at h
      refine a_aload_n hΓ 0 dX11_why_17 rfl rfl ?_
      refine a_iload_n hΓ 1 dX11_why_18 rfl rfl ?_
      refine a_iload_n hΓ 3 dX11_why_19 rfl rfl ?_
      obtain ⟨P13, q14, h⟩ := h
      refine n_callV (c := 0) (av := [aI v1, aI v3]) (st := []) hΓ (ct_wX11_bindAsKnown _ _ v1 v3 M10 P13 q14) my_X11_bindAsKnown ml_RX11_197 ni_X11_bindAsKnown kd_0 rfl lz_0 rfl (Nat.le_trans (by decide) hh) (by decide) (Nat.le_of_ble_eq_true rfl) rfl dX11_why_20 (fun v Z' hq => ?_)
      obtain ⟨r15, M16, rfl, rfl, hq⟩ := hq
      have h := h r15 M16 hq
      dsimp only at h
      obtain ⟨g17, h⟩ := h
      refine a_if_ne (tgt := 28) hΓ g17 dX11_why_23 (by decide) (fun c18 => ?_) (fun c18 => ?_)
      · rw [if_pos c18] at h
        refine a_iconst hΓ dX11_why_26 ?_
        exact a_iret hΓ hr dX11_why_27 ⟨_, _, rfl, rfl, h⟩
      · rw [if_neg c18] at h
        refine a_aload_n hΓ 0 dX11_why_28 rfl rfl ?_
        refine n_getR hΓ fl_RX11_29 cl_11 kd_0 lz_0 dX11_why_29 ft_11_3 rf_0_3 ?_
        refine a_iload_n hΓ 2 dX11_why_32 rfl rfl ?_
        refine a_iload hΓ 4 dX11_why_33 rfl ?_
        refine a_aload_n hΓ 0 dX11_why_35 rfl rfl ?_
        refine n_getR hΓ fl_RX11_29 cl_11 kd_0 lz_0 dX11_why_36 ft_11_3 rf_0_3 ?_
        refine a_iload_n hΓ 3 dX11_why_39 rfl rfl ?_
        obtain ⟨P19, q20, h⟩ := h
        refine n_callV (c := 72) (av := [aI v3]) (st := [aI v4, aI v2, aR 72]) hΓ (ct_wX6_counting _ _ v3 M16 P19 q20) my_X6_counting ml_RX11_203 ni_X6_counting kd_72 rfl lz_72 rfl (Nat.le_trans (by decide) hh) (by decide) (Nat.le_of_ble_eq_true rfl) rfl dX11_why_40 (fun v Z' hq => ?_)
        obtain ⟨r21, M22, rfl, rfl, hq⟩ := hq
        have h := h r21 M22 hq
        dsimp only at h
        obtain ⟨P23, q24, h⟩ := h
        refine n_callV (c := 72) (av := [aI v2, aI v4, aI r21]) (st := []) hΓ (ct_wX6_makerOf _ _ v2 v4 r21 M22 P23 q24) my_X6_makerOf ml_RX11_206 ni_X6_makerOf kd_72 rfl lz_72 rfl (Nat.le_trans (by decide) hh) (by decide) (Nat.le_of_ble_eq_true rfl) rfl dX11_why_43 (fun v Z' hq => ?_)
        obtain ⟨r25, M26, rfl, rfl, hq⟩ := hq
        have h := h r25 M26 hq
        dsimp only at h
        exact a_iret hΓ hr dX11_why_46 ⟨_, _, rfl, rfl, h⟩
theorem ct_wX11_why (l : Launch) (g : Gp) (v1 : Int) (v2 : Int) (v3 : Int) (v4 : Int) (M : Mm) (Q : Int → Mm → Prop) (h : wX11_why v1 v2 v3 v4 M Q) : Ct l g yX11_why cX11_why 5 (some .int) 6 0 0 [aR 0, aI v1, aI v2, aI v3, aI v4] (NC, RF, M) (QI Q) :=
  ct_of (by decide) (Nat.le_of_ble_eq_true rfl) (fun Γ hg hl hr _ hΓ => by subst hg; subst hl; exact s_wX11_why hΓ (by decide) hr v1 v2 v3 v4 M h)
def wX6_skinFuel (v1 : Int) (v2 : Int) (M : Mm) (Q : Int → Mm → Prop) : Prop :=
    Bd (wX6_portion 3 v1 v2 M) (fun r3 M4 =>
    (inR r3) ∧
    Q (Int.tdiv r3 100) M4)
set_option maxHeartbeats 4000000 in
theorem s_wX6_skinFuel {Γ : Cx} {h : Nat} (hΓ : Ok Γ cX6_skinFuel RX6 3 h 0 0) (hh : 2 ≤ h) (hr : (cxm Γ).sig.returnType = (some .int)) {Q : Int → Mm → Prop} (v1 : Int) (v2 : Int) (M : Mm) (h : wX6_skinFuel v1 v2 M Q) : Wa Γ 3 (Kf Γ (QI Q) 0 0) 0 0 0 [(0, aR 72), (1, aI v1), (2, aI v2)] [] (NC, RF, M) := by
  unfold wX6_skinFuel at h
  refine a_aload_n hΓ 0 dX6_skinFuel_0 rfl rfl ?_
  refine a_iconst hΓ dX6_skinFuel_1 ?_
  refine a_iload_n hΓ 1 dX6_skinFuel_2 rfl rfl ?_
  refine a_iload_n hΓ 2 dX6_skinFuel_3 rfl rfl ?_
  obtain ⟨P1, q2, h⟩ := h
  refine n_callV (c := 72) (av := [aI 3, aI v1, aI v2]) (st := []) hΓ (ct_wX6_portion _ _ 3 v1 v2 M P1 q2) my_X6_portion ml_RX6_130 ni_X6_portion kd_72 rfl lz_72 rfl (Nat.le_trans (by decide) hh) (by decide) (Nat.le_of_ble_eq_true rfl) rfl dX6_skinFuel_4 (fun v Z' hq => ?_)
  obtain ⟨r3, M4, rfl, rfl, hq⟩ := hq
  have h := h r3 M4 hq
  dsimp only at h
  refine a_bipush hΓ dX6_skinFuel_7 (by decide) ?_
  obtain ⟨g5, h⟩ := h
  refine a_idiv hΓ g5 (inRl (by decide)) (by decide) dX6_skinFuel_9 ?_
  exact a_iret hΓ hr dX6_skinFuel_10 ⟨_, _, rfl, rfl, h⟩
theorem ct_wX6_skinFuel (l : Launch) (g : Gp) (v1 : Int) (v2 : Int) (M : Mm) (Q : Int → Mm → Prop) (h : wX6_skinFuel v1 v2 M Q) : Ct l g yX6_skinFuel cX6_skinFuel 3 (some .int) 2 0 0 [aR 72, aI v1, aI v2] (NC, RF, M) (QI Q) :=
  ct_of (by decide) (Nat.le_of_ble_eq_true rfl) (fun Γ hg hl hr _ hΓ => by subst hg; subst hl; exact s_wX6_skinFuel hΓ (by decide) hr v1 v2 M h)
def wX11_isStretch (v0 : Int) (v1 : Int) (M : Mm) (Q : Int → Mm → Prop) : Prop :=
    Bd (wX11_isDay v0 M) (fun r3 M4 =>
    (inR r3) ∧
    (if r3 = 0 then
      Q 0 M4
    else
      Bd (wX11_isDay v1 M4) (fun r9 M10 =>
      (inR r9) ∧
      (if r9 = 0 then
        Q 0 M10
      else
        (inR v0) ∧
        (inR v1) ∧
        (if v0 ≤ v1 then
          Q 1 M10
        else
          Q 0 M10)))))
set_option maxHeartbeats 4000000 in
theorem s_wX11_isStretch {Γ : Cx} {h : Nat} (hΓ : Ok Γ cX11_isStretch RX11 2 h 0 0) (hh : 3 ≤ h) (hr : (cxm Γ).sig.returnType = (some .boolean)) {Q : Int → Mm → Prop} (v0 : Int) (v1 : Int) (M : Mm) (h : wX11_isStretch v0 v1 M Q) : Wa Γ 2 (Kf Γ (QI Q) 0 0) 0 0 0 [(0, aI v0), (1, aI v1)] [] (NC, RF, M) := by
  unfold wX11_isStretch at h
  refine a_iload_n hΓ 0 dX11_isStretch_0 rfl rfl ?_
  obtain ⟨P1, q2, h⟩ := h
  refine n_callS (av := [aI v0]) (st := []) hΓ (ct_wX11_isDay _ _ v0 M P1 q2) my_X11_isDay ml_RX11_102 rfl (Nat.le_trans (by decide) hh) (by decide) (Nat.le_of_ble_eq_true rfl) rfl dX11_isStretch_1 (fun v Z' hq => ?_)
  obtain ⟨r3, M4, rfl, rfl, hq⟩ := hq
  have h := h r3 M4 hq
  dsimp only at h
  obtain ⟨g5, h⟩ := h
  refine a_if_eq (tgt := 23) hΓ g5 dX11_isStretch_4 (by decide) (fun c6 => ?_) (fun c6 => ?_)
  · rw [if_pos c6] at h
    refine a_iconst hΓ dX11_isStretch_23 ?_
    exact a_zret hΓ hr (Or.inl rfl) dX11_isStretch_24 ⟨_, _, rfl, rfl, h⟩
  · rw [if_neg c6] at h
    refine a_iload_n hΓ 1 dX11_isStretch_7 rfl rfl ?_
    obtain ⟨P7, q8, h⟩ := h
    refine n_callS (av := [aI v1]) (st := []) hΓ (ct_wX11_isDay _ _ v1 M4 P7 q8) my_X11_isDay ml_RX11_102 rfl (Nat.le_trans (by decide) hh) (by decide) (Nat.le_of_ble_eq_true rfl) rfl dX11_isStretch_8 (fun v Z' hq => ?_)
    obtain ⟨r9, M10, rfl, rfl, hq⟩ := hq
    have h := h r9 M10 hq
    dsimp only at h
    obtain ⟨g11, h⟩ := h
    refine a_if_eq (tgt := 23) hΓ g11 dX11_isStretch_11 (by decide) (fun c12 => ?_) (fun c12 => ?_)
    · rw [if_pos c12] at h
      refine a_iconst hΓ dX11_isStretch_23 ?_
      exact a_zret hΓ hr (Or.inl rfl) dX11_isStretch_24 ⟨_, _, rfl, rfl, h⟩
    · rw [if_neg c12] at h
      refine a_iload_n hΓ 0 dX11_isStretch_14 rfl rfl ?_
      refine a_iload_n hΓ 1 dX11_isStretch_15 rfl rfl ?_
      obtain ⟨g13, h⟩ := h
      obtain ⟨g14, h⟩ := h
      refine a_icmp_gt (tgt := 23) hΓ g13 g14 dX11_isStretch_16 (by decide) (fun c15 => ?_) (fun c15 => ?_)
      · rw [if_pos c15] at h
        refine a_iconst hΓ dX11_isStretch_19 ?_
        refine a_goto (tgt := 24) hΓ dX11_isStretch_20 (by decide) ?_
        exact a_zret hΓ hr (Or.inr rfl) dX11_isStretch_24 ⟨_, _, rfl, rfl, h⟩
      · rw [if_neg c15] at h
        refine a_iconst hΓ dX11_isStretch_23 ?_
        exact a_zret hΓ hr (Or.inl rfl) dX11_isStretch_24 ⟨_, _, rfl, rfl, h⟩
theorem ct_wX11_isStretch (l : Launch) (g : Gp) (v0 : Int) (v1 : Int) (M : Mm) (Q : Int → Mm → Prop) (h : wX11_isStretch v0 v1 M Q) : Ct l g yX11_isStretch cX11_isStretch 2 (some .boolean) 3 0 0 [aI v0, aI v1] (NC, RF, M) (QI Q) :=
  ct_of (by decide) (Nat.le_of_ble_eq_true rfl) (fun Γ hg hl hr _ hΓ => by subst hg; subst hl; exact s_wX11_isStretch hΓ (by decide) hr v0 v1 M h)
def wX11_lost_38 (Q : Int → Mm → Prop) (v3 : Int) (v5 : Int) : Nat → Int → Int → Mm → Prop
  | 0, _, _, _ => False
  | f + 1, v6, v8, M => (inR v8) ∧
    (inR v3) ∧
    (if v8 ≤ v3 then
      Bd (wX6_endOf v8 v5 M) (fun r6 M7 =>
      Bd (wX6_skinFuel v8 r6 M7) (fun r10 M11 =>
      (inR r10) ∧
      (wX11_lost_38 Q v3 v5 f) (v6 + r10) (v8 + 1) M11))
    else
      Q v6 M)
set_option maxHeartbeats 4000000 in
theorem s_wX11_lost_38 {Γ : Cx} {h : Nat} (hΓ : Ok Γ cX11_lost RX11 9 h 0 0) (hh : 6 ≤ h) (hr : (cxm Γ).sig.returnType = (some .long)) {Q : Int → Mm → Prop} {v3 v5 : Int}   : ∀ (f : Nat) (v6 : Int) (v8 : Int) (M : Mm), wX11_lost_38 Q v3 v5 f v6 v8 M → Wa Γ 9 (Kf Γ (QL Q) 0 0) 0 0 38 [(0, aR 0), (3, aI v3), (5, aI v5), (6, aL v6), (8, aI v8)] [] (NC, RF, M) := by
  intro f
  induction f with
  | zero => intro v6 v8 M h; exact h.elim
  | succ f ih =>
    intro v6 v8 M h
    unfold wX11_lost_38 at h
    refine a_iload hΓ 4 dX11_lost_38 rfl ?_
    refine a_iload_n hΓ 1 dX11_lost_40 rfl rfl ?_
    obtain ⟨g1, h⟩ := h
    obtain ⟨g2, h⟩ := h
    refine a_icmp_gt (tgt := 76) hΓ g1 g2 dX11_lost_41 (by decide) (fun c3 => ?_) (fun c3 => ?_)
    · rw [if_pos c3] at h
      refine a_lload hΓ 3 dX11_lost_44 rfl ?_
      refine a_aload_n hΓ 0 dX11_lost_46 rfl rfl ?_
      refine n_getR hΓ fl_RX11_29 cl_11 kd_0 lz_0 dX11_lost_47 ft_11_3 rf_0_3 ?_
      refine a_iload hΓ 4 dX11_lost_50 rfl ?_
      refine a_aload_n hΓ 0 dX11_lost_52 rfl rfl ?_
      refine n_getR hΓ fl_RX11_29 cl_11 kd_0 lz_0 dX11_lost_53 ft_11_3 rf_0_3 ?_
      refine a_iload hΓ 4 dX11_lost_56 rfl ?_
      refine a_iload hΓ 2 dX11_lost_58 rfl ?_
      obtain ⟨P4, q5, h⟩ := h
      refine n_callV (c := 72) (av := [aI v8, aI v5]) (st := [aI v8, aR 72, aL v6]) hΓ (ct_wX6_endOf _ _ v8 v5 M P4 q5) my_X6_endOf ml_RX11_200 ni_X6_endOf kd_72 rfl lz_72 rfl (Nat.le_trans (by decide) hh) (by decide) (Nat.le_of_ble_eq_true rfl) rfl dX11_lost_60 (fun v Z' hq => ?_)
      obtain ⟨r6, M7, rfl, rfl, hq⟩ := hq
      have h := h r6 M7 hq
      dsimp only at h
      obtain ⟨P8, q9, h⟩ := h
      refine n_callV (c := 72) (av := [aI v8, aI r6]) (st := [aL v6]) hΓ (ct_wX6_skinFuel _ _ v8 r6 M7 P8 q9) my_X6_skinFuel ml_RX11_214 ni_X6_skinFuel kd_72 rfl lz_72 rfl (Nat.le_trans (by decide) hh) (by decide) (Nat.le_of_ble_eq_true rfl) rfl dX11_lost_63 (fun v Z' hq => ?_)
      obtain ⟨r10, M11, rfl, rfl, hq⟩ := hq
      have h := h r10 M11 hq
      dsimp only at h
      obtain ⟨g12, h⟩ := h
      refine a_i2l hΓ g12 dX11_lost_66 ?_
      refine a_ladd hΓ dX11_lost_67 ?_
      refine a_lstore (ls' := [(6, aL (v6 + r10)), (0, aR 0), (3, aI v3), (5, aI v5), (8, aI v8)]) hΓ dX11_lost_68 (by decide) rfl ?_
      refine a_iinc (ls' := [(8, aI (v8 + 1)), (6, aL (v6 + r10)), (0, aR 0), (3, aI v3), (5, aI v5)]) hΓ 4 dX11_lost_70 rfl (by decide) rfl ?_
      refine a_goto (tgt := 38) hΓ dX11_lost_73 (by decide) ?_
      refine a_sub (ls' := [(0, aR 0), (3, aI v3), (5, aI v5), (6, aL (v6 + r10)), (8, aI (v8 + 1))]) [2, 3, 4, 1, 0] rfl ?_
      exact ih (v6 + r10) (v8 + 1) M11 h
    · rw [if_neg c3] at h
      refine a_lload hΓ 3 dX11_lost_76 rfl ?_
      exact a_lret hΓ hr dX11_lost_78 ⟨_, _, rfl, rfl, h⟩
def wX11_lost (v1 : Int) (v2 : Int) (v3 : Int) (v4 : Int) (v5 : Int) (M : Mm) (Q : Int → Mm → Prop) : Prop :=
    Bd (wX11_isStretch v2 v3 M) (fun r3 M4 =>
    (inR r3) ∧
    (if r3 = 0 then
      Q (-1) M4
    else
      Bd (wX11_within v5 0 1 M4) (fun r9 M10 =>
      (inR r9) ∧
      (if r9 = 0 then
        Q (-1) M10
      else
        Bd (wX11_bindAsKnown v1 v4 M10) (fun r15 M16 =>
        (inR r15) ∧
        (if r15 = 0 then
          Q (-1) M16
        else
          ∃ n, wX11_lost_38 Q v3 v5 n 0 v2 M16))))))
set_option maxHeartbeats 4000000 in
theorem s_wX11_lost {Γ : Cx} {h : Nat} (hΓ : Ok Γ cX11_lost RX11 9 h 0 0) (hh : 6 ≤ h) (hr : (cxm Γ).sig.returnType = (some .long)) {Q : Int → Mm → Prop} (v1 : Int) (v2 : Int) (v3 : Int) (v4 : Int) (v5 : Int) (M : Mm) (h : wX11_lost v1 v2 v3 v4 v5 M Q) : Wa Γ 9 (Kf Γ (QL Q) 0 0) 0 0 0 [(0, aR 0), (1, aI v1), (2, aI v2), (3, aI v3), (4, aI v4), (5, aI v5)] [] (NC, RF, M) := by
  unfold wX11_lost at h
  refine a_iload_n hΓ 2 dX11_lost_0 rfl rfl ?_
  refine a_iload_n hΓ 3 dX11_lost_1 rfl rfl ?_
  obtain ⟨P1, q2, h⟩ := h
  refine n_callS (av := [aI v2, aI v3]) (st := []) hΓ (ct_wX11_isStretch _ _ v2 v3 M P1 q2) my_X11_isStretch ml_RX11_209 rfl (Nat.le_trans (by decide) hh) (by decide) (Nat.le_of_ble_eq_true rfl) rfl dX11_lost_2 (fun v Z' hq => ?_)
  obtain ⟨r3, M4, rfl, rfl, hq⟩ := hq
  have h := h r3 M4 hq
  dsimp only at h
  obtain ⟨g5, h⟩ := h
  refine a_if_eq (tgt := 28) hΓ g5 dX11_lost_5 (by decide) (fun c6 => ?_) (fun c6 => ?_)
  · rw [if_pos c6] at h
    refine a_ldc2_w hΓ gc_RX11_212 dX11_lost_28 ?_
    exact a_lret hΓ hr dX11_lost_31 ⟨_, _, rfl, rfl, h⟩
  · rw [if_neg c6] at h
    refine a_iload hΓ 5 dX11_lost_8 rfl ?_
    refine a_iconst hΓ dX11_lost_10 ?_
    refine a_iconst hΓ dX11_lost_11 ?_
    obtain ⟨P7, q8, h⟩ := h
    refine n_callS (av := [aI v5, aI 0, aI 1]) (st := []) hΓ (ct_wX11_within _ _ v5 0 1 M4 P7 q8) my_X11_within ml_RX11_79 rfl (Nat.le_trans (by decide) hh) (by decide) (Nat.le_of_ble_eq_true rfl) rfl dX11_lost_12 (fun v Z' hq => ?_)
    obtain ⟨r9, M10, rfl, rfl, hq⟩ := hq
    have h := h r9 M10 hq
    dsimp only at h
    obtain ⟨g11, h⟩ := h
    refine a_if_eq (tgt := 28) hΓ g11 dX11_lost_15 (by decide) (fun c12 => ?_) (fun c12 => ?_)
    · rw [if_pos c12] at h
      refine a_ldc2_w hΓ gc_RX11_212 dX11_lost_28 ?_
      exact a_lret hΓ hr dX11_lost_31 ⟨_, _, rfl, rfl, h⟩
    · rw [if_neg c12] at h
      refine a_aload_n hΓ 0 dX11_lost_18 rfl rfl ?_
      refine a_iload_n hΓ 1 dX11_lost_19 rfl rfl ?_
      refine a_iload hΓ 4 dX11_lost_20 rfl ?_
      obtain ⟨P13, q14, h⟩ := h
      refine n_callV (c := 0) (av := [aI v1, aI v4]) (st := []) hΓ (ct_wX11_bindAsKnown _ _ v1 v4 M10 P13 q14) my_X11_bindAsKnown ml_RX11_197 ni_X11_bindAsKnown kd_0 rfl lz_0 rfl (Nat.le_trans (by decide) hh) (by decide) (Nat.le_of_ble_eq_true rfl) rfl dX11_lost_22 (fun v Z' hq => ?_)
      obtain ⟨r15, M16, rfl, rfl, hq⟩ := hq
      have h := h r15 M16 hq
      dsimp only at h
      obtain ⟨g17, h⟩ := h
      refine a_if_ne (tgt := 32) hΓ g17 dX11_lost_25 (by decide) (fun c18 => ?_) (fun c18 => ?_)
      · rw [if_pos c18] at h
        refine a_ldc2_w hΓ gc_RX11_212 dX11_lost_28 ?_
        exact a_lret hΓ hr dX11_lost_31 ⟨_, _, rfl, rfl, h⟩
      · rw [if_neg c18] at h
        refine a_lconst (x := 0) hΓ dX11_lost_32 rfl ?_
        refine a_lstore (ls' := [(6, aL 0), (0, aR 0), (1, aI v1), (2, aI v2), (3, aI v3), (4, aI v4), (5, aI v5)]) hΓ dX11_lost_33 (by decide) rfl ?_
        refine a_iload_n hΓ 3 dX11_lost_35 rfl rfl ?_
        refine a_istore (ls' := [(8, aI v2), (6, aL 0), (0, aR 0), (1, aI v1), (2, aI v2), (3, aI v3), (4, aI v4), (5, aI v5)]) hΓ dX11_lost_36 (by decide) rfl ?_
        refine a_sub (ls' := [(0, aR 0), (3, aI v3), (5, aI v5), (6, aL 0), (8, aI v2)]) [2, 5, 7, 1, 0] rfl ?_
        obtain ⟨f19, h⟩ := h
        exact s_wX11_lost_38 hΓ (Nat.le_trans (by decide) hh) hr  f19 0 v2 M16 h
theorem ct_wX11_lost (l : Launch) (g : Gp) (v1 : Int) (v2 : Int) (v3 : Int) (v4 : Int) (v5 : Int) (M : Mm) (Q : Int → Mm → Prop) (h : wX11_lost v1 v2 v3 v4 v5 M Q) : Ct l g yX11_lost cX11_lost 9 (some .long) 6 0 0 [aR 0, aI v1, aI v2, aI v3, aI v4, aI v5] (NC, RF, M) (QL Q) :=
  ct_of (by decide) (Nat.le_of_ble_eq_true rfl) (fun Γ hg hl hr _ hΓ => by subst hg; subst hl; exact s_wX11_lost hΓ (by decide) hr v1 v2 v3 v4 v5 M h)
def wX6_widthOf (v1 : Int) (M : Mm) (Q : Int → Mm → Prop) : Prop :=
    (0 ≤ v1 ∧ v1 < 120) ∧
    Q ((M 82 v1) - (M 81 v1)) M
set_option maxHeartbeats 4000000 in
theorem s_wX6_widthOf {Γ : Cx} {h : Nat} (hΓ : Ok Γ cX6_widthOf RX6 2 h 0 0) (hh : 1 ≤ h) (hr : (cxm Γ).sig.returnType = (some .int)) {Q : Int → Mm → Prop} (v1 : Int) (M : Mm) (h : wX6_widthOf v1 M Q) : Wa Γ 2 (Kf Γ (QI Q) 0 0) 0 0 0 [(0, aR 72), (1, aI v1)] [] (NC, RF, M) := by
  unfold wX6_widthOf at h
  refine a_aload_n hΓ 0 dX6_widthOf_0 rfl rfl ?_
  refine n_getR hΓ fl_RX6_40 cl_6 kd_72 lz_72 dX6_widthOf_1 ft_6_12 rf_72_12 ?_
  refine a_iload_n hΓ 1 dX6_widthOf_4 rfl rfl ?_
  obtain ⟨g1, h⟩ := h
  refine n_iald (x := (M 82 v1)) hΓ dX6_widthOf_5 kd_82 lz_82 g1 rfl ?_
  refine a_aload_n hΓ 0 dX6_widthOf_6 rfl rfl ?_
  refine n_getR hΓ fl_RX6_37 cl_6 kd_72 lz_72 dX6_widthOf_7 ft_6_11 rf_72_11 ?_
  refine a_iload_n hΓ 1 dX6_widthOf_10 rfl rfl ?_
  refine n_iald (x := (M 81 v1)) hΓ dX6_widthOf_11 kd_81 lz_81 g1 rfl ?_
  refine a_isub hΓ dX6_widthOf_12 ?_
  exact a_iret hΓ hr dX6_widthOf_13 ⟨_, _, rfl, rfl, h⟩
theorem ct_wX6_widthOf (l : Launch) (g : Gp) (v1 : Int) (M : Mm) (Q : Int → Mm → Prop) (h : wX6_widthOf v1 M Q) : Ct l g yX6_widthOf cX6_widthOf 2 (some .int) 1 0 0 [aR 72, aI v1] (NC, RF, M) (QI Q) :=
  ct_of (by decide) (Nat.le_of_ble_eq_true rfl) (fun Γ hg hl hr _ hΓ => by subst hg; subst hl; exact s_wX6_widthOf hΓ (by decide) hr v1 M h)
def wX11_widest_28 (Q : Int → Mm → Prop) (v3 : Int) : Nat → Int → Int → Mm → Prop
  | 0, _, _, _ => False
  | f + 1, v5, v6, M => (inR v6) ∧
    (inR v3) ∧
    (if v6 ≤ v3 then
      Bd (wX6_widthOf v6 M) (fun r6 M7 =>
      Bd (wX6_widthOf v5 M7) (fun r10 M11 =>
      (inR r6) ∧
      (inR r10) ∧
      (if r6 ≤ r10 then
        (wX11_widest_28 Q v3 f) v5 (v6 + 1) M11
      else
        (wX11_widest_28 Q v3 f) v6 (v6 + 1) M11)))
    else
      Q v5 M)
set_option maxHeartbeats 4000000 in
theorem s_wX11_widest_28 {Γ : Cx} {h : Nat} (hΓ : Ok Γ cX11_widest RX11 7 h 0 0) (hh : 6 ≤ h) (hr : (cxm Γ).sig.returnType = (some .int)) {Q : Int → Mm → Prop} {v3 : Int}   : ∀ (f : Nat) (v5 : Int) (v6 : Int) (M : Mm), wX11_widest_28 Q v3 f v5 v6 M → Wa Γ 7 (Kf Γ (QI Q) 0 0) 0 0 28 [(0, aR 0), (3, aI v3), (5, aI v5), (6, aI v6)] [] (NC, RF, M) := by
  intro f
  induction f with
  | zero => intro v5 v6 M h; exact h.elim
  | succ f ih =>
    intro v5 v6 M h
    unfold wX11_widest_28 at h
    refine a_iload hΓ 3 dX11_widest_28 rfl ?_
    refine a_iload_n hΓ 1 dX11_widest_30 rfl rfl ?_
    obtain ⟨g1, h⟩ := h
    obtain ⟨g2, h⟩ := h
    refine a_icmp_gt (tgt := 65) hΓ g1 g2 dX11_widest_31 (by decide) (fun c3 => ?_) (fun c3 => ?_)
    · rw [if_pos c3] at h
      refine a_aload_n hΓ 0 dX11_widest_34 rfl rfl ?_
      refine n_getR hΓ fl_RX11_29 cl_11 kd_0 lz_0 dX11_widest_35 ft_11_3 rf_0_3 ?_
      refine a_iload hΓ 3 dX11_widest_38 rfl ?_
      obtain ⟨P4, q5, h⟩ := h
      refine n_callV (c := 72) (av := [aI v6]) (st := []) hΓ (ct_wX6_widthOf _ _ v6 M P4 q5) my_X6_widthOf ml_RX11_217 ni_X6_widthOf kd_72 rfl lz_72 rfl (Nat.le_trans (by decide) hh) (by decide) (Nat.le_of_ble_eq_true rfl) rfl dX11_widest_40 (fun v Z' hq => ?_)
      obtain ⟨r6, M7, rfl, rfl, hq⟩ := hq
      have h := h r6 M7 hq
      dsimp only at h
      refine a_aload_n hΓ 0 dX11_widest_43 rfl rfl ?_
      refine n_getR hΓ fl_RX11_29 cl_11 kd_0 lz_0 dX11_widest_44 ft_11_3 rf_0_3 ?_
      refine a_iload hΓ 2 dX11_widest_47 rfl ?_
      obtain ⟨P8, q9, h⟩ := h
      refine n_callV (c := 72) (av := [aI v5]) (st := [aI r6]) hΓ (ct_wX6_widthOf _ _ v5 M7 P8 q9) my_X6_widthOf ml_RX11_217 ni_X6_widthOf kd_72 rfl lz_72 rfl (Nat.le_trans (by decide) hh) (by decide) (Nat.le_of_ble_eq_true rfl) rfl dX11_widest_49 (fun v Z' hq => ?_)
      obtain ⟨r10, M11, rfl, rfl, hq⟩ := hq
      have h := h r10 M11 hq
      dsimp only at h
      obtain ⟨g12, h⟩ := h
      obtain ⟨g13, h⟩ := h
      refine a_icmp_le (tgt := 59) hΓ g12 g13 dX11_widest_52 (by decide) (fun c14 => ?_) (fun c14 => ?_)
      · rw [if_pos c14] at h
        refine a_iinc (ls' := [(6, aI (v6 + 1)), (0, aR 0), (3, aI v3), (5, aI v5)]) hΓ 3 dX11_widest_59 rfl (by decide) rfl ?_
        refine a_goto (tgt := 28) hΓ dX11_widest_62 (by decide) ?_
        refine a_sub (ls' := [(0, aR 0), (3, aI v3), (5, aI v5), (6, aI (v6 + 1))]) [1, 2, 3, 0] rfl ?_
        exact ih v5 (v6 + 1) M11 h
      · rw [if_neg c14] at h
        refine a_iload hΓ 3 dX11_widest_55 rfl ?_
        refine a_istore (ls' := [(5, aI v6), (0, aR 0), (3, aI v3), (6, aI v6)]) hΓ dX11_widest_57 (by decide) rfl ?_
        refine a_iinc (ls' := [(6, aI (v6 + 1)), (5, aI v6), (0, aR 0), (3, aI v3)]) hΓ 3 dX11_widest_59 rfl (by decide) rfl ?_
        refine a_goto (tgt := 28) hΓ dX11_widest_62 (by decide) ?_
        refine a_sub (ls' := [(0, aR 0), (3, aI v3), (5, aI v6), (6, aI (v6 + 1))]) [2, 3, 1, 0] rfl ?_
        exact ih v6 (v6 + 1) M11 h
    · rw [if_neg c3] at h
      refine a_iload hΓ 2 dX11_widest_65 rfl ?_
      exact a_iret hΓ hr dX11_widest_67 ⟨_, _, rfl, rfl, h⟩
def wX11_widest (v1 : Int) (v2 : Int) (v3 : Int) (v4 : Int) (M : Mm) (Q : Int → Mm → Prop) : Prop :=
    Bd (wX11_isStretch v2 v3 M) (fun r3 M4 =>
    (inR r3) ∧
    (if r3 = 0 then
      Q (-1) M4
    else
      Bd (wX11_bindAsKnown v1 v4 M4) (fun r9 M10 =>
      (inR r9) ∧
      (if r9 = 0 then
        Q (-1) M10
      else
        ∃ n, wX11_widest_28 Q v3 n v2 (v2 + 1) M10))))
set_option maxHeartbeats 4000000 in
theorem s_wX11_widest {Γ : Cx} {h : Nat} (hΓ : Ok Γ cX11_widest RX11 7 h 0 0) (hh : 6 ≤ h) (hr : (cxm Γ).sig.returnType = (some .int)) {Q : Int → Mm → Prop} (v1 : Int) (v2 : Int) (v3 : Int) (v4 : Int) (M : Mm) (h : wX11_widest v1 v2 v3 v4 M Q) : Wa Γ 7 (Kf Γ (QI Q) 0 0) 0 0 0 [(0, aR 0), (1, aI v1), (2, aI v2), (3, aI v3), (4, aI v4)] [] (NC, RF, M) := by
  unfold wX11_widest at h
  refine a_iload_n hΓ 2 dX11_widest_0 rfl rfl ?_
  refine a_iload_n hΓ 3 dX11_widest_1 rfl rfl ?_
  obtain ⟨P1, q2, h⟩ := h
  refine n_callS (av := [aI v2, aI v3]) (st := []) hΓ (ct_wX11_isStretch _ _ v2 v3 M P1 q2) my_X11_isStretch ml_RX11_209 rfl (Nat.le_trans (by decide) hh) (by decide) (Nat.le_of_ble_eq_true rfl) rfl dX11_widest_2 (fun v Z' hq => ?_)
  obtain ⟨r3, M4, rfl, rfl, hq⟩ := hq
  have h := h r3 M4 hq
  dsimp only at h
  obtain ⟨g5, h⟩ := h
  refine a_if_eq (tgt := 18) hΓ g5 dX11_widest_5 (by decide) (fun c6 => ?_) (fun c6 => ?_)
  · rw [if_pos c6] at h
    refine a_iconst hΓ dX11_widest_18 ?_
    exact a_iret hΓ hr dX11_widest_19 ⟨_, _, rfl, rfl, h⟩
  · rw [if_neg c6] at h
    refine a_aload_n hΓ 0 dX11_widest_8 rfl rfl ?_
    refine a_iload_n hΓ 1 dX11_widest_9 rfl rfl ?_
    refine a_iload hΓ 4 dX11_widest_10 rfl ?_
    obtain ⟨P7, q8, h⟩ := h
    refine n_callV (c := 0) (av := [aI v1, aI v4]) (st := []) hΓ (ct_wX11_bindAsKnown _ _ v1 v4 M4 P7 q8) my_X11_bindAsKnown ml_RX11_197 ni_X11_bindAsKnown kd_0 rfl lz_0 rfl (Nat.le_trans (by decide) hh) (by decide) (Nat.le_of_ble_eq_true rfl) rfl dX11_widest_12 (fun v Z' hq => ?_)
    obtain ⟨r9, M10, rfl, rfl, hq⟩ := hq
    have h := h r9 M10 hq
    dsimp only at h
    obtain ⟨g11, h⟩ := h
    refine a_if_ne (tgt := 20) hΓ g11 dX11_widest_15 (by decide) (fun c12 => ?_) (fun c12 => ?_)
    · rw [if_pos c12] at h
      refine a_iconst hΓ dX11_widest_18 ?_
      exact a_iret hΓ hr dX11_widest_19 ⟨_, _, rfl, rfl, h⟩
    · rw [if_neg c12] at h
      refine a_iload_n hΓ 2 dX11_widest_20 rfl rfl ?_
      refine a_istore (ls' := [(5, aI v2), (0, aR 0), (1, aI v1), (2, aI v2), (3, aI v3), (4, aI v4)]) hΓ dX11_widest_21 (by decide) rfl ?_
      refine a_iload_n hΓ 3 dX11_widest_23 rfl rfl ?_
      refine a_iconst hΓ dX11_widest_24 ?_
      refine a_iadd hΓ dX11_widest_25 ?_
      refine a_istore (ls' := [(6, aI (v2 + 1)), (5, aI v2), (0, aR 0), (1, aI v1), (2, aI v2), (3, aI v3), (4, aI v4)]) hΓ dX11_widest_26 (by decide) rfl ?_
      refine a_sub (ls' := [(0, aR 0), (3, aI v3), (5, aI v2), (6, aI (v2 + 1))]) [2, 5, 1, 0] rfl ?_
      obtain ⟨f13, h⟩ := h
      exact s_wX11_widest_28 hΓ (Nat.le_trans (by decide) hh) hr  f13 v2 (v2 + 1) M10 h
theorem ct_wX11_widest (l : Launch) (g : Gp) (v1 : Int) (v2 : Int) (v3 : Int) (v4 : Int) (M : Mm) (Q : Int → Mm → Prop) (h : wX11_widest v1 v2 v3 v4 M Q) : Ct l g yX11_widest cX11_widest 7 (some .int) 6 0 0 [aR 0, aI v1, aI v2, aI v3, aI v4] (NC, RF, M) (QI Q) :=
  ct_of (by decide) (Nat.le_of_ble_eq_true rfl) (fun Γ hg hl hr _ hΓ => by subst hg; subst hl; exact s_wX11_widest hΓ (by decide) hr v1 v2 v3 v4 M h)
def wX2_findFoes_121 (Q : Mm → Prop) (k52 : Int → Mm → Prop) (v1 : Int) (v3 : Int) (s0 : Int) (M : Mm) : Prop :=
    (0 ≤ v1 ∧ v1 < 24) ∧
    (inR s0) ∧
    (if s0 = 0 then
      k52 (v3 + 1) (up M 84 v1 (lorI (M 84 v1) 0))
    else
      k52 (v3 + 1) (up M 84 v1 (lorI (M 84 v1) (shlI 1 v3))))
set_option maxHeartbeats 4000000 in
theorem s_wX2_findFoes_121 {Γ : Cx} {h : Nat} (hΓ : Ok Γ cX2_findFoes RX2 5 h 0 0) (hh : 4 ≤ h) (hr : (cxm Γ).sig.returnType = none) {Q : Mm → Prop} {v1 v3 s0 : Int}  {k52 : Int → Mm → Prop} (hk52 : ∀ (v3 : Int) (M : Mm), k52 v3 M → Wa Γ 5 (Kf Γ (QV Q) 0 0) 0 0 52 [(0, aR 83), (1, aI v1), (2, aR 17), (3, aI v3)] [] (NC, RF, M)) (M : Mm) (h : wX2_findFoes_121 Q k52 v1 v3 s0 M) : Wa Γ 5 (Kf Γ (QV Q) 0 0) 0 0 121 [(0, aR 83), (1, aI v1), (2, aR 17), (3, aI v3)] [aI s0] (NC, RF, M) := by
  unfold wX2_findFoes_121 at h
  refine a_istore (ls' := [(4, aI s0), (0, aR 83), (1, aI v1), (2, aR 17), (3, aI v3)]) hΓ dX2_findFoes_121 (by decide) rfl ?_
  refine a_aload_n hΓ 1 dX2_findFoes_123 rfl rfl ?_
  refine n_getR hΓ fl_RX2_9 cl_2 kd_83 lz_83 dX2_findFoes_124 ft_2_2 rf_83_2 ?_
  refine a_iload_n hΓ 2 dX2_findFoes_127 rfl rfl ?_
  refine a_dup2 hΓ dX2_findFoes_128 ?_
  obtain ⟨g1, h⟩ := h
  refine n_iald (x := (M 84 v1)) hΓ dX2_findFoes_129 kd_84 lz_84 g1 rfl ?_
  refine a_iload hΓ 0 dX2_findFoes_130 rfl ?_
  obtain ⟨g2, h⟩ := h
  refine a_if_eq (tgt := 141) hΓ g2 dX2_findFoes_132 (by decide) (fun c3 => ?_) (fun c3 => ?_)
  · rw [if_pos c3] at h
    refine a_iconst hΓ dX2_findFoes_141 ?_
    refine a_ior hΓ dX2_findFoes_142 ?_
    refine a_iast hΓ dX2_findFoes_143 kd_84 lz_84 g1 ?_
    refine a_iinc (ls' := [(3, aI (v3 + 1)), (4, aI s0), (0, aR 83), (1, aI v1), (2, aR 17)]) hΓ 4 dX2_findFoes_144 rfl (by decide) rfl ?_
    refine a_goto (tgt := 52) hΓ dX2_findFoes_147 (by decide) ?_
    refine a_sub (ls' := [(0, aR 83), (1, aI v1), (2, aR 17), (3, aI (v3 + 1))]) [2, 3, 4, 0] rfl ?_
    exact hk52 (v3 + 1) (up M 84 v1 (lorI (M 84 v1) 0)) h
  · rw [if_neg c3] at h
    refine a_iconst hΓ dX2_findFoes_135 ?_
    refine a_iload_n hΓ 4 dX2_findFoes_136 rfl rfl ?_
    refine a_ishl hΓ dX2_findFoes_137 ?_
    refine a_goto (tgt := 142) hΓ dX2_findFoes_138 (by decide) ?_
    refine a_ior hΓ dX2_findFoes_142 ?_
    refine a_iast hΓ dX2_findFoes_143 kd_84 lz_84 g1 ?_
    refine a_iinc (ls' := [(3, aI (v3 + 1)), (4, aI s0), (0, aR 83), (1, aI v1), (2, aR 17)]) hΓ 4 dX2_findFoes_144 rfl (by decide) rfl ?_
    refine a_goto (tgt := 52) hΓ dX2_findFoes_147 (by decide) ?_
    refine a_sub (ls' := [(0, aR 83), (1, aI v1), (2, aR 17), (3, aI (v3 + 1))]) [2, 3, 4, 0] rfl ?_
    exact hk52 (v3 + 1) (up M 84 v1 (lorI (M 84 v1) (shlI 1 v3))) h
def wX2_findFoes_52 (Q : Mm → Prop) (v1 : Int) : Nat → Int → Mm → Prop
  | 0, _, _ => False
  | f + 1, v3, M => (inR v3) ∧
    (if v3 < 24 then
      (if (landI (shrI (M 83 3) v3) 1) = 1 then
        (0 ≤ v3 ∧ v3 < 24) ∧
        (0 ≤ (M 17 v3) ∧ (M 17 v3) < 120) ∧
        (inR (M 79 v3)) ∧
        (inR (M 82 (M 17 v3))) ∧
        (if (M 79 v3) ≤ (M 82 (M 17 v3)) then
          (inR (M 80 v3)) ∧
          (inR (M 81 (M 17 v3))) ∧
          (if (M 80 v3) < (M 81 (M 17 v3)) then
            wX2_findFoes_121 Q (wX2_findFoes_52 Q v1 f) v1 v3 1 M
          else
            wX2_findFoes_121 Q (wX2_findFoes_52 Q v1 f) v1 v3 0 M)
        else
          wX2_findFoes_121 Q (wX2_findFoes_52 Q v1 f) v1 v3 1 M)
      else
        (wX2_findFoes_52 Q v1 f) (v3 + 1) M)
    else
      Q M)
set_option maxHeartbeats 4000000 in
theorem s_wX2_findFoes_52 {Γ : Cx} {h : Nat} (hΓ : Ok Γ cX2_findFoes RX2 5 h 0 0) (hh : 4 ≤ h) (hr : (cxm Γ).sig.returnType = none) {Q : Mm → Prop} {v1 : Int}   : ∀ (f : Nat) (v3 : Int) (M : Mm), wX2_findFoes_52 Q v1 f v3 M → Wa Γ 5 (Kf Γ (QV Q) 0 0) 0 0 52 [(0, aR 83), (1, aI v1), (2, aR 17), (3, aI v3)] [] (NC, RF, M) := by
  intro f
  induction f with
  | zero => intro v3 M h; exact h.elim
  | succ f ih =>
    intro v3 M h
    unfold wX2_findFoes_52 at h
    refine a_iload_n hΓ 3 dX2_findFoes_52 rfl rfl ?_
    refine a_bipush hΓ dX2_findFoes_53 (by decide) ?_
    obtain ⟨g1, h⟩ := h
    refine a_icmp_ge (tgt := 150) hΓ g1 (inRl (by decide)) dX2_findFoes_55 (by decide) (fun c2 => ?_) (fun c2 => ?_)
    · rw [if_pos c2] at h
      refine a_aload_n hΓ 0 dX2_findFoes_58 rfl rfl ?_
      refine n_getI (x := (M 83 3)) hΓ fl_RX2_45 cl_2 kd_83 lz_83 dX2_findFoes_59 (Or.inl ft_2_3) rfl ?_
      refine a_iload_n hΓ 3 dX2_findFoes_62 rfl rfl ?_
      refine a_ishr hΓ dX2_findFoes_63 ?_
      refine a_iconst hΓ dX2_findFoes_64 ?_
      refine a_iand hΓ dX2_findFoes_65 ?_
      refine a_iconst hΓ dX2_findFoes_66 ?_
      refine a_icmp_ne (tgt := 144) hΓ (inR_land _ _) (inRl (by decide)) dX2_findFoes_67 (by decide) (fun c3 => ?_) (fun c3 => ?_)
      · rw [if_pos c3] at h
        refine a_aload_n hΓ 0 dX2_findFoes_70 rfl rfl ?_
        refine n_getR hΓ fl_RX2_15 cl_2 kd_83 lz_83 dX2_findFoes_71 ft_2_0 rf_83_0 ?_
        refine n_getR hΓ fl_RX2_62 cl_6 kd_72 lz_72 dX2_findFoes_74 ft_6_9 rf_72_9 ?_
        refine a_iload_n hΓ 3 dX2_findFoes_77 rfl rfl ?_
        obtain ⟨g4, h⟩ := h
        refine n_iald (x := (M 79 v3)) hΓ dX2_findFoes_78 kd_79 lz_79 g4 rfl ?_
        refine a_aload_n hΓ 0 dX2_findFoes_79 rfl rfl ?_
        refine n_getR hΓ fl_RX2_15 cl_2 kd_83 lz_83 dX2_findFoes_80 ft_2_0 rf_83_0 ?_
        refine n_getR hΓ fl_RX2_65 cl_6 kd_72 lz_72 dX2_findFoes_83 ft_6_12 rf_72_12 ?_
        refine a_aload_n hΓ 2 dX2_findFoes_86 rfl rfl ?_
        refine a_iload_n hΓ 3 dX2_findFoes_87 rfl rfl ?_
        refine n_iald (x := (M 17 v3)) hΓ dX2_findFoes_88 kd_17 lz_17 g4 rfl ?_
        obtain ⟨g5, h⟩ := h
        refine n_iald (x := (M 82 (M 17 v3))) hΓ dX2_findFoes_89 kd_82 lz_82 g5 rfl ?_
        obtain ⟨g6, h⟩ := h
        obtain ⟨g7, h⟩ := h
        refine a_icmp_gt (tgt := 116) hΓ g6 g7 dX2_findFoes_90 (by decide) (fun c8 => ?_) (fun c8 => ?_)
        · rw [if_pos c8] at h
          refine a_aload_n hΓ 0 dX2_findFoes_93 rfl rfl ?_
          refine n_getR hΓ fl_RX2_15 cl_2 kd_83 lz_83 dX2_findFoes_94 ft_2_0 rf_83_0 ?_
          refine n_getR hΓ fl_RX2_68 cl_6 kd_72 lz_72 dX2_findFoes_97 ft_6_10 rf_72_10 ?_
          refine a_iload_n hΓ 3 dX2_findFoes_100 rfl rfl ?_
          refine n_iald (x := (M 80 v3)) hΓ dX2_findFoes_101 kd_80 lz_80 g4 rfl ?_
          refine a_aload_n hΓ 0 dX2_findFoes_102 rfl rfl ?_
          refine n_getR hΓ fl_RX2_15 cl_2 kd_83 lz_83 dX2_findFoes_103 ft_2_0 rf_83_0 ?_
          refine n_getR hΓ fl_RX2_71 cl_6 kd_72 lz_72 dX2_findFoes_106 ft_6_11 rf_72_11 ?_
          refine a_aload_n hΓ 2 dX2_findFoes_109 rfl rfl ?_
          refine a_iload_n hΓ 3 dX2_findFoes_110 rfl rfl ?_
          refine n_iald (x := (M 17 v3)) hΓ dX2_findFoes_111 kd_17 lz_17 g4 rfl ?_
          refine n_iald (x := (M 81 (M 17 v3))) hΓ dX2_findFoes_112 kd_81 lz_81 g5 rfl ?_
          obtain ⟨g9, h⟩ := h
          obtain ⟨g10, h⟩ := h
          refine a_icmp_ge (tgt := 120) hΓ g9 g10 dX2_findFoes_113 (by decide) (fun c11 => ?_) (fun c11 => ?_)
          · rw [if_pos c11] at h
            refine a_iconst hΓ dX2_findFoes_116 ?_
            refine a_goto (tgt := 121) hΓ dX2_findFoes_117 (by decide) ?_
            exact s_wX2_findFoes_121 hΓ (Nat.le_trans (by decide) hh) hr ih M h
          · rw [if_neg c11] at h
            refine a_iconst hΓ dX2_findFoes_120 ?_
            exact s_wX2_findFoes_121 hΓ (Nat.le_trans (by decide) hh) hr ih M h
        · rw [if_neg c8] at h
          refine a_iconst hΓ dX2_findFoes_116 ?_
          refine a_goto (tgt := 121) hΓ dX2_findFoes_117 (by decide) ?_
          exact s_wX2_findFoes_121 hΓ (Nat.le_trans (by decide) hh) hr ih M h
      · rw [if_neg c3] at h
        refine a_iinc (ls' := [(3, aI (v3 + 1)), (0, aR 83), (1, aI v1), (2, aR 17)]) hΓ 3 dX2_findFoes_144 rfl (by decide) rfl ?_
        refine a_goto (tgt := 52) hΓ dX2_findFoes_147 (by decide) ?_
        refine a_sub (ls' := [(0, aR 83), (1, aI v1), (2, aR 17), (3, aI (v3 + 1))]) [1, 2, 3, 0] rfl ?_
        exact ih (v3 + 1) M h
    · rw [if_neg c2] at h
      exact a_vret hΓ hr dX2_findFoes_150 ⟨_, rfl, rfl, h⟩
def wX2_findFoes (v1 : Int) (M : Mm) (Q : Mm → Prop) : Prop :=
    Bd (wX6_bind (shlI 1 v1) M) (fun r3 M4 =>
    (inR r3) ∧
    (if r3 = 0 then
      (0 ≤ v1 ∧ v1 < 24) ∧
      Q (up M4 84 v1 (M4 83 3))
    else
      ∃ n, wX2_findFoes_52 Q v1 n 0 (up M4 83 4 (lorI (M4 83 4) (shlI 1 v1)))))
set_option maxHeartbeats 4000000 in
theorem s_wX2_findFoes {Γ : Cx} {h : Nat} (hΓ : Ok Γ cX2_findFoes RX2 5 h 0 0) (hh : 4 ≤ h) (hr : (cxm Γ).sig.returnType = none) {Q : Mm → Prop} (v1 : Int) (M : Mm) (h : wX2_findFoes v1 M Q) : Wa Γ 5 (Kf Γ (QV Q) 0 0) 0 0 0 [(0, aR 83), (1, aI v1)] [] (NC, RF, M) := by
  unfold wX2_findFoes at h
  refine a_aload_n hΓ 0 dX2_findFoes_0 rfl rfl ?_
  refine n_getR hΓ fl_RX2_15 cl_2 kd_83 lz_83 dX2_findFoes_1 ft_2_0 rf_83_0 ?_
  refine a_iconst hΓ dX2_findFoes_4 ?_
  refine a_iload_n hΓ 1 dX2_findFoes_5 rfl rfl ?_
  refine a_ishl hΓ dX2_findFoes_6 ?_
  obtain ⟨P1, q2, h⟩ := h
  refine n_callV (c := 72) (av := [aI (shlI 1 v1)]) (st := []) hΓ (ct_wX6_bind _ _ (shlI 1 v1) M P1 q2) my_X6_bind ml_RX2_55 ni_X6_bind kd_72 rfl lz_72 rfl (Nat.le_trans (by decide) hh) (by decide) (Nat.le_of_ble_eq_true rfl) rfl dX2_findFoes_7 (fun v Z' hq => ?_)
  obtain ⟨r3, M4, rfl, rfl, hq⟩ := hq
  have h := h r3 M4 hq
  dsimp only at h
  obtain ⟨g5, h⟩ := h
  refine a_if_ne (tgt := 24) hΓ g5 dX2_findFoes_10 (by decide) (fun c6 => ?_) (fun c6 => ?_)
  · rw [if_pos c6] at h
    refine a_aload_n hΓ 0 dX2_findFoes_13 rfl rfl ?_
    refine n_getR hΓ fl_RX2_9 cl_2 kd_83 lz_83 dX2_findFoes_14 ft_2_2 rf_83_2 ?_
    refine a_iload_n hΓ 1 dX2_findFoes_17 rfl rfl ?_
    refine a_aload_n hΓ 0 dX2_findFoes_18 rfl rfl ?_
    refine n_getI (x := (M4 83 3)) hΓ fl_RX2_45 cl_2 kd_83 lz_83 dX2_findFoes_19 (Or.inl ft_2_3) rfl ?_
    obtain ⟨g7, h⟩ := h
    refine a_iast hΓ dX2_findFoes_22 kd_84 lz_84 g7 ?_
    exact a_vret hΓ hr dX2_findFoes_23 ⟨_, rfl, rfl, h⟩
  · rw [if_neg c6] at h
    refine a_aload_n hΓ 0 dX2_findFoes_24 rfl rfl ?_
    refine a_dupR hΓ dX2_findFoes_25 ?_
    refine n_getI (x := (M4 83 4)) hΓ fl_RX2_49 cl_2 kd_83 lz_83 dX2_findFoes_26 (Or.inl ft_2_4) rfl ?_
    refine a_iconst hΓ dX2_findFoes_29 ?_
    refine a_iload_n hΓ 1 dX2_findFoes_30 rfl rfl ?_
    refine a_ishl hΓ dX2_findFoes_31 ?_
    refine a_ior hΓ dX2_findFoes_32 ?_
    refine n_putI (j := 4) hΓ fl_RX2_49 cl_2 nf_2_4 kd_83 lz_83 dX2_findFoes_33 (Or.inl ft_2_4) rfl ?_
    refine a_aload_n hΓ 0 dX2_findFoes_36 rfl rfl ?_
    refine n_getR hΓ fl_RX2_15 cl_2 kd_83 lz_83 dX2_findFoes_37 ft_2_0 rf_83_0 ?_
    refine n_getR hΓ fl_RX2_19 cl_6 kd_72 lz_72 dX2_findFoes_40 ft_6_0 rf_72_0 ?_
    refine n_getR hΓ fl_RX2_25 cl_0 kd_1 lz_1 dX2_findFoes_43 ft_0_14 rf_1_14 ?_
    refine n_getR hΓ fl_RX2_59 cl_4 kd_15 lz_15 dX2_findFoes_46 ft_4_2 rf_15_2 ?_
    refine a_astore_n (ls' := [(2, aR 17), (0, aR 83), (1, aI v1)]) hΓ dX2_findFoes_49 rfl (by decide) rfl ?_
    refine a_iconst hΓ dX2_findFoes_50 ?_
    refine a_istore_n (ls' := [(3, aI 0), (2, aR 17), (0, aR 83), (1, aI v1)]) hΓ dX2_findFoes_51 rfl (by decide) rfl ?_
    refine a_sub (ls' := [(0, aR 83), (1, aI v1), (2, aR 17), (3, aI 0)]) [2, 3, 1, 0] rfl ?_
    obtain ⟨f8, h⟩ := h
    exact s_wX2_findFoes_52 hΓ (Nat.le_trans (by decide) hh) hr  f8 0 (up M4 83 4 (lorI (M4 83 4) (shlI 1 v1))) h
theorem ct_wX2_findFoes (l : Launch) (g : Gp) (v1 : Int) (M : Mm) (Q : Mm → Prop) (h : wX2_findFoes v1 M Q) : Ct l g yX2_findFoes cX2_findFoes 5 none 4 0 0 [aR 83, aI v1] (NC, RF, M) (QV Q) :=
  ct_of (by decide) (Nat.le_of_ble_eq_true rfl) (fun Γ hg hl hr _ hΓ => by subst hg; subst hl; exact s_wX2_findFoes hΓ (by decide) hr v1 M h)
def wX2_load_27 (Q : Mm → Prop) : Nat → Int → Mm → Prop
  | 0, _, _ => False
  | f + 1, v3, M => (inR v3) ∧
    (if v3 < 24 then
      (0 ≤ v3 ∧ v3 < 24) ∧
      (if (landI (shrI (M 83 3) v3) 1) = 1 then
        Bv (wX2_findFoes v3 (up M 84 v3 0)) (fun M8 =>
        (wX2_load_27 Q f) (v3 + 1) M8)
      else
        (wX2_load_27 Q f) (v3 + 1) (up M 84 v3 0))
    else
      Q M)
set_option maxHeartbeats 4000000 in
theorem s_wX2_load_27 {Γ : Cx} {h : Nat} (hΓ : Ok Γ cX2_load RX2 4 h 0 0) (hh : 5 ≤ h) (hr : (cxm Γ).sig.returnType = none) {Q : Mm → Prop}   : ∀ (f : Nat) (v3 : Int) (M : Mm), wX2_load_27 Q  f v3 M → Wa Γ 4 (Kf Γ (QV Q) 0 0) 0 0 27 [(0, aR 83), (3, aI v3)] [] (NC, RF, M) := by
  intro f
  induction f with
  | zero => intro v3 M h; exact h.elim
  | succ f ih =>
    intro v3 M h
    unfold wX2_load_27 at h
    refine a_iload_n hΓ 1 dX2_load_27 rfl rfl ?_
    refine a_bipush hΓ dX2_load_28 (by decide) ?_
    obtain ⟨g1, h⟩ := h
    refine a_icmp_ge (tgt := 63) hΓ g1 (inRl (by decide)) dX2_load_30 (by decide) (fun c2 => ?_) (fun c2 => ?_)
    · rw [if_pos c2] at h
      refine a_aload_n hΓ 0 dX2_load_33 rfl rfl ?_
      refine n_getR hΓ fl_RX2_9 cl_2 kd_83 lz_83 dX2_load_34 ft_2_2 rf_83_2 ?_
      refine a_iload_n hΓ 1 dX2_load_37 rfl rfl ?_
      refine a_iconst hΓ dX2_load_38 ?_
      obtain ⟨g3, h⟩ := h
      refine a_iast hΓ dX2_load_39 kd_84 lz_84 g3 ?_
      refine a_aload_n hΓ 0 dX2_load_40 rfl rfl ?_
      refine n_getI (x := (M 83 3)) hΓ fl_RX2_45 cl_2 kd_83 lz_83 dX2_load_41 (Or.inl ft_2_3) rfl ?_
      refine a_iload_n hΓ 1 dX2_load_44 rfl rfl ?_
      refine a_ishr hΓ dX2_load_45 ?_
      refine a_iconst hΓ dX2_load_46 ?_
      refine a_iand hΓ dX2_load_47 ?_
      refine a_iconst hΓ dX2_load_48 ?_
      refine a_icmp_ne (tgt := 57) hΓ (inR_land _ _) (inRl (by decide)) dX2_load_49 (by decide) (fun c4 => ?_) (fun c4 => ?_)
      · rw [if_pos c4] at h
        refine a_aload_n hΓ 0 dX2_load_52 rfl rfl ?_
        refine a_iload_n hΓ 1 dX2_load_53 rfl rfl ?_
        obtain ⟨P5, q6, h⟩ := h
        refine n_callV (c := 83) (av := [aI v3]) (st := []) hΓ (ct_wX2_findFoes _ _ v3 (up M 84 v3 0) P5 q6) my_X2_findFoes ml_RX2_52 ni_X2_findFoes kd_83 rfl lz_83 rfl (Nat.le_trans (by decide) hh) (by decide) (Nat.le_of_ble_eq_true rfl) rfl dX2_load_54 (fun v Z' hq => ?_)
        obtain ⟨M8, rfl, rfl, hq⟩ := hq
        have h := h M8 hq
        dsimp only at h
        refine a_iinc (ls' := [(3, aI (v3 + 1)), (0, aR 83)]) hΓ 1 dX2_load_57 rfl (by decide) rfl ?_
        refine a_goto (tgt := 27) hΓ dX2_load_60 (by decide) ?_
        refine a_sub (ls' := [(0, aR 83), (3, aI (v3 + 1))]) [1, 0] rfl ?_
        exact ih (v3 + 1) M8 h
      · rw [if_neg c4] at h
        refine a_iinc (ls' := [(3, aI (v3 + 1)), (0, aR 83)]) hΓ 1 dX2_load_57 rfl (by decide) rfl ?_
        refine a_goto (tgt := 27) hΓ dX2_load_60 (by decide) ?_
        refine a_sub (ls' := [(0, aR 83), (3, aI (v3 + 1))]) [1, 0] rfl ?_
        exact ih (v3 + 1) (up M 84 v3 0) h
    · rw [if_neg c2] at h
      exact a_vret hΓ hr dX2_load_63 ⟨_, rfl, rfl, h⟩
def wX2_load (v1 : Int) (v2 : Int) (M : Mm) (Q : Mm → Prop) : Prop :=
    Bv (wX6_load v1 M) (fun M4 =>
    Bd (wX6_counting v2 M4) (fun r7 M8 =>
    ∃ n, wX2_load_27 Q n 0 (up (up M8 83 3 r7) 83 4 0)))
set_option maxHeartbeats 4000000 in
theorem s_wX2_load {Γ : Cx} {h : Nat} (hΓ : Ok Γ cX2_load RX2 4 h 0 0) (hh : 5 ≤ h) (hr : (cxm Γ).sig.returnType = none) {Q : Mm → Prop} (v1 : Int) (v2 : Int) (M : Mm) (h : wX2_load v1 v2 M Q) : Wa Γ 4 (Kf Γ (QV Q) 0 0) 0 0 0 [(0, aR 83), (1, aI v1), (2, aI v2)] [] (NC, RF, M) := by
  unfold wX2_load at h
  refine a_aload_n hΓ 0 dX2_load_0 rfl rfl ?_
  refine n_getR hΓ fl_RX2_15 cl_2 kd_83 lz_83 dX2_load_1 ft_2_0 rf_83_0 ?_
  refine a_iload_n hΓ 1 dX2_load_4 rfl rfl ?_
  obtain ⟨P1, q2, h⟩ := h
  refine n_callV (c := 72) (av := [aI v1]) (st := []) hΓ (ct_wX6_load _ _ v1 M P1 q2) my_X6_load ml_RX2_37 ni_X6_load kd_72 rfl lz_72 rfl (Nat.le_trans (by decide) hh) (by decide) (Nat.le_of_ble_eq_true rfl) rfl dX2_load_5 (fun v Z' hq => ?_)
  obtain ⟨M4, rfl, rfl, hq⟩ := hq
  have h := h M4 hq
  dsimp only at h
  refine a_aload_n hΓ 0 dX2_load_8 rfl rfl ?_
  refine a_aload_n hΓ 0 dX2_load_9 rfl rfl ?_
  refine n_getR hΓ fl_RX2_15 cl_2 kd_83 lz_83 dX2_load_10 ft_2_0 rf_83_0 ?_
  refine a_iload_n hΓ 2 dX2_load_13 rfl rfl ?_
  obtain ⟨P5, q6, h⟩ := h
  refine n_callV (c := 72) (av := [aI v2]) (st := [aR 83]) hΓ (ct_wX6_counting _ _ v2 M4 P5 q6) my_X6_counting ml_RX2_41 ni_X6_counting kd_72 rfl lz_72 rfl (Nat.le_trans (by decide) hh) (by decide) (Nat.le_of_ble_eq_true rfl) rfl dX2_load_14 (fun v Z' hq => ?_)
  obtain ⟨r7, M8, rfl, rfl, hq⟩ := hq
  have h := h r7 M8 hq
  dsimp only at h
  refine n_putI (j := 3) hΓ fl_RX2_45 cl_2 nf_2_3 kd_83 lz_83 dX2_load_17 (Or.inl ft_2_3) rfl ?_
  refine a_aload_n hΓ 0 dX2_load_20 rfl rfl ?_
  refine a_iconst hΓ dX2_load_21 ?_
  refine n_putI (j := 4) hΓ fl_RX2_49 cl_2 nf_2_4 kd_83 lz_83 dX2_load_22 (Or.inl ft_2_4) rfl ?_
  refine a_iconst hΓ dX2_load_25 ?_
  refine a_istore_n (ls' := [(3, aI 0), (0, aR 83), (1, aI v1), (2, aI v2)]) hΓ dX2_load_26 rfl (by decide) rfl ?_
  refine a_sub (ls' := [(0, aR 83), (3, aI 0)]) [1, 0] rfl ?_
  obtain ⟨f9, h⟩ := h
  exact s_wX2_load_27 hΓ (Nat.le_trans (by decide) hh) hr  f9 0 (up (up M8 83 3 r7) 83 4 0) h
theorem ct_wX2_load (l : Launch) (g : Gp) (v1 : Int) (v2 : Int) (M : Mm) (Q : Mm → Prop) (h : wX2_load v1 v2 M Q) : Ct l g yX2_load cX2_load 4 none 5 0 0 [aR 83, aI v1, aI v2] (NC, RF, M) (QV Q) :=
  ct_of (by decide) (Nat.le_of_ble_eq_true rfl) (fun Γ hg hl hr _ hΓ => by subst hg; subst hl; exact s_wX2_load hΓ (by decide) hr v1 v2 M h)
def wJ6_bitCount_0f7a4 (v0 : Int) (M : Mm) (Q : Int → Mm → Prop) : Prop :=
    Q (landI (((landI (((landI (v0 - (landI (ushrI v0 1) 1431655765)) 858993459) + (landI (ushrI (v0 - (landI (ushrI v0 1) 1431655765)) 2) 858993459)) + (ushrI ((landI (v0 - (landI (ushrI v0 1) 1431655765)) 858993459) + (landI (ushrI (v0 - (landI (ushrI v0 1) 1431655765)) 2) 858993459)) 4)) 252645135) + (ushrI (landI (((landI (v0 - (landI (ushrI v0 1) 1431655765)) 858993459) + (landI (ushrI (v0 - (landI (ushrI v0 1) 1431655765)) 2) 858993459)) + (ushrI ((landI (v0 - (landI (ushrI v0 1) 1431655765)) 858993459) + (landI (ushrI (v0 - (landI (ushrI v0 1) 1431655765)) 2) 858993459)) 4)) 252645135) 8)) + (ushrI ((landI (((landI (v0 - (landI (ushrI v0 1) 1431655765)) 858993459) + (landI (ushrI (v0 - (landI (ushrI v0 1) 1431655765)) 2) 858993459)) + (ushrI ((landI (v0 - (landI (ushrI v0 1) 1431655765)) 858993459) + (landI (ushrI (v0 - (landI (ushrI v0 1) 1431655765)) 2) 858993459)) 4)) 252645135) + (ushrI (landI (((landI (v0 - (landI (ushrI v0 1) 1431655765)) 858993459) + (landI (ushrI (v0 - (landI (ushrI v0 1) 1431655765)) 2) 858993459)) + (ushrI ((landI (v0 - (landI (ushrI v0 1) 1431655765)) 858993459) + (landI (ushrI (v0 - (landI (ushrI v0 1) 1431655765)) 2) 858993459)) 4)) 252645135) 8)) 16)) 63) M
set_option maxHeartbeats 4000000 in
theorem s_wJ6_bitCount_0f7a4 {Γ : Cx} {h : Nat} (hΓ : Ok Γ cJ6_bitCount_0f7a4 RJ6 1 h 0 0) (hh : 1 ≤ h) (hr : (cxm Γ).sig.returnType = (some .int)) {Q : Int → Mm → Prop} (v0 : Int) (M : Mm) (h : wJ6_bitCount_0f7a4 v0 M Q) : Wa Γ 1 (Kf Γ (QI Q) 0 0) 0 0 0 [(0, aI v0)] [] (NC, RF, M) := by
  unfold wJ6_bitCount_0f7a4 at h
  refine a_iload_n hΓ 0 dJ6_bitCount_0f7a4_0 rfl rfl ?_
  refine a_iload_n hΓ 0 dJ6_bitCount_0f7a4_1 rfl rfl ?_
  refine a_iconst hΓ dJ6_bitCount_0f7a4_2 ?_
  refine a_iushr hΓ dJ6_bitCount_0f7a4_3 ?_
  refine a_ldc_w hΓ gc_RJ6_265 dJ6_bitCount_0f7a4_4 ?_
  refine a_iand hΓ dJ6_bitCount_0f7a4_7 ?_
  refine a_isub hΓ dJ6_bitCount_0f7a4_8 ?_
  refine a_istore_n (ls' := [(0, aI (v0 - (landI (ushrI v0 1) 1431655765)))]) hΓ dJ6_bitCount_0f7a4_9 rfl (by decide) rfl ?_
  refine a_iload_n hΓ 0 dJ6_bitCount_0f7a4_10 rfl rfl ?_
  refine a_ldc_w hΓ gc_RJ6_266 dJ6_bitCount_0f7a4_11 ?_
  refine a_iand hΓ dJ6_bitCount_0f7a4_14 ?_
  refine a_iload_n hΓ 0 dJ6_bitCount_0f7a4_15 rfl rfl ?_
  refine a_iconst hΓ dJ6_bitCount_0f7a4_16 ?_
  refine a_iushr hΓ dJ6_bitCount_0f7a4_17 ?_
  refine a_ldc_w hΓ gc_RJ6_266 dJ6_bitCount_0f7a4_18 ?_
  refine a_iand hΓ dJ6_bitCount_0f7a4_21 ?_
  refine a_iadd hΓ dJ6_bitCount_0f7a4_22 ?_
  refine a_istore_n (ls' := [(0, aI ((landI (v0 - (landI (ushrI v0 1) 1431655765)) 858993459) + (landI (ushrI (v0 - (landI (ushrI v0 1) 1431655765)) 2) 858993459)))]) hΓ dJ6_bitCount_0f7a4_23 rfl (by decide) rfl ?_
  refine a_iload_n hΓ 0 dJ6_bitCount_0f7a4_24 rfl rfl ?_
  refine a_iload_n hΓ 0 dJ6_bitCount_0f7a4_25 rfl rfl ?_
  refine a_iconst hΓ dJ6_bitCount_0f7a4_26 ?_
  refine a_iushr hΓ dJ6_bitCount_0f7a4_27 ?_
  refine a_iadd hΓ dJ6_bitCount_0f7a4_28 ?_
  refine a_ldc_w hΓ gc_RJ6_267 dJ6_bitCount_0f7a4_29 ?_
  refine a_iand hΓ dJ6_bitCount_0f7a4_32 ?_
  refine a_istore_n (ls' := [(0, aI (landI (((landI (v0 - (landI (ushrI v0 1) 1431655765)) 858993459) + (landI (ushrI (v0 - (landI (ushrI v0 1) 1431655765)) 2) 858993459)) + (ushrI ((landI (v0 - (landI (ushrI v0 1) 1431655765)) 858993459) + (landI (ushrI (v0 - (landI (ushrI v0 1) 1431655765)) 2) 858993459)) 4)) 252645135))]) hΓ dJ6_bitCount_0f7a4_33 rfl (by decide) rfl ?_
  refine a_iload_n hΓ 0 dJ6_bitCount_0f7a4_34 rfl rfl ?_
  refine a_iload_n hΓ 0 dJ6_bitCount_0f7a4_35 rfl rfl ?_
  refine a_bipush hΓ dJ6_bitCount_0f7a4_36 (by decide) ?_
  refine a_iushr hΓ dJ6_bitCount_0f7a4_38 ?_
  refine a_iadd hΓ dJ6_bitCount_0f7a4_39 ?_
  refine a_istore_n (ls' := [(0, aI ((landI (((landI (v0 - (landI (ushrI v0 1) 1431655765)) 858993459) + (landI (ushrI (v0 - (landI (ushrI v0 1) 1431655765)) 2) 858993459)) + (ushrI ((landI (v0 - (landI (ushrI v0 1) 1431655765)) 858993459) + (landI (ushrI (v0 - (landI (ushrI v0 1) 1431655765)) 2) 858993459)) 4)) 252645135) + (ushrI (landI (((landI (v0 - (landI (ushrI v0 1) 1431655765)) 858993459) + (landI (ushrI (v0 - (landI (ushrI v0 1) 1431655765)) 2) 858993459)) + (ushrI ((landI (v0 - (landI (ushrI v0 1) 1431655765)) 858993459) + (landI (ushrI (v0 - (landI (ushrI v0 1) 1431655765)) 2) 858993459)) 4)) 252645135) 8)))]) hΓ dJ6_bitCount_0f7a4_40 rfl (by decide) rfl ?_
  refine a_iload_n hΓ 0 dJ6_bitCount_0f7a4_41 rfl rfl ?_
  refine a_iload_n hΓ 0 dJ6_bitCount_0f7a4_42 rfl rfl ?_
  refine a_bipush hΓ dJ6_bitCount_0f7a4_43 (by decide) ?_
  refine a_iushr hΓ dJ6_bitCount_0f7a4_45 ?_
  refine a_iadd hΓ dJ6_bitCount_0f7a4_46 ?_
  refine a_istore_n (ls' := [(0, aI (((landI (((landI (v0 - (landI (ushrI v0 1) 1431655765)) 858993459) + (landI (ushrI (v0 - (landI (ushrI v0 1) 1431655765)) 2) 858993459)) + (ushrI ((landI (v0 - (landI (ushrI v0 1) 1431655765)) 858993459) + (landI (ushrI (v0 - (landI (ushrI v0 1) 1431655765)) 2) 858993459)) 4)) 252645135) + (ushrI (landI (((landI (v0 - (landI (ushrI v0 1) 1431655765)) 858993459) + (landI (ushrI (v0 - (landI (ushrI v0 1) 1431655765)) 2) 858993459)) + (ushrI ((landI (v0 - (landI (ushrI v0 1) 1431655765)) 858993459) + (landI (ushrI (v0 - (landI (ushrI v0 1) 1431655765)) 2) 858993459)) 4)) 252645135) 8)) + (ushrI ((landI (((landI (v0 - (landI (ushrI v0 1) 1431655765)) 858993459) + (landI (ushrI (v0 - (landI (ushrI v0 1) 1431655765)) 2) 858993459)) + (ushrI ((landI (v0 - (landI (ushrI v0 1) 1431655765)) 858993459) + (landI (ushrI (v0 - (landI (ushrI v0 1) 1431655765)) 2) 858993459)) 4)) 252645135) + (ushrI (landI (((landI (v0 - (landI (ushrI v0 1) 1431655765)) 858993459) + (landI (ushrI (v0 - (landI (ushrI v0 1) 1431655765)) 2) 858993459)) + (ushrI ((landI (v0 - (landI (ushrI v0 1) 1431655765)) 858993459) + (landI (ushrI (v0 - (landI (ushrI v0 1) 1431655765)) 2) 858993459)) 4)) 252645135) 8)) 16)))]) hΓ dJ6_bitCount_0f7a4_47 rfl (by decide) rfl ?_
  refine a_iload_n hΓ 0 dJ6_bitCount_0f7a4_48 rfl rfl ?_
  refine a_bipush hΓ dJ6_bitCount_0f7a4_49 (by decide) ?_
  refine a_iand hΓ dJ6_bitCount_0f7a4_51 ?_
  exact a_iret hΓ hr dJ6_bitCount_0f7a4_52 ⟨_, _, rfl, rfl, h⟩
theorem ct_wJ6_bitCount_0f7a4 (l : Launch) (g : Gp) (v0 : Int) (M : Mm) (Q : Int → Mm → Prop) (h : wJ6_bitCount_0f7a4 v0 M Q) : Ct l g yJ6_bitCount_0f7a4 cJ6_bitCount_0f7a4 1 (some .int) 1 0 0 [aI v0] (NC, RF, M) (QI Q) :=
  ct_ofF (by decide +kernel) (Nat.le_of_ble_eq_true rfl) (fun Γ hg hl hr _ hΓ => by subst hg; subst hl; exact s_wJ6_bitCount_0f7a4 hΓ (by decide) hr v0 M h)
def wX2_pairs_4 (Q : Int → Mm → Prop) : Nat → Int → Int → Mm → Prop
  | 0, _, _, _ => False
  | f + 1, v1, v2, M => (inR v2) ∧
    (if v2 < 24 then
      (0 ≤ v2 ∧ v2 < 24) ∧
      Bd (wJ6_bitCount_0f7a4 (shrI (M 84 v2) v2) M) (fun r6 M7 =>
      (wX2_pairs_4 Q f) (v1 + r6) (v2 + 1) M7)
    else
      Q v1 M)
set_option maxHeartbeats 4000000 in
theorem s_wX2_pairs_4 {Γ : Cx} {h : Nat} (hΓ : Ok Γ cX2_pairs RX2 3 h 0 0) (hh : 2 ≤ h) (hr : (cxm Γ).sig.returnType = (some .int)) {Q : Int → Mm → Prop}   : ∀ (f : Nat) (v1 : Int) (v2 : Int) (M : Mm), wX2_pairs_4 Q  f v1 v2 M → Wa Γ 3 (Kf Γ (QI Q) 0 0) 0 0 4 [(0, aR 83), (1, aI v1), (2, aI v2)] [] (NC, RF, M) := by
  intro f
  induction f with
  | zero => intro v1 v2 M h; exact h.elim
  | succ f ih =>
    intro v1 v2 M h
    unfold wX2_pairs_4 at h
    refine a_iload_n hΓ 2 dX2_pairs_4 rfl rfl ?_
    refine a_bipush hΓ dX2_pairs_5 (by decide) ?_
    obtain ⟨g1, h⟩ := h
    refine a_icmp_ge (tgt := 30) hΓ g1 (inRl (by decide)) dX2_pairs_7 (by decide) (fun c2 => ?_) (fun c2 => ?_)
    · rw [if_pos c2] at h
      refine a_iload_n hΓ 1 dX2_pairs_10 rfl rfl ?_
      refine a_aload_n hΓ 0 dX2_pairs_11 rfl rfl ?_
      refine n_getR hΓ fl_RX2_9 cl_2 kd_83 lz_83 dX2_pairs_12 ft_2_2 rf_83_2 ?_
      refine a_iload_n hΓ 2 dX2_pairs_15 rfl rfl ?_
      obtain ⟨g3, h⟩ := h
      refine n_iald (x := (M 84 v2)) hΓ dX2_pairs_16 kd_84 lz_84 g3 rfl ?_
      refine a_iload_n hΓ 2 dX2_pairs_17 rfl rfl ?_
      refine a_ishr hΓ dX2_pairs_18 ?_
      obtain ⟨P4, q5, h⟩ := h
      refine n_callS (av := [aI (shrI (M 84 v2) v2)]) (st := [aI v1]) hΓ (ct_wJ6_bitCount_0f7a4 _ _ (shrI (M 84 v2) v2) M P4 q5) my_J6_bitCount_0f7a4 ml_RX2_74 rfl (Nat.le_trans (by decide) hh) (by decide) (Nat.le_of_ble_eq_true rfl) rfl dX2_pairs_19 (fun v Z' hq => ?_)
      obtain ⟨r6, M7, rfl, rfl, hq⟩ := hq
      have h := h r6 M7 hq
      dsimp only at h
      refine a_iadd hΓ dX2_pairs_22 ?_
      refine a_istore_n (ls' := [(1, aI (v1 + r6)), (0, aR 83), (2, aI v2)]) hΓ dX2_pairs_23 rfl (by decide) rfl ?_
      refine a_iinc (ls' := [(2, aI (v2 + 1)), (1, aI (v1 + r6)), (0, aR 83)]) hΓ 2 dX2_pairs_24 rfl (by decide) rfl ?_
      refine a_goto (tgt := 4) hΓ dX2_pairs_27 (by decide) ?_
      refine a_sub (ls' := [(0, aR 83), (1, aI (v1 + r6)), (2, aI (v2 + 1))]) [2, 1, 0] rfl ?_
      exact ih (v1 + r6) (v2 + 1) M7 h
    · rw [if_neg c2] at h
      refine a_iload_n hΓ 1 dX2_pairs_30 rfl rfl ?_
      exact a_iret hΓ hr dX2_pairs_31 ⟨_, _, rfl, rfl, h⟩
def wX2_pairs  (M : Mm) (Q : Int → Mm → Prop) : Prop :=
    ∃ n, wX2_pairs_4 Q n 0 0 M
set_option maxHeartbeats 4000000 in
theorem s_wX2_pairs {Γ : Cx} {h : Nat} (hΓ : Ok Γ cX2_pairs RX2 3 h 0 0) (hh : 2 ≤ h) (hr : (cxm Γ).sig.returnType = (some .int)) {Q : Int → Mm → Prop}  (M : Mm) (h : wX2_pairs  M Q) : Wa Γ 3 (Kf Γ (QI Q) 0 0) 0 0 0 [(0, aR 83)] [] (NC, RF, M) := by
  unfold wX2_pairs at h
  refine a_iconst hΓ dX2_pairs_0 ?_
  refine a_istore_n (ls' := [(1, aI 0), (0, aR 83)]) hΓ dX2_pairs_1 rfl (by decide) rfl ?_
  refine a_iconst hΓ dX2_pairs_2 ?_
  refine a_istore_n (ls' := [(2, aI 0), (1, aI 0), (0, aR 83)]) hΓ dX2_pairs_3 rfl (by decide) rfl ?_
  refine a_sub (ls' := [(0, aR 83), (1, aI 0), (2, aI 0)]) [2, 1, 0] rfl ?_
  obtain ⟨f1, h⟩ := h
  exact s_wX2_pairs_4 hΓ (Nat.le_trans (by decide) hh) hr  f1 0 0 M h
theorem ct_wX2_pairs (l : Launch) (g : Gp)  (M : Mm) (Q : Int → Mm → Prop) (h : wX2_pairs  M Q) : Ct l g yX2_pairs cX2_pairs 3 (some .int) 2 0 0 [aR 83] (NC, RF, M) (QI Q) :=
  ct_of (by decide) (Nat.le_of_ble_eq_true rfl) (fun Γ hg hl hr _ hΓ => by subst hg; subst hl; exact s_wX2_pairs hΓ (by decide) hr  M h)
def wX2_pairAt_40 (Q : Int → Mm → Prop) (v3 : Int) (v4 : Int) (M : Mm) : Prop :=
    Q ((v3 * 24) + v4) M
set_option maxHeartbeats 4000000 in
theorem s_wX2_pairAt_40 {Γ : Cx} {h : Nat} (hΓ : Ok Γ cX2_pairAt RX2 5 h 0 0) (hh : 1 ≤ h) (hr : (cxm Γ).sig.returnType = (some .int)) {Q : Int → Mm → Prop} {v3 v4 : Int}   (M : Mm) (h : wX2_pairAt_40 Q v3 v4 M) : Wa Γ 5 (Kf Γ (QI Q) 0 0) 0 0 40 [(3, aI v3), (4, aI v4)] [] (NC, RF, M) := by
  unfold wX2_pairAt_40 at h
  refine a_iload_n hΓ 0 dX2_pairAt_40 rfl rfl ?_
  refine a_bipush hΓ dX2_pairAt_41 (by decide) ?_
  refine a_imul hΓ dX2_pairAt_43 ?_
  refine a_iload hΓ 1 dX2_pairAt_44 rfl ?_
  refine a_iadd hΓ dX2_pairAt_46 ?_
  exact a_iret hΓ hr dX2_pairAt_47 ⟨_, _, rfl, rfl, h⟩
def wX2_pairAt_13 (Q : Int → Mm → Prop) (k4 : Int → Int → Mm → Prop) (v1 : Int) (v3 : Int) : Nat → Int → Int → Mm → Prop
  | 0, _, _, _ => False
  | f + 1, v2, v4, M => (inR v4) ∧
    (if v4 < 24 then
      (0 ≤ v3 ∧ v3 < 24) ∧
      (if (landI (shrI (M 84 v3) v4) 1) = 1 then
        (inR v2) ∧
        (inR v1) ∧
        (if v2 = v1 then
          wX2_pairAt_40 Q v3 v4 M
        else
          (wX2_pairAt_13 Q k4 v1 v3 f) (v2 + 1) (v4 + 1) M)
      else
        (wX2_pairAt_13 Q k4 v1 v3 f) v2 (v4 + 1) M)
    else
      k4 v2 (v3 + 1) M)
set_option maxHeartbeats 4000000 in
theorem s_wX2_pairAt_13 {Γ : Cx} {h : Nat} (hΓ : Ok Γ cX2_pairAt RX2 5 h 0 0) (hh : 1 ≤ h) (hr : (cxm Γ).sig.returnType = (some .int)) {Q : Int → Mm → Prop} {v1 v3 : Int}  {k4 : Int → Int → Mm → Prop} (hk4 : ∀ (v2 : Int) (v3 : Int) (M : Mm), k4 v2 v3 M → Wa Γ 5 (Kf Γ (QI Q) 0 0) 0 0 4 [(0, aR 83), (1, aI v1), (2, aI v2), (3, aI v3)] [] (NC, RF, M)) : ∀ (f : Nat) (v2 : Int) (v4 : Int) (M : Mm), wX2_pairAt_13 Q k4 v1 v3 f v2 v4 M → Wa Γ 5 (Kf Γ (QI Q) 0 0) 0 0 13 [(0, aR 83), (1, aI v1), (2, aI v2), (3, aI v3), (4, aI v4)] [] (NC, RF, M) := by
  intro f
  induction f with
  | zero => intro v2 v4 M h; exact h.elim
  | succ f ih =>
    intro v2 v4 M h
    unfold wX2_pairAt_13 at h
    refine a_iload hΓ 4 dX2_pairAt_13 rfl ?_
    refine a_bipush hΓ dX2_pairAt_15 (by decide) ?_
    obtain ⟨g1, h⟩ := h
    refine a_icmp_ge (tgt := 57) hΓ g1 (inRl (by decide)) dX2_pairAt_17 (by decide) (fun c2 => ?_) (fun c2 => ?_)
    · rw [if_pos c2] at h
      refine a_aload_n hΓ 0 dX2_pairAt_20 rfl rfl ?_
      refine n_getR hΓ fl_RX2_9 cl_2 kd_83 lz_83 dX2_pairAt_21 ft_2_2 rf_83_2 ?_
      refine a_iload_n hΓ 3 dX2_pairAt_24 rfl rfl ?_
      obtain ⟨g3, h⟩ := h
      refine n_iald (x := (M 84 v3)) hΓ dX2_pairAt_25 kd_84 lz_84 g3 rfl ?_
      refine a_iload hΓ 4 dX2_pairAt_26 rfl ?_
      refine a_ishr hΓ dX2_pairAt_28 ?_
      refine a_iconst hΓ dX2_pairAt_29 ?_
      refine a_iand hΓ dX2_pairAt_30 ?_
      refine a_iconst hΓ dX2_pairAt_31 ?_
      refine a_icmp_ne (tgt := 51) hΓ (inR_land _ _) (inRl (by decide)) dX2_pairAt_32 (by decide) (fun c4 => ?_) (fun c4 => ?_)
      · rw [if_pos c4] at h
        refine a_iload_n hΓ 2 dX2_pairAt_35 rfl rfl ?_
        refine a_iload_n hΓ 1 dX2_pairAt_36 rfl rfl ?_
        obtain ⟨g5, h⟩ := h
        obtain ⟨g6, h⟩ := h
        refine a_icmp_ne (tgt := 48) hΓ g5 g6 dX2_pairAt_37 (by decide) (fun c7 => ?_) (fun c7 => ?_)
        · rw [if_pos c7] at h
          refine a_sub (ls' := [(3, aI v3), (4, aI v4)]) [3, 4] rfl ?_
          exact s_wX2_pairAt_40 hΓ (Nat.le_trans (by decide) hh) hr  M h
        · rw [if_neg c7] at h
          refine a_iinc (ls' := [(2, aI (v2 + 1)), (0, aR 83), (1, aI v1), (3, aI v3), (4, aI v4)]) hΓ 2 dX2_pairAt_48 rfl (by decide) rfl ?_
          refine a_iinc (ls' := [(4, aI (v4 + 1)), (2, aI (v2 + 1)), (0, aR 83), (1, aI v1), (3, aI v3)]) hΓ 4 dX2_pairAt_51 rfl (by decide) rfl ?_
          refine a_goto (tgt := 13) hΓ dX2_pairAt_54 (by decide) ?_
          refine a_sub (ls' := [(0, aR 83), (1, aI v1), (2, aI (v2 + 1)), (3, aI v3), (4, aI (v4 + 1))]) [2, 3, 1, 4, 0] rfl ?_
          exact ih (v2 + 1) (v4 + 1) M h
      · rw [if_neg c4] at h
        refine a_iinc (ls' := [(4, aI (v4 + 1)), (0, aR 83), (1, aI v1), (2, aI v2), (3, aI v3)]) hΓ 4 dX2_pairAt_51 rfl (by decide) rfl ?_
        refine a_goto (tgt := 13) hΓ dX2_pairAt_54 (by decide) ?_
        refine a_sub (ls' := [(0, aR 83), (1, aI v1), (2, aI v2), (3, aI v3), (4, aI (v4 + 1))]) [1, 2, 3, 4, 0] rfl ?_
        exact ih v2 (v4 + 1) M h
    · rw [if_neg c2] at h
      refine a_iinc (ls' := [(3, aI (v3 + 1)), (0, aR 83), (1, aI v1), (2, aI v2), (4, aI v4)]) hΓ 3 dX2_pairAt_57 rfl (by decide) rfl ?_
      refine a_goto (tgt := 4) hΓ dX2_pairAt_60 (by decide) ?_
      refine a_sub (ls' := [(0, aR 83), (1, aI v1), (2, aI v2), (3, aI (v3 + 1))]) [1, 2, 3, 0] rfl ?_
      exact hk4 v2 (v3 + 1) M h
def wX2_pairAt_4 (Q : Int → Mm → Prop) (v1 : Int) : Nat → Int → Int → Mm → Prop
  | 0, _, _, _ => False
  | f + 1, v2, v3, M => (inR v3) ∧
    (if v3 < 24 then
      ∃ n, wX2_pairAt_13 Q (wX2_pairAt_4 Q v1 f) v1 v3 n v2 v3 M
    else
      Q (-1) M)
set_option maxHeartbeats 4000000 in
theorem s_wX2_pairAt_4 {Γ : Cx} {h : Nat} (hΓ : Ok Γ cX2_pairAt RX2 5 h 0 0) (hh : 1 ≤ h) (hr : (cxm Γ).sig.returnType = (some .int)) {Q : Int → Mm → Prop} {v1 : Int}   : ∀ (f : Nat) (v2 : Int) (v3 : Int) (M : Mm), wX2_pairAt_4 Q v1 f v2 v3 M → Wa Γ 5 (Kf Γ (QI Q) 0 0) 0 0 4 [(0, aR 83), (1, aI v1), (2, aI v2), (3, aI v3)] [] (NC, RF, M) := by
  intro f
  induction f with
  | zero => intro v2 v3 M h; exact h.elim
  | succ f ih =>
    intro v2 v3 M h
    unfold wX2_pairAt_4 at h
    refine a_iload_n hΓ 3 dX2_pairAt_4 rfl rfl ?_
    refine a_bipush hΓ dX2_pairAt_5 (by decide) ?_
    obtain ⟨g1, h⟩ := h
    refine a_icmp_ge (tgt := 63) hΓ g1 (inRl (by decide)) dX2_pairAt_7 (by decide) (fun c2 => ?_) (fun c2 => ?_)
    · rw [if_pos c2] at h
      refine a_iload_n hΓ 3 dX2_pairAt_10 rfl rfl ?_
      refine a_istore (ls' := [(4, aI v3), (0, aR 83), (1, aI v1), (2, aI v2), (3, aI v3)]) hΓ dX2_pairAt_11 (by decide) rfl ?_
      refine a_sub (ls' := [(0, aR 83), (1, aI v1), (2, aI v2), (3, aI v3), (4, aI v3)]) [1, 2, 3, 4, 0] rfl ?_
      obtain ⟨f3, h⟩ := h
      exact s_wX2_pairAt_13 hΓ (Nat.le_trans (by decide) hh) hr ih f3 v2 v3 M h
    · rw [if_neg c2] at h
      refine a_iconst hΓ dX2_pairAt_63 ?_
      exact a_iret hΓ hr dX2_pairAt_64 ⟨_, _, rfl, rfl, h⟩
def wX2_pairAt (v1 : Int) (M : Mm) (Q : Int → Mm → Prop) : Prop :=
    ∃ n, wX2_pairAt_4 Q v1 n 0 0 M
set_option maxHeartbeats 4000000 in
theorem s_wX2_pairAt {Γ : Cx} {h : Nat} (hΓ : Ok Γ cX2_pairAt RX2 5 h 0 0) (hh : 1 ≤ h) (hr : (cxm Γ).sig.returnType = (some .int)) {Q : Int → Mm → Prop} (v1 : Int) (M : Mm) (h : wX2_pairAt v1 M Q) : Wa Γ 5 (Kf Γ (QI Q) 0 0) 0 0 0 [(0, aR 83), (1, aI v1)] [] (NC, RF, M) := by
  unfold wX2_pairAt at h
  refine a_iconst hΓ dX2_pairAt_0 ?_
  refine a_istore_n (ls' := [(2, aI 0), (0, aR 83), (1, aI v1)]) hΓ dX2_pairAt_1 rfl (by decide) rfl ?_
  refine a_iconst hΓ dX2_pairAt_2 ?_
  refine a_istore_n (ls' := [(3, aI 0), (2, aI 0), (0, aR 83), (1, aI v1)]) hΓ dX2_pairAt_3 rfl (by decide) rfl ?_
  refine a_sub (ls' := [(0, aR 83), (1, aI v1), (2, aI 0), (3, aI 0)]) [2, 3, 1, 0] rfl ?_
  obtain ⟨f1, h⟩ := h
  exact s_wX2_pairAt_4 hΓ (Nat.le_trans (by decide) hh) hr  f1 0 0 M h
theorem ct_wX2_pairAt (l : Launch) (g : Gp) (v1 : Int) (M : Mm) (Q : Int → Mm → Prop) (h : wX2_pairAt v1 M Q) : Ct l g yX2_pairAt cX2_pairAt 5 (some .int) 1 0 0 [aR 83, aI v1] (NC, RF, M) (QI Q) :=
  ct_of (by decide) (Nat.le_of_ble_eq_true rfl) (fun Γ hg hl hr _ hΓ => by subst hg; subst hl; exact s_wX2_pairAt hΓ (by decide) hr v1 M h)
def wX11_quarrels (v1 : Int) (v2 : Int) (v3 : Int) (M : Mm) (Q : Int → Mm → Prop) : Prop :=
    Bd (wX11_isShip v1 M) (fun r3 M4 =>
    (inR r3) ∧
    (if r3 = 0 then
      Q (-1) M4
    else
      Bd (wX11_isDay v2 M4) (fun r9 M10 =>
      (inR r9) ∧
      (if r9 = 0 then
        Q (-1) M10
      else
        (inR v3) ∧
        (if v3 < (-1) then
          Q (-1) M10
        else
          Bv (wX2_load v1 v2 M10) (fun M18 =>
          (if v3 = (-1) then
            Bd (wX2_pairs M18) (fun r22 M23 =>
            Q r22 M23)
          else
            Bd (wX2_pairAt v3 M18) (fun r26 M27 =>
            Q r26 M27))))))))
set_option maxHeartbeats 4000000 in
theorem s_wX11_quarrels {Γ : Cx} {h : Nat} (hΓ : Ok Γ cX11_quarrels RX11 4 h 0 0) (hh : 6 ≤ h) (hr : (cxm Γ).sig.returnType = (some .int)) {Q : Int → Mm → Prop} (v1 : Int) (v2 : Int) (v3 : Int) (M : Mm) (h : wX11_quarrels v1 v2 v3 M Q) : Wa Γ 4 (Kf Γ (QI Q) 0 0) 0 0 0 [(0, aR 0), (1, aI v1), (2, aI v2), (3, aI v3)] [] (NC, RF, M) := by
  unfold wX11_quarrels at h
  refine a_aload_n hΓ 0 dX11_quarrels_0 rfl rfl ?_
  refine a_iload_n hΓ 1 dX11_quarrels_1 rfl rfl ?_
  obtain ⟨P1, q2, h⟩ := h
  refine n_callV (c := 0) (av := [aI v1]) (st := []) hΓ (ct_wX11_isShip _ _ v1 M P1 q2) my_X11_isShip ml_RX11_106 ni_X11_isShip kd_0 rfl lz_0 rfl (Nat.le_trans (by decide) hh) (by decide) (Nat.le_of_ble_eq_true rfl) rfl dX11_quarrels_2 (fun v Z' hq => ?_)
  obtain ⟨r3, M4, rfl, rfl, hq⟩ := hq
  have h := h r3 M4 hq
  dsimp only at h
  obtain ⟨g5, h⟩ := h
  refine a_if_eq (tgt := 20) hΓ g5 dX11_quarrels_5 (by decide) (fun c6 => ?_) (fun c6 => ?_)
  · rw [if_pos c6] at h
    refine a_iconst hΓ dX11_quarrels_20 ?_
    exact a_iret hΓ hr dX11_quarrels_21 ⟨_, _, rfl, rfl, h⟩
  · rw [if_neg c6] at h
    refine a_iload_n hΓ 2 dX11_quarrels_8 rfl rfl ?_
    obtain ⟨P7, q8, h⟩ := h
    refine n_callS (av := [aI v2]) (st := []) hΓ (ct_wX11_isDay _ _ v2 M4 P7 q8) my_X11_isDay ml_RX11_102 rfl (Nat.le_trans (by decide) hh) (by decide) (Nat.le_of_ble_eq_true rfl) rfl dX11_quarrels_9 (fun v Z' hq => ?_)
    obtain ⟨r9, M10, rfl, rfl, hq⟩ := hq
    have h := h r9 M10 hq
    dsimp only at h
    obtain ⟨g11, h⟩ := h
    refine a_if_eq (tgt := 20) hΓ g11 dX11_quarrels_12 (by decide) (fun c12 => ?_) (fun c12 => ?_)
    · rw [if_pos c12] at h
      refine a_iconst hΓ dX11_quarrels_20 ?_
      exact a_iret hΓ hr dX11_quarrels_21 ⟨_, _, rfl, rfl, h⟩
    · rw [if_neg c12] at h
      refine a_iload_n hΓ 3 dX11_quarrels_15 rfl rfl ?_
      refine a_iconst hΓ dX11_quarrels_16 ?_
      obtain ⟨g13, h⟩ := h
      refine a_icmp_ge (tgt := 22) hΓ g13 (inRl (by decide)) dX11_quarrels_17 (by decide) (fun c14 => ?_) (fun c14 => ?_)
      · rw [if_pos c14] at h
        refine a_iconst hΓ dX11_quarrels_20 ?_
        exact a_iret hΓ hr dX11_quarrels_21 ⟨_, _, rfl, rfl, h⟩
      · rw [if_neg c14] at h
        refine a_aload_n hΓ 0 dX11_quarrels_22 rfl rfl ?_
        refine n_getR hΓ fl_RX11_38 cl_11 kd_0 lz_0 dX11_quarrels_23 ft_11_4 rf_0_4 ?_
        refine a_iload_n hΓ 1 dX11_quarrels_26 rfl rfl ?_
        refine a_iload_n hΓ 2 dX11_quarrels_27 rfl rfl ?_
        obtain ⟨P15, q16, h⟩ := h
        refine n_callV (c := 83) (av := [aI v1, aI v2]) (st := []) hΓ (ct_wX2_load _ _ v1 v2 M10 P15 q16) my_X2_load ml_RX11_220 ni_X2_load kd_83 rfl lz_83 rfl (Nat.le_trans (by decide) hh) (by decide) (Nat.le_of_ble_eq_true rfl) rfl dX11_quarrels_28 (fun v Z' hq => ?_)
        obtain ⟨M18, rfl, rfl, hq⟩ := hq
        have h := h M18 hq
        dsimp only at h
        refine a_iload_n hΓ 3 dX11_quarrels_31 rfl rfl ?_
        refine a_iconst hΓ dX11_quarrels_32 ?_
        refine a_icmp_ne (tgt := 46) hΓ g13 (inRl (by decide)) dX11_quarrels_33 (by decide) (fun c19 => ?_) (fun c19 => ?_)
        · rw [if_pos c19] at h
          refine a_aload_n hΓ 0 dX11_quarrels_36 rfl rfl ?_
          refine n_getR hΓ fl_RX11_38 cl_11 kd_0 lz_0 dX11_quarrels_37 ft_11_4 rf_0_4 ?_
          obtain ⟨P20, q21, h⟩ := h
          refine n_callV (c := 83) (av := []) (st := []) hΓ (ct_wX2_pairs _ _  M18 P20 q21) my_X2_pairs ml_RX11_223 ni_X2_pairs kd_83 rfl lz_83 rfl (Nat.le_trans (by decide) hh) (by decide) (Nat.le_of_ble_eq_true rfl) rfl dX11_quarrels_40 (fun v Z' hq => ?_)
          obtain ⟨r22, M23, rfl, rfl, hq⟩ := hq
          have h := h r22 M23 hq
          dsimp only at h
          refine a_goto (tgt := 54) hΓ dX11_quarrels_43 (by decide) ?_
          exact a_iret hΓ hr dX11_quarrels_54 ⟨_, _, rfl, rfl, h⟩
        · rw [if_neg c19] at h
          refine a_aload_n hΓ 0 dX11_quarrels_46 rfl rfl ?_
          refine n_getR hΓ fl_RX11_38 cl_11 kd_0 lz_0 dX11_quarrels_47 ft_11_4 rf_0_4 ?_
          refine a_iload_n hΓ 3 dX11_quarrels_50 rfl rfl ?_
          obtain ⟨P24, q25, h⟩ := h
          refine n_callV (c := 83) (av := [aI v3]) (st := []) hΓ (ct_wX2_pairAt _ _ v3 M18 P24 q25) my_X2_pairAt ml_RX11_227 ni_X2_pairAt kd_83 rfl lz_83 rfl (Nat.le_trans (by decide) hh) (by decide) (Nat.le_of_ble_eq_true rfl) rfl dX11_quarrels_51 (fun v Z' hq => ?_)
          obtain ⟨r26, M27, rfl, rfl, hq⟩ := hq
          have h := h r26 M27 hq
          dsimp only at h
          exact a_iret hΓ hr dX11_quarrels_54 ⟨_, _, rfl, rfl, h⟩
theorem ct_wX11_quarrels (l : Launch) (g : Gp) (v1 : Int) (v2 : Int) (v3 : Int) (M : Mm) (Q : Int → Mm → Prop) (h : wX11_quarrels v1 v2 v3 M Q) : Ct l g yX11_quarrels cX11_quarrels 4 (some .int) 6 0 0 [aR 0, aI v1, aI v2, aI v3] (NC, RF, M) (QI Q) :=
  ct_of (by decide) (Nat.le_of_ble_eq_true rfl) (fun Γ hg hl hr _ hΓ => by subst hg; subst hl; exact s_wX11_quarrels hΓ (by decide) hr v1 v2 v3 M h)
def wX11_isReadable (v1 : Int) (M : Mm) (Q : Int → Mm → Prop) : Prop :=
    Bd (wX11_isLog v1 M) (fun r3 M4 =>
    (inR r3) ∧
    (if r3 = 0 then
      Q 0 M4
    else
      (0 ≤ v1 ∧ v1 < 24) ∧
      Bv (wX6_load (M4 16 v1) M4) (fun M11 =>
      (if (landI (shrI (M11 72 8) v1) 1) = 1 then
        Q 1 M11
      else
        Q 0 M11))))
set_option maxHeartbeats 4000000 in
theorem s_wX11_isReadable {Γ : Cx} {h : Nat} (hΓ : Ok Γ cX11_isReadable RX11 2 h 0 0) (hh : 5 ≤ h) (hr : (cxm Γ).sig.returnType = (some .boolean)) {Q : Int → Mm → Prop} (v1 : Int) (M : Mm) (h : wX11_isReadable v1 M Q) : Wa Γ 2 (Kf Γ (QI Q) 0 0) 0 0 0 [(0, aR 0), (1, aI v1)] [] (NC, RF, M) := by
  unfold wX11_isReadable at h
  refine a_aload_n hΓ 0 dX11_isReadable_0 rfl rfl ?_
  refine a_iload_n hΓ 1 dX11_isReadable_1 rfl rfl ?_
  obtain ⟨P1, q2, h⟩ := h
  refine n_callV (c := 0) (av := [aI v1]) (st := []) hΓ (ct_wX11_isLog _ _ v1 M P1 q2) my_X11_isLog ml_RX11_150 ni_X11_isLog kd_0 rfl lz_0 rfl (Nat.le_trans (by decide) hh) (by decide) (Nat.le_of_ble_eq_true rfl) rfl dX11_isReadable_2 (fun v Z' hq => ?_)
  obtain ⟨r3, M4, rfl, rfl, hq⟩ := hq
  have h := h r3 M4 hq
  dsimp only at h
  obtain ⟨g5, h⟩ := h
  refine a_if_ne (tgt := 10) hΓ g5 dX11_isReadable_5 (by decide) (fun c6 => ?_) (fun c6 => ?_)
  · rw [if_pos c6] at h
    refine a_iconst hΓ dX11_isReadable_8 ?_
    exact a_zret hΓ hr (Or.inl rfl) dX11_isReadable_9 ⟨_, _, rfl, rfl, h⟩
  · rw [if_neg c6] at h
    refine a_aload_n hΓ 0 dX11_isReadable_10 rfl rfl ?_
    refine n_getR hΓ fl_RX11_29 cl_11 kd_0 lz_0 dX11_isReadable_11 ft_11_3 rf_0_3 ?_
    refine a_aload_n hΓ 0 dX11_isReadable_14 rfl rfl ?_
    refine n_getR hΓ fl_RX11_10 cl_11 kd_0 lz_0 dX11_isReadable_15 ft_11_0 rf_0_0 ?_
    refine n_getR hΓ fl_RX11_153 cl_0 kd_1 lz_1 dX11_isReadable_18 ft_0_14 rf_1_14 ?_
    refine n_getR hΓ fl_RX11_157 cl_4 kd_15 lz_15 dX11_isReadable_21 ft_4_1 rf_15_1 ?_
    refine a_iload_n hΓ 1 dX11_isReadable_24 rfl rfl ?_
    obtain ⟨g7, h⟩ := h
    refine n_iald (x := (M4 16 v1)) hΓ dX11_isReadable_25 kd_16 lz_16 g7 rfl ?_
    obtain ⟨P8, q9, h⟩ := h
    refine n_callV (c := 72) (av := [aI (M4 16 v1)]) (st := []) hΓ (ct_wX6_load _ _ (M4 16 v1) M4 P8 q9) my_X6_load ml_RX11_139 ni_X6_load kd_72 rfl lz_72 rfl (Nat.le_trans (by decide) hh) (by decide) (Nat.le_of_ble_eq_true rfl) rfl dX11_isReadable_26 (fun v Z' hq => ?_)
    obtain ⟨M11, rfl, rfl, hq⟩ := hq
    have h := h M11 hq
    dsimp only at h
    refine a_aload_n hΓ 0 dX11_isReadable_29 rfl rfl ?_
    refine n_getR hΓ fl_RX11_29 cl_11 kd_0 lz_0 dX11_isReadable_30 ft_11_3 rf_0_3 ?_
    refine n_getI (x := (M11 72 8)) hΓ fl_RX11_333 cl_6 kd_72 lz_72 dX11_isReadable_33 (Or.inl ft_6_8) rfl ?_
    refine a_iload_n hΓ 1 dX11_isReadable_36 rfl rfl ?_
    refine a_ishr hΓ dX11_isReadable_37 ?_
    refine a_iconst hΓ dX11_isReadable_38 ?_
    refine a_iand hΓ dX11_isReadable_39 ?_
    refine a_iconst hΓ dX11_isReadable_40 ?_
    refine a_icmp_ne (tgt := 48) hΓ (inR_land _ _) (inRl (by decide)) dX11_isReadable_41 (by decide) (fun c12 => ?_) (fun c12 => ?_)
    · rw [if_pos c12] at h
      refine a_iconst hΓ dX11_isReadable_44 ?_
      refine a_goto (tgt := 49) hΓ dX11_isReadable_45 (by decide) ?_
      exact a_zret hΓ hr (Or.inr rfl) dX11_isReadable_49 ⟨_, _, rfl, rfl, h⟩
    · rw [if_neg c12] at h
      refine a_iconst hΓ dX11_isReadable_48 ?_
      exact a_zret hΓ hr (Or.inl rfl) dX11_isReadable_49 ⟨_, _, rfl, rfl, h⟩
theorem ct_wX11_isReadable (l : Launch) (g : Gp) (v1 : Int) (M : Mm) (Q : Int → Mm → Prop) (h : wX11_isReadable v1 M Q) : Ct l g yX11_isReadable cX11_isReadable 2 (some .boolean) 5 0 0 [aR 0, aI v1] (NC, RF, M) (QI Q) :=
  ct_of (by decide) (Nat.le_of_ble_eq_true rfl) (fun Γ hg hl hr _ hΓ => by subst hg; subst hl; exact s_wX11_isReadable hΓ (by decide) hr v1 M h)
def wX11_quarrel (v1 : Int) (v2 : Int) (M : Mm) (Q : Int → Mm → Prop) : Prop :=
    Bd (wX11_isReadable v2 M) (fun r3 M4 =>
    (inR r3) ∧
    (if r3 = 0 then
      Q (-1) M4
    else
      Bd (wX11_isReadable v1 M4) (fun r9 M10 =>
      (inR r9) ∧
      (if r9 = 0 then
        Q (-1) M10
      else
        (0 ≤ v1 ∧ v1 < 24) ∧
        (0 ≤ v2 ∧ v2 < 24) ∧
        (inR (M10 16 v1)) ∧
        (inR (M10 16 v2)) ∧
        (if (M10 16 v1) = (M10 16 v2) then
          Bd (wX6_bind (lorI (shlI 1 v1) (shlI 1 v2)) M10) (fun r20 M21 =>
          (inR r20) ∧
          (if r20 = 0 then
            Q 1 M21
          else
            Q 0 M21))
        else
          Q 0 M10)))))
set_option maxHeartbeats 4000000 in
theorem s_wX11_quarrel {Γ : Cx} {h : Nat} (hΓ : Ok Γ cX11_quarrel RX11 3 h 0 0) (hh : 6 ≤ h) (hr : (cxm Γ).sig.returnType = (some .int)) {Q : Int → Mm → Prop} (v1 : Int) (v2 : Int) (M : Mm) (h : wX11_quarrel v1 v2 M Q) : Wa Γ 3 (Kf Γ (QI Q) 0 0) 0 0 0 [(0, aR 0), (1, aI v1), (2, aI v2)] [] (NC, RF, M) := by
  unfold wX11_quarrel at h
  refine a_aload_n hΓ 0 dX11_quarrel_0 rfl rfl ?_
  refine a_iload_n hΓ 2 dX11_quarrel_1 rfl rfl ?_
  obtain ⟨P1, q2, h⟩ := h
  refine n_callV (c := 0) (av := [aI v2]) (st := []) hΓ (ct_wX11_isReadable _ _ v2 M P1 q2) my_X11_isReadable ml_RX11_230 ni_X11_isReadable kd_0 rfl lz_0 rfl (Nat.le_trans (by decide) hh) (by decide) (Nat.le_of_ble_eq_true rfl) rfl dX11_quarrel_2 (fun v Z' hq => ?_)
  obtain ⟨r3, M4, rfl, rfl, hq⟩ := hq
  have h := h r3 M4 hq
  dsimp only at h
  obtain ⟨g5, h⟩ := h
  refine a_if_eq (tgt := 16) hΓ g5 dX11_quarrel_5 (by decide) (fun c6 => ?_) (fun c6 => ?_)
  · rw [if_pos c6] at h
    refine a_iconst hΓ dX11_quarrel_16 ?_
    exact a_iret hΓ hr dX11_quarrel_17 ⟨_, _, rfl, rfl, h⟩
  · rw [if_neg c6] at h
    refine a_aload_n hΓ 0 dX11_quarrel_8 rfl rfl ?_
    refine a_iload_n hΓ 1 dX11_quarrel_9 rfl rfl ?_
    obtain ⟨P7, q8, h⟩ := h
    refine n_callV (c := 0) (av := [aI v1]) (st := []) hΓ (ct_wX11_isReadable _ _ v1 M4 P7 q8) my_X11_isReadable ml_RX11_230 ni_X11_isReadable kd_0 rfl lz_0 rfl (Nat.le_trans (by decide) hh) (by decide) (Nat.le_of_ble_eq_true rfl) rfl dX11_quarrel_10 (fun v Z' hq => ?_)
    obtain ⟨r9, M10, rfl, rfl, hq⟩ := hq
    have h := h r9 M10 hq
    dsimp only at h
    obtain ⟨g11, h⟩ := h
    refine a_if_ne (tgt := 18) hΓ g11 dX11_quarrel_13 (by decide) (fun c12 => ?_) (fun c12 => ?_)
    · rw [if_pos c12] at h
      refine a_iconst hΓ dX11_quarrel_16 ?_
      exact a_iret hΓ hr dX11_quarrel_17 ⟨_, _, rfl, rfl, h⟩
    · rw [if_neg c12] at h
      refine a_aload_n hΓ 0 dX11_quarrel_18 rfl rfl ?_
      refine n_getR hΓ fl_RX11_10 cl_11 kd_0 lz_0 dX11_quarrel_19 ft_11_0 rf_0_0 ?_
      refine n_getR hΓ fl_RX11_153 cl_0 kd_1 lz_1 dX11_quarrel_22 ft_0_14 rf_1_14 ?_
      refine n_getR hΓ fl_RX11_157 cl_4 kd_15 lz_15 dX11_quarrel_25 ft_4_1 rf_15_1 ?_
      refine a_iload_n hΓ 1 dX11_quarrel_28 rfl rfl ?_
      obtain ⟨g13, h⟩ := h
      refine n_iald (x := (M10 16 v1)) hΓ dX11_quarrel_29 kd_16 lz_16 g13 rfl ?_
      refine a_aload_n hΓ 0 dX11_quarrel_30 rfl rfl ?_
      refine n_getR hΓ fl_RX11_10 cl_11 kd_0 lz_0 dX11_quarrel_31 ft_11_0 rf_0_0 ?_
      refine n_getR hΓ fl_RX11_153 cl_0 kd_1 lz_1 dX11_quarrel_34 ft_0_14 rf_1_14 ?_
      refine n_getR hΓ fl_RX11_157 cl_4 kd_15 lz_15 dX11_quarrel_37 ft_4_1 rf_15_1 ?_
      refine a_iload_n hΓ 2 dX11_quarrel_40 rfl rfl ?_
      obtain ⟨g14, h⟩ := h
      refine n_iald (x := (M10 16 v2)) hΓ dX11_quarrel_41 kd_16 lz_16 g14 rfl ?_
      obtain ⟨g15, h⟩ := h
      obtain ⟨g16, h⟩ := h
      refine a_icmp_eq (tgt := 47) hΓ g15 g16 dX11_quarrel_42 (by decide) (fun c17 => ?_) (fun c17 => ?_)
      · rw [if_pos c17] at h
        refine a_aload_n hΓ 0 dX11_quarrel_47 rfl rfl ?_
        refine n_getR hΓ fl_RX11_29 cl_11 kd_0 lz_0 dX11_quarrel_48 ft_11_3 rf_0_3 ?_
        refine a_iconst hΓ dX11_quarrel_51 ?_
        refine a_iload_n hΓ 1 dX11_quarrel_52 rfl rfl ?_
        refine a_ishl hΓ dX11_quarrel_53 ?_
        refine a_iconst hΓ dX11_quarrel_54 ?_
        refine a_iload_n hΓ 2 dX11_quarrel_55 rfl rfl ?_
        refine a_ishl hΓ dX11_quarrel_56 ?_
        refine a_ior hΓ dX11_quarrel_57 ?_
        obtain ⟨P18, q19, h⟩ := h
        refine n_callV (c := 72) (av := [aI (lorI (shlI 1 v1) (shlI 1 v2))]) (st := []) hΓ (ct_wX6_bind _ _ (lorI (shlI 1 v1) (shlI 1 v2)) M10 P18 q19) my_X6_bind ml_RX11_233 ni_X6_bind kd_72 rfl lz_72 rfl (Nat.le_trans (by decide) hh) (by decide) (Nat.le_of_ble_eq_true rfl) rfl dX11_quarrel_58 (fun v Z' hq => ?_)
        obtain ⟨r20, M21, rfl, rfl, hq⟩ := hq
        have h := h r20 M21 hq
        dsimp only at h
        obtain ⟨g22, h⟩ := h
        refine a_if_eq (tgt := 68) hΓ g22 dX11_quarrel_61 (by decide) (fun c23 => ?_) (fun c23 => ?_)
        · rw [if_pos c23] at h
          refine a_iconst hΓ dX11_quarrel_68 ?_
          exact a_iret hΓ hr dX11_quarrel_69 ⟨_, _, rfl, rfl, h⟩
        · rw [if_neg c23] at h
          refine a_iconst hΓ dX11_quarrel_64 ?_
          refine a_goto (tgt := 69) hΓ dX11_quarrel_65 (by decide) ?_
          exact a_iret hΓ hr dX11_quarrel_69 ⟨_, _, rfl, rfl, h⟩
      · rw [if_neg c17] at h
        refine a_iconst hΓ dX11_quarrel_45 ?_
        exact a_iret hΓ hr dX11_quarrel_46 ⟨_, _, rfl, rfl, h⟩
theorem ct_wX11_quarrel (l : Launch) (g : Gp) (v1 : Int) (v2 : Int) (M : Mm) (Q : Int → Mm → Prop) (h : wX11_quarrel v1 v2 M Q) : Ct l g yX11_quarrel cX11_quarrel 3 (some .int) 6 0 0 [aR 0, aI v1, aI v2] (NC, RF, M) (QI Q) :=
  ct_of (by decide) (Nat.le_of_ble_eq_true rfl) (fun Γ hg hl hr _ hΓ => by subst hg; subst hl; exact s_wX11_quarrel hΓ (by decide) hr v1 v2 M h)
def wX2_groupFrom_9 (Q : Int → Mm → Prop) (v2 : Int) : Nat → Int → Int → Mm → Prop
  | 0, _, _, _ => False
  | f + 1, v3, v4, M => (inR v4) ∧
    (if v4 < 24 then
      (if (landI (shrI v2 v4) 1) = 1 then
        (0 ≤ v4 ∧ v4 < 24) ∧
        (if (landI v3 (lxorI (M 84 v4) (-1))) = 0 then
          (wX2_groupFrom_9 Q v2 f) (lorI v3 (shlI 1 v4)) (v4 + 1) M
        else
          (wX2_groupFrom_9 Q v2 f) v3 (v4 + 1) M)
      else
        (wX2_groupFrom_9 Q v2 f) v3 (v4 + 1) M)
    else
      Q v3 M)
set_option maxHeartbeats 4000000 in
theorem s_wX2_groupFrom_9 {Γ : Cx} {h : Nat} (hΓ : Ok Γ cX2_groupFrom RX2 5 h 0 0) (hh : 1 ≤ h) (hr : (cxm Γ).sig.returnType = (some .int)) {Q : Int → Mm → Prop} {v2 : Int}   : ∀ (f : Nat) (v3 : Int) (v4 : Int) (M : Mm), wX2_groupFrom_9 Q v2 f v3 v4 M → Wa Γ 5 (Kf Γ (QI Q) 0 0) 0 0 9 [(0, aR 83), (2, aI v2), (3, aI v3), (4, aI v4)] [] (NC, RF, M) := by
  intro f
  induction f with
  | zero => intro v3 v4 M h; exact h.elim
  | succ f ih =>
    intro v3 v4 M h
    unfold wX2_groupFrom_9 at h
    refine a_iload hΓ 3 dX2_groupFrom_9 rfl ?_
    refine a_bipush hΓ dX2_groupFrom_11 (by decide) ?_
    obtain ⟨g1, h⟩ := h
    refine a_icmp_ge (tgt := 53) hΓ g1 (inRl (by decide)) dX2_groupFrom_13 (by decide) (fun c2 => ?_) (fun c2 => ?_)
    · rw [if_pos c2] at h
      refine a_iload_n hΓ 1 dX2_groupFrom_16 rfl rfl ?_
      refine a_iload hΓ 3 dX2_groupFrom_17 rfl ?_
      refine a_ishr hΓ dX2_groupFrom_19 ?_
      refine a_iconst hΓ dX2_groupFrom_20 ?_
      refine a_iand hΓ dX2_groupFrom_21 ?_
      refine a_iconst hΓ dX2_groupFrom_22 ?_
      refine a_icmp_ne (tgt := 47) hΓ (inR_land _ _) (inRl (by decide)) dX2_groupFrom_23 (by decide) (fun c3 => ?_) (fun c3 => ?_)
      · rw [if_pos c3] at h
        refine a_iload_n hΓ 2 dX2_groupFrom_26 rfl rfl ?_
        refine a_aload_n hΓ 0 dX2_groupFrom_27 rfl rfl ?_
        refine n_getR hΓ fl_RX2_9 cl_2 kd_83 lz_83 dX2_groupFrom_28 ft_2_2 rf_83_2 ?_
        refine a_iload hΓ 3 dX2_groupFrom_31 rfl ?_
        obtain ⟨g4, h⟩ := h
        refine n_iald (x := (M 84 v4)) hΓ dX2_groupFrom_33 kd_84 lz_84 g4 rfl ?_
        refine a_iconst hΓ dX2_groupFrom_34 ?_
        refine a_ixor hΓ dX2_groupFrom_35 ?_
        refine a_iand hΓ dX2_groupFrom_36 ?_
        refine a_if_ne (tgt := 47) hΓ (inR_land _ _) dX2_groupFrom_37 (by decide) (fun c5 => ?_) (fun c5 => ?_)
        · rw [if_pos c5] at h
          refine a_iload_n hΓ 2 dX2_groupFrom_40 rfl rfl ?_
          refine a_iconst hΓ dX2_groupFrom_41 ?_
          refine a_iload hΓ 3 dX2_groupFrom_42 rfl ?_
          refine a_ishl hΓ dX2_groupFrom_44 ?_
          refine a_ior hΓ dX2_groupFrom_45 ?_
          refine a_istore_n (ls' := [(3, aI (lorI v3 (shlI 1 v4))), (0, aR 83), (2, aI v2), (4, aI v4)]) hΓ dX2_groupFrom_46 rfl (by decide) rfl ?_
          refine a_iinc (ls' := [(4, aI (v4 + 1)), (3, aI (lorI v3 (shlI 1 v4))), (0, aR 83), (2, aI v2)]) hΓ 3 dX2_groupFrom_47 rfl (by decide) rfl ?_
          refine a_goto (tgt := 9) hΓ dX2_groupFrom_50 (by decide) ?_
          refine a_sub (ls' := [(0, aR 83), (2, aI v2), (3, aI (lorI v3 (shlI 1 v4))), (4, aI (v4 + 1))]) [2, 3, 1, 0] rfl ?_
          exact ih (lorI v3 (shlI 1 v4)) (v4 + 1) M h
        · rw [if_neg c5] at h
          refine a_iinc (ls' := [(4, aI (v4 + 1)), (0, aR 83), (2, aI v2), (3, aI v3)]) hΓ 3 dX2_groupFrom_47 rfl (by decide) rfl ?_
          refine a_goto (tgt := 9) hΓ dX2_groupFrom_50 (by decide) ?_
          refine a_sub (ls' := [(0, aR 83), (2, aI v2), (3, aI v3), (4, aI (v4 + 1))]) [1, 2, 3, 0] rfl ?_
          exact ih v3 (v4 + 1) M h
      · rw [if_neg c3] at h
        refine a_iinc (ls' := [(4, aI (v4 + 1)), (0, aR 83), (2, aI v2), (3, aI v3)]) hΓ 3 dX2_groupFrom_47 rfl (by decide) rfl ?_
        refine a_goto (tgt := 9) hΓ dX2_groupFrom_50 (by decide) ?_
        refine a_sub (ls' := [(0, aR 83), (2, aI v2), (3, aI v3), (4, aI (v4 + 1))]) [1, 2, 3, 0] rfl ?_
        exact ih v3 (v4 + 1) M h
    · rw [if_neg c2] at h
      refine a_iload_n hΓ 2 dX2_groupFrom_53 rfl rfl ?_
      exact a_iret hΓ hr dX2_groupFrom_54 ⟨_, _, rfl, rfl, h⟩
def wX2_groupFrom (v1 : Int) (v2 : Int) (M : Mm) (Q : Int → Mm → Prop) : Prop :=
    ∃ n, wX2_groupFrom_9 Q v2 n (shlI 1 v1) (v1 + 1) M
set_option maxHeartbeats 4000000 in
theorem s_wX2_groupFrom {Γ : Cx} {h : Nat} (hΓ : Ok Γ cX2_groupFrom RX2 5 h 0 0) (hh : 1 ≤ h) (hr : (cxm Γ).sig.returnType = (some .int)) {Q : Int → Mm → Prop} (v1 : Int) (v2 : Int) (M : Mm) (h : wX2_groupFrom v1 v2 M Q) : Wa Γ 5 (Kf Γ (QI Q) 0 0) 0 0 0 [(0, aR 83), (1, aI v1), (2, aI v2)] [] (NC, RF, M) := by
  unfold wX2_groupFrom at h
  refine a_iconst hΓ dX2_groupFrom_0 ?_
  refine a_iload_n hΓ 1 dX2_groupFrom_1 rfl rfl ?_
  refine a_ishl hΓ dX2_groupFrom_2 ?_
  refine a_istore_n (ls' := [(3, aI (shlI 1 v1)), (0, aR 83), (1, aI v1), (2, aI v2)]) hΓ dX2_groupFrom_3 rfl (by decide) rfl ?_
  refine a_iload_n hΓ 2 dX2_groupFrom_4 rfl rfl ?_
  refine a_iconst hΓ dX2_groupFrom_5 ?_
  refine a_iadd hΓ dX2_groupFrom_6 ?_
  refine a_istore (ls' := [(4, aI (v1 + 1)), (3, aI (shlI 1 v1)), (0, aR 83), (1, aI v1), (2, aI v2)]) hΓ dX2_groupFrom_7 (by decide) rfl ?_
  refine a_sub (ls' := [(0, aR 83), (2, aI v2), (3, aI (shlI 1 v1)), (4, aI (v1 + 1))]) [2, 4, 1, 0] rfl ?_
  obtain ⟨f1, h⟩ := h
  exact s_wX2_groupFrom_9 hΓ (Nat.le_trans (by decide) hh) hr  f1 (shlI 1 v1) (v1 + 1) M h
theorem ct_wX2_groupFrom (l : Launch) (g : Gp) (v1 : Int) (v2 : Int) (M : Mm) (Q : Int → Mm → Prop) (h : wX2_groupFrom v1 v2 M Q) : Ct l g yX2_groupFrom cX2_groupFrom 5 (some .int) 1 0 0 [aR 83, aI v1, aI v2] (NC, RF, M) (QI Q) :=
  ct_of (by decide) (Nat.le_of_ble_eq_true rfl) (fun Γ hg hl hr _ hΓ => by subst hg; subst hl; exact s_wX2_groupFrom hΓ (by decide) hr v1 v2 M h)
def wX1_keyOf (v1 : Int) (M : Mm) (Q : Int → Mm → Prop) : Prop :=
    (0 ≤ v1 ∧ v1 < 24) ∧
    (inR (M 20 v1)) ∧
    Q (((shlL (M 20 v1) 30) + 16777216) + (shlL 1 (23 - v1))) M
set_option maxHeartbeats 4000000 in
theorem s_wX1_keyOf {Γ : Cx} {h : Nat} (hΓ : Ok Γ cX1_keyOf RX1 2 h 0 0) (hh : 1 ≤ h) (hr : (cxm Γ).sig.returnType = (some .long)) {Q : Int → Mm → Prop} (v1 : Int) (M : Mm) (h : wX1_keyOf v1 M Q) : Wa Γ 2 (Kf Γ (QL Q) 0 0) 0 0 0 [(0, aR 85), (1, aI v1)] [] (NC, RF, M) := by
  unfold wX1_keyOf at h
  refine a_aload_n hΓ 0 dX1_keyOf_0 rfl rfl ?_
  refine n_getR hΓ fl_RX1_9 cl_1 kd_85 lz_85 dX1_keyOf_1 ft_1_0 rf_85_0 ?_
  refine n_getR hΓ fl_RX1_38 cl_2 kd_83 lz_83 dX1_keyOf_4 ft_2_1 rf_83_1 ?_
  refine a_iload_n hΓ 1 dX1_keyOf_7 rfl rfl ?_
  obtain ⟨g1, h⟩ := h
  refine n_iald (x := (M 20 v1)) hΓ dX1_keyOf_8 kd_20 lz_20 g1 rfl ?_
  obtain ⟨g2, h⟩ := h
  refine a_i2l hΓ g2 dX1_keyOf_9 ?_
  refine a_bipush hΓ dX1_keyOf_10 (by decide) ?_
  refine a_lshl hΓ dX1_keyOf_12 ?_
  refine a_ldc2_w hΓ gc_RX1_42 dX1_keyOf_13 ?_
  refine a_ladd hΓ dX1_keyOf_16 ?_
  refine a_lconst (x := 1) hΓ dX1_keyOf_17 rfl ?_
  refine a_bipush hΓ dX1_keyOf_18 (by decide) ?_
  refine a_iload_n hΓ 1 dX1_keyOf_20 rfl rfl ?_
  refine a_isub hΓ dX1_keyOf_21 ?_
  refine a_lshl hΓ dX1_keyOf_22 ?_
  refine a_ladd hΓ dX1_keyOf_23 ?_
  exact a_lret hΓ hr dX1_keyOf_24 ⟨_, _, rfl, rfl, h⟩
theorem ct_wX1_keyOf (l : Launch) (g : Gp) (v1 : Int) (M : Mm) (Q : Int → Mm → Prop) (h : wX1_keyOf v1 M Q) : Ct l g yX1_keyOf cX1_keyOf 2 (some .long) 1 0 0 [aR 85, aI v1] (NC, RF, M) (QL Q) :=
  ct_of (by decide) (Nat.le_of_ble_eq_true rfl) (fun Γ hg hl hr _ hΓ => by subst hg; subst hl; exact s_wX1_keyOf hΓ (by decide) hr v1 M h)
def wJ9_max_f86c9 (v0 : Int) (v2 : Int) (M : Mm) (Q : Int → Mm → Prop) : Prop :=
    (inR64 v0) ∧
    (inR64 v2) ∧
    (if (cmpI v0 v2) < 0 then
      Q v2 M
    else
      Q v0 M)
set_option maxHeartbeats 4000000 in
theorem s_wJ9_max_f86c9 {Γ : Cx} {h : Nat} (hΓ : Ok Γ cJ9_max_f86c9 RJ9 4 h 0 0) (hh : 1 ≤ h) (hr : (cxm Γ).sig.returnType = (some .long)) {Q : Int → Mm → Prop} (v0 : Int) (v2 : Int) (M : Mm) (h : wJ9_max_f86c9 v0 v2 M Q) : Wa Γ 4 (Kf Γ (QL Q) 0 0) 0 0 0 [(0, aL v0), (2, aL v2)] [] (NC, RF, M) := by
  unfold wJ9_max_f86c9 at h
  refine a_lload_n hΓ 0 dJ9_max_f86c9_0 rfl rfl ?_
  refine a_lload_n hΓ 1 dJ9_max_f86c9_1 rfl rfl ?_
  obtain ⟨g1, h⟩ := h
  obtain ⟨g2, h⟩ := h
  refine a_lcmp hΓ g1 g2 dJ9_max_f86c9_2 ?_
  refine a_if_lt (tgt := 10) hΓ (inR_cmp _ _) dJ9_max_f86c9_3 (by decide) (fun c3 => ?_) (fun c3 => ?_)
  · rw [if_pos c3] at h
    refine a_lload_n hΓ 1 dJ9_max_f86c9_10 rfl rfl ?_
    exact a_lret hΓ hr dJ9_max_f86c9_11 ⟨_, _, rfl, rfl, h⟩
  · rw [if_neg c3] at h
    refine a_lload_n hΓ 0 dJ9_max_f86c9_6 rfl rfl ?_
    refine a_goto (tgt := 11) hΓ dJ9_max_f86c9_7 (by decide) ?_
    exact a_lret hΓ hr dJ9_max_f86c9_11 ⟨_, _, rfl, rfl, h⟩
theorem ct_wJ9_max_f86c9 (l : Launch) (g : Gp) (v0 : Int) (v2 : Int) (M : Mm) (Q : Int → Mm → Prop) (h : wJ9_max_f86c9 v0 v2 M Q) : Ct l g yJ9_max_f86c9 cJ9_max_f86c9 4 (some .long) 1 0 0 [aL v0, aL v2] (NC, RF, M) (QL Q) :=
  ct_ofF (by decide +kernel) (Nat.le_of_ble_eq_true rfl) (fun Γ hg hl hr _ hΓ => by subst hg; subst hl; exact s_wJ9_max_f86c9 hΓ (by decide) hr v0 v2 M h)
def wX1_greatestKey_5 (Q : Int → Mm → Prop) (v1 : Int) : Nat → Int → Int → Mm → Prop
  | 0, _, _, _ => False
  | f + 1, v2, v4, M => (inR v4) ∧
    (if v4 < 24 then
      (if (landI (shrI v1 v4) 1) = 1 then
        Bd (wX1_keyOf v4 M) (fun r6 M7 =>
        Bd (wJ9_max_f86c9 v2 r6 M7) (fun r10 M11 =>
        (wX1_greatestKey_5 Q v1 f) r10 (v4 + 1) M11))
      else
        (wX1_greatestKey_5 Q v1 f) v2 (v4 + 1) M)
    else
      Q v2 M)
set_option maxHeartbeats 4000000 in
theorem s_wX1_greatestKey_5 {Γ : Cx} {h : Nat} (hΓ : Ok Γ cX1_greatestKey RX1 5 h 0 0) (hh : 2 ≤ h) (hr : (cxm Γ).sig.returnType = (some .long)) {Q : Int → Mm → Prop} {v1 : Int}   : ∀ (f : Nat) (v2 : Int) (v4 : Int) (M : Mm), wX1_greatestKey_5 Q v1 f v2 v4 M → Wa Γ 5 (Kf Γ (QL Q) 0 0) 0 0 5 [(0, aR 85), (1, aI v1), (2, aL v2), (4, aI v4)] [] (NC, RF, M) := by
  intro f
  induction f with
  | zero => intro v2 v4 M h; exact h.elim
  | succ f ih =>
    intro v2 v4 M h
    unfold wX1_greatestKey_5 at h
    refine a_iload hΓ 3 dX1_greatestKey_5 rfl ?_
    refine a_bipush hΓ dX1_greatestKey_7 (by decide) ?_
    obtain ⟨g1, h⟩ := h
    refine a_icmp_ge (tgt := 39) hΓ g1 (inRl (by decide)) dX1_greatestKey_9 (by decide) (fun c2 => ?_) (fun c2 => ?_)
    · rw [if_pos c2] at h
      refine a_iload_n hΓ 1 dX1_greatestKey_12 rfl rfl ?_
      refine a_iload hΓ 3 dX1_greatestKey_13 rfl ?_
      refine a_ishr hΓ dX1_greatestKey_15 ?_
      refine a_iconst hΓ dX1_greatestKey_16 ?_
      refine a_iand hΓ dX1_greatestKey_17 ?_
      refine a_iconst hΓ dX1_greatestKey_18 ?_
      refine a_icmp_ne (tgt := 33) hΓ (inR_land _ _) (inRl (by decide)) dX1_greatestKey_19 (by decide) (fun c3 => ?_) (fun c3 => ?_)
      · rw [if_pos c3] at h
        refine a_lload_n hΓ 2 dX1_greatestKey_22 rfl rfl ?_
        refine a_aload_n hΓ 0 dX1_greatestKey_23 rfl rfl ?_
        refine a_iload hΓ 3 dX1_greatestKey_24 rfl ?_
        obtain ⟨P4, q5, h⟩ := h
        refine n_callV (c := 85) (av := [aI v4]) (st := [aL v2]) hΓ (ct_wX1_keyOf _ _ v4 M P4 q5) my_X1_keyOf ml_RX1_57 ni_X1_keyOf kd_85 rfl lz_85 rfl (Nat.le_trans (by decide) hh) (by decide) (Nat.le_of_ble_eq_true rfl) rfl dX1_greatestKey_26 (fun v Z' hq => ?_)
        obtain ⟨r6, M7, rfl, rfl, hq⟩ := hq
        have h := h r6 M7 hq
        dsimp only at h
        obtain ⟨P8, q9, h⟩ := h
        refine n_callS (av := [aL v2, aL r6]) (st := []) hΓ (ct_wJ9_max_f86c9 _ _ v2 r6 M7 P8 q9) my_J9_max_f86c9 ml_RX1_67 rfl (Nat.le_trans (by decide) hh) (by decide) (Nat.le_of_ble_eq_true rfl) rfl dX1_greatestKey_29 (fun v Z' hq => ?_)
        obtain ⟨r10, M11, rfl, rfl, hq⟩ := hq
        have h := h r10 M11 hq
        dsimp only at h
        refine a_lstore_n (ls' := [(2, aL r10), (0, aR 85), (1, aI v1), (4, aI v4)]) hΓ dX1_greatestKey_32 rfl (by decide) rfl ?_
        refine a_iinc (ls' := [(4, aI (v4 + 1)), (2, aL r10), (0, aR 85), (1, aI v1)]) hΓ 3 dX1_greatestKey_33 rfl (by decide) rfl ?_
        refine a_goto (tgt := 5) hΓ dX1_greatestKey_36 (by decide) ?_
        refine a_sub (ls' := [(0, aR 85), (1, aI v1), (2, aL r10), (4, aI (v4 + 1))]) [2, 3, 1, 0] rfl ?_
        exact ih r10 (v4 + 1) M11 h
      · rw [if_neg c3] at h
        refine a_iinc (ls' := [(4, aI (v4 + 1)), (0, aR 85), (1, aI v1), (2, aL v2)]) hΓ 3 dX1_greatestKey_33 rfl (by decide) rfl ?_
        refine a_goto (tgt := 5) hΓ dX1_greatestKey_36 (by decide) ?_
        refine a_sub (ls' := [(0, aR 85), (1, aI v1), (2, aL v2), (4, aI (v4 + 1))]) [1, 2, 3, 0] rfl ?_
        exact ih v2 (v4 + 1) M h
    · rw [if_neg c2] at h
      refine a_lload_n hΓ 2 dX1_greatestKey_39 rfl rfl ?_
      exact a_lret hΓ hr dX1_greatestKey_40 ⟨_, _, rfl, rfl, h⟩
def wX1_greatestKey (v1 : Int) (M : Mm) (Q : Int → Mm → Prop) : Prop :=
    ∃ n, wX1_greatestKey_5 Q v1 n 0 0 M
set_option maxHeartbeats 4000000 in
theorem s_wX1_greatestKey {Γ : Cx} {h : Nat} (hΓ : Ok Γ cX1_greatestKey RX1 5 h 0 0) (hh : 2 ≤ h) (hr : (cxm Γ).sig.returnType = (some .long)) {Q : Int → Mm → Prop} (v1 : Int) (M : Mm) (h : wX1_greatestKey v1 M Q) : Wa Γ 5 (Kf Γ (QL Q) 0 0) 0 0 0 [(0, aR 85), (1, aI v1)] [] (NC, RF, M) := by
  unfold wX1_greatestKey at h
  refine a_lconst (x := 0) hΓ dX1_greatestKey_0 rfl ?_
  refine a_lstore_n (ls' := [(2, aL 0), (0, aR 85), (1, aI v1)]) hΓ dX1_greatestKey_1 rfl (by decide) rfl ?_
  refine a_iconst hΓ dX1_greatestKey_2 ?_
  refine a_istore (ls' := [(4, aI 0), (2, aL 0), (0, aR 85), (1, aI v1)]) hΓ dX1_greatestKey_3 (by decide) rfl ?_
  refine a_sub (ls' := [(0, aR 85), (1, aI v1), (2, aL 0), (4, aI 0)]) [2, 3, 1, 0] rfl ?_
  obtain ⟨f1, h⟩ := h
  exact s_wX1_greatestKey_5 hΓ (Nat.le_trans (by decide) hh) hr  f1 0 0 M h
theorem ct_wX1_greatestKey (l : Launch) (g : Gp) (v1 : Int) (M : Mm) (Q : Int → Mm → Prop) (h : wX1_greatestKey v1 M Q) : Ct l g yX1_greatestKey cX1_greatestKey 5 (some .long) 2 0 0 [aR 85, aI v1] (NC, RF, M) (QL Q) :=
  ct_of (by decide) (Nat.le_of_ble_eq_true rfl) (fun Γ hg hl hr _ hΓ => by subst hg; subst hl; exact s_wX1_greatestKey hΓ (by decide) hr v1 M h)
def wX1_bound_7 (Q : Int → Mm → Prop) : Nat → Int → Int → Int → Mm → Prop
  | 0, _, _, _, _ => False
  | f + 1, v2, v3, v5, M => (inR v5) ∧
    (if v5 < 24 then
      (if (landI (shrI v2 v5) 1) = 1 then
        Bd (wX2_groupFrom v5 v2 M) (fun r6 M7 =>
        Bd (wX1_greatestKey r6 M7) (fun r10 M11 =>
        (wX1_bound_7 Q f) (landI v2 (lxorI r6 (-1))) (v3 + r10) (v5 + 1) M11))
      else
        (wX1_bound_7 Q f) v2 v3 (v5 + 1) M)
    else
      Q v3 M)
set_option maxHeartbeats 4000000 in
theorem s_wX1_bound_7 {Γ : Cx} {h : Nat} (hΓ : Ok Γ cX1_bound RX1 7 h 0 0) (hh : 3 ≤ h) (hr : (cxm Γ).sig.returnType = (some .long)) {Q : Int → Mm → Prop}   : ∀ (f : Nat) (v2 : Int) (v3 : Int) (v5 : Int) (M : Mm), wX1_bound_7 Q  f v2 v3 v5 M → Wa Γ 7 (Kf Γ (QL Q) 0 0) 0 0 7 [(0, aR 85), (2, aI v2), (3, aL v3), (5, aI v5)] [] (NC, RF, M) := by
  intro f
  induction f with
  | zero => intro v2 v3 v5 M h; exact h.elim
  | succ f ih =>
    intro v2 v3 v5 M h
    unfold wX1_bound_7 at h
    refine a_iload hΓ 3 dX1_bound_7 rfl ?_
    refine a_bipush hΓ dX1_bound_9 (by decide) ?_
    obtain ⟨g1, h⟩ := h
    refine a_icmp_ge (tgt := 58) hΓ g1 (inRl (by decide)) dX1_bound_11 (by decide) (fun c2 => ?_) (fun c2 => ?_)
    · rw [if_pos c2] at h
      refine a_iload_n hΓ 1 dX1_bound_14 rfl rfl ?_
      refine a_iload hΓ 3 dX1_bound_15 rfl ?_
      refine a_ishr hΓ dX1_bound_17 ?_
      refine a_iconst hΓ dX1_bound_18 ?_
      refine a_iand hΓ dX1_bound_19 ?_
      refine a_iconst hΓ dX1_bound_20 ?_
      refine a_icmp_ne (tgt := 52) hΓ (inR_land _ _) (inRl (by decide)) dX1_bound_21 (by decide) (fun c3 => ?_) (fun c3 => ?_)
      · rw [if_pos c3] at h
        refine a_aload_n hΓ 0 dX1_bound_24 rfl rfl ?_
        refine n_getR hΓ fl_RX1_9 cl_1 kd_85 lz_85 dX1_bound_25 ft_1_0 rf_85_0 ?_
        refine a_iload hΓ 3 dX1_bound_28 rfl ?_
        refine a_iload_n hΓ 1 dX1_bound_30 rfl rfl ?_
        obtain ⟨P4, q5, h⟩ := h
        refine n_callV (c := 83) (av := [aI v5, aI v2]) (st := []) hΓ (ct_wX2_groupFrom _ _ v5 v2 M P4 q5) my_X2_groupFrom ml_RX1_60 ni_X2_groupFrom kd_83 rfl lz_83 rfl (Nat.le_trans (by decide) hh) (by decide) (Nat.le_of_ble_eq_true rfl) rfl dX1_bound_31 (fun v Z' hq => ?_)
        obtain ⟨r6, M7, rfl, rfl, hq⟩ := hq
        have h := h r6 M7 hq
        dsimp only at h
        refine a_istore (ls' := [(6, aI r6), (0, aR 85), (2, aI v2), (3, aL v3), (5, aI v5)]) hΓ dX1_bound_34 (by decide) rfl ?_
        refine a_iload_n hΓ 2 dX1_bound_36 rfl rfl ?_
        refine a_iload hΓ 0 dX1_bound_37 rfl ?_
        refine a_iconst hΓ dX1_bound_39 ?_
        refine a_ixor hΓ dX1_bound_40 ?_
        refine a_iand hΓ dX1_bound_41 ?_
        refine a_istore_n (ls' := [(2, aI (landI v2 (lxorI r6 (-1)))), (6, aI r6), (0, aR 85), (3, aL v3), (5, aI v5)]) hΓ dX1_bound_42 rfl (by decide) rfl ?_
        refine a_lload_n hΓ 3 dX1_bound_43 rfl rfl ?_
        refine a_aload_n hΓ 2 dX1_bound_44 rfl rfl ?_
        refine a_iload hΓ 1 dX1_bound_45 rfl ?_
        obtain ⟨P8, q9, h⟩ := h
        refine n_callV (c := 85) (av := [aI r6]) (st := [aL v3]) hΓ (ct_wX1_greatestKey _ _ r6 M7 P8 q9) my_X1_greatestKey ml_RX1_64 ni_X1_greatestKey kd_85 rfl lz_85 rfl (Nat.le_trans (by decide) hh) (by decide) (Nat.le_of_ble_eq_true rfl) rfl dX1_bound_47 (fun v Z' hq => ?_)
        obtain ⟨r10, M11, rfl, rfl, hq⟩ := hq
        have h := h r10 M11 hq
        dsimp only at h
        refine a_ladd hΓ dX1_bound_50 ?_
        refine a_lstore_n (ls' := [(3, aL (v3 + r10)), (2, aI (landI v2 (lxorI r6 (-1)))), (6, aI r6), (0, aR 85), (5, aI v5)]) hΓ dX1_bound_51 rfl (by decide) rfl ?_
        refine a_iinc (ls' := [(5, aI (v5 + 1)), (3, aL (v3 + r10)), (2, aI (landI v2 (lxorI r6 (-1)))), (6, aI r6), (0, aR 85)]) hΓ 4 dX1_bound_52 rfl (by decide) rfl ?_
        refine a_goto (tgt := 7) hΓ dX1_bound_55 (by decide) ?_
        refine a_sub (ls' := [(0, aR 85), (2, aI (landI v2 (lxorI r6 (-1)))), (3, aL (v3 + r10)), (5, aI (v5 + 1))]) [4, 2, 1, 0] rfl ?_
        exact ih (landI v2 (lxorI r6 (-1))) (v3 + r10) (v5 + 1) M11 h
      · rw [if_neg c3] at h
        refine a_iinc (ls' := [(5, aI (v5 + 1)), (0, aR 85), (2, aI v2), (3, aL v3)]) hΓ 3 dX1_bound_52 rfl (by decide) rfl ?_
        refine a_goto (tgt := 7) hΓ dX1_bound_55 (by decide) ?_
        refine a_sub (ls' := [(0, aR 85), (2, aI v2), (3, aL v3), (5, aI (v5 + 1))]) [1, 2, 3, 0] rfl ?_
        exact ih v2 v3 (v5 + 1) M h
    · rw [if_neg c2] at h
      refine a_lload_n hΓ 2 dX1_bound_58 rfl rfl ?_
      exact a_lret hΓ hr dX1_bound_59 ⟨_, _, rfl, rfl, h⟩
def wX1_bound (v1 : Int) (M : Mm) (Q : Int → Mm → Prop) : Prop :=
    ∃ n, wX1_bound_7 Q n v1 0 0 M
set_option maxHeartbeats 4000000 in
theorem s_wX1_bound {Γ : Cx} {h : Nat} (hΓ : Ok Γ cX1_bound RX1 7 h 0 0) (hh : 3 ≤ h) (hr : (cxm Γ).sig.returnType = (some .long)) {Q : Int → Mm → Prop} (v1 : Int) (M : Mm) (h : wX1_bound v1 M Q) : Wa Γ 7 (Kf Γ (QL Q) 0 0) 0 0 0 [(0, aR 85), (1, aI v1)] [] (NC, RF, M) := by
  unfold wX1_bound at h
  refine a_iload_n hΓ 1 dX1_bound_0 rfl rfl ?_
  refine a_istore_n (ls' := [(2, aI v1), (0, aR 85), (1, aI v1)]) hΓ dX1_bound_1 rfl (by decide) rfl ?_
  refine a_lconst (x := 0) hΓ dX1_bound_2 rfl ?_
  refine a_lstore_n (ls' := [(3, aL 0), (2, aI v1), (0, aR 85), (1, aI v1)]) hΓ dX1_bound_3 rfl (by decide) rfl ?_
  refine a_iconst hΓ dX1_bound_4 ?_
  refine a_istore (ls' := [(5, aI 0), (3, aL 0), (2, aI v1), (0, aR 85), (1, aI v1)]) hΓ dX1_bound_5 (by decide) rfl ?_
  refine a_sub (ls' := [(0, aR 85), (2, aI v1), (3, aL 0), (5, aI 0)]) [3, 2, 1, 0] rfl ?_
  obtain ⟨f1, h⟩ := h
  exact s_wX1_bound_7 hΓ (Nat.le_trans (by decide) hh) hr  f1 v1 0 0 M h
theorem ct_wX1_bound (l : Launch) (g : Gp) (v1 : Int) (M : Mm) (Q : Int → Mm → Prop) (h : wX1_bound v1 M Q) : Ct l g yX1_bound cX1_bound 7 (some .long) 3 0 0 [aR 85, aI v1] (NC, RF, M) (QL Q) :=
  ct_of (by decide) (Nat.le_of_ble_eq_true rfl) (fun Γ hg hl hr _ hΓ => by subst hg; subst hl; exact s_wX1_bound hΓ (by decide) hr v1 M h)
def wX2_busiest_40 (Q : Int → Mm → Prop) (k7 : Int → Int → Int → Mm → Prop) (v1 : Int) (v2 : Int) (v3 : Int) (v4 : Int) (s0 : Int) (M : Mm) : Prop :=
    (inR s0) ∧
    (inR v3) ∧
    (if s0 ≤ v3 then
      k7 v2 v3 (v4 + 1) M
    else
      k7 v4 s0 (v4 + 1) M)
set_option maxHeartbeats 4000000 in
theorem s_wX2_busiest_40 {Γ : Cx} {h : Nat} (hΓ : Ok Γ cX2_busiest RX2 6 h 0 0) (hh : 2 ≤ h) (hr : (cxm Γ).sig.returnType = (some .int)) {Q : Int → Mm → Prop} {v1 v2 v3 v4 s0 : Int}  {k7 : Int → Int → Int → Mm → Prop} (hk7 : ∀ (v2 : Int) (v3 : Int) (v4 : Int) (M : Mm), k7 v2 v3 v4 M → Wa Γ 6 (Kf Γ (QI Q) 0 0) 0 0 7 [(0, aR 83), (1, aI v1), (2, aI v2), (3, aI v3), (4, aI v4)] [] (NC, RF, M)) (M : Mm) (h : wX2_busiest_40 Q k7 v1 v2 v3 v4 s0 M) : Wa Γ 6 (Kf Γ (QI Q) 0 0) 0 0 40 [(0, aR 83), (1, aI v1), (2, aI v2), (3, aI v3), (4, aI v4)] [aI s0] (NC, RF, M) := by
  unfold wX2_busiest_40 at h
  refine a_istore (ls' := [(5, aI s0), (0, aR 83), (1, aI v1), (2, aI v2), (3, aI v3), (4, aI v4)]) hΓ dX2_busiest_40 (by decide) rfl ?_
  refine a_iload hΓ 0 dX2_busiest_42 rfl ?_
  refine a_iload_n hΓ 4 dX2_busiest_44 rfl rfl ?_
  obtain ⟨g1, h⟩ := h
  obtain ⟨g2, h⟩ := h
  refine a_icmp_le (tgt := 54) hΓ g1 g2 dX2_busiest_45 (by decide) (fun c3 => ?_) (fun c3 => ?_)
  · rw [if_pos c3] at h
    refine a_iinc (ls' := [(4, aI (v4 + 1)), (5, aI s0), (0, aR 83), (1, aI v1), (2, aI v2), (3, aI v3)]) hΓ 5 dX2_busiest_54 rfl (by decide) rfl ?_
    refine a_goto (tgt := 7) hΓ dX2_busiest_57 (by decide) ?_
    refine a_sub (ls' := [(0, aR 83), (1, aI v1), (2, aI v2), (3, aI v3), (4, aI (v4 + 1))]) [2, 3, 4, 5, 0] rfl ?_
    exact hk7 v2 v3 (v4 + 1) M h
  · rw [if_neg c3] at h
    refine a_iload hΓ 5 dX2_busiest_48 rfl ?_
    refine a_istore_n (ls' := [(2, aI v4), (5, aI s0), (0, aR 83), (1, aI v1), (3, aI v3), (4, aI v4)]) hΓ dX2_busiest_50 rfl (by decide) rfl ?_
    refine a_iload hΓ 1 dX2_busiest_51 rfl ?_
    refine a_istore_n (ls' := [(3, aI s0), (2, aI v4), (5, aI s0), (0, aR 83), (1, aI v1), (4, aI v4)]) hΓ dX2_busiest_53 rfl (by decide) rfl ?_
    refine a_iinc (ls' := [(4, aI (v4 + 1)), (3, aI s0), (2, aI v4), (5, aI s0), (0, aR 83), (1, aI v1)]) hΓ 5 dX2_busiest_54 rfl (by decide) rfl ?_
    refine a_goto (tgt := 7) hΓ dX2_busiest_57 (by decide) ?_
    refine a_sub (ls' := [(0, aR 83), (1, aI v1), (2, aI v4), (3, aI s0), (4, aI (v4 + 1))]) [4, 5, 2, 1, 0] rfl ?_
    exact hk7 v4 s0 (v4 + 1) M h
def wX2_busiest_7 (Q : Int → Mm → Prop) (v1 : Int) : Nat → Int → Int → Int → Mm → Prop
  | 0, _, _, _, _ => False
  | f + 1, v2, v3, v4, M => (inR v4) ∧
    (if v4 < 24 then
      (if (landI (shrI v1 v4) 1) = 1 then
        (0 ≤ v4 ∧ v4 < 24) ∧
        Bd (wJ6_bitCount_0f7a4 (landI (M 84 v4) v1) M) (fun r7 M8 =>
        wX2_busiest_40 Q (wX2_busiest_7 Q v1 f) v1 v2 v3 v4 r7 M8)
      else
        wX2_busiest_40 Q (wX2_busiest_7 Q v1 f) v1 v2 v3 v4 0 M)
    else
      Q v2 M)
set_option maxHeartbeats 4000000 in
theorem s_wX2_busiest_7 {Γ : Cx} {h : Nat} (hΓ : Ok Γ cX2_busiest RX2 6 h 0 0) (hh : 2 ≤ h) (hr : (cxm Γ).sig.returnType = (some .int)) {Q : Int → Mm → Prop} {v1 : Int}   : ∀ (f : Nat) (v2 : Int) (v3 : Int) (v4 : Int) (M : Mm), wX2_busiest_7 Q v1 f v2 v3 v4 M → Wa Γ 6 (Kf Γ (QI Q) 0 0) 0 0 7 [(0, aR 83), (1, aI v1), (2, aI v2), (3, aI v3), (4, aI v4)] [] (NC, RF, M) := by
  intro f
  induction f with
  | zero => intro v2 v3 v4 M h; exact h.elim
  | succ f ih =>
    intro v2 v3 v4 M h
    unfold wX2_busiest_7 at h
    refine a_iload hΓ 4 dX2_busiest_7 rfl ?_
    refine a_bipush hΓ dX2_busiest_9 (by decide) ?_
    obtain ⟨g1, h⟩ := h
    refine a_icmp_ge (tgt := 60) hΓ g1 (inRl (by decide)) dX2_busiest_11 (by decide) (fun c2 => ?_) (fun c2 => ?_)
    · rw [if_pos c2] at h
      refine a_iload_n hΓ 1 dX2_busiest_14 rfl rfl ?_
      refine a_iload hΓ 4 dX2_busiest_15 rfl ?_
      refine a_ishr hΓ dX2_busiest_17 ?_
      refine a_iconst hΓ dX2_busiest_18 ?_
      refine a_iand hΓ dX2_busiest_19 ?_
      refine a_iconst hΓ dX2_busiest_20 ?_
      refine a_icmp_ne (tgt := 39) hΓ (inR_land _ _) (inRl (by decide)) dX2_busiest_21 (by decide) (fun c3 => ?_) (fun c3 => ?_)
      · rw [if_pos c3] at h
        refine a_aload_n hΓ 0 dX2_busiest_24 rfl rfl ?_
        refine n_getR hΓ fl_RX2_9 cl_2 kd_83 lz_83 dX2_busiest_25 ft_2_2 rf_83_2 ?_
        refine a_iload hΓ 4 dX2_busiest_28 rfl ?_
        obtain ⟨g4, h⟩ := h
        refine n_iald (x := (M 84 v4)) hΓ dX2_busiest_30 kd_84 lz_84 g4 rfl ?_
        refine a_iload_n hΓ 1 dX2_busiest_31 rfl rfl ?_
        refine a_iand hΓ dX2_busiest_32 ?_
        obtain ⟨P5, q6, h⟩ := h
        refine n_callS (av := [aI (landI (M 84 v4) v1)]) (st := []) hΓ (ct_wJ6_bitCount_0f7a4 _ _ (landI (M 84 v4) v1) M P5 q6) my_J6_bitCount_0f7a4 ml_RX2_74 rfl (Nat.le_trans (by decide) hh) (by decide) (Nat.le_of_ble_eq_true rfl) rfl dX2_busiest_33 (fun v Z' hq => ?_)
        obtain ⟨r7, M8, rfl, rfl, hq⟩ := hq
        have h := h r7 M8 hq
        dsimp only at h
        refine a_goto (tgt := 40) hΓ dX2_busiest_36 (by decide) ?_
        exact s_wX2_busiest_40 hΓ (Nat.le_trans (by decide) hh) hr ih M8 h
      · rw [if_neg c3] at h
        refine a_iconst hΓ dX2_busiest_39 ?_
        exact s_wX2_busiest_40 hΓ (Nat.le_trans (by decide) hh) hr ih M h
    · rw [if_neg c2] at h
      refine a_iload_n hΓ 2 dX2_busiest_60 rfl rfl ?_
      exact a_iret hΓ hr dX2_busiest_61 ⟨_, _, rfl, rfl, h⟩
def wX2_busiest (v1 : Int) (M : Mm) (Q : Int → Mm → Prop) : Prop :=
    ∃ n, wX2_busiest_7 Q v1 n (-1) 0 0 M
set_option maxHeartbeats 4000000 in
theorem s_wX2_busiest {Γ : Cx} {h : Nat} (hΓ : Ok Γ cX2_busiest RX2 6 h 0 0) (hh : 2 ≤ h) (hr : (cxm Γ).sig.returnType = (some .int)) {Q : Int → Mm → Prop} (v1 : Int) (M : Mm) (h : wX2_busiest v1 M Q) : Wa Γ 6 (Kf Γ (QI Q) 0 0) 0 0 0 [(0, aR 83), (1, aI v1)] [] (NC, RF, M) := by
  unfold wX2_busiest at h
  refine a_iconst hΓ dX2_busiest_0 ?_
  refine a_istore_n (ls' := [(2, aI (-1)), (0, aR 83), (1, aI v1)]) hΓ dX2_busiest_1 rfl (by decide) rfl ?_
  refine a_iconst hΓ dX2_busiest_2 ?_
  refine a_istore_n (ls' := [(3, aI 0), (2, aI (-1)), (0, aR 83), (1, aI v1)]) hΓ dX2_busiest_3 rfl (by decide) rfl ?_
  refine a_iconst hΓ dX2_busiest_4 ?_
  refine a_istore (ls' := [(4, aI 0), (3, aI 0), (2, aI (-1)), (0, aR 83), (1, aI v1)]) hΓ dX2_busiest_5 (by decide) rfl ?_
  refine a_sub (ls' := [(0, aR 83), (1, aI v1), (2, aI (-1)), (3, aI 0), (4, aI 0)]) [3, 4, 2, 1, 0] rfl ?_
  obtain ⟨f1, h⟩ := h
  exact s_wX2_busiest_7 hΓ (Nat.le_trans (by decide) hh) hr  f1 (-1) 0 0 M h
theorem ct_wX2_busiest (l : Launch) (g : Gp) (v1 : Int) (M : Mm) (Q : Int → Mm → Prop) (h : wX2_busiest v1 M Q) : Ct l g yX2_busiest cX2_busiest 6 (some .int) 2 0 0 [aR 83, aI v1] (NC, RF, M) (QI Q) :=
  ct_of (by decide) (Nat.le_of_ble_eq_true rfl) (fun Γ hg hl hr _ hΓ => by subst hg; subst hl; exact s_wX2_busiest hΓ (by decide) hr v1 M h)
