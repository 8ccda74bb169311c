/-! ===== printed by tools/gen.py ===== -/
def wX10_fail  (M : Mm) (Q : Int → Mm → Prop) : Prop :=
    Q 0 (up M 88 3 (M 88 7))
set_option maxHeartbeats 4000000 in
theorem s_wX10_fail {Γ : Cx} {h : Nat} (hΓ : Ok Γ cX10_fail RX10 1 h 0 0) (hh : 1 ≤ h) (hr : (cxm Γ).sig.returnType = (some .boolean)) {Q : Int → Mm → Prop}  (M : Mm) (h : wX10_fail  M Q) : Wa Γ 1 (Kf Γ (QI Q) 0 0) 0 0 0 [(0, aR 88)] [] (NC, RF, M) := by
  unfold wX10_fail at h
  refine a_aload_n hΓ 0 dX10_fail_0 rfl rfl ?_
  refine a_aload_n hΓ 0 dX10_fail_1 rfl rfl ?_
  refine n_getI (x := (M 88 7)) hΓ fl_RX10_48 cl_10 kd_88 lz_88 dX10_fail_2 (Or.inl ft_10_7) rfl ?_
  refine n_putI (j := 3) hΓ fl_RX10_15 cl_10 nf_10_3 kd_88 lz_88 dX10_fail_5 (Or.inl ft_10_3) rfl ?_
  refine a_iconst hΓ dX10_fail_8 ?_
  exact a_zret hΓ hr (Or.inl rfl) dX10_fail_9 ⟨_, _, rfl, rfl, h⟩
theorem ct_wX10_fail (l : Launch) (g : Gp)  (M : Mm) (Q : Int → Mm → Prop) (h : wX10_fail  M Q) : Ct l g yX10_fail cX10_fail 1 (some .boolean) 1 0 0 [aR 88] (NC, RF, M) (QI Q) :=
  ct_of (by decide) (Nat.le_of_ble_eq_true rfl) (fun Γ hg hl hr _ hΓ => by subst hg; subst hl; exact s_wX10_fail hΓ (by decide) hr  M h)
def wX10_expect (v1 : Int) (M : Mm) (Q : Int → Mm → Prop) : Prop :=
    (inR (M 88 6)) ∧
    (inR v1) ∧
    (if (M 88 6) = v1 then
      Bv (wX10_step M) (fun M7 =>
      Q 1 M7)
    else
      Bd (wX10_fail M) (fun r10 M11 =>
      (r10 = 0 ∨ r10 = 1) ∧
      Q r10 M11))
set_option maxHeartbeats 4000000 in
theorem s_wX10_expect {Γ : Cx} {h : Nat} (hΓ : Ok Γ cX10_expect RX10 2 h 0 0) (hh : 4 ≤ h) (hr : (cxm Γ).sig.returnType = (some .boolean)) {Q : Int → Mm → Prop} (v1 : Int) (M : Mm) (h : wX10_expect v1 M Q) : Wa Γ 2 (Kf Γ (QI Q) 0 0) 0 0 0 [(0, aR 88), (1, aI v1)] [] (NC, RF, M) := by
  unfold wX10_expect at h
  refine a_aload_n hΓ 0 dX10_expect_0 rfl rfl ?_
  refine n_getI (x := (M 88 6)) hΓ fl_RX10_51 cl_10 kd_88 lz_88 dX10_expect_1 (Or.inl ft_10_6) rfl ?_
  refine a_iload_n hΓ 1 dX10_expect_4 rfl rfl ?_
  obtain ⟨g1, h⟩ := h
  obtain ⟨g2, h⟩ := h
  refine a_icmp_eq (tgt := 13) hΓ g1 g2 dX10_expect_5 (by decide) (fun c3 => ?_) (fun c3 => ?_)
  · rw [if_pos c3] at h
    refine a_aload_n hΓ 0 dX10_expect_13 rfl rfl ?_
    obtain ⟨P4, q5, h⟩ := h
    refine n_callV (c := 88) (av := []) (st := []) hΓ (ct_wX10_step _ _  M P4 q5) my_X10_step ml_RX10_32 ni_X10_step kd_88 rfl lz_88 rfl (Nat.le_trans (by decide) hh) (by decide) (Nat.le_of_ble_eq_true rfl) rfl dX10_expect_14 (fun v Z' hq => ?_)
    obtain ⟨M7, rfl, rfl, hq⟩ := hq
    have h := h M7 hq
    dsimp only at h
    refine a_iconst hΓ dX10_expect_17 ?_
    exact a_zret hΓ hr (Or.inr rfl) dX10_expect_18 ⟨_, _, rfl, rfl, h⟩
  · rw [if_neg c3] at h
    refine a_aload_n hΓ 0 dX10_expect_8 rfl rfl ?_
    obtain ⟨P8, q9, h⟩ := h
    refine n_callV (c := 88) (av := []) (st := []) hΓ (ct_wX10_fail _ _  M P8 q9) my_X10_fail ml_RX10_69 ni_X10_fail kd_88 rfl lz_88 rfl (Nat.le_trans (by decide) hh) (by decide) (Nat.le_of_ble_eq_true rfl) rfl dX10_expect_9 (fun v Z' hq => ?_)
    obtain ⟨r10, M11, rfl, rfl, hq⟩ := hq
    have h := h r10 M11 hq
    dsimp only at h
    obtain ⟨g12, h⟩ := h
    exact a_zret hΓ hr g12 dX10_expect_12 ⟨_, _, rfl, rfl, h⟩
theorem ct_wX10_expect (l : Launch) (g : Gp) (v1 : Int) (M : Mm) (Q : Int → Mm → Prop) (h : wX10_expect v1 M Q) : Ct l g yX10_expect cX10_expect 2 (some .boolean) 4 0 0 [aR 88, aI v1] (NC, RF, M) (QI Q) :=
  ct_of (by decide) (Nat.le_of_ble_eq_true rfl) (fun Γ hg hl hr _ hΓ => by subst hg; subst hl; exact s_wX10_expect hΓ (by decide) hr v1 M h)
def wX10_isLogOf (v1 : Int) (M : Mm) (Q : Int → Mm → Prop) : Prop :=
    (inR (M 88 6)) ∧
    (if (M 88 6) = 256 then
      (inR (M 88 8)) ∧
      (if (M 88 8) < 24 then
        (if (landI (shrI v1 (M 88 8)) 1) = 1 then
          Q 1 M
        else
          Q 0 M)
      else
        Q 0 M)
    else
      Q 0 M)
set_option maxHeartbeats 4000000 in
theorem s_wX10_isLogOf {Γ : Cx} {h : Nat} (hΓ : Ok Γ cX10_isLogOf RX10 2 h 0 0) (hh : 1 ≤ h) (hr : (cxm Γ).sig.returnType = (some .boolean)) {Q : Int → Mm → Prop} (v1 : Int) (M : Mm) (h : wX10_isLogOf v1 M Q) : Wa Γ 2 (Kf Γ (QI Q) 0 0) 0 0 0 [(0, aR 88), (1, aI v1)] [] (NC, RF, M) := by
  unfold wX10_isLogOf at h
  refine a_aload_n hΓ 0 dX10_isLogOf_0 rfl rfl ?_
  refine n_getI (x := (M 88 6)) hΓ fl_RX10_51 cl_10 kd_88 lz_88 dX10_isLogOf_1 (Or.inl ft_10_6) rfl ?_
  refine a_sipush hΓ dX10_isLogOf_4 (by decide) ?_
  obtain ⟨g1, h⟩ := h
  refine a_icmp_ne (tgt := 35) hΓ g1 (inRl (by decide)) dX10_isLogOf_7 (by decide) (fun c2 => ?_) (fun c2 => ?_)
  · rw [if_pos c2] at h
    refine a_aload_n hΓ 0 dX10_isLogOf_10 rfl rfl ?_
    refine n_getI (x := (M 88 8)) hΓ fl_RX10_60 cl_10 kd_88 lz_88 dX10_isLogOf_11 (Or.inl ft_10_8) rfl ?_
    refine a_bipush hΓ dX10_isLogOf_14 (by decide) ?_
    obtain ⟨g3, h⟩ := h
    refine a_icmp_ge (tgt := 35) hΓ g3 (inRl (by decide)) dX10_isLogOf_16 (by decide) (fun c4 => ?_) (fun c4 => ?_)
    · rw [if_pos c4] at h
      refine a_iload_n hΓ 1 dX10_isLogOf_19 rfl rfl ?_
      refine a_aload_n hΓ 0 dX10_isLogOf_20 rfl rfl ?_
      refine n_getI (x := (M 88 8)) hΓ fl_RX10_60 cl_10 kd_88 lz_88 dX10_isLogOf_21 (Or.inl ft_10_8) rfl ?_
      refine a_ishr hΓ dX10_isLogOf_24 ?_
      refine a_iconst hΓ dX10_isLogOf_25 ?_
      refine a_iand hΓ dX10_isLogOf_26 ?_
      refine a_iconst hΓ dX10_isLogOf_27 ?_
      refine a_icmp_ne (tgt := 35) hΓ (inR_land _ _) (inRl (by decide)) dX10_isLogOf_28 (by decide) (fun c5 => ?_) (fun c5 => ?_)
      · rw [if_pos c5] at h
        refine a_iconst hΓ dX10_isLogOf_31 ?_
        refine a_goto (tgt := 36) hΓ dX10_isLogOf_32 (by decide) ?_
        exact a_zret hΓ hr (Or.inr rfl) dX10_isLogOf_36 ⟨_, _, rfl, rfl, h⟩
      · rw [if_neg c5] at h
        refine a_iconst hΓ dX10_isLogOf_35 ?_
        exact a_zret hΓ hr (Or.inl rfl) dX10_isLogOf_36 ⟨_, _, rfl, rfl, h⟩
    · rw [if_neg c4] at h
      refine a_iconst hΓ dX10_isLogOf_35 ?_
      exact a_zret hΓ hr (Or.inl rfl) dX10_isLogOf_36 ⟨_, _, rfl, rfl, h⟩
  · rw [if_neg c2] at h
    refine a_iconst hΓ dX10_isLogOf_35 ?_
    exact a_zret hΓ hr (Or.inl rfl) dX10_isLogOf_36 ⟨_, _, rfl, rfl, h⟩
theorem ct_wX10_isLogOf (l : Launch) (g : Gp) (v1 : Int) (M : Mm) (Q : Int → Mm → Prop) (h : wX10_isLogOf v1 M Q) : Ct l g yX10_isLogOf cX10_isLogOf 2 (some .boolean) 1 0 0 [aR 88, aI v1] (NC, RF, M) (QI Q) :=
  ct_of (by decide) (Nat.le_of_ble_eq_true rfl) (fun Γ hg hl hr _ hΓ => by subst hg; subst hl; exact s_wX10_isLogOf hΓ (by decide) hr v1 M h)
def wX10_readGroup_95 (Q : Int → Mm → Prop) (M : Mm) : Prop :=
    Bd (wX10_fail M) (fun r3 M4 =>
    Q 0 M4)
set_option maxHeartbeats 4000000 in
theorem s_wX10_readGroup_95 {Γ : Cx} {h : Nat} (hΓ : Ok Γ cX10_readGroup RX10 4 h 0 0) (hh : 5 ≤ h) (hr : (cxm Γ).sig.returnType = (some .int)) {Q : Int → Mm → Prop}   (M : Mm) (h : wX10_readGroup_95 Q  M) : Wa Γ 4 (Kf Γ (QI Q) 0 0) 0 0 95 [(0, aR 88)] [] (NC, RF, M) := by
  unfold wX10_readGroup_95 at h
  refine a_aload_n hΓ 0 dX10_readGroup_95 rfl rfl ?_
  obtain ⟨P1, q2, h⟩ := h
  refine n_callV (c := 88) (av := []) (st := []) hΓ (ct_wX10_fail _ _  M P1 q2) my_X10_fail ml_RX10_69 ni_X10_fail kd_88 rfl lz_88 rfl (Nat.le_trans (by decide) hh) (by decide) (Nat.le_of_ble_eq_true rfl) rfl dX10_readGroup_96 (fun v Z' hq => ?_)
  obtain ⟨r3, M4, rfl, rfl, hq⟩ := hq
  have h := h r3 M4 hq
  dsimp only at h
  refine a_popI hΓ dX10_readGroup_99 ?_
  refine a_iconst hΓ dX10_readGroup_100 ?_
  exact a_iret hΓ hr dX10_readGroup_101 ⟨_, _, rfl, rfl, h⟩
def wX10_readGroup_70 (Q : Int → Mm → Prop) (v2 : Int) (M : Mm) : Prop :=
    Bd (wX10_expect 59 M) (fun r3 M4 =>
    (inR r3) ∧
    (if r3 = 0 then
      Q 0 M4
    else
      Q v2 M4))
set_option maxHeartbeats 4000000 in
theorem s_wX10_readGroup_70 {Γ : Cx} {h : Nat} (hΓ : Ok Γ cX10_readGroup RX10 4 h 0 0) (hh : 5 ≤ h) (hr : (cxm Γ).sig.returnType = (some .int)) {Q : Int → Mm → Prop} {v2 : Int}   (M : Mm) (h : wX10_readGroup_70 Q v2 M) : Wa Γ 4 (Kf Γ (QI Q) 0 0) 0 0 70 [(0, aR 88), (2, aI v2)] [] (NC, RF, M) := by
  unfold wX10_readGroup_70 at h
  refine a_aload_n hΓ 0 dX10_readGroup_70 rfl rfl ?_
  refine a_bipush hΓ dX10_readGroup_71 (by decide) ?_
  obtain ⟨P1, q2, h⟩ := h
  refine n_callV (c := 88) (av := [aI 59]) (st := []) hΓ (ct_wX10_expect _ _ 59 M P1 q2) my_X10_expect ml_RX10_44 ni_X10_expect kd_88 rfl lz_88 rfl (Nat.le_trans (by decide) hh) (by decide) (Nat.le_of_ble_eq_true rfl) rfl dX10_readGroup_73 (fun v Z' hq => ?_)
  obtain ⟨r3, M4, rfl, rfl, hq⟩ := hq
  have h := h r3 M4 hq
  dsimp only at h
  obtain ⟨g5, h⟩ := h
  refine a_if_eq (tgt := 83) hΓ g5 dX10_readGroup_76 (by decide) (fun c6 => ?_) (fun c6 => ?_)
  · rw [if_pos c6] at h
    refine a_iconst hΓ dX10_readGroup_83 ?_
    exact a_iret hΓ hr dX10_readGroup_84 ⟨_, _, rfl, rfl, h⟩
  · rw [if_neg c6] at h
    refine a_iload_n hΓ 1 dX10_readGroup_79 rfl rfl ?_
    refine a_goto (tgt := 84) hΓ dX10_readGroup_80 (by decide) ?_
    exact a_iret hΓ hr dX10_readGroup_84 ⟨_, _, rfl, rfl, h⟩
def wX10_readGroup_41 (Q : Int → Mm → Prop) (M : Mm) : Prop :=
    Bd (wX10_fail M) (fun r3 M4 =>
    Q 0 M4)
set_option maxHeartbeats 4000000 in
theorem s_wX10_readGroup_41 {Γ : Cx} {h : Nat} (hΓ : Ok Γ cX10_readGroup RX10 4 h 0 0) (hh : 5 ≤ h) (hr : (cxm Γ).sig.returnType = (some .int)) {Q : Int → Mm → Prop}   (M : Mm) (h : wX10_readGroup_41 Q  M) : Wa Γ 4 (Kf Γ (QI Q) 0 0) 0 0 41 [(0, aR 88)] [] (NC, RF, M) := by
  unfold wX10_readGroup_41 at h
  refine a_aload_n hΓ 0 dX10_readGroup_41 rfl rfl ?_
  obtain ⟨P1, q2, h⟩ := h
  refine n_callV (c := 88) (av := []) (st := []) hΓ (ct_wX10_fail _ _  M P1 q2) my_X10_fail ml_RX10_69 ni_X10_fail kd_88 rfl lz_88 rfl (Nat.le_trans (by decide) hh) (by decide) (Nat.le_of_ble_eq_true rfl) rfl dX10_readGroup_42 (fun v Z' hq => ?_)
  obtain ⟨r3, M4, rfl, rfl, hq⟩ := hq
  have h := h r3 M4 hq
  dsimp only at h
  refine a_popI hΓ dX10_readGroup_45 ?_
  refine a_iconst hΓ dX10_readGroup_46 ?_
  exact a_iret hΓ hr dX10_readGroup_47 ⟨_, _, rfl, rfl, h⟩
def wX10_readGroup_4 (Q : Int → Mm → Prop) (v1 : Int) : Nat → Int → Int → Mm → Prop
  | 0, _, _, _ => False
  | f + 1, v2, v3, M => (inR v3) ∧
    (if v3 < 24 then
      Bd (wX10_isLogOf (landI v1 (lxorI v2 (-1))) M) (fun r5 M6 =>
      (inR r5) ∧
      (if r5 = 0 then
        wX10_readGroup_41 Q M6
      else
        (0 ≤ (M6 88 8) ∧ (M6 88 8) < 24) ∧
        (if (landI v2 (lxorI (M6 84 (M6 88 8)) (-1))) = 0 then
          Bv (wX10_step M6) (fun M14 =>
          (inR (M14 88 6)) ∧
          (if (M14 88 6) = 44 then
            Bv (wX10_step M14) (fun M20 =>
            (wX10_readGroup_4 Q v1 f) (lorI v2 (shlI 1 (M6 88 8))) (v3 + 1) M20)
          else
            wX10_readGroup_70 Q (lorI v2 (shlI 1 (M6 88 8))) M14))
        else
          wX10_readGroup_41 Q M6)))
    else
      wX10_readGroup_95 Q M)
set_option maxHeartbeats 4000000 in
theorem s_wX10_readGroup_4 {Γ : Cx} {h : Nat} (hΓ : Ok Γ cX10_readGroup RX10 4 h 0 0) (hh : 5 ≤ h) (hr : (cxm Γ).sig.returnType = (some .int)) {Q : Int → Mm → Prop} {v1 : Int}   : ∀ (f : Nat) (v2 : Int) (v3 : Int) (M : Mm), wX10_readGroup_4 Q v1 f v2 v3 M → Wa Γ 4 (Kf Γ (QI Q) 0 0) 0 0 4 [(0, aR 88), (1, aI v1), (2, aI v2), (3, aI v3)] [] (NC, RF, M) := by
  intro f
  induction f with
  | zero => intro v2 v3 M h; exact h.elim
  | succ f ih =>
    intro v2 v3 M h
    unfold wX10_readGroup_4 at h
    refine a_iload_n hΓ 3 dX10_readGroup_4 rfl rfl ?_
    refine a_bipush hΓ dX10_readGroup_5 (by decide) ?_
    obtain ⟨g1, h⟩ := h
    refine a_icmp_ge (tgt := 95) hΓ g1 (inRl (by decide)) dX10_readGroup_7 (by decide) (fun c2 => ?_) (fun c2 => ?_)
    · rw [if_pos c2] at h
      refine a_aload_n hΓ 0 dX10_readGroup_10 rfl rfl ?_
      refine a_iload_n hΓ 1 dX10_readGroup_11 rfl rfl ?_
      refine a_iload_n hΓ 2 dX10_readGroup_12 rfl rfl ?_
      refine a_iconst hΓ dX10_readGroup_13 ?_
      refine a_ixor hΓ dX10_readGroup_14 ?_
      refine a_iand hΓ dX10_readGroup_15 ?_
      obtain ⟨P3, q4, h⟩ := h
      refine n_callV (c := 88) (av := [aI (landI v1 (lxorI v2 (-1)))]) (st := []) hΓ (ct_wX10_isLogOf _ _ (landI v1 (lxorI v2 (-1))) M P3 q4) my_X10_isLogOf ml_RX10_77 ni_X10_isLogOf kd_88 rfl lz_88 rfl (Nat.le_trans (by decide) hh) (by decide) (Nat.le_of_ble_eq_true rfl) rfl dX10_readGroup_16 (fun v Z' hq => ?_)
      obtain ⟨r5, M6, rfl, rfl, hq⟩ := hq
      have h := h r5 M6 hq
      dsimp only at h
      obtain ⟨g7, h⟩ := h
      refine a_if_eq (tgt := 41) hΓ g7 dX10_readGroup_19 (by decide) (fun c8 => ?_) (fun c8 => ?_)
      · rw [if_pos c8] at h
        refine a_sub (ls' := [(0, aR 88)]) [0] rfl ?_
        exact s_wX10_readGroup_41 hΓ (Nat.le_trans (by decide) hh) hr  M6 h
      · rw [if_neg c8] at h
        refine a_iload_n hΓ 2 dX10_readGroup_22 rfl rfl ?_
        refine a_aload_n hΓ 0 dX10_readGroup_23 rfl rfl ?_
        refine n_getR hΓ fl_RX10_19 cl_10 kd_88 lz_88 dX10_readGroup_24 ft_10_0 rf_88_0 ?_
        refine n_getR hΓ fl_RX10_80 cl_2 kd_83 lz_83 dX10_readGroup_27 ft_2_2 rf_83_2 ?_
        refine a_aload_n hΓ 0 dX10_readGroup_30 rfl rfl ?_
        refine n_getI (x := (M6 88 8)) hΓ fl_RX10_60 cl_10 kd_88 lz_88 dX10_readGroup_31 (Or.inl ft_10_8) rfl ?_
        obtain ⟨g9, h⟩ := h
        refine n_iald (x := (M6 84 (M6 88 8))) hΓ dX10_readGroup_34 kd_84 lz_84 g9 rfl ?_
        refine a_iconst hΓ dX10_readGroup_35 ?_
        refine a_ixor hΓ dX10_readGroup_36 ?_
        refine a_iand hΓ dX10_readGroup_37 ?_
        refine a_if_eq (tgt := 48) hΓ (inR_land _ _) dX10_readGroup_38 (by decide) (fun c10 => ?_) (fun c10 => ?_)
        · rw [if_pos c10] at h
          refine a_iload_n hΓ 2 dX10_readGroup_48 rfl rfl ?_
          refine a_iconst hΓ dX10_readGroup_49 ?_
          refine a_aload_n hΓ 0 dX10_readGroup_50 rfl rfl ?_
          refine n_getI (x := (M6 88 8)) hΓ fl_RX10_60 cl_10 kd_88 lz_88 dX10_readGroup_51 (Or.inl ft_10_8) rfl ?_
          refine a_ishl hΓ dX10_readGroup_54 ?_
          refine a_ior hΓ dX10_readGroup_55 ?_
          refine a_istore_n (ls' := [(2, aI (lorI v2 (shlI 1 (M6 88 8)))), (0, aR 88), (1, aI v1), (3, aI v3)]) hΓ dX10_readGroup_56 rfl (by decide) rfl ?_
          refine a_aload_n hΓ 1 dX10_readGroup_57 rfl rfl ?_
          obtain ⟨P11, q12, h⟩ := h
          refine n_callV (c := 88) (av := []) (st := []) hΓ (ct_wX10_step _ _  M6 P11 q12) my_X10_step ml_RX10_32 ni_X10_step kd_88 rfl lz_88 rfl (Nat.le_trans (by decide) hh) (by decide) (Nat.le_of_ble_eq_true rfl) rfl dX10_readGroup_58 (fun v Z' hq => ?_)
          obtain ⟨M14, rfl, rfl, hq⟩ := hq
          have h := h M14 hq
          dsimp only at h
          refine a_aload_n hΓ 1 dX10_readGroup_61 rfl rfl ?_
          refine n_getI (x := (M14 88 6)) hΓ fl_RX10_51 cl_10 kd_88 lz_88 dX10_readGroup_62 (Or.inl ft_10_6) rfl ?_
          refine a_bipush hΓ dX10_readGroup_65 (by decide) ?_
          obtain ⟨g15, h⟩ := h
          refine a_icmp_eq (tgt := 85) hΓ g15 (inRl (by decide)) dX10_readGroup_67 (by decide) (fun c16 => ?_) (fun c16 => ?_)
          · rw [if_pos c16] at h
            refine a_aload_n hΓ 1 dX10_readGroup_85 rfl rfl ?_
            obtain ⟨P17, q18, h⟩ := h
            refine n_callV (c := 88) (av := []) (st := []) hΓ (ct_wX10_step _ _  M14 P17 q18) my_X10_step ml_RX10_32 ni_X10_step kd_88 rfl lz_88 rfl (Nat.le_trans (by decide) hh) (by decide) (Nat.le_of_ble_eq_true rfl) rfl dX10_readGroup_86 (fun v Z' hq => ?_)
            obtain ⟨M20, rfl, rfl, hq⟩ := hq
            have h := h M20 hq
            dsimp only at h
            refine a_iinc (ls' := [(3, aI (v3 + 1)), (2, aI (lorI v2 (shlI 1 (M6 88 8)))), (0, aR 88), (1, aI v1)]) hΓ 3 dX10_readGroup_89 rfl (by decide) rfl ?_
            refine a_goto (tgt := 4) hΓ dX10_readGroup_92 (by decide) ?_
            refine a_sub (ls' := [(0, aR 88), (1, aI v1), (2, aI (lorI v2 (shlI 1 (M6 88 8)))), (3, aI (v3 + 1))]) [2, 3, 1, 0] rfl ?_
            exact ih (lorI v2 (shlI 1 (M6 88 8))) (v3 + 1) M20 h
          · rw [if_neg c16] at h
            refine a_sub (ls' := [(0, aR 88), (2, aI (lorI v2 (shlI 1 (M6 88 8))))]) [1, 0] rfl ?_
            exact s_wX10_readGroup_70 hΓ (Nat.le_trans (by decide) hh) hr  M14 h
        · rw [if_neg c10] at h
          refine a_sub (ls' := [(0, aR 88)]) [0] rfl ?_
          exact s_wX10_readGroup_41 hΓ (Nat.le_trans (by decide) hh) hr  M6 h
    · rw [if_neg c2] at h
      refine a_sub (ls' := [(0, aR 88)]) [0] rfl ?_
      exact s_wX10_readGroup_95 hΓ (Nat.le_trans (by decide) hh) hr  M h
def wX10_readGroup (v1 : Int) (M : Mm) (Q : Int → Mm → Prop) : Prop :=
    ∃ n, wX10_readGroup_4 Q v1 n 0 0 M
set_option maxHeartbeats 4000000 in
theorem s_wX10_readGroup {Γ : Cx} {h : Nat} (hΓ : Ok Γ cX10_readGroup RX10 4 h 0 0) (hh : 5 ≤ h) (hr : (cxm Γ).sig.returnType = (some .int)) {Q : Int → Mm → Prop} (v1 : Int) (M : Mm) (h : wX10_readGroup v1 M Q) : Wa Γ 4 (Kf Γ (QI Q) 0 0) 0 0 0 [(0, aR 88), (1, aI v1)] [] (NC, RF, M) := by
  unfold wX10_readGroup at h
  refine a_iconst hΓ dX10_readGroup_0 ?_
  refine a_istore_n (ls' := [(2, aI 0), (0, aR 88), (1, aI v1)]) hΓ dX10_readGroup_1 rfl (by decide) rfl ?_
  refine a_iconst hΓ dX10_readGroup_2 ?_
  refine a_istore_n (ls' := [(3, aI 0), (2, aI 0), (0, aR 88), (1, aI v1)]) hΓ dX10_readGroup_3 rfl (by decide) rfl ?_
  refine a_sub (ls' := [(0, aR 88), (1, aI v1), (2, aI 0), (3, aI 0)]) [2, 3, 1, 0] rfl ?_
  obtain ⟨f1, h⟩ := h
  exact s_wX10_readGroup_4 hΓ (Nat.le_trans (by decide) hh) hr  f1 0 0 M h
theorem ct_wX10_readGroup (l : Launch) (g : Gp) (v1 : Int) (M : Mm) (Q : Int → Mm → Prop) (h : wX10_readGroup v1 M Q) : Ct l g yX10_readGroup cX10_readGroup 4 (some .int) 5 0 0 [aR 88, aI v1] (NC, RF, M) (QI Q) :=
  ct_of (by decide) (Nat.le_of_ble_eq_true rfl) (fun Γ hg hl hr _ hΓ => by subst hg; subst hl; exact s_wX10_readGroup hΓ (by decide) hr v1 M h)
def wX10_readGroups_69 (Q : Int → Mm → Prop) (v3 : Int) (v4 : Int) (M : Mm) : Prop :=
    Bd (wX2_allWorth v3 M) (fun r3 M4 =>
    (inR (v4 + r3)) ∧
    (inR (M4 88 4)) ∧
    (if (v4 + r3) ≤ (M4 88 4) then
      Bd (wX10_expect 93 M4) (fun r10 M11 =>
      (r10 = 0 ∨ r10 = 1) ∧
      Q r10 M11)
    else
      Bd (wX10_fail M4) (fun r15 M16 =>
      (r15 = 0 ∨ r15 = 1) ∧
      Q r15 M16)))
set_option maxHeartbeats 4000000 in
theorem s_wX10_readGroups_69 {Γ : Cx} {h : Nat} (hΓ : Ok Γ cX10_readGroups RX10 7 h 0 0) (hh : 6 ≤ h) (hr : (cxm Γ).sig.returnType = (some .boolean)) {Q : Int → Mm → Prop} {v3 v4 : Int}   (M : Mm) (h : wX10_readGroups_69 Q v3 v4 M) : Wa Γ 7 (Kf Γ (QI Q) 0 0) 0 0 69 [(0, aR 88), (3, aI v3), (4, aI v4)] [] (NC, RF, M) := by
  unfold wX10_readGroups_69 at h
  refine a_iload hΓ 2 dX10_readGroups_69 rfl ?_
  refine a_aload_n hΓ 0 dX10_readGroups_71 rfl rfl ?_
  refine n_getR hΓ fl_RX10_19 cl_10 kd_88 lz_88 dX10_readGroups_72 ft_10_0 rf_88_0 ?_
  refine a_iload_n hΓ 1 dX10_readGroups_75 rfl rfl ?_
  obtain ⟨P1, q2, h⟩ := h
  refine n_callV (c := 83) (av := [aI v3]) (st := [aI v4]) hΓ (ct_wX2_allWorth _ _ v3 M P1 q2) my_X2_allWorth ml_RX10_93 ni_X2_allWorth kd_83 rfl lz_83 rfl (Nat.le_trans (by decide) hh) (by decide) (Nat.le_of_ble_eq_true rfl) rfl dX10_readGroups_76 (fun v Z' hq => ?_)
  obtain ⟨r3, M4, rfl, rfl, hq⟩ := hq
  have h := h r3 M4 hq
  dsimp only at h
  refine a_iadd hΓ dX10_readGroups_79 ?_
  refine a_aload_n hΓ 0 dX10_readGroups_80 rfl rfl ?_
  refine n_getI (x := (M4 88 4)) hΓ fl_RX10_26 cl_10 kd_88 lz_88 dX10_readGroups_81 (Or.inl ft_10_4) rfl ?_
  obtain ⟨g5, h⟩ := h
  obtain ⟨g6, h⟩ := h
  refine a_icmp_le (tgt := 92) hΓ g5 g6 dX10_readGroups_84 (by decide) (fun c7 => ?_) (fun c7 => ?_)
  · rw [if_pos c7] at h
    refine a_aload_n hΓ 0 dX10_readGroups_92 rfl rfl ?_
    refine a_bipush hΓ dX10_readGroups_93 (by decide) ?_
    obtain ⟨P8, q9, h⟩ := h
    refine n_callV (c := 88) (av := [aI 93]) (st := []) hΓ (ct_wX10_expect _ _ 93 M4 P8 q9) my_X10_expect ml_RX10_44 ni_X10_expect kd_88 rfl lz_88 rfl (Nat.le_trans (by decide) hh) (by decide) (Nat.le_of_ble_eq_true rfl) rfl dX10_readGroups_95 (fun v Z' hq => ?_)
    obtain ⟨r10, M11, rfl, rfl, hq⟩ := hq
    have h := h r10 M11 hq
    dsimp only at h
    obtain ⟨g12, h⟩ := h
    exact a_zret hΓ hr g12 dX10_readGroups_98 ⟨_, _, rfl, rfl, h⟩
  · rw [if_neg c7] at h
    refine a_aload_n hΓ 0 dX10_readGroups_87 rfl rfl ?_
    obtain ⟨P13, q14, h⟩ := h
    refine n_callV (c := 88) (av := []) (st := []) hΓ (ct_wX10_fail _ _  M4 P13 q14) my_X10_fail ml_RX10_69 ni_X10_fail kd_88 rfl lz_88 rfl (Nat.le_trans (by decide) hh) (by decide) (Nat.le_of_ble_eq_true rfl) rfl dX10_readGroups_88 (fun v Z' hq => ?_)
    obtain ⟨r15, M16, rfl, rfl, hq⟩ := hq
    have h := h r15 M16 hq
    dsimp only at h
    obtain ⟨g17, h⟩ := h
    exact a_zret hΓ hr g17 dX10_readGroups_91 ⟨_, _, rfl, rfl, h⟩
def wX10_readGroups_12 (Q : Int → Mm → Prop) : Nat → Int → Int → Int → Mm → Prop
  | 0, _, _, _, _ => False
  | f + 1, v3, v4, v5, M => (inR v5) ∧
    (if v5 < 24 then
      (inR (M 88 6)) ∧
      (if (M 88 6) = 93 then
        wX10_readGroups_69 Q v3 v4 M
      else
        Bd (wX10_readGroup v3 M) (fun r7 M8 =>
        (inR r7) ∧
        (if r7 = 0 then
          Q 0 M8
        else
          Bd (wX2_greatestWorth r7 M8) (fun r13 M14 =>
          (wX10_readGroups_12 Q f) (landI v3 (lxorI r7 (-1))) (v4 + r13) (v5 + 1) M14))))
    else
      wX10_readGroups_69 Q v3 v4 M)
set_option maxHeartbeats 4000000 in
theorem s_wX10_readGroups_12 {Γ : Cx} {h : Nat} (hΓ : Ok Γ cX10_readGroups RX10 7 h 0 0) (hh : 6 ≤ h) (hr : (cxm Γ).sig.returnType = (some .boolean)) {Q : Int → Mm → Prop}   : ∀ (f : Nat) (v3 : Int) (v4 : Int) (v5 : Int) (M : Mm), wX10_readGroups_12 Q  f v3 v4 v5 M → Wa Γ 7 (Kf Γ (QI Q) 0 0) 0 0 12 [(0, aR 88), (3, aI v3), (4, aI v4), (5, aI v5)] [] (NC, RF, M) := by
  intro f
  induction f with
  | zero => intro v3 v4 v5 M h; exact h.elim
  | succ f ih =>
    intro v3 v4 v5 M h
    unfold wX10_readGroups_12 at h
    refine a_iload hΓ 3 dX10_readGroups_12 rfl ?_
    refine a_bipush hΓ dX10_readGroups_14 (by decide) ?_
    obtain ⟨g1, h⟩ := h
    refine a_icmp_ge (tgt := 69) hΓ g1 (inRl (by decide)) dX10_readGroups_16 (by decide) (fun c2 => ?_) (fun c2 => ?_)
    · rw [if_pos c2] at h
      refine a_aload_n hΓ 0 dX10_readGroups_19 rfl rfl ?_
      refine n_getI (x := (M 88 6)) hΓ fl_RX10_51 cl_10 kd_88 lz_88 dX10_readGroups_20 (Or.inl ft_10_6) rfl ?_
      refine a_bipush hΓ dX10_readGroups_23 (by decide) ?_
      obtain ⟨g3, h⟩ := h
      refine a_icmp_eq (tgt := 69) hΓ g3 (inRl (by decide)) dX10_readGroups_25 (by decide) (fun c4 => ?_) (fun c4 => ?_)
      · rw [if_pos c4] at h
        refine a_sub (ls' := [(0, aR 88), (3, aI v3), (4, aI v4)]) [0, 1, 2] rfl ?_
        exact s_wX10_readGroups_69 hΓ (Nat.le_trans (by decide) hh) hr  M h
      · rw [if_neg c4] at h
        refine a_aload_n hΓ 0 dX10_readGroups_28 rfl rfl ?_
        refine a_iload_n hΓ 1 dX10_readGroups_29 rfl rfl ?_
        obtain ⟨P5, q6, h⟩ := h
        refine n_callV (c := 88) (av := [aI v3]) (st := []) hΓ (ct_wX10_readGroup _ _ v3 M P5 q6) my_X10_readGroup ml_RX10_86 ni_X10_readGroup kd_88 rfl lz_88 rfl (Nat.le_trans (by decide) hh) (by decide) (Nat.le_of_ble_eq_true rfl) rfl dX10_readGroups_30 (fun v Z' hq => ?_)
        obtain ⟨r7, M8, rfl, rfl, hq⟩ := hq
        have h := h r7 M8 hq
        dsimp only at h
        refine a_istore (ls' := [(6, aI r7), (0, aR 88), (3, aI v3), (4, aI v4), (5, aI v5)]) hΓ dX10_readGroups_33 (by decide) rfl ?_
        refine a_iload hΓ 0 dX10_readGroups_35 rfl ?_
        obtain ⟨g9, h⟩ := h
        refine a_if_ne (tgt := 42) hΓ g9 dX10_readGroups_37 (by decide) (fun c10 => ?_) (fun c10 => ?_)
        · rw [if_pos c10] at h
          refine a_iconst hΓ dX10_readGroups_40 ?_
          exact a_zret hΓ hr (Or.inl rfl) dX10_readGroups_41 ⟨_, _, rfl, rfl, h⟩
        · rw [if_neg c10] at h
          refine a_iload_n hΓ 2 dX10_readGroups_42 rfl rfl ?_
          refine a_iload hΓ 0 dX10_readGroups_43 rfl ?_
          refine a_iconst hΓ dX10_readGroups_45 ?_
          refine a_ixor hΓ dX10_readGroups_46 ?_
          refine a_iand hΓ dX10_readGroups_47 ?_
          refine a_istore_n (ls' := [(3, aI (landI v3 (lxorI r7 (-1)))), (6, aI r7), (0, aR 88), (4, aI v4), (5, aI v5)]) hΓ dX10_readGroups_48 rfl (by decide) rfl ?_
          refine a_iload hΓ 3 dX10_readGroups_49 rfl ?_
          refine a_aload_n hΓ 2 dX10_readGroups_51 rfl rfl ?_
          refine n_getR hΓ fl_RX10_19 cl_10 kd_88 lz_88 dX10_readGroups_52 ft_10_0 rf_88_0 ?_
          refine a_iload hΓ 1 dX10_readGroups_55 rfl ?_
          obtain ⟨P11, q12, h⟩ := h
          refine n_callV (c := 83) (av := [aI r7]) (st := [aI v4]) hΓ (ct_wX2_greatestWorth _ _ r7 M8 P11 q12) my_X2_greatestWorth ml_RX10_90 ni_X2_greatestWorth kd_83 rfl lz_83 rfl (Nat.le_trans (by decide) hh) (by decide) (Nat.le_of_ble_eq_true rfl) rfl dX10_readGroups_57 (fun v Z' hq => ?_)
          obtain ⟨r13, M14, rfl, rfl, hq⟩ := hq
          have h := h r13 M14 hq
          dsimp only at h
          refine a_iadd hΓ dX10_readGroups_60 ?_
          refine a_istore (ls' := [(4, aI (v4 + r13)), (3, aI (landI v3 (lxorI r7 (-1)))), (6, aI r7), (0, aR 88), (5, aI v5)]) hΓ dX10_readGroups_61 (by decide) rfl ?_
          refine a_iinc (ls' := [(5, aI (v5 + 1)), (4, aI (v4 + r13)), (3, aI (landI v3 (lxorI r7 (-1)))), (6, aI r7), (0, aR 88)]) hΓ 4 dX10_readGroups_63 rfl (by decide) rfl ?_
          refine a_goto (tgt := 12) hΓ dX10_readGroups_66 (by decide) ?_
          refine a_sub (ls' := [(0, aR 88), (3, aI (landI v3 (lxorI r7 (-1)))), (4, aI (v4 + r13)), (5, aI (v5 + 1))]) [4, 2, 1, 0] rfl ?_
          exact ih (landI v3 (lxorI r7 (-1))) (v4 + r13) (v5 + 1) M14 h
    · rw [if_neg c2] at h
      refine a_sub (ls' := [(0, aR 88), (3, aI v3), (4, aI v4)]) [0, 1, 2] rfl ?_
      exact s_wX10_readGroups_69 hΓ (Nat.le_trans (by decide) hh) hr  M h
def wX10_readGroups (v1 : Int) (v2 : Int) (M : Mm) (Q : Int → Mm → Prop) : Prop :=
    Bv (wX10_step M) (fun M4 =>
    ∃ n, wX10_readGroups_12 Q n v1 v2 0 M4)
set_option maxHeartbeats 4000000 in
theorem s_wX10_readGroups {Γ : Cx} {h : Nat} (hΓ : Ok Γ cX10_readGroups RX10 7 h 0 0) (hh : 6 ≤ h) (hr : (cxm Γ).sig.returnType = (some .boolean)) {Q : Int → Mm → Prop} (v1 : Int) (v2 : Int) (M : Mm) (h : wX10_readGroups v1 v2 M Q) : Wa Γ 7 (Kf Γ (QI Q) 0 0) 0 0 0 [(0, aR 88), (1, aI v1), (2, aI v2)] [] (NC, RF, M) := by
  unfold wX10_readGroups at h
  refine a_iload_n hΓ 1 dX10_readGroups_0 rfl rfl ?_
  refine a_istore_n (ls' := [(3, aI v1), (0, aR 88), (1, aI v1), (2, aI v2)]) hΓ dX10_readGroups_1 rfl (by decide) rfl ?_
  refine a_iload_n hΓ 3 dX10_readGroups_2 rfl rfl ?_
  refine a_istore (ls' := [(4, aI v2), (3, aI v1), (0, aR 88), (1, aI v1), (2, aI v2)]) hΓ dX10_readGroups_3 (by decide) rfl ?_
  refine a_aload_n hΓ 2 dX10_readGroups_5 rfl rfl ?_
  obtain ⟨P1, q2, h⟩ := h
  refine n_callV (c := 88) (av := []) (st := []) hΓ (ct_wX10_step _ _  M P1 q2) my_X10_step ml_RX10_32 ni_X10_step kd_88 rfl lz_88 rfl (Nat.le_trans (by decide) hh) (by decide) (Nat.le_of_ble_eq_true rfl) rfl dX10_readGroups_6 (fun v Z' hq => ?_)
  obtain ⟨M4, rfl, rfl, hq⟩ := hq
  have h := h M4 hq
  dsimp only at h
  refine a_iconst hΓ dX10_readGroups_9 ?_
  refine a_istore (ls' := [(5, aI 0), (4, aI v2), (3, aI v1), (0, aR 88), (1, aI v1), (2, aI v2)]) hΓ dX10_readGroups_10 (by decide) rfl ?_
  refine a_sub (ls' := [(0, aR 88), (3, aI v1), (4, aI v2), (5, aI 0)]) [3, 2, 1, 0] rfl ?_
  obtain ⟨f5, h⟩ := h
  exact s_wX10_readGroups_12 hΓ (Nat.le_trans (by decide) hh) hr  f5 v1 v2 0 M4 h
theorem ct_wX10_readGroups (l : Launch) (g : Gp) (v1 : Int) (v2 : Int) (M : Mm) (Q : Int → Mm → Prop) (h : wX10_readGroups v1 v2 M Q) : Ct l g yX10_readGroups cX10_readGroups 7 (some .boolean) 6 0 0 [aR 88, aI v1, aI v2] (NC, RF, M) (QI Q) :=
  ct_of (by decide) (Nat.le_of_ble_eq_true rfl) (fun Γ hg hl hr _ hΓ => by subst hg; subst hl; exact s_wX10_readGroups hΓ (by decide) hr v1 v2 M h)
def wX10_readProof : Nat → Int → Int → Int → Mm → (Int → Mm → Prop) → Prop
  | 0, _, _, _, _, _ => False
  | f + 1, v1, v2, v3, M, Q => (inR v3) ∧
    (if v3 ≤ 24 then
      (inR (M 88 6)) ∧
      (if (M 88 6) = 91 then
        Bd (wX10_readGroups v1 v2 M) (fun r7 M8 =>
        (r7 = 0 ∨ r7 = 1) ∧
        Q r7 M8)
      else
        Bd (wX10_expect 40 M) (fun r12 M13 =>
        (inR r12) ∧
        (if r12 = 0 then
          Q 0 M13
        else
          Bd (wX10_isLogOf v1 M13) (fun r18 M19 =>
          (inR r18) ∧
          (if r18 = 0 then
            Bd (wX10_fail M19) (fun r24 M25 =>
            (r24 = 0 ∨ r24 = 1) ∧
            Q r24 M25)
          else
            Bv (wX10_step M19) (fun M30 =>
            (0 ≤ (M19 88 8) ∧ (M19 88 8) < 24) ∧
            Bd ((wX10_readProof f) (landI (landI v1 (lxorI (shlI 1 (M19 88 8)) (-1))) (lxorI (M30 84 (M19 88 8)) (-1))) (v2 + (M30 20 (M19 88 8))) (v3 + 1) M30) (fun r34 M35 =>
            (inR r34) ∧
            (if r34 = 0 then
              Q 0 M35
            else
              Bd ((wX10_readProof f) (landI v1 (lxorI (shlI 1 (M19 88 8)) (-1))) v2 (v3 + 1) M35) (fun r40 M41 =>
              (inR r40) ∧
              (if r40 = 0 then
                Q 0 M41
              else
                Bd (wX10_expect 41 M41) (fun r46 M47 =>
                (inR r46) ∧
                (if r46 = 0 then
                  Q 0 M47
                else
                  Q 1 M47))))))))))))
    else
      Bd (wX10_fail M) (fun r52 M53 =>
      (r52 = 0 ∨ r52 = 1) ∧
      Q r52 M53))
set_option maxHeartbeats 4000000 in
theorem s_wX10_readProof {Γ : Cx} {h : Nat} (hΓ : Ok Γ cX10_readProof RX10 6 h 0 0) (hh : 7 ≤ h) (hr : (cxm Γ).sig.returnType = (some .boolean)) {Q : Int → Mm → Prop} {f : Nat}  {h0 : Nat} (hrc : ∀ (a0 : Int) (a1 : Int) (a2 : Int) (M : Mm) (Q : Int → Mm → Prop), wX10_readProof f a0 a1 a2 M Q → Ct (cxl Γ) (cxg Γ) yX10_readProof cX10_readProof 6 (some .boolean) h0 0 0 [aR 88, aI a0, aI a1, aI a2] (NC, RF, M) (QI Q)) (hh0 : h0 + 1 ≤ h) (v1 : Int) (v2 : Int) (v3 : Int) (M : Mm) (h1 : wX10_readProof (f + 1) v1 v2 v3 M Q) : Wa Γ 6 (Kf Γ (QI Q) 0 0) 0 0 0 [(0, aR 88), (1, aI v1), (2, aI v2), (3, aI v3)] [] (NC, RF, M) := by
  have h := h1
  unfold wX10_readProof at h
  refine a_iload_n hΓ 3 dX10_readProof_0 rfl rfl ?_
  refine a_bipush hΓ dX10_readProof_1 (by decide) ?_
  obtain ⟨g1, h⟩ := h
  refine a_icmp_le (tgt := 11) hΓ g1 (inRl (by decide)) dX10_readProof_3 (by decide) (fun c2 => ?_) (fun c2 => ?_)
  · rw [if_pos c2] at h
    refine a_aload_n hΓ 0 dX10_readProof_11 rfl rfl ?_
    refine n_getI (x := (M 88 6)) hΓ fl_RX10_51 cl_10 kd_88 lz_88 dX10_readProof_12 (Or.inl ft_10_6) rfl ?_
    refine a_bipush hΓ dX10_readProof_15 (by decide) ?_
    obtain ⟨g3, h⟩ := h
    refine a_icmp_ne (tgt := 27) hΓ g3 (inRl (by decide)) dX10_readProof_17 (by decide) (fun c4 => ?_) (fun c4 => ?_)
    · rw [if_pos c4] at h
      refine a_aload_n hΓ 0 dX10_readProof_20 rfl rfl ?_
      refine a_iload_n hΓ 1 dX10_readProof_21 rfl rfl ?_
      refine a_iload_n hΓ 2 dX10_readProof_22 rfl rfl ?_
      obtain ⟨P5, q6, h⟩ := h
      refine n_callV (c := 88) (av := [aI v1, aI v2]) (st := []) hΓ (ct_wX10_readGroups _ _ v1 v2 M P5 q6) my_X10_readGroups ml_RX10_73 ni_X10_readGroups kd_88 rfl lz_88 rfl (Nat.le_trans (by decide) hh) (by decide) (Nat.le_of_ble_eq_true rfl) rfl dX10_readProof_23 (fun v Z' hq => ?_)
      obtain ⟨r7, M8, rfl, rfl, hq⟩ := hq
      have h := h r7 M8 hq
      dsimp only at h
      obtain ⟨g9, h⟩ := h
      exact a_zret hΓ hr g9 dX10_readProof_26 ⟨_, _, rfl, rfl, h⟩
    · rw [if_neg c4] at h
      refine a_aload_n hΓ 0 dX10_readProof_27 rfl rfl ?_
      refine a_bipush hΓ dX10_readProof_28 (by decide) ?_
      obtain ⟨P10, q11, h⟩ := h
      refine n_callV (c := 88) (av := [aI 40]) (st := []) hΓ (ct_wX10_expect _ _ 40 M P10 q11) my_X10_expect ml_RX10_44 ni_X10_expect kd_88 rfl lz_88 rfl (Nat.le_trans (by decide) hh) (by decide) (Nat.le_of_ble_eq_true rfl) rfl dX10_readProof_30 (fun v Z' hq => ?_)
      obtain ⟨r12, M13, rfl, rfl, hq⟩ := hq
      have h := h r12 M13 hq
      dsimp only at h
      obtain ⟨g14, h⟩ := h
      refine a_if_ne (tgt := 38) hΓ g14 dX10_readProof_33 (by decide) (fun c15 => ?_) (fun c15 => ?_)
      · rw [if_pos c15] at h
        refine a_iconst hΓ dX10_readProof_36 ?_
        exact a_zret hΓ hr (Or.inl rfl) dX10_readProof_37 ⟨_, _, rfl, rfl, h⟩
      · rw [if_neg c15] at h
        refine a_aload_n hΓ 0 dX10_readProof_38 rfl rfl ?_
        refine a_iload_n hΓ 1 dX10_readProof_39 rfl rfl ?_
        obtain ⟨P16, q17, h⟩ := h
        refine n_callV (c := 88) (av := [aI v1]) (st := []) hΓ (ct_wX10_isLogOf _ _ v1 M13 P16 q17) my_X10_isLogOf ml_RX10_77 ni_X10_isLogOf kd_88 rfl lz_88 rfl (Nat.le_trans (by decide) hh) (by decide) (Nat.le_of_ble_eq_true rfl) rfl dX10_readProof_40 (fun v Z' hq => ?_)
        obtain ⟨r18, M19, rfl, rfl, hq⟩ := hq
        have h := h r18 M19 hq
        dsimp only at h
        obtain ⟨g20, h⟩ := h
        refine a_if_ne (tgt := 51) hΓ g20 dX10_readProof_43 (by decide) (fun c21 => ?_) (fun c21 => ?_)
        · rw [if_pos c21] at h
          refine a_aload_n hΓ 0 dX10_readProof_46 rfl rfl ?_
          obtain ⟨P22, q23, h⟩ := h
          refine n_callV (c := 88) (av := []) (st := []) hΓ (ct_wX10_fail _ _  M19 P22 q23) my_X10_fail ml_RX10_69 ni_X10_fail kd_88 rfl lz_88 rfl (Nat.le_trans (by decide) hh) (by decide) (Nat.le_of_ble_eq_true rfl) rfl dX10_readProof_47 (fun v Z' hq => ?_)
          obtain ⟨r24, M25, rfl, rfl, hq⟩ := hq
          have h := h r24 M25 hq
          dsimp only at h
          obtain ⟨g26, h⟩ := h
          exact a_zret hΓ hr g26 dX10_readProof_50 ⟨_, _, rfl, rfl, h⟩
        · rw [if_neg c21] at h
          refine a_aload_n hΓ 0 dX10_readProof_51 rfl rfl ?_
          refine n_getI (x := (M19 88 8)) hΓ fl_RX10_60 cl_10 kd_88 lz_88 dX10_readProof_52 (Or.inl ft_10_8) rfl ?_
          refine a_istore (ls' := [(4, aI (M19 88 8)), (0, aR 88), (1, aI v1), (2, aI v2), (3, aI v3)]) hΓ dX10_readProof_55 (by decide) rfl ?_
          refine a_iload_n hΓ 2 dX10_readProof_57 rfl rfl ?_
          refine a_iconst hΓ dX10_readProof_58 ?_
          refine a_iload hΓ 0 dX10_readProof_59 rfl ?_
          refine a_ishl hΓ dX10_readProof_61 ?_
          refine a_iconst hΓ dX10_readProof_62 ?_
          refine a_ixor hΓ dX10_readProof_63 ?_
          refine a_iand hΓ dX10_readProof_64 ?_
          refine a_istore (ls' := [(5, aI (landI v1 (lxorI (shlI 1 (M19 88 8)) (-1)))), (4, aI (M19 88 8)), (0, aR 88), (1, aI v1), (2, aI v2), (3, aI v3)]) hΓ dX10_readProof_65 (by decide) rfl ?_
          refine a_aload_n hΓ 2 dX10_readProof_67 rfl rfl ?_
          obtain ⟨P27, q28, h⟩ := h
          refine n_callV (c := 88) (av := []) (st := []) hΓ (ct_wX10_step _ _  M19 P27 q28) my_X10_step ml_RX10_32 ni_X10_step kd_88 rfl lz_88 rfl (Nat.le_trans (by decide) hh) (by decide) (Nat.le_of_ble_eq_true rfl) rfl dX10_readProof_68 (fun v Z' hq => ?_)
          obtain ⟨M30, rfl, rfl, hq⟩ := hq
          have h := h M30 hq
          dsimp only at h
          refine a_aload_n hΓ 2 dX10_readProof_71 rfl rfl ?_
          refine a_iload hΓ 0 dX10_readProof_72 rfl ?_
          refine a_aload_n hΓ 2 dX10_readProof_74 rfl rfl ?_
          refine n_getR hΓ fl_RX10_19 cl_10 kd_88 lz_88 dX10_readProof_75 ft_10_0 rf_88_0 ?_
          refine n_getR hΓ fl_RX10_80 cl_2 kd_83 lz_83 dX10_readProof_78 ft_2_2 rf_83_2 ?_
          refine a_iload hΓ 1 dX10_readProof_81 rfl ?_
          obtain ⟨g31, h⟩ := h
          refine n_iald (x := (M30 84 (M19 88 8))) hΓ dX10_readProof_83 kd_84 lz_84 g31 rfl ?_
          refine a_iconst hΓ dX10_readProof_84 ?_
          refine a_ixor hΓ dX10_readProof_85 ?_
          refine a_iand hΓ dX10_readProof_86 ?_
          refine a_iload_n hΓ 4 dX10_readProof_87 rfl rfl ?_
          refine a_aload_n hΓ 2 dX10_readProof_88 rfl rfl ?_
          refine n_getR hΓ fl_RX10_19 cl_10 kd_88 lz_88 dX10_readProof_89 ft_10_0 rf_88_0 ?_
          refine n_getR hΓ fl_RX10_83 cl_2 kd_83 lz_83 dX10_readProof_92 ft_2_1 rf_83_1 ?_
          refine a_iload hΓ 1 dX10_readProof_95 rfl ?_
          refine n_iald (x := (M30 20 (M19 88 8))) hΓ dX10_readProof_97 kd_20 lz_20 g31 rfl ?_
          refine a_iadd hΓ dX10_readProof_98 ?_
          refine a_iload_n hΓ 5 dX10_readProof_99 rfl rfl ?_
          refine a_iconst hΓ dX10_readProof_100 ?_
          refine a_iadd hΓ dX10_readProof_101 ?_
          obtain ⟨P32, q33, h⟩ := h
          refine n_callV (c := 88) (av := [aI (landI (landI v1 (lxorI (shlI 1 (M19 88 8)) (-1))) (lxorI (M30 84 (M19 88 8)) (-1))), aI (v2 + (M30 20 (M19 88 8))), aI (v3 + 1)]) (st := []) hΓ (hrc (landI (landI v1 (lxorI (shlI 1 (M19 88 8)) (-1))) (lxorI (M30 84 (M19 88 8)) (-1))) (v2 + (M30 20 (M19 88 8))) (v3 + 1) M30 P32 q33) my_X10_readProof ml_RX10_40 ni_X10_readProof kd_88 rfl lz_88 rfl hh0 (by decide) (Nat.le_of_ble_eq_true rfl) rfl dX10_readProof_102 (fun v Z' hq => ?_)
          obtain ⟨r34, M35, rfl, rfl, hq⟩ := hq
          have h := h r34 M35 hq
          dsimp only at h
          obtain ⟨g36, h⟩ := h
          refine a_if_eq (tgt := 134) hΓ g36 dX10_readProof_105 (by decide) (fun c37 => ?_) (fun c37 => ?_)
          · rw [if_pos c37] at h
            refine a_iconst hΓ dX10_readProof_134 ?_
            exact a_zret hΓ hr (Or.inl rfl) dX10_readProof_135 ⟨_, _, rfl, rfl, h⟩
          · rw [if_neg c37] at h
            refine a_aload_n hΓ 2 dX10_readProof_108 rfl rfl ?_
            refine a_iload hΓ 0 dX10_readProof_109 rfl ?_
            refine a_iload_n hΓ 4 dX10_readProof_111 rfl rfl ?_
            refine a_iload_n hΓ 5 dX10_readProof_112 rfl rfl ?_
            refine a_iconst hΓ dX10_readProof_113 ?_
            refine a_iadd hΓ dX10_readProof_114 ?_
            obtain ⟨P38, q39, h⟩ := h
            refine n_callV (c := 88) (av := [aI (landI v1 (lxorI (shlI 1 (M19 88 8)) (-1))), aI v2, aI (v3 + 1)]) (st := []) hΓ (hrc (landI v1 (lxorI (shlI 1 (M19 88 8)) (-1))) v2 (v3 + 1) M35 P38 q39) my_X10_readProof ml_RX10_40 ni_X10_readProof kd_88 rfl lz_88 rfl hh0 (by decide) (Nat.le_of_ble_eq_true rfl) rfl dX10_readProof_115 (fun v Z' hq => ?_)
            obtain ⟨r40, M41, rfl, rfl, hq⟩ := hq
            have h := h r40 M41 hq
            dsimp only at h
            obtain ⟨g42, h⟩ := h
            refine a_if_eq (tgt := 134) hΓ g42 dX10_readProof_118 (by decide) (fun c43 => ?_) (fun c43 => ?_)
            · rw [if_pos c43] at h
              refine a_iconst hΓ dX10_readProof_134 ?_
              exact a_zret hΓ hr (Or.inl rfl) dX10_readProof_135 ⟨_, _, rfl, rfl, h⟩
            · rw [if_neg c43] at h
              refine a_aload_n hΓ 2 dX10_readProof_121 rfl rfl ?_
              refine a_bipush hΓ dX10_readProof_122 (by decide) ?_
              obtain ⟨P44, q45, h⟩ := h
              refine n_callV (c := 88) (av := [aI 41]) (st := []) hΓ (ct_wX10_expect _ _ 41 M41 P44 q45) my_X10_expect ml_RX10_44 ni_X10_expect kd_88 rfl lz_88 rfl (Nat.le_trans (by decide) hh) (by decide) (Nat.le_of_ble_eq_true rfl) rfl dX10_readProof_124 (fun v Z' hq => ?_)
              obtain ⟨r46, M47, rfl, rfl, hq⟩ := hq
              have h := h r46 M47 hq
              dsimp only at h
              obtain ⟨g48, h⟩ := h
              refine a_if_eq (tgt := 134) hΓ g48 dX10_readProof_127 (by decide) (fun c49 => ?_) (fun c49 => ?_)
              · rw [if_pos c49] at h
                refine a_iconst hΓ dX10_readProof_134 ?_
                exact a_zret hΓ hr (Or.inl rfl) dX10_readProof_135 ⟨_, _, rfl, rfl, h⟩
              · rw [if_neg c49] at h
                refine a_iconst hΓ dX10_readProof_130 ?_
                refine a_goto (tgt := 135) hΓ dX10_readProof_131 (by decide) ?_
                exact a_zret hΓ hr (Or.inr rfl) dX10_readProof_135 ⟨_, _, rfl, rfl, h⟩
  · rw [if_neg c2] at h
    refine a_aload_n hΓ 0 dX10_readProof_6 rfl rfl ?_
    obtain ⟨P50, q51, h⟩ := h
    refine n_callV (c := 88) (av := []) (st := []) hΓ (ct_wX10_fail _ _  M P50 q51) my_X10_fail ml_RX10_69 ni_X10_fail kd_88 rfl lz_88 rfl (Nat.le_trans (by decide) hh) (by decide) (Nat.le_of_ble_eq_true rfl) rfl dX10_readProof_7 (fun v Z' hq => ?_)
    obtain ⟨r52, M53, rfl, rfl, hq⟩ := hq
    have h := h r52 M53 hq
    dsimp only at h
    obtain ⟨g54, h⟩ := h
    exact a_zret hΓ hr g54 dX10_readProof_10 ⟨_, _, rfl, rfl, h⟩
theorem ct_wX10_readProof (l : Launch) (g : Gp) : ∀ (f : Nat) (v1 : Int) (v2 : Int) (v3 : Int) (M : Mm) (Q : Int → Mm → Prop), wX10_readProof f v1 v2 v3 M Q → Ct l g yX10_readProof cX10_readProof 6 (some .boolean) (7 + f) 0 0 [aR 88, aI v1, aI v2, aI v3] (NC, RF, M) (QI Q)
  | 0, _, _, _, _, _, h => absurd h (by unfold wX10_readProof; exact fun q => q)
  | f + 1, v1, v2, v3, M, Q, h => ct_of (by decide) (Nat.le_of_ble_eq_true rfl) (fun Γ hg hl hr _ hΓ => by subst hg; subst hl; exact s_wX10_readProof (f := f) hΓ (by omega) hr (h0 := 7 + f) (fun a0 a1 a2 M Q q => ct_wX10_readProof _ _ f a0 a1 a2 M Q q) (by omega) v1 v2 v3 M h)
def wX10_holdsProof (v1 : Int) (M : Mm) (Q : Int → Mm → Prop) : Prop :=
    Bv (wX10_step (up (up (up M 88 4 v1) 88 5 0) 88 3 (-1))) (fun M4 =>
    Bd (wX10_readProof 30 (M4 83 4) 0 1 M4) (fun r7 M8 =>
    (inR r7) ∧
    (if r7 = 0 then
      Q 0 M8
    else
      Bd (wX10_expect (-1) M8) (fun r14 M15 =>
      (inR r14) ∧
      (if r14 = 0 then
        Q 0 M15
      else
        Q 1 M15)))))
set_option maxHeartbeats 4000000 in
theorem s_wX10_holdsProof {Γ : Cx} {h : Nat} (hΓ : Ok Γ cX10_holdsProof RX10 2 h 0 0) (hh : 38 ≤ h) (hr : (cxm Γ).sig.returnType = (some .boolean)) {Q : Int → Mm → Prop} (v1 : Int) (M : Mm) (h : wX10_holdsProof v1 M Q) : Wa Γ 2 (Kf Γ (QI Q) 0 0) 0 0 0 [(0, aR 88), (1, aI v1)] [] (NC, RF, M) := by
  unfold wX10_holdsProof at h
  refine a_aload_n hΓ 0 dX10_holdsProof_0 rfl rfl ?_
  refine a_iload_n hΓ 1 dX10_holdsProof_1 rfl rfl ?_
  refine n_putI (j := 4) hΓ fl_RX10_26 cl_10 nf_10_4 kd_88 lz_88 dX10_holdsProof_2 (Or.inl ft_10_4) rfl ?_
  refine a_aload_n hΓ 0 dX10_holdsProof_5 rfl rfl ?_
  refine a_iconst hΓ dX10_holdsProof_6 ?_
  refine n_putI (j := 5) hΓ fl_RX10_29 cl_10 nf_10_5 kd_88 lz_88 dX10_holdsProof_7 (Or.inl ft_10_5) rfl ?_
  refine a_aload_n hΓ 0 dX10_holdsProof_10 rfl rfl ?_
  refine a_iconst hΓ dX10_holdsProof_11 ?_
  refine n_putI (j := 3) hΓ fl_RX10_15 cl_10 nf_10_3 kd_88 lz_88 dX10_holdsProof_12 (Or.inl ft_10_3) rfl ?_
  refine a_aload_n hΓ 0 dX10_holdsProof_15 rfl rfl ?_
  obtain ⟨P1, q2, h⟩ := h
  refine n_callV (c := 88) (av := []) (st := []) hΓ (ct_wX10_step _ _  (up (up (up M 88 4 v1) 88 5 0) 88 3 (-1)) P1 q2) my_X10_step ml_RX10_32 ni_X10_step kd_88 rfl lz_88 rfl (Nat.le_trans (by decide) hh) (by decide) (Nat.le_of_ble_eq_true rfl) rfl dX10_holdsProof_16 (fun v Z' hq => ?_)
  obtain ⟨M4, rfl, rfl, hq⟩ := hq
  have h := h M4 hq
  dsimp only at h
  refine a_aload_n hΓ 0 dX10_holdsProof_19 rfl rfl ?_
  refine a_aload_n hΓ 0 dX10_holdsProof_20 rfl rfl ?_
  refine n_getR hΓ fl_RX10_19 cl_10 kd_88 lz_88 dX10_holdsProof_21 ft_10_0 rf_88_0 ?_
  refine n_getI (x := (M4 83 4)) hΓ fl_RX10_35 cl_2 kd_83 lz_83 dX10_holdsProof_24 (Or.inl ft_2_4) rfl ?_
  refine a_iconst hΓ dX10_holdsProof_27 ?_
  refine a_iconst hΓ dX10_holdsProof_28 ?_
  obtain ⟨P5, q6, h⟩ := h
  refine n_callV (c := 88) (av := [aI (M4 83 4), aI 0, aI 1]) (st := []) hΓ (ct_wX10_readProof _ _ 30 (M4 83 4) 0 1 M4 P5 q6) my_X10_readProof ml_RX10_40 ni_X10_readProof kd_88 rfl lz_88 rfl (Nat.le_trans (by decide) hh) (by decide) (Nat.le_of_ble_eq_true rfl) rfl dX10_holdsProof_29 (fun v Z' hq => ?_)
  obtain ⟨r7, M8, rfl, rfl, hq⟩ := hq
  have h := h r7 M8 hq
  dsimp only at h
  obtain ⟨g10, h⟩ := h
  refine a_if_eq (tgt := 47) hΓ g10 dX10_holdsProof_32 (by decide) (fun c11 => ?_) (fun c11 => ?_)
  · rw [if_pos c11] at h
    refine a_iconst hΓ dX10_holdsProof_47 ?_
    exact a_zret hΓ hr (Or.inl rfl) dX10_holdsProof_48 ⟨_, _, rfl, rfl, h⟩
  · rw [if_neg c11] at h
    refine a_aload_n hΓ 0 dX10_holdsProof_35 rfl rfl ?_
    refine a_iconst hΓ dX10_holdsProof_36 ?_
    obtain ⟨P12, q13, h⟩ := h
    refine n_callV (c := 88) (av := [aI (-1)]) (st := []) hΓ (ct_wX10_expect _ _ (-1) M8 P12 q13) my_X10_expect ml_RX10_44 ni_X10_expect kd_88 rfl lz_88 rfl (Nat.le_trans (by decide) hh) (by decide) (Nat.le_of_ble_eq_true rfl) rfl dX10_holdsProof_37 (fun v Z' hq => ?_)
    obtain ⟨r14, M15, rfl, rfl, hq⟩ := hq
    have h := h r14 M15 hq
    dsimp only at h
    obtain ⟨g16, h⟩ := h
    refine a_if_eq (tgt := 47) hΓ g16 dX10_holdsProof_40 (by decide) (fun c17 => ?_) (fun c17 => ?_)
    · rw [if_pos c17] at h
      refine a_iconst hΓ dX10_holdsProof_47 ?_
      exact a_zret hΓ hr (Or.inl rfl) dX10_holdsProof_48 ⟨_, _, rfl, rfl, h⟩
    · rw [if_neg c17] at h
      refine a_iconst hΓ dX10_holdsProof_43 ?_
      refine a_goto (tgt := 48) hΓ dX10_holdsProof_44 (by decide) ?_
      exact a_zret hΓ hr (Or.inr rfl) dX10_holdsProof_48 ⟨_, _, rfl, rfl, h⟩
theorem ct_wX10_holdsProof (l : Launch) (g : Gp) (v1 : Int) (M : Mm) (Q : Int → Mm → Prop) (h : wX10_holdsProof v1 M Q) : Ct l g yX10_holdsProof cX10_holdsProof 2 (some .boolean) 38 0 0 [aR 88, aI v1] (NC, RF, M) (QI Q) :=
  ct_of (by decide) (Nat.le_of_ble_eq_true rfl) (fun Γ hg hl hr _ hΓ => by subst hg; subst hl; exact s_wX10_holdsProof hΓ (by decide) hr v1 M h)
def wX11_check (v1 : Int) (v2 : Int) (v3 : Int) (M : Mm) (Q : Int → Mm → Prop) : Prop :=
    Bd (wX11_isShip v1 M) (fun r3 M4 =>
    (inR r3) ∧
    (if r3 = 0 then
      Q (-1) (up M4 88 2 0)
    else
      Bd (wX11_isDay v2 M4) (fun r9 M10 =>
      (inR r9) ∧
      (if r9 = 0 then
        Q (-1) (up M10 88 2 0)
      else
        Bv (wX2_load v1 v2 M10) (fun M16 =>
        Bd (wX10_holdsProof v3 M16) (fun r19 M20 =>
        (inR r19) ∧
        (if r19 = 0 then
          Q 0 (up M20 88 2 0)
        else
          Q 1 (up M20 88 2 0))))))))
set_option maxHeartbeats 4000000 in
theorem s_wX11_check {Γ : Cx} {h : Nat} (hΓ : Ok Γ cX11_check RX11 5 h 0 0) (hh : 39 ≤ h) (hr : (cxm Γ).sig.returnType = (some .int)) {Q : Int → Mm → Prop} (v1 : Int) (v2 : Int) (v3 : Int) (M : Mm) (h : wX11_check v1 v2 v3 M Q) : Wa Γ 5 (Kf Γ (QI Q) 0 0) 0 0 0 [(0, aR 0), (1, aI v1), (2, aI v2), (3, aI v3)] [] (NC, RF, M) := by
  unfold wX11_check at h
  refine a_iconst hΓ dX11_check_0 ?_
  refine a_istore (ls' := [(4, aI (-1)), (0, aR 0), (1, aI v1), (2, aI v2), (3, aI v3)]) hΓ dX11_check_1 (by decide) rfl ?_
  refine a_aload_n hΓ 1 dX11_check_3 rfl rfl ?_
  refine a_iload_n hΓ 2 dX11_check_4 rfl rfl ?_
  obtain ⟨P1, q2, h⟩ := h
  refine n_callV (c := 0) (av := [aI v1]) (st := []) hΓ (ct_wX11_isShip _ _ v1 M P1 q2) my_X11_isShip ml_RX11_106 ni_X11_isShip kd_0 rfl lz_0 rfl (Nat.le_trans (by decide) hh) (by decide) (Nat.le_of_ble_eq_true rfl) rfl dX11_check_5 (fun v Z' hq => ?_)
  obtain ⟨r3, M4, rfl, rfl, hq⟩ := hq
  have h := h r3 M4 hq
  dsimp only at h
  obtain ⟨g5, h⟩ := h
  refine a_if_eq (tgt := 45) hΓ g5 dX11_check_8 (by decide) (fun c6 => ?_) (fun c6 => ?_)
  · rw [if_pos c6] at h
    refine a_aload_n hΓ 1 dX11_check_45 rfl rfl ?_
    refine n_getR hΓ fl_RX11_61 cl_11 kd_0 lz_0 dX11_check_46 ft_11_7 rf_0_7 ?_
    refine a_iconst hΓ dX11_check_49 ?_
    refine n_putI (j := 2) hΓ fl_RX11_266 cl_10 nf_10_2 kd_88 lz_88 dX11_check_50 (Or.inl ft_10_2) rfl ?_
    refine a_iload hΓ 0 dX11_check_53 rfl ?_
    exact a_iret hΓ hr dX11_check_55 ⟨_, _, rfl, rfl, h⟩
  · rw [if_neg c6] at h
    refine a_iload_n hΓ 3 dX11_check_11 rfl rfl ?_
    obtain ⟨P7, q8, h⟩ := h
    refine n_callS (av := [aI v2]) (st := []) hΓ (ct_wX11_isDay _ _ v2 M4 P7 q8) my_X11_isDay ml_RX11_102 rfl (Nat.le_trans (by decide) hh) (by decide) (Nat.le_of_ble_eq_true rfl) rfl dX11_check_12 (fun v Z' hq => ?_)
    obtain ⟨r9, M10, rfl, rfl, hq⟩ := hq
    have h := h r9 M10 hq
    dsimp only at h
    obtain ⟨g11, h⟩ := h
    refine a_if_eq (tgt := 45) hΓ g11 dX11_check_15 (by decide) (fun c12 => ?_) (fun c12 => ?_)
    · rw [if_pos c12] at h
      refine a_aload_n hΓ 1 dX11_check_45 rfl rfl ?_
      refine n_getR hΓ fl_RX11_61 cl_11 kd_0 lz_0 dX11_check_46 ft_11_7 rf_0_7 ?_
      refine a_iconst hΓ dX11_check_49 ?_
      refine n_putI (j := 2) hΓ fl_RX11_266 cl_10 nf_10_2 kd_88 lz_88 dX11_check_50 (Or.inl ft_10_2) rfl ?_
      refine a_iload hΓ 0 dX11_check_53 rfl ?_
      exact a_iret hΓ hr dX11_check_55 ⟨_, _, rfl, rfl, h⟩
    · rw [if_neg c12] at h
      refine a_aload_n hΓ 1 dX11_check_18 rfl rfl ?_
      refine n_getR hΓ fl_RX11_38 cl_11 kd_0 lz_0 dX11_check_19 ft_11_4 rf_0_4 ?_
      refine a_iload_n hΓ 2 dX11_check_22 rfl rfl ?_
      refine a_iload_n hΓ 3 dX11_check_23 rfl rfl ?_
      obtain ⟨P13, q14, h⟩ := h
      refine n_callV (c := 83) (av := [aI v1, aI v2]) (st := []) hΓ (ct_wX2_load _ _ v1 v2 M10 P13 q14) my_X2_load ml_RX11_220 ni_X2_load kd_83 rfl lz_83 rfl (Nat.le_trans (by decide) hh) (by decide) (Nat.le_of_ble_eq_true rfl) rfl dX11_check_24 (fun v Z' hq => ?_)
      obtain ⟨M16, rfl, rfl, hq⟩ := hq
      have h := h M16 hq
      dsimp only at h
      refine a_aload_n hΓ 1 dX11_check_27 rfl rfl ?_
      refine n_getR hΓ fl_RX11_61 cl_11 kd_0 lz_0 dX11_check_28 ft_11_7 rf_0_7 ?_
      refine a_iload_n hΓ 4 dX11_check_31 rfl rfl ?_
      obtain ⟨P17, q18, h⟩ := h
      refine n_callV (c := 88) (av := [aI v3]) (st := []) hΓ (ct_wX10_holdsProof _ _ v3 M16 P17 q18) my_X10_holdsProof ml_RX11_267 ni_X10_holdsProof kd_88 rfl lz_88 rfl (Nat.le_trans (by decide) hh) (by decide) (Nat.le_of_ble_eq_true rfl) rfl dX11_check_32 (fun v Z' hq => ?_)
      obtain ⟨r19, M20, rfl, rfl, hq⟩ := hq
      have h := h r19 M20 hq
      dsimp only at h
      obtain ⟨g21, h⟩ := h
      refine a_if_eq (tgt := 42) hΓ g21 dX11_check_35 (by decide) (fun c22 => ?_) (fun c22 => ?_)
      · rw [if_pos c22] at h
        refine a_iconst hΓ dX11_check_42 ?_
        refine a_istore (ls' := [(4, aI 0), (0, aR 0), (1, aI v1), (2, aI v2), (3, aI v3)]) hΓ dX11_check_43 (by decide) rfl ?_
        refine a_aload_n hΓ 1 dX11_check_45 rfl rfl ?_
        refine n_getR hΓ fl_RX11_61 cl_11 kd_0 lz_0 dX11_check_46 ft_11_7 rf_0_7 ?_
        refine a_iconst hΓ dX11_check_49 ?_
        refine n_putI (j := 2) hΓ fl_RX11_266 cl_10 nf_10_2 kd_88 lz_88 dX11_check_50 (Or.inl ft_10_2) rfl ?_
        refine a_iload hΓ 0 dX11_check_53 rfl ?_
        exact a_iret hΓ hr dX11_check_55 ⟨_, _, rfl, rfl, h⟩
      · rw [if_neg c22] at h
        refine a_iconst hΓ dX11_check_38 ?_
        refine a_goto (tgt := 43) hΓ dX11_check_39 (by decide) ?_
        refine a_istore (ls' := [(4, aI 1), (0, aR 0), (1, aI v1), (2, aI v2), (3, aI v3)]) hΓ dX11_check_43 (by decide) rfl ?_
        refine a_aload_n hΓ 1 dX11_check_45 rfl rfl ?_
        refine n_getR hΓ fl_RX11_61 cl_11 kd_0 lz_0 dX11_check_46 ft_11_7 rf_0_7 ?_
        refine a_iconst hΓ dX11_check_49 ?_
        refine n_putI (j := 2) hΓ fl_RX11_266 cl_10 nf_10_2 kd_88 lz_88 dX11_check_50 (Or.inl ft_10_2) rfl ?_
        refine a_iload hΓ 0 dX11_check_53 rfl ?_
        exact a_iret hΓ hr dX11_check_55 ⟨_, _, rfl, rfl, h⟩
theorem ct_wX11_check (l : Launch) (g : Gp) (v1 : Int) (v2 : Int) (v3 : Int) (M : Mm) (Q : Int → Mm → Prop) (h : wX11_check v1 v2 v3 M Q) : Ct l g yX11_check cX11_check 5 (some .int) 39 0 0 [aR 0, aI v1, aI v2, aI v3] (NC, RF, M) (QI Q) :=
  ct_of (by decide) (Nat.le_of_ble_eq_true rfl) (fun Γ hg hl hr _ hΓ => by subst hg; subst hl; exact s_wX11_check hΓ (by decide) hr v1 v2 v3 M h)
def wX11_fault  (M : Mm) (Q : Int → Mm → Prop) : Prop :=
    Q (M 88 3) M
set_option maxHeartbeats 4000000 in
theorem s_wX11_fault {Γ : Cx} {h : Nat} (hΓ : Ok Γ cX11_fault RX11 1 h 0 0) (hh : 1 ≤ h) (hr : (cxm Γ).sig.returnType = (some .int)) {Q : Int → Mm → Prop}  (M : Mm) (h : wX11_fault  M Q) : Wa Γ 1 (Kf Γ (QI Q) 0 0) 0 0 0 [(0, aR 0)] [] (NC, RF, M) := by
  unfold wX11_fault at h
  refine a_aload_n hΓ 0 dX11_fault_0 rfl rfl ?_
  refine n_getR hΓ fl_RX11_61 cl_11 kd_0 lz_0 dX11_fault_1 ft_11_7 rf_0_7 ?_
  refine n_getI (x := (M 88 3)) hΓ fl_RX11_270 cl_10 kd_88 lz_88 dX11_fault_4 (Or.inl ft_10_3) rfl ?_
  exact a_iret hΓ hr dX11_fault_7 ⟨_, _, rfl, rfl, h⟩
theorem ct_wX11_fault (l : Launch) (g : Gp)  (M : Mm) (Q : Int → Mm → Prop) (h : wX11_fault  M Q) : Ct l g yX11_fault cX11_fault 1 (some .int) 1 0 0 [aR 0] (NC, RF, M) (QI Q) :=
  ct_of (by decide) (Nat.le_of_ble_eq_true rfl) (fun Γ hg hl hr _ hΓ => by subst hg; subst hl; exact s_wX11_fault hΓ (by decide) hr  M h)
def wX5_sortByDay_34 (Q : Mm → Prop) (v1 : Int) : Nat → Int → Mm → Prop
  | 0, _, _ => False
  | f + 1, v3, M => (inR v3) ∧
    (inR (M 15 0)) ∧
    (if v3 < (M 15 0) then
      (if (landI (shrI v1 v3) 1) = 1 then
        (0 ≤ v3 ∧ v3 < 24) ∧
        (0 ≤ (M 17 v3) ∧ (M 17 v3) < 120) ∧
        (wX5_sortByDay_34 Q v1 f) (v3 + 1) (up M 94 (M 17 v3) (lorI (M 94 (M 17 v3)) (shlI 1 v3)))
      else
        (wX5_sortByDay_34 Q v1 f) (v3 + 1) M)
    else
      Q M)
set_option maxHeartbeats 4000000 in
theorem s_wX5_sortByDay_34 {Γ : Cx} {h : Nat} (hΓ : Ok Γ cX5_sortByDay RX5 4 h 0 0) (hh : 1 ≤ h) (hr : (cxm Γ).sig.returnType = none) {Q : Mm → Prop} {v1 : Int}   : ∀ (f : Nat) (v3 : Int) (M : Mm), wX5_sortByDay_34 Q v1 f v3 M → Wa Γ 4 (Kf Γ (QV Q) 0 0) 0 0 34 [(0, aR 90), (1, aI v1), (2, aR 15), (3, aI v3)] [] (NC, RF, M) := by
  intro f
  induction f with
  | zero => intro v3 M h; exact h.elim
  | succ f ih =>
    intro v3 M h
    unfold wX5_sortByDay_34 at h
    refine a_iload_n hΓ 3 dX5_sortByDay_34 rfl rfl ?_
    refine a_aload_n hΓ 2 dX5_sortByDay_35 rfl rfl ?_
    refine n_getI (x := (M 15 0)) hΓ fl_RX5_69 cl_4 kd_15 lz_15 dX5_sortByDay_36 (Or.inl ft_4_0) rfl ?_
    obtain ⟨g1, h⟩ := h
    obtain ⟨g2, h⟩ := h
    refine a_icmp_ge (tgt := 74) hΓ g1 g2 dX5_sortByDay_39 (by decide) (fun c3 => ?_) (fun c3 => ?_)
    · rw [if_pos c3] at h
      refine a_iload_n hΓ 1 dX5_sortByDay_42 rfl rfl ?_
      refine a_iload_n hΓ 3 dX5_sortByDay_43 rfl rfl ?_
      refine a_ishr hΓ dX5_sortByDay_44 ?_
      refine a_iconst hΓ dX5_sortByDay_45 ?_
      refine a_iand hΓ dX5_sortByDay_46 ?_
      refine a_iconst hΓ dX5_sortByDay_47 ?_
      refine a_icmp_ne (tgt := 68) hΓ (inR_land _ _) (inRl (by decide)) dX5_sortByDay_48 (by decide) (fun c4 => ?_) (fun c4 => ?_)
      · rw [if_pos c4] at h
        refine a_aload_n hΓ 0 dX5_sortByDay_51 rfl rfl ?_
        refine n_getR hΓ fl_RX5_18 cl_5 kd_90 lz_90 dX5_sortByDay_52 ft_5_2 rf_90_2 ?_
        refine a_aload_n hΓ 2 dX5_sortByDay_55 rfl rfl ?_
        refine n_getR hΓ fl_RX5_75 cl_4 kd_15 lz_15 dX5_sortByDay_56 ft_4_2 rf_15_2 ?_
        refine a_iload_n hΓ 3 dX5_sortByDay_59 rfl rfl ?_
        obtain ⟨g5, h⟩ := h
        refine n_iald (x := (M 17 v3)) hΓ dX5_sortByDay_60 kd_17 lz_17 g5 rfl ?_
        refine a_dup2 hΓ dX5_sortByDay_61 ?_
        obtain ⟨g6, h⟩ := h
        refine n_iald (x := (M 94 (M 17 v3))) hΓ dX5_sortByDay_62 kd_94 lz_94 g6 rfl ?_
        refine a_iconst hΓ dX5_sortByDay_63 ?_
        refine a_iload_n hΓ 3 dX5_sortByDay_64 rfl rfl ?_
        refine a_ishl hΓ dX5_sortByDay_65 ?_
        refine a_ior hΓ dX5_sortByDay_66 ?_
        refine a_iast hΓ dX5_sortByDay_67 kd_94 lz_94 g6 ?_
        refine a_iinc (ls' := [(3, aI (v3 + 1)), (0, aR 90), (1, aI v1), (2, aR 15)]) hΓ 3 dX5_sortByDay_68 rfl (by decide) rfl ?_
        refine a_goto (tgt := 34) hΓ dX5_sortByDay_71 (by decide) ?_
        refine a_sub (ls' := [(0, aR 90), (1, aI v1), (2, aR 15), (3, aI (v3 + 1))]) [1, 2, 3, 0] rfl ?_
        exact ih (v3 + 1) (up M 94 (M 17 v3) (lorI (M 94 (M 17 v3)) (shlI 1 v3))) h
      · rw [if_neg c4] at h
        refine a_iinc (ls' := [(3, aI (v3 + 1)), (0, aR 90), (1, aI v1), (2, aR 15)]) hΓ 3 dX5_sortByDay_68 rfl (by decide) rfl ?_
        refine a_goto (tgt := 34) hΓ dX5_sortByDay_71 (by decide) ?_
        refine a_sub (ls' := [(0, aR 90), (1, aI v1), (2, aR 15), (3, aI (v3 + 1))]) [1, 2, 3, 0] rfl ?_
        exact ih (v3 + 1) M h
    · rw [if_neg c3] at h
      exact a_vret hΓ hr dX5_sortByDay_74 ⟨_, rfl, rfl, h⟩
def wX5_sortByDay_21 (Q : Mm → Prop) (v1 : Int) (M : Mm) : Prop :=
    ∃ n, wX5_sortByDay_34 Q v1 n 0 M
set_option maxHeartbeats 4000000 in
theorem s_wX5_sortByDay_21 {Γ : Cx} {h : Nat} (hΓ : Ok Γ cX5_sortByDay RX5 4 h 0 0) (hh : 1 ≤ h) (hr : (cxm Γ).sig.returnType = none) {Q : Mm → Prop} {v1 : Int}   (M : Mm) (h : wX5_sortByDay_21 Q v1 M) : Wa Γ 4 (Kf Γ (QV Q) 0 0) 0 0 21 [(0, aR 90), (1, aI v1)] [] (NC, RF, M) := by
  unfold wX5_sortByDay_21 at h
  refine a_aload_n hΓ 0 dX5_sortByDay_21 rfl rfl ?_
  refine n_getR hΓ fl_RX5_37 cl_5 kd_90 lz_90 dX5_sortByDay_22 ft_5_0 rf_90_0 ?_
  refine n_getR hΓ fl_RX5_57 cl_6 kd_72 lz_72 dX5_sortByDay_25 ft_6_0 rf_72_0 ?_
  refine n_getR hΓ fl_RX5_63 cl_0 kd_1 lz_1 dX5_sortByDay_28 ft_0_14 rf_1_14 ?_
  refine a_astore_n (ls' := [(2, aR 15), (0, aR 90), (1, aI v1)]) hΓ dX5_sortByDay_31 rfl (by decide) rfl ?_
  refine a_iconst hΓ dX5_sortByDay_32 ?_
  refine a_istore_n (ls' := [(3, aI 0), (2, aR 15), (0, aR 90), (1, aI v1)]) hΓ dX5_sortByDay_33 rfl (by decide) rfl ?_
  refine a_sub (ls' := [(0, aR 90), (1, aI v1), (2, aR 15), (3, aI 0)]) [2, 3, 1, 0] rfl ?_
  obtain ⟨f1, h⟩ := h
  exact s_wX5_sortByDay_34 hΓ (Nat.le_trans (by decide) hh) hr  f1 0 M h
def wX5_sortByDay_2 (Q : Mm → Prop) (v1 : Int) : Nat → Int → Mm → Prop
  | 0, _, _ => False
  | f + 1, v2, M => (inR v2) ∧
    (if v2 < 120 then
      (0 ≤ v2 ∧ v2 < 120) ∧
      (wX5_sortByDay_2 Q v1 f) (v2 + 1) (up M 94 v2 0)
    else
      wX5_sortByDay_21 Q v1 M)
set_option maxHeartbeats 4000000 in
theorem s_wX5_sortByDay_2 {Γ : Cx} {h : Nat} (hΓ : Ok Γ cX5_sortByDay RX5 4 h 0 0) (hh : 1 ≤ h) (hr : (cxm Γ).sig.returnType = none) {Q : Mm → Prop} {v1 : Int}   : ∀ (f : Nat) (v2 : Int) (M : Mm), wX5_sortByDay_2 Q v1 f v2 M → Wa Γ 4 (Kf Γ (QV Q) 0 0) 0 0 2 [(0, aR 90), (1, aI v1), (2, aI v2)] [] (NC, RF, M) := by
  intro f
  induction f with
  | zero => intro v2 M h; exact h.elim
  | succ f ih =>
    intro v2 M h
    unfold wX5_sortByDay_2 at h
    refine a_iload_n hΓ 2 dX5_sortByDay_2 rfl rfl ?_
    refine a_bipush hΓ dX5_sortByDay_3 (by decide) ?_
    obtain ⟨g1, h⟩ := h
    refine a_icmp_ge (tgt := 21) hΓ g1 (inRl (by decide)) dX5_sortByDay_5 (by decide) (fun c2 => ?_) (fun c2 => ?_)
    · rw [if_pos c2] at h
      refine a_aload_n hΓ 0 dX5_sortByDay_8 rfl rfl ?_
      refine n_getR hΓ fl_RX5_18 cl_5 kd_90 lz_90 dX5_sortByDay_9 ft_5_2 rf_90_2 ?_
      refine a_iload_n hΓ 2 dX5_sortByDay_12 rfl rfl ?_
      refine a_iconst hΓ dX5_sortByDay_13 ?_
      obtain ⟨g3, h⟩ := h
      refine a_iast hΓ dX5_sortByDay_14 kd_94 lz_94 g3 ?_
      refine a_iinc (ls' := [(2, aI (v2 + 1)), (0, aR 90), (1, aI v1)]) hΓ 2 dX5_sortByDay_15 rfl (by decide) rfl ?_
      refine a_goto (tgt := 2) hΓ dX5_sortByDay_18 (by decide) ?_
      refine a_sub (ls' := [(0, aR 90), (1, aI v1), (2, aI (v2 + 1))]) [1, 2, 0] rfl ?_
      exact ih (v2 + 1) (up M 94 v2 0) h
    · rw [if_neg c2] at h
      refine a_sub (ls' := [(0, aR 90), (1, aI v1)]) [0, 1] rfl ?_
      exact s_wX5_sortByDay_21 hΓ (Nat.le_trans (by decide) hh) hr  M h
def wX5_sortByDay (v1 : Int) (M : Mm) (Q : Mm → Prop) : Prop :=
    ∃ n, wX5_sortByDay_2 Q v1 n 0 M
set_option maxHeartbeats 4000000 in
theorem s_wX5_sortByDay {Γ : Cx} {h : Nat} (hΓ : Ok Γ cX5_sortByDay RX5 4 h 0 0) (hh : 1 ≤ h) (hr : (cxm Γ).sig.returnType = none) {Q : Mm → Prop} (v1 : Int) (M : Mm) (h : wX5_sortByDay v1 M Q) : Wa Γ 4 (Kf Γ (QV Q) 0 0) 0 0 0 [(0, aR 90), (1, aI v1)] [] (NC, RF, M) := by
  unfold wX5_sortByDay at h
  refine a_iconst hΓ dX5_sortByDay_0 ?_
  refine a_istore_n (ls' := [(2, aI 0), (0, aR 90), (1, aI v1)]) hΓ dX5_sortByDay_1 rfl (by decide) rfl ?_
  refine a_sub (ls' := [(0, aR 90), (1, aI v1), (2, aI 0)]) [1, 2, 0] rfl ?_
  obtain ⟨f1, h⟩ := h
  exact s_wX5_sortByDay_2 hΓ (Nat.le_trans (by decide) hh) hr  f1 0 M h
theorem ct_wX5_sortByDay (l : Launch) (g : Gp) (v1 : Int) (M : Mm) (Q : Mm → Prop) (h : wX5_sortByDay v1 M Q) : Ct l g yX5_sortByDay cX5_sortByDay 4 none 1 0 0 [aR 90, aI v1] (NC, RF, M) (QV Q) :=
  ct_of (by decide) (Nat.le_of_ble_eq_true rfl) (fun Γ hg hl hr _ hΓ => by subst hg; subst hl; exact s_wX5_sortByDay hΓ (by decide) hr v1 M h)
def wX9_insertAt_72 (Q : Mm → Prop) (v1 : Int) (v2 : Int) (v3 : Int) (M : Mm) : Prop :=
    (0 ≤ v1 ∧ v1 < 96) ∧
    Q (up (up (up M 92 v1 v2) 93 v1 v3) 91 4 ((M 91 4) + 1))
set_option maxHeartbeats 4000000 in
theorem s_wX9_insertAt_72 {Γ : Cx} {h : Nat} (hΓ : Ok Γ cX9_insertAt RX9 5 h 0 0) (hh : 1 ≤ h) (hr : (cxm Γ).sig.returnType = none) {Q : Mm → Prop} {v1 v2 v3 : Int}   (M : Mm) (h : wX9_insertAt_72 Q v1 v2 v3 M) : Wa Γ 5 (Kf Γ (QV Q) 0 0) 0 0 72 [(0, aR 91), (1, aI v1), (2, aI v2), (3, aI v3)] [] (NC, RF, M) := by
  unfold wX9_insertAt_72 at h
  refine a_aload_n hΓ 0 dX9_insertAt_72 rfl rfl ?_
  refine n_getR hΓ fl_RX9_11 cl_9 kd_91 lz_91 dX9_insertAt_73 ft_9_5 rf_91_5 ?_
  refine a_iload_n hΓ 1 dX9_insertAt_76 rfl rfl ?_
  refine a_iload_n hΓ 2 dX9_insertAt_77 rfl rfl ?_
  obtain ⟨g1, h⟩ := h
  refine a_iast hΓ dX9_insertAt_78 kd_92 lz_92 g1 ?_
  refine a_aload_n hΓ 0 dX9_insertAt_79 rfl rfl ?_
  refine n_getR hΓ fl_RX9_15 cl_9 kd_91 lz_91 dX9_insertAt_80 ft_9_6 rf_91_6 ?_
  refine a_iload_n hΓ 1 dX9_insertAt_83 rfl rfl ?_
  refine a_iload_n hΓ 3 dX9_insertAt_84 rfl rfl ?_
  refine a_iast hΓ dX9_insertAt_85 kd_93 lz_93 g1 ?_
  refine a_aload_n hΓ 0 dX9_insertAt_86 rfl rfl ?_
  refine a_dupR hΓ dX9_insertAt_87 ?_
  refine n_getI (x := (M 91 4)) hΓ fl_RX9_31 cl_9 kd_91 lz_91 dX9_insertAt_88 (Or.inl ft_9_4) rfl ?_
  refine a_iconst hΓ dX9_insertAt_91 ?_
  refine a_iadd hΓ dX9_insertAt_92 ?_
  refine n_putI (j := 4) hΓ fl_RX9_31 cl_9 nf_9_4 kd_91 lz_91 dX9_insertAt_93 (Or.inl ft_9_4) rfl ?_
  exact a_vret hΓ hr dX9_insertAt_96 ⟨_, rfl, rfl, h⟩
def wX9_insertAt_28 (Q : Mm → Prop) (v1 : Int) (v2 : Int) (v3 : Int) : Nat → Int → Mm → Prop
  | 0, _, _ => False
  | f + 1, v4, M => (inR v4) ∧
    (inR v1) ∧
    (if v4 ≤ v1 then
      wX9_insertAt_72 Q v1 v2 v3 M
    else
      (0 ≤ (v4 - 1) ∧ (v4 - 1) < 96) ∧
      (0 ≤ v4 ∧ v4 < 96) ∧
      (wX9_insertAt_28 Q v1 v2 v3 f) (v4 + (-1)) (up (up M 92 v4 (M 92 (v4 - 1))) 93 v4 (M 93 (v4 - 1))))
set_option maxHeartbeats 4000000 in
theorem s_wX9_insertAt_28 {Γ : Cx} {h : Nat} (hΓ : Ok Γ cX9_insertAt RX9 5 h 0 0) (hh : 1 ≤ h) (hr : (cxm Γ).sig.returnType = none) {Q : Mm → Prop} {v1 v2 v3 : Int}   : ∀ (f : Nat) (v4 : Int) (M : Mm), wX9_insertAt_28 Q v1 v2 v3 f v4 M → Wa Γ 5 (Kf Γ (QV Q) 0 0) 0 0 28 [(0, aR 91), (1, aI v1), (2, aI v2), (3, aI v3), (4, aI v4)] [] (NC, RF, M) := by
  intro f
  induction f with
  | zero => intro v4 M h; exact h.elim
  | succ f ih =>
    intro v4 M h
    unfold wX9_insertAt_28 at h
    refine a_iload hΓ 4 dX9_insertAt_28 rfl ?_
    refine a_iload_n hΓ 1 dX9_insertAt_30 rfl rfl ?_
    obtain ⟨g1, h⟩ := h
    obtain ⟨g2, h⟩ := h
    refine a_icmp_le (tgt := 72) hΓ g1 g2 dX9_insertAt_31 (by decide) (fun c3 => ?_) (fun c3 => ?_)
    · rw [if_pos c3] at h
      refine a_sub (ls' := [(0, aR 91), (1, aI v1), (2, aI v2), (3, aI v3)]) [0, 1, 2, 3] rfl ?_
      exact s_wX9_insertAt_72 hΓ (Nat.le_trans (by decide) hh) hr  M h
    · rw [if_neg c3] at h
      refine a_aload_n hΓ 0 dX9_insertAt_34 rfl rfl ?_
      refine n_getR hΓ fl_RX9_11 cl_9 kd_91 lz_91 dX9_insertAt_35 ft_9_5 rf_91_5 ?_
      refine a_iload hΓ 4 dX9_insertAt_38 rfl ?_
      refine a_aload_n hΓ 0 dX9_insertAt_40 rfl rfl ?_
      refine n_getR hΓ fl_RX9_11 cl_9 kd_91 lz_91 dX9_insertAt_41 ft_9_5 rf_91_5 ?_
      refine a_iload hΓ 4 dX9_insertAt_44 rfl ?_
      refine a_iconst hΓ dX9_insertAt_46 ?_
      refine a_isub hΓ dX9_insertAt_47 ?_
      obtain ⟨g4, h⟩ := h
      refine n_iald (x := (M 92 (v4 - 1))) hΓ dX9_insertAt_48 kd_92 lz_92 g4 rfl ?_
      obtain ⟨g5, h⟩ := h
      refine a_iast hΓ dX9_insertAt_49 kd_92 lz_92 g5 ?_
      refine a_aload_n hΓ 0 dX9_insertAt_50 rfl rfl ?_
      refine n_getR hΓ fl_RX9_15 cl_9 kd_91 lz_91 dX9_insertAt_51 ft_9_6 rf_91_6 ?_
      refine a_iload hΓ 4 dX9_insertAt_54 rfl ?_
      refine a_aload_n hΓ 0 dX9_insertAt_56 rfl rfl ?_
      refine n_getR hΓ fl_RX9_15 cl_9 kd_91 lz_91 dX9_insertAt_57 ft_9_6 rf_91_6 ?_
      refine a_iload hΓ 4 dX9_insertAt_60 rfl ?_
      refine a_iconst hΓ dX9_insertAt_62 ?_
      refine a_isub hΓ dX9_insertAt_63 ?_
      refine n_iald (x := (M 93 (v4 - 1))) hΓ dX9_insertAt_64 kd_93 lz_93 g4 rfl ?_
      refine a_iast hΓ dX9_insertAt_65 kd_93 lz_93 g5 ?_
      refine a_iinc (ls' := [(4, aI (v4 + (-1))), (0, aR 91), (1, aI v1), (2, aI v2), (3, aI v3)]) hΓ 4 dX9_insertAt_66 rfl (by decide) rfl ?_
      refine a_goto (tgt := 28) hΓ dX9_insertAt_69 (by decide) ?_
      refine a_sub (ls' := [(0, aR 91), (1, aI v1), (2, aI v2), (3, aI v3), (4, aI (v4 + (-1)))]) [1, 2, 3, 4, 0] rfl ?_
      exact ih (v4 + (-1)) (up (up M 92 v4 (M 92 (v4 - 1))) 93 v4 (M 93 (v4 - 1))) h
def wX9_insertAt (v1 : Int) (v2 : Int) (v3 : Int) (M : Mm) (Q : Mm → Prop) : Prop :=
    (inR (M 91 4)) ∧
    (if (M 91 4) < 96 then
      (inR v1) ∧
      (if v1 < 0 then
        Q M
      else
        (if v1 ≤ (M 91 4) then
          ∃ n, wX9_insertAt_28 Q v1 v2 v3 n (M 91 4) M
        else
          Q M))
    else
      Q M)
set_option maxHeartbeats 4000000 in
theorem s_wX9_insertAt {Γ : Cx} {h : Nat} (hΓ : Ok Γ cX9_insertAt RX9 5 h 0 0) (hh : 1 ≤ h) (hr : (cxm Γ).sig.returnType = none) {Q : Mm → Prop} (v1 : Int) (v2 : Int) (v3 : Int) (M : Mm) (h : wX9_insertAt v1 v2 v3 M Q) : Wa Γ 5 (Kf Γ (QV Q) 0 0) 0 0 0 [(0, aR 91), (1, aI v1), (2, aI v2), (3, aI v3)] [] (NC, RF, M) := by
  unfold wX9_insertAt at h
  refine a_aload_n hΓ 0 dX9_insertAt_0 rfl rfl ?_
  refine n_getI (x := (M 91 4)) hΓ fl_RX9_31 cl_9 kd_91 lz_91 dX9_insertAt_1 (Or.inl ft_9_4) rfl ?_
  refine a_bipush hΓ dX9_insertAt_4 (by decide) ?_
  obtain ⟨g1, h⟩ := h
  refine a_icmp_ge (tgt := 21) hΓ g1 (inRl (by decide)) dX9_insertAt_6 (by decide) (fun c2 => ?_) (fun c2 => ?_)
  · rw [if_pos c2] at h
    refine a_iload_n hΓ 1 dX9_insertAt_9 rfl rfl ?_
    obtain ⟨g3, h⟩ := h
    refine a_if_lt (tgt := 21) hΓ g3 dX9_insertAt_10 (by decide) (fun c4 => ?_) (fun c4 => ?_)
    · rw [if_pos c4] at h
      exact a_vret hΓ hr dX9_insertAt_21 ⟨_, rfl, rfl, h⟩
    · rw [if_neg c4] at h
      refine a_iload_n hΓ 1 dX9_insertAt_13 rfl rfl ?_
      refine a_aload_n hΓ 0 dX9_insertAt_14 rfl rfl ?_
      refine n_getI (x := (M 91 4)) hΓ fl_RX9_31 cl_9 kd_91 lz_91 dX9_insertAt_15 (Or.inl ft_9_4) rfl ?_
      refine a_icmp_le (tgt := 22) hΓ g3 g1 dX9_insertAt_18 (by decide) (fun c5 => ?_) (fun c5 => ?_)
      · rw [if_pos c5] at h
        refine a_aload_n hΓ 0 dX9_insertAt_22 rfl rfl ?_
        refine n_getI (x := (M 91 4)) hΓ fl_RX9_31 cl_9 kd_91 lz_91 dX9_insertAt_23 (Or.inl ft_9_4) rfl ?_
        refine a_istore (ls' := [(4, aI (M 91 4)), (0, aR 91), (1, aI v1), (2, aI v2), (3, aI v3)]) hΓ dX9_insertAt_26 (by decide) rfl ?_
        refine a_sub (ls' := [(0, aR 91), (1, aI v1), (2, aI v2), (3, aI v3), (4, aI (M 91 4))]) [1, 2, 3, 4, 0] rfl ?_
        obtain ⟨f6, h⟩ := h
        exact s_wX9_insertAt_28 hΓ (Nat.le_trans (by decide) hh) hr  f6 (M 91 4) M h
      · rw [if_neg c5] at h
        exact a_vret hΓ hr dX9_insertAt_21 ⟨_, rfl, rfl, h⟩
  · rw [if_neg c2] at h
    exact a_vret hΓ hr dX9_insertAt_21 ⟨_, rfl, rfl, h⟩
theorem ct_wX9_insertAt (l : Launch) (g : Gp) (v1 : Int) (v2 : Int) (v3 : Int) (M : Mm) (Q : Mm → Prop) (h : wX9_insertAt v1 v2 v3 M Q) : Ct l g yX9_insertAt cX9_insertAt 5 none 1 0 0 [aR 91, aI v1, aI v2, aI v3] (NC, RF, M) (QV Q) :=
  ct_of (by decide) (Nat.le_of_ble_eq_true rfl) (fun Γ hg hl hr _ hΓ => by subst hg; subst hl; exact s_wX9_insertAt hΓ (by decide) hr v1 v2 v3 M h)
def wX9_insertByPlace_36 (Q : Mm → Prop) (v1 : Int) (v2 : Int) (v3 : Int) (M : Mm) : Prop :=
    Bv (wX9_insertAt v3 v1 v2 M) (fun M4 =>
    Q M4)
set_option maxHeartbeats 4000000 in
theorem s_wX9_insertByPlace_36 {Γ : Cx} {h : Nat} (hΓ : Ok Γ cX9_insertByPlace RX9 4 h 0 0) (hh : 2 ≤ h) (hr : (cxm Γ).sig.returnType = none) {Q : Mm → Prop} {v1 v2 v3 : Int}   (M : Mm) (h : wX9_insertByPlace_36 Q v1 v2 v3 M) : Wa Γ 4 (Kf Γ (QV Q) 0 0) 0 0 36 [(0, aR 91), (1, aI v1), (2, aI v2), (3, aI v3)] [] (NC, RF, M) := by
  unfold wX9_insertByPlace_36 at h
  refine a_aload_n hΓ 0 dX9_insertByPlace_36 rfl rfl ?_
  refine a_iload_n hΓ 3 dX9_insertByPlace_37 rfl rfl ?_
  refine a_iload_n hΓ 1 dX9_insertByPlace_38 rfl rfl ?_
  refine a_iload_n hΓ 2 dX9_insertByPlace_39 rfl rfl ?_
  obtain ⟨P1, q2, h⟩ := h
  refine n_callV (c := 91) (av := [aI v3, aI v1, aI v2]) (st := []) hΓ (ct_wX9_insertAt _ _ v3 v1 v2 M P1 q2) my_X9_insertAt ml_RX9_44 ni_X9_insertAt kd_91 rfl lz_91 rfl (Nat.le_trans (by decide) hh) (by decide) (Nat.le_of_ble_eq_true rfl) rfl dX9_insertByPlace_40 (fun v Z' hq => ?_)
  obtain ⟨M4, rfl, rfl, hq⟩ := hq
  have h := h M4 hq
  dsimp only at h
  exact a_vret hΓ hr dX9_insertByPlace_43 ⟨_, rfl, rfl, h⟩
def wX9_insertByPlace_14 (Q : Mm → Prop) (v1 : Int) (v2 : Int) : Nat → Int → Mm → Prop
  | 0, _, _ => False
  | f + 1, v3, M => (inR v3) ∧
    (if v3 ≤ 0 then
      wX9_insertByPlace_36 Q v1 v2 v3 M
    else
      (0 ≤ (v3 - 1) ∧ (v3 - 1) < 96) ∧
      (inR (M 92 (v3 - 1))) ∧
      (inR v1) ∧
      (if (M 92 (v3 - 1)) ≤ v1 then
        wX9_insertByPlace_36 Q v1 v2 v3 M
      else
        (wX9_insertByPlace_14 Q v1 v2 f) (v3 + (-1)) M))
set_option maxHeartbeats 4000000 in
theorem s_wX9_insertByPlace_14 {Γ : Cx} {h : Nat} (hΓ : Ok Γ cX9_insertByPlace RX9 4 h 0 0) (hh : 2 ≤ h) (hr : (cxm Γ).sig.returnType = none) {Q : Mm → Prop} {v1 v2 : Int}   : ∀ (f : Nat) (v3 : Int) (M : Mm), wX9_insertByPlace_14 Q v1 v2 f v3 M → Wa Γ 4 (Kf Γ (QV Q) 0 0) 0 0 14 [(0, aR 91), (1, aI v1), (2, aI v2), (3, aI v3)] [] (NC, RF, M) := by
  intro f
  induction f with
  | zero => intro v3 M h; exact h.elim
  | succ f ih =>
    intro v3 M h
    unfold wX9_insertByPlace_14 at h
    refine a_iload_n hΓ 3 dX9_insertByPlace_14 rfl rfl ?_
    obtain ⟨g1, h⟩ := h
    refine a_if_le (tgt := 36) hΓ g1 dX9_insertByPlace_15 (by decide) (fun c2 => ?_) (fun c2 => ?_)
    · rw [if_pos c2] at h
      exact s_wX9_insertByPlace_36 hΓ (Nat.le_trans (by decide) hh) hr  M h
    · rw [if_neg c2] at h
      refine a_aload_n hΓ 0 dX9_insertByPlace_18 rfl rfl ?_
      refine n_getR hΓ fl_RX9_11 cl_9 kd_91 lz_91 dX9_insertByPlace_19 ft_9_5 rf_91_5 ?_
      refine a_iload_n hΓ 3 dX9_insertByPlace_22 rfl rfl ?_
      refine a_iconst hΓ dX9_insertByPlace_23 ?_
      refine a_isub hΓ dX9_insertByPlace_24 ?_
      obtain ⟨g3, h⟩ := h
      refine n_iald (x := (M 92 (v3 - 1))) hΓ dX9_insertByPlace_25 kd_92 lz_92 g3 rfl ?_
      refine a_iload_n hΓ 1 dX9_insertByPlace_26 rfl rfl ?_
      obtain ⟨g4, h⟩ := h
      obtain ⟨g5, h⟩ := h
      refine a_icmp_le (tgt := 36) hΓ g4 g5 dX9_insertByPlace_27 (by decide) (fun c6 => ?_) (fun c6 => ?_)
      · rw [if_pos c6] at h
        exact s_wX9_insertByPlace_36 hΓ (Nat.le_trans (by decide) hh) hr  M h
      · rw [if_neg c6] at h
        refine a_iinc (ls' := [(3, aI (v3 + (-1))), (0, aR 91), (1, aI v1), (2, aI v2)]) hΓ 3 dX9_insertByPlace_30 rfl (by decide) rfl ?_
        refine a_goto (tgt := 14) hΓ dX9_insertByPlace_33 (by decide) ?_
        refine a_sub (ls' := [(0, aR 91), (1, aI v1), (2, aI v2), (3, aI (v3 + (-1)))]) [1, 2, 3, 0] rfl ?_
        exact ih (v3 + (-1)) M h
def wX9_insertByPlace (v1 : Int) (v2 : Int) (M : Mm) (Q : Mm → Prop) : Prop :=
    (inR v1) ∧
    (inR (M 91 1)) ∧
    (if v1 < (M 91 1) then
      ∃ n, wX9_insertByPlace_14 Q v1 v2 n (M 91 4) M
    else
      Q M)
set_option maxHeartbeats 4000000 in
theorem s_wX9_insertByPlace {Γ : Cx} {h : Nat} (hΓ : Ok Γ cX9_insertByPlace RX9 4 h 0 0) (hh : 2 ≤ h) (hr : (cxm Γ).sig.returnType = none) {Q : Mm → Prop} (v1 : Int) (v2 : Int) (M : Mm) (h : wX9_insertByPlace v1 v2 M Q) : Wa Γ 4 (Kf Γ (QV Q) 0 0) 0 0 0 [(0, aR 91), (1, aI v1), (2, aI v2)] [] (NC, RF, M) := by
  unfold wX9_insertByPlace at h
  refine a_iload_n hΓ 1 dX9_insertByPlace_0 rfl rfl ?_
  refine a_aload_n hΓ 0 dX9_insertByPlace_1 rfl rfl ?_
  refine n_getI (x := (M 91 1)) hΓ fl_RX9_22 cl_9 kd_91 lz_91 dX9_insertByPlace_2 (Or.inl ft_9_1) rfl ?_
  obtain ⟨g1, h⟩ := h
  obtain ⟨g2, h⟩ := h
  refine a_icmp_lt (tgt := 9) hΓ g1 g2 dX9_insertByPlace_5 (by decide) (fun c3 => ?_) (fun c3 => ?_)
  · rw [if_pos c3] at h
    refine a_aload_n hΓ 0 dX9_insertByPlace_9 rfl rfl ?_
    refine n_getI (x := (M 91 4)) hΓ fl_RX9_31 cl_9 kd_91 lz_91 dX9_insertByPlace_10 (Or.inl ft_9_4) rfl ?_
    refine a_istore_n (ls' := [(3, aI (M 91 4)), (0, aR 91), (1, aI v1), (2, aI v2)]) hΓ dX9_insertByPlace_13 rfl (by decide) rfl ?_
    refine a_sub (ls' := [(0, aR 91), (1, aI v1), (2, aI v2), (3, aI (M 91 4))]) [1, 2, 3, 0] rfl ?_
    obtain ⟨f4, h⟩ := h
    exact s_wX9_insertByPlace_14 hΓ (Nat.le_trans (by decide) hh) hr  f4 (M 91 4) M h
  · rw [if_neg c3] at h
    exact a_vret hΓ hr dX9_insertByPlace_8 ⟨_, rfl, rfl, h⟩
theorem ct_wX9_insertByPlace (l : Launch) (g : Gp) (v1 : Int) (v2 : Int) (M : Mm) (Q : Mm → Prop) (h : wX9_insertByPlace v1 v2 M Q) : Ct l g yX9_insertByPlace cX9_insertByPlace 4 none 2 0 0 [aR 91, aI v1, aI v2] (NC, RF, M) (QV Q) :=
  ct_of (by decide) (Nat.le_of_ble_eq_true rfl) (fun Γ hg hl hr _ hΓ => by subst hg; subst hl; exact s_wX9_insertByPlace hΓ (by decide) hr v1 v2 M h)
def wX9_addMiss_54 (Q : Mm → Prop) (v2 : Int) (v3 : Int) (M : Mm) : Prop :=
    (inR (M 91 0)) ∧
    (inR v2) ∧
    (if (M 91 0) < v2 then
      Bv (wX9_insertByPlace v2 v3 M) (fun M7 =>
      Q M7)
    else
      Q (up M 91 3 ((M 91 3) + v3)))
set_option maxHeartbeats 4000000 in
theorem s_wX9_addMiss_54 {Γ : Cx} {h : Nat} (hΓ : Ok Γ cX9_addMiss RX9 4 h 0 0) (hh : 3 ≤ h) (hr : (cxm Γ).sig.returnType = none) {Q : Mm → Prop} {v2 v3 : Int}   (M : Mm) (h : wX9_addMiss_54 Q v2 v3 M) : Wa Γ 4 (Kf Γ (QV Q) 0 0) 0 0 54 [(0, aR 91), (2, aI v2), (3, aI v3)] [] (NC, RF, M) := by
  unfold wX9_addMiss_54 at h
  refine a_aload_n hΓ 0 dX9_addMiss_54 rfl rfl ?_
  refine n_getI (x := (M 91 0)) hΓ fl_RX9_18 cl_9 kd_91 lz_91 dX9_addMiss_55 (Or.inl ft_9_0) rfl ?_
  refine a_iload_n hΓ 1 dX9_addMiss_58 rfl rfl ?_
  obtain ⟨g1, h⟩ := h
  obtain ⟨g2, h⟩ := h
  refine a_icmp_ge (tgt := 71) hΓ g1 g2 dX9_addMiss_59 (by decide) (fun c3 => ?_) (fun c3 => ?_)
  · rw [if_pos c3] at h
    refine a_aload_n hΓ 0 dX9_addMiss_62 rfl rfl ?_
    refine a_iload_n hΓ 1 dX9_addMiss_63 rfl rfl ?_
    refine a_iload_n hΓ 2 dX9_addMiss_64 rfl rfl ?_
    obtain ⟨P4, q5, h⟩ := h
    refine n_callV (c := 91) (av := [aI v2, aI v3]) (st := []) hΓ (ct_wX9_insertByPlace _ _ v2 v3 M P4 q5) my_X9_insertByPlace ml_RX9_40 ni_X9_insertByPlace kd_91 rfl lz_91 rfl (Nat.le_trans (by decide) hh) (by decide) (Nat.le_of_ble_eq_true rfl) rfl dX9_addMiss_65 (fun v Z' hq => ?_)
    obtain ⟨M7, rfl, rfl, hq⟩ := hq
    have h := h M7 hq
    dsimp only at h
    refine a_goto (tgt := 81) hΓ dX9_addMiss_68 (by decide) ?_
    exact a_vret hΓ hr dX9_addMiss_81 ⟨_, rfl, rfl, h⟩
  · rw [if_neg c3] at h
    refine a_aload_n hΓ 0 dX9_addMiss_71 rfl rfl ?_
    refine a_dupR hΓ dX9_addMiss_72 ?_
    refine n_getI (x := (M 91 3)) hΓ fl_RX9_28 cl_9 kd_91 lz_91 dX9_addMiss_73 (Or.inl ft_9_3) rfl ?_
    refine a_iload_n hΓ 2 dX9_addMiss_76 rfl rfl ?_
    refine a_iadd hΓ dX9_addMiss_77 ?_
    refine n_putI (j := 3) hΓ fl_RX9_28 cl_9 nf_9_3 kd_91 lz_91 dX9_addMiss_78 (Or.inl ft_9_3) rfl ?_
    exact a_vret hΓ hr dX9_addMiss_81 ⟨_, rfl, rfl, h⟩
def wX9_addMiss (v1 : Int) (v2 : Int) (v3 : Int) (M : Mm) (Q : Mm → Prop) : Prop :=
    Bd (wJ9_max_7cf53 (v1 - (M 91 0)) ((M 91 0) - v2) M) (fun r3 M4 =>
    Bd (wJ9_max_7cf53 0 r3 M4) (fun r7 M8 =>
    (inR (M8 91 0)) ∧
    (inR v1) ∧
    (if (M8 91 0) < v1 then
      Bv (wX9_insertByPlace v1 v3 (up (up M8 91 2 ((M 91 2) + (v3 * r7))) 91 3 ((M8 91 3) - v3))) (fun M15 =>
      wX9_addMiss_54 Q v2 v3 M15)
    else
      wX9_addMiss_54 Q v2 v3 (up M8 91 2 ((M 91 2) + (v3 * r7))))))
set_option maxHeartbeats 4000000 in
theorem s_wX9_addMiss {Γ : Cx} {h : Nat} (hΓ : Ok Γ cX9_addMiss RX9 4 h 0 0) (hh : 3 ≤ h) (hr : (cxm Γ).sig.returnType = none) {Q : Mm → Prop} (v1 : Int) (v2 : Int) (v3 : Int) (M : Mm) (h : wX9_addMiss v1 v2 v3 M Q) : Wa Γ 4 (Kf Γ (QV Q) 0 0) 0 0 0 [(0, aR 91), (1, aI v1), (2, aI v2), (3, aI v3)] [] (NC, RF, M) := by
  unfold wX9_addMiss at h
  refine a_aload_n hΓ 0 dX9_addMiss_0 rfl rfl ?_
  refine a_dupR hΓ dX9_addMiss_1 ?_
  refine n_getI (x := (M 91 2)) hΓ fl_RX9_25 cl_9 kd_91 lz_91 dX9_addMiss_2 (Or.inl ft_9_2) rfl ?_
  refine a_iload_n hΓ 3 dX9_addMiss_5 rfl rfl ?_
  refine a_iconst hΓ dX9_addMiss_6 ?_
  refine a_iload_n hΓ 1 dX9_addMiss_7 rfl rfl ?_
  refine a_aload_n hΓ 0 dX9_addMiss_8 rfl rfl ?_
  refine n_getI (x := (M 91 0)) hΓ fl_RX9_18 cl_9 kd_91 lz_91 dX9_addMiss_9 (Or.inl ft_9_0) rfl ?_
  refine a_isub hΓ dX9_addMiss_12 ?_
  refine a_aload_n hΓ 0 dX9_addMiss_13 rfl rfl ?_
  refine n_getI (x := (M 91 0)) hΓ fl_RX9_18 cl_9 kd_91 lz_91 dX9_addMiss_14 (Or.inl ft_9_0) rfl ?_
  refine a_iload_n hΓ 2 dX9_addMiss_17 rfl rfl ?_
  refine a_isub hΓ dX9_addMiss_18 ?_
  obtain ⟨P1, q2, h⟩ := h
  refine n_callS (av := [aI (v1 - (M 91 0)), aI ((M 91 0) - v2)]) (st := [aI 0, aI v3, aI (M 91 2), aR 91]) hΓ (ct_wJ9_max_7cf53 _ _ (v1 - (M 91 0)) ((M 91 0) - v2) M P1 q2) my_J9_max_7cf53 ml_RX9_34 rfl (Nat.le_trans (by decide) hh) (by decide) (Nat.le_of_ble_eq_true rfl) rfl dX9_addMiss_19 (fun v Z' hq => ?_)
  obtain ⟨r3, M4, rfl, rfl, hq⟩ := hq
  have h := h r3 M4 hq
  dsimp only at h
  obtain ⟨P5, q6, h⟩ := h
  refine n_callS (av := [aI 0, aI r3]) (st := [aI v3, aI (M 91 2), aR 91]) hΓ (ct_wJ9_max_7cf53 _ _ 0 r3 M4 P5 q6) my_J9_max_7cf53 ml_RX9_34 rfl (Nat.le_trans (by decide) hh) (by decide) (Nat.le_of_ble_eq_true rfl) rfl dX9_addMiss_22 (fun v Z' hq => ?_)
  obtain ⟨r7, M8, rfl, rfl, hq⟩ := hq
  have h := h r7 M8 hq
  dsimp only at h
  refine a_imul hΓ dX9_addMiss_25 ?_
  refine a_iadd hΓ dX9_addMiss_26 ?_
  refine n_putI (j := 2) hΓ fl_RX9_25 cl_9 nf_9_2 kd_91 lz_91 dX9_addMiss_27 (Or.inl ft_9_2) rfl ?_
  refine a_aload_n hΓ 0 dX9_addMiss_30 rfl rfl ?_
  refine n_getI (x := (M8 91 0)) hΓ fl_RX9_18 cl_9 kd_91 lz_91 dX9_addMiss_31 (Or.inl ft_9_0) rfl ?_
  refine a_iload_n hΓ 1 dX9_addMiss_34 rfl rfl ?_
  obtain ⟨g9, h⟩ := h
  obtain ⟨g10, h⟩ := h
  refine a_icmp_ge (tgt := 54) hΓ g9 g10 dX9_addMiss_35 (by decide) (fun c11 => ?_) (fun c11 => ?_)
  · rw [if_pos c11] at h
    refine a_aload_n hΓ 0 dX9_addMiss_38 rfl rfl ?_
    refine a_dupR hΓ dX9_addMiss_39 ?_
    refine n_getI (x := (M8 91 3)) hΓ fl_RX9_28 cl_9 kd_91 lz_91 dX9_addMiss_40 (Or.inl ft_9_3) rfl ?_
    refine a_iload_n hΓ 3 dX9_addMiss_43 rfl rfl ?_
    refine a_isub hΓ dX9_addMiss_44 ?_
    refine n_putI (j := 3) hΓ fl_RX9_28 cl_9 nf_9_3 kd_91 lz_91 dX9_addMiss_45 (Or.inl ft_9_3) rfl ?_
    refine a_aload_n hΓ 0 dX9_addMiss_48 rfl rfl ?_
    refine a_iload_n hΓ 1 dX9_addMiss_49 rfl rfl ?_
    refine a_iload_n hΓ 3 dX9_addMiss_50 rfl rfl ?_
    obtain ⟨P12, q13, h⟩ := h
    refine n_callV (c := 91) (av := [aI v1, aI v3]) (st := []) hΓ (ct_wX9_insertByPlace _ _ v1 v3 (up (up M8 91 2 ((M 91 2) + (v3 * r7))) 91 3 ((M8 91 3) - v3)) P12 q13) my_X9_insertByPlace ml_RX9_40 ni_X9_insertByPlace kd_91 rfl lz_91 rfl (Nat.le_trans (by decide) hh) (by decide) (Nat.le_of_ble_eq_true rfl) rfl dX9_addMiss_51 (fun v Z' hq => ?_)
    obtain ⟨M15, rfl, rfl, hq⟩ := hq
    have h := h M15 hq
    dsimp only at h
    refine a_sub (ls' := [(0, aR 91), (2, aI v2), (3, aI v3)]) [0, 2, 3] rfl ?_
    exact s_wX9_addMiss_54 hΓ (Nat.le_trans (by decide) hh) hr  M15 h
  · rw [if_neg c11] at h
    refine a_sub (ls' := [(0, aR 91), (2, aI v2), (3, aI v3)]) [0, 2, 3] rfl ?_
    exact s_wX9_addMiss_54 hΓ (Nat.le_trans (by decide) hh) hr  (up M8 91 2 ((M 91 2) + (v3 * r7))) h
theorem ct_wX9_addMiss (l : Launch) (g : Gp) (v1 : Int) (v2 : Int) (v3 : Int) (M : Mm) (Q : Mm → Prop) (h : wX9_addMiss v1 v2 v3 M Q) : Ct l g yX9_addMiss cX9_addMiss 4 none 3 0 0 [aR 91, aI v1, aI v2, aI v3] (NC, RF, M) (QV Q) :=
  ct_of (by decide) (Nat.le_of_ble_eq_true rfl) (fun Γ hg hl hr _ hΓ => by subst hg; subst hl; exact s_wX9_addMiss hΓ (by decide) hr v1 v2 v3 M h)
def wX5_addLogs_12 (Q : Mm → Prop) (v1 : Int) : Nat → Int → Mm → Prop
  | 0, _, _ => False
  | f + 1, v2, M => (inR v2) ∧
    (if v2 < 24 then
      (0 ≤ v1 ∧ v1 < 120) ∧
      (if (landI (shrI (M 94 v1) v2) 1) = 1 then
        (0 ≤ v2 ∧ v2 < 24) ∧
        Bv (wX9_addMiss (M 79 v2) (M 80 v2) (M 20 v2) M) (fun M9 =>
        (wX5_addLogs_12 Q v1 f) (v2 + 1) M9)
      else
        (wX5_addLogs_12 Q v1 f) (v2 + 1) M)
    else
      Q M)
set_option maxHeartbeats 4000000 in
theorem s_wX5_addLogs_12 {Γ : Cx} {h : Nat} (hΓ : Ok Γ cX5_addLogs RX5 3 h 0 0) (hh : 4 ≤ h) (hr : (cxm Γ).sig.returnType = none) {Q : Mm → Prop} {v1 : Int}   : ∀ (f : Nat) (v2 : Int) (M : Mm), wX5_addLogs_12 Q v1 f v2 M → Wa Γ 3 (Kf Γ (QV Q) 0 0) 0 0 12 [(0, aR 90), (1, aI v1), (2, aI v2)] [] (NC, RF, M) := by
  intro f
  induction f with
  | zero => intro v2 M h; exact h.elim
  | succ f ih =>
    intro v2 M h
    unfold wX5_addLogs_12 at h
    refine a_iload_n hΓ 2 dX5_addLogs_12 rfl rfl ?_
    refine a_bipush hΓ dX5_addLogs_13 (by decide) ?_
    obtain ⟨g1, h⟩ := h
    refine a_icmp_ge (tgt := 78) hΓ g1 (inRl (by decide)) dX5_addLogs_15 (by decide) (fun c2 => ?_) (fun c2 => ?_)
    · rw [if_pos c2] at h
      refine a_aload_n hΓ 0 dX5_addLogs_18 rfl rfl ?_
      refine n_getR hΓ fl_RX5_18 cl_5 kd_90 lz_90 dX5_addLogs_19 ft_5_2 rf_90_2 ?_
      refine a_iload_n hΓ 1 dX5_addLogs_22 rfl rfl ?_
      obtain ⟨g3, h⟩ := h
      refine n_iald (x := (M 94 v1)) hΓ dX5_addLogs_23 kd_94 lz_94 g3 rfl ?_
      refine a_iload_n hΓ 2 dX5_addLogs_24 rfl rfl ?_
      refine a_ishr hΓ dX5_addLogs_25 ?_
      refine a_iconst hΓ dX5_addLogs_26 ?_
      refine a_iand hΓ dX5_addLogs_27 ?_
      refine a_iconst hΓ dX5_addLogs_28 ?_
      refine a_icmp_ne (tgt := 72) hΓ (inR_land _ _) (inRl (by decide)) dX5_addLogs_29 (by decide) (fun c4 => ?_) (fun c4 => ?_)
      · rw [if_pos c4] at h
        refine a_aload_n hΓ 0 dX5_addLogs_32 rfl rfl ?_
        refine n_getR hΓ fl_RX5_12 cl_5 kd_90 lz_90 dX5_addLogs_33 ft_5_1 rf_90_1 ?_
        refine a_aload_n hΓ 0 dX5_addLogs_36 rfl rfl ?_
        refine n_getR hΓ fl_RX5_37 cl_5 kd_90 lz_90 dX5_addLogs_37 ft_5_0 rf_90_0 ?_
        refine n_getR hΓ fl_RX5_120 cl_6 kd_72 lz_72 dX5_addLogs_40 ft_6_9 rf_72_9 ?_
        refine a_iload_n hΓ 2 dX5_addLogs_43 rfl rfl ?_
        obtain ⟨g5, h⟩ := h
        refine n_iald (x := (M 79 v2)) hΓ dX5_addLogs_44 kd_79 lz_79 g5 rfl ?_
        refine a_aload_n hΓ 0 dX5_addLogs_45 rfl rfl ?_
        refine n_getR hΓ fl_RX5_37 cl_5 kd_90 lz_90 dX5_addLogs_46 ft_5_0 rf_90_0 ?_
        refine n_getR hΓ fl_RX5_123 cl_6 kd_72 lz_72 dX5_addLogs_49 ft_6_10 rf_72_10 ?_
        refine a_iload_n hΓ 2 dX5_addLogs_52 rfl rfl ?_
        refine n_iald (x := (M 80 v2)) hΓ dX5_addLogs_53 kd_80 lz_80 g5 rfl ?_
        refine a_aload_n hΓ 0 dX5_addLogs_54 rfl rfl ?_
        refine n_getR hΓ fl_RX5_37 cl_5 kd_90 lz_90 dX5_addLogs_55 ft_5_0 rf_90_0 ?_
        refine n_getR hΓ fl_RX5_57 cl_6 kd_72 lz_72 dX5_addLogs_58 ft_6_0 rf_72_0 ?_
        refine n_getR hΓ fl_RX5_63 cl_0 kd_1 lz_1 dX5_addLogs_61 ft_0_14 rf_1_14 ?_
        refine n_getR hΓ fl_RX5_126 cl_4 kd_15 lz_15 dX5_addLogs_64 ft_4_5 rf_15_5 ?_
        refine a_iload_n hΓ 2 dX5_addLogs_67 rfl rfl ?_
        refine n_iald (x := (M 20 v2)) hΓ dX5_addLogs_68 kd_20 lz_20 g5 rfl ?_
        obtain ⟨P6, q7, h⟩ := h
        refine n_callV (c := 91) (av := [aI (M 79 v2), aI (M 80 v2), aI (M 20 v2)]) (st := []) hΓ (ct_wX9_addMiss _ _ (M 79 v2) (M 80 v2) (M 20 v2) M P6 q7) my_X9_addMiss ml_RX5_129 ni_X9_addMiss kd_91 rfl lz_91 rfl (Nat.le_trans (by decide) hh) (by decide) (Nat.le_of_ble_eq_true rfl) rfl dX5_addLogs_69 (fun v Z' hq => ?_)
        obtain ⟨M9, rfl, rfl, hq⟩ := hq
        have h := h M9 hq
        dsimp only at h
        refine a_iinc (ls' := [(2, aI (v2 + 1)), (0, aR 90), (1, aI v1)]) hΓ 2 dX5_addLogs_72 rfl (by decide) rfl ?_
        refine a_goto (tgt := 12) hΓ dX5_addLogs_75 (by decide) ?_
        refine a_sub (ls' := [(0, aR 90), (1, aI v1), (2, aI (v2 + 1))]) [1, 2, 0] rfl ?_
        exact ih (v2 + 1) M9 h
      · rw [if_neg c4] at h
        refine a_iinc (ls' := [(2, aI (v2 + 1)), (0, aR 90), (1, aI v1)]) hΓ 2 dX5_addLogs_72 rfl (by decide) rfl ?_
        refine a_goto (tgt := 12) hΓ dX5_addLogs_75 (by decide) ?_
        refine a_sub (ls' := [(0, aR 90), (1, aI v1), (2, aI (v2 + 1))]) [1, 2, 0] rfl ?_
        exact ih (v2 + 1) M h
    · rw [if_neg c2] at h
      exact a_vret hΓ hr dX5_addLogs_78 ⟨_, rfl, rfl, h⟩
def wX5_addLogs (v1 : Int) (M : Mm) (Q : Mm → Prop) : Prop :=
    (0 ≤ v1 ∧ v1 < 120) ∧
    (inR (M 94 v1)) ∧
    (if (M 94 v1) = 0 then
      Q M
    else
      ∃ n, wX5_addLogs_12 Q v1 n 0 M)
set_option maxHeartbeats 4000000 in
theorem s_wX5_addLogs {Γ : Cx} {h : Nat} (hΓ : Ok Γ cX5_addLogs RX5 3 h 0 0) (hh : 4 ≤ h) (hr : (cxm Γ).sig.returnType = none) {Q : Mm → Prop} (v1 : Int) (M : Mm) (h : wX5_addLogs v1 M Q) : Wa Γ 3 (Kf Γ (QV Q) 0 0) 0 0 0 [(0, aR 90), (1, aI v1)] [] (NC, RF, M) := by
  unfold wX5_addLogs at h
  refine a_aload_n hΓ 0 dX5_addLogs_0 rfl rfl ?_
  refine n_getR hΓ fl_RX5_18 cl_5 kd_90 lz_90 dX5_addLogs_1 ft_5_2 rf_90_2 ?_
  refine a_iload_n hΓ 1 dX5_addLogs_4 rfl rfl ?_
  obtain ⟨g1, h⟩ := h
  refine n_iald (x := (M 94 v1)) hΓ dX5_addLogs_5 kd_94 lz_94 g1 rfl ?_
  obtain ⟨g2, h⟩ := h
  refine a_if_ne (tgt := 10) hΓ g2 dX5_addLogs_6 (by decide) (fun c3 => ?_) (fun c3 => ?_)
  · rw [if_pos c3] at h
    exact a_vret hΓ hr dX5_addLogs_9 ⟨_, rfl, rfl, h⟩
  · rw [if_neg c3] at h
    refine a_iconst hΓ dX5_addLogs_10 ?_
    refine a_istore_n (ls' := [(2, aI 0), (0, aR 90), (1, aI v1)]) hΓ dX5_addLogs_11 rfl (by decide) rfl ?_
    refine a_sub (ls' := [(0, aR 90), (1, aI v1), (2, aI 0)]) [1, 2, 0] rfl ?_
    obtain ⟨f4, h⟩ := h
    exact s_wX5_addLogs_12 hΓ (Nat.le_trans (by decide) hh) hr  f4 0 M h
theorem ct_wX5_addLogs (l : Launch) (g : Gp) (v1 : Int) (M : Mm) (Q : Mm → Prop) (h : wX5_addLogs v1 M Q) : Ct l g yX5_addLogs cX5_addLogs 3 none 4 0 0 [aR 90, aI v1] (NC, RF, M) (QV Q) :=
  ct_of (by decide) (Nat.le_of_ble_eq_true rfl) (fun Γ hg hl hr _ hΓ => by subst hg; subst hl; exact s_wX5_addLogs hΓ (by decide) hr v1 M h)
def wX9_bottom_40 (Q : Int → Mm → Prop) (v2 : Int) (M : Mm) : Prop :=
    (0 ≤ v2 ∧ v2 < 96) ∧
    Q (M 92 v2) M
set_option maxHeartbeats 4000000 in
theorem s_wX9_bottom_40 {Γ : Cx} {h : Nat} (hΓ : Ok Γ cX9_bottom RX9 3 h 0 0) (hh : 1 ≤ h) (hr : (cxm Γ).sig.returnType = (some .int)) {Q : Int → Mm → Prop} {v2 : Int}   (M : Mm) (h : wX9_bottom_40 Q v2 M) : Wa Γ 3 (Kf Γ (QI Q) 0 0) 0 0 40 [(0, aR 91), (2, aI v2)] [] (NC, RF, M) := by
  unfold wX9_bottom_40 at h
  refine a_aload_n hΓ 0 dX9_bottom_40 rfl rfl ?_
  refine n_getR hΓ fl_RX9_11 cl_9 kd_91 lz_91 dX9_bottom_41 ft_9_5 rf_91_5 ?_
  refine a_iload_n hΓ 1 dX9_bottom_44 rfl rfl ?_
  obtain ⟨g1, h⟩ := h
  refine n_iald (x := (M 92 v2)) hΓ dX9_bottom_45 kd_92 lz_92 g1 rfl ?_
  exact a_iret hΓ hr dX9_bottom_46 ⟨_, _, rfl, rfl, h⟩
def wX9_bottom_19 (Q : Int → Mm → Prop) : Nat → Int → Int → Mm → Prop
  | 0, _, _, _ => False
  | f + 1, v1, v2, M => (inR v2) ∧
    (inR (M 91 4)) ∧
    (if v2 < (M 91 4) then
      (0 ≤ v2 ∧ v2 < 96) ∧
      (inR (v1 + (M 93 v2))) ∧
      (if (v1 + (M 93 v2)) < 0 then
        (wX9_bottom_19 Q f) (v1 + (M 93 v2)) (v2 + 1) M
      else
        wX9_bottom_40 Q v2 M)
    else
      Q (M 91 1) M)
set_option maxHeartbeats 4000000 in
theorem s_wX9_bottom_19 {Γ : Cx} {h : Nat} (hΓ : Ok Γ cX9_bottom RX9 3 h 0 0) (hh : 1 ≤ h) (hr : (cxm Γ).sig.returnType = (some .int)) {Q : Int → Mm → Prop}   : ∀ (f : Nat) (v1 : Int) (v2 : Int) (M : Mm), wX9_bottom_19 Q  f v1 v2 M → Wa Γ 3 (Kf Γ (QI Q) 0 0) 0 0 19 [(0, aR 91), (1, aI v1), (2, aI v2)] [] (NC, RF, M) := by
  intro f
  induction f with
  | zero => intro v1 v2 M h; exact h.elim
  | succ f ih =>
    intro v1 v2 M h
    unfold wX9_bottom_19 at h
    refine a_iload_n hΓ 2 dX9_bottom_19 rfl rfl ?_
    refine a_aload_n hΓ 0 dX9_bottom_20 rfl rfl ?_
    refine n_getI (x := (M 91 4)) hΓ fl_RX9_31 cl_9 kd_91 lz_91 dX9_bottom_21 (Or.inl ft_9_4) rfl ?_
    obtain ⟨g1, h⟩ := h
    obtain ⟨g2, h⟩ := h
    refine a_icmp_ge (tgt := 53) hΓ g1 g2 dX9_bottom_24 (by decide) (fun c3 => ?_) (fun c3 => ?_)
    · rw [if_pos c3] at h
      refine a_iload_n hΓ 1 dX9_bottom_27 rfl rfl ?_
      refine a_aload_n hΓ 0 dX9_bottom_28 rfl rfl ?_
      refine n_getR hΓ fl_RX9_15 cl_9 kd_91 lz_91 dX9_bottom_29 ft_9_6 rf_91_6 ?_
      refine a_iload_n hΓ 2 dX9_bottom_32 rfl rfl ?_
      obtain ⟨g4, h⟩ := h
      refine n_iald (x := (M 93 v2)) hΓ dX9_bottom_33 kd_93 lz_93 g4 rfl ?_
      refine a_iadd hΓ dX9_bottom_34 ?_
      refine a_istore_n (ls' := [(1, aI (v1 + (M 93 v2))), (0, aR 91), (2, aI v2)]) hΓ dX9_bottom_35 rfl (by decide) rfl ?_
      refine a_iload_n hΓ 0 dX9_bottom_36 rfl rfl ?_
      obtain ⟨g5, h⟩ := h
      refine a_if_lt (tgt := 47) hΓ g5 dX9_bottom_37 (by decide) (fun c6 => ?_) (fun c6 => ?_)
      · rw [if_pos c6] at h
        refine a_iinc (ls' := [(2, aI (v2 + 1)), (1, aI (v1 + (M 93 v2))), (0, aR 91)]) hΓ 2 dX9_bottom_47 rfl (by decide) rfl ?_
        refine a_goto (tgt := 19) hΓ dX9_bottom_50 (by decide) ?_
        refine a_sub (ls' := [(0, aR 91), (1, aI (v1 + (M 93 v2))), (2, aI (v2 + 1))]) [2, 1, 0] rfl ?_
        exact ih (v1 + (M 93 v2)) (v2 + 1) M h
      · rw [if_neg c6] at h
        refine a_sub (ls' := [(0, aR 91), (2, aI v2)]) [1, 2] rfl ?_
        exact s_wX9_bottom_40 hΓ (Nat.le_trans (by decide) hh) hr  M h
    · rw [if_neg c3] at h
      refine a_aload_n hΓ 0 dX9_bottom_53 rfl rfl ?_
      refine n_getI (x := (M 91 1)) hΓ fl_RX9_22 cl_9 kd_91 lz_91 dX9_bottom_54 (Or.inl ft_9_1) rfl ?_
      exact a_iret hΓ hr dX9_bottom_57 ⟨_, _, rfl, rfl, h⟩
def wX9_bottom  (M : Mm) (Q : Int → Mm → Prop) : Prop :=
    (inR (M 91 3)) ∧
    (if (M 91 3) < 0 then
      ∃ n, wX9_bottom_19 Q n (M 91 3) 0 M
    else
      Q (M 91 0) M)
set_option maxHeartbeats 4000000 in
theorem s_wX9_bottom {Γ : Cx} {h : Nat} (hΓ : Ok Γ cX9_bottom RX9 3 h 0 0) (hh : 1 ≤ h) (hr : (cxm Γ).sig.returnType = (some .int)) {Q : Int → Mm → Prop}  (M : Mm) (h : wX9_bottom  M Q) : Wa Γ 3 (Kf Γ (QI Q) 0 0) 0 0 0 [(0, aR 91)] [] (NC, RF, M) := by
  unfold wX9_bottom at h
  refine a_aload_n hΓ 0 dX9_bottom_0 rfl rfl ?_
  refine n_getI (x := (M 91 3)) hΓ fl_RX9_28 cl_9 kd_91 lz_91 dX9_bottom_1 (Or.inl ft_9_3) rfl ?_
  obtain ⟨g1, h⟩ := h
  refine a_if_lt (tgt := 12) hΓ g1 dX9_bottom_4 (by decide) (fun c2 => ?_) (fun c2 => ?_)
  · rw [if_pos c2] at h
    refine a_aload_n hΓ 0 dX9_bottom_12 rfl rfl ?_
    refine n_getI (x := (M 91 3)) hΓ fl_RX9_28 cl_9 kd_91 lz_91 dX9_bottom_13 (Or.inl ft_9_3) rfl ?_
    refine a_istore_n (ls' := [(1, aI (M 91 3)), (0, aR 91)]) hΓ dX9_bottom_16 rfl (by decide) rfl ?_
    refine a_iconst hΓ dX9_bottom_17 ?_
    refine a_istore_n (ls' := [(2, aI 0), (1, aI (M 91 3)), (0, aR 91)]) hΓ dX9_bottom_18 rfl (by decide) rfl ?_
    refine a_sub (ls' := [(0, aR 91), (1, aI (M 91 3)), (2, aI 0)]) [2, 1, 0] rfl ?_
    obtain ⟨f3, h⟩ := h
    exact s_wX9_bottom_19 hΓ (Nat.le_trans (by decide) hh) hr  f3 (M 91 3) 0 M h
  · rw [if_neg c2] at h
    refine a_aload_n hΓ 0 dX9_bottom_7 rfl rfl ?_
    refine n_getI (x := (M 91 0)) hΓ fl_RX9_18 cl_9 kd_91 lz_91 dX9_bottom_8 (Or.inl ft_9_0) rfl ?_
    exact a_iret hΓ hr dX9_bottom_11 ⟨_, _, rfl, rfl, h⟩
theorem ct_wX9_bottom (l : Launch) (g : Gp)  (M : Mm) (Q : Int → Mm → Prop) (h : wX9_bottom  M Q) : Ct l g yX9_bottom cX9_bottom 3 (some .int) 1 0 0 [aR 91] (NC, RF, M) (QI Q) :=
  ct_of (by decide) (Nat.le_of_ble_eq_true rfl) (fun Γ hg hl hr _ hΓ => by subst hg; subst hl; exact s_wX9_bottom hΓ (by decide) hr  M h)
def wX9_bottomCost_69 (Q : Int → Mm → Prop) (v1 : Int) (v2 : Int) (v3 : Int) (M : Mm) : Prop :=
    (inR v3) ∧
    (if v3 < 0 then
      Q (v1 + (v3 * ((M 91 1) - v2))) M
    else
      Q v1 M)
set_option maxHeartbeats 4000000 in
theorem s_wX9_bottomCost_69 {Γ : Cx} {h : Nat} (hΓ : Ok Γ cX9_bottomCost RX9 5 h 0 0) (hh : 1 ≤ h) (hr : (cxm Γ).sig.returnType = (some .int)) {Q : Int → Mm → Prop} {v1 v2 v3 : Int}   (M : Mm) (h : wX9_bottomCost_69 Q v1 v2 v3 M) : Wa Γ 5 (Kf Γ (QI Q) 0 0) 0 0 69 [(0, aR 91), (1, aI v1), (2, aI v2), (3, aI v3)] [] (NC, RF, M) := by
  unfold wX9_bottomCost_69 at h
  refine a_iload_n hΓ 3 dX9_bottomCost_69 rfl rfl ?_
  obtain ⟨g1, h⟩ := h
  refine a_if_ge (tgt := 86) hΓ g1 dX9_bottomCost_70 (by decide) (fun c2 => ?_) (fun c2 => ?_)
  · rw [if_pos c2] at h
    refine a_iload_n hΓ 1 dX9_bottomCost_73 rfl rfl ?_
    refine a_iload_n hΓ 3 dX9_bottomCost_74 rfl rfl ?_
    refine a_aload_n hΓ 0 dX9_bottomCost_75 rfl rfl ?_
    refine n_getI (x := (M 91 1)) hΓ fl_RX9_22 cl_9 kd_91 lz_91 dX9_bottomCost_76 (Or.inl ft_9_1) rfl ?_
    refine a_iload_n hΓ 2 dX9_bottomCost_79 rfl rfl ?_
    refine a_isub hΓ dX9_bottomCost_80 ?_
    refine a_imul hΓ dX9_bottomCost_81 ?_
    refine a_iadd hΓ dX9_bottomCost_82 ?_
    refine a_goto (tgt := 87) hΓ dX9_bottomCost_83 (by decide) ?_
    exact a_iret hΓ hr dX9_bottomCost_87 ⟨_, _, rfl, rfl, h⟩
  · rw [if_neg c2] at h
    refine a_iload_n hΓ 1 dX9_bottomCost_86 rfl rfl ?_
    exact a_iret hΓ hr dX9_bottomCost_87 ⟨_, _, rfl, rfl, h⟩
def wX9_bottomCost_18 (Q : Int → Mm → Prop) : Nat → Int → Int → Int → Int → Mm → Prop
  | 0, _, _, _, _, _ => False
  | f + 1, v1, v2, v3, v4, M => (inR v4) ∧
    (inR (M 91 4)) ∧
    (if v4 < (M 91 4) then
      (inR v3) ∧
      (if v3 < 0 then
        (0 ≤ v4 ∧ v4 < 96) ∧
        (wX9_bottomCost_18 Q f) (v1 + (v3 * ((M 92 v4) - v2))) (M 92 v4) (v3 + (M 93 v4)) (v4 + 1) M
      else
        wX9_bottomCost_69 Q v1 v2 v3 M)
    else
      wX9_bottomCost_69 Q v1 v2 v3 M)
set_option maxHeartbeats 4000000 in
theorem s_wX9_bottomCost_18 {Γ : Cx} {h : Nat} (hΓ : Ok Γ cX9_bottomCost RX9 5 h 0 0) (hh : 1 ≤ h) (hr : (cxm Γ).sig.returnType = (some .int)) {Q : Int → Mm → Prop}   : ∀ (f : Nat) (v1 : Int) (v2 : Int) (v3 : Int) (v4 : Int) (M : Mm), wX9_bottomCost_18 Q  f v1 v2 v3 v4 M → Wa Γ 5 (Kf Γ (QI Q) 0 0) 0 0 18 [(0, aR 91), (1, aI v1), (2, aI v2), (3, aI v3), (4, aI v4)] [] (NC, RF, M) := by
  intro f
  induction f with
  | zero => intro v1 v2 v3 v4 M h; exact h.elim
  | succ f ih =>
    intro v1 v2 v3 v4 M h
    unfold wX9_bottomCost_18 at h
    refine a_iload hΓ 4 dX9_bottomCost_18 rfl ?_
    refine a_aload_n hΓ 0 dX9_bottomCost_20 rfl rfl ?_
    refine n_getI (x := (M 91 4)) hΓ fl_RX9_31 cl_9 kd_91 lz_91 dX9_bottomCost_21 (Or.inl ft_9_4) rfl ?_
    obtain ⟨g1, h⟩ := h
    obtain ⟨g2, h⟩ := h
    refine a_icmp_ge (tgt := 69) hΓ g1 g2 dX9_bottomCost_24 (by decide) (fun c3 => ?_) (fun c3 => ?_)
    · rw [if_pos c3] at h
      refine a_iload_n hΓ 3 dX9_bottomCost_27 rfl rfl ?_
      obtain ⟨g4, h⟩ := h
      refine a_if_ge (tgt := 69) hΓ g4 dX9_bottomCost_28 (by decide) (fun c5 => ?_) (fun c5 => ?_)
      · rw [if_pos c5] at h
        refine a_iload_n hΓ 1 dX9_bottomCost_31 rfl rfl ?_
        refine a_iload_n hΓ 3 dX9_bottomCost_32 rfl rfl ?_
        refine a_aload_n hΓ 0 dX9_bottomCost_33 rfl rfl ?_
        refine n_getR hΓ fl_RX9_11 cl_9 kd_91 lz_91 dX9_bottomCost_34 ft_9_5 rf_91_5 ?_
        refine a_iload hΓ 4 dX9_bottomCost_37 rfl ?_
        obtain ⟨g6, h⟩ := h
        refine n_iald (x := (M 92 v4)) hΓ dX9_bottomCost_39 kd_92 lz_92 g6 rfl ?_
        refine a_iload_n hΓ 2 dX9_bottomCost_40 rfl rfl ?_
        refine a_isub hΓ dX9_bottomCost_41 ?_
        refine a_imul hΓ dX9_bottomCost_42 ?_
        refine a_iadd hΓ dX9_bottomCost_43 ?_
        refine a_istore_n (ls' := [(1, aI (v1 + (v3 * ((M 92 v4) - v2)))), (0, aR 91), (2, aI v2), (3, aI v3), (4, aI v4)]) hΓ dX9_bottomCost_44 rfl (by decide) rfl ?_
        refine a_aload_n hΓ 1 dX9_bottomCost_45 rfl rfl ?_
        refine n_getR hΓ fl_RX9_11 cl_9 kd_91 lz_91 dX9_bottomCost_46 ft_9_5 rf_91_5 ?_
        refine a_iload hΓ 4 dX9_bottomCost_49 rfl ?_
        refine n_iald (x := (M 92 v4)) hΓ dX9_bottomCost_51 kd_92 lz_92 g6 rfl ?_
        refine a_istore_n (ls' := [(2, aI (M 92 v4)), (1, aI (v1 + (v3 * ((M 92 v4) - v2)))), (0, aR 91), (3, aI v3), (4, aI v4)]) hΓ dX9_bottomCost_52 rfl (by decide) rfl ?_
        refine a_iload_n hΓ 3 dX9_bottomCost_53 rfl rfl ?_
        refine a_aload_n hΓ 2 dX9_bottomCost_54 rfl rfl ?_
        refine n_getR hΓ fl_RX9_15 cl_9 kd_91 lz_91 dX9_bottomCost_55 ft_9_6 rf_91_6 ?_
        refine a_iload hΓ 4 dX9_bottomCost_58 rfl ?_
        refine n_iald (x := (M 93 v4)) hΓ dX9_bottomCost_60 kd_93 lz_93 g6 rfl ?_
        refine a_iadd hΓ dX9_bottomCost_61 ?_
        refine a_istore_n (ls' := [(3, aI (v3 + (M 93 v4))), (2, aI (M 92 v4)), (1, aI (v1 + (v3 * ((M 92 v4) - v2)))), (0, aR 91), (4, aI v4)]) hΓ dX9_bottomCost_62 rfl (by decide) rfl ?_
        refine a_iinc (ls' := [(4, aI (v4 + 1)), (3, aI (v3 + (M 93 v4))), (2, aI (M 92 v4)), (1, aI (v1 + (v3 * ((M 92 v4) - v2)))), (0, aR 91)]) hΓ 4 dX9_bottomCost_63 rfl (by decide) rfl ?_
        refine a_goto (tgt := 18) hΓ dX9_bottomCost_66 (by decide) ?_
        refine a_sub (ls' := [(0, aR 91), (1, aI (v1 + (v3 * ((M 92 v4) - v2)))), (2, aI (M 92 v4)), (3, aI (v3 + (M 93 v4))), (4, aI (v4 + 1))]) [4, 3, 2, 1, 0] rfl ?_
        exact ih (v1 + (v3 * ((M 92 v4) - v2))) (M 92 v4) (v3 + (M 93 v4)) (v4 + 1) M h
      · rw [if_neg c5] at h
        refine a_sub (ls' := [(0, aR 91), (1, aI v1), (2, aI v2), (3, aI v3)]) [0, 1, 2, 3] rfl ?_
        exact s_wX9_bottomCost_69 hΓ (Nat.le_trans (by decide) hh) hr  M h
    · rw [if_neg c3] at h
      refine a_sub (ls' := [(0, aR 91), (1, aI v1), (2, aI v2), (3, aI v3)]) [0, 1, 2, 3] rfl ?_
      exact s_wX9_bottomCost_69 hΓ (Nat.le_trans (by decide) hh) hr  M h
def wX9_bottomCost  (M : Mm) (Q : Int → Mm → Prop) : Prop :=
    ∃ n, wX9_bottomCost_18 Q n (M 91 2) (M 91 0) (M 91 3) 0 M
set_option maxHeartbeats 4000000 in
theorem s_wX9_bottomCost {Γ : Cx} {h : Nat} (hΓ : Ok Γ cX9_bottomCost RX9 5 h 0 0) (hh : 1 ≤ h) (hr : (cxm Γ).sig.returnType = (some .int)) {Q : Int → Mm → Prop}  (M : Mm) (h : wX9_bottomCost  M Q) : Wa Γ 5 (Kf Γ (QI Q) 0 0) 0 0 0 [(0, aR 91)] [] (NC, RF, M) := by
  unfold wX9_bottomCost at h
  refine a_aload_n hΓ 0 dX9_bottomCost_0 rfl rfl ?_
  refine n_getI (x := (M 91 2)) hΓ fl_RX9_25 cl_9 kd_91 lz_91 dX9_bottomCost_1 (Or.inl ft_9_2) rfl ?_
  refine a_istore_n (ls' := [(1, aI (M 91 2)), (0, aR 91)]) hΓ dX9_bottomCost_4 rfl (by decide) rfl ?_
  refine a_aload_n hΓ 1 dX9_bottomCost_5 rfl rfl ?_
  refine n_getI (x := (M 91 0)) hΓ fl_RX9_18 cl_9 kd_91 lz_91 dX9_bottomCost_6 (Or.inl ft_9_0) rfl ?_
  refine a_istore_n (ls' := [(2, aI (M 91 0)), (1, aI (M 91 2)), (0, aR 91)]) hΓ dX9_bottomCost_9 rfl (by decide) rfl ?_
  refine a_aload_n hΓ 2 dX9_bottomCost_10 rfl rfl ?_
  refine n_getI (x := (M 91 3)) hΓ fl_RX9_28 cl_9 kd_91 lz_91 dX9_bottomCost_11 (Or.inl ft_9_3) rfl ?_
  refine a_istore_n (ls' := [(3, aI (M 91 3)), (2, aI (M 91 0)), (1, aI (M 91 2)), (0, aR 91)]) hΓ dX9_bottomCost_14 rfl (by decide) rfl ?_
  refine a_iconst hΓ dX9_bottomCost_15 ?_
  refine a_istore (ls' := [(4, aI 0), (3, aI (M 91 3)), (2, aI (M 91 0)), (1, aI (M 91 2)), (0, aR 91)]) hΓ dX9_bottomCost_16 (by decide) rfl ?_
  refine a_sub (ls' := [(0, aR 91), (1, aI (M 91 2)), (2, aI (M 91 0)), (3, aI (M 91 3)), (4, aI 0)]) [4, 3, 2, 1, 0] rfl ?_
  obtain ⟨f1, h⟩ := h
  exact s_wX9_bottomCost_18 hΓ (Nat.le_trans (by decide) hh) hr  f1 (M 91 2) (M 91 0) (M 91 3) 0 M h
theorem ct_wX9_bottomCost (l : Launch) (g : Gp)  (M : Mm) (Q : Int → Mm → Prop) (h : wX9_bottomCost  M Q) : Ct l g yX9_bottomCost cX9_bottomCost 5 (some .int) 1 0 0 [aR 91] (NC, RF, M) (QI Q) :=
  ct_of (by decide) (Nat.le_of_ble_eq_true rfl) (fun Γ hg hl hr _ hΓ => by subst hg; subst hl; exact s_wX9_bottomCost hΓ (by decide) hr  M h)
def wX9_splitAtBottom_93 (Q : Int → Mm → Prop) (v1 : Int) (M : Mm) : Prop :=
    (inR v1) ∧
    (if v1 < 0 then
      Bv (wX9_insertAt (M 91 4) (M 91 1) (-v1) M) (fun M6 =>
      Q (M6 91 4) M6)
    else
      Q (M 91 4) M)
set_option maxHeartbeats 4000000 in
theorem s_wX9_splitAtBottom_93 {Γ : Cx} {h : Nat} (hΓ : Ok Γ cX9_splitAtBottom RX9 3 h 0 0) (hh : 2 ≤ h) (hr : (cxm Γ).sig.returnType = (some .int)) {Q : Int → Mm → Prop} {v1 : Int}   (M : Mm) (h : wX9_splitAtBottom_93 Q v1 M) : Wa Γ 3 (Kf Γ (QI Q) 0 0) 0 0 93 [(0, aR 91), (1, aI v1)] [] (NC, RF, M) := by
  unfold wX9_splitAtBottom_93 at h
  refine a_iload_n hΓ 1 dX9_splitAtBottom_93 rfl rfl ?_
  obtain ⟨g1, h⟩ := h
  refine a_if_ge (tgt := 111) hΓ g1 dX9_splitAtBottom_94 (by decide) (fun c2 => ?_) (fun c2 => ?_)
  · rw [if_pos c2] at h
    refine a_aload_n hΓ 0 dX9_splitAtBottom_97 rfl rfl ?_
    refine a_aload_n hΓ 0 dX9_splitAtBottom_98 rfl rfl ?_
    refine n_getI (x := (M 91 4)) hΓ fl_RX9_31 cl_9 kd_91 lz_91 dX9_splitAtBottom_99 (Or.inl ft_9_4) rfl ?_
    refine a_aload_n hΓ 0 dX9_splitAtBottom_102 rfl rfl ?_
    refine n_getI (x := (M 91 1)) hΓ fl_RX9_22 cl_9 kd_91 lz_91 dX9_splitAtBottom_103 (Or.inl ft_9_1) rfl ?_
    refine a_iload_n hΓ 1 dX9_splitAtBottom_106 rfl rfl ?_
    refine a_ineg hΓ dX9_splitAtBottom_107 ?_
    obtain ⟨P3, q4, h⟩ := h
    refine n_callV (c := 91) (av := [aI (M 91 4), aI (M 91 1), aI (-v1)]) (st := []) hΓ (ct_wX9_insertAt _ _ (M 91 4) (M 91 1) (-v1) M P3 q4) my_X9_insertAt ml_RX9_44 ni_X9_insertAt kd_91 rfl lz_91 rfl (Nat.le_trans (by decide) hh) (by decide) (Nat.le_of_ble_eq_true rfl) rfl dX9_splitAtBottom_108 (fun v Z' hq => ?_)
    obtain ⟨M6, rfl, rfl, hq⟩ := hq
    have h := h M6 hq
    dsimp only at h
    refine a_aload_n hΓ 0 dX9_splitAtBottom_111 rfl rfl ?_
    refine n_getI (x := (M6 91 4)) hΓ fl_RX9_31 cl_9 kd_91 lz_91 dX9_splitAtBottom_112 (Or.inl ft_9_4) rfl ?_
    exact a_iret hΓ hr dX9_splitAtBottom_115 ⟨_, _, rfl, rfl, h⟩
  · rw [if_neg c2] at h
    refine a_aload_n hΓ 0 dX9_splitAtBottom_111 rfl rfl ?_
    refine n_getI (x := (M 91 4)) hΓ fl_RX9_31 cl_9 kd_91 lz_91 dX9_splitAtBottom_112 (Or.inl ft_9_4) rfl ?_
    exact a_iret hΓ hr dX9_splitAtBottom_115 ⟨_, _, rfl, rfl, h⟩
def wX9_splitAtBottom_59 (Q : Int → Mm → Prop) (v1 : Int) (v2 : Int) (M : Mm) : Prop :=
    (0 ≤ v2 ∧ v2 < 96) ∧
    Bv (wX9_insertAt (v2 + 1) (M 92 v2) v1 (up M 93 v2 ((M 93 v2) - v1))) (fun M5 =>
    Q (v2 + 1) M5)
set_option maxHeartbeats 4000000 in
theorem s_wX9_splitAtBottom_59 {Γ : Cx} {h : Nat} (hΓ : Ok Γ cX9_splitAtBottom RX9 3 h 0 0) (hh : 2 ≤ h) (hr : (cxm Γ).sig.returnType = (some .int)) {Q : Int → Mm → Prop} {v1 v2 : Int}   (M : Mm) (h : wX9_splitAtBottom_59 Q v1 v2 M) : Wa Γ 3 (Kf Γ (QI Q) 0 0) 0 0 59 [(0, aR 91), (1, aI v1), (2, aI v2)] [] (NC, RF, M) := by
  unfold wX9_splitAtBottom_59 at h
  refine a_aload_n hΓ 0 dX9_splitAtBottom_59 rfl rfl ?_
  refine n_getR hΓ fl_RX9_15 cl_9 kd_91 lz_91 dX9_splitAtBottom_60 ft_9_6 rf_91_6 ?_
  refine a_iload_n hΓ 2 dX9_splitAtBottom_63 rfl rfl ?_
  refine a_dup2 hΓ dX9_splitAtBottom_64 ?_
  obtain ⟨g1, h⟩ := h
  refine n_iald (x := (M 93 v2)) hΓ dX9_splitAtBottom_65 kd_93 lz_93 g1 rfl ?_
  refine a_iload_n hΓ 1 dX9_splitAtBottom_66 rfl rfl ?_
  refine a_isub hΓ dX9_splitAtBottom_67 ?_
  refine a_iast hΓ dX9_splitAtBottom_68 kd_93 lz_93 g1 ?_
  refine a_aload_n hΓ 0 dX9_splitAtBottom_69 rfl rfl ?_
  refine a_iload_n hΓ 2 dX9_splitAtBottom_70 rfl rfl ?_
  refine a_iconst hΓ dX9_splitAtBottom_71 ?_
  refine a_iadd hΓ dX9_splitAtBottom_72 ?_
  refine a_aload_n hΓ 0 dX9_splitAtBottom_73 rfl rfl ?_
  refine n_getR hΓ fl_RX9_11 cl_9 kd_91 lz_91 dX9_splitAtBottom_74 ft_9_5 rf_91_5 ?_
  refine a_iload_n hΓ 2 dX9_splitAtBottom_77 rfl rfl ?_
  refine n_iald (x := (M 92 v2)) hΓ dX9_splitAtBottom_78 kd_92 lz_92 g1 rfl ?_
  refine a_iload_n hΓ 1 dX9_splitAtBottom_79 rfl rfl ?_
  obtain ⟨P2, q3, h⟩ := h
  refine n_callV (c := 91) (av := [aI (v2 + 1), aI (M 92 v2), aI v1]) (st := []) hΓ (ct_wX9_insertAt _ _ (v2 + 1) (M 92 v2) v1 (up M 93 v2 ((M 93 v2) - v1)) P2 q3) my_X9_insertAt ml_RX9_44 ni_X9_insertAt kd_91 rfl lz_91 rfl (Nat.le_trans (by decide) hh) (by decide) (Nat.le_of_ble_eq_true rfl) rfl dX9_splitAtBottom_80 (fun v Z' hq => ?_)
  obtain ⟨M5, rfl, rfl, hq⟩ := hq
  have h := h M5 hq
  dsimp only at h
  refine a_iload_n hΓ 2 dX9_splitAtBottom_83 rfl rfl ?_
  refine a_iconst hΓ dX9_splitAtBottom_84 ?_
  refine a_iadd hΓ dX9_splitAtBottom_85 ?_
  exact a_iret hΓ hr dX9_splitAtBottom_86 ⟨_, _, rfl, rfl, h⟩
def wX9_splitAtBottom_32 (Q : Int → Mm → Prop) : Nat → Int → Int → Mm → Prop
  | 0, _, _, _ => False
  | f + 1, v1, v2, M => (inR v2) ∧
    (inR (M 91 4)) ∧
    (if v2 < (M 91 4) then
      (inR v1) ∧
      (if v1 = 0 then
        Q v2 M
      else
        (0 ≤ v2 ∧ v2 < 96) ∧
        (inR (v1 + (M 93 v2))) ∧
        (if (v1 + (M 93 v2)) ≤ 0 then
          (wX9_splitAtBottom_32 Q f) (v1 + (M 93 v2)) (v2 + 1) M
        else
          wX9_splitAtBottom_59 Q (v1 + (M 93 v2)) v2 M))
    else
      wX9_splitAtBottom_93 Q v1 M)
set_option maxHeartbeats 4000000 in
theorem s_wX9_splitAtBottom_32 {Γ : Cx} {h : Nat} (hΓ : Ok Γ cX9_splitAtBottom RX9 3 h 0 0) (hh : 2 ≤ h) (hr : (cxm Γ).sig.returnType = (some .int)) {Q : Int → Mm → Prop}   : ∀ (f : Nat) (v1 : Int) (v2 : Int) (M : Mm), wX9_splitAtBottom_32 Q  f v1 v2 M → Wa Γ 3 (Kf Γ (QI Q) 0 0) 0 0 32 [(0, aR 91), (1, aI v1), (2, aI v2)] [] (NC, RF, M) := by
  intro f
  induction f with
  | zero => intro v1 v2 M h; exact h.elim
  | succ f ih =>
    intro v1 v2 M h
    unfold wX9_splitAtBottom_32 at h
    refine a_iload_n hΓ 2 dX9_splitAtBottom_32 rfl rfl ?_
    refine a_aload_n hΓ 0 dX9_splitAtBottom_33 rfl rfl ?_
    refine n_getI (x := (M 91 4)) hΓ fl_RX9_31 cl_9 kd_91 lz_91 dX9_splitAtBottom_34 (Or.inl ft_9_4) rfl ?_
    obtain ⟨g1, h⟩ := h
    obtain ⟨g2, h⟩ := h
    refine a_icmp_ge (tgt := 93) hΓ g1 g2 dX9_splitAtBottom_37 (by decide) (fun c3 => ?_) (fun c3 => ?_)
    · rw [if_pos c3] at h
      refine a_iload_n hΓ 1 dX9_splitAtBottom_40 rfl rfl ?_
      obtain ⟨g4, h⟩ := h
      refine a_if_ne (tgt := 46) hΓ g4 dX9_splitAtBottom_41 (by decide) (fun c5 => ?_) (fun c5 => ?_)
      · rw [if_pos c5] at h
        refine a_iload_n hΓ 2 dX9_splitAtBottom_44 rfl rfl ?_
        exact a_iret hΓ hr dX9_splitAtBottom_45 ⟨_, _, rfl, rfl, h⟩
      · rw [if_neg c5] at h
        refine a_iload_n hΓ 1 dX9_splitAtBottom_46 rfl rfl ?_
        refine a_aload_n hΓ 0 dX9_splitAtBottom_47 rfl rfl ?_
        refine n_getR hΓ fl_RX9_15 cl_9 kd_91 lz_91 dX9_splitAtBottom_48 ft_9_6 rf_91_6 ?_
        refine a_iload_n hΓ 2 dX9_splitAtBottom_51 rfl rfl ?_
        obtain ⟨g6, h⟩ := h
        refine n_iald (x := (M 93 v2)) hΓ dX9_splitAtBottom_52 kd_93 lz_93 g6 rfl ?_
        refine a_iadd hΓ dX9_splitAtBottom_53 ?_
        refine a_istore_n (ls' := [(1, aI (v1 + (M 93 v2))), (0, aR 91), (2, aI v2)]) hΓ dX9_splitAtBottom_54 rfl (by decide) rfl ?_
        refine a_iload_n hΓ 0 dX9_splitAtBottom_55 rfl rfl ?_
        obtain ⟨g7, h⟩ := h
        refine a_if_le (tgt := 87) hΓ g7 dX9_splitAtBottom_56 (by decide) (fun c8 => ?_) (fun c8 => ?_)
        · rw [if_pos c8] at h
          refine a_iinc (ls' := [(2, aI (v2 + 1)), (1, aI (v1 + (M 93 v2))), (0, aR 91)]) hΓ 2 dX9_splitAtBottom_87 rfl (by decide) rfl ?_
          refine a_goto (tgt := 32) hΓ dX9_splitAtBottom_90 (by decide) ?_
          refine a_sub (ls' := [(0, aR 91), (1, aI (v1 + (M 93 v2))), (2, aI (v2 + 1))]) [2, 1, 0] rfl ?_
          exact ih (v1 + (M 93 v2)) (v2 + 1) M h
        · rw [if_neg c8] at h
          refine a_sub (ls' := [(0, aR 91), (1, aI (v1 + (M 93 v2))), (2, aI v2)]) [1, 0, 2] rfl ?_
          exact s_wX9_splitAtBottom_59 hΓ (Nat.le_trans (by decide) hh) hr  M h
    · rw [if_neg c3] at h
      refine a_sub (ls' := [(0, aR 91), (1, aI v1)]) [0, 1] rfl ?_
      exact s_wX9_splitAtBottom_93 hΓ (Nat.le_trans (by decide) hh) hr  M h
def wX9_splitAtBottom  (M : Mm) (Q : Int → Mm → Prop) : Prop :=
    (inR (M 91 3)) ∧
    (if (M 91 3) ≤ 0 then
      ∃ n, wX9_splitAtBottom_32 Q n (M 91 3) 0 M
    else
      Bv (wX9_insertAt 0 (M 91 0) (M 91 3) M) (fun M7 =>
      ∃ n, wX9_splitAtBottom_32 Q n 0 0 (up M7 91 3 0)))
set_option maxHeartbeats 4000000 in
theorem s_wX9_splitAtBottom {Γ : Cx} {h : Nat} (hΓ : Ok Γ cX9_splitAtBottom RX9 3 h 0 0) (hh : 2 ≤ h) (hr : (cxm Γ).sig.returnType = (some .int)) {Q : Int → Mm → Prop}  (M : Mm) (h : wX9_splitAtBottom  M Q) : Wa Γ 3 (Kf Γ (QI Q) 0 0) 0 0 0 [(0, aR 91)] [] (NC, RF, M) := by
  unfold wX9_splitAtBottom at h
  refine a_aload_n hΓ 0 dX9_splitAtBottom_0 rfl rfl ?_
  refine n_getI (x := (M 91 3)) hΓ fl_RX9_28 cl_9 kd_91 lz_91 dX9_splitAtBottom_1 (Or.inl ft_9_3) rfl ?_
  obtain ⟨g1, h⟩ := h
  refine a_if_le (tgt := 25) hΓ g1 dX9_splitAtBottom_4 (by decide) (fun c2 => ?_) (fun c2 => ?_)
  · rw [if_pos c2] at h
    refine a_aload_n hΓ 0 dX9_splitAtBottom_25 rfl rfl ?_
    refine n_getI (x := (M 91 3)) hΓ fl_RX9_28 cl_9 kd_91 lz_91 dX9_splitAtBottom_26 (Or.inl ft_9_3) rfl ?_
    refine a_istore_n (ls' := [(1, aI (M 91 3)), (0, aR 91)]) hΓ dX9_splitAtBottom_29 rfl (by decide) rfl ?_
    refine a_iconst hΓ dX9_splitAtBottom_30 ?_
    refine a_istore_n (ls' := [(2, aI 0), (1, aI (M 91 3)), (0, aR 91)]) hΓ dX9_splitAtBottom_31 rfl (by decide) rfl ?_
    refine a_sub (ls' := [(0, aR 91), (1, aI (M 91 3)), (2, aI 0)]) [2, 1, 0] rfl ?_
    obtain ⟨f3, h⟩ := h
    exact s_wX9_splitAtBottom_32 hΓ (Nat.le_trans (by decide) hh) hr  f3 (M 91 3) 0 M h
  · rw [if_neg c2] at h
    refine a_aload_n hΓ 0 dX9_splitAtBottom_7 rfl rfl ?_
    refine a_iconst hΓ dX9_splitAtBottom_8 ?_
    refine a_aload_n hΓ 0 dX9_splitAtBottom_9 rfl rfl ?_
    refine n_getI (x := (M 91 0)) hΓ fl_RX9_18 cl_9 kd_91 lz_91 dX9_splitAtBottom_10 (Or.inl ft_9_0) rfl ?_
    refine a_aload_n hΓ 0 dX9_splitAtBottom_13 rfl rfl ?_
    refine n_getI (x := (M 91 3)) hΓ fl_RX9_28 cl_9 kd_91 lz_91 dX9_splitAtBottom_14 (Or.inl ft_9_3) rfl ?_
    obtain ⟨P4, q5, h⟩ := h
    refine n_callV (c := 91) (av := [aI 0, aI (M 91 0), aI (M 91 3)]) (st := []) hΓ (ct_wX9_insertAt _ _ 0 (M 91 0) (M 91 3) M P4 q5) my_X9_insertAt ml_RX9_44 ni_X9_insertAt kd_91 rfl lz_91 rfl (Nat.le_trans (by decide) hh) (by decide) (Nat.le_of_ble_eq_true rfl) rfl dX9_splitAtBottom_17 (fun v Z' hq => ?_)
    obtain ⟨M7, rfl, rfl, hq⟩ := hq
    have h := h M7 hq
    dsimp only at h
    refine a_aload_n hΓ 0 dX9_splitAtBottom_20 rfl rfl ?_
    refine a_iconst hΓ dX9_splitAtBottom_21 ?_
    refine n_putI (j := 3) hΓ fl_RX9_28 cl_9 nf_9_3 kd_91 lz_91 dX9_splitAtBottom_22 (Or.inl ft_9_3) rfl ?_
    refine a_aload_n hΓ 0 dX9_splitAtBottom_25 rfl rfl ?_
    refine n_getI (x := 0) hΓ fl_RX9_28 cl_9 kd_91 lz_91 dX9_splitAtBottom_26 (Or.inl ft_9_3) rfl ?_
    refine a_istore_n (ls' := [(1, aI 0), (0, aR 91)]) hΓ dX9_splitAtBottom_29 rfl (by decide) rfl ?_
    refine a_iconst hΓ dX9_splitAtBottom_30 ?_
    refine a_istore_n (ls' := [(2, aI 0), (1, aI 0), (0, aR 91)]) hΓ dX9_splitAtBottom_31 rfl (by decide) rfl ?_
    refine a_sub (ls' := [(0, aR 91), (1, aI 0), (2, aI 0)]) [2, 1, 0] rfl ?_
    obtain ⟨f8, h⟩ := h
    exact s_wX9_splitAtBottom_32 hΓ (Nat.le_trans (by decide) hh) hr  f8 0 0 (up M7 91 3 0) h
theorem ct_wX9_splitAtBottom (l : Launch) (g : Gp)  (M : Mm) (Q : Int → Mm → Prop) (h : wX9_splitAtBottom  M Q) : Ct l g yX9_splitAtBottom cX9_splitAtBottom 3 (some .int) 2 0 0 [aR 91] (NC, RF, M) (QI Q) :=
  ct_of (by decide) (Nat.le_of_ble_eq_true rfl) (fun Γ hg hl hr _ hΓ => by subst hg; subst hl; exact s_wX9_splitAtBottom hΓ (by decide) hr  M h)
def wX9_spread_44 (Q : Mm → Prop) (v1 : Int) (v2 : Int) (M : Mm) : Prop :=
    Q (up (up M 91 0 ((M 91 0) + v1)) 91 1 ((M 91 1) + v2))
set_option maxHeartbeats 4000000 in
theorem s_wX9_spread_44 {Γ : Cx} {h : Nat} (hΓ : Ok Γ cX9_spread RX9 5 h 0 0) (hh : 3 ≤ h) (hr : (cxm Γ).sig.returnType = none) {Q : Mm → Prop} {v1 v2 : Int}   (M : Mm) (h : wX9_spread_44 Q v1 v2 M) : Wa Γ 5 (Kf Γ (QV Q) 0 0) 0 0 44 [(0, aR 91), (1, aI v1), (2, aI v2)] [] (NC, RF, M) := by
  unfold wX9_spread_44 at h
  refine a_aload_n hΓ 0 dX9_spread_44 rfl rfl ?_
  refine a_dupR hΓ dX9_spread_45 ?_
  refine n_getI (x := (M 91 0)) hΓ fl_RX9_18 cl_9 kd_91 lz_91 dX9_spread_46 (Or.inl ft_9_0) rfl ?_
  refine a_iload_n hΓ 1 dX9_spread_49 rfl rfl ?_
  refine a_iadd hΓ dX9_spread_50 ?_
  refine n_putI (j := 0) hΓ fl_RX9_18 cl_9 nf_9_0 kd_91 lz_91 dX9_spread_51 (Or.inl ft_9_0) rfl ?_
  refine a_aload_n hΓ 0 dX9_spread_54 rfl rfl ?_
  refine a_dupR hΓ dX9_spread_55 ?_
  refine n_getI (x := (M 91 1)) hΓ fl_RX9_22 cl_9 kd_91 lz_91 dX9_spread_56 (Or.inl ft_9_1) rfl ?_
  refine a_iload_n hΓ 2 dX9_spread_59 rfl rfl ?_
  refine a_iadd hΓ dX9_spread_60 ?_
  refine n_putI (j := 1) hΓ fl_RX9_22 cl_9 nf_9_1 kd_91 lz_91 dX9_spread_61 (Or.inl ft_9_1) rfl ?_
  exact a_vret hΓ hr dX9_spread_64 ⟨_, rfl, rfl, h⟩
def wX9_spread_8 (Q : Mm → Prop) (v1 : Int) (v2 : Int) (v3 : Int) : Nat → Int → Mm → Prop
  | 0, _, _ => False
  | f + 1, v4, M => (inR v4) ∧
    (inR (M 91 4)) ∧
    (if v4 < (M 91 4) then
      (0 ≤ v4 ∧ v4 < 96) ∧
      (inR v3) ∧
      (if v4 < v3 then
        (wX9_spread_8 Q v1 v2 v3 f) (v4 + 1) (up M 92 v4 ((M 92 v4) + v1))
      else
        (wX9_spread_8 Q v1 v2 v3 f) (v4 + 1) (up M 92 v4 ((M 92 v4) + v2)))
    else
      wX9_spread_44 Q v1 v2 M)
set_option maxHeartbeats 4000000 in
theorem s_wX9_spread_8 {Γ : Cx} {h : Nat} (hΓ : Ok Γ cX9_spread RX9 5 h 0 0) (hh : 3 ≤ h) (hr : (cxm Γ).sig.returnType = none) {Q : Mm → Prop} {v1 v2 v3 : Int}   : ∀ (f : Nat) (v4 : Int) (M : Mm), wX9_spread_8 Q v1 v2 v3 f v4 M → Wa Γ 5 (Kf Γ (QV Q) 0 0) 0 0 8 [(0, aR 91), (1, aI v1), (2, aI v2), (3, aI v3), (4, aI v4)] [] (NC, RF, M) := by
  intro f
  induction f with
  | zero => intro v4 M h; exact h.elim
  | succ f ih =>
    intro v4 M h
    unfold wX9_spread_8 at h
    refine a_iload hΓ 4 dX9_spread_8 rfl ?_
    refine a_aload_n hΓ 0 dX9_spread_10 rfl rfl ?_
    refine n_getI (x := (M 91 4)) hΓ fl_RX9_31 cl_9 kd_91 lz_91 dX9_spread_11 (Or.inl ft_9_4) rfl ?_
    obtain ⟨g1, h⟩ := h
    obtain ⟨g2, h⟩ := h
    refine a_icmp_ge (tgt := 44) hΓ g1 g2 dX9_spread_14 (by decide) (fun c3 => ?_) (fun c3 => ?_)
    · rw [if_pos c3] at h
      refine a_aload_n hΓ 0 dX9_spread_17 rfl rfl ?_
      refine n_getR hΓ fl_RX9_11 cl_9 kd_91 lz_91 dX9_spread_18 ft_9_5 rf_91_5 ?_
      refine a_iload hΓ 4 dX9_spread_21 rfl ?_
      refine a_dup2 hΓ dX9_spread_23 ?_
      obtain ⟨g4, h⟩ := h
      refine n_iald (x := (M 92 v4)) hΓ dX9_spread_24 kd_92 lz_92 g4 rfl ?_
      refine a_iload hΓ 4 dX9_spread_25 rfl ?_
      refine a_iload_n hΓ 3 dX9_spread_27 rfl rfl ?_
      obtain ⟨g5, h⟩ := h
      refine a_icmp_ge (tgt := 35) hΓ g1 g5 dX9_spread_28 (by decide) (fun c6 => ?_) (fun c6 => ?_)
      · rw [if_pos c6] at h
        refine a_iload_n hΓ 1 dX9_spread_31 rfl rfl ?_
        refine a_goto (tgt := 36) hΓ dX9_spread_32 (by decide) ?_
        refine a_iadd hΓ dX9_spread_36 ?_
        refine a_iast hΓ dX9_spread_37 kd_92 lz_92 g4 ?_
        refine a_iinc (ls' := [(4, aI (v4 + 1)), (0, aR 91), (1, aI v1), (2, aI v2), (3, aI v3)]) hΓ 4 dX9_spread_38 rfl (by decide) rfl ?_
        refine a_goto (tgt := 8) hΓ dX9_spread_41 (by decide) ?_
        refine a_sub (ls' := [(0, aR 91), (1, aI v1), (2, aI v2), (3, aI v3), (4, aI (v4 + 1))]) [1, 2, 3, 4, 0] rfl ?_
        exact ih (v4 + 1) (up M 92 v4 ((M 92 v4) + v1)) h
      · rw [if_neg c6] at h
        refine a_iload_n hΓ 2 dX9_spread_35 rfl rfl ?_
        refine a_iadd hΓ dX9_spread_36 ?_
        refine a_iast hΓ dX9_spread_37 kd_92 lz_92 g4 ?_
        refine a_iinc (ls' := [(4, aI (v4 + 1)), (0, aR 91), (1, aI v1), (2, aI v2), (3, aI v3)]) hΓ 4 dX9_spread_38 rfl (by decide) rfl ?_
        refine a_goto (tgt := 8) hΓ dX9_spread_41 (by decide) ?_
        refine a_sub (ls' := [(0, aR 91), (1, aI v1), (2, aI v2), (3, aI v3), (4, aI (v4 + 1))]) [1, 2, 3, 4, 0] rfl ?_
        exact ih (v4 + 1) (up M 92 v4 ((M 92 v4) + v2)) h
    · rw [if_neg c3] at h
      refine a_sub (ls' := [(0, aR 91), (1, aI v1), (2, aI v2)]) [0, 1, 2] rfl ?_
      exact s_wX9_spread_44 hΓ (Nat.le_trans (by decide) hh) hr  M h
def wX9_spread (v1 : Int) (v2 : Int) (M : Mm) (Q : Mm → Prop) : Prop :=
    Bd (wX9_splitAtBottom M) (fun r3 M4 =>
    ∃ n, wX9_spread_8 Q v1 v2 r3 n 0 M4)
set_option maxHeartbeats 4000000 in
theorem s_wX9_spread {Γ : Cx} {h : Nat} (hΓ : Ok Γ cX9_spread RX9 5 h 0 0) (hh : 3 ≤ h) (hr : (cxm Γ).sig.returnType = none) {Q : Mm → Prop} (v1 : Int) (v2 : Int) (M : Mm) (h : wX9_spread v1 v2 M Q) : Wa Γ 5 (Kf Γ (QV Q) 0 0) 0 0 0 [(0, aR 91), (1, aI v1), (2, aI v2)] [] (NC, RF, M) := by
  unfold wX9_spread at h
  refine a_aload_n hΓ 0 dX9_spread_0 rfl rfl ?_
  obtain ⟨P1, q2, h⟩ := h
  refine n_callV (c := 91) (av := []) (st := []) hΓ (ct_wX9_splitAtBottom _ _  M P1 q2) my_X9_splitAtBottom ml_RX9_48 ni_X9_splitAtBottom kd_91 rfl lz_91 rfl (Nat.le_trans (by decide) hh) (by decide) (Nat.le_of_ble_eq_true rfl) rfl dX9_spread_1 (fun v Z' hq => ?_)
  obtain ⟨r3, M4, rfl, rfl, hq⟩ := hq
  have h := h r3 M4 hq
  dsimp only at h
  refine a_istore_n (ls' := [(3, aI r3), (0, aR 91), (1, aI v1), (2, aI v2)]) hΓ dX9_spread_4 rfl (by decide) rfl ?_
  refine a_iconst hΓ dX9_spread_5 ?_
  refine a_istore (ls' := [(4, aI 0), (3, aI r3), (0, aR 91), (1, aI v1), (2, aI v2)]) hΓ dX9_spread_6 (by decide) rfl ?_
  refine a_sub (ls' := [(0, aR 91), (1, aI v1), (2, aI v2), (3, aI r3), (4, aI 0)]) [2, 3, 4, 1, 0] rfl ?_
  obtain ⟨f5, h⟩ := h
  exact s_wX9_spread_8 hΓ (Nat.le_trans (by decide) hh) hr  f5 0 M4 h
theorem ct_wX9_spread (l : Launch) (g : Gp) (v1 : Int) (v2 : Int) (M : Mm) (Q : Mm → Prop) (h : wX9_spread v1 v2 M Q) : Ct l g yX9_spread cX9_spread 5 none 3 0 0 [aR 91, aI v1, aI v2] (NC, RF, M) (QV Q) :=
  ct_of (by decide) (Nat.le_of_ble_eq_true rfl) (fun Γ hg hl hr _ hΓ => by subst hg; subst hl; exact s_wX9_spread hΓ (by decide) hr v1 v2 M h)
