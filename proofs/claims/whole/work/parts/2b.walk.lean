/-! ===== printed by tools/gen.py ===== -/
def wX12_prove_67 (Q : Int → Mm → Prop) : Nat → Int → Mm → Prop
  | 0, _, _ => False
  | f + 1, v4, M => (inR v4) ∧
    (inR (M 102 18)) ∧
    (if v4 < (M 102 18) then
      (0 ≤ v4 ∧ v4 < 2000) ∧
      (wX12_prove_67 Q f) (v4 + 1) (up M 111 v4 (i2bI (M 112 v4)))
    else
      Q (M 102 17) M)
set_option maxHeartbeats 4000000 in
theorem s_wX12_prove_67 {Γ : Cx} {h : Nat} (hΓ : Ok Γ cX12_prove RX12 5 h 0 0) (hh : 35 ≤ h) (hr : (cxm Γ).sig.returnType = (some .int)) {Q : Int → Mm → Prop}   : ∀ (f : Nat) (v4 : Int) (M : Mm), wX12_prove_67 Q  f v4 M → Wa Γ 5 (Kf Γ (QI Q) 0 0) 0 0 67 [(0, aR 102), (4, aI v4)] [] (NC, RF, M) := by
  intro f
  induction f with
  | zero => intro v4 M h; exact h.elim
  | succ f ih =>
    intro v4 M h
    unfold wX12_prove_67 at h
    refine a_iload hΓ 1 dX12_prove_67 rfl ?_
    refine a_aload_n hΓ 0 dX12_prove_69 rfl rfl ?_
    refine n_getI (x := (M 102 18)) hΓ fl_RX12_220 cl_12 kd_102 lz_102 dX12_prove_70 (Or.inl ft_12_18) rfl ?_
    obtain ⟨g1, h⟩ := h
    obtain ⟨g2, h⟩ := h
    refine a_icmp_ge (tgt := 96) hΓ g1 g2 dX12_prove_73 (by decide) (fun c3 => ?_) (fun c3 => ?_)
    · rw [if_pos c3] at h
      refine a_aload_n hΓ 0 dX12_prove_76 rfl rfl ?_
      refine n_getR hΓ fl_RX12_46 cl_12 kd_102 lz_102 dX12_prove_77 ft_12_15 rf_102_15 ?_
      refine a_iload hΓ 1 dX12_prove_80 rfl ?_
      refine a_aload_n hΓ 0 dX12_prove_82 rfl rfl ?_
      refine n_getR hΓ fl_RX12_50 cl_12 kd_102 lz_102 dX12_prove_83 ft_12_16 rf_102_16 ?_
      refine a_iload hΓ 1 dX12_prove_86 rfl ?_
      obtain ⟨g4, h⟩ := h
      refine n_bald (x := (M 112 v4)) hΓ dX12_prove_88 kd_112 (Or.inr rfl) lz_112 g4 rfl ?_
      refine a_bast hΓ rfl dX12_prove_89 kd_111 lz_111 g4 ?_
      refine a_iinc (ls' := [(4, aI (v4 + 1)), (0, aR 102)]) hΓ 1 dX12_prove_90 rfl (by decide) rfl ?_
      refine a_goto (tgt := 67) hΓ dX12_prove_93 (by decide) ?_
      refine a_sub (ls' := [(0, aR 102), (4, aI (v4 + 1))]) [1, 0] rfl ?_
      exact ih (v4 + 1) (up M 111 v4 (i2bI (M 112 v4))) h
    · rw [if_neg c3] at h
      refine a_aload_n hΓ 0 dX12_prove_96 rfl rfl ?_
      refine n_getI (x := (M 102 17)) hΓ fl_RX12_53 cl_12 kd_102 lz_102 dX12_prove_97 (Or.inl ft_12_17) rfl ?_
      exact a_iret hΓ hr dX12_prove_100 ⟨_, _, rfl, rfl, h⟩
def wX12_prove (v1 : Int) (v2 : Int) (M : Mm) (Q : Int → Mm → Prop) : Prop :=
    Bd (wX12_isShip v1 M) (fun r3 M4 =>
    (inR r3) ∧
    (if r3 = 0 then
      Q (-1) M4
    else
      Bd (wX12_isDay v2 M4) (fun r9 M10 =>
      (inR r9) ∧
      (if r9 = 0 then
        Q (-1) M10
      else
        Bd (wX12_opening v1 v2 M10) (fun r15 M16 =>
        Bd (wX12_best r15 M16) (fun r19 M20 =>
        Bv (wX12_proves 30 r15 0 (up (up M20 102 19 r19) 102 18 0)) (fun M24 =>
        (inR (M24 102 18)) ∧
        (if (M24 102 18) ≤ 2000 then
          ∃ n, wX12_prove_67 Q n 0 (up M24 102 17 (M24 102 18))
        else
          Q (-1) M24))))))))
set_option maxHeartbeats 4000000 in
theorem s_wX12_prove {Γ : Cx} {h : Nat} (hΓ : Ok Γ cX12_prove RX12 5 h 0 0) (hh : 35 ≤ h) (hr : (cxm Γ).sig.returnType = (some .int)) {Q : Int → Mm → Prop} (v1 : Int) (v2 : Int) (M : Mm) (h : wX12_prove v1 v2 M Q) : Wa Γ 5 (Kf Γ (QI Q) 0 0) 0 0 0 [(0, aR 102), (1, aI v1), (2, aI v2)] [] (NC, RF, M) := by
  unfold wX12_prove at h
  refine a_aload_n hΓ 0 dX12_prove_0 rfl rfl ?_
  refine a_iload_n hΓ 1 dX12_prove_1 rfl rfl ?_
  obtain ⟨P1, q2, h⟩ := h
  refine n_callV (c := 102) (av := [aI v1]) (st := []) hΓ (ct_wX12_isShip _ _ v1 M P1 q2) my_X12_isShip ml_RX12_113 ni_X12_isShip kd_102 rfl lz_102 rfl (Nat.le_trans (by decide) hh) (by decide) (Nat.le_of_ble_eq_true rfl) rfl dX12_prove_2 (fun v Z' hq => ?_)
  obtain ⟨r3, M4, rfl, rfl, hq⟩ := hq
  have h := h r3 M4 hq
  dsimp only at h
  obtain ⟨g5, h⟩ := h
  refine a_if_eq (tgt := 15) hΓ g5 dX12_prove_5 (by decide) (fun c6 => ?_) (fun c6 => ?_)
  · rw [if_pos c6] at h
    refine a_iconst hΓ dX12_prove_15 ?_
    exact a_iret hΓ hr dX12_prove_16 ⟨_, _, rfl, rfl, h⟩
  · rw [if_neg c6] at h
    refine a_iload_n hΓ 2 dX12_prove_8 rfl rfl ?_
    obtain ⟨P7, q8, h⟩ := h
    refine n_callS (av := [aI v2]) (st := []) hΓ (ct_wX12_isDay _ _ v2 M4 P7 q8) my_X12_isDay ml_RX12_109 rfl (Nat.le_trans (by decide) hh) (by decide) (Nat.le_of_ble_eq_true rfl) rfl dX12_prove_9 (fun v Z' hq => ?_)
    obtain ⟨r9, M10, rfl, rfl, hq⟩ := hq
    have h := h r9 M10 hq
    dsimp only at h
    obtain ⟨g11, h⟩ := h
    refine a_if_ne (tgt := 17) hΓ g11 dX12_prove_12 (by decide) (fun c12 => ?_) (fun c12 => ?_)
    · rw [if_pos c12] at h
      refine a_iconst hΓ dX12_prove_15 ?_
      exact a_iret hΓ hr dX12_prove_16 ⟨_, _, rfl, rfl, h⟩
    · rw [if_neg c12] at h
      refine a_aload_n hΓ 0 dX12_prove_17 rfl rfl ?_
      refine a_iload_n hΓ 1 dX12_prove_18 rfl rfl ?_
      refine a_iload_n hΓ 2 dX12_prove_19 rfl rfl ?_
      obtain ⟨P13, q14, h⟩ := h
      refine n_callV (c := 102) (av := [aI v1, aI v2]) (st := []) hΓ (ct_wX12_opening _ _ v1 v2 M10 P13 q14) my_X12_opening ml_RX12_214 ni_X12_opening kd_102 rfl lz_102 rfl (Nat.le_trans (by decide) hh) (by decide) (Nat.le_of_ble_eq_true rfl) rfl dX12_prove_20 (fun v Z' hq => ?_)
      obtain ⟨r15, M16, rfl, rfl, hq⟩ := hq
      have h := h r15 M16 hq
      dsimp only at h
      refine a_istore_n (ls' := [(3, aI r15), (0, aR 102), (1, aI v1), (2, aI v2)]) hΓ dX12_prove_23 rfl (by decide) rfl ?_
      refine a_aload_n hΓ 1 dX12_prove_24 rfl rfl ?_
      refine a_aload_n hΓ 1 dX12_prove_25 rfl rfl ?_
      refine a_iload_n hΓ 0 dX12_prove_26 rfl rfl ?_
      obtain ⟨P17, q18, h⟩ := h
      refine n_callV (c := 102) (av := [aI r15]) (st := [aR 102]) hΓ (ct_wX12_best _ _ r15 M16 P17 q18) my_X12_best ml_RX12_217 ni_X12_best kd_102 rfl lz_102 rfl (Nat.le_trans (by decide) hh) (by decide) (Nat.le_of_ble_eq_true rfl) rfl dX12_prove_27 (fun v Z' hq => ?_)
      obtain ⟨r19, M20, rfl, rfl, hq⟩ := hq
      have h := h r19 M20 hq
      dsimp only at h
      refine n_putI (j := 19) hΓ fl_RX12_236 cl_12 nf_12_19 kd_102 lz_102 dX12_prove_30 (Or.inl ft_12_19) rfl ?_
      refine a_aload_n hΓ 1 dX12_prove_33 rfl rfl ?_
      refine a_iconst hΓ dX12_prove_34 ?_
      refine n_putI (j := 18) hΓ fl_RX12_220 cl_12 nf_12_18 kd_102 lz_102 dX12_prove_35 (Or.inl ft_12_18) rfl ?_
      refine a_aload_n hΓ 1 dX12_prove_38 rfl rfl ?_
      refine a_iload_n hΓ 0 dX12_prove_39 rfl rfl ?_
      refine a_iconst hΓ dX12_prove_40 ?_
      obtain ⟨P21, q22, h⟩ := h
      refine n_callV (c := 102) (av := [aI r15, aI 0]) (st := []) hΓ (ct_wX12_proves _ _ 30 r15 0 (up (up M20 102 19 r19) 102 18 0) P21 q22) my_X12_proves ml_RX12_248 ni_X12_proves kd_102 rfl lz_102 rfl (Nat.le_trans (by decide) hh) (by decide) (Nat.le_of_ble_eq_true rfl) rfl dX12_prove_41 (fun v Z' hq => ?_)
      obtain ⟨M24, rfl, rfl, hq⟩ := hq
      have h := h M24 hq
      dsimp only at h
      refine a_aload_n hΓ 1 dX12_prove_44 rfl rfl ?_
      refine n_getI (x := (M24 102 18)) hΓ fl_RX12_220 cl_12 kd_102 lz_102 dX12_prove_45 (Or.inl ft_12_18) rfl ?_
      refine a_sipush hΓ dX12_prove_48 (by decide) ?_
      obtain ⟨g26, h⟩ := h
      refine a_icmp_le (tgt := 56) hΓ g26 (inRl (by decide)) dX12_prove_51 (by decide) (fun c27 => ?_) (fun c27 => ?_)
      · rw [if_pos c27] at h
        refine a_aload_n hΓ 1 dX12_prove_56 rfl rfl ?_
        refine a_aload_n hΓ 1 dX12_prove_57 rfl rfl ?_
        refine n_getI (x := (M24 102 18)) hΓ fl_RX12_220 cl_12 kd_102 lz_102 dX12_prove_58 (Or.inl ft_12_18) rfl ?_
        refine n_putI (j := 17) hΓ fl_RX12_53 cl_12 nf_12_17 kd_102 lz_102 dX12_prove_61 (Or.inl ft_12_17) rfl ?_
        refine a_iconst hΓ dX12_prove_64 ?_
        refine a_istore (ls' := [(4, aI 0), (3, aI r15), (0, aR 102), (1, aI v1), (2, aI v2)]) hΓ dX12_prove_65 (by decide) rfl ?_
        refine a_sub (ls' := [(0, aR 102), (4, aI 0)]) [2, 0] rfl ?_
        obtain ⟨f28, h⟩ := h
        exact s_wX12_prove_67 hΓ (Nat.le_trans (by decide) hh) hr  f28 0 (up M24 102 17 (M24 102 18)) h
      · rw [if_neg c27] at h
        refine a_iconst hΓ dX12_prove_54 ?_
        exact a_iret hΓ hr dX12_prove_55 ⟨_, _, rfl, rfl, h⟩
theorem ct_wX12_prove (l : Launch) (g : Gp) (v1 : Int) (v2 : Int) (M : Mm) (Q : Int → Mm → Prop) (h : wX12_prove v1 v2 M Q) : Ct l g yX12_prove cX12_prove 5 (some .int) 35 0 0 [aR 102, aI v1, aI v2] (NC, RF, M) (QI Q) :=
  ct_of (by decide) (Nat.le_of_ble_eq_true rfl) (fun Γ hg hl hr _ hΓ => by subst hg; subst hl; exact s_wX12_prove hΓ (by decide) hr v1 v2 M h)
def wX12_proof (v1 : Int) (M : Mm) (Q : Int → Mm → Prop) : Prop :=
    Bd (wX12_in v1 0 ((M 102 17) - 1) M) (fun r3 M4 =>
    (inR r3) ∧
    (if r3 = 0 then
      Q (-1) M4
    else
      (0 ≤ v1 ∧ v1 < 2000) ∧
      Q (M4 111 v1) M4))
set_option maxHeartbeats 4000000 in
theorem s_wX12_proof {Γ : Cx} {h : Nat} (hΓ : Ok Γ cX12_proof RX12 2 h 0 0) (hh : 2 ≤ h) (hr : (cxm Γ).sig.returnType = (some .int)) {Q : Int → Mm → Prop} (v1 : Int) (M : Mm) (h : wX12_proof v1 M Q) : Wa Γ 2 (Kf Γ (QI Q) 0 0) 0 0 0 [(0, aR 102), (1, aI v1)] [] (NC, RF, M) := by
  unfold wX12_proof at h
  refine a_iload_n hΓ 1 dX12_proof_0 rfl rfl ?_
  refine a_iconst hΓ dX12_proof_1 ?_
  refine a_aload_n hΓ 0 dX12_proof_2 rfl rfl ?_
  refine n_getI (x := (M 102 17)) hΓ fl_RX12_53 cl_12 kd_102 lz_102 dX12_proof_3 (Or.inl ft_12_17) rfl ?_
  refine a_iconst hΓ dX12_proof_6 ?_
  refine a_isub hΓ dX12_proof_7 ?_
  obtain ⟨P1, q2, h⟩ := h
  refine n_callS (av := [aI v1, aI 0, aI ((M 102 17) - 1)]) (st := []) hΓ (ct_wX12_in _ _ v1 0 ((M 102 17) - 1) M P1 q2) my_X12_in ml_RX12_3 rfl (Nat.le_trans (by decide) hh) (by decide) (Nat.le_of_ble_eq_true rfl) rfl dX12_proof_8 (fun v Z' hq => ?_)
  obtain ⟨r3, M4, rfl, rfl, hq⟩ := hq
  have h := h r3 M4 hq
  dsimp only at h
  obtain ⟨g5, h⟩ := h
  refine a_if_eq (tgt := 23) hΓ g5 dX12_proof_11 (by decide) (fun c6 => ?_) (fun c6 => ?_)
  · rw [if_pos c6] at h
    refine a_iconst hΓ dX12_proof_23 ?_
    exact a_iret hΓ hr dX12_proof_24 ⟨_, _, rfl, rfl, h⟩
  · rw [if_neg c6] at h
    refine a_aload_n hΓ 0 dX12_proof_14 rfl rfl ?_
    refine n_getR hΓ fl_RX12_46 cl_12 kd_102 lz_102 dX12_proof_15 ft_12_15 rf_102_15 ?_
    refine a_iload_n hΓ 1 dX12_proof_18 rfl rfl ?_
    obtain ⟨g7, h⟩ := h
    refine n_bald (x := (M4 111 v1)) hΓ dX12_proof_19 kd_111 (Or.inr rfl) lz_111 g7 rfl ?_
    refine a_goto (tgt := 24) hΓ dX12_proof_20 (by decide) ?_
    exact a_iret hΓ hr dX12_proof_24 ⟨_, _, rfl, rfl, h⟩
theorem ct_wX12_proof (l : Launch) (g : Gp) (v1 : Int) (M : Mm) (Q : Int → Mm → Prop) (h : wX12_proof v1 M Q) : Ct l g yX12_proof cX12_proof 2 (some .int) 2 0 0 [aR 102, aI v1] (NC, RF, M) (QI Q) :=
  ct_of (by decide) (Nat.le_of_ble_eq_true rfl) (fun Γ hg hl hr _ hΓ => by subst hg; subst hl; exact s_wX12_proof hΓ (by decide) hr v1 M h)
def wX12_feed_101 (Q : Int → Mm → Prop) (M : Mm) : Prop :=
    Q ((M 102 25) + 20) (up M 102 25 ((M 102 25) + 20))
set_option maxHeartbeats 4000000 in
theorem s_wX12_feed_101 {Γ : Cx} {h : Nat} (hΓ : Ok Γ cX12_feed RX12 7 h 0 0) (hh : 1 ≤ h) (hr : (cxm Γ).sig.returnType = (some .int)) {Q : Int → Mm → Prop}   (M : Mm) (h : wX12_feed_101 Q  M) : Wa Γ 7 (Kf Γ (QI Q) 0 0) 0 0 101 [(0, aR 102)] [] (NC, RF, M) := by
  unfold wX12_feed_101 at h
  refine a_aload_n hΓ 0 dX12_feed_101 rfl rfl ?_
  refine a_dupR hΓ dX12_feed_102 ?_
  refine n_getI (x := (M 102 25)) hΓ fl_RX12_251 cl_12 kd_102 lz_102 dX12_feed_103 (Or.inl ft_12_25) rfl ?_
  refine a_bipush hΓ dX12_feed_106 (by decide) ?_
  refine a_iadd hΓ dX12_feed_108 ?_
  refine n_putI (j := 25) hΓ fl_RX12_251 cl_12 nf_12_25 kd_102 lz_102 dX12_feed_109 (Or.inl ft_12_25) rfl ?_
  refine a_aload_n hΓ 0 dX12_feed_112 rfl rfl ?_
  refine n_getI (x := ((M 102 25) + 20)) hΓ fl_RX12_251 cl_12 kd_102 lz_102 dX12_feed_113 (Or.inl ft_12_25) rfl ?_
  exact a_iret hΓ hr dX12_feed_116 ⟨_, _, rfl, rfl, h⟩
def wX12_feed_55 (Q : Int → Mm → Prop) : Nat → Int → Mm → Prop
  | 0, _, _ => False
  | f + 1, v6, M => (inR v6) ∧
    (if v6 < 20 then
      (0 ≤ (Int.tdiv v6 4) ∧ (Int.tdiv v6 4) < 5) ∧
      (0 ≤ ((M 102 25) + v6) ∧ ((M 102 25) + v6) < 400) ∧
      (wX12_feed_55 Q f) (v6 + 1) (up M 114 ((M 102 25) + v6) (i2bI (i2bI (shrI (M 116 (Int.tdiv v6 4)) (24 - (8 * (Int.tmod v6 4)))))))
    else
      wX12_feed_101 Q M)
set_option maxHeartbeats 4000000 in
theorem s_wX12_feed_55 {Γ : Cx} {h : Nat} (hΓ : Ok Γ cX12_feed RX12 7 h 0 0) (hh : 1 ≤ h) (hr : (cxm Γ).sig.returnType = (some .int)) {Q : Int → Mm → Prop}   : ∀ (f : Nat) (v6 : Int) (M : Mm), wX12_feed_55 Q  f v6 M → Wa Γ 7 (Kf Γ (QI Q) 0 0) 0 0 55 [(0, aR 102), (6, aI v6)] [] (NC, RF, M) := by
  intro f
  induction f with
  | zero => intro v6 M h; exact h.elim
  | succ f ih =>
    intro v6 M h
    unfold wX12_feed_55 at h
    refine a_iload hΓ 1 dX12_feed_55 rfl ?_
    refine a_bipush hΓ dX12_feed_57 (by decide) ?_
    obtain ⟨g1, h⟩ := h
    refine a_icmp_ge (tgt := 101) hΓ g1 (inRl (by decide)) dX12_feed_59 (by decide) (fun c2 => ?_) (fun c2 => ?_)
    · rw [if_pos c2] at h
      refine a_aload_n hΓ 0 dX12_feed_62 rfl rfl ?_
      refine n_getR hΓ fl_RX12_59 cl_12 kd_102 lz_102 dX12_feed_63 ft_12_22 rf_102_22 ?_
      refine a_aload_n hΓ 0 dX12_feed_66 rfl rfl ?_
      refine n_getI (x := (M 102 25)) hΓ fl_RX12_251 cl_12 kd_102 lz_102 dX12_feed_67 (Or.inl ft_12_25) rfl ?_
      refine a_iload hΓ 1 dX12_feed_70 rfl ?_
      refine a_iadd hΓ dX12_feed_72 ?_
      refine a_aload_n hΓ 0 dX12_feed_73 rfl rfl ?_
      refine n_getR hΓ fl_RX12_65 cl_12 kd_102 lz_102 dX12_feed_74 ft_12_24 rf_102_24 ?_
      refine a_iload hΓ 1 dX12_feed_77 rfl ?_
      refine a_iconst hΓ dX12_feed_79 ?_
      refine a_idiv hΓ g1 (inRl (by decide)) (by decide) dX12_feed_80 ?_
      obtain ⟨g3, h⟩ := h
      refine n_iald (x := (M 116 (Int.tdiv v6 4))) hΓ dX12_feed_81 kd_116 lz_116 g3 rfl ?_
      refine a_bipush hΓ dX12_feed_82 (by decide) ?_
      refine a_bipush hΓ dX12_feed_84 (by decide) ?_
      refine a_iload hΓ 1 dX12_feed_86 rfl ?_
      refine a_iconst hΓ dX12_feed_88 ?_
      refine a_irem hΓ g1 (inRl (by decide)) (by decide) dX12_feed_89 ?_
      refine a_imul hΓ dX12_feed_90 ?_
      refine a_isub hΓ dX12_feed_91 ?_
      refine a_ishr hΓ dX12_feed_92 ?_
      refine a_i2b hΓ dX12_feed_93 ?_
      obtain ⟨g4, h⟩ := h
      refine a_bast hΓ rfl dX12_feed_94 kd_114 lz_114 g4 ?_
      refine a_iinc (ls' := [(6, aI (v6 + 1)), (0, aR 102)]) hΓ 1 dX12_feed_95 rfl (by decide) rfl ?_
      refine a_goto (tgt := 55) hΓ dX12_feed_98 (by decide) ?_
      refine a_sub (ls' := [(0, aR 102), (6, aI (v6 + 1))]) [1, 0] rfl ?_
      exact ih (v6 + 1) (up M 114 ((M 102 25) + v6) (i2bI (i2bI (shrI (M 116 (Int.tdiv v6 4)) (24 - (8 * (Int.tmod v6 4))))))) h
    · rw [if_neg c2] at h
      refine a_sub (ls' := [(0, aR 102)]) [0] rfl ?_
      exact s_wX12_feed_101 hΓ (Nat.le_trans (by decide) hh) hr  M h
def wX12_feed (v1 : Int) (v2 : Int) (v3 : Int) (v4 : Int) (v5 : Int) (M : Mm) (Q : Int → Mm → Prop) : Prop :=
    (inR ((M 102 25) + 20)) ∧
    (if ((M 102 25) + 20) ≤ 400 then
      ∃ n, wX12_feed_55 Q n 0 (up (up (up (up (up M 116 0 v1) 116 1 v2) 116 2 v3) 116 3 v4) 116 4 v5)
    else
      Q (-1) M)
set_option maxHeartbeats 4000000 in
theorem s_wX12_feed {Γ : Cx} {h : Nat} (hΓ : Ok Γ cX12_feed RX12 7 h 0 0) (hh : 1 ≤ h) (hr : (cxm Γ).sig.returnType = (some .int)) {Q : Int → Mm → Prop} (v1 : Int) (v2 : Int) (v3 : Int) (v4 : Int) (v5 : Int) (M : Mm) (h : wX12_feed v1 v2 v3 v4 v5 M Q) : Wa Γ 7 (Kf Γ (QI Q) 0 0) 0 0 0 [(0, aR 102), (1, aI v1), (2, aI v2), (3, aI v3), (4, aI v4), (5, aI v5)] [] (NC, RF, M) := by
  unfold wX12_feed at h
  refine a_aload_n hΓ 0 dX12_feed_0 rfl rfl ?_
  refine n_getI (x := (M 102 25)) hΓ fl_RX12_251 cl_12 kd_102 lz_102 dX12_feed_1 (Or.inl ft_12_25) rfl ?_
  refine a_bipush hΓ dX12_feed_4 (by decide) ?_
  refine a_iadd hΓ dX12_feed_6 ?_
  refine a_sipush hΓ dX12_feed_7 (by decide) ?_
  obtain ⟨g1, h⟩ := h
  refine a_icmp_le (tgt := 15) hΓ g1 (inRl (by decide)) dX12_feed_10 (by decide) (fun c2 => ?_) (fun c2 => ?_)
  · rw [if_pos c2] at h
    refine a_aload_n hΓ 0 dX12_feed_15 rfl rfl ?_
    refine n_getR hΓ fl_RX12_65 cl_12 kd_102 lz_102 dX12_feed_16 ft_12_24 rf_102_24 ?_
    refine a_iconst hΓ dX12_feed_19 ?_
    refine a_iload_n hΓ 1 dX12_feed_20 rfl rfl ?_
    refine a_iast hΓ dX12_feed_21 kd_116 lz_116 ⟨by decide, by decide⟩ ?_
    refine a_aload_n hΓ 0 dX12_feed_22 rfl rfl ?_
    refine n_getR hΓ fl_RX12_65 cl_12 kd_102 lz_102 dX12_feed_23 ft_12_24 rf_102_24 ?_
    refine a_iconst hΓ dX12_feed_26 ?_
    refine a_iload_n hΓ 2 dX12_feed_27 rfl rfl ?_
    refine a_iast hΓ dX12_feed_28 kd_116 lz_116 ⟨by decide, by decide⟩ ?_
    refine a_aload_n hΓ 0 dX12_feed_29 rfl rfl ?_
    refine n_getR hΓ fl_RX12_65 cl_12 kd_102 lz_102 dX12_feed_30 ft_12_24 rf_102_24 ?_
    refine a_iconst hΓ dX12_feed_33 ?_
    refine a_iload_n hΓ 3 dX12_feed_34 rfl rfl ?_
    refine a_iast hΓ dX12_feed_35 kd_116 lz_116 ⟨by decide, by decide⟩ ?_
    refine a_aload_n hΓ 0 dX12_feed_36 rfl rfl ?_
    refine n_getR hΓ fl_RX12_65 cl_12 kd_102 lz_102 dX12_feed_37 ft_12_24 rf_102_24 ?_
    refine a_iconst hΓ dX12_feed_40 ?_
    refine a_iload hΓ 4 dX12_feed_41 rfl ?_
    refine a_iast hΓ dX12_feed_43 kd_116 lz_116 ⟨by decide, by decide⟩ ?_
    refine a_aload_n hΓ 0 dX12_feed_44 rfl rfl ?_
    refine n_getR hΓ fl_RX12_65 cl_12 kd_102 lz_102 dX12_feed_45 ft_12_24 rf_102_24 ?_
    refine a_iconst hΓ dX12_feed_48 ?_
    refine a_iload hΓ 5 dX12_feed_49 rfl ?_
    refine a_iast hΓ dX12_feed_51 kd_116 lz_116 ⟨by decide, by decide⟩ ?_
    refine a_iconst hΓ dX12_feed_52 ?_
    refine a_istore (ls' := [(6, aI 0), (0, aR 102), (1, aI v1), (2, aI v2), (3, aI v3), (4, aI v4), (5, aI v5)]) hΓ dX12_feed_53 (by decide) rfl ?_
    refine a_sub (ls' := [(0, aR 102), (6, aI 0)]) [1, 0] rfl ?_
    obtain ⟨f3, h⟩ := h
    exact s_wX12_feed_55 hΓ (Nat.le_trans (by decide) hh) hr  f3 0 (up (up (up (up (up M 116 0 v1) 116 1 v2) 116 2 v3) 116 3 v4) 116 4 v5) h
  · rw [if_neg c2] at h
    refine a_iconst hΓ dX12_feed_13 ?_
    exact a_iret hΓ hr dX12_feed_14 ⟨_, _, rfl, rfl, h⟩
theorem ct_wX12_feed (l : Launch) (g : Gp) (v1 : Int) (v2 : Int) (v3 : Int) (v4 : Int) (v5 : Int) (M : Mm) (Q : Int → Mm → Prop) (h : wX12_feed v1 v2 v3 v4 v5 M Q) : Ct l g yX12_feed cX12_feed 7 (some .int) 1 0 0 [aR 102, aI v1, aI v2, aI v3, aI v4, aI v5] (NC, RF, M) (QI Q) :=
  ct_of (by decide) (Nat.le_of_ble_eq_true rfl) (fun Γ hg hl hr _ hΓ => by subst hg; subst hl; exact s_wX12_feed hΓ (by decide) hr v1 v2 v3 v4 v5 M h)
def wX12_end (v1 : Int) (M : Mm) (Q : Int → Mm → Prop) : Prop :=
    Bd (wX12_in v1 0 (M 102 25) M) (fun r3 M4 =>
    (inR r3) ∧
    (if r3 = 0 then
      Q (-1) M4
    else
      Q v1 (up M4 102 25 v1)))
set_option maxHeartbeats 4000000 in
theorem s_wX12_end {Γ : Cx} {h : Nat} (hΓ : Ok Γ cX12_end RX12 2 h 0 0) (hh : 2 ≤ h) (hr : (cxm Γ).sig.returnType = (some .int)) {Q : Int → Mm → Prop} (v1 : Int) (M : Mm) (h : wX12_end v1 M Q) : Wa Γ 2 (Kf Γ (QI Q) 0 0) 0 0 0 [(0, aR 102), (1, aI v1)] [] (NC, RF, M) := by
  unfold wX12_end at h
  refine a_iload_n hΓ 1 dX12_end_0 rfl rfl ?_
  refine a_iconst hΓ dX12_end_1 ?_
  refine a_aload_n hΓ 0 dX12_end_2 rfl rfl ?_
  refine n_getI (x := (M 102 25)) hΓ fl_RX12_251 cl_12 kd_102 lz_102 dX12_end_3 (Or.inl ft_12_25) rfl ?_
  obtain ⟨P1, q2, h⟩ := h
  refine n_callS (av := [aI v1, aI 0, aI (M 102 25)]) (st := []) hΓ (ct_wX12_in _ _ v1 0 (M 102 25) M P1 q2) my_X12_in ml_RX12_3 rfl (Nat.le_trans (by decide) hh) (by decide) (Nat.le_of_ble_eq_true rfl) rfl dX12_end_6 (fun v Z' hq => ?_)
  obtain ⟨r3, M4, rfl, rfl, hq⟩ := hq
  have h := h r3 M4 hq
  dsimp only at h
  obtain ⟨g5, h⟩ := h
  refine a_if_ne (tgt := 14) hΓ g5 dX12_end_9 (by decide) (fun c6 => ?_) (fun c6 => ?_)
  · rw [if_pos c6] at h
    refine a_iconst hΓ dX12_end_12 ?_
    exact a_iret hΓ hr dX12_end_13 ⟨_, _, rfl, rfl, h⟩
  · rw [if_neg c6] at h
    refine a_aload_n hΓ 0 dX12_end_14 rfl rfl ?_
    refine a_iload_n hΓ 1 dX12_end_15 rfl rfl ?_
    refine n_putI (j := 25) hΓ fl_RX12_251 cl_12 nf_12_25 kd_102 lz_102 dX12_end_16 (Or.inl ft_12_25) rfl ?_
    refine a_iload_n hΓ 1 dX12_end_19 rfl rfl ?_
    exact a_iret hΓ hr dX12_end_20 ⟨_, _, rfl, rfl, h⟩
theorem ct_wX12_end (l : Launch) (g : Gp) (v1 : Int) (M : Mm) (Q : Int → Mm → Prop) (h : wX12_end v1 M Q) : Ct l g yX12_end cX12_end 2 (some .int) 2 0 0 [aR 102, aI v1] (NC, RF, M) (QI Q) :=
  ct_of (by decide) (Nat.le_of_ble_eq_true rfl) (fun Γ hg hl hr _ hΓ => by subst hg; subst hl; exact s_wX12_end hΓ (by decide) hr v1 M h)
def wX12_isDigit (v1 : Int) (M : Mm) (Q : Int → Mm → Prop) : Prop :=
    (inR v1) ∧
    (inR (M 102 26)) ∧
    (if v1 < (M 102 26) then
      (0 ≤ v1 ∧ v1 < 400) ∧
      (inR (M 115 v1)) ∧
      (if (M 115 v1) < 48 then
        Q 0 M
      else
        (if (M 115 v1) ≤ 57 then
          Q 1 M
        else
          Q 0 M))
    else
      Q 0 M)
set_option maxHeartbeats 4000000 in
theorem s_wX12_isDigit {Γ : Cx} {h : Nat} (hΓ : Ok Γ cX12_isDigit RX12 2 h 0 0) (hh : 1 ≤ h) (hr : (cxm Γ).sig.returnType = (some .boolean)) {Q : Int → Mm → Prop} (v1 : Int) (M : Mm) (h : wX12_isDigit v1 M Q) : Wa Γ 2 (Kf Γ (QI Q) 0 0) 0 0 0 [(0, aR 102), (1, aI v1)] [] (NC, RF, M) := by
  unfold wX12_isDigit at h
  refine a_iload_n hΓ 1 dX12_isDigit_0 rfl rfl ?_
  refine a_aload_n hΓ 0 dX12_isDigit_1 rfl rfl ?_
  refine n_getI (x := (M 102 26)) hΓ fl_RX12_254 cl_12 kd_102 lz_102 dX12_isDigit_2 (Or.inl ft_12_26) rfl ?_
  obtain ⟨g1, h⟩ := h
  obtain ⟨g2, h⟩ := h
  refine a_icmp_ge (tgt := 34) hΓ g1 g2 dX12_isDigit_5 (by decide) (fun c3 => ?_) (fun c3 => ?_)
  · rw [if_pos c3] at h
    refine a_aload_n hΓ 0 dX12_isDigit_8 rfl rfl ?_
    refine n_getR hΓ fl_RX12_62 cl_12 kd_102 lz_102 dX12_isDigit_9 ft_12_23 rf_102_23 ?_
    refine a_iload_n hΓ 1 dX12_isDigit_12 rfl rfl ?_
    obtain ⟨g4, h⟩ := h
    refine n_bald (x := (M 115 v1)) hΓ dX12_isDigit_13 kd_115 (Or.inr rfl) lz_115 g4 rfl ?_
    refine a_bipush hΓ dX12_isDigit_14 (by decide) ?_
    obtain ⟨g5, h⟩ := h
    refine a_icmp_lt (tgt := 34) hΓ g5 (inRl (by decide)) dX12_isDigit_16 (by decide) (fun c6 => ?_) (fun c6 => ?_)
    · rw [if_pos c6] at h
      refine a_iconst hΓ dX12_isDigit_34 ?_
      exact a_zret hΓ hr (Or.inl rfl) dX12_isDigit_35 ⟨_, _, rfl, rfl, h⟩
    · rw [if_neg c6] at h
      refine a_aload_n hΓ 0 dX12_isDigit_19 rfl rfl ?_
      refine n_getR hΓ fl_RX12_62 cl_12 kd_102 lz_102 dX12_isDigit_20 ft_12_23 rf_102_23 ?_
      refine a_iload_n hΓ 1 dX12_isDigit_23 rfl rfl ?_
      refine n_bald (x := (M 115 v1)) hΓ dX12_isDigit_24 kd_115 (Or.inr rfl) lz_115 g4 rfl ?_
      refine a_bipush hΓ dX12_isDigit_25 (by decide) ?_
      refine a_icmp_gt (tgt := 34) hΓ g5 (inRl (by decide)) dX12_isDigit_27 (by decide) (fun c7 => ?_) (fun c7 => ?_)
      · rw [if_pos c7] at h
        refine a_iconst hΓ dX12_isDigit_30 ?_
        refine a_goto (tgt := 35) hΓ dX12_isDigit_31 (by decide) ?_
        exact a_zret hΓ hr (Or.inr rfl) dX12_isDigit_35 ⟨_, _, rfl, rfl, h⟩
      · rw [if_neg c7] at h
        refine a_iconst hΓ dX12_isDigit_34 ?_
        exact a_zret hΓ hr (Or.inl rfl) dX12_isDigit_35 ⟨_, _, rfl, rfl, h⟩
  · rw [if_neg c3] at h
    refine a_iconst hΓ dX12_isDigit_34 ?_
    exact a_zret hΓ hr (Or.inl rfl) dX12_isDigit_35 ⟨_, _, rfl, rfl, h⟩
theorem ct_wX12_isDigit (l : Launch) (g : Gp) (v1 : Int) (M : Mm) (Q : Int → Mm → Prop) (h : wX12_isDigit v1 M Q) : Ct l g yX12_isDigit cX12_isDigit 2 (some .boolean) 1 0 0 [aR 102, aI v1] (NC, RF, M) (QI Q) :=
  ct_of (by decide) (Nat.le_of_ble_eq_true rfl) (fun Γ hg hl hr _ hΓ => by subst hg; subst hl; exact s_wX12_isDigit hΓ (by decide) hr v1 M h)
def wX12_next_65 (Q : Mm → Prop) : Nat → Mm → Prop
  | 0, _ => False
  | f + 1, M => Bd (wX12_isDigit (M 102 28) M) (fun r3 M4 =>
    (inR r3) ∧
    (if r3 = 0 then
      Q M4
    else
      (wX12_next_65 Q f) (up M4 102 28 ((M4 102 28) + 1))))
set_option maxHeartbeats 4000000 in
theorem s_wX12_next_65 {Γ : Cx} {h : Nat} (hΓ : Ok Γ cX12_next RX12 1 h 0 0) (hh : 2 ≤ h) (hr : (cxm Γ).sig.returnType = none) {Q : Mm → Prop}   : ∀ (f : Nat) (M : Mm), wX12_next_65 Q  f M → Wa Γ 1 (Kf Γ (QV Q) 0 0) 0 0 65 [(0, aR 102)] [] (NC, RF, M) := by
  intro f
  induction f with
  | zero => intro M h; exact h.elim
  | succ f ih =>
    intro M h
    unfold wX12_next_65 at h
    refine a_aload_n hΓ 0 dX12_next_65 rfl rfl ?_
    refine a_aload_n hΓ 0 dX12_next_66 rfl rfl ?_
    refine n_getI (x := (M 102 28)) hΓ fl_RX12_257 cl_12 kd_102 lz_102 dX12_next_67 (Or.inl ft_12_28) rfl ?_
    obtain ⟨P1, q2, h⟩ := h
    refine n_callV (c := 102) (av := [aI (M 102 28)]) (st := []) hΓ (ct_wX12_isDigit _ _ (M 102 28) M P1 q2) my_X12_isDigit ml_RX12_263 ni_X12_isDigit kd_102 rfl lz_102 rfl (Nat.le_trans (by decide) hh) (by decide) (Nat.le_of_ble_eq_true rfl) rfl dX12_next_70 (fun v Z' hq => ?_)
    obtain ⟨r3, M4, rfl, rfl, hq⟩ := hq
    have h := h r3 M4 hq
    dsimp only at h
    obtain ⟨g5, h⟩ := h
    refine a_if_eq (tgt := 110) hΓ g5 dX12_next_73 (by decide) (fun c6 => ?_) (fun c6 => ?_)
    · rw [if_pos c6] at h
      exact a_vret hΓ hr dX12_next_110 ⟨_, rfl, rfl, h⟩
    · rw [if_neg c6] at h
      refine a_aload_n hΓ 0 dX12_next_76 rfl rfl ?_
      refine a_dupR hΓ dX12_next_77 ?_
      refine n_getI (x := (M4 102 28)) hΓ fl_RX12_257 cl_12 kd_102 lz_102 dX12_next_78 (Or.inl ft_12_28) rfl ?_
      refine a_iconst hΓ dX12_next_81 ?_
      refine a_iadd hΓ dX12_next_82 ?_
      refine n_putI (j := 28) hΓ fl_RX12_257 cl_12 nf_12_28 kd_102 lz_102 dX12_next_83 (Or.inl ft_12_28) rfl ?_
      refine a_goto (tgt := 65) hΓ dX12_next_86 (by decide) ?_
      exact ih (up M4 102 28 ((M4 102 28) + 1)) h
def wX12_next_46 (Q : Mm → Prop) (M : Mm) : Prop :=
    Bd (wX12_isDigit (M 102 27) (up M 102 28 (M 102 27))) (fun r3 M4 =>
    (inR r3) ∧
    (if r3 = 0 then
      (inR (M4 102 27)) ∧
      (inR (M4 102 26)) ∧
      (if (M4 102 27) < (M4 102 26) then
        Q (up M4 102 28 ((M4 102 28) + 1))
      else
        Q M4)
    else
      ∃ n, wX12_next_65 Q n M4))
set_option maxHeartbeats 4000000 in
theorem s_wX12_next_46 {Γ : Cx} {h : Nat} (hΓ : Ok Γ cX12_next RX12 1 h 0 0) (hh : 2 ≤ h) (hr : (cxm Γ).sig.returnType = none) {Q : Mm → Prop}   (M : Mm) (h : wX12_next_46 Q  M) : Wa Γ 1 (Kf Γ (QV Q) 0 0) 0 0 46 [(0, aR 102)] [] (NC, RF, M) := by
  unfold wX12_next_46 at h
  refine a_aload_n hΓ 0 dX12_next_46 rfl rfl ?_
  refine a_aload_n hΓ 0 dX12_next_47 rfl rfl ?_
  refine n_getI (x := (M 102 27)) hΓ fl_RX12_260 cl_12 kd_102 lz_102 dX12_next_48 (Or.inl ft_12_27) rfl ?_
  refine n_putI (j := 28) hΓ fl_RX12_257 cl_12 nf_12_28 kd_102 lz_102 dX12_next_51 (Or.inl ft_12_28) rfl ?_
  refine a_aload_n hΓ 0 dX12_next_54 rfl rfl ?_
  refine a_aload_n hΓ 0 dX12_next_55 rfl rfl ?_
  refine n_getI (x := (M 102 27)) hΓ fl_RX12_260 cl_12 kd_102 lz_102 dX12_next_56 (Or.inl ft_12_27) rfl ?_
  obtain ⟨P1, q2, h⟩ := h
  refine n_callV (c := 102) (av := [aI (M 102 27)]) (st := []) hΓ (ct_wX12_isDigit _ _ (M 102 27) (up M 102 28 (M 102 27)) P1 q2) my_X12_isDigit ml_RX12_263 ni_X12_isDigit kd_102 rfl lz_102 rfl (Nat.le_trans (by decide) hh) (by decide) (Nat.le_of_ble_eq_true rfl) rfl dX12_next_59 (fun v Z' hq => ?_)
  obtain ⟨r3, M4, rfl, rfl, hq⟩ := hq
  have h := h r3 M4 hq
  dsimp only at h
  obtain ⟨g5, h⟩ := h
  refine a_if_eq (tgt := 89) hΓ g5 dX12_next_62 (by decide) (fun c6 => ?_) (fun c6 => ?_)
  · rw [if_pos c6] at h
    refine a_aload_n hΓ 0 dX12_next_89 rfl rfl ?_
    refine n_getI (x := (M4 102 27)) hΓ fl_RX12_260 cl_12 kd_102 lz_102 dX12_next_90 (Or.inl ft_12_27) rfl ?_
    refine a_aload_n hΓ 0 dX12_next_93 rfl rfl ?_
    refine n_getI (x := (M4 102 26)) hΓ fl_RX12_254 cl_12 kd_102 lz_102 dX12_next_94 (Or.inl ft_12_26) rfl ?_
    obtain ⟨g7, h⟩ := h
    obtain ⟨g8, h⟩ := h
    refine a_icmp_ge (tgt := 110) hΓ g7 g8 dX12_next_97 (by decide) (fun c9 => ?_) (fun c9 => ?_)
    · rw [if_pos c9] at h
      refine a_aload_n hΓ 0 dX12_next_100 rfl rfl ?_
      refine a_dupR hΓ dX12_next_101 ?_
      refine n_getI (x := (M4 102 28)) hΓ fl_RX12_257 cl_12 kd_102 lz_102 dX12_next_102 (Or.inl ft_12_28) rfl ?_
      refine a_iconst hΓ dX12_next_105 ?_
      refine a_iadd hΓ dX12_next_106 ?_
      refine n_putI (j := 28) hΓ fl_RX12_257 cl_12 nf_12_28 kd_102 lz_102 dX12_next_107 (Or.inl ft_12_28) rfl ?_
      exact a_vret hΓ hr dX12_next_110 ⟨_, rfl, rfl, h⟩
    · rw [if_neg c9] at h
      exact a_vret hΓ hr dX12_next_110 ⟨_, rfl, rfl, h⟩
  · rw [if_neg c6] at h
    obtain ⟨f10, h⟩ := h
    exact s_wX12_next_65 hΓ (Nat.le_trans (by decide) hh) hr  f10 M4 h
def wX12_next_8 (Q : Mm → Prop) : Nat → Mm → Prop
  | 0, _ => False
  | f + 1, M => (inR (M 102 27)) ∧
    (inR (M 102 26)) ∧
    (if (M 102 27) < (M 102 26) then
      (0 ≤ (M 102 27) ∧ (M 102 27) < 400) ∧
      (inR (M 115 (M 102 27))) ∧
      (if (M 115 (M 102 27)) = 32 then
        (wX12_next_8 Q f) (up M 102 27 ((M 102 27) + 1))
      else
        wX12_next_46 Q M)
    else
      wX12_next_46 Q M)
set_option maxHeartbeats 4000000 in
theorem s_wX12_next_8 {Γ : Cx} {h : Nat} (hΓ : Ok Γ cX12_next RX12 1 h 0 0) (hh : 2 ≤ h) (hr : (cxm Γ).sig.returnType = none) {Q : Mm → Prop}   : ∀ (f : Nat) (M : Mm), wX12_next_8 Q  f M → Wa Γ 1 (Kf Γ (QV Q) 0 0) 0 0 8 [(0, aR 102)] [] (NC, RF, M) := by
  intro f
  induction f with
  | zero => intro M h; exact h.elim
  | succ f ih =>
    intro M h
    unfold wX12_next_8 at h
    refine a_aload_n hΓ 0 dX12_next_8 rfl rfl ?_
    refine n_getI (x := (M 102 27)) hΓ fl_RX12_260 cl_12 kd_102 lz_102 dX12_next_9 (Or.inl ft_12_27) rfl ?_
    refine a_aload_n hΓ 0 dX12_next_12 rfl rfl ?_
    refine n_getI (x := (M 102 26)) hΓ fl_RX12_254 cl_12 kd_102 lz_102 dX12_next_13 (Or.inl ft_12_26) rfl ?_
    obtain ⟨g1, h⟩ := h
    obtain ⟨g2, h⟩ := h
    refine a_icmp_ge (tgt := 46) hΓ g1 g2 dX12_next_16 (by decide) (fun c3 => ?_) (fun c3 => ?_)
    · rw [if_pos c3] at h
      refine a_aload_n hΓ 0 dX12_next_19 rfl rfl ?_
      refine n_getR hΓ fl_RX12_62 cl_12 kd_102 lz_102 dX12_next_20 ft_12_23 rf_102_23 ?_
      refine a_aload_n hΓ 0 dX12_next_23 rfl rfl ?_
      refine n_getI (x := (M 102 27)) hΓ fl_RX12_260 cl_12 kd_102 lz_102 dX12_next_24 (Or.inl ft_12_27) rfl ?_
      obtain ⟨g4, h⟩ := h
      refine n_bald (x := (M 115 (M 102 27))) hΓ dX12_next_27 kd_115 (Or.inr rfl) lz_115 g4 rfl ?_
      refine a_bipush hΓ dX12_next_28 (by decide) ?_
      obtain ⟨g5, h⟩ := h
      refine a_icmp_ne (tgt := 46) hΓ g5 (inRl (by decide)) dX12_next_30 (by decide) (fun c6 => ?_) (fun c6 => ?_)
      · rw [if_pos c6] at h
        refine a_aload_n hΓ 0 dX12_next_33 rfl rfl ?_
        refine a_dupR hΓ dX12_next_34 ?_
        refine n_getI (x := (M 102 27)) hΓ fl_RX12_260 cl_12 kd_102 lz_102 dX12_next_35 (Or.inl ft_12_27) rfl ?_
        refine a_iconst hΓ dX12_next_38 ?_
        refine a_iadd hΓ dX12_next_39 ?_
        refine n_putI (j := 27) hΓ fl_RX12_260 cl_12 nf_12_27 kd_102 lz_102 dX12_next_40 (Or.inl ft_12_27) rfl ?_
        refine a_goto (tgt := 8) hΓ dX12_next_43 (by decide) ?_
        exact ih (up M 102 27 ((M 102 27) + 1)) h
      · rw [if_neg c6] at h
        exact s_wX12_next_46 hΓ (Nat.le_trans (by decide) hh) hr  M h
    · rw [if_neg c3] at h
      exact s_wX12_next_46 hΓ (Nat.le_trans (by decide) hh) hr  M h
def wX12_next  (M : Mm) (Q : Mm → Prop) : Prop :=
    ∃ n, wX12_next_8 Q n (up M 102 27 (M 102 28))
set_option maxHeartbeats 4000000 in
theorem s_wX12_next {Γ : Cx} {h : Nat} (hΓ : Ok Γ cX12_next RX12 1 h 0 0) (hh : 2 ≤ h) (hr : (cxm Γ).sig.returnType = none) {Q : Mm → Prop}  (M : Mm) (h : wX12_next  M Q) : Wa Γ 1 (Kf Γ (QV Q) 0 0) 0 0 0 [(0, aR 102)] [] (NC, RF, M) := by
  unfold wX12_next at h
  refine a_aload_n hΓ 0 dX12_next_0 rfl rfl ?_
  refine a_aload_n hΓ 0 dX12_next_1 rfl rfl ?_
  refine n_getI (x := (M 102 28)) hΓ fl_RX12_257 cl_12 kd_102 lz_102 dX12_next_2 (Or.inl ft_12_28) rfl ?_
  refine n_putI (j := 27) hΓ fl_RX12_260 cl_12 nf_12_27 kd_102 lz_102 dX12_next_5 (Or.inl ft_12_27) rfl ?_
  obtain ⟨f1, h⟩ := h
  exact s_wX12_next_8 hΓ (Nat.le_trans (by decide) hh) hr  f1 (up M 102 27 (M 102 28)) h
theorem ct_wX12_next (l : Launch) (g : Gp)  (M : Mm) (Q : Mm → Prop) (h : wX12_next  M Q) : Ct l g yX12_next cX12_next 1 none 2 0 0 [aR 102] (NC, RF, M) (QV Q) :=
  ct_of (by decide) (Nat.le_of_ble_eq_true rfl) (fun Γ hg hl hr _ hΓ => by subst hg; subst hl; exact s_wX12_next hΓ (by decide) hr  M h)
def wX12_good  (M : Mm) (Q : Int → Mm → Prop) : Prop :=
    (inR (M 102 30)) ∧
    (if (M 102 30) = (-1) then
      Q 1 M
    else
      Q 0 M)
set_option maxHeartbeats 4000000 in
theorem s_wX12_good {Γ : Cx} {h : Nat} (hΓ : Ok Γ cX12_good RX12 1 h 0 0) (hh : 1 ≤ h) (hr : (cxm Γ).sig.returnType = (some .boolean)) {Q : Int → Mm → Prop}  (M : Mm) (h : wX12_good  M Q) : Wa Γ 1 (Kf Γ (QI Q) 0 0) 0 0 0 [(0, aR 102)] [] (NC, RF, M) := by
  unfold wX12_good at h
  refine a_aload_n hΓ 0 dX12_good_0 rfl rfl ?_
  refine n_getI (x := (M 102 30)) hΓ fl_RX12_266 cl_12 kd_102 lz_102 dX12_good_1 (Or.inl ft_12_30) rfl ?_
  refine a_iconst hΓ dX12_good_4 ?_
  obtain ⟨g1, h⟩ := h
  refine a_icmp_ne (tgt := 12) hΓ g1 (inRl (by decide)) dX12_good_5 (by decide) (fun c2 => ?_) (fun c2 => ?_)
  · rw [if_pos c2] at h
    refine a_iconst hΓ dX12_good_8 ?_
    refine a_goto (tgt := 13) hΓ dX12_good_9 (by decide) ?_
    exact a_zret hΓ hr (Or.inr rfl) dX12_good_13 ⟨_, _, rfl, rfl, h⟩
  · rw [if_neg c2] at h
    refine a_iconst hΓ dX12_good_12 ?_
    exact a_zret hΓ hr (Or.inl rfl) dX12_good_13 ⟨_, _, rfl, rfl, h⟩
theorem ct_wX12_good (l : Launch) (g : Gp)  (M : Mm) (Q : Int → Mm → Prop) (h : wX12_good  M Q) : Ct l g yX12_good cX12_good 1 (some .boolean) 1 0 0 [aR 102] (NC, RF, M) (QI Q) :=
  ct_of (by decide) (Nat.le_of_ble_eq_true rfl) (fun Γ hg hl hr _ hΓ => by subst hg; subst hl; exact s_wX12_good hΓ (by decide) hr  M h)
def wX12_faults  (M : Mm) (Q : Mm → Prop) : Prop :=
    Bd (wX12_good M) (fun r3 M4 =>
    (inR r3) ∧
    (if r3 = 0 then
      Q M4
    else
      Q (up M4 102 30 (M4 102 27))))
set_option maxHeartbeats 4000000 in
theorem s_wX12_faults {Γ : Cx} {h : Nat} (hΓ : Ok Γ cX12_faults RX12 1 h 0 0) (hh : 2 ≤ h) (hr : (cxm Γ).sig.returnType = none) {Q : Mm → Prop}  (M : Mm) (h : wX12_faults  M Q) : Wa Γ 1 (Kf Γ (QV Q) 0 0) 0 0 0 [(0, aR 102)] [] (NC, RF, M) := by
  unfold wX12_faults at h
  refine a_aload_n hΓ 0 dX12_faults_0 rfl rfl ?_
  obtain ⟨P1, q2, h⟩ := h
  refine n_callV (c := 102) (av := []) (st := []) hΓ (ct_wX12_good _ _  M P1 q2) my_X12_good ml_RX12_269 ni_X12_good kd_102 rfl lz_102 rfl (Nat.le_trans (by decide) hh) (by decide) (Nat.le_of_ble_eq_true rfl) rfl dX12_faults_1 (fun v Z' hq => ?_)
  obtain ⟨r3, M4, rfl, rfl, hq⟩ := hq
  have h := h r3 M4 hq
  dsimp only at h
  obtain ⟨g5, h⟩ := h
  refine a_if_eq (tgt := 15) hΓ g5 dX12_faults_4 (by decide) (fun c6 => ?_) (fun c6 => ?_)
  · rw [if_pos c6] at h
    exact a_vret hΓ hr dX12_faults_15 ⟨_, rfl, rfl, h⟩
  · rw [if_neg c6] at h
    refine a_aload_n hΓ 0 dX12_faults_7 rfl rfl ?_
    refine a_aload_n hΓ 0 dX12_faults_8 rfl rfl ?_
    refine n_getI (x := (M4 102 27)) hΓ fl_RX12_260 cl_12 kd_102 lz_102 dX12_faults_9 (Or.inl ft_12_27) rfl ?_
    refine n_putI (j := 30) hΓ fl_RX12_266 cl_12 nf_12_30 kd_102 lz_102 dX12_faults_12 (Or.inl ft_12_30) rfl ?_
    exact a_vret hΓ hr dX12_faults_15 ⟨_, rfl, rfl, h⟩
theorem ct_wX12_faults (l : Launch) (g : Gp)  (M : Mm) (Q : Mm → Prop) (h : wX12_faults  M Q) : Ct l g yX12_faults cX12_faults 1 none 2 0 0 [aR 102] (NC, RF, M) (QV Q) :=
  ct_of (by decide) (Nat.le_of_ble_eq_true rfl) (fun Γ hg hl hr _ hΓ => by subst hg; subst hl; exact s_wX12_faults hΓ (by decide) hr  M h)
def wX12_takes (v1 : Int) (M : Mm) (Q : Int → Mm → Prop) : Prop :=
    Bd (wX12_good M) (fun r3 M4 =>
    (inR r3) ∧
    (if r3 = 0 then
      Q 0 M4
    else
      (inR (M4 102 27)) ∧
      (inR (M4 102 26)) ∧
      (if (M4 102 27) < (M4 102 26) then
        (0 ≤ (M4 102 27) ∧ (M4 102 27) < 400) ∧
        (inR (M4 115 (M4 102 27))) ∧
        (inR v1) ∧
        (if (M4 115 (M4 102 27)) = v1 then
          Bv (wX12_next M4) (fun M19 =>
          Q 1 M19)
        else
          Q 0 M4)
      else
        Q 0 M4)))
set_option maxHeartbeats 4000000 in
theorem s_wX12_takes {Γ : Cx} {h : Nat} (hΓ : Ok Γ cX12_takes RX12 3 h 0 0) (hh : 3 ≤ h) (hr : (cxm Γ).sig.returnType = (some .boolean)) {Q : Int → Mm → Prop} (v1 : Int) (M : Mm) (h : wX12_takes v1 M Q) : Wa Γ 3 (Kf Γ (QI Q) 0 0) 0 0 0 [(0, aR 102), (1, aI v1)] [] (NC, RF, M) := by
  unfold wX12_takes at h
  refine a_aload_n hΓ 0 dX12_takes_0 rfl rfl ?_
  obtain ⟨P1, q2, h⟩ := h
  refine n_callV (c := 102) (av := []) (st := []) hΓ (ct_wX12_good _ _  M P1 q2) my_X12_good ml_RX12_269 ni_X12_good kd_102 rfl lz_102 rfl (Nat.le_trans (by decide) hh) (by decide) (Nat.le_of_ble_eq_true rfl) rfl dX12_takes_1 (fun v Z' hq => ?_)
  obtain ⟨r3, M4, rfl, rfl, hq⟩ := hq
  have h := h r3 M4 hq
  dsimp only at h
  obtain ⟨g5, h⟩ := h
  refine a_if_eq (tgt := 35) hΓ g5 dX12_takes_4 (by decide) (fun c6 => ?_) (fun c6 => ?_)
  · rw [if_pos c6] at h
    refine a_iconst hΓ dX12_takes_35 ?_
    refine a_istore_n (ls' := [(2, aI 0), (0, aR 102), (1, aI v1)]) hΓ dX12_takes_36 rfl (by decide) rfl ?_
    refine a_iload_n hΓ 0 dX12_takes_37 rfl rfl ?_
    refine a_if_eq (tgt := 45) hΓ (inRl (by decide)) dX12_takes_38 (by decide) (fun _ => ?_) (fun c => absurd (by decide) c)
    refine a_iload_n hΓ 0 dX12_takes_45 rfl rfl ?_
    exact a_zret hΓ hr (Or.inl rfl) dX12_takes_46 ⟨_, _, rfl, rfl, h⟩
  · rw [if_neg c6] at h
    refine a_aload_n hΓ 0 dX12_takes_7 rfl rfl ?_
    refine n_getI (x := (M4 102 27)) hΓ fl_RX12_260 cl_12 kd_102 lz_102 dX12_takes_8 (Or.inl ft_12_27) rfl ?_
    refine a_aload_n hΓ 0 dX12_takes_11 rfl rfl ?_
    refine n_getI (x := (M4 102 26)) hΓ fl_RX12_254 cl_12 kd_102 lz_102 dX12_takes_12 (Or.inl ft_12_26) rfl ?_
    obtain ⟨g8, h⟩ := h
    obtain ⟨g9, h⟩ := h
    refine a_icmp_ge (tgt := 35) hΓ g8 g9 dX12_takes_15 (by decide) (fun c10 => ?_) (fun c10 => ?_)
    · rw [if_pos c10] at h
      refine a_aload_n hΓ 0 dX12_takes_18 rfl rfl ?_
      refine n_getR hΓ fl_RX12_62 cl_12 kd_102 lz_102 dX12_takes_19 ft_12_23 rf_102_23 ?_
      refine a_aload_n hΓ 0 dX12_takes_22 rfl rfl ?_
      refine n_getI (x := (M4 102 27)) hΓ fl_RX12_260 cl_12 kd_102 lz_102 dX12_takes_23 (Or.inl ft_12_27) rfl ?_
      obtain ⟨g11, h⟩ := h
      refine n_bald (x := (M4 115 (M4 102 27))) hΓ dX12_takes_26 kd_115 (Or.inr rfl) lz_115 g11 rfl ?_
      refine a_iload_n hΓ 1 dX12_takes_27 rfl rfl ?_
      obtain ⟨g12, h⟩ := h
      obtain ⟨g13, h⟩ := h
      refine a_icmp_ne (tgt := 35) hΓ g12 g13 dX12_takes_28 (by decide) (fun c14 => ?_) (fun c14 => ?_)
      · rw [if_pos c14] at h
        refine a_iconst hΓ dX12_takes_31 ?_
        refine a_goto (tgt := 36) hΓ dX12_takes_32 (by decide) ?_
        refine a_istore_n (ls' := [(2, aI 1), (0, aR 102), (1, aI v1)]) hΓ dX12_takes_36 rfl (by decide) rfl ?_
        refine a_iload_n hΓ 0 dX12_takes_37 rfl rfl ?_
        refine a_if_eq (tgt := 45) hΓ (inRl (by decide)) dX12_takes_38 (by decide) (fun c => absurd c (by decide)) (fun _ => ?_)
        refine a_aload_n hΓ 1 dX12_takes_41 rfl rfl ?_
        obtain ⟨P16, q17, h⟩ := h
        refine n_callV (c := 102) (av := []) (st := []) hΓ (ct_wX12_next _ _  M4 P16 q17) my_X12_next ml_RX12_273 ni_X12_next kd_102 rfl lz_102 rfl (Nat.le_trans (by decide) hh) (by decide) (Nat.le_of_ble_eq_true rfl) rfl dX12_takes_42 (fun v Z' hq => ?_)
        obtain ⟨M19, rfl, rfl, hq⟩ := hq
        have h := h M19 hq
        dsimp only at h
        refine a_iload_n hΓ 0 dX12_takes_45 rfl rfl ?_
        exact a_zret hΓ hr (Or.inr rfl) dX12_takes_46 ⟨_, _, rfl, rfl, h⟩
      · rw [if_neg c14] at h
        refine a_iconst hΓ dX12_takes_35 ?_
        refine a_istore_n (ls' := [(2, aI 0), (0, aR 102), (1, aI v1)]) hΓ dX12_takes_36 rfl (by decide) rfl ?_
        refine a_iload_n hΓ 0 dX12_takes_37 rfl rfl ?_
        refine a_if_eq (tgt := 45) hΓ (inRl (by decide)) dX12_takes_38 (by decide) (fun _ => ?_) (fun c => absurd (by decide) c)
        refine a_iload_n hΓ 0 dX12_takes_45 rfl rfl ?_
        exact a_zret hΓ hr (Or.inl rfl) dX12_takes_46 ⟨_, _, rfl, rfl, h⟩
    · rw [if_neg c10] at h
      refine a_iconst hΓ dX12_takes_35 ?_
      refine a_istore_n (ls' := [(2, aI 0), (0, aR 102), (1, aI v1)]) hΓ dX12_takes_36 rfl (by decide) rfl ?_
      refine a_iload_n hΓ 0 dX12_takes_37 rfl rfl ?_
      refine a_if_eq (tgt := 45) hΓ (inRl (by decide)) dX12_takes_38 (by decide) (fun _ => ?_) (fun c => absurd (by decide) c)
      refine a_iload_n hΓ 0 dX12_takes_45 rfl rfl ?_
      exact a_zret hΓ hr (Or.inl rfl) dX12_takes_46 ⟨_, _, rfl, rfl, h⟩
theorem ct_wX12_takes (l : Launch) (g : Gp) (v1 : Int) (M : Mm) (Q : Int → Mm → Prop) (h : wX12_takes v1 M Q) : Ct l g yX12_takes cX12_takes 3 (some .boolean) 3 0 0 [aR 102, aI v1] (NC, RF, M) (QI Q) :=
  ct_of (by decide) (Nat.le_of_ble_eq_true rfl) (fun Γ hg hl hr _ hΓ => by subst hg; subst hl; exact s_wX12_takes hΓ (by decide) hr v1 M h)
def wX12_need (v1 : Int) (M : Mm) (Q : Mm → Prop) : Prop :=
    Bd (wX12_takes v1 M) (fun r3 M4 =>
    (inR r3) ∧
    (if r3 = 0 then
      Bv (wX12_faults M4) (fun M10 =>
      Q M10)
    else
      Q M4))
set_option maxHeartbeats 4000000 in
theorem s_wX12_need {Γ : Cx} {h : Nat} (hΓ : Ok Γ cX12_need RX12 2 h 0 0) (hh : 4 ≤ h) (hr : (cxm Γ).sig.returnType = none) {Q : Mm → Prop} (v1 : Int) (M : Mm) (h : wX12_need v1 M Q) : Wa Γ 2 (Kf Γ (QV Q) 0 0) 0 0 0 [(0, aR 102), (1, aI v1)] [] (NC, RF, M) := by
  unfold wX12_need at h
  refine a_aload_n hΓ 0 dX12_need_0 rfl rfl ?_
  refine a_iload_n hΓ 1 dX12_need_1 rfl rfl ?_
  obtain ⟨P1, q2, h⟩ := h
  refine n_callV (c := 102) (av := [aI v1]) (st := []) hΓ (ct_wX12_takes _ _ v1 M P1 q2) my_X12_takes ml_RX12_276 ni_X12_takes kd_102 rfl lz_102 rfl (Nat.le_trans (by decide) hh) (by decide) (Nat.le_of_ble_eq_true rfl) rfl dX12_need_2 (fun v Z' hq => ?_)
  obtain ⟨r3, M4, rfl, rfl, hq⟩ := hq
  have h := h r3 M4 hq
  dsimp only at h
  obtain ⟨g5, h⟩ := h
  refine a_if_ne (tgt := 12) hΓ g5 dX12_need_5 (by decide) (fun c6 => ?_) (fun c6 => ?_)
  · rw [if_pos c6] at h
    refine a_aload_n hΓ 0 dX12_need_8 rfl rfl ?_
    obtain ⟨P7, q8, h⟩ := h
    refine n_callV (c := 102) (av := []) (st := []) hΓ (ct_wX12_faults _ _  M4 P7 q8) my_X12_faults ml_RX12_279 ni_X12_faults kd_102 rfl lz_102 rfl (Nat.le_trans (by decide) hh) (by decide) (Nat.le_of_ble_eq_true rfl) rfl dX12_need_9 (fun v Z' hq => ?_)
    obtain ⟨M10, rfl, rfl, hq⟩ := hq
    have h := h M10 hq
    dsimp only at h
    exact a_vret hΓ hr dX12_need_12 ⟨_, rfl, rfl, h⟩
  · rw [if_neg c6] at h
    exact a_vret hΓ hr dX12_need_12 ⟨_, rfl, rfl, h⟩
theorem ct_wX12_need (l : Launch) (g : Gp) (v1 : Int) (M : Mm) (Q : Mm → Prop) (h : wX12_need v1 M Q) : Ct l g yX12_need cX12_need 2 none 4 0 0 [aR 102, aI v1] (NC, RF, M) (QV Q) :=
  ct_of (by decide) (Nat.le_of_ble_eq_true rfl) (fun Γ hg hl hr _ hΓ => by subst hg; subst hl; exact s_wX12_need hΓ (by decide) hr v1 M h)
def wX12_aLog_63 (Q : Int → Mm → Prop) (v1 : Int) (v2 : Int) (M : Mm) : Prop :=
    Bd (wX12_isDigit (M 102 27) M) (fun r3 M4 =>
    (inR r3) ∧
    (if r3 = 0 then
      Bv (wX12_faults M4) (fun M10 =>
      Q (-1) M10)
    else
      (inR v2) ∧
      (if v2 < 24 then
        (if (landI (shrI v1 v2) 1) = 0 then
          Bv (wX12_faults M4) (fun M17 =>
          Q (-1) M17)
        else
          Bv (wX12_next M4) (fun M21 =>
          Q v2 M21))
      else
        Bv (wX12_faults M4) (fun M25 =>
        Q (-1) M25))))
set_option maxHeartbeats 4000000 in
theorem s_wX12_aLog_63 {Γ : Cx} {h : Nat} (hΓ : Ok Γ cX12_aLog RX12 4 h 0 0) (hh : 3 ≤ h) (hr : (cxm Γ).sig.returnType = (some .int)) {Q : Int → Mm → Prop} {v1 v2 : Int}   (M : Mm) (h : wX12_aLog_63 Q v1 v2 M) : Wa Γ 4 (Kf Γ (QI Q) 0 0) 0 0 63 [(0, aR 102), (1, aI v1), (2, aI v2)] [] (NC, RF, M) := by
  unfold wX12_aLog_63 at h
  refine a_aload_n hΓ 0 dX12_aLog_63 rfl rfl ?_
  refine a_aload_n hΓ 0 dX12_aLog_64 rfl rfl ?_
  refine n_getI (x := (M 102 27)) hΓ fl_RX12_260 cl_12 kd_102 lz_102 dX12_aLog_65 (Or.inl ft_12_27) rfl ?_
  obtain ⟨P1, q2, h⟩ := h
  refine n_callV (c := 102) (av := [aI (M 102 27)]) (st := []) hΓ (ct_wX12_isDigit _ _ (M 102 27) M P1 q2) my_X12_isDigit ml_RX12_263 ni_X12_isDigit kd_102 rfl lz_102 rfl (Nat.le_trans (by decide) hh) (by decide) (Nat.le_of_ble_eq_true rfl) rfl dX12_aLog_68 (fun v Z' hq => ?_)
  obtain ⟨r3, M4, rfl, rfl, hq⟩ := hq
  have h := h r3 M4 hq
  dsimp only at h
  obtain ⟨g5, h⟩ := h
  refine a_if_eq (tgt := 88) hΓ g5 dX12_aLog_71 (by decide) (fun c6 => ?_) (fun c6 => ?_)
  · rw [if_pos c6] at h
    refine a_aload_n hΓ 0 dX12_aLog_88 rfl rfl ?_
    obtain ⟨P7, q8, h⟩ := h
    refine n_callV (c := 102) (av := []) (st := []) hΓ (ct_wX12_faults _ _  M4 P7 q8) my_X12_faults ml_RX12_279 ni_X12_faults kd_102 rfl lz_102 rfl (Nat.le_trans (by decide) hh) (by decide) (Nat.le_of_ble_eq_true rfl) rfl dX12_aLog_89 (fun v Z' hq => ?_)
    obtain ⟨M10, rfl, rfl, hq⟩ := hq
    have h := h M10 hq
    dsimp only at h
    refine a_iconst hΓ dX12_aLog_92 ?_
    exact a_iret hΓ hr dX12_aLog_93 ⟨_, _, rfl, rfl, h⟩
  · rw [if_neg c6] at h
    refine a_iload_n hΓ 2 dX12_aLog_74 rfl rfl ?_
    refine a_bipush hΓ dX12_aLog_75 (by decide) ?_
    obtain ⟨g11, h⟩ := h
    refine a_icmp_ge (tgt := 88) hΓ g11 (inRl (by decide)) dX12_aLog_77 (by decide) (fun c12 => ?_) (fun c12 => ?_)
    · rw [if_pos c12] at h
      refine a_iload_n hΓ 1 dX12_aLog_80 rfl rfl ?_
      refine a_iload_n hΓ 2 dX12_aLog_81 rfl rfl ?_
      refine a_ishr hΓ dX12_aLog_82 ?_
      refine a_iconst hΓ dX12_aLog_83 ?_
      refine a_iand hΓ dX12_aLog_84 ?_
      refine a_if_ne (tgt := 94) hΓ (inR_land _ _) dX12_aLog_85 (by decide) (fun c13 => ?_) (fun c13 => ?_)
      · rw [if_pos c13] at h
        refine a_aload_n hΓ 0 dX12_aLog_88 rfl rfl ?_
        obtain ⟨P14, q15, h⟩ := h
        refine n_callV (c := 102) (av := []) (st := []) hΓ (ct_wX12_faults _ _  M4 P14 q15) my_X12_faults ml_RX12_279 ni_X12_faults kd_102 rfl lz_102 rfl (Nat.le_trans (by decide) hh) (by decide) (Nat.le_of_ble_eq_true rfl) rfl dX12_aLog_89 (fun v Z' hq => ?_)
        obtain ⟨M17, rfl, rfl, hq⟩ := hq
        have h := h M17 hq
        dsimp only at h
        refine a_iconst hΓ dX12_aLog_92 ?_
        exact a_iret hΓ hr dX12_aLog_93 ⟨_, _, rfl, rfl, h⟩
      · rw [if_neg c13] at h
        refine a_aload_n hΓ 0 dX12_aLog_94 rfl rfl ?_
        obtain ⟨P18, q19, h⟩ := h
        refine n_callV (c := 102) (av := []) (st := []) hΓ (ct_wX12_next _ _  M4 P18 q19) my_X12_next ml_RX12_273 ni_X12_next kd_102 rfl lz_102 rfl (Nat.le_trans (by decide) hh) (by decide) (Nat.le_of_ble_eq_true rfl) rfl dX12_aLog_95 (fun v Z' hq => ?_)
        obtain ⟨M21, rfl, rfl, hq⟩ := hq
        have h := h M21 hq
        dsimp only at h
        refine a_iload_n hΓ 2 dX12_aLog_98 rfl rfl ?_
        exact a_iret hΓ hr dX12_aLog_99 ⟨_, _, rfl, rfl, h⟩
    · rw [if_neg c12] at h
      refine a_aload_n hΓ 0 dX12_aLog_88 rfl rfl ?_
      obtain ⟨P22, q23, h⟩ := h
      refine n_callV (c := 102) (av := []) (st := []) hΓ (ct_wX12_faults _ _  M4 P22 q23) my_X12_faults ml_RX12_279 ni_X12_faults kd_102 rfl lz_102 rfl (Nat.le_trans (by decide) hh) (by decide) (Nat.le_of_ble_eq_true rfl) rfl dX12_aLog_89 (fun v Z' hq => ?_)
      obtain ⟨M25, rfl, rfl, hq⟩ := hq
      have h := h M25 hq
      dsimp only at h
      refine a_iconst hΓ dX12_aLog_92 ?_
      exact a_iret hΓ hr dX12_aLog_93 ⟨_, _, rfl, rfl, h⟩
def wX12_aLog_16 (Q : Int → Mm → Prop) (v1 : Int) : Nat → Int → Int → Mm → Prop
  | 0, _, _, _ => False
  | f + 1, v2, v3, M => (inR v3) ∧
    (inR (M 102 28)) ∧
    (if v3 < (M 102 28) then
      Bd (wX12_isDigit v3 M) (fun r6 M7 =>
      (inR r6) ∧
      (if r6 = 0 then
        wX12_aLog_63 Q v1 v2 M7
      else
        (inR v2) ∧
        (if v2 ≤ 24 then
          (0 ≤ v3 ∧ v3 < 400) ∧
          (wX12_aLog_16 Q v1 f) (((10 * v2) + (M7 115 v3)) - 48) (v3 + 1) M7
        else
          (wX12_aLog_16 Q v1 f) v2 (v3 + 1) M7)))
    else
      wX12_aLog_63 Q v1 v2 M)
set_option maxHeartbeats 4000000 in
theorem s_wX12_aLog_16 {Γ : Cx} {h : Nat} (hΓ : Ok Γ cX12_aLog RX12 4 h 0 0) (hh : 3 ≤ h) (hr : (cxm Γ).sig.returnType = (some .int)) {Q : Int → Mm → Prop} {v1 : Int}   : ∀ (f : Nat) (v2 : Int) (v3 : Int) (M : Mm), wX12_aLog_16 Q v1 f v2 v3 M → Wa Γ 4 (Kf Γ (QI Q) 0 0) 0 0 16 [(0, aR 102), (1, aI v1), (2, aI v2), (3, aI v3)] [] (NC, RF, M) := by
  intro f
  induction f with
  | zero => intro v2 v3 M h; exact h.elim
  | succ f ih =>
    intro v2 v3 M h
    unfold wX12_aLog_16 at h
    refine a_iload_n hΓ 3 dX12_aLog_16 rfl rfl ?_
    refine a_aload_n hΓ 0 dX12_aLog_17 rfl rfl ?_
    refine n_getI (x := (M 102 28)) hΓ fl_RX12_257 cl_12 kd_102 lz_102 dX12_aLog_18 (Or.inl ft_12_28) rfl ?_
    obtain ⟨g1, h⟩ := h
    obtain ⟨g2, h⟩ := h
    refine a_icmp_ge (tgt := 63) hΓ g1 g2 dX12_aLog_21 (by decide) (fun c3 => ?_) (fun c3 => ?_)
    · rw [if_pos c3] at h
      refine a_aload_n hΓ 0 dX12_aLog_24 rfl rfl ?_
      refine a_iload_n hΓ 3 dX12_aLog_25 rfl rfl ?_
      obtain ⟨P4, q5, h⟩ := h
      refine n_callV (c := 102) (av := [aI v3]) (st := []) hΓ (ct_wX12_isDigit _ _ v3 M P4 q5) my_X12_isDigit ml_RX12_263 ni_X12_isDigit kd_102 rfl lz_102 rfl (Nat.le_trans (by decide) hh) (by decide) (Nat.le_of_ble_eq_true rfl) rfl dX12_aLog_26 (fun v Z' hq => ?_)
      obtain ⟨r6, M7, rfl, rfl, hq⟩ := hq
      have h := h r6 M7 hq
      dsimp only at h
      obtain ⟨g8, h⟩ := h
      refine a_if_eq (tgt := 63) hΓ g8 dX12_aLog_29 (by decide) (fun c9 => ?_) (fun c9 => ?_)
      · rw [if_pos c9] at h
        refine a_sub (ls' := [(0, aR 102), (1, aI v1), (2, aI v2)]) [0, 1, 2] rfl ?_
        exact s_wX12_aLog_63 hΓ (Nat.le_trans (by decide) hh) hr  M7 h
      · rw [if_neg c9] at h
        refine a_iload_n hΓ 2 dX12_aLog_32 rfl rfl ?_
        refine a_bipush hΓ dX12_aLog_33 (by decide) ?_
        obtain ⟨g10, h⟩ := h
        refine a_icmp_le (tgt := 42) hΓ g10 (inRl (by decide)) dX12_aLog_35 (by decide) (fun c11 => ?_) (fun c11 => ?_)
        · rw [if_pos c11] at h
          refine a_bipush hΓ dX12_aLog_42 (by decide) ?_
          refine a_iload_n hΓ 2 dX12_aLog_44 rfl rfl ?_
          refine a_imul hΓ dX12_aLog_45 ?_
          refine a_aload_n hΓ 0 dX12_aLog_46 rfl rfl ?_
          refine n_getR hΓ fl_RX12_62 cl_12 kd_102 lz_102 dX12_aLog_47 ft_12_23 rf_102_23 ?_
          refine a_iload_n hΓ 3 dX12_aLog_50 rfl rfl ?_
          obtain ⟨g12, h⟩ := h
          refine n_bald (x := (M7 115 v3)) hΓ dX12_aLog_51 kd_115 (Or.inr rfl) lz_115 g12 rfl ?_
          refine a_iadd hΓ dX12_aLog_52 ?_
          refine a_bipush hΓ dX12_aLog_53 (by decide) ?_
          refine a_isub hΓ dX12_aLog_55 ?_
          refine a_istore_n (ls' := [(2, aI (((10 * v2) + (M7 115 v3)) - 48)), (0, aR 102), (1, aI v1), (3, aI v3)]) hΓ dX12_aLog_56 rfl (by decide) rfl ?_
          refine a_iinc (ls' := [(3, aI (v3 + 1)), (2, aI (((10 * v2) + (M7 115 v3)) - 48)), (0, aR 102), (1, aI v1)]) hΓ 3 dX12_aLog_57 rfl (by decide) rfl ?_
          refine a_goto (tgt := 16) hΓ dX12_aLog_60 (by decide) ?_
          refine a_sub (ls' := [(0, aR 102), (1, aI v1), (2, aI (((10 * v2) + (M7 115 v3)) - 48)), (3, aI (v3 + 1))]) [2, 3, 1, 0] rfl ?_
          exact ih (((10 * v2) + (M7 115 v3)) - 48) (v3 + 1) M7 h
        · rw [if_neg c11] at h
          refine a_iload_n hΓ 2 dX12_aLog_38 rfl rfl ?_
          refine a_goto (tgt := 56) hΓ dX12_aLog_39 (by decide) ?_
          refine a_istore_n (ls' := [(2, aI v2), (0, aR 102), (1, aI v1), (3, aI v3)]) hΓ dX12_aLog_56 rfl (by decide) rfl ?_
          refine a_iinc (ls' := [(3, aI (v3 + 1)), (2, aI v2), (0, aR 102), (1, aI v1)]) hΓ 3 dX12_aLog_57 rfl (by decide) rfl ?_
          refine a_goto (tgt := 16) hΓ dX12_aLog_60 (by decide) ?_
          refine a_sub (ls' := [(0, aR 102), (1, aI v1), (2, aI v2), (3, aI (v3 + 1))]) [2, 3, 1, 0] rfl ?_
          exact ih v2 (v3 + 1) M7 h
    · rw [if_neg c3] at h
      refine a_sub (ls' := [(0, aR 102), (1, aI v1), (2, aI v2)]) [0, 1, 2] rfl ?_
      exact s_wX12_aLog_63 hΓ (Nat.le_trans (by decide) hh) hr  M h
def wX12_aLog (v1 : Int) (M : Mm) (Q : Int → Mm → Prop) : Prop :=
    Bd (wX12_good M) (fun r3 M4 =>
    (inR r3) ∧
    (if r3 = 0 then
      Q (-1) M4
    else
      ∃ n, wX12_aLog_16 Q v1 n 0 (M4 102 27) M4))
set_option maxHeartbeats 4000000 in
theorem s_wX12_aLog {Γ : Cx} {h : Nat} (hΓ : Ok Γ cX12_aLog RX12 4 h 0 0) (hh : 3 ≤ h) (hr : (cxm Γ).sig.returnType = (some .int)) {Q : Int → Mm → Prop} (v1 : Int) (M : Mm) (h : wX12_aLog v1 M Q) : Wa Γ 4 (Kf Γ (QI Q) 0 0) 0 0 0 [(0, aR 102), (1, aI v1)] [] (NC, RF, M) := by
  unfold wX12_aLog at h
  refine a_aload_n hΓ 0 dX12_aLog_0 rfl rfl ?_
  obtain ⟨P1, q2, h⟩ := h
  refine n_callV (c := 102) (av := []) (st := []) hΓ (ct_wX12_good _ _  M P1 q2) my_X12_good ml_RX12_269 ni_X12_good kd_102 rfl lz_102 rfl (Nat.le_trans (by decide) hh) (by decide) (Nat.le_of_ble_eq_true rfl) rfl dX12_aLog_1 (fun v Z' hq => ?_)
  obtain ⟨r3, M4, rfl, rfl, hq⟩ := hq
  have h := h r3 M4 hq
  dsimp only at h
  obtain ⟨g5, h⟩ := h
  refine a_if_ne (tgt := 9) hΓ g5 dX12_aLog_4 (by decide) (fun c6 => ?_) (fun c6 => ?_)
  · rw [if_pos c6] at h
    refine a_iconst hΓ dX12_aLog_7 ?_
    exact a_iret hΓ hr dX12_aLog_8 ⟨_, _, rfl, rfl, h⟩
  · rw [if_neg c6] at h
    refine a_iconst hΓ dX12_aLog_9 ?_
    refine a_istore_n (ls' := [(2, aI 0), (0, aR 102), (1, aI v1)]) hΓ dX12_aLog_10 rfl (by decide) rfl ?_
    refine a_aload_n hΓ 1 dX12_aLog_11 rfl rfl ?_
    refine n_getI (x := (M4 102 27)) hΓ fl_RX12_260 cl_12 kd_102 lz_102 dX12_aLog_12 (Or.inl ft_12_27) rfl ?_
    refine a_istore_n (ls' := [(3, aI (M4 102 27)), (2, aI 0), (0, aR 102), (1, aI v1)]) hΓ dX12_aLog_15 rfl (by decide) rfl ?_
    refine a_sub (ls' := [(0, aR 102), (1, aI v1), (2, aI 0), (3, aI (M4 102 27))]) [2, 3, 1, 0] rfl ?_
    obtain ⟨f7, h⟩ := h
    exact s_wX12_aLog_16 hΓ (Nat.le_trans (by decide) hh) hr  f7 0 (M4 102 27) M4 h
theorem ct_wX12_aLog (l : Launch) (g : Gp) (v1 : Int) (M : Mm) (Q : Int → Mm → Prop) (h : wX12_aLog v1 M Q) : Ct l g yX12_aLog cX12_aLog 4 (some .int) 3 0 0 [aR 102, aI v1] (NC, RF, M) (QI Q) :=
  ct_of (by decide) (Nat.le_of_ble_eq_true rfl) (fun Γ hg hl hr _ hΓ => by subst hg; subst hl; exact s_wX12_aLog hΓ (by decide) hr v1 M h)
def wX12_leafOf_191 (Q : Mm → Prop) (v1 : Int) (v3 : Int) (v4 : Int) (M : Mm) : Prop :=
    Bd (wX12_good M) (fun r3 M4 =>
    (inR r3) ∧
    (if r3 = 0 then
      Bv (wX12_need 93 M4) (fun M10 =>
      Q M10)
    else
      Bd (wX12_worth (landI v1 (lxorI v3 (-1))) M4) (fun r13 M14 =>
      (inR (v4 + r13)) ∧
      (inR (M14 102 31)) ∧
      (if (v4 + r13) ≤ (M14 102 31) then
        Bv (wX12_need 93 M14) (fun M21 =>
        Q M21)
      else
        Bv (wX12_faults M14) (fun M25 =>
        Bv (wX12_need 93 M25) (fun M29 =>
        Q M29))))))
set_option maxHeartbeats 4000000 in
theorem s_wX12_leafOf_191 {Γ : Cx} {h : Nat} (hΓ : Ok Γ cX12_leafOf RX12 10 h 0 0) (hh : 5 ≤ h) (hr : (cxm Γ).sig.returnType = none) {Q : Mm → Prop} {v1 v3 v4 : Int}   (M : Mm) (h : wX12_leafOf_191 Q v1 v3 v4 M) : Wa Γ 10 (Kf Γ (QV Q) 0 0) 0 0 191 [(0, aR 102), (1, aI v1), (3, aI v3), (4, aI v4)] [] (NC, RF, M) := by
  unfold wX12_leafOf_191 at h
  refine a_aload_n hΓ 0 dX12_leafOf_191 rfl rfl ?_
  obtain ⟨P1, q2, h⟩ := h
  refine n_callV (c := 102) (av := []) (st := []) hΓ (ct_wX12_good _ _  M P1 q2) my_X12_good ml_RX12_269 ni_X12_good kd_102 rfl lz_102 rfl (Nat.le_trans (by decide) hh) (by decide) (Nat.le_of_ble_eq_true rfl) rfl dX12_leafOf_192 (fun v Z' hq => ?_)
  obtain ⟨r3, M4, rfl, rfl, hq⟩ := hq
  have h := h r3 M4 hq
  dsimp only at h
  obtain ⟨g5, h⟩ := h
  refine a_if_eq (tgt := 221) hΓ g5 dX12_leafOf_195 (by decide) (fun c6 => ?_) (fun c6 => ?_)
  · rw [if_pos c6] at h
    refine a_aload_n hΓ 0 dX12_leafOf_221 rfl rfl ?_
    refine a_bipush hΓ dX12_leafOf_222 (by decide) ?_
    obtain ⟨P7, q8, h⟩ := h
    refine n_callV (c := 102) (av := [aI 93]) (st := []) hΓ (ct_wX12_need _ _ 93 M4 P7 q8) my_X12_need ml_RX12_291 ni_X12_need kd_102 rfl lz_102 rfl (Nat.le_trans (by decide) hh) (by decide) (Nat.le_of_ble_eq_true rfl) rfl dX12_leafOf_224 (fun v Z' hq => ?_)
    obtain ⟨M10, rfl, rfl, hq⟩ := hq
    have h := h M10 hq
    dsimp only at h
    exact a_vret hΓ hr dX12_leafOf_227 ⟨_, rfl, rfl, h⟩
  · rw [if_neg c6] at h
    refine a_iload hΓ 3 dX12_leafOf_198 rfl ?_
    refine a_aload_n hΓ 0 dX12_leafOf_200 rfl rfl ?_
    refine a_iload_n hΓ 1 dX12_leafOf_201 rfl rfl ?_
    refine a_iload_n hΓ 2 dX12_leafOf_202 rfl rfl ?_
    refine a_iconst hΓ dX12_leafOf_203 ?_
    refine a_ixor hΓ dX12_leafOf_204 ?_
    refine a_iand hΓ dX12_leafOf_205 ?_
    obtain ⟨P11, q12, h⟩ := h
    refine n_callV (c := 102) (av := [aI (landI v1 (lxorI v3 (-1)))]) (st := [aI v4]) hΓ (ct_wX12_worth _ _ (landI v1 (lxorI v3 (-1))) M4 P11 q12) my_X12_worth ml_RX12_195 ni_X12_worth kd_102 rfl lz_102 rfl (Nat.le_trans (by decide) hh) (by decide) (Nat.le_of_ble_eq_true rfl) rfl dX12_leafOf_206 (fun v Z' hq => ?_)
    obtain ⟨r13, M14, rfl, rfl, hq⟩ := hq
    have h := h r13 M14 hq
    dsimp only at h
    refine a_iadd hΓ dX12_leafOf_209 ?_
    refine a_aload_n hΓ 0 dX12_leafOf_210 rfl rfl ?_
    refine n_getI (x := (M14 102 31)) hΓ fl_RX12_294 cl_12 kd_102 lz_102 dX12_leafOf_211 (Or.inl ft_12_31) rfl ?_
    obtain ⟨g15, h⟩ := h
    obtain ⟨g16, h⟩ := h
    refine a_icmp_le (tgt := 221) hΓ g15 g16 dX12_leafOf_214 (by decide) (fun c17 => ?_) (fun c17 => ?_)
    · rw [if_pos c17] at h
      refine a_aload_n hΓ 0 dX12_leafOf_221 rfl rfl ?_
      refine a_bipush hΓ dX12_leafOf_222 (by decide) ?_
      obtain ⟨P18, q19, h⟩ := h
      refine n_callV (c := 102) (av := [aI 93]) (st := []) hΓ (ct_wX12_need _ _ 93 M14 P18 q19) my_X12_need ml_RX12_291 ni_X12_need kd_102 rfl lz_102 rfl (Nat.le_trans (by decide) hh) (by decide) (Nat.le_of_ble_eq_true rfl) rfl dX12_leafOf_224 (fun v Z' hq => ?_)
      obtain ⟨M21, rfl, rfl, hq⟩ := hq
      have h := h M21 hq
      dsimp only at h
      exact a_vret hΓ hr dX12_leafOf_227 ⟨_, rfl, rfl, h⟩
    · rw [if_neg c17] at h
      refine a_aload_n hΓ 0 dX12_leafOf_217 rfl rfl ?_
      obtain ⟨P22, q23, h⟩ := h
      refine n_callV (c := 102) (av := []) (st := []) hΓ (ct_wX12_faults _ _  M14 P22 q23) my_X12_faults ml_RX12_279 ni_X12_faults kd_102 rfl lz_102 rfl (Nat.le_trans (by decide) hh) (by decide) (Nat.le_of_ble_eq_true rfl) rfl dX12_leafOf_218 (fun v Z' hq => ?_)
      obtain ⟨M25, rfl, rfl, hq⟩ := hq
      have h := h M25 hq
      dsimp only at h
      refine a_aload_n hΓ 0 dX12_leafOf_221 rfl rfl ?_
      refine a_bipush hΓ dX12_leafOf_222 (by decide) ?_
      obtain ⟨P26, q27, h⟩ := h
      refine n_callV (c := 102) (av := [aI 93]) (st := []) hΓ (ct_wX12_need _ _ 93 M25 P26 q27) my_X12_need ml_RX12_291 ni_X12_need kd_102 rfl lz_102 rfl (Nat.le_trans (by decide) hh) (by decide) (Nat.le_of_ble_eq_true rfl) rfl dX12_leafOf_224 (fun v Z' hq => ?_)
      obtain ⟨M29, rfl, rfl, hq⟩ := hq
      have h := h M29 hq
      dsimp only at h
      exact a_vret hΓ hr dX12_leafOf_227 ⟨_, rfl, rfl, h⟩
def wX12_leafOf_170 (Q : Mm → Prop) (k5 : Int → Int → Mm → Prop) (v1 : Int) (v3 : Int) (v4 : Int) (v5 : Int) (v6 : Int) (M : Mm) : Prop :=
    Bv (wX12_need 59 M) (fun M4 =>
    k5 (lorI v3 v5) (v4 + v6) M4)
set_option maxHeartbeats 4000000 in
theorem s_wX12_leafOf_170 {Γ : Cx} {h : Nat} (hΓ : Ok Γ cX12_leafOf RX12 10 h 0 0) (hh : 5 ≤ h) (hr : (cxm Γ).sig.returnType = none) {Q : Mm → Prop} {v1 v3 v4 v5 v6 : Int}  {k5 : Int → Int → Mm → Prop} (hk5 : ∀ (v3 : Int) (v4 : Int) (M : Mm), k5 v3 v4 M → Wa Γ 10 (Kf Γ (QV Q) 0 0) 0 0 5 [(0, aR 102), (1, aI v1), (3, aI v3), (4, aI v4)] [] (NC, RF, M)) (M : Mm) (h : wX12_leafOf_170 Q k5 v1 v3 v4 v5 v6 M) : Wa Γ 10 (Kf Γ (QV Q) 0 0) 0 0 170 [(0, aR 102), (1, aI v1), (3, aI v3), (4, aI v4), (5, aI v5), (6, aI v6)] [] (NC, RF, M) := by
  unfold wX12_leafOf_170 at h
  refine a_aload_n hΓ 0 dX12_leafOf_170 rfl rfl ?_
  refine a_bipush hΓ dX12_leafOf_171 (by decide) ?_
  obtain ⟨P1, q2, h⟩ := h
  refine n_callV (c := 102) (av := [aI 59]) (st := []) hΓ (ct_wX12_need _ _ 59 M P1 q2) my_X12_need ml_RX12_291 ni_X12_need kd_102 rfl lz_102 rfl (Nat.le_trans (by decide) hh) (by decide) (Nat.le_of_ble_eq_true rfl) rfl dX12_leafOf_173 (fun v Z' hq => ?_)
  obtain ⟨M4, rfl, rfl, hq⟩ := hq
  have h := h M4 hq
  dsimp only at h
  refine a_iload_n hΓ 2 dX12_leafOf_176 rfl rfl ?_
  refine a_iload hΓ 4 dX12_leafOf_177 rfl ?_
  refine a_ior hΓ dX12_leafOf_179 ?_
  refine a_istore_n (ls' := [(3, aI (lorI v3 v5)), (0, aR 102), (1, aI v1), (4, aI v4), (5, aI v5), (6, aI v6)]) hΓ dX12_leafOf_180 rfl (by decide) rfl ?_
  refine a_iload hΓ 3 dX12_leafOf_181 rfl ?_
  refine a_iload hΓ 5 dX12_leafOf_183 rfl ?_
  refine a_iadd hΓ dX12_leafOf_185 ?_
  refine a_istore (ls' := [(4, aI (v4 + v6)), (3, aI (lorI v3 v5)), (0, aR 102), (1, aI v1), (5, aI v5), (6, aI v6)]) hΓ dX12_leafOf_186 (by decide) rfl ?_
  refine a_goto (tgt := 5) hΓ dX12_leafOf_188 (by decide) ?_
  refine a_sub (ls' := [(0, aR 102), (1, aI v1), (3, aI (lorI v3 v5)), (4, aI (v4 + v6))]) [2, 3, 1, 0] rfl ?_
  exact hk5 (lorI v3 v5) (v4 + v6) M4 h
def wX12_leafOf_109 (Q : Mm → Prop) (k5 : Int → Int → Mm → Prop) (k46 : Int → Int → Int → Mm → Prop) (v1 : Int) (v3 : Int) (v4 : Int) (v5 : Int) (v6 : Int) (v8 : Int) (M : Mm) : Prop :=
    Bd (wX12_aLog v8 M) (fun r3 M4 =>
    (inR r3) ∧
    (if r3 = (-1) then
      Q M4
    else
      Bd (wX12_logAt r3 4 M4) (fun r9 M10 =>
      (inR r9) ∧
      (inR v6) ∧
      (if r9 ≤ v6 then
        Bd (wX12_takes 44 M10) (fun r16 M17 =>
        k46 (lorI v5 (shlI 1 r3)) v6 r16 M17)
      else
        Bd (wX12_logAt r3 4 M10) (fun r20 M21 =>
        Bd (wX12_takes 44 M21) (fun r24 M25 =>
        k46 (lorI v5 (shlI 1 r3)) r20 r24 M25))))))
set_option maxHeartbeats 4000000 in
theorem s_wX12_leafOf_109 {Γ : Cx} {h : Nat} (hΓ : Ok Γ cX12_leafOf RX12 10 h 0 0) (hh : 5 ≤ h) (hr : (cxm Γ).sig.returnType = none) {Q : Mm → Prop} {v1 v3 v4 v5 v6 v8 : Int}  {k5 : Int → Int → Mm → Prop} (hk5 : ∀ (v3 : Int) (v4 : Int) (M : Mm), k5 v3 v4 M → Wa Γ 10 (Kf Γ (QV Q) 0 0) 0 0 5 [(0, aR 102), (1, aI v1), (3, aI v3), (4, aI v4)] [] (NC, RF, M)) {k46 : Int → Int → Int → Mm → Prop} (hk46 : ∀ (v5 : Int) (v6 : Int) (v7 : Int) (M : Mm), k46 v5 v6 v7 M → Wa Γ 10 (Kf Γ (QV Q) 0 0) 0 0 46 [(0, aR 102), (1, aI v1), (3, aI v3), (4, aI v4), (5, aI v5), (6, aI v6), (7, aI v7)] [] (NC, RF, M)) (M : Mm) (h : wX12_leafOf_109 Q k5 k46 v1 v3 v4 v5 v6 v8 M) : Wa Γ 10 (Kf Γ (QV Q) 0 0) 0 0 109 [(0, aR 102), (1, aI v1), (3, aI v3), (4, aI v4), (5, aI v5), (6, aI v6), (8, aI v8)] [] (NC, RF, M) := by
  unfold wX12_leafOf_109 at h
  refine a_aload_n hΓ 0 dX12_leafOf_109 rfl rfl ?_
  refine a_iload hΓ 6 dX12_leafOf_110 rfl ?_
  obtain ⟨P1, q2, h⟩ := h
  refine n_callV (c := 102) (av := [aI v8]) (st := []) hΓ (ct_wX12_aLog _ _ v8 M P1 q2) my_X12_aLog ml_RX12_285 ni_X12_aLog kd_102 rfl lz_102 rfl (Nat.le_trans (by decide) hh) (by decide) (Nat.le_of_ble_eq_true rfl) rfl dX12_leafOf_112 (fun v Z' hq => ?_)
  obtain ⟨r3, M4, rfl, rfl, hq⟩ := hq
  have h := h r3 M4 hq
  dsimp only at h
  refine a_istore (ls' := [(9, aI r3), (0, aR 102), (1, aI v1), (3, aI v3), (4, aI v4), (5, aI v5), (6, aI v6), (8, aI v8)]) hΓ dX12_leafOf_115 (by decide) rfl ?_
  refine a_iload hΓ 0 dX12_leafOf_117 rfl ?_
  refine a_iconst hΓ dX12_leafOf_119 ?_
  obtain ⟨g5, h⟩ := h
  refine a_icmp_ne (tgt := 124) hΓ g5 (inRl (by decide)) dX12_leafOf_120 (by decide) (fun c6 => ?_) (fun c6 => ?_)
  · rw [if_pos c6] at h
    exact a_vret hΓ hr dX12_leafOf_123 ⟨_, rfl, rfl, h⟩
  · rw [if_neg c6] at h
    refine a_iload hΓ 5 dX12_leafOf_124 rfl ?_
    refine a_iconst hΓ dX12_leafOf_126 ?_
    refine a_iload hΓ 0 dX12_leafOf_127 rfl ?_
    refine a_ishl hΓ dX12_leafOf_129 ?_
    refine a_ior hΓ dX12_leafOf_130 ?_
    refine a_istore (ls' := [(5, aI (lorI v5 (shlI 1 r3))), (9, aI r3), (0, aR 102), (1, aI v1), (3, aI v3), (4, aI v4), (6, aI v6), (8, aI v8)]) hΓ dX12_leafOf_131 (by decide) rfl ?_
    refine a_aload_n hΓ 2 dX12_leafOf_133 rfl rfl ?_
    refine a_iload hΓ 1 dX12_leafOf_134 rfl ?_
    refine a_iconst hΓ dX12_leafOf_136 ?_
    obtain ⟨P7, q8, h⟩ := h
    refine n_callV (c := 102) (av := [aI r3, aI 4]) (st := []) hΓ (ct_wX12_logAt _ _ r3 4 M4 P7 q8) my_X12_logAt ml_RX12_151 ni_X12_logAt kd_102 rfl lz_102 rfl (Nat.le_trans (by decide) hh) (by decide) (Nat.le_of_ble_eq_true rfl) rfl dX12_leafOf_137 (fun v Z' hq => ?_)
    obtain ⟨r9, M10, rfl, rfl, hq⟩ := hq
    have h := h r9 M10 hq
    dsimp only at h
    refine a_iload hΓ 6 dX12_leafOf_140 rfl ?_
    obtain ⟨g11, h⟩ := h
    obtain ⟨g12, h⟩ := h
    refine a_icmp_le (tgt := 155) hΓ g11 g12 dX12_leafOf_142 (by decide) (fun c13 => ?_) (fun c13 => ?_)
    · rw [if_pos c13] at h
      refine a_iload hΓ 6 dX12_leafOf_155 rfl ?_
      refine a_istore (ls' := [(6, aI v6), (5, aI (lorI v5 (shlI 1 r3))), (9, aI r3), (0, aR 102), (1, aI v1), (3, aI v3), (4, aI v4), (8, aI v8)]) hΓ dX12_leafOf_157 (by decide) rfl ?_
      refine a_aload_n hΓ 3 dX12_leafOf_159 rfl rfl ?_
      refine a_bipush hΓ dX12_leafOf_160 (by decide) ?_
      obtain ⟨P14, q15, h⟩ := h
      refine n_callV (c := 102) (av := [aI 44]) (st := []) hΓ (ct_wX12_takes _ _ 44 M10 P14 q15) my_X12_takes ml_RX12_276 ni_X12_takes kd_102 rfl lz_102 rfl (Nat.le_trans (by decide) hh) (by decide) (Nat.le_of_ble_eq_true rfl) rfl dX12_leafOf_162 (fun v Z' hq => ?_)
      obtain ⟨r16, M17, rfl, rfl, hq⟩ := hq
      have h := h r16 M17 hq
      dsimp only at h
      refine a_istore (ls' := [(7, aI r16), (6, aI v6), (5, aI (lorI v5 (shlI 1 r3))), (9, aI r3), (0, aR 102), (1, aI v1), (3, aI v3), (4, aI v4), (8, aI v8)]) hΓ dX12_leafOf_165 (by decide) rfl ?_
      refine a_goto (tgt := 46) hΓ dX12_leafOf_167 (by decide) ?_
      refine a_sub (ls' := [(0, aR 102), (1, aI v1), (3, aI v3), (4, aI v4), (5, aI (lorI v5 (shlI 1 r3))), (6, aI v6), (7, aI r16)]) [4, 5, 6, 7, 2, 1, 0] rfl ?_
      exact hk46 (lorI v5 (shlI 1 r3)) v6 r16 M17 h
    · rw [if_neg c13] at h
      refine a_aload_n hΓ 2 dX12_leafOf_145 rfl rfl ?_
      refine a_iload hΓ 1 dX12_leafOf_146 rfl ?_
      refine a_iconst hΓ dX12_leafOf_148 ?_
      obtain ⟨P18, q19, h⟩ := h
      refine n_callV (c := 102) (av := [aI r3, aI 4]) (st := []) hΓ (ct_wX12_logAt _ _ r3 4 M10 P18 q19) my_X12_logAt ml_RX12_151 ni_X12_logAt kd_102 rfl lz_102 rfl (Nat.le_trans (by decide) hh) (by decide) (Nat.le_of_ble_eq_true rfl) rfl dX12_leafOf_149 (fun v Z' hq => ?_)
      obtain ⟨r20, M21, rfl, rfl, hq⟩ := hq
      have h := h r20 M21 hq
      dsimp only at h
      refine a_goto (tgt := 157) hΓ dX12_leafOf_152 (by decide) ?_
      refine a_istore (ls' := [(6, aI r20), (5, aI (lorI v5 (shlI 1 r3))), (9, aI r3), (0, aR 102), (1, aI v1), (3, aI v3), (4, aI v4), (8, aI v8)]) hΓ dX12_leafOf_157 (by decide) rfl ?_
      refine a_aload_n hΓ 3 dX12_leafOf_159 rfl rfl ?_
      refine a_bipush hΓ dX12_leafOf_160 (by decide) ?_
      obtain ⟨P22, q23, h⟩ := h
      refine n_callV (c := 102) (av := [aI 44]) (st := []) hΓ (ct_wX12_takes _ _ 44 M21 P22 q23) my_X12_takes ml_RX12_276 ni_X12_takes kd_102 rfl lz_102 rfl (Nat.le_trans (by decide) hh) (by decide) (Nat.le_of_ble_eq_true rfl) rfl dX12_leafOf_162 (fun v Z' hq => ?_)
      obtain ⟨r24, M25, rfl, rfl, hq⟩ := hq
      have h := h r24 M25 hq
      dsimp only at h
      refine a_istore (ls' := [(7, aI r24), (6, aI r20), (5, aI (lorI v5 (shlI 1 r3))), (9, aI r3), (0, aR 102), (1, aI v1), (3, aI v3), (4, aI v4), (8, aI v8)]) hΓ dX12_leafOf_165 (by decide) rfl ?_
      refine a_goto (tgt := 46) hΓ dX12_leafOf_167 (by decide) ?_
      refine a_sub (ls' := [(0, aR 102), (1, aI v1), (3, aI v3), (4, aI v4), (5, aI (lorI v5 (shlI 1 r3))), (6, aI r20), (7, aI r24)]) [4, 5, 6, 7, 2, 1, 0] rfl ?_
      exact hk46 (lorI v5 (shlI 1 r3)) r20 r24 M25 h
def wX12_leafOf_73 (Q : Mm → Prop) (k5 : Int → Int → Mm → Prop) (k46 : Int → Int → Int → Mm → Prop) (v1 : Int) (v3 : Int) (v4 : Int) (v5 : Int) (v6 : Int) : Nat → Int → Int → Mm → Prop
  | 0, _, _, _ => False
  | f + 1, v8, v9, M => (inR v9) ∧
    (if v9 < 24 then
      (if (landI (shrI v5 v9) 1) = 1 then
        (0 ≤ v9 ∧ v9 < 24) ∧
        (wX12_leafOf_73 Q k5 k46 v1 v3 v4 v5 v6 f) (landI v8 (M 110 v9)) (v9 + 1) M
      else
        (wX12_leafOf_73 Q k5 k46 v1 v3 v4 v5 v6 f) v8 (v9 + 1) M)
    else
      wX12_leafOf_109 Q k5 k46 v1 v3 v4 v5 v6 v8 M)
set_option maxHeartbeats 4000000 in
theorem s_wX12_leafOf_73 {Γ : Cx} {h : Nat} (hΓ : Ok Γ cX12_leafOf RX12 10 h 0 0) (hh : 5 ≤ h) (hr : (cxm Γ).sig.returnType = none) {Q : Mm → Prop} {v1 v3 v4 v5 v6 : Int}  {k5 : Int → Int → Mm → Prop} (hk5 : ∀ (v3 : Int) (v4 : Int) (M : Mm), k5 v3 v4 M → Wa Γ 10 (Kf Γ (QV Q) 0 0) 0 0 5 [(0, aR 102), (1, aI v1), (3, aI v3), (4, aI v4)] [] (NC, RF, M)) {k46 : Int → Int → Int → Mm → Prop} (hk46 : ∀ (v5 : Int) (v6 : Int) (v7 : Int) (M : Mm), k46 v5 v6 v7 M → Wa Γ 10 (Kf Γ (QV Q) 0 0) 0 0 46 [(0, aR 102), (1, aI v1), (3, aI v3), (4, aI v4), (5, aI v5), (6, aI v6), (7, aI v7)] [] (NC, RF, M)) : ∀ (f : Nat) (v8 : Int) (v9 : Int) (M : Mm), wX12_leafOf_73 Q k5 k46 v1 v3 v4 v5 v6 f v8 v9 M → Wa Γ 10 (Kf Γ (QV Q) 0 0) 0 0 73 [(0, aR 102), (1, aI v1), (3, aI v3), (4, aI v4), (5, aI v5), (6, aI v6), (8, aI v8), (9, aI v9)] [] (NC, RF, M) := by
  intro f
  induction f with
  | zero => intro v8 v9 M h; exact h.elim
  | succ f ih =>
    intro v8 v9 M h
    unfold wX12_leafOf_73 at h
    refine a_iload hΓ 7 dX12_leafOf_73 rfl ?_
    refine a_bipush hΓ dX12_leafOf_75 (by decide) ?_
    obtain ⟨g1, h⟩ := h
    refine a_icmp_ge (tgt := 109) hΓ g1 (inRl (by decide)) dX12_leafOf_77 (by decide) (fun c2 => ?_) (fun c2 => ?_)
    · rw [if_pos c2] at h
      refine a_iload hΓ 4 dX12_leafOf_80 rfl ?_
      refine a_iload hΓ 7 dX12_leafOf_82 rfl ?_
      refine a_ishr hΓ dX12_leafOf_84 ?_
      refine a_iconst hΓ dX12_leafOf_85 ?_
      refine a_iand hΓ dX12_leafOf_86 ?_
      refine a_iconst hΓ dX12_leafOf_87 ?_
      refine a_icmp_ne (tgt := 103) hΓ (inR_land _ _) (inRl (by decide)) dX12_leafOf_88 (by decide) (fun c3 => ?_) (fun c3 => ?_)
      · rw [if_pos c3] at h
        refine a_iload hΓ 6 dX12_leafOf_91 rfl ?_
        refine a_aload_n hΓ 0 dX12_leafOf_93 rfl rfl ?_
        refine n_getR hΓ fl_RX12_40 cl_12 kd_102 lz_102 dX12_leafOf_94 ft_12_10 rf_102_10 ?_
        refine a_iload hΓ 7 dX12_leafOf_97 rfl ?_
        obtain ⟨g4, h⟩ := h
        refine n_iald (x := (M 110 v9)) hΓ dX12_leafOf_99 kd_110 lz_110 g4 rfl ?_
        refine a_iand hΓ dX12_leafOf_100 ?_
        refine a_istore (ls' := [(8, aI (landI v8 (M 110 v9))), (0, aR 102), (1, aI v1), (3, aI v3), (4, aI v4), (5, aI v5), (6, aI v6), (9, aI v9)]) hΓ dX12_leafOf_101 (by decide) rfl ?_
        refine a_iinc (ls' := [(9, aI (v9 + 1)), (8, aI (landI v8 (M 110 v9))), (0, aR 102), (1, aI v1), (3, aI v3), (4, aI v4), (5, aI v5), (6, aI v6)]) hΓ 7 dX12_leafOf_103 rfl (by decide) rfl ?_
        refine a_goto (tgt := 73) hΓ dX12_leafOf_106 (by decide) ?_
        refine a_sub (ls' := [(0, aR 102), (1, aI v1), (3, aI v3), (4, aI v4), (5, aI v5), (6, aI v6), (8, aI (landI v8 (M 110 v9))), (9, aI (v9 + 1))]) [2, 3, 4, 5, 6, 7, 1, 0] rfl ?_
        exact ih (landI v8 (M 110 v9)) (v9 + 1) M h
      · rw [if_neg c3] at h
        refine a_iinc (ls' := [(9, aI (v9 + 1)), (0, aR 102), (1, aI v1), (3, aI v3), (4, aI v4), (5, aI v5), (6, aI v6), (8, aI v8)]) hΓ 7 dX12_leafOf_103 rfl (by decide) rfl ?_
        refine a_goto (tgt := 73) hΓ dX12_leafOf_106 (by decide) ?_
        refine a_sub (ls' := [(0, aR 102), (1, aI v1), (3, aI v3), (4, aI v4), (5, aI v5), (6, aI v6), (8, aI v8), (9, aI (v9 + 1))]) [1, 2, 3, 4, 5, 6, 7, 0] rfl ?_
        exact ih v8 (v9 + 1) M h
    · rw [if_neg c2] at h
      refine a_sub (ls' := [(0, aR 102), (1, aI v1), (3, aI v3), (4, aI v4), (5, aI v5), (6, aI v6), (8, aI v8)]) [0, 1, 2, 3, 4, 5, 6] rfl ?_
      exact s_wX12_leafOf_109 hΓ (Nat.le_trans (by decide) hh) hr hk5 hk46 M h
def wX12_leafOf_46 (Q : Mm → Prop) (k5 : Int → Int → Mm → Prop) (v1 : Int) (v3 : Int) (v4 : Int) : Nat → Int → Int → Int → Mm → Prop
  | 0, _, _, _, _ => False
  | f + 1, v5, v6, v7, M => Bd (wX12_good M) (fun r3 M4 =>
    (inR r3) ∧
    (if r3 = 0 then
      wX12_leafOf_170 Q k5 v1 v3 v4 v5 v6 M4
    else
      (inR v7) ∧
      (if v7 = 0 then
        wX12_leafOf_170 Q k5 v1 v3 v4 v5 v6 M4
      else
        ∃ n, wX12_leafOf_73 Q k5 (wX12_leafOf_46 Q k5 v1 v3 v4 f) v1 v3 v4 v5 v6 n (landI (landI v1 (lxorI v3 (-1))) (lxorI v5 (-1))) 0 M4)))
set_option maxHeartbeats 4000000 in
theorem s_wX12_leafOf_46 {Γ : Cx} {h : Nat} (hΓ : Ok Γ cX12_leafOf RX12 10 h 0 0) (hh : 5 ≤ h) (hr : (cxm Γ).sig.returnType = none) {Q : Mm → Prop} {v1 v3 v4 : Int}  {k5 : Int → Int → Mm → Prop} (hk5 : ∀ (v3 : Int) (v4 : Int) (M : Mm), k5 v3 v4 M → Wa Γ 10 (Kf Γ (QV Q) 0 0) 0 0 5 [(0, aR 102), (1, aI v1), (3, aI v3), (4, aI v4)] [] (NC, RF, M)) : ∀ (f : Nat) (v5 : Int) (v6 : Int) (v7 : Int) (M : Mm), wX12_leafOf_46 Q k5 v1 v3 v4 f v5 v6 v7 M → Wa Γ 10 (Kf Γ (QV Q) 0 0) 0 0 46 [(0, aR 102), (1, aI v1), (3, aI v3), (4, aI v4), (5, aI v5), (6, aI v6), (7, aI v7)] [] (NC, RF, M) := by
  intro f
  induction f with
  | zero => intro v5 v6 v7 M h; exact h.elim
  | succ f ih =>
    intro v5 v6 v7 M h
    unfold wX12_leafOf_46 at h
    refine a_aload_n hΓ 0 dX12_leafOf_46 rfl rfl ?_
    obtain ⟨P1, q2, h⟩ := h
    refine n_callV (c := 102) (av := []) (st := []) hΓ (ct_wX12_good _ _  M P1 q2) my_X12_good ml_RX12_269 ni_X12_good kd_102 rfl lz_102 rfl (Nat.le_trans (by decide) hh) (by decide) (Nat.le_of_ble_eq_true rfl) rfl dX12_leafOf_47 (fun v Z' hq => ?_)
    obtain ⟨r3, M4, rfl, rfl, hq⟩ := hq
    have h := h r3 M4 hq
    dsimp only at h
    obtain ⟨g5, h⟩ := h
    refine a_if_eq (tgt := 170) hΓ g5 dX12_leafOf_50 (by decide) (fun c6 => ?_) (fun c6 => ?_)
    · rw [if_pos c6] at h
      refine a_sub (ls' := [(0, aR 102), (1, aI v1), (3, aI v3), (4, aI v4), (5, aI v5), (6, aI v6)]) [0, 1, 2, 3, 4, 5] rfl ?_
      exact s_wX12_leafOf_170 hΓ (Nat.le_trans (by decide) hh) hr hk5 M4 h
    · rw [if_neg c6] at h
      refine a_iload hΓ 6 dX12_leafOf_53 rfl ?_
      obtain ⟨g7, h⟩ := h
      refine a_if_eq (tgt := 170) hΓ g7 dX12_leafOf_55 (by decide) (fun c8 => ?_) (fun c8 => ?_)
      · rw [if_pos c8] at h
        refine a_sub (ls' := [(0, aR 102), (1, aI v1), (3, aI v3), (4, aI v4), (5, aI v5), (6, aI v6)]) [0, 1, 2, 3, 4, 5] rfl ?_
        exact s_wX12_leafOf_170 hΓ (Nat.le_trans (by decide) hh) hr hk5 M4 h
      · rw [if_neg c8] at h
        refine a_iload_n hΓ 1 dX12_leafOf_58 rfl rfl ?_
        refine a_iload_n hΓ 2 dX12_leafOf_59 rfl rfl ?_
        refine a_iconst hΓ dX12_leafOf_60 ?_
        refine a_ixor hΓ dX12_leafOf_61 ?_
        refine a_iand hΓ dX12_leafOf_62 ?_
        refine a_iload hΓ 4 dX12_leafOf_63 rfl ?_
        refine a_iconst hΓ dX12_leafOf_65 ?_
        refine a_ixor hΓ dX12_leafOf_66 ?_
        refine a_iand hΓ dX12_leafOf_67 ?_
        refine a_istore (ls' := [(8, aI (landI (landI v1 (lxorI v3 (-1))) (lxorI v5 (-1)))), (0, aR 102), (1, aI v1), (3, aI v3), (4, aI v4), (5, aI v5), (6, aI v6), (7, aI v7)]) hΓ dX12_leafOf_68 (by decide) rfl ?_
        refine a_iconst hΓ dX12_leafOf_70 ?_
        refine a_istore (ls' := [(9, aI 0), (8, aI (landI (landI v1 (lxorI v3 (-1))) (lxorI v5 (-1)))), (0, aR 102), (1, aI v1), (3, aI v3), (4, aI v4), (5, aI v5), (6, aI v6), (7, aI v7)]) hΓ dX12_leafOf_71 (by decide) rfl ?_
        refine a_sub (ls' := [(0, aR 102), (1, aI v1), (3, aI v3), (4, aI v4), (5, aI v5), (6, aI v6), (8, aI (landI (landI v1 (lxorI v3 (-1))) (lxorI v5 (-1)))), (9, aI 0)]) [2, 3, 4, 5, 6, 7, 1, 0] rfl ?_
        obtain ⟨f9, h⟩ := h
        exact s_wX12_leafOf_73 hΓ (Nat.le_trans (by decide) hh) hr hk5 ih f9 (landI (landI v1 (lxorI v3 (-1))) (lxorI v5 (-1))) 0 M4 h
def wX12_leafOf_5 (Q : Mm → Prop) (v1 : Int) : Nat → Int → Int → Mm → Prop
  | 0, _, _, _ => False
  | f + 1, v3, v4, M => Bd (wX12_good M) (fun r3 M4 =>
    (inR r3) ∧
    (if r3 = 0 then
      wX12_leafOf_191 Q v1 v3 v4 M4
    else
      (inR (M4 102 27)) ∧
      (inR (M4 102 26)) ∧
      (if (M4 102 27) < (M4 102 26) then
        (0 ≤ (M4 102 27) ∧ (M4 102 27) < 400) ∧
        (inR (M4 115 (M4 102 27))) ∧
        (if (M4 115 (M4 102 27)) = 93 then
          wX12_leafOf_191 Q v1 v3 v4 M4
        else
          ∃ n, wX12_leafOf_46 Q (wX12_leafOf_5 Q v1 f) v1 v3 v4 n 0 0 1 M4)
      else
        ∃ n, wX12_leafOf_46 Q (wX12_leafOf_5 Q v1 f) v1 v3 v4 n 0 0 1 M4)))
set_option maxHeartbeats 4000000 in
theorem s_wX12_leafOf_5 {Γ : Cx} {h : Nat} (hΓ : Ok Γ cX12_leafOf RX12 10 h 0 0) (hh : 5 ≤ h) (hr : (cxm Γ).sig.returnType = none) {Q : Mm → Prop} {v1 : Int}   : ∀ (f : Nat) (v3 : Int) (v4 : Int) (M : Mm), wX12_leafOf_5 Q v1 f v3 v4 M → Wa Γ 10 (Kf Γ (QV Q) 0 0) 0 0 5 [(0, aR 102), (1, aI v1), (3, aI v3), (4, aI v4)] [] (NC, RF, M) := by
  intro f
  induction f with
  | zero => intro v3 v4 M h; exact h.elim
  | succ f ih =>
    intro v3 v4 M h
    unfold wX12_leafOf_5 at h
    refine a_aload_n hΓ 0 dX12_leafOf_5 rfl rfl ?_
    obtain ⟨P1, q2, h⟩ := h
    refine n_callV (c := 102) (av := []) (st := []) hΓ (ct_wX12_good _ _  M P1 q2) my_X12_good ml_RX12_269 ni_X12_good kd_102 rfl lz_102 rfl (Nat.le_trans (by decide) hh) (by decide) (Nat.le_of_ble_eq_true rfl) rfl dX12_leafOf_6 (fun v Z' hq => ?_)
    obtain ⟨r3, M4, rfl, rfl, hq⟩ := hq
    have h := h r3 M4 hq
    dsimp only at h
    obtain ⟨g5, h⟩ := h
    refine a_if_eq (tgt := 191) hΓ g5 dX12_leafOf_9 (by decide) (fun c6 => ?_) (fun c6 => ?_)
    · rw [if_pos c6] at h
      exact s_wX12_leafOf_191 hΓ (Nat.le_trans (by decide) hh) hr  M4 h
    · rw [if_neg c6] at h
      refine a_aload_n hΓ 0 dX12_leafOf_12 rfl rfl ?_
      refine n_getI (x := (M4 102 27)) hΓ fl_RX12_260 cl_12 kd_102 lz_102 dX12_leafOf_13 (Or.inl ft_12_27) rfl ?_
      refine a_aload_n hΓ 0 dX12_leafOf_16 rfl rfl ?_
      refine n_getI (x := (M4 102 26)) hΓ fl_RX12_254 cl_12 kd_102 lz_102 dX12_leafOf_17 (Or.inl ft_12_26) rfl ?_
      obtain ⟨g7, h⟩ := h
      obtain ⟨g8, h⟩ := h
      refine a_icmp_ge (tgt := 37) hΓ g7 g8 dX12_leafOf_20 (by decide) (fun c9 => ?_) (fun c9 => ?_)
      · rw [if_pos c9] at h
        refine a_aload_n hΓ 0 dX12_leafOf_23 rfl rfl ?_
        refine n_getR hΓ fl_RX12_62 cl_12 kd_102 lz_102 dX12_leafOf_24 ft_12_23 rf_102_23 ?_
        refine a_aload_n hΓ 0 dX12_leafOf_27 rfl rfl ?_
        refine n_getI (x := (M4 102 27)) hΓ fl_RX12_260 cl_12 kd_102 lz_102 dX12_leafOf_28 (Or.inl ft_12_27) rfl ?_
        obtain ⟨g10, h⟩ := h
        refine n_bald (x := (M4 115 (M4 102 27))) hΓ dX12_leafOf_31 kd_115 (Or.inr rfl) lz_115 g10 rfl ?_
        refine a_bipush hΓ dX12_leafOf_32 (by decide) ?_
        obtain ⟨g11, h⟩ := h
        refine a_icmp_eq (tgt := 191) hΓ g11 (inRl (by decide)) dX12_leafOf_34 (by decide) (fun c12 => ?_) (fun c12 => ?_)
        · rw [if_pos c12] at h
          exact s_wX12_leafOf_191 hΓ (Nat.le_trans (by decide) hh) hr  M4 h
        · rw [if_neg c12] at h
          refine a_iconst hΓ dX12_leafOf_37 ?_
          refine a_istore (ls' := [(5, aI 0), (0, aR 102), (1, aI v1), (3, aI v3), (4, aI v4)]) hΓ dX12_leafOf_38 (by decide) rfl ?_
          refine a_iconst hΓ dX12_leafOf_40 ?_
          refine a_istore (ls' := [(6, aI 0), (5, aI 0), (0, aR 102), (1, aI v1), (3, aI v3), (4, aI v4)]) hΓ dX12_leafOf_41 (by decide) rfl ?_
          refine a_iconst hΓ dX12_leafOf_43 ?_
          refine a_istore (ls' := [(7, aI 1), (6, aI 0), (5, aI 0), (0, aR 102), (1, aI v1), (3, aI v3), (4, aI v4)]) hΓ dX12_leafOf_44 (by decide) rfl ?_
          refine a_sub (ls' := [(0, aR 102), (1, aI v1), (3, aI v3), (4, aI v4), (5, aI 0), (6, aI 0), (7, aI 1)]) [3, 4, 5, 6, 2, 1, 0] rfl ?_
          obtain ⟨f13, h⟩ := h
          exact s_wX12_leafOf_46 hΓ (Nat.le_trans (by decide) hh) hr ih f13 0 0 1 M4 h
      · rw [if_neg c9] at h
        refine a_iconst hΓ dX12_leafOf_37 ?_
        refine a_istore (ls' := [(5, aI 0), (0, aR 102), (1, aI v1), (3, aI v3), (4, aI v4)]) hΓ dX12_leafOf_38 (by decide) rfl ?_
        refine a_iconst hΓ dX12_leafOf_40 ?_
        refine a_istore (ls' := [(6, aI 0), (5, aI 0), (0, aR 102), (1, aI v1), (3, aI v3), (4, aI v4)]) hΓ dX12_leafOf_41 (by decide) rfl ?_
        refine a_iconst hΓ dX12_leafOf_43 ?_
        refine a_istore (ls' := [(7, aI 1), (6, aI 0), (5, aI 0), (0, aR 102), (1, aI v1), (3, aI v3), (4, aI v4)]) hΓ dX12_leafOf_44 (by decide) rfl ?_
        refine a_sub (ls' := [(0, aR 102), (1, aI v1), (3, aI v3), (4, aI v4), (5, aI 0), (6, aI 0), (7, aI 1)]) [3, 4, 5, 6, 2, 1, 0] rfl ?_
        obtain ⟨f14, h⟩ := h
        exact s_wX12_leafOf_46 hΓ (Nat.le_trans (by decide) hh) hr ih f14 0 0 1 M4 h
def wX12_leafOf (v1 : Int) (v2 : Int) (M : Mm) (Q : Mm → Prop) : Prop :=
    ∃ n, wX12_leafOf_5 Q v1 n 0 v2 M
set_option maxHeartbeats 4000000 in
theorem s_wX12_leafOf {Γ : Cx} {h : Nat} (hΓ : Ok Γ cX12_leafOf RX12 10 h 0 0) (hh : 5 ≤ h) (hr : (cxm Γ).sig.returnType = none) {Q : Mm → Prop} (v1 : Int) (v2 : Int) (M : Mm) (h : wX12_leafOf v1 v2 M Q) : Wa Γ 10 (Kf Γ (QV Q) 0 0) 0 0 0 [(0, aR 102), (1, aI v1), (2, aI v2)] [] (NC, RF, M) := by
  unfold wX12_leafOf at h
  refine a_iconst hΓ dX12_leafOf_0 ?_
  refine a_istore_n (ls' := [(3, aI 0), (0, aR 102), (1, aI v1), (2, aI v2)]) hΓ dX12_leafOf_1 rfl (by decide) rfl ?_
  refine a_iload_n hΓ 3 dX12_leafOf_2 rfl rfl ?_
  refine a_istore (ls' := [(4, aI v2), (3, aI 0), (0, aR 102), (1, aI v1), (2, aI v2)]) hΓ dX12_leafOf_3 (by decide) rfl ?_
  refine a_sub (ls' := [(0, aR 102), (1, aI v1), (3, aI 0), (4, aI v2)]) [2, 3, 1, 0] rfl ?_
  obtain ⟨f1, h⟩ := h
  exact s_wX12_leafOf_5 hΓ (Nat.le_trans (by decide) hh) hr  f1 0 v2 M h
theorem ct_wX12_leafOf (l : Launch) (g : Gp) (v1 : Int) (v2 : Int) (M : Mm) (Q : Mm → Prop) (h : wX12_leafOf v1 v2 M Q) : Ct l g yX12_leafOf cX12_leafOf 10 none 5 0 0 [aR 102, aI v1, aI v2] (NC, RF, M) (QV Q) :=
  ct_of (by decide) (Nat.le_of_ble_eq_true rfl) (fun Γ hg hl hr _ hΓ => by subst hg; subst hl; exact s_wX12_leafOf hΓ (by decide) hr v1 v2 M h)
def wX12_proofOf_70 (Q : Mm → Prop) (rc : Int → Int → Int → Mm → (Mm → Prop) → Prop) (v1 : Int) (v2 : Int) (v3 : Int) (v4 : Int) (M : Mm) : Prop :=
    (inR v3) ∧
    (if v3 = 24 then
      Bv (wX12_faults M) (fun M6 =>
      Q M6)
    else
      Bv (wX12_next M) (fun M10 =>
      (inR v4) ∧
      (if v4 = 0 then
        Bv (wX12_leafOf v1 v2 M10) (fun M16 =>
        Q M16)
      else
        Bd (wX12_aLog v1 M10) (fun r19 M20 =>
        (inR r19) ∧
        (if r19 = (-1) then
          Q M20
        else
          (0 ≤ r19 ∧ r19 < 24) ∧
          Bd (wX12_logAt r19 4 M20) (fun r26 M27 =>
          Bv (rc (landI v1 (lxorI (lorI (shlI 1 r19) (M20 110 r19)) (-1))) (v2 + r26) (v3 + 1) M27) (fun M31 =>
          Bv (rc (landI v1 (lxorI (shlI 1 r19) (-1))) v2 (v3 + 1) M31) (fun M35 =>
          Bv (wX12_need 41 M35) (fun M39 =>
          Q M39)))))))))
set_option maxHeartbeats 4000000 in
theorem s_wX12_proofOf_70 {Γ : Cx} {h : Nat} (hΓ : Ok Γ cX12_proofOf RX12 6 h 0 0) (hh : 6 ≤ h) (hr : (cxm Γ).sig.returnType = none) {Q : Mm → Prop} {v1 v2 v3 v4 : Int} {rc : Int → Int → Int → Mm → (Mm → Prop) → Prop} {h0 : Nat} (hrc : ∀ (a0 : Int) (a1 : Int) (a2 : Int) (M : Mm) (Q : Mm → Prop), rc a0 a1 a2 M Q → Ct (cxl Γ) (cxg Γ) yX12_proofOf cX12_proofOf 6 none h0 0 0 [aR 102, aI a0, aI a1, aI a2] (NC, RF, M) (QV Q)) (hh0 : h0 + 1 ≤ h)  (M : Mm) (h : wX12_proofOf_70 Q rc v1 v2 v3 v4 M) : Wa Γ 6 (Kf Γ (QV Q) 0 0) 0 0 70 [(0, aR 102), (1, aI v1), (2, aI v2), (3, aI v3), (4, aI v4)] [] (NC, RF, M) := by
  unfold wX12_proofOf_70 at h
  refine a_iload_n hΓ 3 dX12_proofOf_70 rfl rfl ?_
  refine a_bipush hΓ dX12_proofOf_71 (by decide) ?_
  obtain ⟨g1, h⟩ := h
  refine a_icmp_ne (tgt := 81) hΓ g1 (inRl (by decide)) dX12_proofOf_73 (by decide) (fun c2 => ?_) (fun c2 => ?_)
  · rw [if_pos c2] at h
    refine a_aload_n hΓ 0 dX12_proofOf_76 rfl rfl ?_
    obtain ⟨P3, q4, h⟩ := h
    refine n_callV (c := 102) (av := []) (st := []) hΓ (ct_wX12_faults _ _  M P3 q4) my_X12_faults ml_RX12_279 ni_X12_faults kd_102 rfl lz_102 rfl (Nat.le_trans (by decide) hh) (by decide) (Nat.le_of_ble_eq_true rfl) rfl dX12_proofOf_77 (fun v Z' hq => ?_)
    obtain ⟨M6, rfl, rfl, hq⟩ := hq
    have h := h M6 hq
    dsimp only at h
    exact a_vret hΓ hr dX12_proofOf_80 ⟨_, rfl, rfl, h⟩
  · rw [if_neg c2] at h
    refine a_aload_n hΓ 0 dX12_proofOf_81 rfl rfl ?_
    obtain ⟨P7, q8, h⟩ := h
    refine n_callV (c := 102) (av := []) (st := []) hΓ (ct_wX12_next _ _  M P7 q8) my_X12_next ml_RX12_273 ni_X12_next kd_102 rfl lz_102 rfl (Nat.le_trans (by decide) hh) (by decide) (Nat.le_of_ble_eq_true rfl) rfl dX12_proofOf_82 (fun v Z' hq => ?_)
    obtain ⟨M10, rfl, rfl, hq⟩ := hq
    have h := h M10 hq
    dsimp only at h
    refine a_iload hΓ 4 dX12_proofOf_85 rfl ?_
    obtain ⟨g11, h⟩ := h
    refine a_if_ne (tgt := 97) hΓ g11 dX12_proofOf_87 (by decide) (fun c12 => ?_) (fun c12 => ?_)
    · rw [if_pos c12] at h
      refine a_aload_n hΓ 0 dX12_proofOf_90 rfl rfl ?_
      refine a_iload_n hΓ 1 dX12_proofOf_91 rfl rfl ?_
      refine a_iload_n hΓ 2 dX12_proofOf_92 rfl rfl ?_
      obtain ⟨P13, q14, h⟩ := h
      refine n_callV (c := 102) (av := [aI v1, aI v2]) (st := []) hΓ (ct_wX12_leafOf _ _ v1 v2 M10 P13 q14) my_X12_leafOf ml_RX12_282 ni_X12_leafOf kd_102 rfl lz_102 rfl (Nat.le_trans (by decide) hh) (by decide) (Nat.le_of_ble_eq_true rfl) rfl dX12_proofOf_93 (fun v Z' hq => ?_)
      obtain ⟨M16, rfl, rfl, hq⟩ := hq
      have h := h M16 hq
      dsimp only at h
      exact a_vret hΓ hr dX12_proofOf_96 ⟨_, rfl, rfl, h⟩
    · rw [if_neg c12] at h
      refine a_aload_n hΓ 0 dX12_proofOf_97 rfl rfl ?_
      refine a_iload_n hΓ 1 dX12_proofOf_98 rfl rfl ?_
      obtain ⟨P17, q18, h⟩ := h
      refine n_callV (c := 102) (av := [aI v1]) (st := []) hΓ (ct_wX12_aLog _ _ v1 M10 P17 q18) my_X12_aLog ml_RX12_285 ni_X12_aLog kd_102 rfl lz_102 rfl (Nat.le_trans (by decide) hh) (by decide) (Nat.le_of_ble_eq_true rfl) rfl dX12_proofOf_99 (fun v Z' hq => ?_)
      obtain ⟨r19, M20, rfl, rfl, hq⟩ := hq
      have h := h r19 M20 hq
      dsimp only at h
      refine a_istore (ls' := [(5, aI r19), (0, aR 102), (1, aI v1), (2, aI v2), (3, aI v3), (4, aI v4)]) hΓ dX12_proofOf_102 (by decide) rfl ?_
      refine a_iload hΓ 0 dX12_proofOf_104 rfl ?_
      refine a_iconst hΓ dX12_proofOf_106 ?_
      obtain ⟨g21, h⟩ := h
      refine a_icmp_ne (tgt := 111) hΓ g21 (inRl (by decide)) dX12_proofOf_107 (by decide) (fun c22 => ?_) (fun c22 => ?_)
      · rw [if_pos c22] at h
        exact a_vret hΓ hr dX12_proofOf_110 ⟨_, rfl, rfl, h⟩
      · rw [if_neg c22] at h
        refine a_aload_n hΓ 1 dX12_proofOf_111 rfl rfl ?_
        refine a_iload_n hΓ 2 dX12_proofOf_112 rfl rfl ?_
        refine a_iconst hΓ dX12_proofOf_113 ?_
        refine a_iload hΓ 0 dX12_proofOf_114 rfl ?_
        refine a_ishl hΓ dX12_proofOf_116 ?_
        refine a_aload_n hΓ 1 dX12_proofOf_117 rfl rfl ?_
        refine n_getR hΓ fl_RX12_40 cl_12 kd_102 lz_102 dX12_proofOf_118 ft_12_10 rf_102_10 ?_
        refine a_iload hΓ 0 dX12_proofOf_121 rfl ?_
        obtain ⟨g23, h⟩ := h
        refine n_iald (x := (M20 110 r19)) hΓ dX12_proofOf_123 kd_110 lz_110 g23 rfl ?_
        refine a_ior hΓ dX12_proofOf_124 ?_
        refine a_iconst hΓ dX12_proofOf_125 ?_
        refine a_ixor hΓ dX12_proofOf_126 ?_
        refine a_iand hΓ dX12_proofOf_127 ?_
        refine a_iload_n hΓ 3 dX12_proofOf_128 rfl rfl ?_
        refine a_aload_n hΓ 1 dX12_proofOf_129 rfl rfl ?_
        refine a_iload hΓ 0 dX12_proofOf_130 rfl ?_
        refine a_iconst hΓ dX12_proofOf_132 ?_
        obtain ⟨P24, q25, h⟩ := h
        refine n_callV (c := 102) (av := [aI r19, aI 4]) (st := [aI v2, aI (landI v1 (lxorI (lorI (shlI 1 r19) (M20 110 r19)) (-1))), aR 102]) hΓ (ct_wX12_logAt _ _ r19 4 M20 P24 q25) my_X12_logAt ml_RX12_151 ni_X12_logAt kd_102 rfl lz_102 rfl (Nat.le_trans (by decide) hh) (by decide) (Nat.le_of_ble_eq_true rfl) rfl dX12_proofOf_133 (fun v Z' hq => ?_)
        obtain ⟨r26, M27, rfl, rfl, hq⟩ := hq
        have h := h r26 M27 hq
        dsimp only at h
        refine a_iadd hΓ dX12_proofOf_136 ?_
        refine a_iload_n hΓ 4 dX12_proofOf_137 rfl rfl ?_
        refine a_iconst hΓ dX12_proofOf_138 ?_
        refine a_iadd hΓ dX12_proofOf_139 ?_
        obtain ⟨P28, q29, h⟩ := h
        refine n_callV (c := 102) (av := [aI (landI v1 (lxorI (lorI (shlI 1 r19) (M20 110 r19)) (-1))), aI (v2 + r26), aI (v3 + 1)]) (st := []) hΓ (hrc (landI v1 (lxorI (lorI (shlI 1 r19) (M20 110 r19)) (-1))) (v2 + r26) (v3 + 1) M27 P28 q29) my_X12_proofOf ml_RX12_288 ni_X12_proofOf kd_102 rfl lz_102 rfl hh0 (by decide) (Nat.le_of_ble_eq_true rfl) rfl dX12_proofOf_140 (fun v Z' hq => ?_)
        obtain ⟨M31, rfl, rfl, hq⟩ := hq
        have h := h M31 hq
        dsimp only at h
        refine a_aload_n hΓ 1 dX12_proofOf_143 rfl rfl ?_
        refine a_iload_n hΓ 2 dX12_proofOf_144 rfl rfl ?_
        refine a_iconst hΓ dX12_proofOf_145 ?_
        refine a_iload hΓ 0 dX12_proofOf_146 rfl ?_
        refine a_ishl hΓ dX12_proofOf_148 ?_
        refine a_iconst hΓ dX12_proofOf_149 ?_
        refine a_ixor hΓ dX12_proofOf_150 ?_
        refine a_iand hΓ dX12_proofOf_151 ?_
        refine a_iload_n hΓ 3 dX12_proofOf_152 rfl rfl ?_
        refine a_iload_n hΓ 4 dX12_proofOf_153 rfl rfl ?_
        refine a_iconst hΓ dX12_proofOf_154 ?_
        refine a_iadd hΓ dX12_proofOf_155 ?_
        obtain ⟨P32, q33, h⟩ := h
        refine n_callV (c := 102) (av := [aI (landI v1 (lxorI (shlI 1 r19) (-1))), aI v2, aI (v3 + 1)]) (st := []) hΓ (hrc (landI v1 (lxorI (shlI 1 r19) (-1))) v2 (v3 + 1) M31 P32 q33) my_X12_proofOf ml_RX12_288 ni_X12_proofOf kd_102 rfl lz_102 rfl hh0 (by decide) (Nat.le_of_ble_eq_true rfl) rfl dX12_proofOf_156 (fun v Z' hq => ?_)
        obtain ⟨M35, rfl, rfl, hq⟩ := hq
        have h := h M35 hq
        dsimp only at h
        refine a_aload_n hΓ 1 dX12_proofOf_159 rfl rfl ?_
        refine a_bipush hΓ dX12_proofOf_160 (by decide) ?_
        obtain ⟨P36, q37, h⟩ := h
        refine n_callV (c := 102) (av := [aI 41]) (st := []) hΓ (ct_wX12_need _ _ 41 M35 P36 q37) my_X12_need ml_RX12_291 ni_X12_need kd_102 rfl lz_102 rfl (Nat.le_trans (by decide) hh) (by decide) (Nat.le_of_ble_eq_true rfl) rfl dX12_proofOf_162 (fun v Z' hq => ?_)
        obtain ⟨M39, rfl, rfl, hq⟩ := hq
        have h := h M39 hq
        dsimp only at h
        exact a_vret hΓ hr dX12_proofOf_165 ⟨_, rfl, rfl, h⟩
def wX12_proofOf_38 (Q : Mm → Prop) (rc : Int → Int → Int → Mm → (Mm → Prop) → Prop) (v1 : Int) (v2 : Int) (v3 : Int) (s0 : Int) (M : Mm) : Prop :=
    (inR s0) ∧
    (if s0 = 0 then
      (inR (M 102 27)) ∧
      (inR (M 102 26)) ∧
      (if (M 102 27) < (M 102 26) then
        (0 ≤ (M 102 27) ∧ (M 102 27) < 400) ∧
        (inR (M 115 (M 102 27))) ∧
        (if (M 115 (M 102 27)) = 91 then
          wX12_proofOf_70 Q rc v1 v2 v3 s0 M
        else
          Bv (wX12_faults M) (fun M12 =>
          Q M12))
      else
        Bv (wX12_faults M) (fun M16 =>
        Q M16))
    else
      wX12_proofOf_70 Q rc v1 v2 v3 s0 M)
set_option maxHeartbeats 4000000 in
theorem s_wX12_proofOf_38 {Γ : Cx} {h : Nat} (hΓ : Ok Γ cX12_proofOf RX12 6 h 0 0) (hh : 6 ≤ h) (hr : (cxm Γ).sig.returnType = none) {Q : Mm → Prop} {v1 v2 v3 s0 : Int} {rc : Int → Int → Int → Mm → (Mm → Prop) → Prop} {h0 : Nat} (hrc : ∀ (a0 : Int) (a1 : Int) (a2 : Int) (M : Mm) (Q : Mm → Prop), rc a0 a1 a2 M Q → Ct (cxl Γ) (cxg Γ) yX12_proofOf cX12_proofOf 6 none h0 0 0 [aR 102, aI a0, aI a1, aI a2] (NC, RF, M) (QV Q)) (hh0 : h0 + 1 ≤ h)  (M : Mm) (h : wX12_proofOf_38 Q rc v1 v2 v3 s0 M) : Wa Γ 6 (Kf Γ (QV Q) 0 0) 0 0 38 [(0, aR 102), (1, aI v1), (2, aI v2), (3, aI v3)] [aI s0] (NC, RF, M) := by
  unfold wX12_proofOf_38 at h
  refine a_istore (ls' := [(4, aI s0), (0, aR 102), (1, aI v1), (2, aI v2), (3, aI v3)]) hΓ dX12_proofOf_38 (by decide) rfl ?_
  refine a_iload hΓ 0 dX12_proofOf_40 rfl ?_
  obtain ⟨g1, h⟩ := h
  refine a_if_ne (tgt := 70) hΓ g1 dX12_proofOf_42 (by decide) (fun c2 => ?_) (fun c2 => ?_)
  · rw [if_pos c2] at h
    refine a_aload_n hΓ 1 dX12_proofOf_45 rfl rfl ?_
    refine n_getI (x := (M 102 27)) hΓ fl_RX12_260 cl_12 kd_102 lz_102 dX12_proofOf_46 (Or.inl ft_12_27) rfl ?_
    refine a_aload_n hΓ 1 dX12_proofOf_49 rfl rfl ?_
    refine n_getI (x := (M 102 26)) hΓ fl_RX12_254 cl_12 kd_102 lz_102 dX12_proofOf_50 (Or.inl ft_12_26) rfl ?_
    obtain ⟨g3, h⟩ := h
    obtain ⟨g4, h⟩ := h
    refine a_icmp_ge (tgt := 76) hΓ g3 g4 dX12_proofOf_53 (by decide) (fun c5 => ?_) (fun c5 => ?_)
    · rw [if_pos c5] at h
      refine a_aload_n hΓ 1 dX12_proofOf_56 rfl rfl ?_
      refine n_getR hΓ fl_RX12_62 cl_12 kd_102 lz_102 dX12_proofOf_57 ft_12_23 rf_102_23 ?_
      refine a_aload_n hΓ 1 dX12_proofOf_60 rfl rfl ?_
      refine n_getI (x := (M 102 27)) hΓ fl_RX12_260 cl_12 kd_102 lz_102 dX12_proofOf_61 (Or.inl ft_12_27) rfl ?_
      obtain ⟨g6, h⟩ := h
      refine n_bald (x := (M 115 (M 102 27))) hΓ dX12_proofOf_64 kd_115 (Or.inr rfl) lz_115 g6 rfl ?_
      refine a_bipush hΓ dX12_proofOf_65 (by decide) ?_
      obtain ⟨g7, h⟩ := h
      refine a_icmp_ne (tgt := 76) hΓ g7 (inRl (by decide)) dX12_proofOf_67 (by decide) (fun c8 => ?_) (fun c8 => ?_)
      · rw [if_pos c8] at h
        refine a_sub (ls' := [(0, aR 102), (1, aI v1), (2, aI v2), (3, aI v3), (4, aI s0)]) [1, 2, 3, 4, 0] rfl ?_
        exact s_wX12_proofOf_70 hΓ (Nat.le_trans (by decide) hh) hr hrc hh0  M h
      · rw [if_neg c8] at h
        refine a_aload_n hΓ 1 dX12_proofOf_76 rfl rfl ?_
        obtain ⟨P9, q10, h⟩ := h
        refine n_callV (c := 102) (av := []) (st := []) hΓ (ct_wX12_faults _ _  M P9 q10) my_X12_faults ml_RX12_279 ni_X12_faults kd_102 rfl lz_102 rfl (Nat.le_trans (by decide) hh) (by decide) (Nat.le_of_ble_eq_true rfl) rfl dX12_proofOf_77 (fun v Z' hq => ?_)
        obtain ⟨M12, rfl, rfl, hq⟩ := hq
        have h := h M12 hq
        dsimp only at h
        exact a_vret hΓ hr dX12_proofOf_80 ⟨_, rfl, rfl, h⟩
    · rw [if_neg c5] at h
      refine a_aload_n hΓ 1 dX12_proofOf_76 rfl rfl ?_
      obtain ⟨P13, q14, h⟩ := h
      refine n_callV (c := 102) (av := []) (st := []) hΓ (ct_wX12_faults _ _  M P13 q14) my_X12_faults ml_RX12_279 ni_X12_faults kd_102 rfl lz_102 rfl (Nat.le_trans (by decide) hh) (by decide) (Nat.le_of_ble_eq_true rfl) rfl dX12_proofOf_77 (fun v Z' hq => ?_)
      obtain ⟨M16, rfl, rfl, hq⟩ := hq
      have h := h M16 hq
      dsimp only at h
      exact a_vret hΓ hr dX12_proofOf_80 ⟨_, rfl, rfl, h⟩
  · rw [if_neg c2] at h
    refine a_sub (ls' := [(0, aR 102), (1, aI v1), (2, aI v2), (3, aI v3), (4, aI s0)]) [1, 2, 3, 4, 0] rfl ?_
    exact s_wX12_proofOf_70 hΓ (Nat.le_trans (by decide) hh) hr hrc hh0  M h
def wX12_proofOf : Nat → Int → Int → Int → Mm → (Mm → Prop) → Prop
  | 0, _, _, _, _, _ => False
  | f + 1, v1, v2, v3, M, Q => Bd (wX12_good M) (fun r3 M4 =>
    (inR r3) ∧
    (if r3 = 0 then
      Q M4
    else
      (inR (M4 102 27)) ∧
      (inR (M4 102 26)) ∧
      (if (M4 102 27) < (M4 102 26) then
        (0 ≤ (M4 102 27) ∧ (M4 102 27) < 400) ∧
        (inR (M4 115 (M4 102 27))) ∧
        (if (M4 115 (M4 102 27)) = 40 then
          wX12_proofOf_38 Q (wX12_proofOf f) v1 v2 v3 1 M4
        else
          wX12_proofOf_38 Q (wX12_proofOf f) v1 v2 v3 0 M4)
      else
        wX12_proofOf_38 Q (wX12_proofOf f) v1 v2 v3 0 M4)))
set_option maxHeartbeats 4000000 in
theorem s_wX12_proofOf {Γ : Cx} {h : Nat} (hΓ : Ok Γ cX12_proofOf RX12 6 h 0 0) (hh : 6 ≤ h) (hr : (cxm Γ).sig.returnType = none) {Q : Mm → Prop} {f : Nat}  {h0 : Nat} (hrc : ∀ (a0 : Int) (a1 : Int) (a2 : Int) (M : Mm) (Q : Mm → Prop), wX12_proofOf f a0 a1 a2 M Q → Ct (cxl Γ) (cxg Γ) yX12_proofOf cX12_proofOf 6 none h0 0 0 [aR 102, aI a0, aI a1, aI a2] (NC, RF, M) (QV Q)) (hh0 : h0 + 1 ≤ h) (v1 : Int) (v2 : Int) (v3 : Int) (M : Mm) (h1 : wX12_proofOf (f + 1) v1 v2 v3 M Q) : Wa Γ 6 (Kf Γ (QV Q) 0 0) 0 0 0 [(0, aR 102), (1, aI v1), (2, aI v2), (3, aI v3)] [] (NC, RF, M) := by
  have h := h1
  unfold wX12_proofOf at h
  refine a_aload_n hΓ 0 dX12_proofOf_0 rfl rfl ?_
  obtain ⟨P1, q2, h⟩ := h
  refine n_callV (c := 102) (av := []) (st := []) hΓ (ct_wX12_good _ _  M P1 q2) my_X12_good ml_RX12_269 ni_X12_good kd_102 rfl lz_102 rfl (Nat.le_trans (by decide) hh) (by decide) (Nat.le_of_ble_eq_true rfl) rfl dX12_proofOf_1 (fun v Z' hq => ?_)
  obtain ⟨r3, M4, rfl, rfl, hq⟩ := hq
  have h := h r3 M4 hq
  dsimp only at h
  obtain ⟨g5, h⟩ := h
  refine a_if_ne (tgt := 8) hΓ g5 dX12_proofOf_4 (by decide) (fun c6 => ?_) (fun c6 => ?_)
  · rw [if_pos c6] at h
    exact a_vret hΓ hr dX12_proofOf_7 ⟨_, rfl, rfl, h⟩
  · rw [if_neg c6] at h
    refine a_aload_n hΓ 0 dX12_proofOf_8 rfl rfl ?_
    refine n_getI (x := (M4 102 27)) hΓ fl_RX12_260 cl_12 kd_102 lz_102 dX12_proofOf_9 (Or.inl ft_12_27) rfl ?_
    refine a_aload_n hΓ 0 dX12_proofOf_12 rfl rfl ?_
    refine n_getI (x := (M4 102 26)) hΓ fl_RX12_254 cl_12 kd_102 lz_102 dX12_proofOf_13 (Or.inl ft_12_26) rfl ?_
    obtain ⟨g7, h⟩ := h
    obtain ⟨g8, h⟩ := h
    refine a_icmp_ge (tgt := 37) hΓ g7 g8 dX12_proofOf_16 (by decide) (fun c9 => ?_) (fun c9 => ?_)
    · rw [if_pos c9] at h
      refine a_aload_n hΓ 0 dX12_proofOf_19 rfl rfl ?_
      refine n_getR hΓ fl_RX12_62 cl_12 kd_102 lz_102 dX12_proofOf_20 ft_12_23 rf_102_23 ?_
      refine a_aload_n hΓ 0 dX12_proofOf_23 rfl rfl ?_
      refine n_getI (x := (M4 102 27)) hΓ fl_RX12_260 cl_12 kd_102 lz_102 dX12_proofOf_24 (Or.inl ft_12_27) rfl ?_
      obtain ⟨g10, h⟩ := h
      refine n_bald (x := (M4 115 (M4 102 27))) hΓ dX12_proofOf_27 kd_115 (Or.inr rfl) lz_115 g10 rfl ?_
      refine a_bipush hΓ dX12_proofOf_28 (by decide) ?_
      obtain ⟨g11, h⟩ := h
      refine a_icmp_ne (tgt := 37) hΓ g11 (inRl (by decide)) dX12_proofOf_30 (by decide) (fun c12 => ?_) (fun c12 => ?_)
      · rw [if_pos c12] at h
        refine a_iconst hΓ dX12_proofOf_33 ?_
        refine a_goto (tgt := 38) hΓ dX12_proofOf_34 (by decide) ?_
        exact s_wX12_proofOf_38 hΓ (Nat.le_trans (by decide) hh) hr hrc hh0  M4 h
      · rw [if_neg c12] at h
        refine a_iconst hΓ dX12_proofOf_37 ?_
        exact s_wX12_proofOf_38 hΓ (Nat.le_trans (by decide) hh) hr hrc hh0  M4 h
    · rw [if_neg c9] at h
      refine a_iconst hΓ dX12_proofOf_37 ?_
      exact s_wX12_proofOf_38 hΓ (Nat.le_trans (by decide) hh) hr hrc hh0  M4 h
theorem ct_wX12_proofOf (l : Launch) (g : Gp) : ∀ (f : Nat) (v1 : Int) (v2 : Int) (v3 : Int) (M : Mm) (Q : Mm → Prop), wX12_proofOf f v1 v2 v3 M Q → Ct l g yX12_proofOf cX12_proofOf 6 none (6 + f) 0 0 [aR 102, aI v1, aI v2, aI v3] (NC, RF, M) (QV Q)
  | 0, _, _, _, _, _, h => absurd h (by unfold wX12_proofOf; exact fun q => q)
  | f + 1, v1, v2, v3, M, Q, h => ct_of (by decide) (Nat.le_of_ble_eq_true rfl) (fun Γ hg hl hr _ hΓ => by subst hg; subst hl; exact s_wX12_proofOf (f := f) hΓ (by omega) hr (h0 := 6 + f) (fun a0 a1 a2 M Q q => ct_wX12_proofOf _ _ f a0 a1 a2 M Q q) (by omega) v1 v2 v3 M h)
def wX12_check_119 (Q : Int → Mm → Prop) (M : Mm) : Prop :=
    Bd (wX12_good (up M 102 29 (M 102 30))) (fun r3 M4 =>
    (inR r3) ∧
    (if r3 = 0 then
      Q 0 M4
    else
      Q 1 M4))
set_option maxHeartbeats 4000000 in
theorem s_wX12_check_119 {Γ : Cx} {h : Nat} (hΓ : Ok Γ cX12_check RX12 5 h 0 0) (hh : 37 ≤ h) (hr : (cxm Γ).sig.returnType = (some .int)) {Q : Int → Mm → Prop}   (M : Mm) (h : wX12_check_119 Q  M) : Wa Γ 5 (Kf Γ (QI Q) 0 0) 0 0 119 [(0, aR 102)] [] (NC, RF, M) := by
  unfold wX12_check_119 at h
  refine a_aload_n hΓ 0 dX12_check_119 rfl rfl ?_
  refine a_aload_n hΓ 0 dX12_check_120 rfl rfl ?_
  refine n_getI (x := (M 102 30)) hΓ fl_RX12_266 cl_12 kd_102 lz_102 dX12_check_121 (Or.inl ft_12_30) rfl ?_
  refine n_putI (j := 29) hΓ fl_RX12_68 cl_12 nf_12_29 kd_102 lz_102 dX12_check_124 (Or.inl ft_12_29) rfl ?_
  refine a_aload_n hΓ 0 dX12_check_127 rfl rfl ?_
  obtain ⟨P1, q2, h⟩ := h
  refine n_callV (c := 102) (av := []) (st := []) hΓ (ct_wX12_good _ _  (up M 102 29 (M 102 30)) P1 q2) my_X12_good ml_RX12_269 ni_X12_good kd_102 rfl lz_102 rfl (Nat.le_trans (by decide) hh) (by decide) (Nat.le_of_ble_eq_true rfl) rfl dX12_check_128 (fun v Z' hq => ?_)
  obtain ⟨r3, M4, rfl, rfl, hq⟩ := hq
  have h := h r3 M4 hq
  dsimp only at h
  obtain ⟨g5, h⟩ := h
  refine a_if_eq (tgt := 138) hΓ g5 dX12_check_131 (by decide) (fun c6 => ?_) (fun c6 => ?_)
  · rw [if_pos c6] at h
    refine a_iconst hΓ dX12_check_138 ?_
    exact a_iret hΓ hr dX12_check_139 ⟨_, _, rfl, rfl, h⟩
  · rw [if_neg c6] at h
    refine a_iconst hΓ dX12_check_134 ?_
    refine a_goto (tgt := 139) hΓ dX12_check_135 (by decide) ?_
    exact a_iret hΓ hr dX12_check_139 ⟨_, _, rfl, rfl, h⟩
def wX12_check_62 (Q : Int → Mm → Prop) (v1 : Int) (v2 : Int) (v3 : Int) (M : Mm) : Prop :=
    Bd (wX12_opening v1 v2 M) (fun r3 M4 =>
    Bv (wX12_next (up (up (up M4 102 31 v3) 102 30 (-1)) 102 28 0)) (fun M8 =>
    Bv (wX12_proofOf 30 r3 0 0 M8) (fun M12 =>
    Bd (wX12_good M12) (fun r16 M17 =>
    (inR r16) ∧
    (if r16 = 0 then
      wX12_check_119 Q M17
    else
      (inR (M17 102 27)) ∧
      (inR (M17 102 26)) ∧
      (if (M17 102 27) < (M17 102 26) then
        Bv (wX12_faults M17) (fun M26 =>
        wX12_check_119 Q M26)
      else
        wX12_check_119 Q M17))))))
set_option maxHeartbeats 4000000 in
theorem s_wX12_check_62 {Γ : Cx} {h : Nat} (hΓ : Ok Γ cX12_check RX12 5 h 0 0) (hh : 37 ≤ h) (hr : (cxm Γ).sig.returnType = (some .int)) {Q : Int → Mm → Prop} {v1 v2 v3 : Int}   (M : Mm) (h : wX12_check_62 Q v1 v2 v3 M) : Wa Γ 5 (Kf Γ (QI Q) 0 0) 0 0 62 [(0, aR 102), (1, aI v1), (2, aI v2), (3, aI v3)] [] (NC, RF, M) := by
  unfold wX12_check_62 at h
  refine a_aload_n hΓ 0 dX12_check_62 rfl rfl ?_
  refine a_iload_n hΓ 1 dX12_check_63 rfl rfl ?_
  refine a_iload_n hΓ 2 dX12_check_64 rfl rfl ?_
  obtain ⟨P1, q2, h⟩ := h
  refine n_callV (c := 102) (av := [aI v1, aI v2]) (st := []) hΓ (ct_wX12_opening _ _ v1 v2 M P1 q2) my_X12_opening ml_RX12_214 ni_X12_opening kd_102 rfl lz_102 rfl (Nat.le_trans (by decide) hh) (by decide) (Nat.le_of_ble_eq_true rfl) rfl dX12_check_65 (fun v Z' hq => ?_)
  obtain ⟨r3, M4, rfl, rfl, hq⟩ := hq
  have h := h r3 M4 hq
  dsimp only at h
  refine a_istore (ls' := [(4, aI r3), (0, aR 102), (1, aI v1), (2, aI v2), (3, aI v3)]) hΓ dX12_check_68 (by decide) rfl ?_
  refine a_aload_n hΓ 1 dX12_check_70 rfl rfl ?_
  refine a_iload_n hΓ 4 dX12_check_71 rfl rfl ?_
  refine n_putI (j := 31) hΓ fl_RX12_294 cl_12 nf_12_31 kd_102 lz_102 dX12_check_72 (Or.inl ft_12_31) rfl ?_
  refine a_aload_n hΓ 1 dX12_check_75 rfl rfl ?_
  refine a_iconst hΓ dX12_check_76 ?_
  refine n_putI (j := 30) hΓ fl_RX12_266 cl_12 nf_12_30 kd_102 lz_102 dX12_check_77 (Or.inl ft_12_30) rfl ?_
  refine a_aload_n hΓ 1 dX12_check_80 rfl rfl ?_
  refine a_iconst hΓ dX12_check_81 ?_
  refine n_putI (j := 28) hΓ fl_RX12_257 cl_12 nf_12_28 kd_102 lz_102 dX12_check_82 (Or.inl ft_12_28) rfl ?_
  refine a_aload_n hΓ 1 dX12_check_85 rfl rfl ?_
  obtain ⟨P5, q6, h⟩ := h
  refine n_callV (c := 102) (av := []) (st := []) hΓ (ct_wX12_next _ _  (up (up (up M4 102 31 v3) 102 30 (-1)) 102 28 0) P5 q6) my_X12_next ml_RX12_273 ni_X12_next kd_102 rfl lz_102 rfl (Nat.le_trans (by decide) hh) (by decide) (Nat.le_of_ble_eq_true rfl) rfl dX12_check_86 (fun v Z' hq => ?_)
  obtain ⟨M8, rfl, rfl, hq⟩ := hq
  have h := h M8 hq
  dsimp only at h
  refine a_aload_n hΓ 1 dX12_check_89 rfl rfl ?_
  refine a_iload hΓ 0 dX12_check_90 rfl ?_
  refine a_iconst hΓ dX12_check_92 ?_
  refine a_iconst hΓ dX12_check_93 ?_
  obtain ⟨P9, q10, h⟩ := h
  refine n_callV (c := 102) (av := [aI r3, aI 0, aI 0]) (st := []) hΓ (ct_wX12_proofOf _ _ 30 r3 0 0 M8 P9 q10) my_X12_proofOf ml_RX12_288 ni_X12_proofOf kd_102 rfl lz_102 rfl (Nat.le_trans (by decide) hh) (by decide) (Nat.le_of_ble_eq_true rfl) rfl dX12_check_94 (fun v Z' hq => ?_)
  obtain ⟨M12, rfl, rfl, hq⟩ := hq
  have h := h M12 hq
  dsimp only at h
  refine a_aload_n hΓ 1 dX12_check_97 rfl rfl ?_
  obtain ⟨P14, q15, h⟩ := h
  refine n_callV (c := 102) (av := []) (st := []) hΓ (ct_wX12_good _ _  M12 P14 q15) my_X12_good ml_RX12_269 ni_X12_good kd_102 rfl lz_102 rfl (Nat.le_trans (by decide) hh) (by decide) (Nat.le_of_ble_eq_true rfl) rfl dX12_check_98 (fun v Z' hq => ?_)
  obtain ⟨r16, M17, rfl, rfl, hq⟩ := hq
  have h := h r16 M17 hq
  dsimp only at h
  obtain ⟨g18, h⟩ := h
  refine a_if_eq (tgt := 119) hΓ g18 dX12_check_101 (by decide) (fun c19 => ?_) (fun c19 => ?_)
  · rw [if_pos c19] at h
    refine a_sub (ls' := [(0, aR 102)]) [1] rfl ?_
    exact s_wX12_check_119 hΓ (Nat.le_trans (by decide) hh) hr  M17 h
  · rw [if_neg c19] at h
    refine a_aload_n hΓ 1 dX12_check_104 rfl rfl ?_
    refine n_getI (x := (M17 102 27)) hΓ fl_RX12_260 cl_12 kd_102 lz_102 dX12_check_105 (Or.inl ft_12_27) rfl ?_
    refine a_aload_n hΓ 1 dX12_check_108 rfl rfl ?_
    refine n_getI (x := (M17 102 26)) hΓ fl_RX12_254 cl_12 kd_102 lz_102 dX12_check_109 (Or.inl ft_12_26) rfl ?_
    obtain ⟨g20, h⟩ := h
    obtain ⟨g21, h⟩ := h
    refine a_icmp_ge (tgt := 119) hΓ g20 g21 dX12_check_112 (by decide) (fun c22 => ?_) (fun c22 => ?_)
    · rw [if_pos c22] at h
      refine a_aload_n hΓ 1 dX12_check_115 rfl rfl ?_
      obtain ⟨P23, q24, h⟩ := h
      refine n_callV (c := 102) (av := []) (st := []) hΓ (ct_wX12_faults _ _  M17 P23 q24) my_X12_faults ml_RX12_279 ni_X12_faults kd_102 rfl lz_102 rfl (Nat.le_trans (by decide) hh) (by decide) (Nat.le_of_ble_eq_true rfl) rfl dX12_check_116 (fun v Z' hq => ?_)
      obtain ⟨M26, rfl, rfl, hq⟩ := hq
      have h := h M26 hq
      dsimp only at h
      refine a_sub (ls' := [(0, aR 102)]) [1] rfl ?_
      exact s_wX12_check_119 hΓ (Nat.le_trans (by decide) hh) hr  M26 h
    · rw [if_neg c22] at h
      refine a_sub (ls' := [(0, aR 102)]) [1] rfl ?_
      exact s_wX12_check_119 hΓ (Nat.le_trans (by decide) hh) hr  M17 h
def wX12_check_33 (Q : Int → Mm → Prop) (v1 : Int) (v2 : Int) (v3 : Int) : Nat → Int → Mm → Prop
  | 0, _, _ => False
  | f + 1, v4, M => (inR v4) ∧
    (inR (M 102 26)) ∧
    (if v4 < (M 102 26) then
      (0 ≤ v4 ∧ v4 < 400) ∧
      (wX12_check_33 Q v1 v2 v3 f) (v4 + 1) (up M 115 v4 (i2bI (M 114 v4)))
    else
      wX12_check_62 Q v1 v2 v3 M)
set_option maxHeartbeats 4000000 in
theorem s_wX12_check_33 {Γ : Cx} {h : Nat} (hΓ : Ok Γ cX12_check RX12 5 h 0 0) (hh : 37 ≤ h) (hr : (cxm Γ).sig.returnType = (some .int)) {Q : Int → Mm → Prop} {v1 v2 v3 : Int}   : ∀ (f : Nat) (v4 : Int) (M : Mm), wX12_check_33 Q v1 v2 v3 f v4 M → Wa Γ 5 (Kf Γ (QI Q) 0 0) 0 0 33 [(0, aR 102), (1, aI v1), (2, aI v2), (3, aI v3), (4, aI v4)] [] (NC, RF, M) := by
  intro f
  induction f with
  | zero => intro v4 M h; exact h.elim
  | succ f ih =>
    intro v4 M h
    unfold wX12_check_33 at h
    refine a_iload hΓ 4 dX12_check_33 rfl ?_
    refine a_aload_n hΓ 0 dX12_check_35 rfl rfl ?_
    refine n_getI (x := (M 102 26)) hΓ fl_RX12_254 cl_12 kd_102 lz_102 dX12_check_36 (Or.inl ft_12_26) rfl ?_
    obtain ⟨g1, h⟩ := h
    obtain ⟨g2, h⟩ := h
    refine a_icmp_ge (tgt := 62) hΓ g1 g2 dX12_check_39 (by decide) (fun c3 => ?_) (fun c3 => ?_)
    · rw [if_pos c3] at h
      refine a_aload_n hΓ 0 dX12_check_42 rfl rfl ?_
      refine n_getR hΓ fl_RX12_62 cl_12 kd_102 lz_102 dX12_check_43 ft_12_23 rf_102_23 ?_
      refine a_iload hΓ 4 dX12_check_46 rfl ?_
      refine a_aload_n hΓ 0 dX12_check_48 rfl rfl ?_
      refine n_getR hΓ fl_RX12_59 cl_12 kd_102 lz_102 dX12_check_49 ft_12_22 rf_102_22 ?_
      refine a_iload hΓ 4 dX12_check_52 rfl ?_
      obtain ⟨g4, h⟩ := h
      refine n_bald (x := (M 114 v4)) hΓ dX12_check_54 kd_114 (Or.inr rfl) lz_114 g4 rfl ?_
      refine a_bast hΓ rfl dX12_check_55 kd_115 lz_115 g4 ?_
      refine a_iinc (ls' := [(4, aI (v4 + 1)), (0, aR 102), (1, aI v1), (2, aI v2), (3, aI v3)]) hΓ 4 dX12_check_56 rfl (by decide) rfl ?_
      refine a_goto (tgt := 33) hΓ dX12_check_59 (by decide) ?_
      refine a_sub (ls' := [(0, aR 102), (1, aI v1), (2, aI v2), (3, aI v3), (4, aI (v4 + 1))]) [1, 2, 3, 4, 0] rfl ?_
      exact ih (v4 + 1) (up M 115 v4 (i2bI (M 114 v4))) h
    · rw [if_neg c3] at h
      refine a_sub (ls' := [(0, aR 102), (1, aI v1), (2, aI v2), (3, aI v3)]) [0, 1, 2, 3] rfl ?_
      exact s_wX12_check_62 hΓ (Nat.le_trans (by decide) hh) hr  M h
def wX12_check (v1 : Int) (v2 : Int) (v3 : Int) (M : Mm) (Q : Int → Mm → Prop) : Prop :=
    Bd (wX12_isShip v1 (up (up M 102 26 (M 102 25)) 102 25 0)) (fun r3 M4 =>
    (inR r3) ∧
    (if r3 = 0 then
      Q (-1) M4
    else
      Bd (wX12_isDay v2 M4) (fun r9 M10 =>
      (inR r9) ∧
      (if r9 = 0 then
        Q (-1) M10
      else
        ∃ n, wX12_check_33 Q v1 v2 v3 n 0 M10))))
set_option maxHeartbeats 4000000 in
theorem s_wX12_check {Γ : Cx} {h : Nat} (hΓ : Ok Γ cX12_check RX12 5 h 0 0) (hh : 37 ≤ h) (hr : (cxm Γ).sig.returnType = (some .int)) {Q : Int → Mm → Prop} (v1 : Int) (v2 : Int) (v3 : Int) (M : Mm) (h : wX12_check v1 v2 v3 M Q) : Wa Γ 5 (Kf Γ (QI Q) 0 0) 0 0 0 [(0, aR 102), (1, aI v1), (2, aI v2), (3, aI v3)] [] (NC, RF, M) := by
  unfold wX12_check at h
  refine a_aload_n hΓ 0 dX12_check_0 rfl rfl ?_
  refine a_aload_n hΓ 0 dX12_check_1 rfl rfl ?_
  refine n_getI (x := (M 102 25)) hΓ fl_RX12_251 cl_12 kd_102 lz_102 dX12_check_2 (Or.inl ft_12_25) rfl ?_
  refine n_putI (j := 26) hΓ fl_RX12_254 cl_12 nf_12_26 kd_102 lz_102 dX12_check_5 (Or.inl ft_12_26) rfl ?_
  refine a_aload_n hΓ 0 dX12_check_8 rfl rfl ?_
  refine a_iconst hΓ dX12_check_9 ?_
  refine n_putI (j := 25) hΓ fl_RX12_251 cl_12 nf_12_25 kd_102 lz_102 dX12_check_10 (Or.inl ft_12_25) rfl ?_
  refine a_aload_n hΓ 0 dX12_check_13 rfl rfl ?_
  refine a_iload_n hΓ 1 dX12_check_14 rfl rfl ?_
  obtain ⟨P1, q2, h⟩ := h
  refine n_callV (c := 102) (av := [aI v1]) (st := []) hΓ (ct_wX12_isShip _ _ v1 (up (up M 102 26 (M 102 25)) 102 25 0) P1 q2) my_X12_isShip ml_RX12_113 ni_X12_isShip kd_102 rfl lz_102 rfl (Nat.le_trans (by decide) hh) (by decide) (Nat.le_of_ble_eq_true rfl) rfl dX12_check_15 (fun v Z' hq => ?_)
  obtain ⟨r3, M4, rfl, rfl, hq⟩ := hq
  have h := h r3 M4 hq
  dsimp only at h
  obtain ⟨g5, h⟩ := h
  refine a_if_eq (tgt := 28) hΓ g5 dX12_check_18 (by decide) (fun c6 => ?_) (fun c6 => ?_)
  · rw [if_pos c6] at h
    refine a_iconst hΓ dX12_check_28 ?_
    exact a_iret hΓ hr dX12_check_29 ⟨_, _, rfl, rfl, h⟩
  · rw [if_neg c6] at h
    refine a_iload_n hΓ 2 dX12_check_21 rfl rfl ?_
    obtain ⟨P7, q8, h⟩ := h
    refine n_callS (av := [aI v2]) (st := []) hΓ (ct_wX12_isDay _ _ v2 M4 P7 q8) my_X12_isDay ml_RX12_109 rfl (Nat.le_trans (by decide) hh) (by decide) (Nat.le_of_ble_eq_true rfl) rfl dX12_check_22 (fun v Z' hq => ?_)
    obtain ⟨r9, M10, rfl, rfl, hq⟩ := hq
    have h := h r9 M10 hq
    dsimp only at h
    obtain ⟨g11, h⟩ := h
    refine a_if_ne (tgt := 30) hΓ g11 dX12_check_25 (by decide) (fun c12 => ?_) (fun c12 => ?_)
    · rw [if_pos c12] at h
      refine a_iconst hΓ dX12_check_28 ?_
      exact a_iret hΓ hr dX12_check_29 ⟨_, _, rfl, rfl, h⟩
    · rw [if_neg c12] at h
      refine a_iconst hΓ dX12_check_30 ?_
      refine a_istore (ls' := [(4, aI 0), (0, aR 102), (1, aI v1), (2, aI v2), (3, aI v3)]) hΓ dX12_check_31 (by decide) rfl ?_
      refine a_sub (ls' := [(0, aR 102), (1, aI v1), (2, aI v2), (3, aI v3), (4, aI 0)]) [1, 2, 3, 4, 0] rfl ?_
      obtain ⟨f13, h⟩ := h
      exact s_wX12_check_33 hΓ (Nat.le_trans (by decide) hh) hr  f13 0 M10 h
theorem ct_wX12_check (l : Launch) (g : Gp) (v1 : Int) (v2 : Int) (v3 : Int) (M : Mm) (Q : Int → Mm → Prop) (h : wX12_check v1 v2 v3 M Q) : Ct l g yX12_check cX12_check 5 (some .int) 37 0 0 [aR 102, aI v1, aI v2, aI v3] (NC, RF, M) (QI Q) :=
  ct_of (by decide) (Nat.le_of_ble_eq_true rfl) (fun Γ hg hl hr _ hΓ => by subst hg; subst hl; exact s_wX12_check hΓ (by decide) hr v1 v2 v3 M h)
def wX12_fault  (M : Mm) (Q : Int → Mm → Prop) : Prop :=
    Q (M 102 29) M
set_option maxHeartbeats 4000000 in
theorem s_wX12_fault {Γ : Cx} {h : Nat} (hΓ : Ok Γ cX12_fault RX12 1 h 0 0) (hh : 1 ≤ h) (hr : (cxm Γ).sig.returnType = (some .int)) {Q : Int → Mm → Prop}  (M : Mm) (h : wX12_fault  M Q) : Wa Γ 1 (Kf Γ (QI Q) 0 0) 0 0 0 [(0, aR 102)] [] (NC, RF, M) := by
  unfold wX12_fault at h
  refine a_aload_n hΓ 0 dX12_fault_0 rfl rfl ?_
  refine n_getI (x := (M 102 29)) hΓ fl_RX12_68 cl_12 kd_102 lz_102 dX12_fault_1 (Or.inl ft_12_29) rfl ?_
  exact a_iret hΓ hr dX12_fault_4 ⟨_, _, rfl, rfl, h⟩
theorem ct_wX12_fault (l : Launch) (g : Gp)  (M : Mm) (Q : Int → Mm → Prop) (h : wX12_fault  M Q) : Ct l g yX12_fault cX12_fault 1 (some .int) 1 0 0 [aR 102] (NC, RF, M) (QI Q) :=
  ct_of (by decide) (Nat.le_of_ble_eq_true rfl) (fun Γ hg hl hr _ hΓ => by subst hg; subst hl; exact s_wX12_fault hΓ (by decide) hr  M h)
def wX12_lays_113 (Q : Mm → Prop) (k74 : Int → Mm → Prop) (v2 : Int) (v3 : Int) (v4 : Int) (v5 : Int) : Nat → Int → Mm → Prop
  | 0, _, _ => False
  | f + 1, v6, M => (inR v6) ∧
    (if v6 < 1001 then
      Bd (wX12_logAt v3 1 M) (fun r5 M6 =>
      (0 ≤ ((1001 * r5) + v6) ∧ ((1001 * r5) + v6) < 120120) ∧
      (inR (M6 117 ((1001 * r5) + v6))) ∧
      (if (M6 117 ((1001 * r5) + v6)) < 1000000000 then
        Bd (wX12_logAt v3 4 M6) (fun r12 M13 =>
        (inR v4) ∧
        (if v6 < v4 then
          (wX12_lays_113 Q k74 v2 v3 v4 v5 f) (v6 + 1) (up M13 117 ((1001 * r5) + v6) ((M6 117 ((1001 * r5) + v6)) + (r12 * (v4 - v6))))
        else
          (inR v5) ∧
          (if v6 ≤ v5 then
            (wX12_lays_113 Q k74 v2 v3 v4 v5 f) (v6 + 1) (up M13 117 ((1001 * r5) + v6) ((M6 117 ((1001 * r5) + v6)) + (r12 * 0)))
          else
            (wX12_lays_113 Q k74 v2 v3 v4 v5 f) (v6 + 1) (up M13 117 ((1001 * r5) + v6) ((M6 117 ((1001 * r5) + v6)) + (r12 * (v6 - v5)))))))
      else
        (wX12_lays_113 Q k74 v2 v3 v4 v5 f) (v6 + 1) M6))
    else
      k74 (v3 + 1) M)
set_option maxHeartbeats 4000000 in
theorem s_wX12_lays_113 {Γ : Cx} {h : Nat} (hΓ : Ok Γ cX12_lays RX12 8 h 0 0) (hh : 8 ≤ h) (hr : (cxm Γ).sig.returnType = none) {Q : Mm → Prop} {v2 v3 v4 v5 : Int}  {k74 : Int → Mm → Prop} (hk74 : ∀ (v3 : Int) (M : Mm), k74 v3 M → Wa Γ 8 (Kf Γ (QV Q) 0 0) 0 0 74 [(0, aR 102), (2, aI v2), (3, aI v3)] [] (NC, RF, M)) : ∀ (f : Nat) (v6 : Int) (M : Mm), wX12_lays_113 Q k74 v2 v3 v4 v5 f v6 M → Wa Γ 8 (Kf Γ (QV Q) 0 0) 0 0 113 [(0, aR 102), (2, aI v2), (3, aI v3), (4, aI v4), (5, aI v5), (6, aI v6)] [] (NC, RF, M) := by
  intro f
  induction f with
  | zero => intro v6 M h; exact h.elim
  | succ f ih =>
    intro v6 M h
    unfold wX12_lays_113 at h
    refine a_iload hΓ 5 dX12_lays_113 rfl ?_
    refine a_sipush hΓ dX12_lays_115 (by decide) ?_
    obtain ⟨g1, h⟩ := h
    refine a_icmp_ge (tgt := 203) hΓ g1 (inRl (by decide)) dX12_lays_118 (by decide) (fun c2 => ?_) (fun c2 => ?_)
    · rw [if_pos c2] at h
      refine a_sipush hΓ dX12_lays_121 (by decide) ?_
      refine a_aload_n hΓ 0 dX12_lays_124 rfl rfl ?_
      refine a_iload_n hΓ 2 dX12_lays_125 rfl rfl ?_
      refine a_iconst hΓ dX12_lays_126 ?_
      obtain ⟨P3, q4, h⟩ := h
      refine n_callV (c := 102) (av := [aI v3, aI 1]) (st := [aI 1001]) hΓ (ct_wX12_logAt _ _ v3 1 M P3 q4) my_X12_logAt ml_RX12_151 ni_X12_logAt kd_102 rfl lz_102 rfl (Nat.le_trans (by decide) hh) (by decide) (Nat.le_of_ble_eq_true rfl) rfl dX12_lays_127 (fun v Z' hq => ?_)
      obtain ⟨r5, M6, rfl, rfl, hq⟩ := hq
      have h := h r5 M6 hq
      dsimp only at h
      refine a_imul hΓ dX12_lays_130 ?_
      refine a_iload hΓ 5 dX12_lays_131 rfl ?_
      refine a_iadd hΓ dX12_lays_133 ?_
      refine a_istore (ls' := [(7, aI ((1001 * r5) + v6)), (0, aR 102), (2, aI v2), (3, aI v3), (4, aI v4), (5, aI v5), (6, aI v6)]) hΓ dX12_lays_134 (by decide) rfl ?_
      refine a_aload_n hΓ 1 dX12_lays_136 rfl rfl ?_
      refine n_getR hΓ fl_RX12_72 cl_12 kd_102 lz_102 dX12_lays_137 ft_12_32 rf_102_32 ?_
      refine a_iload hΓ 0 dX12_lays_140 rfl ?_
      obtain ⟨g7, h⟩ := h
      refine n_iald (x := (M6 117 ((1001 * r5) + v6))) hΓ dX12_lays_142 kd_117 lz_117 g7 rfl ?_
      refine a_ldc_w hΓ gc_RX12_297 dX12_lays_143 ?_
      obtain ⟨g8, h⟩ := h
      refine a_icmp_ge (tgt := 197) hΓ g8 (inRl (by decide)) dX12_lays_146 (by decide) (fun c9 => ?_) (fun c9 => ?_)
      · rw [if_pos c9] at h
        refine a_aload_n hΓ 1 dX12_lays_149 rfl rfl ?_
        refine n_getR hΓ fl_RX12_72 cl_12 kd_102 lz_102 dX12_lays_150 ft_12_32 rf_102_32 ?_
        refine a_iload hΓ 0 dX12_lays_153 rfl ?_
        refine a_dup2 hΓ dX12_lays_155 ?_
        refine n_iald (x := (M6 117 ((1001 * r5) + v6))) hΓ dX12_lays_156 kd_117 lz_117 g7 rfl ?_
        refine a_aload_n hΓ 1 dX12_lays_157 rfl rfl ?_
        refine a_iload_n hΓ 3 dX12_lays_158 rfl rfl ?_
        refine a_iconst hΓ dX12_lays_159 ?_
        obtain ⟨P10, q11, h⟩ := h
        refine n_callV (c := 102) (av := [aI v3, aI 4]) (st := [aI (M6 117 ((1001 * r5) + v6)), aI ((1001 * r5) + v6), aR 117]) hΓ (ct_wX12_logAt _ _ v3 4 M6 P10 q11) my_X12_logAt ml_RX12_151 ni_X12_logAt kd_102 rfl lz_102 rfl (Nat.le_trans (by decide) hh) (by decide) (Nat.le_of_ble_eq_true rfl) rfl dX12_lays_160 (fun v Z' hq => ?_)
        obtain ⟨r12, M13, rfl, rfl, hq⟩ := hq
        have h := h r12 M13 hq
        dsimp only at h
        refine a_iload hΓ 6 dX12_lays_163 rfl ?_
        refine a_iload hΓ 4 dX12_lays_165 rfl ?_
        obtain ⟨g14, h⟩ := h
        refine a_icmp_ge (tgt := 178) hΓ g1 g14 dX12_lays_167 (by decide) (fun c15 => ?_) (fun c15 => ?_)
        · rw [if_pos c15] at h
          refine a_iload hΓ 4 dX12_lays_170 rfl ?_
          refine a_iload hΓ 6 dX12_lays_172 rfl ?_
          refine a_isub hΓ dX12_lays_174 ?_
          refine a_goto (tgt := 194) hΓ dX12_lays_175 (by decide) ?_
          refine a_imul hΓ dX12_lays_194 ?_
          refine a_iadd hΓ dX12_lays_195 ?_
          refine a_iast hΓ dX12_lays_196 kd_117 lz_117 g7 ?_
          refine a_iinc (ls' := [(6, aI (v6 + 1)), (7, aI ((1001 * r5) + v6)), (0, aR 102), (2, aI v2), (3, aI v3), (4, aI v4), (5, aI v5)]) hΓ 6 dX12_lays_197 rfl (by decide) rfl ?_
          refine a_goto (tgt := 113) hΓ dX12_lays_200 (by decide) ?_
          refine a_sub (ls' := [(0, aR 102), (2, aI v2), (3, aI v3), (4, aI v4), (5, aI v5), (6, aI (v6 + 1))]) [2, 3, 4, 5, 6, 0] rfl ?_
          exact ih (v6 + 1) (up M13 117 ((1001 * r5) + v6) ((M6 117 ((1001 * r5) + v6)) + (r12 * (v4 - v6)))) h
        · rw [if_neg c15] at h
          refine a_iload hΓ 6 dX12_lays_178 rfl ?_
          refine a_iload hΓ 5 dX12_lays_180 rfl ?_
          obtain ⟨g16, h⟩ := h
          refine a_icmp_le (tgt := 193) hΓ g1 g16 dX12_lays_182 (by decide) (fun c17 => ?_) (fun c17 => ?_)
          · rw [if_pos c17] at h
            refine a_iconst hΓ dX12_lays_193 ?_
            refine a_imul hΓ dX12_lays_194 ?_
            refine a_iadd hΓ dX12_lays_195 ?_
            refine a_iast hΓ dX12_lays_196 kd_117 lz_117 g7 ?_
            refine a_iinc (ls' := [(6, aI (v6 + 1)), (7, aI ((1001 * r5) + v6)), (0, aR 102), (2, aI v2), (3, aI v3), (4, aI v4), (5, aI v5)]) hΓ 6 dX12_lays_197 rfl (by decide) rfl ?_
            refine a_goto (tgt := 113) hΓ dX12_lays_200 (by decide) ?_
            refine a_sub (ls' := [(0, aR 102), (2, aI v2), (3, aI v3), (4, aI v4), (5, aI v5), (6, aI (v6 + 1))]) [2, 3, 4, 5, 6, 0] rfl ?_
            exact ih (v6 + 1) (up M13 117 ((1001 * r5) + v6) ((M6 117 ((1001 * r5) + v6)) + (r12 * 0))) h
          · rw [if_neg c17] at h
            refine a_iload hΓ 6 dX12_lays_185 rfl ?_
            refine a_iload hΓ 5 dX12_lays_187 rfl ?_
            refine a_isub hΓ dX12_lays_189 ?_
            refine a_goto (tgt := 194) hΓ dX12_lays_190 (by decide) ?_
            refine a_imul hΓ dX12_lays_194 ?_
            refine a_iadd hΓ dX12_lays_195 ?_
            refine a_iast hΓ dX12_lays_196 kd_117 lz_117 g7 ?_
            refine a_iinc (ls' := [(6, aI (v6 + 1)), (7, aI ((1001 * r5) + v6)), (0, aR 102), (2, aI v2), (3, aI v3), (4, aI v4), (5, aI v5)]) hΓ 6 dX12_lays_197 rfl (by decide) rfl ?_
            refine a_goto (tgt := 113) hΓ dX12_lays_200 (by decide) ?_
            refine a_sub (ls' := [(0, aR 102), (2, aI v2), (3, aI v3), (4, aI v4), (5, aI v5), (6, aI (v6 + 1))]) [2, 3, 4, 5, 6, 0] rfl ?_
            exact ih (v6 + 1) (up M13 117 ((1001 * r5) + v6) ((M6 117 ((1001 * r5) + v6)) + (r12 * (v6 - v5)))) h
      · rw [if_neg c9] at h
        refine a_iinc (ls' := [(6, aI (v6 + 1)), (7, aI ((1001 * r5) + v6)), (0, aR 102), (2, aI v2), (3, aI v3), (4, aI v4), (5, aI v5)]) hΓ 6 dX12_lays_197 rfl (by decide) rfl ?_
        refine a_goto (tgt := 113) hΓ dX12_lays_200 (by decide) ?_
        refine a_sub (ls' := [(0, aR 102), (2, aI v2), (3, aI v3), (4, aI v4), (5, aI v5), (6, aI (v6 + 1))]) [2, 3, 4, 5, 6, 0] rfl ?_
        exact ih (v6 + 1) M6 h
    · rw [if_neg c2] at h
      refine a_iinc (ls' := [(3, aI (v3 + 1)), (0, aR 102), (2, aI v2), (4, aI v4), (5, aI v5), (6, aI v6)]) hΓ 2 dX12_lays_203 rfl (by decide) rfl ?_
      refine a_goto (tgt := 74) hΓ dX12_lays_206 (by decide) ?_
      refine a_sub (ls' := [(0, aR 102), (2, aI v2), (3, aI (v3 + 1))]) [1, 2, 0] rfl ?_
      exact hk74 (v3 + 1) M h
def wX12_lays_74 (Q : Mm → Prop) (v2 : Int) : Nat → Int → Mm → Prop
  | 0, _, _ => False
  | f + 1, v3, M => Bd (wX12_many 3 M) (fun r3 M4 =>
    (inR v3) ∧
    (inR r3) ∧
    (if v3 < r3 then
      (if (landI (shrI v2 v3) 1) = 0 then
        (wX12_lays_74 Q v2 f) (v3 + 1) M4
      else
        Bd (wX12_readAs v3 0 M4) (fun r11 M12 =>
        Bd (wX12_readAs v3 1 M12) (fun r15 M16 =>
        ∃ n, wX12_lays_113 Q (wX12_lays_74 Q v2 f) v2 v3 r11 r15 n 0 M16)))
    else
      Q M4))
set_option maxHeartbeats 4000000 in
theorem s_wX12_lays_74 {Γ : Cx} {h : Nat} (hΓ : Ok Γ cX12_lays RX12 8 h 0 0) (hh : 8 ≤ h) (hr : (cxm Γ).sig.returnType = none) {Q : Mm → Prop} {v2 : Int}   : ∀ (f : Nat) (v3 : Int) (M : Mm), wX12_lays_74 Q v2 f v3 M → Wa Γ 8 (Kf Γ (QV Q) 0 0) 0 0 74 [(0, aR 102), (2, aI v2), (3, aI v3)] [] (NC, RF, M) := by
  intro f
  induction f with
  | zero => intro v3 M h; exact h.elim
  | succ f ih =>
    intro v3 M h
    unfold wX12_lays_74 at h
    refine a_iload_n hΓ 2 dX12_lays_74 rfl rfl ?_
    refine a_aload_n hΓ 0 dX12_lays_75 rfl rfl ?_
    refine a_iconst hΓ dX12_lays_76 ?_
    obtain ⟨P1, q2, h⟩ := h
    refine n_callV (c := 102) (av := [aI 3]) (st := [aI v3]) hΓ (ct_wX12_many _ _ 3 M P1 q2) my_X12_many ml_RX12_102 ni_X12_many kd_102 rfl lz_102 rfl (Nat.le_trans (by decide) hh) (by decide) (Nat.le_of_ble_eq_true rfl) rfl dX12_lays_77 (fun v Z' hq => ?_)
    obtain ⟨r3, M4, rfl, rfl, hq⟩ := hq
    have h := h r3 M4 hq
    dsimp only at h
    obtain ⟨g5, h⟩ := h
    obtain ⟨g6, h⟩ := h
    refine a_icmp_ge (tgt := 209) hΓ g5 g6 dX12_lays_80 (by decide) (fun c7 => ?_) (fun c7 => ?_)
    · rw [if_pos c7] at h
      refine a_iload_n hΓ 1 dX12_lays_83 rfl rfl ?_
      refine a_iload_n hΓ 2 dX12_lays_84 rfl rfl ?_
      refine a_ishr hΓ dX12_lays_85 ?_
      refine a_iconst hΓ dX12_lays_86 ?_
      refine a_iand hΓ dX12_lays_87 ?_
      refine a_if_ne (tgt := 94) hΓ (inR_land _ _) dX12_lays_88 (by decide) (fun c8 => ?_) (fun c8 => ?_)
      · rw [if_pos c8] at h
        refine a_goto (tgt := 203) hΓ dX12_lays_91 (by decide) ?_
        refine a_iinc (ls' := [(3, aI (v3 + 1)), (0, aR 102), (2, aI v2)]) hΓ 2 dX12_lays_203 rfl (by decide) rfl ?_
        refine a_goto (tgt := 74) hΓ dX12_lays_206 (by decide) ?_
        refine a_sub (ls' := [(0, aR 102), (2, aI v2), (3, aI (v3 + 1))]) [1, 2, 0] rfl ?_
        exact ih (v3 + 1) M4 h
      · rw [if_neg c8] at h
        refine a_aload_n hΓ 0 dX12_lays_94 rfl rfl ?_
        refine a_iload_n hΓ 2 dX12_lays_95 rfl rfl ?_
        refine a_iconst hΓ dX12_lays_96 ?_
        obtain ⟨P9, q10, h⟩ := h
        refine n_callV (c := 102) (av := [aI v3, aI 0]) (st := []) hΓ (ct_wX12_readAs _ _ v3 0 M4 P9 q10) my_X12_readAs ml_RX12_157 ni_X12_readAs kd_102 rfl lz_102 rfl (Nat.le_trans (by decide) hh) (by decide) (Nat.le_of_ble_eq_true rfl) rfl dX12_lays_97 (fun v Z' hq => ?_)
        obtain ⟨r11, M12, rfl, rfl, hq⟩ := hq
        have h := h r11 M12 hq
        dsimp only at h
        refine a_istore (ls' := [(4, aI r11), (0, aR 102), (2, aI v2), (3, aI v3)]) hΓ dX12_lays_100 (by decide) rfl ?_
        refine a_aload_n hΓ 1 dX12_lays_102 rfl rfl ?_
        refine a_iload_n hΓ 3 dX12_lays_103 rfl rfl ?_
        refine a_iconst hΓ dX12_lays_104 ?_
        obtain ⟨P13, q14, h⟩ := h
        refine n_callV (c := 102) (av := [aI v3, aI 1]) (st := []) hΓ (ct_wX12_readAs _ _ v3 1 M12 P13 q14) my_X12_readAs ml_RX12_157 ni_X12_readAs kd_102 rfl lz_102 rfl (Nat.le_trans (by decide) hh) (by decide) (Nat.le_of_ble_eq_true rfl) rfl dX12_lays_105 (fun v Z' hq => ?_)
        obtain ⟨r15, M16, rfl, rfl, hq⟩ := hq
        have h := h r15 M16 hq
        dsimp only at h
        refine a_istore (ls' := [(5, aI r15), (4, aI r11), (0, aR 102), (2, aI v2), (3, aI v3)]) hΓ dX12_lays_108 (by decide) rfl ?_
        refine a_iconst hΓ dX12_lays_110 ?_
        refine a_istore (ls' := [(6, aI 0), (5, aI r15), (4, aI r11), (0, aR 102), (2, aI v2), (3, aI v3)]) hΓ dX12_lays_111 (by decide) rfl ?_
        refine a_sub (ls' := [(0, aR 102), (2, aI v2), (3, aI v3), (4, aI r11), (5, aI r15), (6, aI 0)]) [3, 4, 5, 2, 1, 0] rfl ?_
        obtain ⟨f17, h⟩ := h
        exact s_wX12_lays_113 hΓ (Nat.le_trans (by decide) hh) hr ih f17 0 M16 h
    · rw [if_neg c7] at h
      exact a_vret hΓ hr dX12_lays_209 ⟨_, rfl, rfl, h⟩
def wX12_lays_19 (Q : Mm → Prop) (k2 : Int → Mm → Prop) (v1 : Int) (v2 : Int) (v3 : Int) (v4 : Int) : Nat → Int → Mm → Prop
  | 0, _, _ => False
  | f + 1, v5, M => (inR v5) ∧
    (if v5 < 1001 then
      (inR v4) ∧
      (if v4 = (-1) then
        (0 ≤ ((1001 * v3) + v5) ∧ ((1001 * v3) + v5) < 120120) ∧
        (wX12_lays_19 Q k2 v1 v2 v3 v4 f) (v5 + 1) (up M 117 ((1001 * v3) + v5) 0)
      else
        (if v5 ≤ v4 then
          (0 ≤ ((1001 * v3) + v5) ∧ ((1001 * v3) + v5) < 120120) ∧
          (wX12_lays_19 Q k2 v1 v2 v3 v4 f) (v5 + 1) (up M 117 ((1001 * v3) + v5) 0)
        else
          (0 ≤ ((1001 * v3) + v5) ∧ ((1001 * v3) + v5) < 120120) ∧
          (wX12_lays_19 Q k2 v1 v2 v3 v4 f) (v5 + 1) (up M 117 ((1001 * v3) + v5) 1000000000)))
    else
      k2 (v3 + 1) M)
set_option maxHeartbeats 4000000 in
theorem s_wX12_lays_19 {Γ : Cx} {h : Nat} (hΓ : Ok Γ cX12_lays RX12 8 h 0 0) (hh : 8 ≤ h) (hr : (cxm Γ).sig.returnType = none) {Q : Mm → Prop} {v1 v2 v3 v4 : Int}  {k2 : Int → Mm → Prop} (hk2 : ∀ (v3 : Int) (M : Mm), k2 v3 M → Wa Γ 8 (Kf Γ (QV Q) 0 0) 0 0 2 [(0, aR 102), (1, aI v1), (2, aI v2), (3, aI v3)] [] (NC, RF, M)) : ∀ (f : Nat) (v5 : Int) (M : Mm), wX12_lays_19 Q k2 v1 v2 v3 v4 f v5 M → Wa Γ 8 (Kf Γ (QV Q) 0 0) 0 0 19 [(0, aR 102), (1, aI v1), (2, aI v2), (3, aI v3), (4, aI v4), (5, aI v5)] [] (NC, RF, M) := by
  intro f
  induction f with
  | zero => intro v5 M h; exact h.elim
  | succ f ih =>
    intro v5 M h
    unfold wX12_lays_19 at h
    refine a_iload hΓ 5 dX12_lays_19 rfl ?_
    refine a_sipush hΓ dX12_lays_21 (by decide) ?_
    obtain ⟨g1, h⟩ := h
    refine a_icmp_ge (tgt := 66) hΓ g1 (inRl (by decide)) dX12_lays_24 (by decide) (fun c2 => ?_) (fun c2 => ?_)
    · rw [if_pos c2] at h
      refine a_aload_n hΓ 0 dX12_lays_27 rfl rfl ?_
      refine n_getR hΓ fl_RX12_72 cl_12 kd_102 lz_102 dX12_lays_28 ft_12_32 rf_102_32 ?_
      refine a_sipush hΓ dX12_lays_31 (by decide) ?_
      refine a_iload_n hΓ 3 dX12_lays_34 rfl rfl ?_
      refine a_imul hΓ dX12_lays_35 ?_
      refine a_iload hΓ 5 dX12_lays_36 rfl ?_
      refine a_iadd hΓ dX12_lays_38 ?_
      refine a_iload hΓ 4 dX12_lays_39 rfl ?_
      refine a_iconst hΓ dX12_lays_41 ?_
      obtain ⟨g3, h⟩ := h
      refine a_icmp_eq (tgt := 58) hΓ g3 (inRl (by decide)) dX12_lays_42 (by decide) (fun c4 => ?_) (fun c4 => ?_)
      · rw [if_pos c4] at h
        refine a_iconst hΓ dX12_lays_58 ?_
        obtain ⟨g5, h⟩ := h
        refine a_iast hΓ dX12_lays_59 kd_117 lz_117 g5 ?_
        refine a_iinc (ls' := [(5, aI (v5 + 1)), (0, aR 102), (1, aI v1), (2, aI v2), (3, aI v3), (4, aI v4)]) hΓ 5 dX12_lays_60 rfl (by decide) rfl ?_
        refine a_goto (tgt := 19) hΓ dX12_lays_63 (by decide) ?_
        refine a_sub (ls' := [(0, aR 102), (1, aI v1), (2, aI v2), (3, aI v3), (4, aI v4), (5, aI (v5 + 1))]) [1, 2, 3, 4, 5, 0] rfl ?_
        exact ih (v5 + 1) (up M 117 ((1001 * v3) + v5) 0) h
      · rw [if_neg c4] at h
        refine a_iload hΓ 5 dX12_lays_45 rfl ?_
        refine a_iload hΓ 4 dX12_lays_47 rfl ?_
        refine a_icmp_le (tgt := 58) hΓ g1 g3 dX12_lays_49 (by decide) (fun c6 => ?_) (fun c6 => ?_)
        · rw [if_pos c6] at h
          refine a_iconst hΓ dX12_lays_58 ?_
          obtain ⟨g7, h⟩ := h
          refine a_iast hΓ dX12_lays_59 kd_117 lz_117 g7 ?_
          refine a_iinc (ls' := [(5, aI (v5 + 1)), (0, aR 102), (1, aI v1), (2, aI v2), (3, aI v3), (4, aI v4)]) hΓ 5 dX12_lays_60 rfl (by decide) rfl ?_
          refine a_goto (tgt := 19) hΓ dX12_lays_63 (by decide) ?_
          refine a_sub (ls' := [(0, aR 102), (1, aI v1), (2, aI v2), (3, aI v3), (4, aI v4), (5, aI (v5 + 1))]) [1, 2, 3, 4, 5, 0] rfl ?_
          exact ih (v5 + 1) (up M 117 ((1001 * v3) + v5) 0) h
        · rw [if_neg c6] at h
          refine a_ldc_w hΓ gc_RX12_297 dX12_lays_52 ?_
          refine a_goto (tgt := 59) hΓ dX12_lays_55 (by decide) ?_
          obtain ⟨g8, h⟩ := h
          refine a_iast hΓ dX12_lays_59 kd_117 lz_117 g8 ?_
          refine a_iinc (ls' := [(5, aI (v5 + 1)), (0, aR 102), (1, aI v1), (2, aI v2), (3, aI v3), (4, aI v4)]) hΓ 5 dX12_lays_60 rfl (by decide) rfl ?_
          refine a_goto (tgt := 19) hΓ dX12_lays_63 (by decide) ?_
          refine a_sub (ls' := [(0, aR 102), (1, aI v1), (2, aI v2), (3, aI v3), (4, aI v4), (5, aI (v5 + 1))]) [1, 2, 3, 4, 5, 0] rfl ?_
          exact ih (v5 + 1) (up M 117 ((1001 * v3) + v5) 1000000000) h
    · rw [if_neg c2] at h
      refine a_iinc (ls' := [(3, aI (v3 + 1)), (0, aR 102), (1, aI v1), (2, aI v2), (4, aI v4), (5, aI v5)]) hΓ 3 dX12_lays_66 rfl (by decide) rfl ?_
      refine a_goto (tgt := 2) hΓ dX12_lays_69 (by decide) ?_
      refine a_sub (ls' := [(0, aR 102), (1, aI v1), (2, aI v2), (3, aI (v3 + 1))]) [1, 2, 3, 0] rfl ?_
      exact hk2 (v3 + 1) M h
def wX12_lays_2 (Q : Mm → Prop) (v1 : Int) (v2 : Int) : Nat → Int → Mm → Prop
  | 0, _, _ => False
  | f + 1, v3, M => (inR v3) ∧
    (if v3 < 120 then
      Bd (wX12_leftOn v1 v3 M) (fun r5 M6 =>
      ∃ n, wX12_lays_19 Q (wX12_lays_2 Q v1 v2 f) v1 v2 v3 r5 n 0 M6)
    else
      ∃ n, wX12_lays_74 Q v2 n 0 M)
set_option maxHeartbeats 4000000 in
theorem s_wX12_lays_2 {Γ : Cx} {h : Nat} (hΓ : Ok Γ cX12_lays RX12 8 h 0 0) (hh : 8 ≤ h) (hr : (cxm Γ).sig.returnType = none) {Q : Mm → Prop} {v1 v2 : Int}   : ∀ (f : Nat) (v3 : Int) (M : Mm), wX12_lays_2 Q v1 v2 f v3 M → Wa Γ 8 (Kf Γ (QV Q) 0 0) 0 0 2 [(0, aR 102), (1, aI v1), (2, aI v2), (3, aI v3)] [] (NC, RF, M) := by
  intro f
  induction f with
  | zero => intro v3 M h; exact h.elim
  | succ f ih =>
    intro v3 M h
    unfold wX12_lays_2 at h
    refine a_iload_n hΓ 3 dX12_lays_2 rfl rfl ?_
    refine a_bipush hΓ dX12_lays_3 (by decide) ?_
    obtain ⟨g1, h⟩ := h
    refine a_icmp_ge (tgt := 72) hΓ g1 (inRl (by decide)) dX12_lays_5 (by decide) (fun c2 => ?_) (fun c2 => ?_)
    · rw [if_pos c2] at h
      refine a_aload_n hΓ 0 dX12_lays_8 rfl rfl ?_
      refine a_iload_n hΓ 1 dX12_lays_9 rfl rfl ?_
      refine a_iload_n hΓ 3 dX12_lays_10 rfl rfl ?_
      obtain ⟨P3, q4, h⟩ := h
      refine n_callV (c := 102) (av := [aI v1, aI v3]) (st := []) hΓ (ct_wX12_leftOn _ _ v1 v3 M P3 q4) my_X12_leftOn ml_RX12_116 ni_X12_leftOn kd_102 rfl lz_102 rfl (Nat.le_trans (by decide) hh) (by decide) (Nat.le_of_ble_eq_true rfl) rfl dX12_lays_11 (fun v Z' hq => ?_)
      obtain ⟨r5, M6, rfl, rfl, hq⟩ := hq
      have h := h r5 M6 hq
      dsimp only at h
      refine a_istore (ls' := [(4, aI r5), (0, aR 102), (1, aI v1), (2, aI v2), (3, aI v3)]) hΓ dX12_lays_14 (by decide) rfl ?_
      refine a_iconst hΓ dX12_lays_16 ?_
      refine a_istore (ls' := [(5, aI 0), (4, aI r5), (0, aR 102), (1, aI v1), (2, aI v2), (3, aI v3)]) hΓ dX12_lays_17 (by decide) rfl ?_
      refine a_sub (ls' := [(0, aR 102), (1, aI v1), (2, aI v2), (3, aI v3), (4, aI r5), (5, aI 0)]) [2, 3, 4, 5, 1, 0] rfl ?_
      obtain ⟨f7, h⟩ := h
      exact s_wX12_lays_19 hΓ (Nat.le_trans (by decide) hh) hr ih f7 0 M6 h
    · rw [if_neg c2] at h
      refine a_iconst hΓ dX12_lays_72 ?_
      refine a_istore_n (ls' := [(3, aI 0), (0, aR 102), (1, aI v1), (2, aI v2)]) hΓ dX12_lays_73 rfl (by decide) rfl ?_
      refine a_sub (ls' := [(0, aR 102), (2, aI v2), (3, aI 0)]) [1, 3, 0] rfl ?_
      obtain ⟨f8, h⟩ := h
      exact s_wX12_lays_74 hΓ (Nat.le_trans (by decide) hh) hr  f8 0 M h
def wX12_lays (v1 : Int) (v2 : Int) (M : Mm) (Q : Mm → Prop) : Prop :=
    ∃ n, wX12_lays_2 Q v1 v2 n 0 M
set_option maxHeartbeats 4000000 in
theorem s_wX12_lays {Γ : Cx} {h : Nat} (hΓ : Ok Γ cX12_lays RX12 8 h 0 0) (hh : 8 ≤ h) (hr : (cxm Γ).sig.returnType = none) {Q : Mm → Prop} (v1 : Int) (v2 : Int) (M : Mm) (h : wX12_lays v1 v2 M Q) : Wa Γ 8 (Kf Γ (QV Q) 0 0) 0 0 0 [(0, aR 102), (1, aI v1), (2, aI v2)] [] (NC, RF, M) := by
  unfold wX12_lays at h
  refine a_iconst hΓ dX12_lays_0 ?_
  refine a_istore_n (ls' := [(3, aI 0), (0, aR 102), (1, aI v1), (2, aI v2)]) hΓ dX12_lays_1 rfl (by decide) rfl ?_
  refine a_sub (ls' := [(0, aR 102), (1, aI v1), (2, aI v2), (3, aI 0)]) [1, 2, 3, 0] rfl ?_
  obtain ⟨f1, h⟩ := h
  exact s_wX12_lays_2 hΓ (Nat.le_trans (by decide) hh) hr  f1 0 M h
theorem ct_wX12_lays (l : Launch) (g : Gp) (v1 : Int) (v2 : Int) (M : Mm) (Q : Mm → Prop) (h : wX12_lays v1 v2 M Q) : Ct l g yX12_lays cX12_lays 8 none 8 0 0 [aR 102, aI v1, aI v2] (NC, RF, M) (QV Q) :=
  ct_of (by decide) (Nat.le_of_ble_eq_true rfl) (fun Γ hg hl hr _ hΓ => by subst hg; subst hl; exact s_wX12_lays hΓ (by decide) hr v1 v2 M h)
