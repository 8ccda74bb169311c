/-! ===== printed by tools/gen.py ===== -/
def wX12_back_33 (Q : Int → Mm → Prop) (v1 : Int) : Nat → Int → Mm → Prop
  | 0, _, _ => False
  | f + 1, v2, M => (inR v2) ∧
    (if v2 < 730 then
      (0 ≤ ((730 * v1) + v2) ∧ ((730 * v1) + v2) < 1460) ∧
      (0 ≤ v2 ∧ v2 < 730) ∧
      (wX12_back_33 Q v1 f) (v2 + 1) (up M 103 v2 (M 104 ((730 * v1) + v2)))
    else
      Bd (wX12_ends 0 M) (fun r7 M8 =>
      Q r7 M8))
set_option maxHeartbeats 4000000 in
theorem s_wX12_back_33 {Γ : Cx} {h : Nat} (hΓ : Ok Γ cX12_back RX12 3 h 0 0) (hh : 2 ≤ h) (hr : (cxm Γ).sig.returnType = (some .int)) {Q : Int → Mm → Prop} {v1 : Int}   : ∀ (f : Nat) (v2 : Int) (M : Mm), wX12_back_33 Q v1 f v2 M → Wa Γ 3 (Kf Γ (QI Q) 0 0) 0 0 33 [(0, aR 102), (1, aI v1), (2, aI v2)] [] (NC, RF, M) := by
  intro f
  induction f with
  | zero => intro v2 M h; exact h.elim
  | succ f ih =>
    intro v2 M h
    unfold wX12_back_33 at h
    refine a_iload_n hΓ 2 dX12_back_33 rfl rfl ?_
    refine a_sipush hΓ dX12_back_34 (by decide) ?_
    obtain ⟨g1, h⟩ := h
    refine a_icmp_ge (tgt := 64) hΓ g1 (inRl (by decide)) dX12_back_37 (by decide) (fun c2 => ?_) (fun c2 => ?_)
    · rw [if_pos c2] at h
      refine a_aload_n hΓ 0 dX12_back_40 rfl rfl ?_
      refine n_getR hΓ fl_RX12_17 cl_12 kd_102 lz_102 dX12_back_41 ft_12_1 rf_102_1 ?_
      refine a_iload_n hΓ 2 dX12_back_44 rfl rfl ?_
      refine a_aload_n hΓ 0 dX12_back_45 rfl rfl ?_
      refine n_getR hΓ fl_RX12_21 cl_12 kd_102 lz_102 dX12_back_46 ft_12_2 rf_102_2 ?_
      refine a_sipush hΓ dX12_back_49 (by decide) ?_
      refine a_iload_n hΓ 1 dX12_back_52 rfl rfl ?_
      refine a_imul hΓ dX12_back_53 ?_
      refine a_iload_n hΓ 2 dX12_back_54 rfl rfl ?_
      refine a_iadd hΓ dX12_back_55 ?_
      obtain ⟨g3, h⟩ := h
      refine n_iald (x := (M 104 ((730 * v1) + v2))) hΓ dX12_back_56 kd_104 lz_104 g3 rfl ?_
      obtain ⟨g4, h⟩ := h
      refine a_iast hΓ dX12_back_57 kd_103 lz_103 g4 ?_
      refine a_iinc (ls' := [(2, aI (v2 + 1)), (0, aR 102), (1, aI v1)]) hΓ 2 dX12_back_58 rfl (by decide) rfl ?_
      refine a_goto (tgt := 33) hΓ dX12_back_61 (by decide) ?_
      refine a_sub (ls' := [(0, aR 102), (1, aI v1), (2, aI (v2 + 1))]) [1, 2, 0] rfl ?_
      exact ih (v2 + 1) (up M 103 v2 (M 104 ((730 * v1) + v2))) h
    · rw [if_neg c2] at h
      refine a_aload_n hΓ 0 dX12_back_64 rfl rfl ?_
      refine a_iconst hΓ dX12_back_65 ?_
      obtain ⟨P5, q6, h⟩ := h
      refine n_callV (c := 102) (av := [aI 0]) (st := []) hΓ (ct_wX12_ends _ _ 0 M P5 q6) my_X12_ends ml_RX12_106 ni_X12_ends kd_102 rfl lz_102 rfl (Nat.le_trans (by decide) hh) (by decide) (Nat.le_of_ble_eq_true rfl) rfl dX12_back_66 (fun v Z' hq => ?_)
      obtain ⟨r7, M8, rfl, rfl, hq⟩ := hq
      have h := h r7 M8 hq
      dsimp only at h
      exact a_iret hΓ hr dX12_back_69 ⟨_, _, rfl, rfl, h⟩
def wX12_back (v1 : Int) (M : Mm) (Q : Int → Mm → Prop) : Prop :=
    Bd (wX12_in v1 0 1 M) (fun r3 M4 =>
    (inR r3) ∧
    (if r3 = 0 then
      Bd (wX12_ends (-1) M4) (fun r9 M10 =>
      Q r9 M10)
    else
      (0 ≤ v1 ∧ v1 < 2) ∧
      (inR (M4 105 v1)) ∧
      (if (M4 105 v1) = 0 then
        Bd (wX12_ends (-2) M4) (fun r16 M17 =>
        Q r16 M17)
      else
        ∃ n, wX12_back_33 Q v1 n 0 M4)))
set_option maxHeartbeats 4000000 in
theorem s_wX12_back {Γ : Cx} {h : Nat} (hΓ : Ok Γ cX12_back RX12 3 h 0 0) (hh : 2 ≤ h) (hr : (cxm Γ).sig.returnType = (some .int)) {Q : Int → Mm → Prop} (v1 : Int) (M : Mm) (h : wX12_back v1 M Q) : Wa Γ 3 (Kf Γ (QI Q) 0 0) 0 0 0 [(0, aR 102), (1, aI v1)] [] (NC, RF, M) := by
  unfold wX12_back at h
  refine a_iload_n hΓ 1 dX12_back_0 rfl rfl ?_
  refine a_iconst hΓ dX12_back_1 ?_
  refine a_iconst hΓ dX12_back_2 ?_
  obtain ⟨P1, q2, h⟩ := h
  refine n_callS (av := [aI v1, aI 0, aI 1]) (st := []) hΓ (ct_wX12_in _ _ v1 0 1 M P1 q2) my_X12_in ml_RX12_3 rfl (Nat.le_trans (by decide) hh) (by decide) (Nat.le_of_ble_eq_true rfl) rfl dX12_back_3 (fun v Z' hq => ?_)
  obtain ⟨r3, M4, rfl, rfl, hq⟩ := hq
  have h := h r3 M4 hq
  dsimp only at h
  obtain ⟨g5, h⟩ := h
  refine a_if_ne (tgt := 15) hΓ g5 dX12_back_6 (by decide) (fun c6 => ?_) (fun c6 => ?_)
  · rw [if_pos c6] at h
    refine a_aload_n hΓ 0 dX12_back_9 rfl rfl ?_
    refine a_iconst hΓ dX12_back_10 ?_
    obtain ⟨P7, q8, h⟩ := h
    refine n_callV (c := 102) (av := [aI (-1)]) (st := []) hΓ (ct_wX12_ends _ _ (-1) M4 P7 q8) my_X12_ends ml_RX12_106 ni_X12_ends kd_102 rfl lz_102 rfl (Nat.le_trans (by decide) hh) (by decide) (Nat.le_of_ble_eq_true rfl) rfl dX12_back_11 (fun v Z' hq => ?_)
    obtain ⟨r9, M10, rfl, rfl, hq⟩ := hq
    have h := h r9 M10 hq
    dsimp only at h
    exact a_iret hΓ hr dX12_back_14 ⟨_, _, rfl, rfl, h⟩
  · rw [if_neg c6] at h
    refine a_aload_n hΓ 0 dX12_back_15 rfl rfl ?_
    refine n_getR hΓ fl_RX12_24 cl_12 kd_102 lz_102 dX12_back_16 ft_12_3 rf_102_3 ?_
    refine a_iload_n hΓ 1 dX12_back_19 rfl rfl ?_
    obtain ⟨g11, h⟩ := h
    refine n_bald (x := (M4 105 v1)) hΓ dX12_back_20 kd_105 (Or.inl rfl) lz_105 g11 rfl ?_
    obtain ⟨g12, h⟩ := h
    refine a_if_ne (tgt := 31) hΓ g12 dX12_back_21 (by decide) (fun c13 => ?_) (fun c13 => ?_)
    · rw [if_pos c13] at h
      refine a_aload_n hΓ 0 dX12_back_24 rfl rfl ?_
      refine a_bipush hΓ dX12_back_25 (by decide) ?_
      obtain ⟨P14, q15, h⟩ := h
      refine n_callV (c := 102) (av := [aI (-2)]) (st := []) hΓ (ct_wX12_ends _ _ (-2) M4 P14 q15) my_X12_ends ml_RX12_106 ni_X12_ends kd_102 rfl lz_102 rfl (Nat.le_trans (by decide) hh) (by decide) (Nat.le_of_ble_eq_true rfl) rfl dX12_back_27 (fun v Z' hq => ?_)
      obtain ⟨r16, M17, rfl, rfl, hq⟩ := hq
      have h := h r16 M17 hq
      dsimp only at h
      exact a_iret hΓ hr dX12_back_30 ⟨_, _, rfl, rfl, h⟩
    · rw [if_neg c13] at h
      refine a_iconst hΓ dX12_back_31 ?_
      refine a_istore_n (ls' := [(2, aI 0), (0, aR 102), (1, aI v1)]) hΓ dX12_back_32 rfl (by decide) rfl ?_
      refine a_sub (ls' := [(0, aR 102), (1, aI v1), (2, aI 0)]) [1, 2, 0] rfl ?_
      obtain ⟨f18, h⟩ := h
      exact s_wX12_back_33 hΓ (Nat.le_trans (by decide) hh) hr  f18 0 M4 h
theorem ct_wX12_back (l : Launch) (g : Gp) (v1 : Int) (M : Mm) (Q : Int → Mm → Prop) (h : wX12_back v1 M Q) : Ct l g yX12_back cX12_back 3 (some .int) 2 0 0 [aR 102, aI v1] (NC, RF, M) (QI Q) :=
  ct_of (by decide) (Nat.le_of_ble_eq_true rfl) (fun Γ hg hl hr _ hΓ => by subst hg; subst hl; exact s_wX12_back hΓ (by decide) hr v1 M h)
def wX12_table_76 (Q : Int → Mm → Prop) (v2 : Int) (v3 : Int) (v4 : Int) (v5 : Int) (s0 : Int) (M : Mm) : Prop :=
    (0 ≤ (s0 + v2) ∧ (s0 + v2) < 730) ∧
    (0 ≤ ((s0 + v5) + v2) ∧ ((s0 + v5) + v2) < 730) ∧
    Bd (wX12_ends 0 (up (up M 103 (s0 + v2) v3) 103 ((s0 + v5) + v2) v4)) (fun r5 M6 =>
    Q r5 M6)
set_option maxHeartbeats 4000000 in
theorem s_wX12_table_76 {Γ : Cx} {h : Nat} (hΓ : Ok Γ cX12_table RX12 7 h 0 0) (hh : 2 ≤ h) (hr : (cxm Γ).sig.returnType = (some .int)) {Q : Int → Mm → Prop} {v2 v3 v4 v5 s0 : Int}   (M : Mm) (h : wX12_table_76 Q v2 v3 v4 v5 s0 M) : Wa Γ 7 (Kf Γ (QI Q) 0 0) 0 0 76 [(0, aR 102), (2, aI v2), (3, aI v3), (4, aI v4), (5, aI v5)] [aI s0] (NC, RF, M) := by
  unfold wX12_table_76 at h
  refine a_istore (ls' := [(6, aI s0), (0, aR 102), (2, aI v2), (3, aI v3), (4, aI v4), (5, aI v5)]) hΓ dX12_table_76 (by decide) rfl ?_
  refine a_aload_n hΓ 1 dX12_table_78 rfl rfl ?_
  refine n_getR hΓ fl_RX12_17 cl_12 kd_102 lz_102 dX12_table_79 ft_12_1 rf_102_1 ?_
  refine a_iload hΓ 0 dX12_table_82 rfl ?_
  refine a_iload_n hΓ 2 dX12_table_84 rfl rfl ?_
  refine a_iadd hΓ dX12_table_85 ?_
  refine a_iload_n hΓ 3 dX12_table_86 rfl rfl ?_
  obtain ⟨g1, h⟩ := h
  refine a_iast hΓ dX12_table_87 kd_103 lz_103 g1 ?_
  refine a_aload_n hΓ 1 dX12_table_88 rfl rfl ?_
  refine n_getR hΓ fl_RX12_17 cl_12 kd_102 lz_102 dX12_table_89 ft_12_1 rf_102_1 ?_
  refine a_iload hΓ 0 dX12_table_92 rfl ?_
  refine a_iload hΓ 5 dX12_table_94 rfl ?_
  refine a_iadd hΓ dX12_table_96 ?_
  refine a_iload_n hΓ 2 dX12_table_97 rfl rfl ?_
  refine a_iadd hΓ dX12_table_98 ?_
  refine a_iload hΓ 4 dX12_table_99 rfl ?_
  obtain ⟨g2, h⟩ := h
  refine a_iast hΓ dX12_table_101 kd_103 lz_103 g2 ?_
  refine a_aload_n hΓ 1 dX12_table_102 rfl rfl ?_
  refine a_iconst hΓ dX12_table_103 ?_
  obtain ⟨P3, q4, h⟩ := h
  refine n_callV (c := 102) (av := [aI 0]) (st := []) hΓ (ct_wX12_ends _ _ 0 (up (up M 103 (s0 + v2) v3) 103 ((s0 + v5) + v2) v4) P3 q4) my_X12_ends ml_RX12_106 ni_X12_ends kd_102 rfl lz_102 rfl (Nat.le_trans (by decide) hh) (by decide) (Nat.le_of_ble_eq_true rfl) rfl dX12_table_104 (fun v Z' hq => ?_)
  obtain ⟨r5, M6, rfl, rfl, hq⟩ := hq
  have h := h r5 M6 hq
  dsimp only at h
  exact a_iret hΓ hr dX12_table_107 ⟨_, _, rfl, rfl, h⟩
def wX12_table_20 (Q : Int → Mm → Prop) (v1 : Int) (v2 : Int) (v3 : Int) (v4 : Int) (s0 : Int) (s1 : Int) (s2 : Int) (M : Mm) : Prop :=
    Bd (wX12_in s2 s1 s0 M) (fun r3 M4 =>
    (inR r3) ∧
    (if r3 = 0 then
      Bd (wX12_ends (-1) M4) (fun r9 M10 =>
      Q r9 M10)
    else
      Bd (wX12_in v3 (-100) 100 M4) (fun r13 M14 =>
      (inR r13) ∧
      (if r13 = 0 then
        Bd (wX12_ends (-1) M14) (fun r19 M20 =>
        Q r19 M20)
      else
        Bd (wX12_in v4 v3 100 M14) (fun r23 M24 =>
        (inR r23) ∧
        (if r23 = 0 then
          Bd (wX12_ends (-1) M24) (fun r29 M30 =>
          Q r29 M30)
        else
          (inR v1) ∧
          (if v1 = 0 then
            (if v1 = 0 then
              wX12_table_76 Q v2 v3 v4 6 3 M24
            else
              wX12_table_76 Q v2 v3 v4 6 15 M24)
          else
            (if v1 = 0 then
              wX12_table_76 Q v2 v3 v4 4 3 M24
            else
              wX12_table_76 Q v2 v3 v4 4 15 M24))))))))
set_option maxHeartbeats 4000000 in
theorem s_wX12_table_20 {Γ : Cx} {h : Nat} (hΓ : Ok Γ cX12_table RX12 7 h 0 0) (hh : 2 ≤ h) (hr : (cxm Γ).sig.returnType = (some .int)) {Q : Int → Mm → Prop} {v1 v2 v3 v4 s0 s1 s2 : Int}   (M : Mm) (h : wX12_table_20 Q v1 v2 v3 v4 s0 s1 s2 M) : Wa Γ 7 (Kf Γ (QI Q) 0 0) 0 0 20 [(0, aR 102), (1, aI v1), (2, aI v2), (3, aI v3), (4, aI v4)] [aI s0, aI s1, aI s2] (NC, RF, M) := by
  unfold wX12_table_20 at h
  obtain ⟨P1, q2, h⟩ := h
  refine n_callS (av := [aI s2, aI s1, aI s0]) (st := []) hΓ (ct_wX12_in _ _ s2 s1 s0 M P1 q2) my_X12_in ml_RX12_3 rfl (Nat.le_trans (by decide) hh) (by decide) (Nat.le_of_ble_eq_true rfl) rfl dX12_table_20 (fun v Z' hq => ?_)
  obtain ⟨r3, M4, rfl, rfl, hq⟩ := hq
  have h := h r3 M4 hq
  dsimp only at h
  obtain ⟨g5, h⟩ := h
  refine a_if_eq (tgt := 48) hΓ g5 dX12_table_23 (by decide) (fun c6 => ?_) (fun c6 => ?_)
  · rw [if_pos c6] at h
    refine a_aload_n hΓ 0 dX12_table_48 rfl rfl ?_
    refine a_iconst hΓ dX12_table_49 ?_
    obtain ⟨P7, q8, h⟩ := h
    refine n_callV (c := 102) (av := [aI (-1)]) (st := []) hΓ (ct_wX12_ends _ _ (-1) M4 P7 q8) my_X12_ends ml_RX12_106 ni_X12_ends kd_102 rfl lz_102 rfl (Nat.le_trans (by decide) hh) (by decide) (Nat.le_of_ble_eq_true rfl) rfl dX12_table_50 (fun v Z' hq => ?_)
    obtain ⟨r9, M10, rfl, rfl, hq⟩ := hq
    have h := h r9 M10 hq
    dsimp only at h
    exact a_iret hΓ hr dX12_table_53 ⟨_, _, rfl, rfl, h⟩
  · rw [if_neg c6] at h
    refine a_iload_n hΓ 3 dX12_table_26 rfl rfl ?_
    refine a_bipush hΓ dX12_table_27 (by decide) ?_
    refine a_bipush hΓ dX12_table_29 (by decide) ?_
    obtain ⟨P11, q12, h⟩ := h
    refine n_callS (av := [aI v3, aI (-100), aI 100]) (st := []) hΓ (ct_wX12_in _ _ v3 (-100) 100 M4 P11 q12) my_X12_in ml_RX12_3 rfl (Nat.le_trans (by decide) hh) (by decide) (Nat.le_of_ble_eq_true rfl) rfl dX12_table_31 (fun v Z' hq => ?_)
    obtain ⟨r13, M14, rfl, rfl, hq⟩ := hq
    have h := h r13 M14 hq
    dsimp only at h
    obtain ⟨g15, h⟩ := h
    refine a_if_eq (tgt := 48) hΓ g15 dX12_table_34 (by decide) (fun c16 => ?_) (fun c16 => ?_)
    · rw [if_pos c16] at h
      refine a_aload_n hΓ 0 dX12_table_48 rfl rfl ?_
      refine a_iconst hΓ dX12_table_49 ?_
      obtain ⟨P17, q18, h⟩ := h
      refine n_callV (c := 102) (av := [aI (-1)]) (st := []) hΓ (ct_wX12_ends _ _ (-1) M14 P17 q18) my_X12_ends ml_RX12_106 ni_X12_ends kd_102 rfl lz_102 rfl (Nat.le_trans (by decide) hh) (by decide) (Nat.le_of_ble_eq_true rfl) rfl dX12_table_50 (fun v Z' hq => ?_)
      obtain ⟨r19, M20, rfl, rfl, hq⟩ := hq
      have h := h r19 M20 hq
      dsimp only at h
      exact a_iret hΓ hr dX12_table_53 ⟨_, _, rfl, rfl, h⟩
    · rw [if_neg c16] at h
      refine a_iload hΓ 4 dX12_table_37 rfl ?_
      refine a_iload_n hΓ 3 dX12_table_39 rfl rfl ?_
      refine a_bipush hΓ dX12_table_40 (by decide) ?_
      obtain ⟨P21, q22, h⟩ := h
      refine n_callS (av := [aI v4, aI v3, aI 100]) (st := []) hΓ (ct_wX12_in _ _ v4 v3 100 M14 P21 q22) my_X12_in ml_RX12_3 rfl (Nat.le_trans (by decide) hh) (by decide) (Nat.le_of_ble_eq_true rfl) rfl dX12_table_42 (fun v Z' hq => ?_)
      obtain ⟨r23, M24, rfl, rfl, hq⟩ := hq
      have h := h r23 M24 hq
      dsimp only at h
      obtain ⟨g25, h⟩ := h
      refine a_if_ne (tgt := 54) hΓ g25 dX12_table_45 (by decide) (fun c26 => ?_) (fun c26 => ?_)
      · rw [if_pos c26] at h
        refine a_aload_n hΓ 0 dX12_table_48 rfl rfl ?_
        refine a_iconst hΓ dX12_table_49 ?_
        obtain ⟨P27, q28, h⟩ := h
        refine n_callV (c := 102) (av := [aI (-1)]) (st := []) hΓ (ct_wX12_ends _ _ (-1) M24 P27 q28) my_X12_ends ml_RX12_106 ni_X12_ends kd_102 rfl lz_102 rfl (Nat.le_trans (by decide) hh) (by decide) (Nat.le_of_ble_eq_true rfl) rfl dX12_table_50 (fun v Z' hq => ?_)
        obtain ⟨r29, M30, rfl, rfl, hq⟩ := hq
        have h := h r29 M30 hq
        dsimp only at h
        exact a_iret hΓ hr dX12_table_53 ⟨_, _, rfl, rfl, h⟩
      · rw [if_neg c26] at h
        refine a_iload_n hΓ 1 dX12_table_54 rfl rfl ?_
        obtain ⟨g31, h⟩ := h
        refine a_if_ne (tgt := 63) hΓ g31 dX12_table_55 (by decide) (fun c32 => ?_) (fun c32 => ?_)
        · rw [if_pos c32] at h
          refine a_bipush hΓ dX12_table_58 (by decide) ?_
          refine a_goto (tgt := 64) hΓ dX12_table_60 (by decide) ?_
          refine a_istore (ls' := [(5, aI 6), (0, aR 102), (1, aI v1), (2, aI v2), (3, aI v3), (4, aI v4)]) hΓ dX12_table_64 (by decide) rfl ?_
          refine a_iload_n hΓ 2 dX12_table_66 rfl rfl ?_
          refine a_if_ne (tgt := 74) hΓ g31 dX12_table_67 (by decide) (fun c33 => ?_) (fun c33 => ?_)
          · rw [if_pos c33] at h
            refine a_iconst hΓ dX12_table_70 ?_
            refine a_goto (tgt := 76) hΓ dX12_table_71 (by decide) ?_
            refine a_sub (ls' := [(0, aR 102), (2, aI v2), (3, aI v3), (4, aI v4), (5, aI 6)]) [1, 3, 4, 5, 0] rfl ?_
            exact s_wX12_table_76 hΓ (Nat.le_trans (by decide) hh) hr  M24 h
          · rw [if_neg c33] at h
            refine a_bipush hΓ dX12_table_74 (by decide) ?_
            refine a_sub (ls' := [(0, aR 102), (2, aI v2), (3, aI v3), (4, aI v4), (5, aI 6)]) [1, 3, 4, 5, 0] rfl ?_
            exact s_wX12_table_76 hΓ (Nat.le_trans (by decide) hh) hr  M24 h
        · rw [if_neg c32] at h
          refine a_iconst hΓ dX12_table_63 ?_
          refine a_istore (ls' := [(5, aI 4), (0, aR 102), (1, aI v1), (2, aI v2), (3, aI v3), (4, aI v4)]) hΓ dX12_table_64 (by decide) rfl ?_
          refine a_iload_n hΓ 2 dX12_table_66 rfl rfl ?_
          refine a_if_ne (tgt := 74) hΓ g31 dX12_table_67 (by decide) (fun c34 => ?_) (fun c34 => ?_)
          · rw [if_pos c34] at h
            refine a_iconst hΓ dX12_table_70 ?_
            refine a_goto (tgt := 76) hΓ dX12_table_71 (by decide) ?_
            refine a_sub (ls' := [(0, aR 102), (2, aI v2), (3, aI v3), (4, aI v4), (5, aI 4)]) [1, 3, 4, 5, 0] rfl ?_
            exact s_wX12_table_76 hΓ (Nat.le_trans (by decide) hh) hr  M24 h
          · rw [if_neg c34] at h
            refine a_bipush hΓ dX12_table_74 (by decide) ?_
            refine a_sub (ls' := [(0, aR 102), (2, aI v2), (3, aI v3), (4, aI v4), (5, aI 4)]) [1, 3, 4, 5, 0] rfl ?_
            exact s_wX12_table_76 hΓ (Nat.le_trans (by decide) hh) hr  M24 h
def wX12_table (v1 : Int) (v2 : Int) (v3 : Int) (v4 : Int) (M : Mm) (Q : Int → Mm → Prop) : Prop :=
    Bd (wX12_in v1 0 1 M) (fun r3 M4 =>
    (inR r3) ∧
    (if r3 = 0 then
      Bd (wX12_ends (-1) M4) (fun r9 M10 =>
      Q r9 M10)
    else
      (inR v1) ∧
      (if v1 = 0 then
        wX12_table_20 Q v1 v2 v3 v4 5 0 v2 M4
      else
        wX12_table_20 Q v1 v2 v3 v4 3 0 v2 M4)))
set_option maxHeartbeats 4000000 in
theorem s_wX12_table {Γ : Cx} {h : Nat} (hΓ : Ok Γ cX12_table RX12 7 h 0 0) (hh : 2 ≤ h) (hr : (cxm Γ).sig.returnType = (some .int)) {Q : Int → Mm → Prop} (v1 : Int) (v2 : Int) (v3 : Int) (v4 : Int) (M : Mm) (h : wX12_table v1 v2 v3 v4 M Q) : Wa Γ 7 (Kf Γ (QI Q) 0 0) 0 0 0 [(0, aR 102), (1, aI v1), (2, aI v2), (3, aI v3), (4, aI v4)] [] (NC, RF, M) := by
  unfold wX12_table at h
  refine a_iload_n hΓ 1 dX12_table_0 rfl rfl ?_
  refine a_iconst hΓ dX12_table_1 ?_
  refine a_iconst hΓ dX12_table_2 ?_
  obtain ⟨P1, q2, h⟩ := h
  refine n_callS (av := [aI v1, aI 0, aI 1]) (st := []) hΓ (ct_wX12_in _ _ v1 0 1 M P1 q2) my_X12_in ml_RX12_3 rfl (Nat.le_trans (by decide) hh) (by decide) (Nat.le_of_ble_eq_true rfl) rfl dX12_table_3 (fun v Z' hq => ?_)
  obtain ⟨r3, M4, rfl, rfl, hq⟩ := hq
  have h := h r3 M4 hq
  dsimp only at h
  obtain ⟨g5, h⟩ := h
  refine a_if_eq (tgt := 48) hΓ g5 dX12_table_6 (by decide) (fun c6 => ?_) (fun c6 => ?_)
  · rw [if_pos c6] at h
    refine a_aload_n hΓ 0 dX12_table_48 rfl rfl ?_
    refine a_iconst hΓ dX12_table_49 ?_
    obtain ⟨P7, q8, h⟩ := h
    refine n_callV (c := 102) (av := [aI (-1)]) (st := []) hΓ (ct_wX12_ends _ _ (-1) M4 P7 q8) my_X12_ends ml_RX12_106 ni_X12_ends kd_102 rfl lz_102 rfl (Nat.le_trans (by decide) hh) (by decide) (Nat.le_of_ble_eq_true rfl) rfl dX12_table_50 (fun v Z' hq => ?_)
    obtain ⟨r9, M10, rfl, rfl, hq⟩ := hq
    have h := h r9 M10 hq
    dsimp only at h
    exact a_iret hΓ hr dX12_table_53 ⟨_, _, rfl, rfl, h⟩
  · rw [if_neg c6] at h
    refine a_iload_n hΓ 2 dX12_table_9 rfl rfl ?_
    refine a_iconst hΓ dX12_table_10 ?_
    refine a_iload_n hΓ 1 dX12_table_11 rfl rfl ?_
    obtain ⟨g11, h⟩ := h
    refine a_if_ne (tgt := 19) hΓ g11 dX12_table_12 (by decide) (fun c12 => ?_) (fun c12 => ?_)
    · rw [if_pos c12] at h
      refine a_iconst hΓ dX12_table_15 ?_
      refine a_goto (tgt := 20) hΓ dX12_table_16 (by decide) ?_
      exact s_wX12_table_20 hΓ (Nat.le_trans (by decide) hh) hr  M4 h
    · rw [if_neg c12] at h
      refine a_iconst hΓ dX12_table_19 ?_
      exact s_wX12_table_20 hΓ (Nat.le_trans (by decide) hh) hr  M4 h
theorem ct_wX12_table (l : Launch) (g : Gp) (v1 : Int) (v2 : Int) (v3 : Int) (v4 : Int) (M : Mm) (Q : Int → Mm → Prop) (h : wX12_table v1 v2 v3 v4 M Q) : Ct l g yX12_table cX12_table 7 (some .int) 2 0 0 [aR 102, aI v1, aI v2, aI v3, aI v4] (NC, RF, M) (QI Q) :=
  ct_of (by decide) (Nat.le_of_ble_eq_true rfl) (fun Γ hg hl hr _ hΓ => by subst hg; subst hl; exact s_wX12_table hΓ (by decide) hr v1 v2 v3 v4 M h)
def wX12_ship (v1 : Int) (M : Mm) (Q : Int → Mm → Prop) : Prop :=
    Bd (wX12_in v1 0 1000 M) (fun r3 M4 =>
    (inR r3) ∧
    (if r3 = 0 then
      Bd (wX12_ends (-1) M4) (fun r9 M10 =>
      Q r9 M10)
    else
      Bd (wX12_many 0 M4) (fun r13 M14 =>
      (inR r13) ∧
      (if r13 = 3 then
        Bd (wX12_ends (-5) M14) (fun r19 M20 =>
        Q r19 M20)
      else
        Bd (wX12_many 0 M14) (fun r23 M24 =>
        (0 ≤ (0 + r23) ∧ (0 + r23) < 730) ∧
        Bd (wX12_many 0 (up (up M24 103 (0 + r23) v1) 103 721 (((up M24 103 (0 + r23) v1) 103 721) + 1))) (fun r28 M29 =>
        Bd (wX12_ends (r28 - 1) M29) (fun r32 M33 =>
        Q r32 M33)))))))
set_option maxHeartbeats 4000000 in
theorem s_wX12_ship {Γ : Cx} {h : Nat} (hΓ : Ok Γ cX12_ship RX12 2 h 0 0) (hh : 2 ≤ h) (hr : (cxm Γ).sig.returnType = (some .int)) {Q : Int → Mm → Prop} (v1 : Int) (M : Mm) (h : wX12_ship v1 M Q) : Wa Γ 2 (Kf Γ (QI Q) 0 0) 0 0 0 [(0, aR 102), (1, aI v1)] [] (NC, RF, M) := by
  unfold wX12_ship at h
  refine a_iload_n hΓ 1 dX12_ship_0 rfl rfl ?_
  refine a_iconst hΓ dX12_ship_1 ?_
  refine a_sipush hΓ dX12_ship_2 (by decide) ?_
  obtain ⟨P1, q2, h⟩ := h
  refine n_callS (av := [aI v1, aI 0, aI 1000]) (st := []) hΓ (ct_wX12_in _ _ v1 0 1000 M P1 q2) my_X12_in ml_RX12_3 rfl (Nat.le_trans (by decide) hh) (by decide) (Nat.le_of_ble_eq_true rfl) rfl dX12_ship_5 (fun v Z' hq => ?_)
  obtain ⟨r3, M4, rfl, rfl, hq⟩ := hq
  have h := h r3 M4 hq
  dsimp only at h
  obtain ⟨g5, h⟩ := h
  refine a_if_ne (tgt := 17) hΓ g5 dX12_ship_8 (by decide) (fun c6 => ?_) (fun c6 => ?_)
  · rw [if_pos c6] at h
    refine a_aload_n hΓ 0 dX12_ship_11 rfl rfl ?_
    refine a_iconst hΓ dX12_ship_12 ?_
    obtain ⟨P7, q8, h⟩ := h
    refine n_callV (c := 102) (av := [aI (-1)]) (st := []) hΓ (ct_wX12_ends _ _ (-1) M4 P7 q8) my_X12_ends ml_RX12_106 ni_X12_ends kd_102 rfl lz_102 rfl (Nat.le_trans (by decide) hh) (by decide) (Nat.le_of_ble_eq_true rfl) rfl dX12_ship_13 (fun v Z' hq => ?_)
    obtain ⟨r9, M10, rfl, rfl, hq⟩ := hq
    have h := h r9 M10 hq
    dsimp only at h
    exact a_iret hΓ hr dX12_ship_16 ⟨_, _, rfl, rfl, h⟩
  · rw [if_neg c6] at h
    refine a_aload_n hΓ 0 dX12_ship_17 rfl rfl ?_
    refine a_iconst hΓ dX12_ship_18 ?_
    obtain ⟨P11, q12, h⟩ := h
    refine n_callV (c := 102) (av := [aI 0]) (st := []) hΓ (ct_wX12_many _ _ 0 M4 P11 q12) my_X12_many ml_RX12_102 ni_X12_many kd_102 rfl lz_102 rfl (Nat.le_trans (by decide) hh) (by decide) (Nat.le_of_ble_eq_true rfl) rfl dX12_ship_19 (fun v Z' hq => ?_)
    obtain ⟨r13, M14, rfl, rfl, hq⟩ := hq
    have h := h r13 M14 hq
    dsimp only at h
    refine a_iconst hΓ dX12_ship_22 ?_
    obtain ⟨g15, h⟩ := h
    refine a_icmp_ne (tgt := 33) hΓ g15 (inRl (by decide)) dX12_ship_23 (by decide) (fun c16 => ?_) (fun c16 => ?_)
    · rw [if_pos c16] at h
      refine a_aload_n hΓ 0 dX12_ship_26 rfl rfl ?_
      refine a_bipush hΓ dX12_ship_27 (by decide) ?_
      obtain ⟨P17, q18, h⟩ := h
      refine n_callV (c := 102) (av := [aI (-5)]) (st := []) hΓ (ct_wX12_ends _ _ (-5) M14 P17 q18) my_X12_ends ml_RX12_106 ni_X12_ends kd_102 rfl lz_102 rfl (Nat.le_trans (by decide) hh) (by decide) (Nat.le_of_ble_eq_true rfl) rfl dX12_ship_29 (fun v Z' hq => ?_)
      obtain ⟨r19, M20, rfl, rfl, hq⟩ := hq
      have h := h r19 M20 hq
      dsimp only at h
      exact a_iret hΓ hr dX12_ship_32 ⟨_, _, rfl, rfl, h⟩
    · rw [if_neg c16] at h
      refine a_aload_n hΓ 0 dX12_ship_33 rfl rfl ?_
      refine n_getR hΓ fl_RX12_17 cl_12 kd_102 lz_102 dX12_ship_34 ft_12_1 rf_102_1 ?_
      refine a_iconst hΓ dX12_ship_37 ?_
      refine a_aload_n hΓ 0 dX12_ship_38 rfl rfl ?_
      refine a_iconst hΓ dX12_ship_39 ?_
      obtain ⟨P21, q22, h⟩ := h
      refine n_callV (c := 102) (av := [aI 0]) (st := [aI 0, aR 103]) hΓ (ct_wX12_many _ _ 0 M14 P21 q22) my_X12_many ml_RX12_102 ni_X12_many kd_102 rfl lz_102 rfl (Nat.le_trans (by decide) hh) (by decide) (Nat.le_of_ble_eq_true rfl) rfl dX12_ship_40 (fun v Z' hq => ?_)
      obtain ⟨r23, M24, rfl, rfl, hq⟩ := hq
      have h := h r23 M24 hq
      dsimp only at h
      refine a_iadd hΓ dX12_ship_43 ?_
      refine a_iload_n hΓ 1 dX12_ship_44 rfl rfl ?_
      obtain ⟨g25, h⟩ := h
      refine a_iast hΓ dX12_ship_45 kd_103 lz_103 g25 ?_
      refine a_aload_n hΓ 0 dX12_ship_46 rfl rfl ?_
      refine n_getR hΓ fl_RX12_17 cl_12 kd_102 lz_102 dX12_ship_47 ft_12_1 rf_102_1 ?_
      refine a_sipush hΓ dX12_ship_50 (by decide) ?_
      refine a_dup2 hΓ dX12_ship_53 ?_
      refine n_iald (x := ((up M24 103 (0 + r23) v1) 103 721)) hΓ dX12_ship_54 kd_103 lz_103 ⟨by decide, by decide⟩ rfl ?_
      refine a_iconst hΓ dX12_ship_55 ?_
      refine a_iadd hΓ dX12_ship_56 ?_
      refine a_iast hΓ dX12_ship_57 kd_103 lz_103 ⟨by decide, by decide⟩ ?_
      refine a_aload_n hΓ 0 dX12_ship_58 rfl rfl ?_
      refine a_aload_n hΓ 0 dX12_ship_59 rfl rfl ?_
      refine a_iconst hΓ dX12_ship_60 ?_
      obtain ⟨P26, q27, h⟩ := h
      refine n_callV (c := 102) (av := [aI 0]) (st := [aR 102]) hΓ (ct_wX12_many _ _ 0 (up (up M24 103 (0 + r23) v1) 103 721 (((up M24 103 (0 + r23) v1) 103 721) + 1)) P26 q27) my_X12_many ml_RX12_102 ni_X12_many kd_102 rfl lz_102 rfl (Nat.le_trans (by decide) hh) (by decide) (Nat.le_of_ble_eq_true rfl) rfl dX12_ship_61 (fun v Z' hq => ?_)
      obtain ⟨r28, M29, rfl, rfl, hq⟩ := hq
      have h := h r28 M29 hq
      dsimp only at h
      refine a_iconst hΓ dX12_ship_64 ?_
      refine a_isub hΓ dX12_ship_65 ?_
      obtain ⟨P30, q31, h⟩ := h
      refine n_callV (c := 102) (av := [aI (r28 - 1)]) (st := []) hΓ (ct_wX12_ends _ _ (r28 - 1) M29 P30 q31) my_X12_ends ml_RX12_106 ni_X12_ends kd_102 rfl lz_102 rfl (Nat.le_trans (by decide) hh) (by decide) (Nat.le_of_ble_eq_true rfl) rfl dX12_ship_66 (fun v Z' hq => ?_)
      obtain ⟨r32, M33, rfl, rfl, hq⟩ := hq
      have h := h r32 M33 hq
      dsimp only at h
      exact a_iret hΓ hr dX12_ship_69 ⟨_, _, rfl, rfl, h⟩
theorem ct_wX12_ship (l : Launch) (g : Gp) (v1 : Int) (M : Mm) (Q : Int → Mm → Prop) (h : wX12_ship v1 M Q) : Ct l g yX12_ship cX12_ship 2 (some .int) 2 0 0 [aR 102, aI v1] (NC, RF, M) (QI Q) :=
  ct_of (by decide) (Nat.le_of_ble_eq_true rfl) (fun Γ hg hl hr _ hΓ => by subst hg; subst hl; exact s_wX12_ship hΓ (by decide) hr v1 M h)
def wX12_leg (v1 : Int) (v2 : Int) (v3 : Int) (v4 : Int) (v5 : Int) (v6 : Int) (M : Mm) (Q : Int → Mm → Prop) : Prop :=
    Bd (wX12_isDay v2 M) (fun r3 M4 =>
    (inR r3) ∧
    (if r3 = 0 then
      Bd (wX12_ends (-1) M4) (fun r9 M10 =>
      Q r9 M10)
    else
      Bd (wX12_in v3 0 5 M4) (fun r13 M14 =>
      (inR r13) ∧
      (if r13 = 0 then
        Bd (wX12_ends (-1) M14) (fun r19 M20 =>
        Q r19 M20)
      else
        Bd (wX12_in v4 0 30 M14) (fun r23 M24 =>
        (inR r23) ∧
        (if r23 = 0 then
          Bd (wX12_ends (-1) M24) (fun r29 M30 =>
          Q r29 M30)
        else
          Bd (wX12_in v5 0 20 M24) (fun r33 M34 =>
          (inR r33) ∧
          (if r33 = 0 then
            Bd (wX12_ends (-1) M34) (fun r39 M40 =>
            Q r39 M40)
          else
            Bd (wX12_in v6 0 100 M34) (fun r43 M44 =>
            (inR r43) ∧
            (if r43 = 0 then
              Bd (wX12_ends (-1) M44) (fun r49 M50 =>
              Q r49 M50)
            else
              Bd (wX12_isShip v1 M44) (fun r53 M54 =>
              (inR r53) ∧
              (if r53 = 0 then
                Bd (wX12_ends (-2) M54) (fun r59 M60 =>
                Q r59 M60)
              else
                Bd (wX12_many 1 M54) (fun r63 M64 =>
                (inR r63) ∧
                (if r63 = 60 then
                  Bd (wX12_ends (-5) M64) (fun r69 M70 =>
                  Q r69 M70)
                else
                  Bd (wX12_many 1 M64) (fun r73 M74 =>
                  (0 ≤ (23 + (6 * r73)) ∧ (23 + (6 * r73)) < 730) ∧
                  (0 ≤ ((23 + (6 * r73)) + 1) ∧ ((23 + (6 * r73)) + 1) < 730) ∧
                  (0 ≤ ((23 + (6 * r73)) + 2) ∧ ((23 + (6 * r73)) + 2) < 730) ∧
                  (0 ≤ ((23 + (6 * r73)) + 3) ∧ ((23 + (6 * r73)) + 3) < 730) ∧
                  (0 ≤ ((23 + (6 * r73)) + 4) ∧ ((23 + (6 * r73)) + 4) < 730) ∧
                  (0 ≤ ((23 + (6 * r73)) + 5) ∧ ((23 + (6 * r73)) + 5) < 730) ∧
                  Bd (wX12_many 1 (up (up (up (up (up (up (up M74 103 (23 + (6 * r73)) v1) 103 ((23 + (6 * r73)) + 1) v2) 103 ((23 + (6 * r73)) + 2) v3) 103 ((23 + (6 * r73)) + 3) v4) 103 ((23 + (6 * r73)) + 4) v5) 103 ((23 + (6 * r73)) + 5) v6) 103 722 (((up (up (up (up (up (up M74 103 (23 + (6 * r73)) v1) 103 ((23 + (6 * r73)) + 1) v2) 103 ((23 + (6 * r73)) + 2) v3) 103 ((23 + (6 * r73)) + 3) v4) 103 ((23 + (6 * r73)) + 4) v5) 103 ((23 + (6 * r73)) + 5) v6) 103 722) + 1))) (fun r83 M84 =>
                  Bd (wX12_ends r83 M84) (fun r87 M88 =>
                  Q r87 M88)))))))))))))))))
set_option maxHeartbeats 4000000 in
theorem s_wX12_leg {Γ : Cx} {h : Nat} (hΓ : Ok Γ cX12_leg RX12 8 h 0 0) (hh : 3 ≤ h) (hr : (cxm Γ).sig.returnType = (some .int)) {Q : Int → Mm → Prop} (v1 : Int) (v2 : Int) (v3 : Int) (v4 : Int) (v5 : Int) (v6 : Int) (M : Mm) (h : wX12_leg v1 v2 v3 v4 v5 v6 M Q) : Wa Γ 8 (Kf Γ (QI Q) 0 0) 0 0 0 [(0, aR 102), (1, aI v1), (2, aI v2), (3, aI v3), (4, aI v4), (5, aI v5), (6, aI v6)] [] (NC, RF, M) := by
  unfold wX12_leg at h
  refine a_iload_n hΓ 2 dX12_leg_0 rfl rfl ?_
  obtain ⟨P1, q2, h⟩ := h
  refine n_callS (av := [aI v2]) (st := []) hΓ (ct_wX12_isDay _ _ v2 M P1 q2) my_X12_isDay ml_RX12_109 rfl (Nat.le_trans (by decide) hh) (by decide) (Nat.le_of_ble_eq_true rfl) rfl dX12_leg_1 (fun v Z' hq => ?_)
  obtain ⟨r3, M4, rfl, rfl, hq⟩ := hq
  have h := h r3 M4 hq
  dsimp only at h
  obtain ⟨g5, h⟩ := h
  refine a_if_eq (tgt := 49) hΓ g5 dX12_leg_4 (by decide) (fun c6 => ?_) (fun c6 => ?_)
  · rw [if_pos c6] at h
    refine a_aload_n hΓ 0 dX12_leg_49 rfl rfl ?_
    refine a_iconst hΓ dX12_leg_50 ?_
    obtain ⟨P7, q8, h⟩ := h
    refine n_callV (c := 102) (av := [aI (-1)]) (st := []) hΓ (ct_wX12_ends _ _ (-1) M4 P7 q8) my_X12_ends ml_RX12_106 ni_X12_ends kd_102 rfl lz_102 rfl (Nat.le_trans (by decide) hh) (by decide) (Nat.le_of_ble_eq_true rfl) rfl dX12_leg_51 (fun v Z' hq => ?_)
    obtain ⟨r9, M10, rfl, rfl, hq⟩ := hq
    have h := h r9 M10 hq
    dsimp only at h
    exact a_iret hΓ hr dX12_leg_54 ⟨_, _, rfl, rfl, h⟩
  · rw [if_neg c6] at h
    refine a_iload_n hΓ 3 dX12_leg_7 rfl rfl ?_
    refine a_iconst hΓ dX12_leg_8 ?_
    refine a_iconst hΓ dX12_leg_9 ?_
    obtain ⟨P11, q12, h⟩ := h
    refine n_callS (av := [aI v3, aI 0, aI 5]) (st := []) hΓ (ct_wX12_in _ _ v3 0 5 M4 P11 q12) my_X12_in ml_RX12_3 rfl (Nat.le_trans (by decide) hh) (by decide) (Nat.le_of_ble_eq_true rfl) rfl dX12_leg_10 (fun v Z' hq => ?_)
    obtain ⟨r13, M14, rfl, rfl, hq⟩ := hq
    have h := h r13 M14 hq
    dsimp only at h
    obtain ⟨g15, h⟩ := h
    refine a_if_eq (tgt := 49) hΓ g15 dX12_leg_13 (by decide) (fun c16 => ?_) (fun c16 => ?_)
    · rw [if_pos c16] at h
      refine a_aload_n hΓ 0 dX12_leg_49 rfl rfl ?_
      refine a_iconst hΓ dX12_leg_50 ?_
      obtain ⟨P17, q18, h⟩ := h
      refine n_callV (c := 102) (av := [aI (-1)]) (st := []) hΓ (ct_wX12_ends _ _ (-1) M14 P17 q18) my_X12_ends ml_RX12_106 ni_X12_ends kd_102 rfl lz_102 rfl (Nat.le_trans (by decide) hh) (by decide) (Nat.le_of_ble_eq_true rfl) rfl dX12_leg_51 (fun v Z' hq => ?_)
      obtain ⟨r19, M20, rfl, rfl, hq⟩ := hq
      have h := h r19 M20 hq
      dsimp only at h
      exact a_iret hΓ hr dX12_leg_54 ⟨_, _, rfl, rfl, h⟩
    · rw [if_neg c16] at h
      refine a_iload hΓ 4 dX12_leg_16 rfl ?_
      refine a_iconst hΓ dX12_leg_18 ?_
      refine a_bipush hΓ dX12_leg_19 (by decide) ?_
      obtain ⟨P21, q22, h⟩ := h
      refine n_callS (av := [aI v4, aI 0, aI 30]) (st := []) hΓ (ct_wX12_in _ _ v4 0 30 M14 P21 q22) my_X12_in ml_RX12_3 rfl (Nat.le_trans (by decide) hh) (by decide) (Nat.le_of_ble_eq_true rfl) rfl dX12_leg_21 (fun v Z' hq => ?_)
      obtain ⟨r23, M24, rfl, rfl, hq⟩ := hq
      have h := h r23 M24 hq
      dsimp only at h
      obtain ⟨g25, h⟩ := h
      refine a_if_eq (tgt := 49) hΓ g25 dX12_leg_24 (by decide) (fun c26 => ?_) (fun c26 => ?_)
      · rw [if_pos c26] at h
        refine a_aload_n hΓ 0 dX12_leg_49 rfl rfl ?_
        refine a_iconst hΓ dX12_leg_50 ?_
        obtain ⟨P27, q28, h⟩ := h
        refine n_callV (c := 102) (av := [aI (-1)]) (st := []) hΓ (ct_wX12_ends _ _ (-1) M24 P27 q28) my_X12_ends ml_RX12_106 ni_X12_ends kd_102 rfl lz_102 rfl (Nat.le_trans (by decide) hh) (by decide) (Nat.le_of_ble_eq_true rfl) rfl dX12_leg_51 (fun v Z' hq => ?_)
        obtain ⟨r29, M30, rfl, rfl, hq⟩ := hq
        have h := h r29 M30 hq
        dsimp only at h
        exact a_iret hΓ hr dX12_leg_54 ⟨_, _, rfl, rfl, h⟩
      · rw [if_neg c26] at h
        refine a_iload hΓ 5 dX12_leg_27 rfl ?_
        refine a_iconst hΓ dX12_leg_29 ?_
        refine a_bipush hΓ dX12_leg_30 (by decide) ?_
        obtain ⟨P31, q32, h⟩ := h
        refine n_callS (av := [aI v5, aI 0, aI 20]) (st := []) hΓ (ct_wX12_in _ _ v5 0 20 M24 P31 q32) my_X12_in ml_RX12_3 rfl (Nat.le_trans (by decide) hh) (by decide) (Nat.le_of_ble_eq_true rfl) rfl dX12_leg_32 (fun v Z' hq => ?_)
        obtain ⟨r33, M34, rfl, rfl, hq⟩ := hq
        have h := h r33 M34 hq
        dsimp only at h
        obtain ⟨g35, h⟩ := h
        refine a_if_eq (tgt := 49) hΓ g35 dX12_leg_35 (by decide) (fun c36 => ?_) (fun c36 => ?_)
        · rw [if_pos c36] at h
          refine a_aload_n hΓ 0 dX12_leg_49 rfl rfl ?_
          refine a_iconst hΓ dX12_leg_50 ?_
          obtain ⟨P37, q38, h⟩ := h
          refine n_callV (c := 102) (av := [aI (-1)]) (st := []) hΓ (ct_wX12_ends _ _ (-1) M34 P37 q38) my_X12_ends ml_RX12_106 ni_X12_ends kd_102 rfl lz_102 rfl (Nat.le_trans (by decide) hh) (by decide) (Nat.le_of_ble_eq_true rfl) rfl dX12_leg_51 (fun v Z' hq => ?_)
          obtain ⟨r39, M40, rfl, rfl, hq⟩ := hq
          have h := h r39 M40 hq
          dsimp only at h
          exact a_iret hΓ hr dX12_leg_54 ⟨_, _, rfl, rfl, h⟩
        · rw [if_neg c36] at h
          refine a_iload hΓ 6 dX12_leg_38 rfl ?_
          refine a_iconst hΓ dX12_leg_40 ?_
          refine a_bipush hΓ dX12_leg_41 (by decide) ?_
          obtain ⟨P41, q42, h⟩ := h
          refine n_callS (av := [aI v6, aI 0, aI 100]) (st := []) hΓ (ct_wX12_in _ _ v6 0 100 M34 P41 q42) my_X12_in ml_RX12_3 rfl (Nat.le_trans (by decide) hh) (by decide) (Nat.le_of_ble_eq_true rfl) rfl dX12_leg_43 (fun v Z' hq => ?_)
          obtain ⟨r43, M44, rfl, rfl, hq⟩ := hq
          have h := h r43 M44 hq
          dsimp only at h
          obtain ⟨g45, h⟩ := h
          refine a_if_ne (tgt := 55) hΓ g45 dX12_leg_46 (by decide) (fun c46 => ?_) (fun c46 => ?_)
          · rw [if_pos c46] at h
            refine a_aload_n hΓ 0 dX12_leg_49 rfl rfl ?_
            refine a_iconst hΓ dX12_leg_50 ?_
            obtain ⟨P47, q48, h⟩ := h
            refine n_callV (c := 102) (av := [aI (-1)]) (st := []) hΓ (ct_wX12_ends _ _ (-1) M44 P47 q48) my_X12_ends ml_RX12_106 ni_X12_ends kd_102 rfl lz_102 rfl (Nat.le_trans (by decide) hh) (by decide) (Nat.le_of_ble_eq_true rfl) rfl dX12_leg_51 (fun v Z' hq => ?_)
            obtain ⟨r49, M50, rfl, rfl, hq⟩ := hq
            have h := h r49 M50 hq
            dsimp only at h
            exact a_iret hΓ hr dX12_leg_54 ⟨_, _, rfl, rfl, h⟩
          · rw [if_neg c46] at h
            refine a_aload_n hΓ 0 dX12_leg_55 rfl rfl ?_
            refine a_iload_n hΓ 1 dX12_leg_56 rfl rfl ?_
            obtain ⟨P51, q52, h⟩ := h
            refine n_callV (c := 102) (av := [aI v1]) (st := []) hΓ (ct_wX12_isShip _ _ v1 M44 P51 q52) my_X12_isShip ml_RX12_113 ni_X12_isShip kd_102 rfl lz_102 rfl (Nat.le_trans (by decide) hh) (by decide) (Nat.le_of_ble_eq_true rfl) rfl dX12_leg_57 (fun v Z' hq => ?_)
            obtain ⟨r53, M54, rfl, rfl, hq⟩ := hq
            have h := h r53 M54 hq
            dsimp only at h
            obtain ⟨g55, h⟩ := h
            refine a_if_ne (tgt := 70) hΓ g55 dX12_leg_60 (by decide) (fun c56 => ?_) (fun c56 => ?_)
            · rw [if_pos c56] at h
              refine a_aload_n hΓ 0 dX12_leg_63 rfl rfl ?_
              refine a_bipush hΓ dX12_leg_64 (by decide) ?_
              obtain ⟨P57, q58, h⟩ := h
              refine n_callV (c := 102) (av := [aI (-2)]) (st := []) hΓ (ct_wX12_ends _ _ (-2) M54 P57 q58) my_X12_ends ml_RX12_106 ni_X12_ends kd_102 rfl lz_102 rfl (Nat.le_trans (by decide) hh) (by decide) (Nat.le_of_ble_eq_true rfl) rfl dX12_leg_66 (fun v Z' hq => ?_)
              obtain ⟨r59, M60, rfl, rfl, hq⟩ := hq
              have h := h r59 M60 hq
              dsimp only at h
              exact a_iret hΓ hr dX12_leg_69 ⟨_, _, rfl, rfl, h⟩
            · rw [if_neg c56] at h
              refine a_aload_n hΓ 0 dX12_leg_70 rfl rfl ?_
              refine a_iconst hΓ dX12_leg_71 ?_
              obtain ⟨P61, q62, h⟩ := h
              refine n_callV (c := 102) (av := [aI 1]) (st := []) hΓ (ct_wX12_many _ _ 1 M54 P61 q62) my_X12_many ml_RX12_102 ni_X12_many kd_102 rfl lz_102 rfl (Nat.le_trans (by decide) hh) (by decide) (Nat.le_of_ble_eq_true rfl) rfl dX12_leg_72 (fun v Z' hq => ?_)
              obtain ⟨r63, M64, rfl, rfl, hq⟩ := hq
              have h := h r63 M64 hq
              dsimp only at h
              refine a_bipush hΓ dX12_leg_75 (by decide) ?_
              obtain ⟨g65, h⟩ := h
              refine a_icmp_ne (tgt := 87) hΓ g65 (inRl (by decide)) dX12_leg_77 (by decide) (fun c66 => ?_) (fun c66 => ?_)
              · rw [if_pos c66] at h
                refine a_aload_n hΓ 0 dX12_leg_80 rfl rfl ?_
                refine a_bipush hΓ dX12_leg_81 (by decide) ?_
                obtain ⟨P67, q68, h⟩ := h
                refine n_callV (c := 102) (av := [aI (-5)]) (st := []) hΓ (ct_wX12_ends _ _ (-5) M64 P67 q68) my_X12_ends ml_RX12_106 ni_X12_ends kd_102 rfl lz_102 rfl (Nat.le_trans (by decide) hh) (by decide) (Nat.le_of_ble_eq_true rfl) rfl dX12_leg_83 (fun v Z' hq => ?_)
                obtain ⟨r69, M70, rfl, rfl, hq⟩ := hq
                have h := h r69 M70 hq
                dsimp only at h
                exact a_iret hΓ hr dX12_leg_86 ⟨_, _, rfl, rfl, h⟩
              · rw [if_neg c66] at h
                refine a_bipush hΓ dX12_leg_87 (by decide) ?_
                refine a_bipush hΓ dX12_leg_89 (by decide) ?_
                refine a_aload_n hΓ 0 dX12_leg_91 rfl rfl ?_
                refine a_iconst hΓ dX12_leg_92 ?_
                obtain ⟨P71, q72, h⟩ := h
                refine n_callV (c := 102) (av := [aI 1]) (st := [aI 6, aI 23]) hΓ (ct_wX12_many _ _ 1 M64 P71 q72) my_X12_many ml_RX12_102 ni_X12_many kd_102 rfl lz_102 rfl (Nat.le_trans (by decide) hh) (by decide) (Nat.le_of_ble_eq_true rfl) rfl dX12_leg_93 (fun v Z' hq => ?_)
                obtain ⟨r73, M74, rfl, rfl, hq⟩ := hq
                have h := h r73 M74 hq
                dsimp only at h
                refine a_imul hΓ dX12_leg_96 ?_
                refine a_iadd hΓ dX12_leg_97 ?_
                refine a_istore (ls' := [(7, aI (23 + (6 * r73))), (0, aR 102), (1, aI v1), (2, aI v2), (3, aI v3), (4, aI v4), (5, aI v5), (6, aI v6)]) hΓ dX12_leg_98 (by decide) rfl ?_
                refine a_aload_n hΓ 1 dX12_leg_100 rfl rfl ?_
                refine n_getR hΓ fl_RX12_17 cl_12 kd_102 lz_102 dX12_leg_101 ft_12_1 rf_102_1 ?_
                refine a_iload hΓ 0 dX12_leg_104 rfl ?_
                refine a_iload_n hΓ 2 dX12_leg_106 rfl rfl ?_
                obtain ⟨g75, h⟩ := h
                refine a_iast hΓ dX12_leg_107 kd_103 lz_103 g75 ?_
                refine a_aload_n hΓ 1 dX12_leg_108 rfl rfl ?_
                refine n_getR hΓ fl_RX12_17 cl_12 kd_102 lz_102 dX12_leg_109 ft_12_1 rf_102_1 ?_
                refine a_iload hΓ 0 dX12_leg_112 rfl ?_
                refine a_iconst hΓ dX12_leg_114 ?_
                refine a_iadd hΓ dX12_leg_115 ?_
                refine a_iload_n hΓ 3 dX12_leg_116 rfl rfl ?_
                obtain ⟨g76, h⟩ := h
                refine a_iast hΓ dX12_leg_117 kd_103 lz_103 g76 ?_
                refine a_aload_n hΓ 1 dX12_leg_118 rfl rfl ?_
                refine n_getR hΓ fl_RX12_17 cl_12 kd_102 lz_102 dX12_leg_119 ft_12_1 rf_102_1 ?_
                refine a_iload hΓ 0 dX12_leg_122 rfl ?_
                refine a_iconst hΓ dX12_leg_124 ?_
                refine a_iadd hΓ dX12_leg_125 ?_
                refine a_iload_n hΓ 4 dX12_leg_126 rfl rfl ?_
                obtain ⟨g77, h⟩ := h
                refine a_iast hΓ dX12_leg_127 kd_103 lz_103 g77 ?_
                refine a_aload_n hΓ 1 dX12_leg_128 rfl rfl ?_
                refine n_getR hΓ fl_RX12_17 cl_12 kd_102 lz_102 dX12_leg_129 ft_12_1 rf_102_1 ?_
                refine a_iload hΓ 0 dX12_leg_132 rfl ?_
                refine a_iconst hΓ dX12_leg_134 ?_
                refine a_iadd hΓ dX12_leg_135 ?_
                refine a_iload hΓ 5 dX12_leg_136 rfl ?_
                obtain ⟨g78, h⟩ := h
                refine a_iast hΓ dX12_leg_138 kd_103 lz_103 g78 ?_
                refine a_aload_n hΓ 1 dX12_leg_139 rfl rfl ?_
                refine n_getR hΓ fl_RX12_17 cl_12 kd_102 lz_102 dX12_leg_140 ft_12_1 rf_102_1 ?_
                refine a_iload hΓ 0 dX12_leg_143 rfl ?_
                refine a_iconst hΓ dX12_leg_145 ?_
                refine a_iadd hΓ dX12_leg_146 ?_
                refine a_iload hΓ 6 dX12_leg_147 rfl ?_
                obtain ⟨g79, h⟩ := h
                refine a_iast hΓ dX12_leg_149 kd_103 lz_103 g79 ?_
                refine a_aload_n hΓ 1 dX12_leg_150 rfl rfl ?_
                refine n_getR hΓ fl_RX12_17 cl_12 kd_102 lz_102 dX12_leg_151 ft_12_1 rf_102_1 ?_
                refine a_iload hΓ 0 dX12_leg_154 rfl ?_
                refine a_iconst hΓ dX12_leg_156 ?_
                refine a_iadd hΓ dX12_leg_157 ?_
                refine a_iload hΓ 7 dX12_leg_158 rfl ?_
                obtain ⟨g80, h⟩ := h
                refine a_iast hΓ dX12_leg_160 kd_103 lz_103 g80 ?_
                refine a_aload_n hΓ 1 dX12_leg_161 rfl rfl ?_
                refine n_getR hΓ fl_RX12_17 cl_12 kd_102 lz_102 dX12_leg_162 ft_12_1 rf_102_1 ?_
                refine a_sipush hΓ dX12_leg_165 (by decide) ?_
                refine a_dup2 hΓ dX12_leg_168 ?_
                refine n_iald (x := ((up (up (up (up (up (up M74 103 (23 + (6 * r73)) v1) 103 ((23 + (6 * r73)) + 1) v2) 103 ((23 + (6 * r73)) + 2) v3) 103 ((23 + (6 * r73)) + 3) v4) 103 ((23 + (6 * r73)) + 4) v5) 103 ((23 + (6 * r73)) + 5) v6) 103 722)) hΓ dX12_leg_169 kd_103 lz_103 ⟨by decide, by decide⟩ rfl ?_
                refine a_iconst hΓ dX12_leg_170 ?_
                refine a_iadd hΓ dX12_leg_171 ?_
                refine a_iast hΓ dX12_leg_172 kd_103 lz_103 ⟨by decide, by decide⟩ ?_
                refine a_aload_n hΓ 1 dX12_leg_173 rfl rfl ?_
                refine a_aload_n hΓ 1 dX12_leg_174 rfl rfl ?_
                refine a_iconst hΓ dX12_leg_175 ?_
                obtain ⟨P81, q82, h⟩ := h
                refine n_callV (c := 102) (av := [aI 1]) (st := [aR 102]) hΓ (ct_wX12_many _ _ 1 (up (up (up (up (up (up (up M74 103 (23 + (6 * r73)) v1) 103 ((23 + (6 * r73)) + 1) v2) 103 ((23 + (6 * r73)) + 2) v3) 103 ((23 + (6 * r73)) + 3) v4) 103 ((23 + (6 * r73)) + 4) v5) 103 ((23 + (6 * r73)) + 5) v6) 103 722 (((up (up (up (up (up (up M74 103 (23 + (6 * r73)) v1) 103 ((23 + (6 * r73)) + 1) v2) 103 ((23 + (6 * r73)) + 2) v3) 103 ((23 + (6 * r73)) + 3) v4) 103 ((23 + (6 * r73)) + 4) v5) 103 ((23 + (6 * r73)) + 5) v6) 103 722) + 1)) P81 q82) my_X12_many ml_RX12_102 ni_X12_many kd_102 rfl lz_102 rfl (Nat.le_trans (by decide) hh) (by decide) (Nat.le_of_ble_eq_true rfl) rfl dX12_leg_176 (fun v Z' hq => ?_)
                obtain ⟨r83, M84, rfl, rfl, hq⟩ := hq
                have h := h r83 M84 hq
                dsimp only at h
                obtain ⟨P85, q86, h⟩ := h
                refine n_callV (c := 102) (av := [aI r83]) (st := []) hΓ (ct_wX12_ends _ _ r83 M84 P85 q86) my_X12_ends ml_RX12_106 ni_X12_ends kd_102 rfl lz_102 rfl (Nat.le_trans (by decide) hh) (by decide) (Nat.le_of_ble_eq_true rfl) rfl dX12_leg_179 (fun v Z' hq => ?_)
                obtain ⟨r87, M88, rfl, rfl, hq⟩ := hq
                have h := h r87 M88 hq
                dsimp only at h
                exact a_iret hΓ hr dX12_leg_182 ⟨_, _, rfl, rfl, h⟩
theorem ct_wX12_leg (l : Launch) (g : Gp) (v1 : Int) (v2 : Int) (v3 : Int) (v4 : Int) (v5 : Int) (v6 : Int) (M : Mm) (Q : Int → Mm → Prop) (h : wX12_leg v1 v2 v3 v4 v5 v6 M Q) : Ct l g yX12_leg cX12_leg 8 (some .int) 3 0 0 [aR 102, aI v1, aI v2, aI v3, aI v4, aI v5, aI v6] (NC, RF, M) (QI Q) :=
  ct_of (by decide) (Nat.le_of_ble_eq_true rfl) (fun Γ hg hl hr _ hΓ => by subst hg; subst hl; exact s_wX12_leg hΓ (by decide) hr v1 v2 v3 v4 v5 v6 M h)
def wX12_leftOn_31 (Q : Int → Mm → Prop) (v3 : Int) (M : Mm) : Prop :=
    Bd (wX12_clean v3 2 M) (fun r3 M4 =>
    Q r3 M4)
set_option maxHeartbeats 4000000 in
theorem s_wX12_leftOn_31 {Γ : Cx} {h : Nat} (hΓ : Ok Γ cX12_leftOn RX12 4 h 0 0) (hh : 2 ≤ h) (hr : (cxm Γ).sig.returnType = (some .int)) {Q : Int → Mm → Prop} {v3 : Int}   (M : Mm) (h : wX12_leftOn_31 Q v3 M) : Wa Γ 4 (Kf Γ (QI Q) 0 0) 0 0 31 [(0, aR 102), (3, aI v3)] [] (NC, RF, M) := by
  unfold wX12_leftOn_31 at h
  refine a_aload_n hΓ 0 dX12_leftOn_31 rfl rfl ?_
  refine a_iload_n hΓ 1 dX12_leftOn_32 rfl rfl ?_
  refine a_iconst hΓ dX12_leftOn_33 ?_
  obtain ⟨P1, q2, h⟩ := h
  refine n_callV (c := 102) (av := [aI v3, aI 2]) (st := []) hΓ (ct_wX12_clean _ _ v3 2 M P1 q2) my_X12_clean ml_RX12_127 ni_X12_clean kd_102 rfl lz_102 rfl (Nat.le_trans (by decide) hh) (by decide) (Nat.le_of_ble_eq_true rfl) rfl dX12_leftOn_34 (fun v Z' hq => ?_)
  obtain ⟨r3, M4, rfl, rfl, hq⟩ := hq
  have h := h r3 M4 hq
  dsimp only at h
  exact a_iret hΓ hr dX12_leftOn_37 ⟨_, _, rfl, rfl, h⟩
def wX12_leftOn_2 (Q : Int → Mm → Prop) (v1 : Int) (v2 : Int) : Nat → Int → Mm → Prop
  | 0, _, _ => False
  | f + 1, v3, M => Bd (wX12_many 2 M) (fun r3 M4 =>
    (inR v3) ∧
    (inR r3) ∧
    (if v3 < r3 then
      Bd (wX12_clean v3 0 M4) (fun r10 M11 =>
      (inR r10) ∧
      (inR v1) ∧
      (if r10 = v1 then
        Bd (wX12_clean v3 1 M11) (fun r17 M18 =>
        (inR r17) ∧
        (inR v2) ∧
        (if r17 = v2 then
          wX12_leftOn_31 Q v3 M18
        else
          (wX12_leftOn_2 Q v1 v2 f) (v3 + 1) M18))
      else
        (wX12_leftOn_2 Q v1 v2 f) (v3 + 1) M11))
    else
      Q (-1) M4))
set_option maxHeartbeats 4000000 in
theorem s_wX12_leftOn_2 {Γ : Cx} {h : Nat} (hΓ : Ok Γ cX12_leftOn RX12 4 h 0 0) (hh : 2 ≤ h) (hr : (cxm Γ).sig.returnType = (some .int)) {Q : Int → Mm → Prop} {v1 v2 : Int}   : ∀ (f : Nat) (v3 : Int) (M : Mm), wX12_leftOn_2 Q v1 v2 f v3 M → Wa Γ 4 (Kf Γ (QI Q) 0 0) 0 0 2 [(0, aR 102), (1, aI v1), (2, aI v2), (3, aI v3)] [] (NC, RF, M) := by
  intro f
  induction f with
  | zero => intro v3 M h; exact h.elim
  | succ f ih =>
    intro v3 M h
    unfold wX12_leftOn_2 at h
    refine a_iload_n hΓ 3 dX12_leftOn_2 rfl rfl ?_
    refine a_aload_n hΓ 0 dX12_leftOn_3 rfl rfl ?_
    refine a_iconst hΓ dX12_leftOn_4 ?_
    obtain ⟨P1, q2, h⟩ := h
    refine n_callV (c := 102) (av := [aI 2]) (st := [aI v3]) hΓ (ct_wX12_many _ _ 2 M P1 q2) my_X12_many ml_RX12_102 ni_X12_many kd_102 rfl lz_102 rfl (Nat.le_trans (by decide) hh) (by decide) (Nat.le_of_ble_eq_true rfl) rfl dX12_leftOn_5 (fun v Z' hq => ?_)
    obtain ⟨r3, M4, rfl, rfl, hq⟩ := hq
    have h := h r3 M4 hq
    dsimp only at h
    obtain ⟨g5, h⟩ := h
    obtain ⟨g6, h⟩ := h
    refine a_icmp_ge (tgt := 44) hΓ g5 g6 dX12_leftOn_8 (by decide) (fun c7 => ?_) (fun c7 => ?_)
    · rw [if_pos c7] at h
      refine a_aload_n hΓ 0 dX12_leftOn_11 rfl rfl ?_
      refine a_iload_n hΓ 3 dX12_leftOn_12 rfl rfl ?_
      refine a_iconst hΓ dX12_leftOn_13 ?_
      obtain ⟨P8, q9, h⟩ := h
      refine n_callV (c := 102) (av := [aI v3, aI 0]) (st := []) hΓ (ct_wX12_clean _ _ v3 0 M4 P8 q9) my_X12_clean ml_RX12_127 ni_X12_clean kd_102 rfl lz_102 rfl (Nat.le_trans (by decide) hh) (by decide) (Nat.le_of_ble_eq_true rfl) rfl dX12_leftOn_14 (fun v Z' hq => ?_)
      obtain ⟨r10, M11, rfl, rfl, hq⟩ := hq
      have h := h r10 M11 hq
      dsimp only at h
      refine a_iload_n hΓ 1 dX12_leftOn_17 rfl rfl ?_
      obtain ⟨g12, h⟩ := h
      obtain ⟨g13, h⟩ := h
      refine a_icmp_ne (tgt := 38) hΓ g12 g13 dX12_leftOn_18 (by decide) (fun c14 => ?_) (fun c14 => ?_)
      · rw [if_pos c14] at h
        refine a_aload_n hΓ 0 dX12_leftOn_21 rfl rfl ?_
        refine a_iload_n hΓ 3 dX12_leftOn_22 rfl rfl ?_
        refine a_iconst hΓ dX12_leftOn_23 ?_
        obtain ⟨P15, q16, h⟩ := h
        refine n_callV (c := 102) (av := [aI v3, aI 1]) (st := []) hΓ (ct_wX12_clean _ _ v3 1 M11 P15 q16) my_X12_clean ml_RX12_127 ni_X12_clean kd_102 rfl lz_102 rfl (Nat.le_trans (by decide) hh) (by decide) (Nat.le_of_ble_eq_true rfl) rfl dX12_leftOn_24 (fun v Z' hq => ?_)
        obtain ⟨r17, M18, rfl, rfl, hq⟩ := hq
        have h := h r17 M18 hq
        dsimp only at h
        refine a_iload_n hΓ 2 dX12_leftOn_27 rfl rfl ?_
        obtain ⟨g19, h⟩ := h
        obtain ⟨g20, h⟩ := h
        refine a_icmp_ne (tgt := 38) hΓ g19 g20 dX12_leftOn_28 (by decide) (fun c21 => ?_) (fun c21 => ?_)
        · rw [if_pos c21] at h
          refine a_sub (ls' := [(0, aR 102), (3, aI v3)]) [0, 3] rfl ?_
          exact s_wX12_leftOn_31 hΓ (Nat.le_trans (by decide) hh) hr  M18 h
        · rw [if_neg c21] at h
          refine a_iinc (ls' := [(3, aI (v3 + 1)), (0, aR 102), (1, aI v1), (2, aI v2)]) hΓ 3 dX12_leftOn_38 rfl (by decide) rfl ?_
          refine a_goto (tgt := 2) hΓ dX12_leftOn_41 (by decide) ?_
          refine a_sub (ls' := [(0, aR 102), (1, aI v1), (2, aI v2), (3, aI (v3 + 1))]) [1, 2, 3, 0] rfl ?_
          exact ih (v3 + 1) M18 h
      · rw [if_neg c14] at h
        refine a_iinc (ls' := [(3, aI (v3 + 1)), (0, aR 102), (1, aI v1), (2, aI v2)]) hΓ 3 dX12_leftOn_38 rfl (by decide) rfl ?_
        refine a_goto (tgt := 2) hΓ dX12_leftOn_41 (by decide) ?_
        refine a_sub (ls' := [(0, aR 102), (1, aI v1), (2, aI v2), (3, aI (v3 + 1))]) [1, 2, 3, 0] rfl ?_
        exact ih (v3 + 1) M11 h
    · rw [if_neg c7] at h
      refine a_iconst hΓ dX12_leftOn_44 ?_
      exact a_iret hΓ hr dX12_leftOn_45 ⟨_, _, rfl, rfl, h⟩
def wX12_leftOn (v1 : Int) (v2 : Int) (M : Mm) (Q : Int → Mm → Prop) : Prop :=
    ∃ n, wX12_leftOn_2 Q v1 v2 n 0 M
set_option maxHeartbeats 4000000 in
theorem s_wX12_leftOn {Γ : Cx} {h : Nat} (hΓ : Ok Γ cX12_leftOn RX12 4 h 0 0) (hh : 2 ≤ h) (hr : (cxm Γ).sig.returnType = (some .int)) {Q : Int → Mm → Prop} (v1 : Int) (v2 : Int) (M : Mm) (h : wX12_leftOn v1 v2 M Q) : Wa Γ 4 (Kf Γ (QI Q) 0 0) 0 0 0 [(0, aR 102), (1, aI v1), (2, aI v2)] [] (NC, RF, M) := by
  unfold wX12_leftOn at h
  refine a_iconst hΓ dX12_leftOn_0 ?_
  refine a_istore_n (ls' := [(3, aI 0), (0, aR 102), (1, aI v1), (2, aI v2)]) hΓ dX12_leftOn_1 rfl (by decide) rfl ?_
  refine a_sub (ls' := [(0, aR 102), (1, aI v1), (2, aI v2), (3, aI 0)]) [1, 2, 3, 0] rfl ?_
  obtain ⟨f1, h⟩ := h
  exact s_wX12_leftOn_2 hΓ (Nat.le_trans (by decide) hh) hr  f1 0 M h
theorem ct_wX12_leftOn (l : Launch) (g : Gp) (v1 : Int) (v2 : Int) (M : Mm) (Q : Int → Mm → Prop) (h : wX12_leftOn v1 v2 M Q) : Ct l g yX12_leftOn cX12_leftOn 4 (some .int) 2 0 0 [aR 102, aI v1, aI v2] (NC, RF, M) (QI Q) :=
  ct_of (by decide) (Nat.le_of_ble_eq_true rfl) (fun Γ hg hl hr _ hΓ => by subst hg; subst hl; exact s_wX12_leftOn hΓ (by decide) hr v1 v2 M h)
def wX12_cleaned (v1 : Int) (v2 : Int) (v3 : Int) (M : Mm) (Q : Int → Mm → Prop) : Prop :=
    Bd (wX12_isDay v2 M) (fun r3 M4 =>
    (inR r3) ∧
    (if r3 = 0 then
      Bd (wX12_ends (-1) M4) (fun r9 M10 =>
      Q r9 M10)
    else
      Bd (wX12_in v3 0 1000 M4) (fun r13 M14 =>
      (inR r13) ∧
      (if r13 = 0 then
        Bd (wX12_ends (-1) M14) (fun r19 M20 =>
        Q r19 M20)
      else
        Bd (wX12_isShip v1 M14) (fun r23 M24 =>
        (inR r23) ∧
        (if r23 = 0 then
          Bd (wX12_ends (-2) M24) (fun r29 M30 =>
          Q r29 M30)
        else
          Bd (wX12_leftOn v1 v2 M24) (fun r33 M34 =>
          (inR r33) ∧
          (if r33 = (-1) then
            Bd (wX12_many 2 M34) (fun r39 M40 =>
            (inR r39) ∧
            (if r39 = 40 then
              Bd (wX12_ends (-5) M40) (fun r45 M46 =>
              Q r45 M46)
            else
              Bd (wX12_many 2 M40) (fun r49 M50 =>
              (0 ≤ (383 + (3 * r49)) ∧ (383 + (3 * r49)) < 730) ∧
              (0 ≤ ((383 + (3 * r49)) + 1) ∧ ((383 + (3 * r49)) + 1) < 730) ∧
              (0 ≤ ((383 + (3 * r49)) + 2) ∧ ((383 + (3 * r49)) + 2) < 730) ∧
              Bd (wX12_many 2 (up (up (up (up M50 103 (383 + (3 * r49)) v1) 103 ((383 + (3 * r49)) + 1) v2) 103 ((383 + (3 * r49)) + 2) v3) 103 723 (((up (up (up M50 103 (383 + (3 * r49)) v1) 103 ((383 + (3 * r49)) + 1) v2) 103 ((383 + (3 * r49)) + 2) v3) 103 723) + 1))) (fun r56 M57 =>
              Bd (wX12_ends r56 M57) (fun r60 M61 =>
              Q r60 M61)))))
          else
            Bd (wX12_ends (-4) M34) (fun r64 M65 =>
            Q r64 M65)))))))))
set_option maxHeartbeats 4000000 in
theorem s_wX12_cleaned {Γ : Cx} {h : Nat} (hΓ : Ok Γ cX12_cleaned RX12 5 h 0 0) (hh : 3 ≤ h) (hr : (cxm Γ).sig.returnType = (some .int)) {Q : Int → Mm → Prop} (v1 : Int) (v2 : Int) (v3 : Int) (M : Mm) (h : wX12_cleaned v1 v2 v3 M Q) : Wa Γ 5 (Kf Γ (QI Q) 0 0) 0 0 0 [(0, aR 102), (1, aI v1), (2, aI v2), (3, aI v3)] [] (NC, RF, M) := by
  unfold wX12_cleaned at h
  refine a_iload_n hΓ 2 dX12_cleaned_0 rfl rfl ?_
  obtain ⟨P1, q2, h⟩ := h
  refine n_callS (av := [aI v2]) (st := []) hΓ (ct_wX12_isDay _ _ v2 M P1 q2) my_X12_isDay ml_RX12_109 rfl (Nat.le_trans (by decide) hh) (by decide) (Nat.le_of_ble_eq_true rfl) rfl dX12_cleaned_1 (fun v Z' hq => ?_)
  obtain ⟨r3, M4, rfl, rfl, hq⟩ := hq
  have h := h r3 M4 hq
  dsimp only at h
  obtain ⟨g5, h⟩ := h
  refine a_if_eq (tgt := 18) hΓ g5 dX12_cleaned_4 (by decide) (fun c6 => ?_) (fun c6 => ?_)
  · rw [if_pos c6] at h
    refine a_aload_n hΓ 0 dX12_cleaned_18 rfl rfl ?_
    refine a_iconst hΓ dX12_cleaned_19 ?_
    obtain ⟨P7, q8, h⟩ := h
    refine n_callV (c := 102) (av := [aI (-1)]) (st := []) hΓ (ct_wX12_ends _ _ (-1) M4 P7 q8) my_X12_ends ml_RX12_106 ni_X12_ends kd_102 rfl lz_102 rfl (Nat.le_trans (by decide) hh) (by decide) (Nat.le_of_ble_eq_true rfl) rfl dX12_cleaned_20 (fun v Z' hq => ?_)
    obtain ⟨r9, M10, rfl, rfl, hq⟩ := hq
    have h := h r9 M10 hq
    dsimp only at h
    exact a_iret hΓ hr dX12_cleaned_23 ⟨_, _, rfl, rfl, h⟩
  · rw [if_neg c6] at h
    refine a_iload_n hΓ 3 dX12_cleaned_7 rfl rfl ?_
    refine a_iconst hΓ dX12_cleaned_8 ?_
    refine a_sipush hΓ dX12_cleaned_9 (by decide) ?_
    obtain ⟨P11, q12, h⟩ := h
    refine n_callS (av := [aI v3, aI 0, aI 1000]) (st := []) hΓ (ct_wX12_in _ _ v3 0 1000 M4 P11 q12) my_X12_in ml_RX12_3 rfl (Nat.le_trans (by decide) hh) (by decide) (Nat.le_of_ble_eq_true rfl) rfl dX12_cleaned_12 (fun v Z' hq => ?_)
    obtain ⟨r13, M14, rfl, rfl, hq⟩ := hq
    have h := h r13 M14 hq
    dsimp only at h
    obtain ⟨g15, h⟩ := h
    refine a_if_ne (tgt := 24) hΓ g15 dX12_cleaned_15 (by decide) (fun c16 => ?_) (fun c16 => ?_)
    · rw [if_pos c16] at h
      refine a_aload_n hΓ 0 dX12_cleaned_18 rfl rfl ?_
      refine a_iconst hΓ dX12_cleaned_19 ?_
      obtain ⟨P17, q18, h⟩ := h
      refine n_callV (c := 102) (av := [aI (-1)]) (st := []) hΓ (ct_wX12_ends _ _ (-1) M14 P17 q18) my_X12_ends ml_RX12_106 ni_X12_ends kd_102 rfl lz_102 rfl (Nat.le_trans (by decide) hh) (by decide) (Nat.le_of_ble_eq_true rfl) rfl dX12_cleaned_20 (fun v Z' hq => ?_)
      obtain ⟨r19, M20, rfl, rfl, hq⟩ := hq
      have h := h r19 M20 hq
      dsimp only at h
      exact a_iret hΓ hr dX12_cleaned_23 ⟨_, _, rfl, rfl, h⟩
    · rw [if_neg c16] at h
      refine a_aload_n hΓ 0 dX12_cleaned_24 rfl rfl ?_
      refine a_iload_n hΓ 1 dX12_cleaned_25 rfl rfl ?_
      obtain ⟨P21, q22, h⟩ := h
      refine n_callV (c := 102) (av := [aI v1]) (st := []) hΓ (ct_wX12_isShip _ _ v1 M14 P21 q22) my_X12_isShip ml_RX12_113 ni_X12_isShip kd_102 rfl lz_102 rfl (Nat.le_trans (by decide) hh) (by decide) (Nat.le_of_ble_eq_true rfl) rfl dX12_cleaned_26 (fun v Z' hq => ?_)
      obtain ⟨r23, M24, rfl, rfl, hq⟩ := hq
      have h := h r23 M24 hq
      dsimp only at h
      obtain ⟨g25, h⟩ := h
      refine a_if_ne (tgt := 39) hΓ g25 dX12_cleaned_29 (by decide) (fun c26 => ?_) (fun c26 => ?_)
      · rw [if_pos c26] at h
        refine a_aload_n hΓ 0 dX12_cleaned_32 rfl rfl ?_
        refine a_bipush hΓ dX12_cleaned_33 (by decide) ?_
        obtain ⟨P27, q28, h⟩ := h
        refine n_callV (c := 102) (av := [aI (-2)]) (st := []) hΓ (ct_wX12_ends _ _ (-2) M24 P27 q28) my_X12_ends ml_RX12_106 ni_X12_ends kd_102 rfl lz_102 rfl (Nat.le_trans (by decide) hh) (by decide) (Nat.le_of_ble_eq_true rfl) rfl dX12_cleaned_35 (fun v Z' hq => ?_)
        obtain ⟨r29, M30, rfl, rfl, hq⟩ := hq
        have h := h r29 M30 hq
        dsimp only at h
        exact a_iret hΓ hr dX12_cleaned_38 ⟨_, _, rfl, rfl, h⟩
      · rw [if_neg c26] at h
        refine a_aload_n hΓ 0 dX12_cleaned_39 rfl rfl ?_
        refine a_iload_n hΓ 1 dX12_cleaned_40 rfl rfl ?_
        refine a_iload_n hΓ 2 dX12_cleaned_41 rfl rfl ?_
        obtain ⟨P31, q32, h⟩ := h
        refine n_callV (c := 102) (av := [aI v1, aI v2]) (st := []) hΓ (ct_wX12_leftOn _ _ v1 v2 M24 P31 q32) my_X12_leftOn ml_RX12_116 ni_X12_leftOn kd_102 rfl lz_102 rfl (Nat.le_trans (by decide) hh) (by decide) (Nat.le_of_ble_eq_true rfl) rfl dX12_cleaned_42 (fun v Z' hq => ?_)
        obtain ⟨r33, M34, rfl, rfl, hq⟩ := hq
        have h := h r33 M34 hq
        dsimp only at h
        refine a_iconst hΓ dX12_cleaned_45 ?_
        obtain ⟨g35, h⟩ := h
        refine a_icmp_eq (tgt := 56) hΓ g35 (inRl (by decide)) dX12_cleaned_46 (by decide) (fun c36 => ?_) (fun c36 => ?_)
        · rw [if_pos c36] at h
          refine a_aload_n hΓ 0 dX12_cleaned_56 rfl rfl ?_
          refine a_iconst hΓ dX12_cleaned_57 ?_
          obtain ⟨P37, q38, h⟩ := h
          refine n_callV (c := 102) (av := [aI 2]) (st := []) hΓ (ct_wX12_many _ _ 2 M34 P37 q38) my_X12_many ml_RX12_102 ni_X12_many kd_102 rfl lz_102 rfl (Nat.le_trans (by decide) hh) (by decide) (Nat.le_of_ble_eq_true rfl) rfl dX12_cleaned_58 (fun v Z' hq => ?_)
          obtain ⟨r39, M40, rfl, rfl, hq⟩ := hq
          have h := h r39 M40 hq
          dsimp only at h
          refine a_bipush hΓ dX12_cleaned_61 (by decide) ?_
          obtain ⟨g41, h⟩ := h
          refine a_icmp_ne (tgt := 73) hΓ g41 (inRl (by decide)) dX12_cleaned_63 (by decide) (fun c42 => ?_) (fun c42 => ?_)
          · rw [if_pos c42] at h
            refine a_aload_n hΓ 0 dX12_cleaned_66 rfl rfl ?_
            refine a_bipush hΓ dX12_cleaned_67 (by decide) ?_
            obtain ⟨P43, q44, h⟩ := h
            refine n_callV (c := 102) (av := [aI (-5)]) (st := []) hΓ (ct_wX12_ends _ _ (-5) M40 P43 q44) my_X12_ends ml_RX12_106 ni_X12_ends kd_102 rfl lz_102 rfl (Nat.le_trans (by decide) hh) (by decide) (Nat.le_of_ble_eq_true rfl) rfl dX12_cleaned_69 (fun v Z' hq => ?_)
            obtain ⟨r45, M46, rfl, rfl, hq⟩ := hq
            have h := h r45 M46 hq
            dsimp only at h
            exact a_iret hΓ hr dX12_cleaned_72 ⟨_, _, rfl, rfl, h⟩
          · rw [if_neg c42] at h
            refine a_sipush hΓ dX12_cleaned_73 (by decide) ?_
            refine a_iconst hΓ dX12_cleaned_76 ?_
            refine a_aload_n hΓ 0 dX12_cleaned_77 rfl rfl ?_
            refine a_iconst hΓ dX12_cleaned_78 ?_
            obtain ⟨P47, q48, h⟩ := h
            refine n_callV (c := 102) (av := [aI 2]) (st := [aI 3, aI 383]) hΓ (ct_wX12_many _ _ 2 M40 P47 q48) my_X12_many ml_RX12_102 ni_X12_many kd_102 rfl lz_102 rfl (Nat.le_trans (by decide) hh) (by decide) (Nat.le_of_ble_eq_true rfl) rfl dX12_cleaned_79 (fun v Z' hq => ?_)
            obtain ⟨r49, M50, rfl, rfl, hq⟩ := hq
            have h := h r49 M50 hq
            dsimp only at h
            refine a_imul hΓ dX12_cleaned_82 ?_
            refine a_iadd hΓ dX12_cleaned_83 ?_
            refine a_istore (ls' := [(4, aI (383 + (3 * r49))), (0, aR 102), (1, aI v1), (2, aI v2), (3, aI v3)]) hΓ dX12_cleaned_84 (by decide) rfl ?_
            refine a_aload_n hΓ 1 dX12_cleaned_86 rfl rfl ?_
            refine n_getR hΓ fl_RX12_17 cl_12 kd_102 lz_102 dX12_cleaned_87 ft_12_1 rf_102_1 ?_
            refine a_iload hΓ 0 dX12_cleaned_90 rfl ?_
            refine a_iload_n hΓ 2 dX12_cleaned_92 rfl rfl ?_
            obtain ⟨g51, h⟩ := h
            refine a_iast hΓ dX12_cleaned_93 kd_103 lz_103 g51 ?_
            refine a_aload_n hΓ 1 dX12_cleaned_94 rfl rfl ?_
            refine n_getR hΓ fl_RX12_17 cl_12 kd_102 lz_102 dX12_cleaned_95 ft_12_1 rf_102_1 ?_
            refine a_iload hΓ 0 dX12_cleaned_98 rfl ?_
            refine a_iconst hΓ dX12_cleaned_100 ?_
            refine a_iadd hΓ dX12_cleaned_101 ?_
            refine a_iload_n hΓ 3 dX12_cleaned_102 rfl rfl ?_
            obtain ⟨g52, h⟩ := h
            refine a_iast hΓ dX12_cleaned_103 kd_103 lz_103 g52 ?_
            refine a_aload_n hΓ 1 dX12_cleaned_104 rfl rfl ?_
            refine n_getR hΓ fl_RX12_17 cl_12 kd_102 lz_102 dX12_cleaned_105 ft_12_1 rf_102_1 ?_
            refine a_iload hΓ 0 dX12_cleaned_108 rfl ?_
            refine a_iconst hΓ dX12_cleaned_110 ?_
            refine a_iadd hΓ dX12_cleaned_111 ?_
            refine a_iload_n hΓ 4 dX12_cleaned_112 rfl rfl ?_
            obtain ⟨g53, h⟩ := h
            refine a_iast hΓ dX12_cleaned_113 kd_103 lz_103 g53 ?_
            refine a_aload_n hΓ 1 dX12_cleaned_114 rfl rfl ?_
            refine n_getR hΓ fl_RX12_17 cl_12 kd_102 lz_102 dX12_cleaned_115 ft_12_1 rf_102_1 ?_
            refine a_sipush hΓ dX12_cleaned_118 (by decide) ?_
            refine a_dup2 hΓ dX12_cleaned_121 ?_
            refine n_iald (x := ((up (up (up M50 103 (383 + (3 * r49)) v1) 103 ((383 + (3 * r49)) + 1) v2) 103 ((383 + (3 * r49)) + 2) v3) 103 723)) hΓ dX12_cleaned_122 kd_103 lz_103 ⟨by decide, by decide⟩ rfl ?_
            refine a_iconst hΓ dX12_cleaned_123 ?_
            refine a_iadd hΓ dX12_cleaned_124 ?_
            refine a_iast hΓ dX12_cleaned_125 kd_103 lz_103 ⟨by decide, by decide⟩ ?_
            refine a_aload_n hΓ 1 dX12_cleaned_126 rfl rfl ?_
            refine a_aload_n hΓ 1 dX12_cleaned_127 rfl rfl ?_
            refine a_iconst hΓ dX12_cleaned_128 ?_
            obtain ⟨P54, q55, h⟩ := h
            refine n_callV (c := 102) (av := [aI 2]) (st := [aR 102]) hΓ (ct_wX12_many _ _ 2 (up (up (up (up M50 103 (383 + (3 * r49)) v1) 103 ((383 + (3 * r49)) + 1) v2) 103 ((383 + (3 * r49)) + 2) v3) 103 723 (((up (up (up M50 103 (383 + (3 * r49)) v1) 103 ((383 + (3 * r49)) + 1) v2) 103 ((383 + (3 * r49)) + 2) v3) 103 723) + 1)) P54 q55) my_X12_many ml_RX12_102 ni_X12_many kd_102 rfl lz_102 rfl (Nat.le_trans (by decide) hh) (by decide) (Nat.le_of_ble_eq_true rfl) rfl dX12_cleaned_129 (fun v Z' hq => ?_)
            obtain ⟨r56, M57, rfl, rfl, hq⟩ := hq
            have h := h r56 M57 hq
            dsimp only at h
            obtain ⟨P58, q59, h⟩ := h
            refine n_callV (c := 102) (av := [aI r56]) (st := []) hΓ (ct_wX12_ends _ _ r56 M57 P58 q59) my_X12_ends ml_RX12_106 ni_X12_ends kd_102 rfl lz_102 rfl (Nat.le_trans (by decide) hh) (by decide) (Nat.le_of_ble_eq_true rfl) rfl dX12_cleaned_132 (fun v Z' hq => ?_)
            obtain ⟨r60, M61, rfl, rfl, hq⟩ := hq
            have h := h r60 M61 hq
            dsimp only at h
            exact a_iret hΓ hr dX12_cleaned_135 ⟨_, _, rfl, rfl, h⟩
        · rw [if_neg c36] at h
          refine a_aload_n hΓ 0 dX12_cleaned_49 rfl rfl ?_
          refine a_bipush hΓ dX12_cleaned_50 (by decide) ?_
          obtain ⟨P62, q63, h⟩ := h
          refine n_callV (c := 102) (av := [aI (-4)]) (st := []) hΓ (ct_wX12_ends _ _ (-4) M34 P62 q63) my_X12_ends ml_RX12_106 ni_X12_ends kd_102 rfl lz_102 rfl (Nat.le_trans (by decide) hh) (by decide) (Nat.le_of_ble_eq_true rfl) rfl dX12_cleaned_52 (fun v Z' hq => ?_)
          obtain ⟨r64, M65, rfl, rfl, hq⟩ := hq
          have h := h r64 M65 hq
          dsimp only at h
          exact a_iret hΓ hr dX12_cleaned_55 ⟨_, _, rfl, rfl, h⟩
theorem ct_wX12_cleaned (l : Launch) (g : Gp) (v1 : Int) (v2 : Int) (v3 : Int) (M : Mm) (Q : Int → Mm → Prop) (h : wX12_cleaned v1 v2 v3 M Q) : Ct l g yX12_cleaned cX12_cleaned 5 (some .int) 3 0 0 [aR 102, aI v1, aI v2, aI v3] (NC, RF, M) (QI Q) :=
  ct_of (by decide) (Nat.le_of_ble_eq_true rfl) (fun Γ hg hl hr _ hΓ => by subst hg; subst hl; exact s_wX12_cleaned hΓ (by decide) hr v1 v2 v3 M h)
def wX12_terms (v1 : Int) (v2 : Int) (M : Mm) (Q : Int → Mm → Prop) : Prop :=
    Bd (wX12_in v1 0 1000 M) (fun r3 M4 =>
    (inR r3) ∧
    (if r3 = 0 then
      Bd (wX12_ends (-1) M4) (fun r9 M10 =>
      Q r9 M10)
    else
      Bd (wX12_in v2 0 100000 M4) (fun r13 M14 =>
      (inR r13) ∧
      (if r13 = 0 then
        Bd (wX12_ends (-1) M14) (fun r19 M20 =>
        Q r19 M20)
      else
        Bd (wX12_ends 0 (up (up M14 103 719 v1) 103 720 v2)) (fun r23 M24 =>
        Q r23 M24)))))
set_option maxHeartbeats 4000000 in
theorem s_wX12_terms {Γ : Cx} {h : Nat} (hΓ : Ok Γ cX12_terms RX12 3 h 0 0) (hh : 2 ≤ h) (hr : (cxm Γ).sig.returnType = (some .int)) {Q : Int → Mm → Prop} (v1 : Int) (v2 : Int) (M : Mm) (h : wX12_terms v1 v2 M Q) : Wa Γ 3 (Kf Γ (QI Q) 0 0) 0 0 0 [(0, aR 102), (1, aI v1), (2, aI v2)] [] (NC, RF, M) := by
  unfold wX12_terms at h
  refine a_iload_n hΓ 1 dX12_terms_0 rfl rfl ?_
  refine a_iconst hΓ dX12_terms_1 ?_
  refine a_sipush hΓ dX12_terms_2 (by decide) ?_
  obtain ⟨P1, q2, h⟩ := h
  refine n_callS (av := [aI v1, aI 0, aI 1000]) (st := []) hΓ (ct_wX12_in _ _ v1 0 1000 M P1 q2) my_X12_in ml_RX12_3 rfl (Nat.le_trans (by decide) hh) (by decide) (Nat.le_of_ble_eq_true rfl) rfl dX12_terms_5 (fun v Z' hq => ?_)
  obtain ⟨r3, M4, rfl, rfl, hq⟩ := hq
  have h := h r3 M4 hq
  dsimp only at h
  obtain ⟨g5, h⟩ := h
  refine a_if_eq (tgt := 21) hΓ g5 dX12_terms_8 (by decide) (fun c6 => ?_) (fun c6 => ?_)
  · rw [if_pos c6] at h
    refine a_aload_n hΓ 0 dX12_terms_21 rfl rfl ?_
    refine a_iconst hΓ dX12_terms_22 ?_
    obtain ⟨P7, q8, h⟩ := h
    refine n_callV (c := 102) (av := [aI (-1)]) (st := []) hΓ (ct_wX12_ends _ _ (-1) M4 P7 q8) my_X12_ends ml_RX12_106 ni_X12_ends kd_102 rfl lz_102 rfl (Nat.le_trans (by decide) hh) (by decide) (Nat.le_of_ble_eq_true rfl) rfl dX12_terms_23 (fun v Z' hq => ?_)
    obtain ⟨r9, M10, rfl, rfl, hq⟩ := hq
    have h := h r9 M10 hq
    dsimp only at h
    exact a_iret hΓ hr dX12_terms_26 ⟨_, _, rfl, rfl, h⟩
  · rw [if_neg c6] at h
    refine a_iload_n hΓ 2 dX12_terms_11 rfl rfl ?_
    refine a_iconst hΓ dX12_terms_12 ?_
    refine a_ldc hΓ gc_RX12_120 dX12_terms_13 ?_
    obtain ⟨P11, q12, h⟩ := h
    refine n_callS (av := [aI v2, aI 0, aI 100000]) (st := []) hΓ (ct_wX12_in _ _ v2 0 100000 M4 P11 q12) my_X12_in ml_RX12_3 rfl (Nat.le_trans (by decide) hh) (by decide) (Nat.le_of_ble_eq_true rfl) rfl dX12_terms_15 (fun v Z' hq => ?_)
    obtain ⟨r13, M14, rfl, rfl, hq⟩ := hq
    have h := h r13 M14 hq
    dsimp only at h
    obtain ⟨g15, h⟩ := h
    refine a_if_ne (tgt := 27) hΓ g15 dX12_terms_18 (by decide) (fun c16 => ?_) (fun c16 => ?_)
    · rw [if_pos c16] at h
      refine a_aload_n hΓ 0 dX12_terms_21 rfl rfl ?_
      refine a_iconst hΓ dX12_terms_22 ?_
      obtain ⟨P17, q18, h⟩ := h
      refine n_callV (c := 102) (av := [aI (-1)]) (st := []) hΓ (ct_wX12_ends _ _ (-1) M14 P17 q18) my_X12_ends ml_RX12_106 ni_X12_ends kd_102 rfl lz_102 rfl (Nat.le_trans (by decide) hh) (by decide) (Nat.le_of_ble_eq_true rfl) rfl dX12_terms_23 (fun v Z' hq => ?_)
      obtain ⟨r19, M20, rfl, rfl, hq⟩ := hq
      have h := h r19 M20 hq
      dsimp only at h
      exact a_iret hΓ hr dX12_terms_26 ⟨_, _, rfl, rfl, h⟩
    · rw [if_neg c16] at h
      refine a_aload_n hΓ 0 dX12_terms_27 rfl rfl ?_
      refine n_getR hΓ fl_RX12_17 cl_12 kd_102 lz_102 dX12_terms_28 ft_12_1 rf_102_1 ?_
      refine a_sipush hΓ dX12_terms_31 (by decide) ?_
      refine a_iload_n hΓ 1 dX12_terms_34 rfl rfl ?_
      refine a_iast hΓ dX12_terms_35 kd_103 lz_103 ⟨by decide, by decide⟩ ?_
      refine a_aload_n hΓ 0 dX12_terms_36 rfl rfl ?_
      refine n_getR hΓ fl_RX12_17 cl_12 kd_102 lz_102 dX12_terms_37 ft_12_1 rf_102_1 ?_
      refine a_sipush hΓ dX12_terms_40 (by decide) ?_
      refine a_iload_n hΓ 2 dX12_terms_43 rfl rfl ?_
      refine a_iast hΓ dX12_terms_44 kd_103 lz_103 ⟨by decide, by decide⟩ ?_
      refine a_aload_n hΓ 0 dX12_terms_45 rfl rfl ?_
      refine a_iconst hΓ dX12_terms_46 ?_
      obtain ⟨P21, q22, h⟩ := h
      refine n_callV (c := 102) (av := [aI 0]) (st := []) hΓ (ct_wX12_ends _ _ 0 (up (up M14 103 719 v1) 103 720 v2) P21 q22) my_X12_ends ml_RX12_106 ni_X12_ends kd_102 rfl lz_102 rfl (Nat.le_trans (by decide) hh) (by decide) (Nat.le_of_ble_eq_true rfl) rfl dX12_terms_47 (fun v Z' hq => ?_)
      obtain ⟨r23, M24, rfl, rfl, hq⟩ := hq
      have h := h r23 M24 hq
      dsimp only at h
      exact a_iret hΓ hr dX12_terms_50 ⟨_, _, rfl, rfl, h⟩
theorem ct_wX12_terms (l : Launch) (g : Gp) (v1 : Int) (v2 : Int) (M : Mm) (Q : Int → Mm → Prop) (h : wX12_terms v1 v2 M Q) : Ct l g yX12_terms cX12_terms 3 (some .int) 2 0 0 [aR 102, aI v1, aI v2] (NC, RF, M) (QI Q) :=
  ct_of (by decide) (Nat.le_of_ble_eq_true rfl) (fun Γ hg hl hr _ hΓ => by subst hg; subst hl; exact s_wX12_terms hΓ (by decide) hr v1 v2 M h)
def wX12_legOn_5 (Q : Int → Mm → Prop) (v1 : Int) (v2 : Int) : Nat → Int → Int → Mm → Prop
  | 0, _, _, _ => False
  | f + 1, v3, v4, M => Bd (wX12_many 1 M) (fun r3 M4 =>
    (inR v4) ∧
    (inR r3) ∧
    (if v4 < r3 then
      Bd (wX12_legAt v4 0 M4) (fun r10 M11 =>
      (inR r10) ∧
      (inR v1) ∧
      (if r10 = v1 then
        Bd (wX12_legAt v4 1 M11) (fun r17 M18 =>
        (inR r17) ∧
        (inR v2) ∧
        (if r17 ≤ v2 then
          (inR v3) ∧
          (if v3 = (-1) then
            (wX12_legOn_5 Q v1 v2 f) v4 (v4 + 1) M18
          else
            Bd (wX12_legAt v4 1 M18) (fun r26 M27 =>
            Bd (wX12_legAt v3 1 M27) (fun r30 M31 =>
            (inR r26) ∧
            (inR r30) ∧
            (if r26 < r30 then
              (wX12_legOn_5 Q v1 v2 f) v3 (v4 + 1) M31
            else
              (wX12_legOn_5 Q v1 v2 f) v4 (v4 + 1) M31))))
        else
          (wX12_legOn_5 Q v1 v2 f) v3 (v4 + 1) M18))
      else
        (wX12_legOn_5 Q v1 v2 f) v3 (v4 + 1) M11))
    else
      Q v3 M4))
set_option maxHeartbeats 4000000 in
theorem s_wX12_legOn_5 {Γ : Cx} {h : Nat} (hΓ : Ok Γ cX12_legOn RX12 5 h 0 0) (hh : 2 ≤ h) (hr : (cxm Γ).sig.returnType = (some .int)) {Q : Int → Mm → Prop} {v1 v2 : Int}   : ∀ (f : Nat) (v3 : Int) (v4 : Int) (M : Mm), wX12_legOn_5 Q v1 v2 f v3 v4 M → Wa Γ 5 (Kf Γ (QI Q) 0 0) 0 0 5 [(0, aR 102), (1, aI v1), (2, aI v2), (3, aI v3), (4, aI v4)] [] (NC, RF, M) := by
  intro f
  induction f with
  | zero => intro v3 v4 M h; exact h.elim
  | succ f ih =>
    intro v3 v4 M h
    unfold wX12_legOn_5 at h
    refine a_iload hΓ 4 dX12_legOn_5 rfl ?_
    refine a_aload_n hΓ 0 dX12_legOn_7 rfl rfl ?_
    refine a_iconst hΓ dX12_legOn_8 ?_
    obtain ⟨P1, q2, h⟩ := h
    refine n_callV (c := 102) (av := [aI 1]) (st := [aI v4]) hΓ (ct_wX12_many _ _ 1 M P1 q2) my_X12_many ml_RX12_102 ni_X12_many kd_102 rfl lz_102 rfl (Nat.le_trans (by decide) hh) (by decide) (Nat.le_of_ble_eq_true rfl) rfl dX12_legOn_9 (fun v Z' hq => ?_)
    obtain ⟨r3, M4, rfl, rfl, hq⟩ := hq
    have h := h r3 M4 hq
    dsimp only at h
    obtain ⟨g5, h⟩ := h
    obtain ⟨g6, h⟩ := h
    refine a_icmp_ge (tgt := 67) hΓ g5 g6 dX12_legOn_12 (by decide) (fun c7 => ?_) (fun c7 => ?_)
    · rw [if_pos c7] at h
      refine a_aload_n hΓ 0 dX12_legOn_15 rfl rfl ?_
      refine a_iload hΓ 4 dX12_legOn_16 rfl ?_
      refine a_iconst hΓ dX12_legOn_18 ?_
      obtain ⟨P8, q9, h⟩ := h
      refine n_callV (c := 102) (av := [aI v4, aI 0]) (st := []) hΓ (ct_wX12_legAt _ _ v4 0 M4 P8 q9) my_X12_legAt ml_RX12_121 ni_X12_legAt kd_102 rfl lz_102 rfl (Nat.le_trans (by decide) hh) (by decide) (Nat.le_of_ble_eq_true rfl) rfl dX12_legOn_19 (fun v Z' hq => ?_)
      obtain ⟨r10, M11, rfl, rfl, hq⟩ := hq
      have h := h r10 M11 hq
      dsimp only at h
      refine a_iload_n hΓ 1 dX12_legOn_22 rfl rfl ?_
      obtain ⟨g12, h⟩ := h
      obtain ⟨g13, h⟩ := h
      refine a_icmp_ne (tgt := 61) hΓ g12 g13 dX12_legOn_23 (by decide) (fun c14 => ?_) (fun c14 => ?_)
      · rw [if_pos c14] at h
        refine a_aload_n hΓ 0 dX12_legOn_26 rfl rfl ?_
        refine a_iload hΓ 4 dX12_legOn_27 rfl ?_
        refine a_iconst hΓ dX12_legOn_29 ?_
        obtain ⟨P15, q16, h⟩ := h
        refine n_callV (c := 102) (av := [aI v4, aI 1]) (st := []) hΓ (ct_wX12_legAt _ _ v4 1 M11 P15 q16) my_X12_legAt ml_RX12_121 ni_X12_legAt kd_102 rfl lz_102 rfl (Nat.le_trans (by decide) hh) (by decide) (Nat.le_of_ble_eq_true rfl) rfl dX12_legOn_30 (fun v Z' hq => ?_)
        obtain ⟨r17, M18, rfl, rfl, hq⟩ := hq
        have h := h r17 M18 hq
        dsimp only at h
        refine a_iload_n hΓ 2 dX12_legOn_33 rfl rfl ?_
        obtain ⟨g19, h⟩ := h
        obtain ⟨g20, h⟩ := h
        refine a_icmp_gt (tgt := 61) hΓ g19 g20 dX12_legOn_34 (by decide) (fun c21 => ?_) (fun c21 => ?_)
        · rw [if_pos c21] at h
          refine a_iload_n hΓ 3 dX12_legOn_37 rfl rfl ?_
          refine a_iconst hΓ dX12_legOn_38 ?_
          obtain ⟨g22, h⟩ := h
          refine a_icmp_eq (tgt := 58) hΓ g22 (inRl (by decide)) dX12_legOn_39 (by decide) (fun c23 => ?_) (fun c23 => ?_)
          · rw [if_pos c23] at h
            refine a_iload hΓ 4 dX12_legOn_58 rfl ?_
            refine a_istore_n (ls' := [(3, aI v4), (0, aR 102), (1, aI v1), (2, aI v2), (4, aI v4)]) hΓ dX12_legOn_60 rfl (by decide) rfl ?_
            refine a_iinc (ls' := [(4, aI (v4 + 1)), (3, aI v4), (0, aR 102), (1, aI v1), (2, aI v2)]) hΓ 4 dX12_legOn_61 rfl (by decide) rfl ?_
            refine a_goto (tgt := 5) hΓ dX12_legOn_64 (by decide) ?_
            refine a_sub (ls' := [(0, aR 102), (1, aI v1), (2, aI v2), (3, aI v4), (4, aI (v4 + 1))]) [2, 3, 4, 1, 0] rfl ?_
            exact ih v4 (v4 + 1) M18 h
          · rw [if_neg c23] at h
            refine a_aload_n hΓ 0 dX12_legOn_42 rfl rfl ?_
            refine a_iload hΓ 4 dX12_legOn_43 rfl ?_
            refine a_iconst hΓ dX12_legOn_45 ?_
            obtain ⟨P24, q25, h⟩ := h
            refine n_callV (c := 102) (av := [aI v4, aI 1]) (st := []) hΓ (ct_wX12_legAt _ _ v4 1 M18 P24 q25) my_X12_legAt ml_RX12_121 ni_X12_legAt kd_102 rfl lz_102 rfl (Nat.le_trans (by decide) hh) (by decide) (Nat.le_of_ble_eq_true rfl) rfl dX12_legOn_46 (fun v Z' hq => ?_)
            obtain ⟨r26, M27, rfl, rfl, hq⟩ := hq
            have h := h r26 M27 hq
            dsimp only at h
            refine a_aload_n hΓ 0 dX12_legOn_49 rfl rfl ?_
            refine a_iload_n hΓ 3 dX12_legOn_50 rfl rfl ?_
            refine a_iconst hΓ dX12_legOn_51 ?_
            obtain ⟨P28, q29, h⟩ := h
            refine n_callV (c := 102) (av := [aI v3, aI 1]) (st := [aI r26]) hΓ (ct_wX12_legAt _ _ v3 1 M27 P28 q29) my_X12_legAt ml_RX12_121 ni_X12_legAt kd_102 rfl lz_102 rfl (Nat.le_trans (by decide) hh) (by decide) (Nat.le_of_ble_eq_true rfl) rfl dX12_legOn_52 (fun v Z' hq => ?_)
            obtain ⟨r30, M31, rfl, rfl, hq⟩ := hq
            have h := h r30 M31 hq
            dsimp only at h
            obtain ⟨g32, h⟩ := h
            obtain ⟨g33, h⟩ := h
            refine a_icmp_lt (tgt := 61) hΓ g32 g33 dX12_legOn_55 (by decide) (fun c34 => ?_) (fun c34 => ?_)
            · rw [if_pos c34] at h
              refine a_iinc (ls' := [(4, aI (v4 + 1)), (0, aR 102), (1, aI v1), (2, aI v2), (3, aI v3)]) hΓ 4 dX12_legOn_61 rfl (by decide) rfl ?_
              refine a_goto (tgt := 5) hΓ dX12_legOn_64 (by decide) ?_
              refine a_sub (ls' := [(0, aR 102), (1, aI v1), (2, aI v2), (3, aI v3), (4, aI (v4 + 1))]) [1, 2, 3, 4, 0] rfl ?_
              exact ih v3 (v4 + 1) M31 h
            · rw [if_neg c34] at h
              refine a_iload hΓ 4 dX12_legOn_58 rfl ?_
              refine a_istore_n (ls' := [(3, aI v4), (0, aR 102), (1, aI v1), (2, aI v2), (4, aI v4)]) hΓ dX12_legOn_60 rfl (by decide) rfl ?_
              refine a_iinc (ls' := [(4, aI (v4 + 1)), (3, aI v4), (0, aR 102), (1, aI v1), (2, aI v2)]) hΓ 4 dX12_legOn_61 rfl (by decide) rfl ?_
              refine a_goto (tgt := 5) hΓ dX12_legOn_64 (by decide) ?_
              refine a_sub (ls' := [(0, aR 102), (1, aI v1), (2, aI v2), (3, aI v4), (4, aI (v4 + 1))]) [2, 3, 4, 1, 0] rfl ?_
              exact ih v4 (v4 + 1) M31 h
        · rw [if_neg c21] at h
          refine a_iinc (ls' := [(4, aI (v4 + 1)), (0, aR 102), (1, aI v1), (2, aI v2), (3, aI v3)]) hΓ 4 dX12_legOn_61 rfl (by decide) rfl ?_
          refine a_goto (tgt := 5) hΓ dX12_legOn_64 (by decide) ?_
          refine a_sub (ls' := [(0, aR 102), (1, aI v1), (2, aI v2), (3, aI v3), (4, aI (v4 + 1))]) [1, 2, 3, 4, 0] rfl ?_
          exact ih v3 (v4 + 1) M18 h
      · rw [if_neg c14] at h
        refine a_iinc (ls' := [(4, aI (v4 + 1)), (0, aR 102), (1, aI v1), (2, aI v2), (3, aI v3)]) hΓ 4 dX12_legOn_61 rfl (by decide) rfl ?_
        refine a_goto (tgt := 5) hΓ dX12_legOn_64 (by decide) ?_
        refine a_sub (ls' := [(0, aR 102), (1, aI v1), (2, aI v2), (3, aI v3), (4, aI (v4 + 1))]) [1, 2, 3, 4, 0] rfl ?_
        exact ih v3 (v4 + 1) M11 h
    · rw [if_neg c7] at h
      refine a_iload_n hΓ 3 dX12_legOn_67 rfl rfl ?_
      exact a_iret hΓ hr dX12_legOn_68 ⟨_, _, rfl, rfl, h⟩
def wX12_legOn (v1 : Int) (v2 : Int) (M : Mm) (Q : Int → Mm → Prop) : Prop :=
    ∃ n, wX12_legOn_5 Q v1 v2 n (-1) 0 M
set_option maxHeartbeats 4000000 in
theorem s_wX12_legOn {Γ : Cx} {h : Nat} (hΓ : Ok Γ cX12_legOn RX12 5 h 0 0) (hh : 2 ≤ h) (hr : (cxm Γ).sig.returnType = (some .int)) {Q : Int → Mm → Prop} (v1 : Int) (v2 : Int) (M : Mm) (h : wX12_legOn v1 v2 M Q) : Wa Γ 5 (Kf Γ (QI Q) 0 0) 0 0 0 [(0, aR 102), (1, aI v1), (2, aI v2)] [] (NC, RF, M) := by
  unfold wX12_legOn at h
  refine a_iconst hΓ dX12_legOn_0 ?_
  refine a_istore_n (ls' := [(3, aI (-1)), (0, aR 102), (1, aI v1), (2, aI v2)]) hΓ dX12_legOn_1 rfl (by decide) rfl ?_
  refine a_iconst hΓ dX12_legOn_2 ?_
  refine a_istore (ls' := [(4, aI 0), (3, aI (-1)), (0, aR 102), (1, aI v1), (2, aI v2)]) hΓ dX12_legOn_3 (by decide) rfl ?_
  refine a_sub (ls' := [(0, aR 102), (1, aI v1), (2, aI v2), (3, aI (-1)), (4, aI 0)]) [2, 3, 4, 1, 0] rfl ?_
  obtain ⟨f1, h⟩ := h
  exact s_wX12_legOn_5 hΓ (Nat.le_trans (by decide) hh) hr  f1 (-1) 0 M h
theorem ct_wX12_legOn (l : Launch) (g : Gp) (v1 : Int) (v2 : Int) (M : Mm) (Q : Int → Mm → Prop) (h : wX12_legOn v1 v2 M Q) : Ct l g yX12_legOn cX12_legOn 5 (some .int) 2 0 0 [aR 102, aI v1, aI v2] (NC, RF, M) (QI Q) :=
  ct_of (by decide) (Nat.le_of_ble_eq_true rfl) (fun Γ hg hl hr _ hΓ => by subst hg; subst hl; exact s_wX12_legOn hΓ (by decide) hr v1 v2 M h)
def wX12_onDay (v1 : Int) (v2 : Int) (v3 : Int) (M : Mm) (Q : Int → Mm → Prop) : Prop :=
    Bd (wX12_legOn v1 v2 M) (fun r3 M4 =>
    (inR r3) ∧
    (if r3 = (-1) then
      Q 0 M4
    else
      Bd (wX12_legAt r3 v3 M4) (fun r9 M10 =>
      Q r9 M10)))
set_option maxHeartbeats 4000000 in
theorem s_wX12_onDay {Γ : Cx} {h : Nat} (hΓ : Ok Γ cX12_onDay RX12 5 h 0 0) (hh : 3 ≤ h) (hr : (cxm Γ).sig.returnType = (some .int)) {Q : Int → Mm → Prop} (v1 : Int) (v2 : Int) (v3 : Int) (M : Mm) (h : wX12_onDay v1 v2 v3 M Q) : Wa Γ 5 (Kf Γ (QI Q) 0 0) 0 0 0 [(0, aR 102), (1, aI v1), (2, aI v2), (3, aI v3)] [] (NC, RF, M) := by
  unfold wX12_onDay at h
  refine a_aload_n hΓ 0 dX12_onDay_0 rfl rfl ?_
  refine a_iload_n hΓ 1 dX12_onDay_1 rfl rfl ?_
  refine a_iload_n hΓ 2 dX12_onDay_2 rfl rfl ?_
  obtain ⟨P1, q2, h⟩ := h
  refine n_callV (c := 102) (av := [aI v1, aI v2]) (st := []) hΓ (ct_wX12_legOn _ _ v1 v2 M P1 q2) my_X12_legOn ml_RX12_124 ni_X12_legOn kd_102 rfl lz_102 rfl (Nat.le_trans (by decide) hh) (by decide) (Nat.le_of_ble_eq_true rfl) rfl dX12_onDay_3 (fun v Z' hq => ?_)
  obtain ⟨r3, M4, rfl, rfl, hq⟩ := hq
  have h := h r3 M4 hq
  dsimp only at h
  refine a_istore (ls' := [(4, aI r3), (0, aR 102), (1, aI v1), (2, aI v2), (3, aI v3)]) hΓ dX12_onDay_6 (by decide) rfl ?_
  refine a_iload hΓ 0 dX12_onDay_8 rfl ?_
  refine a_iconst hΓ dX12_onDay_10 ?_
  obtain ⟨g5, h⟩ := h
  refine a_icmp_ne (tgt := 18) hΓ g5 (inRl (by decide)) dX12_onDay_11 (by decide) (fun c6 => ?_) (fun c6 => ?_)
  · rw [if_pos c6] at h
    refine a_iconst hΓ dX12_onDay_14 ?_
    refine a_goto (tgt := 25) hΓ dX12_onDay_15 (by decide) ?_
    exact a_iret hΓ hr dX12_onDay_25 ⟨_, _, rfl, rfl, h⟩
  · rw [if_neg c6] at h
    refine a_aload_n hΓ 1 dX12_onDay_18 rfl rfl ?_
    refine a_iload hΓ 0 dX12_onDay_19 rfl ?_
    refine a_iload_n hΓ 4 dX12_onDay_21 rfl rfl ?_
    obtain ⟨P7, q8, h⟩ := h
    refine n_callV (c := 102) (av := [aI r3, aI v3]) (st := []) hΓ (ct_wX12_legAt _ _ r3 v3 M4 P7 q8) my_X12_legAt ml_RX12_121 ni_X12_legAt kd_102 rfl lz_102 rfl (Nat.le_trans (by decide) hh) (by decide) (Nat.le_of_ble_eq_true rfl) rfl dX12_onDay_22 (fun v Z' hq => ?_)
    obtain ⟨r9, M10, rfl, rfl, hq⟩ := hq
    have h := h r9 M10 hq
    dsimp only at h
    exact a_iret hΓ hr dX12_onDay_25 ⟨_, _, rfl, rfl, h⟩
theorem ct_wX12_onDay (l : Launch) (g : Gp) (v1 : Int) (v2 : Int) (v3 : Int) (M : Mm) (Q : Int → Mm → Prop) (h : wX12_onDay v1 v2 v3 M Q) : Ct l g yX12_onDay cX12_onDay 5 (some .int) 3 0 0 [aR 102, aI v1, aI v2, aI v3] (NC, RF, M) (QI Q) :=
  ct_of (by decide) (Nat.le_of_ble_eq_true rfl) (fun Γ hg hl hr _ hΓ => by subst hg; subst hl; exact s_wX12_onDay hΓ (by decide) hr v1 v2 v3 M h)
def wX12_speedOn (v1 : Int) (v2 : Int) (M : Mm) (Q : Int → Mm → Prop) : Prop :=
    Bd (wX12_onDay v1 v2 3 M) (fun r3 M4 =>
    Q r3 M4)
set_option maxHeartbeats 4000000 in
theorem s_wX12_speedOn {Γ : Cx} {h : Nat} (hΓ : Ok Γ cX12_speedOn RX12 3 h 0 0) (hh : 4 ≤ h) (hr : (cxm Γ).sig.returnType = (some .int)) {Q : Int → Mm → Prop} (v1 : Int) (v2 : Int) (M : Mm) (h : wX12_speedOn v1 v2 M Q) : Wa Γ 3 (Kf Γ (QI Q) 0 0) 0 0 0 [(0, aR 102), (1, aI v1), (2, aI v2)] [] (NC, RF, M) := by
  unfold wX12_speedOn at h
  refine a_aload_n hΓ 0 dX12_speedOn_0 rfl rfl ?_
  refine a_iload_n hΓ 1 dX12_speedOn_1 rfl rfl ?_
  refine a_iload_n hΓ 2 dX12_speedOn_2 rfl rfl ?_
  refine a_iconst hΓ dX12_speedOn_3 ?_
  obtain ⟨P1, q2, h⟩ := h
  refine n_callV (c := 102) (av := [aI v1, aI v2, aI 3]) (st := []) hΓ (ct_wX12_onDay _ _ v1 v2 3 M P1 q2) my_X12_onDay ml_RX12_130 ni_X12_onDay kd_102 rfl lz_102 rfl (Nat.le_trans (by decide) hh) (by decide) (Nat.le_of_ble_eq_true rfl) rfl dX12_speedOn_4 (fun v Z' hq => ?_)
  obtain ⟨r3, M4, rfl, rfl, hq⟩ := hq
  have h := h r3 M4 hq
  dsimp only at h
  exact a_iret hΓ hr dX12_speedOn_7 ⟨_, _, rfl, rfl, h⟩
theorem ct_wX12_speedOn (l : Launch) (g : Gp) (v1 : Int) (v2 : Int) (M : Mm) (Q : Int → Mm → Prop) (h : wX12_speedOn v1 v2 M Q) : Ct l g yX12_speedOn cX12_speedOn 3 (some .int) 4 0 0 [aR 102, aI v1, aI v2] (NC, RF, M) (QI Q) :=
  ct_of (by decide) (Nat.le_of_ble_eq_true rfl) (fun Γ hg hl hr _ hΓ => by subst hg; subst hl; exact s_wX12_speedOn hΓ (by decide) hr v1 v2 M h)
def wX12_byTable (v1 : Int) (v2 : Int) (v3 : Int) (M : Mm) (Q : Int → Mm → Prop) : Prop :=
    Bd (wX12_speedOn v1 v2 M) (fun r3 M4 =>
    (inR r3) ∧
    (if r3 = 0 then
      Bd (wX12_onDay v1 v2 2 M4) (fun r9 M10 =>
      (0 ≤ ((3 + (6 * v3)) + r9) ∧ ((3 + (6 * v3)) + r9) < 730) ∧
      Q (M10 103 ((3 + (6 * v3)) + r9)) M10)
    else
      (0 ≤ ((15 + (4 * v3)) + (Int.tdiv r3 8)) ∧ ((15 + (4 * v3)) + (Int.tdiv r3 8)) < 730) ∧
      Q (M4 103 ((15 + (4 * v3)) + (Int.tdiv r3 8))) M4))
set_option maxHeartbeats 4000000 in
theorem s_wX12_byTable {Γ : Cx} {h : Nat} (hΓ : Ok Γ cX12_byTable RX12 5 h 0 0) (hh : 5 ≤ h) (hr : (cxm Γ).sig.returnType = (some .int)) {Q : Int → Mm → Prop} (v1 : Int) (v2 : Int) (v3 : Int) (M : Mm) (h : wX12_byTable v1 v2 v3 M Q) : Wa Γ 5 (Kf Γ (QI Q) 0 0) 0 0 0 [(0, aR 102), (1, aI v1), (2, aI v2), (3, aI v3)] [] (NC, RF, M) := by
  unfold wX12_byTable at h
  refine a_aload_n hΓ 0 dX12_byTable_0 rfl rfl ?_
  refine a_iload_n hΓ 1 dX12_byTable_1 rfl rfl ?_
  refine a_iload_n hΓ 2 dX12_byTable_2 rfl rfl ?_
  obtain ⟨P1, q2, h⟩ := h
  refine n_callV (c := 102) (av := [aI v1, aI v2]) (st := []) hΓ (ct_wX12_speedOn _ _ v1 v2 M P1 q2) my_X12_speedOn ml_RX12_134 ni_X12_speedOn kd_102 rfl lz_102 rfl (Nat.le_trans (by decide) hh) (by decide) (Nat.le_of_ble_eq_true rfl) rfl dX12_byTable_3 (fun v Z' hq => ?_)
  obtain ⟨r3, M4, rfl, rfl, hq⟩ := hq
  have h := h r3 M4 hq
  dsimp only at h
  refine a_istore (ls' := [(4, aI r3), (0, aR 102), (1, aI v1), (2, aI v2), (3, aI v3)]) hΓ dX12_byTable_6 (by decide) rfl ?_
  refine a_iload hΓ 0 dX12_byTable_8 rfl ?_
  obtain ⟨g5, h⟩ := h
  refine a_if_ne (tgt := 35) hΓ g5 dX12_byTable_10 (by decide) (fun c6 => ?_) (fun c6 => ?_)
  · rw [if_pos c6] at h
    refine a_aload_n hΓ 1 dX12_byTable_13 rfl rfl ?_
    refine n_getR hΓ fl_RX12_17 cl_12 kd_102 lz_102 dX12_byTable_14 ft_12_1 rf_102_1 ?_
    refine a_iconst hΓ dX12_byTable_17 ?_
    refine a_bipush hΓ dX12_byTable_18 (by decide) ?_
    refine a_iload_n hΓ 4 dX12_byTable_20 rfl rfl ?_
    refine a_imul hΓ dX12_byTable_21 ?_
    refine a_iadd hΓ dX12_byTable_22 ?_
    refine a_aload_n hΓ 1 dX12_byTable_23 rfl rfl ?_
    refine a_iload_n hΓ 2 dX12_byTable_24 rfl rfl ?_
    refine a_iload_n hΓ 3 dX12_byTable_25 rfl rfl ?_
    refine a_iconst hΓ dX12_byTable_26 ?_
    obtain ⟨P7, q8, h⟩ := h
    refine n_callV (c := 102) (av := [aI v1, aI v2, aI 2]) (st := [aI (3 + (6 * v3)), aR 103]) hΓ (ct_wX12_onDay _ _ v1 v2 2 M4 P7 q8) my_X12_onDay ml_RX12_130 ni_X12_onDay kd_102 rfl lz_102 rfl (Nat.le_trans (by decide) hh) (by decide) (Nat.le_of_ble_eq_true rfl) rfl dX12_byTable_27 (fun v Z' hq => ?_)
    obtain ⟨r9, M10, rfl, rfl, hq⟩ := hq
    have h := h r9 M10 hq
    dsimp only at h
    refine a_iadd hΓ dX12_byTable_30 ?_
    obtain ⟨g11, h⟩ := h
    refine n_iald (x := (M10 103 ((3 + (6 * v3)) + r9))) hΓ dX12_byTable_31 kd_103 lz_103 g11 rfl ?_
    refine a_goto (tgt := 52) hΓ dX12_byTable_32 (by decide) ?_
    exact a_iret hΓ hr dX12_byTable_52 ⟨_, _, rfl, rfl, h⟩
  · rw [if_neg c6] at h
    refine a_aload_n hΓ 1 dX12_byTable_35 rfl rfl ?_
    refine n_getR hΓ fl_RX12_17 cl_12 kd_102 lz_102 dX12_byTable_36 ft_12_1 rf_102_1 ?_
    refine a_bipush hΓ dX12_byTable_39 (by decide) ?_
    refine a_iconst hΓ dX12_byTable_41 ?_
    refine a_iload_n hΓ 4 dX12_byTable_42 rfl rfl ?_
    refine a_imul hΓ dX12_byTable_43 ?_
    refine a_iadd hΓ dX12_byTable_44 ?_
    refine a_iload hΓ 0 dX12_byTable_45 rfl ?_
    refine a_bipush hΓ dX12_byTable_47 (by decide) ?_
    refine a_idiv hΓ g5 (inRl (by decide)) (by decide) dX12_byTable_49 ?_
    refine a_iadd hΓ dX12_byTable_50 ?_
    obtain ⟨g12, h⟩ := h
    refine n_iald (x := (M4 103 ((15 + (4 * v3)) + (Int.tdiv r3 8)))) hΓ dX12_byTable_51 kd_103 lz_103 g12 rfl ?_
    exact a_iret hΓ hr dX12_byTable_52 ⟨_, _, rfl, rfl, h⟩
theorem ct_wX12_byTable (l : Launch) (g : Gp) (v1 : Int) (v2 : Int) (v3 : Int) (M : Mm) (Q : Int → Mm → Prop) (h : wX12_byTable v1 v2 v3 M Q) : Ct l g yX12_byTable cX12_byTable 5 (some .int) 5 0 0 [aR 102, aI v1, aI v2, aI v3] (NC, RF, M) (QI Q) :=
  ct_of (by decide) (Nat.le_of_ble_eq_true rfl) (fun Γ hg hl hr _ hΓ => by subst hg; subst hl; exact s_wX12_byTable hΓ (by decide) hr v1 v2 v3 M h)
def wX12_law (v1 : Int) (v2 : Int) (v3 : Int) (M : Mm) (Q : Int → Mm → Prop) : Prop :=
    Bd (wX12_isShip v1 M) (fun r3 M4 =>
    (inR r3) ∧
    (if r3 = 0 then
      Q (-1000) M4
    else
      Bd (wX12_in v2 0 118 M4) (fun r9 M10 =>
      (inR r9) ∧
      (if r9 = 0 then
        Q (-1000) M10
      else
        Bd (wX12_in v3 0 1 M10) (fun r15 M16 =>
        (inR r15) ∧
        (if r15 = 0 then
          Q (-1000) M16
        else
          Bd (wX12_leftOn v1 (v2 + 1) M16) (fun r21 M22 =>
          (inR r21) ∧
          (if r21 = (-1) then
            Bd (wX12_byTable v1 v2 v3 M22) (fun r27 M28 =>
            Q r27 M28)
          else
            Q (-1000) M22))))))))
set_option maxHeartbeats 4000000 in
theorem s_wX12_law {Γ : Cx} {h : Nat} (hΓ : Ok Γ cX12_law RX12 4 h 0 0) (hh : 6 ≤ h) (hr : (cxm Γ).sig.returnType = (some .int)) {Q : Int → Mm → Prop} (v1 : Int) (v2 : Int) (v3 : Int) (M : Mm) (h : wX12_law v1 v2 v3 M Q) : Wa Γ 4 (Kf Γ (QI Q) 0 0) 0 0 0 [(0, aR 102), (1, aI v1), (2, aI v2), (3, aI v3)] [] (NC, RF, M) := by
  unfold wX12_law at h
  refine a_aload_n hΓ 0 dX12_law_0 rfl rfl ?_
  refine a_iload_n hΓ 1 dX12_law_1 rfl rfl ?_
  obtain ⟨P1, q2, h⟩ := h
  refine n_callV (c := 102) (av := [aI v1]) (st := []) hΓ (ct_wX12_isShip _ _ v1 M P1 q2) my_X12_isShip ml_RX12_113 ni_X12_isShip kd_102 rfl lz_102 rfl (Nat.le_trans (by decide) hh) (by decide) (Nat.le_of_ble_eq_true rfl) rfl dX12_law_2 (fun v Z' hq => ?_)
  obtain ⟨r3, M4, rfl, rfl, hq⟩ := hq
  have h := h r3 M4 hq
  dsimp only at h
  obtain ⟨g5, h⟩ := h
  refine a_if_eq (tgt := 49) hΓ g5 dX12_law_5 (by decide) (fun c6 => ?_) (fun c6 => ?_)
  · rw [if_pos c6] at h
    refine a_sipush hΓ dX12_law_49 (by decide) ?_
    exact a_iret hΓ hr dX12_law_52 ⟨_, _, rfl, rfl, h⟩
  · rw [if_neg c6] at h
    refine a_iload_n hΓ 2 dX12_law_8 rfl rfl ?_
    refine a_iconst hΓ dX12_law_9 ?_
    refine a_bipush hΓ dX12_law_10 (by decide) ?_
    obtain ⟨P7, q8, h⟩ := h
    refine n_callS (av := [aI v2, aI 0, aI 118]) (st := []) hΓ (ct_wX12_in _ _ v2 0 118 M4 P7 q8) my_X12_in ml_RX12_3 rfl (Nat.le_trans (by decide) hh) (by decide) (Nat.le_of_ble_eq_true rfl) rfl dX12_law_12 (fun v Z' hq => ?_)
    obtain ⟨r9, M10, rfl, rfl, hq⟩ := hq
    have h := h r9 M10 hq
    dsimp only at h
    obtain ⟨g11, h⟩ := h
    refine a_if_eq (tgt := 49) hΓ g11 dX12_law_15 (by decide) (fun c12 => ?_) (fun c12 => ?_)
    · rw [if_pos c12] at h
      refine a_sipush hΓ dX12_law_49 (by decide) ?_
      exact a_iret hΓ hr dX12_law_52 ⟨_, _, rfl, rfl, h⟩
    · rw [if_neg c12] at h
      refine a_iload_n hΓ 3 dX12_law_18 rfl rfl ?_
      refine a_iconst hΓ dX12_law_19 ?_
      refine a_iconst hΓ dX12_law_20 ?_
      obtain ⟨P13, q14, h⟩ := h
      refine n_callS (av := [aI v3, aI 0, aI 1]) (st := []) hΓ (ct_wX12_in _ _ v3 0 1 M10 P13 q14) my_X12_in ml_RX12_3 rfl (Nat.le_trans (by decide) hh) (by decide) (Nat.le_of_ble_eq_true rfl) rfl dX12_law_21 (fun v Z' hq => ?_)
      obtain ⟨r15, M16, rfl, rfl, hq⟩ := hq
      have h := h r15 M16 hq
      dsimp only at h
      obtain ⟨g17, h⟩ := h
      refine a_if_eq (tgt := 49) hΓ g17 dX12_law_24 (by decide) (fun c18 => ?_) (fun c18 => ?_)
      · rw [if_pos c18] at h
        refine a_sipush hΓ dX12_law_49 (by decide) ?_
        exact a_iret hΓ hr dX12_law_52 ⟨_, _, rfl, rfl, h⟩
      · rw [if_neg c18] at h
        refine a_aload_n hΓ 0 dX12_law_27 rfl rfl ?_
        refine a_iload_n hΓ 1 dX12_law_28 rfl rfl ?_
        refine a_iload_n hΓ 2 dX12_law_29 rfl rfl ?_
        refine a_iconst hΓ dX12_law_30 ?_
        refine a_iadd hΓ dX12_law_31 ?_
        obtain ⟨P19, q20, h⟩ := h
        refine n_callV (c := 102) (av := [aI v1, aI (v2 + 1)]) (st := []) hΓ (ct_wX12_leftOn _ _ v1 (v2 + 1) M16 P19 q20) my_X12_leftOn ml_RX12_116 ni_X12_leftOn kd_102 rfl lz_102 rfl (Nat.le_trans (by decide) hh) (by decide) (Nat.le_of_ble_eq_true rfl) rfl dX12_law_32 (fun v Z' hq => ?_)
        obtain ⟨r21, M22, rfl, rfl, hq⟩ := hq
        have h := h r21 M22 hq
        dsimp only at h
        refine a_iconst hΓ dX12_law_35 ?_
        obtain ⟨g23, h⟩ := h
        refine a_icmp_ne (tgt := 49) hΓ g23 (inRl (by decide)) dX12_law_36 (by decide) (fun c24 => ?_) (fun c24 => ?_)
        · rw [if_pos c24] at h
          refine a_aload_n hΓ 0 dX12_law_39 rfl rfl ?_
          refine a_iload_n hΓ 1 dX12_law_40 rfl rfl ?_
          refine a_iload_n hΓ 2 dX12_law_41 rfl rfl ?_
          refine a_iload_n hΓ 3 dX12_law_42 rfl rfl ?_
          obtain ⟨P25, q26, h⟩ := h
          refine n_callV (c := 102) (av := [aI v1, aI v2, aI v3]) (st := []) hΓ (ct_wX12_byTable _ _ v1 v2 v3 M22 P25 q26) my_X12_byTable ml_RX12_137 ni_X12_byTable kd_102 rfl lz_102 rfl (Nat.le_trans (by decide) hh) (by decide) (Nat.le_of_ble_eq_true rfl) rfl dX12_law_43 (fun v Z' hq => ?_)
          obtain ⟨r27, M28, rfl, rfl, hq⟩ := hq
          have h := h r27 M28 hq
          dsimp only at h
          refine a_goto (tgt := 52) hΓ dX12_law_46 (by decide) ?_
          exact a_iret hΓ hr dX12_law_52 ⟨_, _, rfl, rfl, h⟩
        · rw [if_neg c24] at h
          refine a_sipush hΓ dX12_law_49 (by decide) ?_
          exact a_iret hΓ hr dX12_law_52 ⟨_, _, rfl, rfl, h⟩
theorem ct_wX12_law (l : Launch) (g : Gp) (v1 : Int) (v2 : Int) (v3 : Int) (M : Mm) (Q : Int → Mm → Prop) (h : wX12_law v1 v2 v3 M Q) : Ct l g yX12_law cX12_law 4 (some .int) 6 0 0 [aR 102, aI v1, aI v2, aI v3] (NC, RF, M) (QI Q) :=
  ct_of (by decide) (Nat.le_of_ble_eq_true rfl) (fun Γ hg hl hr _ hΓ => by subst hg; subst hl; exact s_wX12_law hΓ (by decide) hr v1 v2 v3 M h)
def wX12_portion (v1 : Int) (v2 : Int) (v3 : Int) (v4 : Int) (M : Mm) (Q : Int → Mm → Prop) : Prop :=
    Bd (wX12_speedOn v1 v2 M) (fun r3 M4 =>
    (inR v4) ∧
    (if v4 = 0 then
      (0 ≤ (0 + v1) ∧ (0 + v1) < 730) ∧
      Q ((r3 * r3) * (M4 103 (0 + v1))) M4
    else
      (if v4 = 1 then
        Bd (wX12_onDay v1 v2 4 M4) (fun r11 M12 =>
        Bd (wX12_onDay v1 v2 4 M12) (fun r15 M16 =>
        Q ((r11 * r15) * r3) M16))
      else
        (if v4 = 2 then
          Bd (wX12_onDay v1 v2 5 M4) (fun r20 M21 =>
          Q (r20 * r3) M21)
        else
          Q ((r3 * r3) * v3) M4))))
set_option maxHeartbeats 4000000 in
theorem s_wX12_portion {Γ : Cx} {h : Nat} (hΓ : Ok Γ cX12_portion RX12 6 h 0 0) (hh : 5 ≤ h) (hr : (cxm Γ).sig.returnType = (some .int)) {Q : Int → Mm → Prop} (v1 : Int) (v2 : Int) (v3 : Int) (v4 : Int) (M : Mm) (h : wX12_portion v1 v2 v3 v4 M Q) : Wa Γ 6 (Kf Γ (QI Q) 0 0) 0 0 0 [(0, aR 102), (1, aI v1), (2, aI v2), (3, aI v3), (4, aI v4)] [] (NC, RF, M) := by
  unfold wX12_portion at h
  refine a_aload_n hΓ 0 dX12_portion_0 rfl rfl ?_
  refine a_iload_n hΓ 1 dX12_portion_1 rfl rfl ?_
  refine a_iload_n hΓ 2 dX12_portion_2 rfl rfl ?_
  obtain ⟨P1, q2, h⟩ := h
  refine n_callV (c := 102) (av := [aI v1, aI v2]) (st := []) hΓ (ct_wX12_speedOn _ _ v1 v2 M P1 q2) my_X12_speedOn ml_RX12_134 ni_X12_speedOn kd_102 rfl lz_102 rfl (Nat.le_trans (by decide) hh) (by decide) (Nat.le_of_ble_eq_true rfl) rfl dX12_portion_3 (fun v Z' hq => ?_)
  obtain ⟨r3, M4, rfl, rfl, hq⟩ := hq
  have h := h r3 M4 hq
  dsimp only at h
  refine a_istore (ls' := [(5, aI r3), (0, aR 102), (1, aI v1), (2, aI v2), (3, aI v3), (4, aI v4)]) hΓ dX12_portion_6 (by decide) rfl ?_
  refine a_iload hΓ 5 dX12_portion_8 rfl ?_
  obtain ⟨g5, h⟩ := h
  refine a_if_ne (tgt := 28) hΓ g5 dX12_portion_10 (by decide) (fun c6 => ?_) (fun c6 => ?_)
  · rw [if_pos c6] at h
    refine a_iload hΓ 0 dX12_portion_13 rfl ?_
    refine a_iload hΓ 0 dX12_portion_15 rfl ?_
    refine a_imul hΓ dX12_portion_17 ?_
    refine a_aload_n hΓ 1 dX12_portion_18 rfl rfl ?_
    refine n_getR hΓ fl_RX12_17 cl_12 kd_102 lz_102 dX12_portion_19 ft_12_1 rf_102_1 ?_
    refine a_iconst hΓ dX12_portion_22 ?_
    refine a_iload_n hΓ 2 dX12_portion_23 rfl rfl ?_
    refine a_iadd hΓ dX12_portion_24 ?_
    obtain ⟨g7, h⟩ := h
    refine n_iald (x := (M4 103 (0 + v1))) hΓ dX12_portion_25 kd_103 lz_103 g7 rfl ?_
    refine a_imul hΓ dX12_portion_26 ?_
    exact a_iret hΓ hr dX12_portion_27 ⟨_, _, rfl, rfl, h⟩
  · rw [if_neg c6] at h
    refine a_iload hΓ 5 dX12_portion_28 rfl ?_
    refine a_iconst hΓ dX12_portion_30 ?_
    refine a_icmp_ne (tgt := 53) hΓ g5 (inRl (by decide)) dX12_portion_31 (by decide) (fun c8 => ?_) (fun c8 => ?_)
    · rw [if_pos c8] at h
      refine a_aload_n hΓ 1 dX12_portion_34 rfl rfl ?_
      refine a_iload_n hΓ 2 dX12_portion_35 rfl rfl ?_
      refine a_iload_n hΓ 3 dX12_portion_36 rfl rfl ?_
      refine a_iconst hΓ dX12_portion_37 ?_
      obtain ⟨P9, q10, h⟩ := h
      refine n_callV (c := 102) (av := [aI v1, aI v2, aI 4]) (st := []) hΓ (ct_wX12_onDay _ _ v1 v2 4 M4 P9 q10) my_X12_onDay ml_RX12_130 ni_X12_onDay kd_102 rfl lz_102 rfl (Nat.le_trans (by decide) hh) (by decide) (Nat.le_of_ble_eq_true rfl) rfl dX12_portion_38 (fun v Z' hq => ?_)
      obtain ⟨r11, M12, rfl, rfl, hq⟩ := hq
      have h := h r11 M12 hq
      dsimp only at h
      refine a_aload_n hΓ 1 dX12_portion_41 rfl rfl ?_
      refine a_iload_n hΓ 2 dX12_portion_42 rfl rfl ?_
      refine a_iload_n hΓ 3 dX12_portion_43 rfl rfl ?_
      refine a_iconst hΓ dX12_portion_44 ?_
      obtain ⟨P13, q14, h⟩ := h
      refine n_callV (c := 102) (av := [aI v1, aI v2, aI 4]) (st := [aI r11]) hΓ (ct_wX12_onDay _ _ v1 v2 4 M12 P13 q14) my_X12_onDay ml_RX12_130 ni_X12_onDay kd_102 rfl lz_102 rfl (Nat.le_trans (by decide) hh) (by decide) (Nat.le_of_ble_eq_true rfl) rfl dX12_portion_45 (fun v Z' hq => ?_)
      obtain ⟨r15, M16, rfl, rfl, hq⟩ := hq
      have h := h r15 M16 hq
      dsimp only at h
      refine a_imul hΓ dX12_portion_48 ?_
      refine a_iload hΓ 0 dX12_portion_49 rfl ?_
      refine a_imul hΓ dX12_portion_51 ?_
      exact a_iret hΓ hr dX12_portion_52 ⟨_, _, rfl, rfl, h⟩
    · rw [if_neg c8] at h
      refine a_iload hΓ 5 dX12_portion_53 rfl ?_
      refine a_iconst hΓ dX12_portion_55 ?_
      refine a_icmp_ne (tgt := 72) hΓ g5 (inRl (by decide)) dX12_portion_56 (by decide) (fun c17 => ?_) (fun c17 => ?_)
      · rw [if_pos c17] at h
        refine a_aload_n hΓ 1 dX12_portion_59 rfl rfl ?_
        refine a_iload_n hΓ 2 dX12_portion_60 rfl rfl ?_
        refine a_iload_n hΓ 3 dX12_portion_61 rfl rfl ?_
        refine a_iconst hΓ dX12_portion_62 ?_
        obtain ⟨P18, q19, h⟩ := h
        refine n_callV (c := 102) (av := [aI v1, aI v2, aI 5]) (st := []) hΓ (ct_wX12_onDay _ _ v1 v2 5 M4 P18 q19) my_X12_onDay ml_RX12_130 ni_X12_onDay kd_102 rfl lz_102 rfl (Nat.le_trans (by decide) hh) (by decide) (Nat.le_of_ble_eq_true rfl) rfl dX12_portion_63 (fun v Z' hq => ?_)
        obtain ⟨r20, M21, rfl, rfl, hq⟩ := hq
        have h := h r20 M21 hq
        dsimp only at h
        refine a_iload hΓ 0 dX12_portion_66 rfl ?_
        refine a_imul hΓ dX12_portion_68 ?_
        refine a_goto (tgt := 79) hΓ dX12_portion_69 (by decide) ?_
        exact a_iret hΓ hr dX12_portion_79 ⟨_, _, rfl, rfl, h⟩
      · rw [if_neg c17] at h
        refine a_iload hΓ 0 dX12_portion_72 rfl ?_
        refine a_iload hΓ 0 dX12_portion_74 rfl ?_
        refine a_imul hΓ dX12_portion_76 ?_
        refine a_iload_n hΓ 4 dX12_portion_77 rfl rfl ?_
        refine a_imul hΓ dX12_portion_78 ?_
        exact a_iret hΓ hr dX12_portion_79 ⟨_, _, rfl, rfl, h⟩
theorem ct_wX12_portion (l : Launch) (g : Gp) (v1 : Int) (v2 : Int) (v3 : Int) (v4 : Int) (M : Mm) (Q : Int → Mm → Prop) (h : wX12_portion v1 v2 v3 v4 M Q) : Ct l g yX12_portion cX12_portion 6 (some .int) 5 0 0 [aR 102, aI v1, aI v2, aI v3, aI v4] (NC, RF, M) (QI Q) :=
  ct_of (by decide) (Nat.le_of_ble_eq_true rfl) (fun Γ hg hl hr _ hΓ => by subst hg; subst hl; exact s_wX12_portion hΓ (by decide) hr v1 v2 v3 v4 M h)
def wX12_fuel (v1 : Int) (v2 : Int) (v3 : Int) (M : Mm) (Q : Int → Mm → Prop) : Prop :=
    Bd (wX12_portion v1 v2 v3 0 M) (fun r3 M4 =>
    Bd (wX12_portion v1 v2 v3 1 M4) (fun r7 M8 =>
    Bd (wX12_portion v1 v2 v3 2 M8) (fun r11 M12 =>
    Bd (wX12_portion v1 v2 v3 3 M12) (fun r15 M16 =>
    (inR (((r3 + r7) + r11) + r15)) ∧
    Q (Int.tdiv (((r3 + r7) + r11) + r15) 100) M16))))
set_option maxHeartbeats 4000000 in
theorem s_wX12_fuel {Γ : Cx} {h : Nat} (hΓ : Ok Γ cX12_fuel RX12 4 h 0 0) (hh : 6 ≤ h) (hr : (cxm Γ).sig.returnType = (some .int)) {Q : Int → Mm → Prop} (v1 : Int) (v2 : Int) (v3 : Int) (M : Mm) (h : wX12_fuel v1 v2 v3 M Q) : Wa Γ 4 (Kf Γ (QI Q) 0 0) 0 0 0 [(0, aR 102), (1, aI v1), (2, aI v2), (3, aI v3)] [] (NC, RF, M) := by
  unfold wX12_fuel at h
  refine a_aload_n hΓ 0 dX12_fuel_0 rfl rfl ?_
  refine a_iload_n hΓ 1 dX12_fuel_1 rfl rfl ?_
  refine a_iload_n hΓ 2 dX12_fuel_2 rfl rfl ?_
  refine a_iload_n hΓ 3 dX12_fuel_3 rfl rfl ?_
  refine a_iconst hΓ dX12_fuel_4 ?_
  obtain ⟨P1, q2, h⟩ := h
  refine n_callV (c := 102) (av := [aI v1, aI v2, aI v3, aI 0]) (st := []) hΓ (ct_wX12_portion _ _ v1 v2 v3 0 M P1 q2) my_X12_portion ml_RX12_140 ni_X12_portion kd_102 rfl lz_102 rfl (Nat.le_trans (by decide) hh) (by decide) (Nat.le_of_ble_eq_true rfl) rfl dX12_fuel_5 (fun v Z' hq => ?_)
  obtain ⟨r3, M4, rfl, rfl, hq⟩ := hq
  have h := h r3 M4 hq
  dsimp only at h
  refine a_aload_n hΓ 0 dX12_fuel_8 rfl rfl ?_
  refine a_iload_n hΓ 1 dX12_fuel_9 rfl rfl ?_
  refine a_iload_n hΓ 2 dX12_fuel_10 rfl rfl ?_
  refine a_iload_n hΓ 3 dX12_fuel_11 rfl rfl ?_
  refine a_iconst hΓ dX12_fuel_12 ?_
  obtain ⟨P5, q6, h⟩ := h
  refine n_callV (c := 102) (av := [aI v1, aI v2, aI v3, aI 1]) (st := [aI r3]) hΓ (ct_wX12_portion _ _ v1 v2 v3 1 M4 P5 q6) my_X12_portion ml_RX12_140 ni_X12_portion kd_102 rfl lz_102 rfl (Nat.le_trans (by decide) hh) (by decide) (Nat.le_of_ble_eq_true rfl) rfl dX12_fuel_13 (fun v Z' hq => ?_)
  obtain ⟨r7, M8, rfl, rfl, hq⟩ := hq
  have h := h r7 M8 hq
  dsimp only at h
  refine a_iadd hΓ dX12_fuel_16 ?_
  refine a_aload_n hΓ 0 dX12_fuel_17 rfl rfl ?_
  refine a_iload_n hΓ 1 dX12_fuel_18 rfl rfl ?_
  refine a_iload_n hΓ 2 dX12_fuel_19 rfl rfl ?_
  refine a_iload_n hΓ 3 dX12_fuel_20 rfl rfl ?_
  refine a_iconst hΓ dX12_fuel_21 ?_
  obtain ⟨P9, q10, h⟩ := h
  refine n_callV (c := 102) (av := [aI v1, aI v2, aI v3, aI 2]) (st := [aI (r3 + r7)]) hΓ (ct_wX12_portion _ _ v1 v2 v3 2 M8 P9 q10) my_X12_portion ml_RX12_140 ni_X12_portion kd_102 rfl lz_102 rfl (Nat.le_trans (by decide) hh) (by decide) (Nat.le_of_ble_eq_true rfl) rfl dX12_fuel_22 (fun v Z' hq => ?_)
  obtain ⟨r11, M12, rfl, rfl, hq⟩ := hq
  have h := h r11 M12 hq
  dsimp only at h
  refine a_iadd hΓ dX12_fuel_25 ?_
  refine a_aload_n hΓ 0 dX12_fuel_26 rfl rfl ?_
  refine a_iload_n hΓ 1 dX12_fuel_27 rfl rfl ?_
  refine a_iload_n hΓ 2 dX12_fuel_28 rfl rfl ?_
  refine a_iload_n hΓ 3 dX12_fuel_29 rfl rfl ?_
  refine a_iconst hΓ dX12_fuel_30 ?_
  obtain ⟨P13, q14, h⟩ := h
  refine n_callV (c := 102) (av := [aI v1, aI v2, aI v3, aI 3]) (st := [aI ((r3 + r7) + r11)]) hΓ (ct_wX12_portion _ _ v1 v2 v3 3 M12 P13 q14) my_X12_portion ml_RX12_140 ni_X12_portion kd_102 rfl lz_102 rfl (Nat.le_trans (by decide) hh) (by decide) (Nat.le_of_ble_eq_true rfl) rfl dX12_fuel_31 (fun v Z' hq => ?_)
  obtain ⟨r15, M16, rfl, rfl, hq⟩ := hq
  have h := h r15 M16 hq
  dsimp only at h
  refine a_iadd hΓ dX12_fuel_34 ?_
  refine a_bipush hΓ dX12_fuel_35 (by decide) ?_
  obtain ⟨g17, h⟩ := h
  refine a_idiv hΓ g17 (inRl (by decide)) (by decide) dX12_fuel_37 ?_
  exact a_iret hΓ hr dX12_fuel_38 ⟨_, _, rfl, rfl, h⟩
theorem ct_wX12_fuel (l : Launch) (g : Gp) (v1 : Int) (v2 : Int) (v3 : Int) (M : Mm) (Q : Int → Mm → Prop) (h : wX12_fuel v1 v2 v3 M Q) : Ct l g yX12_fuel cX12_fuel 4 (some .int) 6 0 0 [aR 102, aI v1, aI v2, aI v3] (NC, RF, M) (QI Q) :=
  ct_of (by decide) (Nat.le_of_ble_eq_true rfl) (fun Γ hg hl hr _ hΓ => by subst hg; subst hl; exact s_wX12_fuel hΓ (by decide) hr v1 v2 v3 M h)
def wX12_share_160 (Q : Int → Mm → Prop) (v6 : Int) (v7 : Int) (v8 : Int) (M : Mm) : Prop :=
    (inR v8) ∧
    (inR v7) ∧
    (inR v6) ∧
    (if v7 < v6 then
      Q ((Int.tdiv v8 100) + 1) M
    else
      Q ((Int.tdiv v8 100) + 0) M)
set_option maxHeartbeats 4000000 in
theorem s_wX12_share_160 {Γ : Cx} {h : Nat} (hΓ : Ok Γ cX12_share RX12 11 h 0 0) (hh : 7 ≤ h) (hr : (cxm Γ).sig.returnType = (some .int)) {Q : Int → Mm → Prop} {v6 v7 v8 : Int}   (M : Mm) (h : wX12_share_160 Q v6 v7 v8 M) : Wa Γ 11 (Kf Γ (QI Q) 0 0) 0 0 160 [(6, aI v6), (7, aI v7), (8, aI v8)] [] (NC, RF, M) := by
  unfold wX12_share_160 at h
  refine a_iload hΓ 2 dX12_share_160 rfl ?_
  refine a_bipush hΓ dX12_share_162 (by decide) ?_
  obtain ⟨g1, h⟩ := h
  refine a_idiv hΓ g1 (inRl (by decide)) (by decide) dX12_share_164 ?_
  refine a_iload hΓ 1 dX12_share_165 rfl ?_
  refine a_iload hΓ 0 dX12_share_167 rfl ?_
  obtain ⟨g2, h⟩ := h
  obtain ⟨g3, h⟩ := h
  refine a_icmp_ge (tgt := 176) hΓ g2 g3 dX12_share_169 (by decide) (fun c4 => ?_) (fun c4 => ?_)
  · rw [if_pos c4] at h
    refine a_iconst hΓ dX12_share_172 ?_
    refine a_goto (tgt := 177) hΓ dX12_share_173 (by decide) ?_
    refine a_iadd hΓ dX12_share_177 ?_
    exact a_iret hΓ hr dX12_share_178 ⟨_, _, rfl, rfl, h⟩
  · rw [if_neg c4] at h
    refine a_iconst hΓ dX12_share_176 ?_
    refine a_iadd hΓ dX12_share_177 ?_
    exact a_iret hΓ hr dX12_share_178 ⟨_, _, rfl, rfl, h⟩
def wX12_share_77 (Q : Int → Mm → Prop) (v1 : Int) (v2 : Int) (v3 : Int) (v4 : Int) (v8 : Int) : Nat → Int → Int → Int → Mm → Prop
  | 0, _, _, _, _ => False
  | f + 1, v6, v7, v9, M => (inR v9) ∧
    (if v9 < 4 then
      Bd (wX12_portion v1 v2 v3 v9 M) (fun r5 M6 =>
      (inR r5) ∧
      (inR v4) ∧
      (if v9 = v4 then
        (wX12_share_77 Q v1 v2 v3 v4 v8 f) (v6 - (Int.tdiv r5 100)) (v7 + 0) (v9 + 1) M6
      else
        (inR v8) ∧
        (inR (Int.tmod r5 100)) ∧
        (inR (Int.tmod v8 100)) ∧
        (if (Int.tmod r5 100) ≤ (Int.tmod v8 100) then
          (if (Int.tmod r5 100) = (Int.tmod v8 100) then
            (if v9 < v4 then
              (wX12_share_77 Q v1 v2 v3 v4 v8 f) (v6 - (Int.tdiv r5 100)) (v7 + 1) (v9 + 1) M6
            else
              (wX12_share_77 Q v1 v2 v3 v4 v8 f) (v6 - (Int.tdiv r5 100)) (v7 + 0) (v9 + 1) M6)
          else
            (wX12_share_77 Q v1 v2 v3 v4 v8 f) (v6 - (Int.tdiv r5 100)) (v7 + 0) (v9 + 1) M6)
        else
          (wX12_share_77 Q v1 v2 v3 v4 v8 f) (v6 - (Int.tdiv r5 100)) (v7 + 1) (v9 + 1) M6)))
    else
      wX12_share_160 Q v6 v7 v8 M)
set_option maxHeartbeats 4000000 in
theorem s_wX12_share_77 {Γ : Cx} {h : Nat} (hΓ : Ok Γ cX12_share RX12 11 h 0 0) (hh : 7 ≤ h) (hr : (cxm Γ).sig.returnType = (some .int)) {Q : Int → Mm → Prop} {v1 v2 v3 v4 v8 : Int}   : ∀ (f : Nat) (v6 : Int) (v7 : Int) (v9 : Int) (M : Mm), wX12_share_77 Q v1 v2 v3 v4 v8 f v6 v7 v9 M → Wa Γ 11 (Kf Γ (QI Q) 0 0) 0 0 77 [(0, aR 102), (1, aI v1), (2, aI v2), (3, aI v3), (4, aI v4), (6, aI v6), (7, aI v7), (8, aI v8), (9, aI v9)] [] (NC, RF, M) := by
  intro f
  induction f with
  | zero => intro v6 v7 v9 M h; exact h.elim
  | succ f ih =>
    intro v6 v7 v9 M h
    unfold wX12_share_77 at h
    refine a_iload hΓ 8 dX12_share_77 rfl ?_
    refine a_iconst hΓ dX12_share_79 ?_
    obtain ⟨g1, h⟩ := h
    refine a_icmp_ge (tgt := 160) hΓ g1 (inRl (by decide)) dX12_share_80 (by decide) (fun c2 => ?_) (fun c2 => ?_)
    · rw [if_pos c2] at h
      refine a_aload_n hΓ 0 dX12_share_83 rfl rfl ?_
      refine a_iload_n hΓ 1 dX12_share_84 rfl rfl ?_
      refine a_iload_n hΓ 2 dX12_share_85 rfl rfl ?_
      refine a_iload_n hΓ 3 dX12_share_86 rfl rfl ?_
      refine a_iload hΓ 8 dX12_share_87 rfl ?_
      obtain ⟨P3, q4, h⟩ := h
      refine n_callV (c := 102) (av := [aI v1, aI v2, aI v3, aI v9]) (st := []) hΓ (ct_wX12_portion _ _ v1 v2 v3 v9 M P3 q4) my_X12_portion ml_RX12_140 ni_X12_portion kd_102 rfl lz_102 rfl (Nat.le_trans (by decide) hh) (by decide) (Nat.le_of_ble_eq_true rfl) rfl dX12_share_89 (fun v Z' hq => ?_)
      obtain ⟨r5, M6, rfl, rfl, hq⟩ := hq
      have h := h r5 M6 hq
      dsimp only at h
      refine a_istore (ls' := [(10, aI r5), (0, aR 102), (1, aI v1), (2, aI v2), (3, aI v3), (4, aI v4), (6, aI v6), (7, aI v7), (8, aI v8), (9, aI v9)]) hΓ dX12_share_92 (by decide) rfl ?_
      refine a_iload hΓ 6 dX12_share_94 rfl ?_
      refine a_iload hΓ 0 dX12_share_96 rfl ?_
      refine a_bipush hΓ dX12_share_98 (by decide) ?_
      obtain ⟨g7, h⟩ := h
      refine a_idiv hΓ g7 (inRl (by decide)) (by decide) dX12_share_100 ?_
      refine a_isub hΓ dX12_share_101 ?_
      refine a_istore (ls' := [(6, aI (v6 - (Int.tdiv r5 100))), (10, aI r5), (0, aR 102), (1, aI v1), (2, aI v2), (3, aI v3), (4, aI v4), (7, aI v7), (8, aI v8), (9, aI v9)]) hΓ dX12_share_102 (by decide) rfl ?_
      refine a_iload hΓ 7 dX12_share_104 rfl ?_
      refine a_iload hΓ 9 dX12_share_106 rfl ?_
      refine a_iload hΓ 6 dX12_share_108 rfl ?_
      obtain ⟨g8, h⟩ := h
      refine a_icmp_eq (tgt := 150) hΓ g1 g8 dX12_share_110 (by decide) (fun c9 => ?_) (fun c9 => ?_)
      · rw [if_pos c9] at h
        refine a_iconst hΓ dX12_share_150 ?_
        refine a_iadd hΓ dX12_share_151 ?_
        refine a_istore (ls' := [(7, aI (v7 + 0)), (6, aI (v6 - (Int.tdiv r5 100))), (10, aI r5), (0, aR 102), (1, aI v1), (2, aI v2), (3, aI v3), (4, aI v4), (8, aI v8), (9, aI v9)]) hΓ dX12_share_152 (by decide) rfl ?_
        refine a_iinc (ls' := [(9, aI (v9 + 1)), (7, aI (v7 + 0)), (6, aI (v6 - (Int.tdiv r5 100))), (10, aI r5), (0, aR 102), (1, aI v1), (2, aI v2), (3, aI v3), (4, aI v4), (8, aI v8)]) hΓ 9 dX12_share_154 rfl (by decide) rfl ?_
        refine a_goto (tgt := 77) hΓ dX12_share_157 (by decide) ?_
        refine a_sub (ls' := [(0, aR 102), (1, aI v1), (2, aI v2), (3, aI v3), (4, aI v4), (6, aI (v6 - (Int.tdiv r5 100))), (7, aI (v7 + 0)), (8, aI v8), (9, aI (v9 + 1))]) [4, 5, 6, 7, 8, 2, 1, 9, 0] rfl ?_
        exact ih (v6 - (Int.tdiv r5 100)) (v7 + 0) (v9 + 1) M6 h
      · rw [if_neg c9] at h
        refine a_iload hΓ 1 dX12_share_113 rfl ?_
        refine a_bipush hΓ dX12_share_115 (by decide) ?_
        refine a_irem hΓ g7 (inRl (by decide)) (by decide) dX12_share_117 ?_
        refine a_iload hΓ 8 dX12_share_118 rfl ?_
        refine a_bipush hΓ dX12_share_120 (by decide) ?_
        obtain ⟨g10, h⟩ := h
        refine a_irem hΓ g10 (inRl (by decide)) (by decide) dX12_share_122 ?_
        obtain ⟨g11, h⟩ := h
        obtain ⟨g12, h⟩ := h
        refine a_icmp_gt (tgt := 146) hΓ g11 g12 dX12_share_123 (by decide) (fun c13 => ?_) (fun c13 => ?_)
        · rw [if_pos c13] at h
          refine a_iload hΓ 1 dX12_share_126 rfl ?_
          refine a_bipush hΓ dX12_share_128 (by decide) ?_
          refine a_irem hΓ g7 (inRl (by decide)) (by decide) dX12_share_130 ?_
          refine a_iload hΓ 8 dX12_share_131 rfl ?_
          refine a_bipush hΓ dX12_share_133 (by decide) ?_
          refine a_irem hΓ g10 (inRl (by decide)) (by decide) dX12_share_135 ?_
          refine a_icmp_ne (tgt := 150) hΓ g11 g12 dX12_share_136 (by decide) (fun c14 => ?_) (fun c14 => ?_)
          · rw [if_pos c14] at h
            refine a_iload hΓ 9 dX12_share_139 rfl ?_
            refine a_iload hΓ 6 dX12_share_141 rfl ?_
            refine a_icmp_ge (tgt := 150) hΓ g1 g8 dX12_share_143 (by decide) (fun c15 => ?_) (fun c15 => ?_)
            · rw [if_pos c15] at h
              refine a_iconst hΓ dX12_share_146 ?_
              refine a_goto (tgt := 151) hΓ dX12_share_147 (by decide) ?_
              refine a_iadd hΓ dX12_share_151 ?_
              refine a_istore (ls' := [(7, aI (v7 + 1)), (6, aI (v6 - (Int.tdiv r5 100))), (10, aI r5), (0, aR 102), (1, aI v1), (2, aI v2), (3, aI v3), (4, aI v4), (8, aI v8), (9, aI v9)]) hΓ dX12_share_152 (by decide) rfl ?_
              refine a_iinc (ls' := [(9, aI (v9 + 1)), (7, aI (v7 + 1)), (6, aI (v6 - (Int.tdiv r5 100))), (10, aI r5), (0, aR 102), (1, aI v1), (2, aI v2), (3, aI v3), (4, aI v4), (8, aI v8)]) hΓ 9 dX12_share_154 rfl (by decide) rfl ?_
              refine a_goto (tgt := 77) hΓ dX12_share_157 (by decide) ?_
              refine a_sub (ls' := [(0, aR 102), (1, aI v1), (2, aI v2), (3, aI v3), (4, aI v4), (6, aI (v6 - (Int.tdiv r5 100))), (7, aI (v7 + 1)), (8, aI v8), (9, aI (v9 + 1))]) [4, 5, 6, 7, 8, 2, 1, 9, 0] rfl ?_
              exact ih (v6 - (Int.tdiv r5 100)) (v7 + 1) (v9 + 1) M6 h
            · rw [if_neg c15] at h
              refine a_iconst hΓ dX12_share_150 ?_
              refine a_iadd hΓ dX12_share_151 ?_
              refine a_istore (ls' := [(7, aI (v7 + 0)), (6, aI (v6 - (Int.tdiv r5 100))), (10, aI r5), (0, aR 102), (1, aI v1), (2, aI v2), (3, aI v3), (4, aI v4), (8, aI v8), (9, aI v9)]) hΓ dX12_share_152 (by decide) rfl ?_
              refine a_iinc (ls' := [(9, aI (v9 + 1)), (7, aI (v7 + 0)), (6, aI (v6 - (Int.tdiv r5 100))), (10, aI r5), (0, aR 102), (1, aI v1), (2, aI v2), (3, aI v3), (4, aI v4), (8, aI v8)]) hΓ 9 dX12_share_154 rfl (by decide) rfl ?_
              refine a_goto (tgt := 77) hΓ dX12_share_157 (by decide) ?_
              refine a_sub (ls' := [(0, aR 102), (1, aI v1), (2, aI v2), (3, aI v3), (4, aI v4), (6, aI (v6 - (Int.tdiv r5 100))), (7, aI (v7 + 0)), (8, aI v8), (9, aI (v9 + 1))]) [4, 5, 6, 7, 8, 2, 1, 9, 0] rfl ?_
              exact ih (v6 - (Int.tdiv r5 100)) (v7 + 0) (v9 + 1) M6 h
          · rw [if_neg c14] at h
            refine a_iconst hΓ dX12_share_150 ?_
            refine a_iadd hΓ dX12_share_151 ?_
            refine a_istore (ls' := [(7, aI (v7 + 0)), (6, aI (v6 - (Int.tdiv r5 100))), (10, aI r5), (0, aR 102), (1, aI v1), (2, aI v2), (3, aI v3), (4, aI v4), (8, aI v8), (9, aI v9)]) hΓ dX12_share_152 (by decide) rfl ?_
            refine a_iinc (ls' := [(9, aI (v9 + 1)), (7, aI (v7 + 0)), (6, aI (v6 - (Int.tdiv r5 100))), (10, aI r5), (0, aR 102), (1, aI v1), (2, aI v2), (3, aI v3), (4, aI v4), (8, aI v8)]) hΓ 9 dX12_share_154 rfl (by decide) rfl ?_
            refine a_goto (tgt := 77) hΓ dX12_share_157 (by decide) ?_
            refine a_sub (ls' := [(0, aR 102), (1, aI v1), (2, aI v2), (3, aI v3), (4, aI v4), (6, aI (v6 - (Int.tdiv r5 100))), (7, aI (v7 + 0)), (8, aI v8), (9, aI (v9 + 1))]) [4, 5, 6, 7, 8, 2, 1, 9, 0] rfl ?_
            exact ih (v6 - (Int.tdiv r5 100)) (v7 + 0) (v9 + 1) M6 h
        · rw [if_neg c13] at h
          refine a_iconst hΓ dX12_share_146 ?_
          refine a_goto (tgt := 151) hΓ dX12_share_147 (by decide) ?_
          refine a_iadd hΓ dX12_share_151 ?_
          refine a_istore (ls' := [(7, aI (v7 + 1)), (6, aI (v6 - (Int.tdiv r5 100))), (10, aI r5), (0, aR 102), (1, aI v1), (2, aI v2), (3, aI v3), (4, aI v4), (8, aI v8), (9, aI v9)]) hΓ dX12_share_152 (by decide) rfl ?_
          refine a_iinc (ls' := [(9, aI (v9 + 1)), (7, aI (v7 + 1)), (6, aI (v6 - (Int.tdiv r5 100))), (10, aI r5), (0, aR 102), (1, aI v1), (2, aI v2), (3, aI v3), (4, aI v4), (8, aI v8)]) hΓ 9 dX12_share_154 rfl (by decide) rfl ?_
          refine a_goto (tgt := 77) hΓ dX12_share_157 (by decide) ?_
          refine a_sub (ls' := [(0, aR 102), (1, aI v1), (2, aI v2), (3, aI v3), (4, aI v4), (6, aI (v6 - (Int.tdiv r5 100))), (7, aI (v7 + 1)), (8, aI v8), (9, aI (v9 + 1))]) [4, 5, 6, 7, 8, 2, 1, 9, 0] rfl ?_
          exact ih (v6 - (Int.tdiv r5 100)) (v7 + 1) (v9 + 1) M6 h
    · rw [if_neg c2] at h
      refine a_sub (ls' := [(6, aI v6), (7, aI v7), (8, aI v8)]) [5, 6, 7] rfl ?_
      exact s_wX12_share_160 hΓ (Nat.le_trans (by decide) hh) hr  M h
def wX12_share (v1 : Int) (v2 : Int) (v3 : Int) (v4 : Int) (M : Mm) (Q : Int → Mm → Prop) : Prop :=
    Bd (wX12_isShip v1 M) (fun r3 M4 =>
    (inR r3) ∧
    (if r3 = 0 then
      Q (-1) M4
    else
      Bd (wX12_isDay v2 M4) (fun r9 M10 =>
      (inR r9) ∧
      (if r9 = 0 then
        Q (-1) M10
      else
        Bd (wX12_in v3 0 1000 M10) (fun r15 M16 =>
        (inR r15) ∧
        (if r15 = 0 then
          Q (-1) M16
        else
          Bd (wX12_in v4 0 4 M16) (fun r21 M22 =>
          (inR r21) ∧
          (if r21 = 0 then
            Q (-1) M22
          else
            Bd (wX12_fuel v1 v2 v3 M22) (fun r27 M28 =>
            (inR v4) ∧
            (if v4 = 4 then
              Q r27 M28
            else
              Bd (wX12_portion v1 v2 v3 v4 M28) (fun r33 M34 =>
              ∃ n, wX12_share_77 Q v1 v2 v3 v4 r33 n r27 0 0 M34)))))))))))
set_option maxHeartbeats 4000000 in
theorem s_wX12_share {Γ : Cx} {h : Nat} (hΓ : Ok Γ cX12_share RX12 11 h 0 0) (hh : 7 ≤ h) (hr : (cxm Γ).sig.returnType = (some .int)) {Q : Int → Mm → Prop} (v1 : Int) (v2 : Int) (v3 : Int) (v4 : Int) (M : Mm) (h : wX12_share v1 v2 v3 v4 M Q) : Wa Γ 11 (Kf Γ (QI Q) 0 0) 0 0 0 [(0, aR 102), (1, aI v1), (2, aI v2), (3, aI v3), (4, aI v4)] [] (NC, RF, M) := by
  unfold wX12_share at h
  refine a_aload_n hΓ 0 dX12_share_0 rfl rfl ?_
  refine a_iload_n hΓ 1 dX12_share_1 rfl rfl ?_
  obtain ⟨P1, q2, h⟩ := h
  refine n_callV (c := 102) (av := [aI v1]) (st := []) hΓ (ct_wX12_isShip _ _ v1 M P1 q2) my_X12_isShip ml_RX12_113 ni_X12_isShip kd_102 rfl lz_102 rfl (Nat.le_trans (by decide) hh) (by decide) (Nat.le_of_ble_eq_true rfl) rfl dX12_share_2 (fun v Z' hq => ?_)
  obtain ⟨r3, M4, rfl, rfl, hq⟩ := hq
  have h := h r3 M4 hq
  dsimp only at h
  obtain ⟨g5, h⟩ := h
  refine a_if_eq (tgt := 36) hΓ g5 dX12_share_5 (by decide) (fun c6 => ?_) (fun c6 => ?_)
  · rw [if_pos c6] at h
    refine a_iconst hΓ dX12_share_36 ?_
    exact a_iret hΓ hr dX12_share_37 ⟨_, _, rfl, rfl, h⟩
  · rw [if_neg c6] at h
    refine a_iload_n hΓ 2 dX12_share_8 rfl rfl ?_
    obtain ⟨P7, q8, h⟩ := h
    refine n_callS (av := [aI v2]) (st := []) hΓ (ct_wX12_isDay _ _ v2 M4 P7 q8) my_X12_isDay ml_RX12_109 rfl (Nat.le_trans (by decide) hh) (by decide) (Nat.le_of_ble_eq_true rfl) rfl dX12_share_9 (fun v Z' hq => ?_)
    obtain ⟨r9, M10, rfl, rfl, hq⟩ := hq
    have h := h r9 M10 hq
    dsimp only at h
    obtain ⟨g11, h⟩ := h
    refine a_if_eq (tgt := 36) hΓ g11 dX12_share_12 (by decide) (fun c12 => ?_) (fun c12 => ?_)
    · rw [if_pos c12] at h
      refine a_iconst hΓ dX12_share_36 ?_
      exact a_iret hΓ hr dX12_share_37 ⟨_, _, rfl, rfl, h⟩
    · rw [if_neg c12] at h
      refine a_iload_n hΓ 3 dX12_share_15 rfl rfl ?_
      refine a_iconst hΓ dX12_share_16 ?_
      refine a_sipush hΓ dX12_share_17 (by decide) ?_
      obtain ⟨P13, q14, h⟩ := h
      refine n_callS (av := [aI v3, aI 0, aI 1000]) (st := []) hΓ (ct_wX12_in _ _ v3 0 1000 M10 P13 q14) my_X12_in ml_RX12_3 rfl (Nat.le_trans (by decide) hh) (by decide) (Nat.le_of_ble_eq_true rfl) rfl dX12_share_20 (fun v Z' hq => ?_)
      obtain ⟨r15, M16, rfl, rfl, hq⟩ := hq
      have h := h r15 M16 hq
      dsimp only at h
      obtain ⟨g17, h⟩ := h
      refine a_if_eq (tgt := 36) hΓ g17 dX12_share_23 (by decide) (fun c18 => ?_) (fun c18 => ?_)
      · rw [if_pos c18] at h
        refine a_iconst hΓ dX12_share_36 ?_
        exact a_iret hΓ hr dX12_share_37 ⟨_, _, rfl, rfl, h⟩
      · rw [if_neg c18] at h
        refine a_iload hΓ 4 dX12_share_26 rfl ?_
        refine a_iconst hΓ dX12_share_28 ?_
        refine a_iconst hΓ dX12_share_29 ?_
        obtain ⟨P19, q20, h⟩ := h
        refine n_callS (av := [aI v4, aI 0, aI 4]) (st := []) hΓ (ct_wX12_in _ _ v4 0 4 M16 P19 q20) my_X12_in ml_RX12_3 rfl (Nat.le_trans (by decide) hh) (by decide) (Nat.le_of_ble_eq_true rfl) rfl dX12_share_30 (fun v Z' hq => ?_)
        obtain ⟨r21, M22, rfl, rfl, hq⟩ := hq
        have h := h r21 M22 hq
        dsimp only at h
        obtain ⟨g23, h⟩ := h
        refine a_if_ne (tgt := 38) hΓ g23 dX12_share_33 (by decide) (fun c24 => ?_) (fun c24 => ?_)
        · rw [if_pos c24] at h
          refine a_iconst hΓ dX12_share_36 ?_
          exact a_iret hΓ hr dX12_share_37 ⟨_, _, rfl, rfl, h⟩
        · rw [if_neg c24] at h
          refine a_aload_n hΓ 0 dX12_share_38 rfl rfl ?_
          refine a_iload_n hΓ 1 dX12_share_39 rfl rfl ?_
          refine a_iload_n hΓ 2 dX12_share_40 rfl rfl ?_
          refine a_iload_n hΓ 3 dX12_share_41 rfl rfl ?_
          obtain ⟨P25, q26, h⟩ := h
          refine n_callV (c := 102) (av := [aI v1, aI v2, aI v3]) (st := []) hΓ (ct_wX12_fuel _ _ v1 v2 v3 M22 P25 q26) my_X12_fuel ml_RX12_144 ni_X12_fuel kd_102 rfl lz_102 rfl (Nat.le_trans (by decide) hh) (by decide) (Nat.le_of_ble_eq_true rfl) rfl dX12_share_42 (fun v Z' hq => ?_)
          obtain ⟨r27, M28, rfl, rfl, hq⟩ := hq
          have h := h r27 M28 hq
          dsimp only at h
          refine a_istore (ls' := [(5, aI r27), (0, aR 102), (1, aI v1), (2, aI v2), (3, aI v3), (4, aI v4)]) hΓ dX12_share_45 (by decide) rfl ?_
          refine a_iload hΓ 5 dX12_share_47 rfl ?_
          refine a_iconst hΓ dX12_share_49 ?_
          obtain ⟨g29, h⟩ := h
          refine a_icmp_ne (tgt := 56) hΓ g29 (inRl (by decide)) dX12_share_50 (by decide) (fun c30 => ?_) (fun c30 => ?_)
          · rw [if_pos c30] at h
            refine a_iload hΓ 0 dX12_share_53 rfl ?_
            exact a_iret hΓ hr dX12_share_55 ⟨_, _, rfl, rfl, h⟩
          · rw [if_neg c30] at h
            refine a_iload hΓ 0 dX12_share_56 rfl ?_
            refine a_istore (ls' := [(6, aI r27), (5, aI r27), (0, aR 102), (1, aI v1), (2, aI v2), (3, aI v3), (4, aI v4)]) hΓ dX12_share_58 (by decide) rfl ?_
            refine a_iconst hΓ dX12_share_60 ?_
            refine a_istore (ls' := [(7, aI 0), (6, aI r27), (5, aI r27), (0, aR 102), (1, aI v1), (2, aI v2), (3, aI v3), (4, aI v4)]) hΓ dX12_share_61 (by decide) rfl ?_
            refine a_aload_n hΓ 3 dX12_share_63 rfl rfl ?_
            refine a_iload_n hΓ 4 dX12_share_64 rfl rfl ?_
            refine a_iload_n hΓ 5 dX12_share_65 rfl rfl ?_
            refine a_iload_n hΓ 6 dX12_share_66 rfl rfl ?_
            refine a_iload hΓ 7 dX12_share_67 rfl ?_
            obtain ⟨P31, q32, h⟩ := h
            refine n_callV (c := 102) (av := [aI v1, aI v2, aI v3, aI v4]) (st := []) hΓ (ct_wX12_portion _ _ v1 v2 v3 v4 M28 P31 q32) my_X12_portion ml_RX12_140 ni_X12_portion kd_102 rfl lz_102 rfl (Nat.le_trans (by decide) hh) (by decide) (Nat.le_of_ble_eq_true rfl) rfl dX12_share_69 (fun v Z' hq => ?_)
            obtain ⟨r33, M34, rfl, rfl, hq⟩ := hq
            have h := h r33 M34 hq
            dsimp only at h
            refine a_istore (ls' := [(8, aI r33), (7, aI 0), (6, aI r27), (5, aI r27), (0, aR 102), (1, aI v1), (2, aI v2), (3, aI v3), (4, aI v4)]) hΓ dX12_share_72 (by decide) rfl ?_
            refine a_iconst hΓ dX12_share_74 ?_
            refine a_istore (ls' := [(9, aI 0), (8, aI r33), (7, aI 0), (6, aI r27), (5, aI r27), (0, aR 102), (1, aI v1), (2, aI v2), (3, aI v3), (4, aI v4)]) hΓ dX12_share_75 (by decide) rfl ?_
            refine a_sub (ls' := [(0, aR 102), (1, aI v1), (2, aI v2), (3, aI v3), (4, aI v4), (6, aI r27), (7, aI 0), (8, aI r33), (9, aI 0)]) [5, 6, 7, 8, 9, 3, 2, 1, 0] rfl ?_
            obtain ⟨f35, h⟩ := h
            exact s_wX12_share_77 hΓ (Nat.le_trans (by decide) hh) hr  f35 r27 0 0 M34 h
theorem ct_wX12_share (l : Launch) (g : Gp) (v1 : Int) (v2 : Int) (v3 : Int) (v4 : Int) (M : Mm) (Q : Int → Mm → Prop) (h : wX12_share v1 v2 v3 v4 M Q) : Ct l g yX12_share cX12_share 11 (some .int) 7 0 0 [aR 102, aI v1, aI v2, aI v3, aI v4] (NC, RF, M) (QI Q) :=
  ct_of (by decide) (Nat.le_of_ble_eq_true rfl) (fun Γ hg hl hr _ hΓ => by subst hg; subst hl; exact s_wX12_share hΓ (by decide) hr v1 v2 v3 v4 M h)
def wX12_skin (v1 : Int) (v2 : Int) (v3 : Int) (M : Mm) (Q : Int → Mm → Prop) : Prop :=
    Bd (wX12_portion v1 v2 v3 3 M) (fun r3 M4 =>
    (inR r3) ∧
    Q (Int.tdiv r3 100) M4)
set_option maxHeartbeats 4000000 in
theorem s_wX12_skin {Γ : Cx} {h : Nat} (hΓ : Ok Γ cX12_skin RX12 4 h 0 0) (hh : 6 ≤ h) (hr : (cxm Γ).sig.returnType = (some .int)) {Q : Int → Mm → Prop} (v1 : Int) (v2 : Int) (v3 : Int) (M : Mm) (h : wX12_skin v1 v2 v3 M Q) : Wa Γ 4 (Kf Γ (QI Q) 0 0) 0 0 0 [(0, aR 102), (1, aI v1), (2, aI v2), (3, aI v3)] [] (NC, RF, M) := by
  unfold wX12_skin at h
  refine a_aload_n hΓ 0 dX12_skin_0 rfl rfl ?_
  refine a_iload_n hΓ 1 dX12_skin_1 rfl rfl ?_
  refine a_iload_n hΓ 2 dX12_skin_2 rfl rfl ?_
  refine a_iload_n hΓ 3 dX12_skin_3 rfl rfl ?_
  refine a_iconst hΓ dX12_skin_4 ?_
  obtain ⟨P1, q2, h⟩ := h
  refine n_callV (c := 102) (av := [aI v1, aI v2, aI v3, aI 3]) (st := []) hΓ (ct_wX12_portion _ _ v1 v2 v3 3 M P1 q2) my_X12_portion ml_RX12_140 ni_X12_portion kd_102 rfl lz_102 rfl (Nat.le_trans (by decide) hh) (by decide) (Nat.le_of_ble_eq_true rfl) rfl dX12_skin_5 (fun v Z' hq => ?_)
  obtain ⟨r3, M4, rfl, rfl, hq⟩ := hq
  have h := h r3 M4 hq
  dsimp only at h
  refine a_bipush hΓ dX12_skin_8 (by decide) ?_
  obtain ⟨g5, h⟩ := h
  refine a_idiv hΓ g5 (inRl (by decide)) (by decide) dX12_skin_10 ?_
  exact a_iret hΓ hr dX12_skin_11 ⟨_, _, rfl, rfl, h⟩
theorem ct_wX12_skin (l : Launch) (g : Gp) (v1 : Int) (v2 : Int) (v3 : Int) (M : Mm) (Q : Int → Mm → Prop) (h : wX12_skin v1 v2 v3 M Q) : Ct l g yX12_skin cX12_skin 4 (some .int) 6 0 0 [aR 102, aI v1, aI v2, aI v3] (NC, RF, M) (QI Q) :=
  ct_of (by decide) (Nat.le_of_ble_eq_true rfl) (fun Γ hg hl hr _ hΓ => by subst hg; subst hl; exact s_wX12_skin hΓ (by decide) hr v1 v2 v3 M h)
def wX12_adds (v1 : Int) (v2 : Int) (v3 : Int) (v4 : Int) (v5 : Int) (v6 : Int) (v7 : Int) (M : Mm) (Q : Int → Mm → Prop) : Prop :=
    Bd (wX12_many 3 M) (fun r3 M4 =>
    (0 ≤ (503 + (9 * r3)) ∧ (503 + (9 * r3)) < 730) ∧
    (0 ≤ ((503 + (9 * r3)) + 1) ∧ ((503 + (9 * r3)) + 1) < 730) ∧
    (0 ≤ ((503 + (9 * r3)) + 2) ∧ ((503 + (9 * r3)) + 2) < 730) ∧
    (0 ≤ ((503 + (9 * r3)) + 3) ∧ ((503 + (9 * r3)) + 3) < 730) ∧
    (0 ≤ ((503 + (9 * r3)) + 4) ∧ ((503 + (9 * r3)) + 4) < 730) ∧
    (0 ≤ ((503 + (9 * r3)) + 5) ∧ ((503 + (9 * r3)) + 5) < 730) ∧
    (0 ≤ ((503 + (9 * r3)) + 6) ∧ ((503 + (9 * r3)) + 6) < 730) ∧
    (0 ≤ ((503 + (9 * r3)) + 7) ∧ ((503 + (9 * r3)) + 7) < 730) ∧
    Q r3 (up (up (up (up (up (up (up (up (up M4 103 (503 + (9 * r3)) v1) 103 ((503 + (9 * r3)) + 1) v2) 103 ((503 + (9 * r3)) + 2) v3) 103 ((503 + (9 * r3)) + 3) v4) 103 ((503 + (9 * r3)) + 4) v5) 103 ((503 + (9 * r3)) + 5) v6) 103 ((503 + (9 * r3)) + 6) v7) 103 ((503 + (9 * r3)) + 7) 0) 103 724 (((up (up (up (up (up (up (up (up M4 103 (503 + (9 * r3)) v1) 103 ((503 + (9 * r3)) + 1) v2) 103 ((503 + (9 * r3)) + 2) v3) 103 ((503 + (9 * r3)) + 3) v4) 103 ((503 + (9 * r3)) + 4) v5) 103 ((503 + (9 * r3)) + 5) v6) 103 ((503 + (9 * r3)) + 6) v7) 103 ((503 + (9 * r3)) + 7) 0) 103 724) + 1)))
set_option maxHeartbeats 4000000 in
theorem s_wX12_adds {Γ : Cx} {h : Nat} (hΓ : Ok Γ cX12_adds RX12 10 h 0 0) (hh : 2 ≤ h) (hr : (cxm Γ).sig.returnType = (some .int)) {Q : Int → Mm → Prop} (v1 : Int) (v2 : Int) (v3 : Int) (v4 : Int) (v5 : Int) (v6 : Int) (v7 : Int) (M : Mm) (h : wX12_adds v1 v2 v3 v4 v5 v6 v7 M Q) : Wa Γ 10 (Kf Γ (QI Q) 0 0) 0 0 0 [(0, aR 102), (1, aI v1), (2, aI v2), (3, aI v3), (4, aI v4), (5, aI v5), (6, aI v6), (7, aI v7)] [] (NC, RF, M) := by
  unfold wX12_adds at h
  refine a_aload_n hΓ 0 dX12_adds_0 rfl rfl ?_
  refine a_iconst hΓ dX12_adds_1 ?_
  obtain ⟨P1, q2, h⟩ := h
  refine n_callV (c := 102) (av := [aI 3]) (st := []) hΓ (ct_wX12_many _ _ 3 M P1 q2) my_X12_many ml_RX12_102 ni_X12_many kd_102 rfl lz_102 rfl (Nat.le_trans (by decide) hh) (by decide) (Nat.le_of_ble_eq_true rfl) rfl dX12_adds_2 (fun v Z' hq => ?_)
  obtain ⟨r3, M4, rfl, rfl, hq⟩ := hq
  have h := h r3 M4 hq
  dsimp only at h
  refine a_istore (ls' := [(8, aI r3), (0, aR 102), (1, aI v1), (2, aI v2), (3, aI v3), (4, aI v4), (5, aI v5), (6, aI v6), (7, aI v7)]) hΓ dX12_adds_5 (by decide) rfl ?_
  refine a_sipush hΓ dX12_adds_7 (by decide) ?_
  refine a_bipush hΓ dX12_adds_10 (by decide) ?_
  refine a_iload hΓ 0 dX12_adds_12 rfl ?_
  refine a_imul hΓ dX12_adds_14 ?_
  refine a_iadd hΓ dX12_adds_15 ?_
  refine a_istore (ls' := [(9, aI (503 + (9 * r3))), (8, aI r3), (0, aR 102), (1, aI v1), (2, aI v2), (3, aI v3), (4, aI v4), (5, aI v5), (6, aI v6), (7, aI v7)]) hΓ dX12_adds_16 (by decide) rfl ?_
  refine a_aload_n hΓ 2 dX12_adds_18 rfl rfl ?_
  refine n_getR hΓ fl_RX12_17 cl_12 kd_102 lz_102 dX12_adds_19 ft_12_1 rf_102_1 ?_
  refine a_iload hΓ 0 dX12_adds_22 rfl ?_
  refine a_iload_n hΓ 3 dX12_adds_24 rfl rfl ?_
  obtain ⟨g5, h⟩ := h
  refine a_iast hΓ dX12_adds_25 kd_103 lz_103 g5 ?_
  refine a_aload_n hΓ 2 dX12_adds_26 rfl rfl ?_
  refine n_getR hΓ fl_RX12_17 cl_12 kd_102 lz_102 dX12_adds_27 ft_12_1 rf_102_1 ?_
  refine a_iload hΓ 0 dX12_adds_30 rfl ?_
  refine a_iconst hΓ dX12_adds_32 ?_
  refine a_iadd hΓ dX12_adds_33 ?_
  refine a_iload_n hΓ 4 dX12_adds_34 rfl rfl ?_
  obtain ⟨g6, h⟩ := h
  refine a_iast hΓ dX12_adds_35 kd_103 lz_103 g6 ?_
  refine a_aload_n hΓ 2 dX12_adds_36 rfl rfl ?_
  refine n_getR hΓ fl_RX12_17 cl_12 kd_102 lz_102 dX12_adds_37 ft_12_1 rf_102_1 ?_
  refine a_iload hΓ 0 dX12_adds_40 rfl ?_
  refine a_iconst hΓ dX12_adds_42 ?_
  refine a_iadd hΓ dX12_adds_43 ?_
  refine a_iload_n hΓ 5 dX12_adds_44 rfl rfl ?_
  obtain ⟨g7, h⟩ := h
  refine a_iast hΓ dX12_adds_45 kd_103 lz_103 g7 ?_
  refine a_aload_n hΓ 2 dX12_adds_46 rfl rfl ?_
  refine n_getR hΓ fl_RX12_17 cl_12 kd_102 lz_102 dX12_adds_47 ft_12_1 rf_102_1 ?_
  refine a_iload hΓ 0 dX12_adds_50 rfl ?_
  refine a_iconst hΓ dX12_adds_52 ?_
  refine a_iadd hΓ dX12_adds_53 ?_
  refine a_iload hΓ 6 dX12_adds_54 rfl ?_
  obtain ⟨g8, h⟩ := h
  refine a_iast hΓ dX12_adds_56 kd_103 lz_103 g8 ?_
  refine a_aload_n hΓ 2 dX12_adds_57 rfl rfl ?_
  refine n_getR hΓ fl_RX12_17 cl_12 kd_102 lz_102 dX12_adds_58 ft_12_1 rf_102_1 ?_
  refine a_iload hΓ 0 dX12_adds_61 rfl ?_
  refine a_iconst hΓ dX12_adds_63 ?_
  refine a_iadd hΓ dX12_adds_64 ?_
  refine a_iload hΓ 7 dX12_adds_65 rfl ?_
  obtain ⟨g9, h⟩ := h
  refine a_iast hΓ dX12_adds_67 kd_103 lz_103 g9 ?_
  refine a_aload_n hΓ 2 dX12_adds_68 rfl rfl ?_
  refine n_getR hΓ fl_RX12_17 cl_12 kd_102 lz_102 dX12_adds_69 ft_12_1 rf_102_1 ?_
  refine a_iload hΓ 0 dX12_adds_72 rfl ?_
  refine a_iconst hΓ dX12_adds_74 ?_
  refine a_iadd hΓ dX12_adds_75 ?_
  refine a_iload hΓ 8 dX12_adds_76 rfl ?_
  obtain ⟨g10, h⟩ := h
  refine a_iast hΓ dX12_adds_78 kd_103 lz_103 g10 ?_
  refine a_aload_n hΓ 2 dX12_adds_79 rfl rfl ?_
  refine n_getR hΓ fl_RX12_17 cl_12 kd_102 lz_102 dX12_adds_80 ft_12_1 rf_102_1 ?_
  refine a_iload hΓ 0 dX12_adds_83 rfl ?_
  refine a_bipush hΓ dX12_adds_85 (by decide) ?_
  refine a_iadd hΓ dX12_adds_87 ?_
  refine a_iload hΓ 9 dX12_adds_88 rfl ?_
  obtain ⟨g11, h⟩ := h
  refine a_iast hΓ dX12_adds_90 kd_103 lz_103 g11 ?_
  refine a_aload_n hΓ 2 dX12_adds_91 rfl rfl ?_
  refine n_getR hΓ fl_RX12_17 cl_12 kd_102 lz_102 dX12_adds_92 ft_12_1 rf_102_1 ?_
  refine a_iload hΓ 0 dX12_adds_95 rfl ?_
  refine a_bipush hΓ dX12_adds_97 (by decide) ?_
  refine a_iadd hΓ dX12_adds_99 ?_
  refine a_iconst hΓ dX12_adds_100 ?_
  obtain ⟨g12, h⟩ := h
  refine a_iast hΓ dX12_adds_101 kd_103 lz_103 g12 ?_
  refine a_aload_n hΓ 2 dX12_adds_102 rfl rfl ?_
  refine n_getR hΓ fl_RX12_17 cl_12 kd_102 lz_102 dX12_adds_103 ft_12_1 rf_102_1 ?_
  refine a_sipush hΓ dX12_adds_106 (by decide) ?_
  refine a_dup2 hΓ dX12_adds_109 ?_
  refine n_iald (x := ((up (up (up (up (up (up (up (up M4 103 (503 + (9 * r3)) v1) 103 ((503 + (9 * r3)) + 1) v2) 103 ((503 + (9 * r3)) + 2) v3) 103 ((503 + (9 * r3)) + 3) v4) 103 ((503 + (9 * r3)) + 4) v5) 103 ((503 + (9 * r3)) + 5) v6) 103 ((503 + (9 * r3)) + 6) v7) 103 ((503 + (9 * r3)) + 7) 0) 103 724)) hΓ dX12_adds_110 kd_103 lz_103 ⟨by decide, by decide⟩ rfl ?_
  refine a_iconst hΓ dX12_adds_111 ?_
  refine a_iadd hΓ dX12_adds_112 ?_
  refine a_iast hΓ dX12_adds_113 kd_103 lz_103 ⟨by decide, by decide⟩ ?_
  refine a_iload hΓ 1 dX12_adds_114 rfl ?_
  exact a_iret hΓ hr dX12_adds_116 ⟨_, _, rfl, rfl, h⟩
theorem ct_wX12_adds (l : Launch) (g : Gp) (v1 : Int) (v2 : Int) (v3 : Int) (v4 : Int) (v5 : Int) (v6 : Int) (v7 : Int) (M : Mm) (Q : Int → Mm → Prop) (h : wX12_adds v1 v2 v3 v4 v5 v6 v7 M Q) : Ct l g yX12_adds cX12_adds 10 (some .int) 2 0 0 [aR 102, aI v1, aI v2, aI v3, aI v4, aI v5, aI v6, aI v7] (NC, RF, M) (QI Q) :=
  ct_of (by decide) (Nat.le_of_ble_eq_true rfl) (fun Γ hg hl hr _ hΓ => by subst hg; subst hl; exact s_wX12_adds hΓ (by decide) hr v1 v2 v3 v4 v5 v6 v7 M h)
